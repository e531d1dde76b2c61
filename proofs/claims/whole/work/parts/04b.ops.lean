theorem be_st0 {sg : Nat → Int32} {L n : Int32} {a b : Nat} {pos fl bits oc : Int32} {reg sv ov : Nat → Int32} : be_st sg L (nI 0) a b n (pos, reg, fl, bits, sv, oc, ov) = (pos + 1, upd reg a n, fl, bits, sv, oc, ov) := by
  unfold be_st
  dsimp only
  rw [if_pos (show nI 0 = 0 by decide)]
theorem be_st1 {sg : Nat → Int32} {L n : Int32} {a b : Nat} {pos fl bits oc : Int32} {reg sv ov : Nat → Int32} : be_st sg L (nI 1) a b n (pos, reg, fl, bits, sv, oc, ov) = (pos + 1, upd reg a (reg a + reg b), fl, bits, sv, oc, ov) := by
  unfold be_st
  dsimp only
  rw [if_neg (show ¬ nI 1 = 0 by decide), if_pos (show nI 1 = 1 by decide)]
theorem be_st2 {sg : Nat → Int32} {L n : Int32} {a b : Nat} {pos fl bits oc : Int32} {reg sv ov : Nat → Int32} : be_st sg L (nI 2) a b n (pos, reg, fl, bits, sv, oc, ov) = (pos + 1, upd reg a (reg a - reg b), fl, bits, sv, oc, ov) := by
  unfold be_st
  dsimp only
  rw [if_neg (show ¬ nI 2 = 0 by decide), if_neg (show ¬ nI 2 = 1 by decide), if_pos (show nI 2 = 2 by decide)]
theorem be_st3 {sg : Nat → Int32} {L n : Int32} {a b : Nat} {pos fl bits oc : Int32} {reg sv ov : Nat → Int32} : be_st sg L (nI 3) a b n (pos, reg, fl, bits, sv, oc, ov) = (pos + 1, upd reg a (be_rd sg bits sv (n &&& 15).toNatClampNeg), fl, bits, sv, oc, ov) := by
  unfold be_st
  dsimp only
  rw [if_neg (show ¬ nI 3 = 0 by decide), if_neg (show ¬ nI 3 = 1 by decide), if_neg (show ¬ nI 3 = 2 by decide), if_pos (show nI 3 = 3 by decide)]
theorem be_st4 {sg : Nat → Int32} {L n : Int32} {a b : Nat} {pos fl bits oc : Int32} {reg sv ov : Nat → Int32} : be_st sg L (nI 4) a b n (pos, reg, fl, bits, sv, oc, ov) = (pos + 1, reg, fl, be_set bits (n &&& 15), upd sv (n &&& 15).toNatClampNeg (reg a), oc, ov) := by
  unfold be_st
  dsimp only
  rw [if_neg (show ¬ nI 4 = 0 by decide), if_neg (show ¬ nI 4 = 1 by decide), if_neg (show ¬ nI 4 = 2 by decide), if_neg (show ¬ nI 4 = 3 by decide), if_pos (show nI 4 = 4 by decide)]
theorem be_st5 {sg : Nat → Int32} {L n : Int32} {a b : Nat} {pos fl bits oc : Int32} {reg sv ov : Nat → Int32} : be_st sg L (nI 5) a b n (pos, reg, fl, bits, sv, oc, ov) = (pos + 1, upd reg a (reg a * reg b), fl, bits, sv, oc, ov) := by
  unfold be_st
  dsimp only
  rw [if_neg (show ¬ nI 5 = 0 by decide), if_neg (show ¬ nI 5 = 1 by decide), if_neg (show ¬ nI 5 = 2 by decide), if_neg (show ¬ nI 5 = 3 by decide), if_neg (show ¬ nI 5 = 4 by decide), if_pos (show nI 5 = 5 by decide)]
theorem be_st6 {sg : Nat → Int32} {L n : Int32} {a b : Nat} {pos fl bits oc : Int32} {reg sv ov : Nat → Int32} : be_st sg L (nI 6) a b n (pos, reg, fl, bits, sv, oc, ov) = (if reg b ≤ reg a then (pos + 1, reg, fl, bits, sv, oc, ov) else (pos + 1 + 1, reg, fl, bits, sv, oc, ov)) := by
  unfold be_st
  dsimp only
  rw [if_neg (show ¬ nI 6 = 0 by decide), if_neg (show ¬ nI 6 = 1 by decide), if_neg (show ¬ nI 6 = 2 by decide), if_neg (show ¬ nI 6 = 3 by decide), if_neg (show ¬ nI 6 = 4 by decide), if_neg (show ¬ nI 6 = 5 by decide), if_pos (show nI 6 = 6 by decide)]
theorem be_st7 {sg : Nat → Int32} {L n : Int32} {a b : Nat} {pos fl bits oc : Int32} {reg sv ov : Nat → Int32} : be_st sg L (nI 7) a b n (pos, reg, fl, bits, sv, oc, ov) = (if n ≤ reg a then (pos + 1, reg, fl, bits, sv, oc, ov) else (L, reg, 1, 0, sv, 0, ov)) := by
  unfold be_st
  dsimp only
  rw [if_neg (show ¬ nI 7 = 0 by decide), if_neg (show ¬ nI 7 = 1 by decide), if_neg (show ¬ nI 7 = 2 by decide), if_neg (show ¬ nI 7 = 3 by decide), if_neg (show ¬ nI 7 = 4 by decide), if_neg (show ¬ nI 7 = 5 by decide), if_neg (show ¬ nI 7 = 6 by decide), if_pos (show nI 7 = 7 by decide)]
theorem be_st8 {sg : Nat → Int32} {L n : Int32} {a b : Nat} {pos fl bits oc : Int32} {reg sv ov : Nat → Int32} : be_st sg L (nI 8) a b n (pos, reg, fl, bits, sv, oc, ov) = (if 12 ≤ oc then (pos + 1, reg, fl, bits, sv, oc, ov) else (pos + 1, reg, fl, bits, sv, oc + 1, upd ov oc.toNatClampNeg (reg a))) := by
  unfold be_st
  dsimp only
  rw [if_neg (show ¬ nI 8 = 0 by decide), if_neg (show ¬ nI 8 = 1 by decide), if_neg (show ¬ nI 8 = 2 by decide), if_neg (show ¬ nI 8 = 3 by decide), if_neg (show ¬ nI 8 = 4 by decide), if_neg (show ¬ nI 8 = 5 by decide), if_neg (show ¬ nI 8 = 6 by decide), if_neg (show ¬ nI 8 = 7 by decide), if_pos (show nI 8 = 8 by decide)]
theorem be_st9 {sg : Nat → Int32} {L n : Int32} {a b : Nat} {pos fl bits oc : Int32} {reg sv ov : Nat → Int32} : be_st sg L (nI 9) a b n (pos, reg, fl, bits, sv, oc, ov) = (pos + 1, upd reg a (be_rd sg bits sv (reg b &&& 15).toNatClampNeg), fl, bits, sv, oc, ov) := by
  unfold be_st
  dsimp only
  rw [if_neg (show ¬ nI 9 = 0 by decide), if_neg (show ¬ nI 9 = 1 by decide), if_neg (show ¬ nI 9 = 2 by decide), if_neg (show ¬ nI 9 = 3 by decide), if_neg (show ¬ nI 9 = 4 by decide), if_neg (show ¬ nI 9 = 5 by decide), if_neg (show ¬ nI 9 = 6 by decide), if_neg (show ¬ nI 9 = 7 by decide), if_neg (show ¬ nI 9 = 8 by decide), if_pos (show nI 9 = 9 by decide)]
theorem be_st10 {sg : Nat → Int32} {L n : Int32} {a b : Nat} {pos fl bits oc : Int32} {reg sv ov : Nat → Int32} : be_st sg L (nI 10) a b n (pos, reg, fl, bits, sv, oc, ov) = (pos + 1, reg, fl, be_set bits (reg b &&& 15), upd sv (reg b &&& 15).toNatClampNeg (reg a), oc, ov) := by
  unfold be_st
  dsimp only
  rw [if_neg (show ¬ nI 10 = 0 by decide), if_neg (show ¬ nI 10 = 1 by decide), if_neg (show ¬ nI 10 = 2 by decide), if_neg (show ¬ nI 10 = 3 by decide), if_neg (show ¬ nI 10 = 4 by decide), if_neg (show ¬ nI 10 = 5 by decide), if_neg (show ¬ nI 10 = 6 by decide), if_neg (show ¬ nI 10 = 7 by decide), if_neg (show ¬ nI 10 = 8 by decide), if_neg (show ¬ nI 10 = 9 by decide), if_pos (show nI 10 = 10 by decide)]
theorem be_st11 {sg : Nat → Int32} {L n : Int32} {a b : Nat} {pos fl bits oc : Int32} {reg sv ov : Nat → Int32} : be_st sg L (nI 11) a b n (pos, reg, fl, bits, sv, oc, ov) = (L, reg, fl, bits, sv, oc, ov) := by
  unfold be_st
  dsimp only
  rw [if_neg (show ¬ nI 11 = 0 by decide), if_neg (show ¬ nI 11 = 1 by decide), if_neg (show ¬ nI 11 = 2 by decide), if_neg (show ¬ nI 11 = 3 by decide), if_neg (show ¬ nI 11 = 4 by decide), if_neg (show ¬ nI 11 = 5 by decide), if_neg (show ¬ nI 11 = 6 by decide), if_neg (show ¬ nI 11 = 7 by decide), if_neg (show ¬ nI 11 = 8 by decide), if_neg (show ¬ nI 11 = 9 by decide), if_neg (show ¬ nI 11 = 10 by decide)]
