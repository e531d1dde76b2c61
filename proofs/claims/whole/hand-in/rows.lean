section
theorem pk_us {f : Nat → Int32} {k : Nat} {x : Int32} : upd f k x k = x := if_pos rfl
theorem pk_un {f : Nat → Int32} {k j : Nat} {x : Int32} (h : j ≠ k) : upd f k x j = f j := if_neg h
theorem pk_sub {a b : Nat} (h : b ≤ a) : nI a - nI b = nI (a - b) := by
  obtain ⟨c, rfl⟩ : ∃ c, a = c + b := ⟨a - b, by omega⟩
  rw [← nI_add, Int32.add_sub_cancel, Nat.add_sub_cancel]
theorem pk_m1 (n : Nat) : nI (n + 1) + (-1) = nI n := by
  rw [← nI_1, Int32.add_assoc, show (1 : Int32) + (-1) = 0 from rfl, Int32.add_zero]
theorem pk_mul (a b : Nat) : nI a * nI b = nI (a * b) := (Int32.ofNat_mul a b).symm
theorem pk_div {a d : Nat} (ha : a < 2 ^ 31) (h0 : 0 < d) (hd : d < 2 ^ 31) : nI a / nI d = nI (a / d) := by
  apply Int32.toInt_inj.mp
  rw [lg_idiv_nonneg (by rw [nI_toInt ha]; omega) (by rw [nI_toInt hd]; omega), nI_toInt ha, nI_toInt hd, nI_toInt (Nat.lt_of_le_of_lt (Nat.div_le_self a d) ha)]
  first | rfl | exact (Int.natCast_ediv _ _).symm
theorem pk_rem {a d : Nat} (ha : a < 2 ^ 31) (h0 : 0 < d) (hd : d < 2 ^ 31) : nI a - nI a / nI d * nI d = nI (a % d) := by
  rw [pk_div ha h0 hd, pk_mul, pk_sub (Nat.div_mul_le_self a d)]
  exact congrArg nI (by have := Nat.div_add_mod' a d; omega)
theorem pk_ix (x : Int32) {n : Nat} (hn : n < 2 ^ 31) : x < 0 ∨ nI n ≤ x ∨ ∃ j : Nat, j < n ∧ x = nI j := by
  by_cases h : x < 0
  · exact Or.inl h
  · obtain ⟨j, hj, rfl⟩ := nI_of h
    by_cases h2 : j < n
    · exact Or.inr (Or.inr ⟨j, h2, rfl⟩)
    · exact Or.inr (Or.inl (nI_le (by omega) hj))
theorem pk_le {x y : Int32} {A B : Prop} (a b : Nat) (f : a ≤ b → A) (g : b < a → B) (hx : x = nI a := by rfl) (hy : y = nI b := by rfl) (ha : a < 2 ^ 31 := by omega) (hb : b < 2 ^ 31 := by omega) : (x ≤ y → A) ∧ (¬ x ≤ y → B) := by
  subst hx hy
  rw [nI_leI ha hb]
  exact ⟨f, fun z => g (by omega)⟩
theorem pk_lt {x y : Int32} {A B : Prop} (a b : Nat) (f : a < b → A) (g : b ≤ a → B) (hx : x = nI a := by rfl) (hy : y = nI b := by rfl) (ha : a < 2 ^ 31 := by omega) (hb : b < 2 ^ 31 := by omega) : (x < y → A) ∧ (¬ x < y → B) := by
  subst hx hy
  rw [nI_ltI ha hb]
  exact ⟨f, fun z => g (by omega)⟩
theorem pk_eq {x y : Int32} {A B : Prop} (a b : Nat) (f : a = b → A) (g : a ≠ b → B) (hx : x = nI a := by rfl) (hy : y = nI b := by rfl) (ha : a < 2 ^ 31 := by omega) (hb : b < 2 ^ 31 := by omega) : (x = y → A) ∧ (¬ x = y → B) := by
  subst hx hy
  rw [nI_eq ha hb]
  exact ⟨f, g⟩
theorem pk_in {x : Int32} (n N : Nat) (h : n < N) (hx : x = nI n := by rfl) (hN : N < 2 ^ 31 := by omega) : vp_in x N := by
  subst hx
  exact vp_in_nI h hN
theorem pk_cl {x : Int32} (n : Nat) (hx : x = nI n := by rfl) (h : n < 2 ^ 31 := by omega) : x.toNatClampNeg = n := by
  subst hx
  exact nI_clamp h
theorem pk_tn {n : Nat} (h : n < 2 ^ 32) : (nI n).toBitVec.toNat = n := Nat.mod_eq_of_lt h
theorem pk_and (x : Int32) {m : Int32} (k : Nat) (hm : m.toBitVec.toNat = 2 ^ k - 1) : x &&& m = nI (x.toBitVec.toNat % 2 ^ k) := by
  apply Int32.toBitVec_inj.mp
  apply BitVec.eq_of_toNat_eq
  rw [Int32.toBitVec_and, BitVec.toNat_and, hm, Nat.and_two_pow_sub_one_eq_mod]
  show _ = (BitVec.ofNat 32 _).toNat
  rw [BitVec.toNat_ofNat]
  exact (Nat.mod_eq_of_lt (Nat.lt_of_le_of_lt (Nat.mod_le _ _) x.toBitVec.isLt)).symm
theorem pk_andN {n : Nat} (h : n < 2 ^ 32) {m : Int32} (k : Nat) (hm : m.toBitVec.toNat = 2 ^ k - 1) : nI n &&& m = nI (n % 2 ^ k) := by
  rw [pk_and _ k hm, pk_tn h]
theorem pk_andE (x : Int32) {m : Int32} (k : Nat) (hm : m.toBitVec.toNat = 2 ^ k - 1) : ∃ j : Nat, j < 2 ^ k ∧ x &&& m = nI j := ⟨_, Nat.mod_lt _ (Nat.two_pow_pos k), pk_and x k hm⟩
theorem pk_shr (a s : Int32) (k : Nat) (hs : (s.toBitVec.smod 32).toNat = k) : (a >>> s).toInt = a.toInt >>> k := by
  show (a.toBitVec.sshiftRight (s.toBitVec.smod 32).toNat).toInt = _
  rw [hs, BitVec.toInt_sshiftRight]
  rfl
theorem pk_shrN {n : Nat} (h : n < 2 ^ 31) (s : Int32) (k : Nat) (hs : (s.toBitVec.smod 32).toNat = k) : nI n >>> s = nI (n / 2 ^ k) := by
  apply Int32.toInt_inj.mp
  have h2 : n / 2 ^ k ≤ n := Nat.div_le_self _ _
  rw [pk_shr _ _ k hs, nI_toInt h, nI_toInt (by omega), Int.shiftRight_eq_div_pow]
  rfl
def bt (x : Int32) (i : Nat) : Bool := x.toBitVec.getLsbD i
theorem b_ext {x y : Int32} (h : ∀ i, i < 32 → bt x i = bt y i) : x = y := Int32.toBitVec_inj.mp (BitVec.eq_of_getLsbD_eq (fun i hi => h i hi))
theorem b_or (x y : Int32) (i : Nat) : bt (x ||| y) i = (bt x i || bt y i) := by unfold bt; rw [Int32.toBitVec_or, BitVec.getLsbD_or]
theorem b_and (x y : Int32) (i : Nat) : bt (x &&& y) i = (bt x i && bt y i) := by unfold bt; rw [Int32.toBitVec_and, BitVec.getLsbD_and]
theorem b_0 (i : Nat) : bt 0 i = false := BitVec.getLsbD_zero
theorem s_l : ∀ n, n < 32 → ((nI n &&& 31).toBitVec.smod 32).toNat = n := by decide +kernel
theorem b_shl (n : Nat) (hn : n < 32) (x : Int32) {i : Nat} (hi : i < 32) : bt (x <<< (nI n &&& 31)) i = (decide (n ≤ i) && bt x (i - n)) := by
  unfold bt
  rw [Int32.toBitVec_shiftLeft]
  show (x.toBitVec <<< ((nI n &&& 31).toBitVec.smod 32).toNat).getLsbD i = _
  rw [s_l n hn, BitVec.getLsbD_shiftLeft]
  rcases Nat.lt_or_ge i n with h | h
  · simp [h, Nat.not_le.mpr h]
  · simp [hi, h, Nat.not_lt.mpr h]
theorem b_sshr (n : Nat) (hn : n < 32) (x : Int32) {i : Nat} (hi : i < 32) : bt (x >>> (nI n &&& 31)) i = if n + i < 32 then bt x (n + i) else bt x 31 := by
  unfold bt
  rw [Int32.toBitVec_shiftRight]
  show (x.toBitVec.sshiftRight ((nI n &&& 31).toBitVec.smod 32).toNat).getLsbD i = _
  rw [s_l n hn, BitVec.getLsbD_sshiftRight, BitVec.msb_eq_getLsbD_last]
  simp [hi]
end
section
/-! bits -/
theorem be_1 : ∀ i, i < 32 → bt 1 i = decide (i = 0) := by decide +kernel
theorem be_and1 (x : Int32) : (x &&& 1) = 0 ↔ bt x 0 = false := by
  constructor
  · intro h
    have h2 : bt (x &&& 1) 0 = bt 0 0 := by rw [h]
    rw [b_and, b_0, be_1 0 (by omega)] at h2
    simpa using h2
  · intro h
    refine b_ext fun i hi => ?_
    rw [b_and, b_0, be_1 i hi]
    by_cases e : i = 0
    · subst e; rw [h]; rfl
    · rw [decide_eq_false e, Bool.and_false]
theorem be_tst (x : Int32) {c : Nat} (hc : c < 16) : ((x >>> (nI c &&& 31)) &&& 1) = 0 ↔ bt x c = false := by
  rw [be_and1, b_sshr c (by omega) x (by omega), if_pos (by omega), Nat.add_zero]
theorem be_sh {c i : Nat} (hc : c < 32) (hi : i < 32) : bt ((1 : Int32) <<< (nI c &&& 31)) i = decide (i = c) := by
  rw [b_shl c hc 1 hi, be_1 (i - c) (by omega)]
  by_cases h : i = c
  · subst h; simp
  · rw [decide_eq_false h]
    by_cases h2 : c ≤ i
    · rw [decide_eq_false (p := i - c = 0) (by omega), Bool.and_false]
    · rw [decide_eq_false h2, Bool.false_and]
theorem be_msk (x : Int32) {c : Nat} (hc : c < 16) : (x &&& ((1 : Int32) <<< (nI c &&& 31))) = 0 ↔ bt x c = false := by
  constructor
  · intro h
    have h2 : bt (x &&& ((1 : Int32) <<< (nI c &&& 31))) c = bt 0 c := by rw [h]
    rw [b_and, b_0, be_sh (by omega) (by omega)] at h2
    simpa using h2
  · intro h
    refine b_ext fun i hi => ?_
    rw [b_and, b_0, be_sh (by omega) hi]
    by_cases e : i = c
    · subst e; rw [h]; rfl
    · rw [decide_eq_false e, Bool.and_false]
def be_set (x c : Int32) : Int32 := x ||| ((1 : Int32) <<< (c &&& 31))
theorem be_orb (x : Int32) {c j : Nat} (hc : c < 16) (hj : j < 16) : bt (be_set x (nI c)) j = (bt x j || decide (j = c)) := by
  unfold be_set
  rw [b_or, be_sh (by omega) (by omega)]
theorem be_m15 (x : Int32) : ∃ c : Nat, c < 16 ∧ x &&& 15 = nI c := pk_andE x 4 (by decide)
theorem be_m7 (x : Int32) : ∃ c : Nat, c < 8 ∧ x &&& 7 = nI c := pk_andE x 3 (by decide)
theorem be_b0 : vp_nar .boolean 0 = 0 := by decide
theorem be_b1 : vp_nar .boolean 1 = 1 := by decide
theorem be_ix (w t a : Nat) : nI t * nI w + nI a = nI (w * t + a) := by rw [pk_mul, nI_add, Nat.mul_comm]
theorem be_iy (w t a : Nat) : nI w * nI t + nI a = nI (w * t + a) := by rw [pk_mul, nI_add]
theorem be_bf {x : Bool} (h : ¬ x = false) : x = true := by cases x <;> simp_all
/-! slices of the arrays: width w, transaction t -/
def be_sl (a : Nat → Int32) (w t : Nat) : Nat → Int32 := fun i => if i < w then a (w * t + i) else 0
theorem be_sla {a : Nat → Int32} {w t i : Nat} (h : i < w) : be_sl a w t i = a (w * t + i) := if_pos h
theorem be_slu {a : Nat → Int32} {w t i : Nat} {x : Int32} (hi : i < w) : be_sl (upd a (w * t + i) x) w t = upd (be_sl a w t) i x := by
  funext j
  unfold be_sl upd
  by_cases h : j = i
  · subst h; simp [hi]
  · by_cases h2 : j < w
    · have h3 : ¬ w * t + j = w * t + i := by omega
      simp [h, h2, h3]
    · simp [h, h2]
theorem be_ne {w t t' i j : Nat} (hi : i < w) (hj : j < w) (ht : t' ≠ t) : ¬ w * t' + j = w * t + i := by
  intro e
  rcases Nat.lt_or_gt_of_ne ht with h | h
  · have h2 : w * (t' + 1) ≤ w * t := Nat.mul_le_mul_left w h
    rw [Nat.mul_add] at h2
    omega
  · have h2 : w * (t + 1) ≤ w * t' := Nat.mul_le_mul_left w h
    rw [Nat.mul_add] at h2
    omega
theorem be_slo {a : Nat → Int32} {w t t' i : Nat} {x : Int32} (hi : i < w) (ht : t' ≠ t) : be_sl (upd a (w * t + i) x) w t' = be_sl a w t' := by
  funext j
  unfold be_sl upd
  by_cases h2 : j < w
  · simp [h2, be_ne hi h2 ht]
  · simp [h2]
/-! the machine of one transaction: position, registers, failed, stored cells, stored values, outs, put out -/
abbrev be_S : Type := Int32 × (Nat → Int32) × Int32 × Int32 × (Nat → Int32) × Int32 × (Nat → Int32)
def be_rd (sg : Nat → Int32) (bits : Int32) (sv : Nat → Int32) (c : Nat) : Int32 := if bt bits c = true then sv c else sg c
def be_st (sg : Nat → Int32) (L op : Int32) (a b : Nat) (n : Int32) : be_S → be_S
  | (pos, reg, fl, bits, sv, oc, ov) =>
    if op = 0 then (pos + 1, upd reg a n, fl, bits, sv, oc, ov)
    else if op = 1 then (pos + 1, upd reg a (reg a + reg b), fl, bits, sv, oc, ov)
    else if op = 2 then (pos + 1, upd reg a (reg a - reg b), fl, bits, sv, oc, ov)
    else if op = 3 then (pos + 1, upd reg a (be_rd sg bits sv (n &&& 15).toNatClampNeg), fl, bits, sv, oc, ov)
    else if op = 4 then (pos + 1, reg, fl, be_set bits (n &&& 15), upd sv (n &&& 15).toNatClampNeg (reg a), oc, ov)
    else if op = 5 then (pos + 1, upd reg a (reg a * reg b), fl, bits, sv, oc, ov)
    else if op = 6 then (if reg b ≤ reg a then (pos + 1, reg, fl, bits, sv, oc, ov) else (pos + 1 + 1, reg, fl, bits, sv, oc, ov))
    else if op = 7 then (if n ≤ reg a then (pos + 1, reg, fl, bits, sv, oc, ov) else (L, reg, 1, 0, sv, 0, ov))
    else if op = 8 then (if 12 ≤ oc then (pos + 1, reg, fl, bits, sv, oc, ov) else (pos + 1, reg, fl, bits, sv, oc + 1, upd ov oc.toNatClampNeg (reg a)))
    else if op = 9 then (pos + 1, upd reg a (be_rd sg bits sv (reg b &&& 15).toNatClampNeg), fl, bits, sv, oc, ov)
    else if op = 10 then (pos + 1, reg, fl, be_set bits (reg b &&& 15), upd sv (reg b &&& 15).toNatClampNeg (reg a), oc, ov)
    else (L, reg, fl, bits, sv, oc, ov)
/-- the instruction at s's position, of transaction t -/
def be_in (sg ln cO cP cN : Nat → Int32) (t : Nat) (s : be_S) : be_S :=
  be_st sg (ln t) (cO (12 * t + s.1.toNatClampNeg)) ((cP (12 * t + s.1.toNatClampNeg)).toNatClampNeg / 4) ((cP (12 * t + s.1.toNatClampNeg)).toNatClampNeg % 4) (cN (12 * t + s.1.toNatClampNeg)) s
def be_ms (sg ln cO cP cN : Nat → Int32) (t : Nat) (s : be_S) : be_S := if s.1 < ln t then be_in sg ln cO cP cN t s else s
def be_it (f : be_S → be_S) : Nat → be_S → be_S
  | 0, s => s
  | k + 1, s => f (be_it f k s)
def be_c0 (sv ov : Nat → Int32) : be_S := (0, fun _ => 0, 0, 0, sv, 0, ov)
theorem be_ite {α : Type} {c : Prop} [Decidable c] {P : α → Prop} {x y : α} (h1 : P x) (h2 : P y) : P (if c then x else y) := by
  by_cases h : c
  · rw [if_pos h]; exact h1
  · rw [if_neg h]; exact h2
def be_BI (L : Int32) (s : be_S) : Prop :=
  match s with
  | (pos, _, fl, bits, _, oc, _) => ∃ p q : Nat, pos = nI p ∧ oc = nI q ∧ q ≤ p ∧ q ≤ 12 ∧ p ≤ 13 ∧ (fl = 0 ∨ (fl = 1 ∧ bits = 0 ∧ oc = 0 ∧ ¬ pos < L))
theorem be_bi0 (L : Int32) (sv ov : Nat → Int32) : be_BI L (be_c0 sv ov) := ⟨0, 0, rfl, rfl, by omega, by omega, by omega, Or.inl rfl⟩
theorem be_biS {sg : Nat → Int32} {L op n : Int32} {a b l : Nat} {s : be_S} (hL : L = nI l) (hl : l ≤ 12) (hs : s.1 < L) (h : be_BI L s) : be_BI L (be_st sg L op a b n s) := by
  obtain ⟨pos, reg, fl, bits, sv, oc, ov⟩ := s
  obtain ⟨p, q, rfl, rfl, hqp, hq, hp, hf⟩ := h
  have hpl : p < l := by
    have h2 : nI p < L := hs
    rw [hL, nI_ltI (by omega) (by omega)] at h2
    exact h2
  have hf0 : fl = 0 := by
    rcases hf with hf | hf
    · exact hf
    · exact absurd hs hf.2.2.2
  have e1 : nI p + 1 = nI (p + 1) := nI_1 p
  have e2 : nI p + 1 + 1 = nI (p + 2) := by rw [nI_1, nI_1]
  have H1 : ∀ (r : Nat → Int32) (bb : Int32) (w : Nat → Int32) (o : Nat → Int32), be_BI L (nI p + 1, r, fl, bb, w, nI q, o) := fun r bb w o => ⟨p + 1, q, e1, rfl, by omega, by omega, by omega, Or.inl hf0⟩
  unfold be_st
  dsimp only
  refine be_ite (P := be_BI L) (H1 _ _ _ _) ?_
  refine be_ite (P := be_BI L) (H1 _ _ _ _) ?_
  refine be_ite (P := be_BI L) (H1 _ _ _ _) ?_
  refine be_ite (P := be_BI L) (H1 _ _ _ _) ?_
  refine be_ite (P := be_BI L) (H1 _ _ _ _) ?_
  refine be_ite (P := be_BI L) (H1 _ _ _ _) ?_
  refine be_ite (P := be_BI L) (be_ite (P := be_BI L) (H1 _ _ _ _) ⟨p + 2, q, e2, rfl, by omega, by omega, by omega, Or.inl hf0⟩) ?_
  refine be_ite (P := be_BI L) (be_ite (P := be_BI L) (H1 _ _ _ _) ⟨l, 0, hL, rfl, by omega, by omega, by omega, Or.inr ⟨rfl, rfl, rfl, Int32.lt_irrefl⟩⟩) ?_
  refine be_ite (P := be_BI L) ?_ ?_
  · by_cases z : 12 ≤ nI q
    · rw [if_pos z]
      exact H1 _ _ _ _
    · rw [if_neg z]
      have z2 : q < 12 := by
        by_cases z3 : q < 12
        · exact z3
        · exact absurd (nI_le (a := 12) (b := q) (by omega) (by omega)) z
      exact ⟨p + 1, q + 1, e1, nI_1 q, by omega, by omega, by omega, Or.inl hf0⟩
  refine be_ite (P := be_BI L) (H1 _ _ _ _) ?_
  refine be_ite (P := be_BI L) (H1 _ _ _ _) ?_
  exact ⟨l, q, hL, rfl, by omega, by omega, by omega, Or.inl hf0⟩
/-- an instruction goes on: the position grows -/
theorem be_grow {sg : Nat → Int32} {L op n : Int32} {a b l p : Nat} {s : be_S} (hL : L = nI l) (hl : l ≤ 12) (hp : s.1 = nI p) (hpl : p < l) : ∃ p', (be_st sg L op a b n s).1 = nI p' ∧ p < p' ∧ p' ≤ 13 := by
  obtain ⟨pos, reg, fl, bits, sv, oc, ov⟩ := s
  have hp' : pos = nI p := hp
  subst hp'
  have e1 : nI p + 1 = nI (p + 1) := nI_1 p
  have e2 : nI p + 1 + 1 = nI (p + 2) := by rw [nI_1, nI_1]
  have H1 : ∃ p', nI p + 1 = nI p' ∧ p < p' ∧ p' ≤ 13 := ⟨p + 1, e1, by omega, by omega⟩
  have H2 : ∃ p', nI p + 1 + 1 = nI p' ∧ p < p' ∧ p' ≤ 13 := ⟨p + 2, e2, by omega, by omega⟩
  have HL : ∃ p', L = nI p' ∧ p < p' ∧ p' ≤ 13 := ⟨l, hL, by omega, by omega⟩
  unfold be_st
  dsimp only
  refine be_ite (P := fun s : be_S => ∃ p', s.1 = nI p' ∧ p < p' ∧ p' ≤ 13) H1 ?_
  refine be_ite (P := fun s : be_S => ∃ p', s.1 = nI p' ∧ p < p' ∧ p' ≤ 13) H1 ?_
  refine be_ite (P := fun s : be_S => ∃ p', s.1 = nI p' ∧ p < p' ∧ p' ≤ 13) H1 ?_
  refine be_ite (P := fun s : be_S => ∃ p', s.1 = nI p' ∧ p < p' ∧ p' ≤ 13) H1 ?_
  refine be_ite (P := fun s : be_S => ∃ p', s.1 = nI p' ∧ p < p' ∧ p' ≤ 13) H1 ?_
  refine be_ite (P := fun s : be_S => ∃ p', s.1 = nI p' ∧ p < p' ∧ p' ≤ 13) H1 ?_
  refine be_ite (P := fun s : be_S => ∃ p', s.1 = nI p' ∧ p < p' ∧ p' ≤ 13) (be_ite (P := fun s : be_S => ∃ p', s.1 = nI p' ∧ p < p' ∧ p' ≤ 13) H1 H2) ?_
  refine be_ite (P := fun s : be_S => ∃ p', s.1 = nI p' ∧ p < p' ∧ p' ≤ 13) (be_ite (P := fun s : be_S => ∃ p', s.1 = nI p' ∧ p < p' ∧ p' ≤ 13) H1 HL) ?_
  refine be_ite (P := fun s : be_S => ∃ p', s.1 = nI p' ∧ p < p' ∧ p' ≤ 13) (be_ite (P := fun s : be_S => ∃ p', s.1 = nI p' ∧ p < p' ∧ p' ≤ 13) H1 H1) ?_
  refine be_ite (P := fun s : be_S => ∃ p', s.1 = nI p' ∧ p < p' ∧ p' ≤ 13) H1 ?_
  exact be_ite (P := fun s : be_S => ∃ p', s.1 = nI p' ∧ p < p' ∧ p' ≤ 13) H1 HL
theorem be_biM {sg ln cO cP cN : Nat → Int32} {t l : Nat} {s : be_S} (hL : ln t = nI l) (hl : l ≤ 12) (h : be_BI (ln t) s) : be_BI (ln t) (be_ms sg ln cO cP cN t s) := by
  unfold be_ms
  split
  · exact be_biS hL hl (by assumption) h
  · exact h
theorem be_biI {sg ln cO cP cN sv ov : Nat → Int32} {t l : Nat} (hL : ln t = nI l) (hl : l ≤ 12) : ∀ k, be_BI (ln t) (be_it (be_ms sg ln cO cP cN t) k (be_c0 sv ov))
  | 0 => be_bi0 _ _ _
  | k + 1 => be_biM hL hl (be_biI hL hl k)
/-! the transactions' arrays -/
abbrev be_A : Type := (Nat → Int32) × (Nat → Int32) × (Nat → Int32) × (Nat → Int32) × (Nat → Int32) × (Nat → Int32) × (Nat → Int32) × (Nat → Int32) × (Nat → Int32)
def be_xs (A : be_A) (t : Nat) : be_S := match A with
  | (ps, rg, fl, _, _, sc, sv, oc, ov) => (ps t, be_sl rg 4 t, fl t, sc t, be_sl sv 16 t, oc t, be_sl ov 12 t)
abbrev be_ps (A : be_A) : Nat → Int32 := A.1
abbrev be_fl (A : be_A) : Nat → Int32 := A.2.2.1
abbrev be_sn (A : be_A) : Nat → Int32 := A.2.2.2.1
abbrev be_sV (A : be_A) : Nat → Int32 := A.2.2.2.2.1
abbrev be_sc (A : be_A) : Nat → Int32 := A.2.2.2.2.2.1
abbrev be_sv (A : be_A) : Nat → Int32 := A.2.2.2.2.2.2.1
abbrev be_oc (A : be_A) : Nat → Int32 := A.2.2.2.2.2.2.2.1
abbrev be_ov (A : be_A) : Nat → Int32 := A.2.2.2.2.2.2.2.2
/-- the store sg agrees with what transaction t has seen -/
def be_Ag (sn sV : Nat → Int32) (t : Nat) (sg : Nat → Int32) : Prop := ∀ c, c < 16 → bt (sn t) c = true → sg c = sV (16 * t + c)
def be_Eq (A A' : be_A) (t : Nat) : Prop := be_xs A' t = be_xs A t ∧ be_sn A' t = be_sn A t ∧ be_sl (be_sV A') 16 t = be_sl (be_sV A) 16 t
theorem be_eqr (A : be_A) (t : Nat) : be_Eq A A t := ⟨rfl, rfl, rfl⟩
theorem be_eqi {ps rg fl sn sV sc sv oc ov ps' rg' fl' sn' sV' sc' sv' oc' ov' : Nat → Int32} {t : Nat} (h1 : ps' t = ps t) (h2 : be_sl rg' 4 t = be_sl rg 4 t) (h3 : fl' t = fl t) (h4 : sn' t = sn t) (h5 : be_sl sV' 16 t = be_sl sV 16 t) (h6 : sc' t = sc t) (h7 : be_sl sv' 16 t = be_sl sv 16 t) (h8 : oc' t = oc t) (h9 : be_sl ov' 12 t = be_sl ov 12 t) : be_Eq (ps, rg, fl, sn, sV, sc, sv, oc, ov) (ps', rg', fl', sn', sV', sc', sv', oc', ov') t := by
  refine ⟨?_, h4, h5⟩
  show (ps' t, be_sl rg' 4 t, fl' t, sc' t, be_sl sv' 16 t, oc' t, be_sl ov' 12 t) = (ps t, be_sl rg 4 t, fl t, sc t, be_sl sv 16 t, oc t, be_sl ov 12 t)
  rw [h1, h2, h3, h6, h7, h8, h9]
theorem be_agE {A A' : be_A} {t : Nat} (h : be_Eq A A' t) (sg : Nat → Int32) : be_Ag (be_sn A') (be_sV A') t sg ↔ be_Ag (be_sn A) (be_sV A) t sg := by
  have h5 : ∀ c, c < 16 → be_sV A' (16 * t + c) = be_sV A (16 * t + c) := fun c hc => by
    rw [← be_sla (a := be_sV A') hc, ← be_sla (a := be_sV A) hc, h.2.2]
  constructor
  · intro g c hc hb
    rw [← h5 c hc]
    exact g c hc (by rw [h.2.1]; exact hb)
  · intro g c hc hb
    rw [h5 c hc]
    exact g c hc (by rw [← h.2.1]; exact hb)
theorem be_eqps {A A' : be_A} {t : Nat} (h : be_Eq A A' t) : be_ps A' t = be_ps A t := congrArg (fun s : be_S => s.1) h.1
theorem be_eqfl {A A' : be_A} {t : Nat} (h : be_Eq A A' t) : be_fl A' t = be_fl A t := congrArg (fun s : be_S => s.2.2.1) h.1
theorem be_eqsc {A A' : be_A} {t : Nat} (h : be_Eq A A' t) : be_sc A' t = be_sc A t := congrArg (fun s : be_S => s.2.2.2.1) h.1
theorem be_eqsv {A A' : be_A} {t : Nat} (h : be_Eq A A' t) : be_sl (be_sv A') 16 t = be_sl (be_sv A) 16 t := congrArg (fun s : be_S => s.2.2.2.2.1) h.1
theorem be_eqoc {A A' : be_A} {t : Nat} (h : be_Eq A A' t) : be_oc A' t = be_oc A t := congrArg (fun s : be_S => s.2.2.2.2.2.1) h.1
/-- what a transaction finds in cell c: the last one before it that has been carried out and has stored there -/
def be_vb (st sc sv bf : Nat → Int32) : Nat → Nat → Int32
  | 0, c => bf c
  | t + 1, c => if ¬ st t < 2 then be_rd (be_vb st sc sv bf t) (sc t) (be_sl sv 16 t) c else be_vb st sc sv bf t c
theorem be_vbc {st st' sc sc' sv sv' bf : Nat → Int32} : ∀ t : Nat, (∀ u, u < t → (st' u < 2 ↔ st u < 2) ∧ sc' u = sc u ∧ be_sl sv' 16 u = be_sl sv 16 u) → be_vb st' sc' sv' bf t = be_vb st sc sv bf t
  | 0, _ => rfl
  | t + 1, h => by
    funext c
    have ih := be_vbc (bf := bf) t (fun u hu => h u (by omega))
    have h1 := h t (by omega)
    unfold be_vb
    rw [ih, h1.2.1, h1.2.2]
    by_cases z : st t < 2
    · rw [if_neg (fun q : ¬ st' t < 2 => q (h1.1.mpr z)), if_neg (fun q : ¬ st t < 2 => q z)]
    · rw [if_pos (fun q : st' t < 2 => z (h1.1.mp q)), if_pos z]
/-! sums -/
def be_sm (f : Nat → Nat) : Nat → Nat
  | 0 => 0
  | n + 1 => be_sm f n + f n
theorem be_sme {f g : Nat → Nat} : ∀ n, (∀ i, i < n → f i = g i) → be_sm f n = be_sm g n
  | 0, _ => rfl
  | n + 1, h => by
    show be_sm f n + f n = be_sm g n + g n
    rw [be_sme n (fun i hi => h i (by omega)), h n (by omega)]
theorem be_sm1 {f g : Nat → Nat} {t : Nat} : ∀ n, t < n → (∀ i, i ≠ t → f i = g i) → be_sm f n + g t = be_sm g n + f t
  | 0, h, _ => absurd h (Nat.not_lt_zero _)
  | n + 1, h, e => by
    show be_sm f n + f n + g t = be_sm g n + g n + f t
    by_cases z : t = n
    · subst z
      rw [be_sme t (fun i hi => e i (by omega))]
      omega
    · have ih := be_sm1 n (by omega) e
      rw [e n (fun q => z q.symm)]
      omega
theorem be_smb {f : Nat → Nat} {b : Nat} (h : ∀ i, f i ≤ b) : ∀ n, be_sm f n ≤ b * n
  | 0 => by show 0 ≤ _; omega
  | n + 1 => by
    have ih := be_smb h n
    have h2 := h n
    show be_sm f n + f n ≤ b * (n + 1)
    rw [Nat.mul_add]
    omega
end
section
/-! valueBefore -/
theorem be_vs1 {st sc sv bf : Nat → Int32} {t c : Nat} (z : st t < 2) : be_vb st sc sv bf (t + 1) c = be_vb st sc sv bf t c := by
  show (if ¬ st t < 2 then _ else _) = _
  rw [if_neg (fun q => q z)]
theorem be_vs2 {st sc sv bf : Nat → Int32} {t c : Nat} (z : ¬ st t < 2) (zb : ¬ bt (sc t) c = true) : be_vb st sc sv bf (t + 1) c = be_vb st sc sv bf t c := by
  show (if ¬ st t < 2 then (if bt (sc t) c = true then be_sl sv 16 t c else be_vb st sc sv bf t c) else _) = _
  rw [if_pos z, if_neg zb]
theorem be_vs3 {st sc sv bf : Nat → Int32} {t c : Nat} (hc : c < 16) (z : ¬ st t < 2) (zb : bt (sc t) c = true) : be_vb st sc sv bf (t + 1) c = sv (16 * t + c) := by
  show (if ¬ st t < 2 then (if bt (sc t) c = true then be_sl sv 16 t c else be_vb st sc sv bf t c) else _) = _
  rw [if_pos z, if_pos zb, be_sla hc]
theorem be_m1 (x : Int32) : x + (-1) = x - 1 := (Int32.sub_eq_add_neg x 1).symm
theorem be_i16 {t c : Nat} (ht : t < 8) (hc : c < 16) : vp_in (nI t * 16 + nI c) 128 ∧ (nI t * 16 + nI c).toNatClampNeg = 16 * t + c := ⟨pk_in (16 * t + c) 128 (by omega) (be_ix 16 t c), pk_cl (16 * t + c) (be_ix 16 t c) (by omega)⟩
theorem be_vb4 {f_workers f_stage f_count f_settled f_turn : Int32} {a_store a_length a_codeOperation a_codePlaces a_codeNumber a_before a_held a_state a_position a_registers a_failed a_seenCells a_seenValues a_storedCells a_storedValues a_outCount a_outValues : Nat → Int32} {post : Int32 → Prop} {c : Nat} (hc : c < 16) : ∀ t : Nat, t ≤ 8 → post (be_vb a_state a_storedCells a_storedValues a_before t c) → wX_valueBefore_4 post (nI c) f_workers f_stage f_count f_settled f_turn a_store a_length a_codeOperation a_codePlaces a_codeNumber a_before a_held a_state a_position a_registers a_failed a_seenCells a_seenValues a_storedCells a_storedValues a_outCount a_outValues (t + 1) (nI t - 1) := by
  intro t
  induction t with
  | zero =>
    intro _ h
    refine br_t (by decide) ⟨vp_in_nI hc (by omega), ?_⟩
    rw [nI_clamp (by omega)]
    exact h
  | succ t ih =>
    intro ht h
    rw [nI_pred]
    have hi : vp_in (nI t) 8 := vp_in_nI (by omega) (by omega)
    have ec : (nI t).toNatClampNeg = t := nI_clamp (by omega)
    refine br_f (nI_pos (by omega)) ⟨hi, ?_⟩
    rw [ec]
    by_cases z : a_state t < 2
    · rw [be_vs1 z] at h
      refine br_t z fun y ey => ?_
      rw [ey, be_m1]
      exact ih (by omega) h
    · refine br_f z ⟨hi, ?_⟩
      by_cases zb : bt (a_storedCells t) c = true
      · rw [be_vs3 hc z zb] at h
        refine br_f (by rw [be_tst _ hc, zb]; decide) ⟨(be_i16 (by omega) hc).1, ?_⟩
        rw [(be_i16 (by omega) hc).2]
        exact h
      · rw [be_vs2 z zb] at h
        refine br_t (by rw [be_tst _ hc]; exact eq_false_of_ne_true zb) fun y ey => ?_
        rw [ey, be_m1]
        exact ih (by omega) h
theorem be_vbX {f_workers f_stage f_count f_settled f_turn : Int32} {a_store a_length a_codeOperation a_codePlaces a_codeNumber a_before a_held a_state a_position a_registers a_failed a_seenCells a_seenValues a_storedCells a_storedValues a_outCount a_outValues : Nat → Int32} {post : Int32 → Prop} {t c : Nat} (ht : t ≤ 8) (hc : c < 16) (h : post (be_vb a_state a_storedCells a_storedValues a_before t c)) : wpX_valueBefore post (f_workers, f_stage, f_count, f_settled, f_turn, a_store, a_length, a_codeOperation, a_codePlaces, a_codeNumber, a_before, a_held, a_state, a_position, a_registers, a_failed, a_seenCells, a_seenValues, a_storedCells, a_storedValues, a_outCount, a_outValues) (nI t) (nI c) := by
  intro x3 e3
  refine ⟨t + 1, ?_⟩
  rw [e3]
  exact be_vb4 hc t ht h
/-! seesTheSame -/
theorem be_ss2 {f_workers f_stage f_count f_settled f_turn : Int32} {a_store a_length a_codeOperation a_codePlaces a_codeNumber a_before a_held a_state a_position a_registers a_failed a_seenCells a_seenValues a_storedCells a_storedValues a_outCount a_outValues : Nat → Int32} {post : Int32 → Prop} {t : Nat} (ht : t < 8) (h1 : be_Ag a_seenCells a_seenValues t (be_vb a_state a_storedCells a_storedValues a_before t) → post 1) (h0 : ¬ be_Ag a_seenCells a_seenValues t (be_vb a_state a_storedCells a_storedValues a_before t) → post 0) : ∀ d c : Nat, c + d = 16 → (∀ j, j < c → bt (a_seenCells t) j = true → be_vb a_state a_storedCells a_storedValues a_before t j = a_seenValues (16 * t + j)) → wX_seesTheSame_2 post (nI t) f_workers f_stage f_count f_settled f_turn a_store a_length a_codeOperation a_codePlaces a_codeNumber a_before a_held a_state a_position a_registers a_failed a_seenCells a_seenValues a_storedCells a_storedValues a_outCount a_outValues (d + 1) (nI c) := by
  intro d
  induction d with
  | zero =>
    intro c hd hp
    exact br_t (nI_le (a := 16) (by omega) (by omega)) (h1 (fun j hj hb => hp j (by omega) hb))
  | succ d ih =>
    intro c hd hp
    have hc : c < 16 := by omega
    have hi : vp_in (nI t) 8 := vp_in_nI ht (by omega)
    have ec : (nI t).toNatClampNeg = t := nI_clamp (by omega)
    refine br_f (nI_ge (b := 16) hc (by omega)) ⟨hi, ?_⟩
    rw [ec]
    by_cases zb : bt (a_seenCells t) c = true
    · refine br_f (by rw [be_tst _ hc, zb]; decide) (be_vbX (by omega) hc ?_)
      refine ⟨(be_i16 ht hc).1, ?_⟩
      rw [(be_i16 ht hc).2]
      by_cases zv : be_vb a_state a_storedCells a_storedValues a_before t c = a_seenValues (16 * t + c)
      · refine br_t zv fun y ey => ?_
        rw [ey, nI_1]
        exact ih (c + 1) (by omega) (lt_s hp (fun _ => zv))
      · exact br_f zv (h0 (fun g => zv (g c hc zb)))
    · refine br_t (by rw [be_tst _ hc]; exact eq_false_of_ne_true zb) fun y ey => ?_
      rw [ey, nI_1]
      exact ih (c + 1) (by omega) (lt_s hp (fun q => absurd q zb))
theorem be_ss {f_workers f_stage f_count f_settled f_turn : Int32} {a_store a_length a_codeOperation a_codePlaces a_codeNumber a_before a_held a_state a_position a_registers a_failed a_seenCells a_seenValues a_storedCells a_storedValues a_outCount a_outValues : Nat → Int32} {post : Int32 → Prop} {t : Nat} (ht : t < 8) (h1 : be_Ag a_seenCells a_seenValues t (be_vb a_state a_storedCells a_storedValues a_before t) → post 1) (h0 : ¬ be_Ag a_seenCells a_seenValues t (be_vb a_state a_storedCells a_storedValues a_before t) → post 0) : wpX_seesTheSame post (f_workers, f_stage, f_count, f_settled, f_turn, a_store, a_length, a_codeOperation, a_codePlaces, a_codeNumber, a_before, a_held, a_state, a_position, a_registers, a_failed, a_seenCells, a_seenValues, a_storedCells, a_storedValues, a_outCount, a_outValues) (nI t) :=
  ⟨17, be_ss2 ht h1 h0 16 0 rfl (fun j hj => absurd hj (Nat.not_lt_zero j))⟩
/-! firstWaiting -/
theorem be_fw5 {f_workers f_stage f_count f_settled f_turn : Int32} {a_store a_length a_codeOperation a_codePlaces a_codeNumber a_before a_held a_state a_position a_registers a_failed a_seenCells a_seenValues a_storedCells a_storedValues a_outCount a_outValues : Nat → Int32} {post : Int32 → Prop} {s m : Nat} (hm : m ≤ 8) (hc : f_count = nI m) (hn : (∀ t, s ≤ t → t < m → ¬ a_state t = 0) → post (-1)) (hw : ∀ t, s ≤ t → t < m → a_state t = 0 → post (nI t)) : ∀ d t : Nat, t + d = m → s ≤ t → (∀ u, s ≤ u → u < t → ¬ a_state u = 0) → wX_firstWaiting_5 post f_workers f_stage f_count f_settled f_turn a_store a_length a_codeOperation a_codePlaces a_codeNumber a_before a_held a_state a_position a_registers a_failed a_seenCells a_seenValues a_storedCells a_storedValues a_outCount a_outValues (d + 1) (nI t) := by
  subst hc
  intro d
  induction d with
  | zero =>
    intro t hd hs hp
    exact br_t (nI_le (by omega) (by omega)) (hn (fun u h1 h2 => hp u h1 (by omega)))
  | succ d ih =>
    intro t hd hs hp
    have hi : vp_in (nI t) 8 := vp_in_nI (by omega) (by omega)
    have ec : (nI t).toNatClampNeg = t := nI_clamp (by omega)
    refine br_f (nI_ge (by omega) (by omega)) ⟨hi, ?_⟩
    rw [ec]
    by_cases z : a_state t = 0
    · exact br_t z (hw t hs (by omega) z)
    · refine br_f z fun y ey => ?_
      rw [ey, nI_1]
      refine ih (t + 1) (by omega) (by omega) (fun u h1 h2 => ?_)
      by_cases e : u = t
      · rw [e]; exact z
      · exact hp u h1 (by omega)
theorem be_fw {f_workers f_stage f_count f_settled f_turn : Int32} {a_store a_length a_codeOperation a_codePlaces a_codeNumber a_before a_held a_state a_position a_registers a_failed a_seenCells a_seenValues a_storedCells a_storedValues a_outCount a_outValues : Nat → Int32} {post : Int32 → Prop} {s m : Nat} (hm : m ≤ 8) (hsm : s ≤ m) (hs : f_settled = nI s) (hc : f_count = nI m) (hn : (∀ t, s ≤ t → t < m → ¬ a_state t = 0) → post (-1)) (hw : ∀ t, s ≤ t → t < m → a_state t = 0 → post (nI t)) : wpX_firstWaiting post (f_workers, f_stage, f_count, f_settled, f_turn, a_store, a_length, a_codeOperation, a_codePlaces, a_codeNumber, a_before, a_held, a_state, a_position, a_registers, a_failed, a_seenCells, a_seenValues, a_storedCells, a_storedValues, a_outCount, a_outValues) := by
  refine ⟨m - s + 1, ?_⟩
  rw [hs]
  exact be_fw5 hm hc hn hw (m - s) s (by omega) (Nat.le_refl s) (fun u h1 h2 => absurd h1 (by omega))
/-! firstFree -/
theorem be_ff2 {f_workers f_stage f_count f_settled f_turn : Int32} {a_store a_length a_codeOperation a_codePlaces a_codeNumber a_before a_held a_state a_position a_registers a_failed a_seenCells a_seenValues a_storedCells a_storedValues a_outCount a_outValues : Nat → Int32} {post : Int32 → Prop} {W : Nat} (hW : f_workers = nI W) (hW8 : W ≤ 8) (hn : (∀ w, w < W → ¬ a_held w = -1) → post (-1)) (hw : ∀ w, w < W → a_held w = -1 → post (nI w)) : ∀ d w : Nat, w + d = W → (∀ u, u < w → ¬ a_held u = -1) → wX_firstFree_2 post f_workers f_stage f_count f_settled f_turn a_store a_length a_codeOperation a_codePlaces a_codeNumber a_before a_held a_state a_position a_registers a_failed a_seenCells a_seenValues a_storedCells a_storedValues a_outCount a_outValues (d + 1) (nI w) := by
  subst hW
  intro d
  induction d with
  | zero =>
    intro w hd hp
    exact br_t (nI_le (by omega) (by omega)) (hn (fun u h1 => hp u (by omega)))
  | succ d ih =>
    intro w hd hp
    have hi : vp_in (nI w) 8 := vp_in_nI (by omega) (by omega)
    have ec : (nI w).toNatClampNeg = w := nI_clamp (by omega)
    refine br_f (nI_ge (by omega) (by omega)) ⟨hi, ?_⟩
    rw [ec]
    by_cases z : a_held w = -1
    · exact br_t z (hw w (by omega) z)
    · refine br_f z fun y ey => ?_
      rw [ey, nI_1]
      exact ih (w + 1) (by omega) (lt_s hp z)
theorem be_ff {f_workers f_stage f_count f_settled f_turn : Int32} {a_store a_length a_codeOperation a_codePlaces a_codeNumber a_before a_held a_state a_position a_registers a_failed a_seenCells a_seenValues a_storedCells a_storedValues a_outCount a_outValues : Nat → Int32} {post : Int32 → Prop} {W : Nat} (hW : f_workers = nI W) (hW8 : W ≤ 8) (hn : (∀ w, w < W → ¬ a_held w = -1) → post (-1)) (hw : ∀ w, w < W → a_held w = -1 → post (nI w)) : wpX_firstFree post (f_workers, f_stage, f_count, f_settled, f_turn, a_store, a_length, a_codeOperation, a_codePlaces, a_codeNumber, a_before, a_held, a_state, a_position, a_registers, a_failed, a_seenCells, a_seenValues, a_storedCells, a_storedValues, a_outCount, a_outValues) :=
  ⟨W + 1, be_ff2 hW hW8 hn hw W 0 (by omega) (fun u h1 => absurd h1 (Nat.not_lt_zero u))⟩
/-! nextBusy: w0 is busy; e steps lead to it -/
theorem be_nb10 {f_workers f_stage f_count f_settled f_turn : Int32} {a_store a_length a_codeOperation a_codePlaces a_codeNumber a_before a_held a_state a_position a_registers a_failed a_seenCells a_seenValues a_storedCells a_storedValues a_outCount a_outValues : Nat → Int32} {post : Int32 → Prop} {W w0 : Nat} (hW : f_workers = nI W) (hW8 : W ≤ 8) (h0 : w0 < W) (hb : ¬ a_held w0 = -1) (hp : ∀ w, w < W → ¬ a_held w = -1 → post (nI w)) : ∀ d i l x e : Nat, i + d = 64 → (x < W ∧ (x + e = w0 ∨ x + e = w0 + W) ∨ x = W ∧ e = w0) → e < W → 8 * l + e + i ≤ 63 → wX_nextBusy_10 post f_workers f_stage f_count f_settled f_turn a_store a_length a_codeOperation a_codePlaces a_codeNumber a_before a_held a_state a_position a_registers a_failed a_seenCells a_seenValues a_storedCells a_storedValues a_outCount a_outValues (d + 1) (nI l) (nI x) (nI i) := by
  subst hW
  intro d
  induction d with
  | zero =>
    intro i l x e hd hx he hl
    omega
  | succ d ih =>
    intro i l x e hd hx he hl
    have go : ∀ y, y < W → (y + e = w0 ∨ y + e = w0 + W) → wX_nextBusy_27 post (wX_nextBusy_10 post (nI W) f_stage f_count f_settled f_turn a_store a_length a_codeOperation a_codePlaces a_codeNumber a_before a_held a_state a_position a_registers a_failed a_seenCells a_seenValues a_storedCells a_storedValues a_outCount a_outValues (d + 1)) (nI l) (nI y) (nI i) (nI W) f_stage f_count f_settled f_turn a_store a_length a_codeOperation a_codePlaces a_codeNumber a_before a_held a_state a_position a_registers a_failed a_seenCells a_seenValues a_storedCells a_storedValues a_outCount a_outValues := by
      intro y hy hye
      have hi : vp_in (nI y) 8 := vp_in_nI (by omega) (by omega)
      have ec : (nI y).toNatClampNeg = y := nI_clamp (by omega)
      refine ⟨hi, ?_⟩
      rw [ec]
      by_cases z : a_held y = -1
      · have hne : ¬ y = w0 := fun q => hb (q ▸ z)
        refine br_t z fun x3 e3 x4 e4 => ?_
        rw [e3, e4, nI_1, nI_1]
        exact ih (i + 1) l (y + 1) (e - 1) (by omega) (by omega) (by omega) (by omega)
      · refine br_f z ?_
        by_cases zl : l = 0
        · subst zl
          exact br_t rfl (hp y hy z)
        · obtain ⟨l', rfl⟩ : ∃ l', l = l' + 1 := ⟨l - 1, by omega⟩
          refine br_f (nI_ne0 (by omega) (by omega)) fun x2 e2 x3 e3 x4 e4 => ?_
          rw [e2, e3, e4, be_m1, nI_pred, nI_1, nI_1]
          by_cases q : y = w0
          · exact ih (i + 1) l' (y + 1) (W - 1) (by omega) (by omega) (by omega) (by omega)
          · exact ih (i + 1) l' (y + 1) (e - 1) (by omega) (by omega) (by omega) (by omega)
    refine br_f (nI_ge (b := 64) (by omega) (by omega)) ?_
    rcases hx with ⟨h1, h2⟩ | ⟨h1, h2⟩
    · exact br_t (nI_lt h1 (by omega)) (go x h1 h2)
    · exact br_f (nI_nlt (by omega) (by omega)) (go 0 (by omega) (by omega))
theorem be_nb {f_workers f_stage f_count f_settled f_turn : Int32} {a_store a_length a_codeOperation a_codePlaces a_codeNumber a_before a_held a_state a_position a_registers a_failed a_seenCells a_seenValues a_storedCells a_storedValues a_outCount a_outValues : Nat → Int32} {post : Int32 → Prop} {W w0 tn l : Nat} (hW : f_workers = nI W) (hW8 : W ≤ 8) (ht : f_turn = nI tn) (htn : tn ≤ W) (hl : l < 8) (h0 : w0 < W) (hb : ¬ a_held w0 = -1) (hp : ∀ w, w < W → ¬ a_held w = -1 → post (nI w)) : wpX_nextBusy post (f_workers, f_stage, f_count, f_settled, f_turn, a_store, a_length, a_codeOperation, a_codePlaces, a_codeNumber, a_before, a_held, a_state, a_position, a_registers, a_failed, a_seenCells, a_seenValues, a_storedCells, a_storedValues, a_outCount, a_outValues) (nI l) := by
  subst ht
  refine ⟨65, ?_⟩
  by_cases z : tn = W
  · exact be_nb10 hW hW8 h0 hb hp 64 0 l tn w0 rfl (by omega) h0 (by omega)
  · by_cases q : tn ≤ w0
    · exact be_nb10 hW hW8 h0 hb hp 64 0 l tn (w0 - tn) rfl (by omega) (by omega) (by omega)
    · exact be_nb10 hW hW8 h0 hb hp 64 0 l tn (w0 + W - tn) rfl (by omega) (by omega) (by omega)
/-! clear -/
theorem be_cl2 {f_workers f_stage f_count f_settled f_turn : Int32} {a_store a_length a_codeOperation a_codePlaces a_codeNumber a_before a_held a_state a_position a_registers a_failed a_seenCells a_seenValues a_storedCells a_storedValues a_outCount a_outValues : Nat → Int32} {post : SX → Prop} {t : Nat} (ht : t < 8) (h : ∀ rg, be_sl rg 4 t = (fun _ => 0) → (∀ u, u ≠ t → be_sl rg 4 u = be_sl a_registers 4 u) → post (f_workers, f_stage, f_count, f_settled, f_turn, a_store, a_length, a_codeOperation, a_codePlaces, a_codeNumber, a_before, a_held, a_state, upd a_position t 0, rg, upd a_failed t 0, upd a_seenCells t 0, a_seenValues, upd a_storedCells t 0, a_storedValues, upd a_outCount t 0, a_outValues)) : ∀ (d r : Nat) (rg : Nat → Int32), r + d = 4 → (∀ j, j < r → rg (4 * t + j) = 0) → (∀ u, u ≠ t → be_sl rg 4 u = be_sl a_registers 4 u) → wX_clear_2 post (nI t) f_workers f_stage f_count f_settled f_turn (d + 1) (nI r) a_store a_length a_codeOperation a_codePlaces a_codeNumber a_before a_held a_state a_position rg a_failed a_seenCells a_seenValues a_storedCells a_storedValues a_outCount a_outValues := by
  have hi : vp_in (nI t) 8 := vp_in_nI ht (by omega)
  have ec : (nI t).toNatClampNeg = t := nI_clamp (by omega)
  intro d
  induction d with
  | zero =>
    intro r rg hd h0 hu
    refine br_t (nI_le (a := 4) (by omega) (by omega)) ⟨hi, fun y1 e1 => ⟨hi, fun y2 e2 => ⟨hi, fun y3 e3 => ⟨hi, fun y4 e4 => ⟨hi, fun y5 e5 => ?_⟩⟩⟩⟩⟩
    rw [e1, e2, e3, e4, e5, ec, be_b0]
    refine h rg (funext fun j => ?_) hu
    unfold be_sl
    by_cases z : j < 4
    · rw [if_pos z]; exact h0 j (by omega)
    · rw [if_neg z]
  | succ d ih =>
    intro r rg hd h0 hu
    have e4 : nI t * 4 + nI r = nI (4 * t + r) := be_ix 4 t r
    refine br_f (nI_ge (b := 4) (by omega) (by omega)) ⟨pk_in (4 * t + r) 32 (by omega) e4, fun y1 e1 y2 e2 => ?_⟩
    rw [e1, e2, nI_1, pk_cl (4 * t + r) e4 (by omega)]
    refine ih (r + 1) _ (by omega) (lt_s (fun j hj => ?_) pk_us) (fun u hu2 => (be_slo (by omega) hu2).trans (hu u hu2))
    rw [pk_un (by omega)]
    exact h0 j hj
theorem be_cl {f_workers f_stage f_count f_settled f_turn : Int32} {a_store a_length a_codeOperation a_codePlaces a_codeNumber a_before a_held a_state a_position a_registers a_failed a_seenCells a_seenValues a_storedCells a_storedValues a_outCount a_outValues : Nat → Int32} {post : SX → Prop} {t : Nat} (ht : t < 8) (h : ∀ rg, be_sl rg 4 t = (fun _ => 0) → (∀ u, u ≠ t → be_sl rg 4 u = be_sl a_registers 4 u) → post (f_workers, f_stage, f_count, f_settled, f_turn, a_store, a_length, a_codeOperation, a_codePlaces, a_codeNumber, a_before, a_held, a_state, upd a_position t 0, rg, upd a_failed t 0, upd a_seenCells t 0, a_seenValues, upd a_storedCells t 0, a_storedValues, upd a_outCount t 0, a_outValues)) : wpX_clear post (f_workers, f_stage, f_count, f_settled, f_turn, a_store, a_length, a_codeOperation, a_codePlaces, a_codeNumber, a_before, a_held, a_state, a_position, a_registers, a_failed, a_seenCells, a_seenValues, a_storedCells, a_storedValues, a_outCount, a_outValues) (nI t) :=
  ⟨5, be_cl2 ht h 4 0 _ rfl (fun j hj => absurd hj (Nat.not_lt_zero j)) (fun _ _ => rfl)⟩
end
section
/-! look, keep, fail, putOut -/
theorem be_lk {f_workers f_stage f_count f_settled f_turn : Int32} {a_store a_length a_codeOperation a_codePlaces a_codeNumber a_before a_held a_state a_position a_registers a_failed a_seenCells a_seenValues a_storedCells a_storedValues a_outCount a_outValues : Nat → Int32} {post : Int32 → SX → Prop} {t c : Nat} (ht : t < 8) (hc : c < 16) (h : ∀ (v : Int32) (sn sV : Nat → Int32), (∀ sg, be_Ag sn sV t sg → be_Ag a_seenCells a_seenValues t sg ∧ v = be_rd sg (a_storedCells t) (be_sl a_storedValues 16 t) c) → (∀ u, u ≠ t → sn u = a_seenCells u ∧ be_sl sV 16 u = be_sl a_seenValues 16 u) → (be_Ag a_seenCells a_seenValues t (be_vb a_state a_storedCells a_storedValues a_before t) → be_Ag sn sV t (be_vb a_state a_storedCells a_storedValues a_before t)) → post v (f_workers, f_stage, f_count, f_settled, f_turn, a_store, a_length, a_codeOperation, a_codePlaces, a_codeNumber, a_before, a_held, a_state, a_position, a_registers, a_failed, sn, sV, a_storedCells, a_storedValues, a_outCount, a_outValues)) : wpX_look post (f_workers, f_stage, f_count, f_settled, f_turn, a_store, a_length, a_codeOperation, a_codePlaces, a_codeNumber, a_before, a_held, a_state, a_position, a_registers, a_failed, a_seenCells, a_seenValues, a_storedCells, a_storedValues, a_outCount, a_outValues) (nI t) (nI c) := by
  have hi : vp_in (nI t) 8 := vp_in_nI ht (by omega)
  have ec : (nI t).toNatClampNeg = t := nI_clamp (by omega)
  intro x3 e3 x4 e4
  have hi4 : vp_in x4 128 := by rw [e4]; exact (be_i16 ht hc).1
  have e4c : x4.toNatClampNeg = 16 * t + c := by rw [e4]; exact (be_i16 ht hc).2
  clear e4
  subst e3
  refine ⟨hi, ?_⟩
  rw [ec]
  by_cases zs : bt (a_storedCells t) c = true
  · refine br_f (by rw [be_msk _ hc, zs]; decide) ⟨hi4, ?_⟩
    rw [e4c]
    refine h _ _ _ (fun sg g => ⟨g, ?_⟩) (fun u hu => ⟨rfl, rfl⟩) (fun g => g)
    unfold be_rd
    rw [if_pos zs, be_sla hc]
  · refine br_t (by rw [be_msk _ hc]; exact eq_false_of_ne_true zs) ⟨hi, ?_⟩
    by_cases zn : bt (a_seenCells t) c = true
    · refine br_f (by rw [be_msk _ hc, zn]; decide) ⟨hi4, ?_⟩
      rw [e4c]
      refine h _ _ _ (fun sg g => ⟨g, ?_⟩) (fun u hu => ⟨rfl, rfl⟩) (fun g => g)
      unfold be_rd
      rw [if_neg zs]
      exact (g c hc zn).symm
    · refine br_t (by rw [be_msk _ hc]; exact eq_false_of_ne_true zn) (be_vbX (by omega) hc ?_)
      refine ⟨hi4, fun sV eV => ⟨hi, hi, fun sn en => ⟨hi4, ?_⟩⟩⟩
      rw [e4c] at eV ⊢
      subst eV en
      rw [pk_us]
      have hset : ∀ j, j < 16 → bt (upd a_seenCells t (be_set (a_seenCells t) (nI c)) t) j = (bt (a_seenCells t) j || decide (j = c)) := fun j hj => by rw [pk_us, be_orb _ hc hj]
      refine h _ _ _ (fun sg g => ⟨fun j hj hb => ?_, ?_⟩) (fun u hu => ⟨pk_un hu, be_slo hc hu⟩) (fun g j hj hb => ?_)
      · have h2 := g j hj (by have q := hset j hj; rw [hb] at q; exact q)
        have hne : j ≠ c := fun e => zn (e ▸ hb)
        rw [pk_un (by omega)] at h2
        exact h2
      · unfold be_rd
        rw [if_neg zs]
        have h2 := g c hc (by have q := hset c hc; rw [decide_eq_true rfl, Bool.or_true] at q; exact q)
        rw [pk_us] at h2
        exact h2.symm
      · by_cases e : j = c
        · subst e
          rw [pk_us]
        · rw [pk_un (by omega)]
          refine g j hj ?_
          have q := hset j hj
          rw [decide_eq_false e, Bool.or_false] at q
          rw [← q]
          exact hb
theorem be_kp {f_workers f_stage f_count f_settled f_turn : Int32} {a_store a_length a_codeOperation a_codePlaces a_codeNumber a_before a_held a_state a_position a_registers a_failed a_seenCells a_seenValues a_storedCells a_storedValues a_outCount a_outValues : Nat → Int32} {post : SX → Prop} {t c : Nat} {v : Int32} (ht : t < 8) (hc : c < 16) (h : post (f_workers, f_stage, f_count, f_settled, f_turn, a_store, a_length, a_codeOperation, a_codePlaces, a_codeNumber, a_before, a_held, a_state, a_position, a_registers, a_failed, a_seenCells, a_seenValues, upd a_storedCells t (be_set (a_storedCells t) (nI c)), upd a_storedValues (16 * t + c) v, a_outCount, a_outValues)) : wpX_keep post (f_workers, f_stage, f_count, f_settled, f_turn, a_store, a_length, a_codeOperation, a_codePlaces, a_codeNumber, a_before, a_held, a_state, a_position, a_registers, a_failed, a_seenCells, a_seenValues, a_storedCells, a_storedValues, a_outCount, a_outValues) (nI t) (nI c) v := by
  have hi : vp_in (nI t) 8 := vp_in_nI ht (by omega)
  have ec : (nI t).toNatClampNeg = t := nI_clamp (by omega)
  refine ⟨hi, hi, fun y1 e1 => ⟨(be_i16 ht hc).1, fun y2 e2 => ?_⟩⟩
  rw [e1, e2, ec, (be_i16 ht hc).2]
  exact h
theorem be_fa {f_workers f_stage f_count f_settled f_turn : Int32} {a_store a_length a_codeOperation a_codePlaces a_codeNumber a_before a_held a_state a_position a_registers a_failed a_seenCells a_seenValues a_storedCells a_storedValues a_outCount a_outValues : Nat → Int32} {post : SX → Prop} {t : Nat} (ht : t < 8) (h : post (f_workers, f_stage, f_count, f_settled, f_turn, a_store, a_length, a_codeOperation, a_codePlaces, a_codeNumber, a_before, a_held, a_state, upd a_position t (a_length t), a_registers, upd a_failed t 1, a_seenCells, a_seenValues, upd a_storedCells t 0, a_storedValues, upd a_outCount t 0, a_outValues)) : wpX_fail post (f_workers, f_stage, f_count, f_settled, f_turn, a_store, a_length, a_codeOperation, a_codePlaces, a_codeNumber, a_before, a_held, a_state, a_position, a_registers, a_failed, a_seenCells, a_seenValues, a_storedCells, a_storedValues, a_outCount, a_outValues) (nI t) := by
  have hi : vp_in (nI t) 8 := vp_in_nI ht (by omega)
  have ec : (nI t).toNatClampNeg = t := nI_clamp (by omega)
  refine ⟨hi, fun y1 e1 => ⟨hi, fun y2 e2 => ⟨hi, fun y3 e3 => ⟨hi, hi, fun y4 e4 => ?_⟩⟩⟩⟩
  rw [e1, e2, e3, e4, ec, be_b1]
  exact h
theorem be_po {f_workers f_stage f_count f_settled f_turn : Int32} {a_store a_length a_codeOperation a_codePlaces a_codeNumber a_before a_held a_state a_position a_registers a_failed a_seenCells a_seenValues a_storedCells a_storedValues a_outCount a_outValues : Nat → Int32} {post : SX → Prop} {t q : Nat} {v : Int32} (ht : t < 8) (hq : a_outCount t = nI q) (hq2 : q ≤ 12) (h1 : q = 12 → post (f_workers, f_stage, f_count, f_settled, f_turn, a_store, a_length, a_codeOperation, a_codePlaces, a_codeNumber, a_before, a_held, a_state, a_position, a_registers, a_failed, a_seenCells, a_seenValues, a_storedCells, a_storedValues, a_outCount, a_outValues)) (h2 : q < 12 → post (f_workers, f_stage, f_count, f_settled, f_turn, a_store, a_length, a_codeOperation, a_codePlaces, a_codeNumber, a_before, a_held, a_state, a_position, a_registers, a_failed, a_seenCells, a_seenValues, a_storedCells, a_storedValues, upd a_outCount t (a_outCount t + 1), upd a_outValues (12 * t + q) v)) : wpX_putOut post (f_workers, f_stage, f_count, f_settled, f_turn, a_store, a_length, a_codeOperation, a_codePlaces, a_codeNumber, a_before, a_held, a_state, a_position, a_registers, a_failed, a_seenCells, a_seenValues, a_storedCells, a_storedValues, a_outCount, a_outValues) (nI t) v := by
  have hi : vp_in (nI t) 8 := vp_in_nI ht (by omega)
  have ec : (nI t).toNatClampNeg = t := nI_clamp (by omega)
  refine ⟨hi, fun x3 e3 => ?_⟩
  rw [ec] at e3
  have e3' : x3 = nI q := e3.trans hq
  have e12 : nI t * 12 + x3 = nI (12 * t + q) := by rw [e3']; exact be_ix 12 t q
  refine pk_le 12 q (fun g => h1 (by omega)) (fun g => ⟨pk_in (12 * t + q) 96 (by omega) e12, fun y1 e1 => ⟨hi, fun y2 e2 => ?_⟩⟩) rfl e3'
  rw [e1, e2, ec, pk_cl (12 * t + q) e12 (by omega), e3]
  exact h2 g
/-! what an instruction does to the arrays -/
def be_SO (ln cO cP cN st bf : Nat → Int32) (A A' : be_A) (t : Nat) : Prop :=
  (∀ sg, be_Ag (be_sn A') (be_sV A') t sg → be_Ag (be_sn A) (be_sV A) t sg ∧ be_xs A' t = be_in sg ln cO cP cN t (be_xs A t)) ∧ (∀ u, u ≠ t → be_Eq A A' u) ∧ (be_Ag (be_sn A) (be_sV A) t (be_vb st (be_sc A) (be_sv A) bf t) → be_Ag (be_sn A') (be_sV A') t (be_vb st (be_sc A) (be_sv A) bf t))
theorem be_so1 {ln cO cP cN st bf ps rg fl sn sV sc sv oc ov ps' rg' fl' sc' sv' oc' ov' : Nat → Int32} {t : Nat} (h : ∀ sg, be_in sg ln cO cP cN t (be_xs (ps, rg, fl, sn, sV, sc, sv, oc, ov) t) = (ps' t, be_sl rg' 4 t, fl' t, sc' t, be_sl sv' 16 t, oc' t, be_sl ov' 12 t)) (e1 : ∀ u, u ≠ t → ps' u = ps u) (e2 : ∀ u, u ≠ t → be_sl rg' 4 u = be_sl rg 4 u) (e3 : ∀ u, u ≠ t → fl' u = fl u) (e6 : ∀ u, u ≠ t → sc' u = sc u) (e7 : ∀ u, u ≠ t → be_sl sv' 16 u = be_sl sv 16 u) (e8 : ∀ u, u ≠ t → oc' u = oc u) (e9 : ∀ u, u ≠ t → be_sl ov' 12 u = be_sl ov 12 u) : be_SO ln cO cP cN st bf (ps, rg, fl, sn, sV, sc, sv, oc, ov) (ps', rg', fl', sn, sV, sc', sv', oc', ov') t :=
  ⟨fun sg g => ⟨g, (h sg).symm⟩, fun u hu => be_eqi (e1 u hu) (e2 u hu) (e3 u hu) rfl rfl (e6 u hu) (e7 u hu) (e8 u hu) (e9 u hu), fun g => g⟩
theorem be_so2 {ln cO cP cN st bf ps rg fl sn sV sc sv oc ov sn' sV' : Nat → Int32} {t a c : Nat} {v : Int32} (ha : a < 4) (h : ∀ sg, be_in sg ln cO cP cN t (be_xs (ps, rg, fl, sn, sV, sc, sv, oc, ov) t) = (ps t + 1, upd (be_sl rg 4 t) a (be_rd sg (sc t) (be_sl sv 16 t) c), fl t, sc t, be_sl sv 16 t, oc t, be_sl ov 12 t)) (h1 : ∀ sg, be_Ag sn' sV' t sg → be_Ag sn sV t sg ∧ v = be_rd sg (sc t) (be_sl sv 16 t) c) (h2 : ∀ u, u ≠ t → sn' u = sn u ∧ be_sl sV' 16 u = be_sl sV 16 u) (h3 : be_Ag sn sV t (be_vb st sc sv bf t) → be_Ag sn' sV' t (be_vb st sc sv bf t)) : be_SO ln cO cP cN st bf (ps, rg, fl, sn, sV, sc, sv, oc, ov) (upd ps t (ps t + 1), upd rg (4 * t + a) v, fl, sn', sV', sc, sv, oc, ov) t := by
  refine ⟨fun sg g => ⟨(h1 sg g).1, ?_⟩, fun u hu => be_eqi (pk_un hu) (be_slo ha hu) rfl (h2 u hu).1 (h2 u hu).2 rfl rfl rfl rfl, h3⟩
  rw [h sg, ← (h1 sg g).2]
  show (upd ps t (ps t + 1) t, be_sl (upd rg (4 * t + a) v) 4 t, _) = _
  rw [pk_us, be_slu ha]
end
section
theorem be_st0 {sg : Nat → Int32} {L n : Int32} {a b : Nat} {pos fl bits oc : Int32} {reg sv ov : Nat → Int32} : be_st sg L (nI 0) a b n (pos, reg, fl, bits, sv, oc, ov) = (pos + 1, upd reg a n, fl, bits, sv, oc, ov) := by
  unfold be_st
  dsimp only
  rw [if_pos (show nI 0 = 0 by decide)]
theorem be_st1 {sg : Nat → Int32} {L n : Int32} {a b : Nat} {pos fl bits oc : Int32} {reg sv ov : Nat → Int32} : be_st sg L (nI 1) a b n (pos, reg, fl, bits, sv, oc, ov) = (pos + 1, upd reg a (reg a + reg b), fl, bits, sv, oc, ov) := by
  unfold be_st
  dsimp only
  rw [if_neg (show ¬ nI 1 = 0 by decide), if_pos (show nI 1 = 1 by decide)]
theorem be_st2 {sg : Nat → Int32} {L n : Int32} {a b : Nat} {pos fl bits oc : Int32} {reg sv ov : Nat → Int32} : be_st sg L (nI 2) a b n (pos, reg, fl, bits, sv, oc, ov) = (pos + 1, upd reg a (reg a - reg b), fl, bits, sv, oc, ov) := by
  unfold be_st
  dsimp only
  rw [if_neg (show ¬ nI 2 = 0 by decide), if_neg (show ¬ nI 2 = 1 by decide), if_pos (show nI 2 = 2 by decide)]
theorem be_st3 {sg : Nat → Int32} {L n : Int32} {a b : Nat} {pos fl bits oc : Int32} {reg sv ov : Nat → Int32} : be_st sg L (nI 3) a b n (pos, reg, fl, bits, sv, oc, ov) = (pos + 1, upd reg a (be_rd sg bits sv (n &&& 15).toNatClampNeg), fl, bits, sv, oc, ov) := by
  unfold be_st
  dsimp only
  rw [if_neg (show ¬ nI 3 = 0 by decide), if_neg (show ¬ nI 3 = 1 by decide), if_neg (show ¬ nI 3 = 2 by decide), if_pos (show nI 3 = 3 by decide)]
theorem be_st4 {sg : Nat → Int32} {L n : Int32} {a b : Nat} {pos fl bits oc : Int32} {reg sv ov : Nat → Int32} : be_st sg L (nI 4) a b n (pos, reg, fl, bits, sv, oc, ov) = (pos + 1, reg, fl, be_set bits (n &&& 15), upd sv (n &&& 15).toNatClampNeg (reg a), oc, ov) := by
  unfold be_st
  dsimp only
  rw [if_neg (show ¬ nI 4 = 0 by decide), if_neg (show ¬ nI 4 = 1 by decide), if_neg (show ¬ nI 4 = 2 by decide), if_neg (show ¬ nI 4 = 3 by decide), if_pos (show nI 4 = 4 by decide)]
theorem be_st5 {sg : Nat → Int32} {L n : Int32} {a b : Nat} {pos fl bits oc : Int32} {reg sv ov : Nat → Int32} : be_st sg L (nI 5) a b n (pos, reg, fl, bits, sv, oc, ov) = (pos + 1, upd reg a (reg a * reg b), fl, bits, sv, oc, ov) := by
  unfold be_st
  dsimp only
  rw [if_neg (show ¬ nI 5 = 0 by decide), if_neg (show ¬ nI 5 = 1 by decide), if_neg (show ¬ nI 5 = 2 by decide), if_neg (show ¬ nI 5 = 3 by decide), if_neg (show ¬ nI 5 = 4 by decide), if_pos (show nI 5 = 5 by decide)]
theorem be_st6 {sg : Nat → Int32} {L n : Int32} {a b : Nat} {pos fl bits oc : Int32} {reg sv ov : Nat → Int32} : be_st sg L (nI 6) a b n (pos, reg, fl, bits, sv, oc, ov) = (if reg b ≤ reg a then (pos + 1, reg, fl, bits, sv, oc, ov) else (pos + 1 + 1, reg, fl, bits, sv, oc, ov)) := by
  unfold be_st
  dsimp only
  rw [if_neg (show ¬ nI 6 = 0 by decide), if_neg (show ¬ nI 6 = 1 by decide), if_neg (show ¬ nI 6 = 2 by decide), if_neg (show ¬ nI 6 = 3 by decide), if_neg (show ¬ nI 6 = 4 by decide), if_neg (show ¬ nI 6 = 5 by decide), if_pos (show nI 6 = 6 by decide)]
theorem be_st7 {sg : Nat → Int32} {L n : Int32} {a b : Nat} {pos fl bits oc : Int32} {reg sv ov : Nat → Int32} : be_st sg L (nI 7) a b n (pos, reg, fl, bits, sv, oc, ov) = (if n ≤ reg a then (pos + 1, reg, fl, bits, sv, oc, ov) else (L, reg, 1, 0, sv, 0, ov)) := by
  unfold be_st
  dsimp only
  rw [if_neg (show ¬ nI 7 = 0 by decide), if_neg (show ¬ nI 7 = 1 by decide), if_neg (show ¬ nI 7 = 2 by decide), if_neg (show ¬ nI 7 = 3 by decide), if_neg (show ¬ nI 7 = 4 by decide), if_neg (show ¬ nI 7 = 5 by decide), if_neg (show ¬ nI 7 = 6 by decide), if_pos (show nI 7 = 7 by decide)]
theorem be_st8 {sg : Nat → Int32} {L n : Int32} {a b : Nat} {pos fl bits oc : Int32} {reg sv ov : Nat → Int32} : be_st sg L (nI 8) a b n (pos, reg, fl, bits, sv, oc, ov) = (if 12 ≤ oc then (pos + 1, reg, fl, bits, sv, oc, ov) else (pos + 1, reg, fl, bits, sv, oc + 1, upd ov oc.toNatClampNeg (reg a))) := by
  unfold be_st
  dsimp only
  rw [if_neg (show ¬ nI 8 = 0 by decide), if_neg (show ¬ nI 8 = 1 by decide), if_neg (show ¬ nI 8 = 2 by decide), if_neg (show ¬ nI 8 = 3 by decide), if_neg (show ¬ nI 8 = 4 by decide), if_neg (show ¬ nI 8 = 5 by decide), if_neg (show ¬ nI 8 = 6 by decide), if_neg (show ¬ nI 8 = 7 by decide), if_pos (show nI 8 = 8 by decide)]
theorem be_st9 {sg : Nat → Int32} {L n : Int32} {a b : Nat} {pos fl bits oc : Int32} {reg sv ov : Nat → Int32} : be_st sg L (nI 9) a b n (pos, reg, fl, bits, sv, oc, ov) = (pos + 1, upd reg a (be_rd sg bits sv (reg b &&& 15).toNatClampNeg), fl, bits, sv, oc, ov) := by
  unfold be_st
  dsimp only
  rw [if_neg (show ¬ nI 9 = 0 by decide), if_neg (show ¬ nI 9 = 1 by decide), if_neg (show ¬ nI 9 = 2 by decide), if_neg (show ¬ nI 9 = 3 by decide), if_neg (show ¬ nI 9 = 4 by decide), if_neg (show ¬ nI 9 = 5 by decide), if_neg (show ¬ nI 9 = 6 by decide), if_neg (show ¬ nI 9 = 7 by decide), if_neg (show ¬ nI 9 = 8 by decide), if_pos (show nI 9 = 9 by decide)]
theorem be_st10 {sg : Nat → Int32} {L n : Int32} {a b : Nat} {pos fl bits oc : Int32} {reg sv ov : Nat → Int32} : be_st sg L (nI 10) a b n (pos, reg, fl, bits, sv, oc, ov) = (pos + 1, reg, fl, be_set bits (reg b &&& 15), upd sv (reg b &&& 15).toNatClampNeg (reg a), oc, ov) := by
  unfold be_st
  dsimp only
  rw [if_neg (show ¬ nI 10 = 0 by decide), if_neg (show ¬ nI 10 = 1 by decide), if_neg (show ¬ nI 10 = 2 by decide), if_neg (show ¬ nI 10 = 3 by decide), if_neg (show ¬ nI 10 = 4 by decide), if_neg (show ¬ nI 10 = 5 by decide), if_neg (show ¬ nI 10 = 6 by decide), if_neg (show ¬ nI 10 = 7 by decide), if_neg (show ¬ nI 10 = 8 by decide), if_neg (show ¬ nI 10 = 9 by decide), if_pos (show nI 10 = 10 by decide)]
theorem be_st11 {sg : Nat → Int32} {L n : Int32} {a b : Nat} {pos fl bits oc : Int32} {reg sv ov : Nat → Int32} : be_st sg L (nI 11) a b n (pos, reg, fl, bits, sv, oc, ov) = (L, reg, fl, bits, sv, oc, ov) := by
  unfold be_st
  dsimp only
  rw [if_neg (show ¬ nI 11 = 0 by decide), if_neg (show ¬ nI 11 = 1 by decide), if_neg (show ¬ nI 11 = 2 by decide), if_neg (show ¬ nI 11 = 3 by decide), if_neg (show ¬ nI 11 = 4 by decide), if_neg (show ¬ nI 11 = 5 by decide), if_neg (show ¬ nI 11 = 6 by decide), if_neg (show ¬ nI 11 = 7 by decide), if_neg (show ¬ nI 11 = 8 by decide), if_neg (show ¬ nI 11 = 9 by decide), if_neg (show ¬ nI 11 = 10 by decide)]
end
section
theorem be_soR {ln cO cP cN st bf ps rg fl sn sV sc sv oc ov : Nat → Int32} {t a : Nat} {v : Int32} (ha : a < 4) (h : ∀ sg, be_in sg ln cO cP cN t (be_xs (ps, rg, fl, sn, sV, sc, sv, oc, ov) t) = (ps t + 1, upd (be_sl rg 4 t) a v, fl t, sc t, be_sl sv 16 t, oc t, be_sl ov 12 t)) : be_SO ln cO cP cN st bf (ps, rg, fl, sn, sV, sc, sv, oc, ov) (upd ps t (ps t + 1), upd rg (4 * t + a) v, fl, sn, sV, sc, sv, oc, ov) t :=
  be_so1 (fun sg => by rw [h sg, pk_us, be_slu ha]) (fun u hu => pk_un hu) (fun u hu => be_slo ha hu) (fun _ _ => rfl) (fun _ _ => rfl) (fun _ _ => rfl) (fun _ _ => rfl) (fun _ _ => rfl)
theorem be_soP {ln cO cP cN st bf ps ps' rg fl sn sV sc sv oc ov : Nat → Int32} {t : Nat} (h : ∀ sg, be_in sg ln cO cP cN t (be_xs (ps, rg, fl, sn, sV, sc, sv, oc, ov) t) = (ps' t, be_sl rg 4 t, fl t, sc t, be_sl sv 16 t, oc t, be_sl ov 12 t)) (e : ∀ u, u ≠ t → ps' u = ps u) : be_SO ln cO cP cN st bf (ps, rg, fl, sn, sV, sc, sv, oc, ov) (ps', rg, fl, sn, sV, sc, sv, oc, ov) t :=
  be_so1 h e (fun _ _ => rfl) (fun _ _ => rfl) (fun _ _ => rfl) (fun _ _ => rfl) (fun _ _ => rfl) (fun _ _ => rfl)
theorem be_soK {ln cO cP cN st bf ps rg fl sn sV sc sv oc ov : Nat → Int32} {t c : Nat} {b v : Int32} (hc : c < 16) (h : ∀ sg, be_in sg ln cO cP cN t (be_xs (ps, rg, fl, sn, sV, sc, sv, oc, ov) t) = (ps t + 1, be_sl rg 4 t, fl t, b, upd (be_sl sv 16 t) c v, oc t, be_sl ov 12 t)) : be_SO ln cO cP cN st bf (ps, rg, fl, sn, sV, sc, sv, oc, ov) (upd ps t (ps t + 1), rg, fl, sn, sV, upd sc t b, upd sv (16 * t + c) v, oc, ov) t :=
  be_so1 (fun sg => by rw [h sg, pk_us, pk_us, be_slu hc]) (fun u hu => pk_un hu) (fun _ _ => rfl) (fun _ _ => rfl) (fun u hu => pk_un hu) (fun u hu => be_slo hc hu) (fun _ _ => rfl) (fun _ _ => rfl)
theorem be_soO {ln cO cP cN st bf ps rg fl sn sV sc sv oc ov : Nat → Int32} {t q : Nat} {b v : Int32} (hq : q < 12) (h : ∀ sg, be_in sg ln cO cP cN t (be_xs (ps, rg, fl, sn, sV, sc, sv, oc, ov) t) = (ps t + 1, be_sl rg 4 t, fl t, sc t, be_sl sv 16 t, b, upd (be_sl ov 12 t) q v)) : be_SO ln cO cP cN st bf (ps, rg, fl, sn, sV, sc, sv, oc, ov) (upd ps t (ps t + 1), rg, fl, sn, sV, sc, sv, upd oc t b, upd ov (12 * t + q) v) t :=
  be_so1 (fun sg => by rw [h sg, pk_us, pk_us, be_slu hq]) (fun u hu => pk_un hu) (fun _ _ => rfl) (fun _ _ => rfl) (fun _ _ => rfl) (fun _ _ => rfl) (fun u hu => pk_un hu) (fun u hu => be_slo hq hu)
theorem be_soF {ln cO cP cN st bf ps ps' rg fl sn sV sc sv oc ov : Nat → Int32} {t : Nat} {L : Int32} (h : ∀ sg, be_in sg ln cO cP cN t (be_xs (ps, rg, fl, sn, sV, sc, sv, oc, ov) t) = (L, be_sl rg 4 t, 1, 0, be_sl sv 16 t, 0, be_sl ov 12 t)) (e : ∀ u, u ≠ t → ps' u = ps u) : be_SO ln cO cP cN st bf (ps, rg, fl, sn, sV, sc, sv, oc, ov) (upd ps' t L, rg, upd fl t 1, sn, sV, upd sc t 0, sv, upd oc t 0, ov) t :=
  be_so1 (fun sg => by rw [h sg, pk_us, pk_us, pk_us, pk_us]) (fun u hu => (pk_un hu).trans (e u hu)) (fun _ _ => rfl) (fun u hu => pk_un hu) (fun u hu => pk_un hu) (fun _ _ => rfl) (fun u hu => pk_un hu) (fun _ _ => rfl)
theorem be_o12 {o : Nat} (h : o < 12) : o = 0 ∨ o = 1 ∨ o = 2 ∨ o = 3 ∨ o = 4 ∨ o = 5 ∨ o = 6 ∨ o = 7 ∨ o = 8 ∨ o = 9 ∨ o = 10 ∨ o = 11 := by omega
theorem be_co {f_workers f_stage f_count f_settled f_turn : Int32} {a_store a_length a_codeOperation a_codePlaces a_codeNumber a_before a_held a_state a_position a_registers a_failed a_seenCells a_seenValues a_storedCells a_storedValues a_outCount a_outValues : Nat → Int32} {post : SX → Prop} {t p q x o : Nat} (ht : t < 8) (hp : a_position t = nI p) (hp12 : p < 12) (hq : a_outCount t = nI q) (hq2 : q ≤ 12) (hx : x < 16) (ex : a_codePlaces (12 * t + p) = nI x) (ho : o < 12) (eo : a_codeOperation (12 * t + p) = nI o) (h : ∀ A', be_SO a_length a_codeOperation a_codePlaces a_codeNumber a_state a_before (a_position, a_registers, a_failed, a_seenCells, a_seenValues, a_storedCells, a_storedValues, a_outCount, a_outValues) A' t → post (f_workers, f_stage, f_count, f_settled, f_turn, a_store, a_length, a_codeOperation, a_codePlaces, a_codeNumber, a_before, a_held, a_state, A')) : wpX_carryOut post (f_workers, f_stage, f_count, f_settled, f_turn, a_store, a_length, a_codeOperation, a_codePlaces, a_codeNumber, a_before, a_held, a_state, a_position, a_registers, a_failed, a_seenCells, a_seenValues, a_storedCells, a_storedValues, a_outCount, a_outValues) (nI t) := by
  have hi : vp_in (nI t) 8 := vp_in_nI ht (by omega)
  have ec : (nI t).toNatClampNeg = t := nI_clamp (by omega)
  have cp : (nI p).toNatClampNeg = p := nI_clamp (by omega)
  have cx : (nI x).toNatClampNeg = x := nI_clamp (by omega)
  have hx4 : x / 4 < 4 := by omega
  have hm4 : x % 4 < 4 := by omega
  have hin : ∀ sg, be_in sg a_length a_codeOperation a_codePlaces a_codeNumber t (be_xs (a_position, a_registers, a_failed, a_seenCells, a_seenValues, a_storedCells, a_storedValues, a_outCount, a_outValues) t) = be_st sg (a_length t) (nI o) (x / 4) (x % 4) (a_codeNumber (12 * t + p)) (a_position t, be_sl a_registers 4 t, a_failed t, a_storedCells t, be_sl a_storedValues 16 t, a_outCount t, be_sl a_outValues 12 t) := fun sg => by
    show be_st sg (a_length t) (a_codeOperation (12 * t + (a_position t).toNatClampNeg)) ((a_codePlaces (12 * t + (a_position t).toNatClampNeg)).toNatClampNeg / 4) ((a_codePlaces (12 * t + (a_position t).toNatClampNeg)).toNatClampNeg % 4) (a_codeNumber (12 * t + (a_position t).toNatClampNeg)) (a_position t, be_sl a_registers 4 t, a_failed t, a_storedCells t, be_sl a_storedValues 16 t, a_outCount t, be_sl a_outValues 12 t) = _
    rw [show (a_position t).toNatClampNeg = p from by rw [hp]; exact cp, eo, ex, cx]
  refine ⟨hi, fun x2 e2 => ?_⟩
  have e2' : x2 = nI (12 * t + p) := by rw [e2, ec, hp]; exact be_ix 12 t p
  have hi2 : vp_in x2 96 := pk_in (12 * t + p) 96 (by omega) e2'
  have c2 : x2.toNatClampNeg = 12 * t + p := pk_cl _ e2' (by omega)
  refine ⟨hi2, fun x3 e3 => ⟨hi2, fun x4 e4 => ⟨hi2, fun x5 e5 => ⟨hi, hi, fun ps' eps => ⟨hi2, fun k ek => ?_⟩⟩⟩⟩⟩
  clear e2 e2'
  rw [c2] at e3 e4 e5 ek
  rw [ec] at eps
  have e3' : x3 = nI (4 * t + x / 4) := by
    rw [e3, ex, pk_shrN (by omega) _ 2 (by decide)]
    exact be_ix 4 t (x / 4)
  have e4' : x4 = nI (4 * t + x % 4) := by
    rw [e4, ex, pk_andN (by omega) 2 (by decide)]
    exact be_ix 4 t (x % 4)
  have hi3 : vp_in x3 32 := pk_in (4 * t + x / 4) 32 (by omega) e3'
  have c3 : x3.toNatClampNeg = 4 * t + x / 4 := pk_cl _ e3' (by omega)
  have hi4 : vp_in x4 32 := pk_in (4 * t + x % 4) 32 (by omega) e4'
  have c4 : x4.toNatClampNeg = 4 * t + x % 4 := pk_cl _ e4' (by omega)
  have r3 : a_registers (4 * t + x / 4) = be_sl a_registers 4 t (x / 4) := (be_sla hx4).symm
  have r4 : a_registers (4 * t + x % 4) = be_sl a_registers 4 t (x % 4) := (be_sla hm4).symm
  have hk : k = nI o := ek.trans eo
  clear e3 e3' e4 e4' ek hi2 c2
  subst hk eps e5
  rcases be_o12 ho with rfl | rfl | rfl | rfl | rfl | rfl | rfl | rfl | rfl | rfl | rfl | rfl
  · refine br_f (by decide) (br_f (by decide) (br_t (by decide) ⟨hi3, fun rg er => ?_⟩))
    rw [er, c3]
    exact h _ (be_soR hx4 (fun sg => by rw [hin, be_st0]))
  · refine br_f (by decide) (br_f (by decide) (br_f (by decide) (br_t (by decide) ⟨hi3, hi4, hi3, fun rg er => ?_⟩)))
    rw [er, c3, c4, r3, r4]
    exact h _ (be_soR hx4 (fun sg => by rw [hin, be_st1]))
  · refine br_f (by decide) (br_f (by decide) (br_f (by decide) (br_f (by decide) (br_t (by decide) ⟨hi3, hi4, hi3, fun rg er => ?_⟩))))
    rw [er, c3, c4, r3, r4]
    exact h _ (be_soR hx4 (fun sg => by rw [hin, be_st2]))
  · obtain ⟨c, hc, e15⟩ := be_m15 (a_codeNumber (12 * t + p))
    have cc : (nI c).toNatClampNeg = c := nI_clamp (by omega)
    refine br_f (by decide) (br_f (by decide) (br_f (by decide) (br_f (by decide) (br_f (by decide) (br_t (by decide) ?_)))))
    rw [e15]
    refine be_lk ht hc ?_
    intro v sn sV h1 h2 h3
    refine ⟨hi3, fun rg er => ?_⟩
    rw [er, c3]
    exact h _ (be_so2 (c := c) hx4 (fun sg => by rw [hin, be_st3, e15, cc]) h1 h2 h3)
  · obtain ⟨c, hc, e15⟩ := be_m15 (a_codeNumber (12 * t + p))
    have cc : (nI c).toNatClampNeg = c := nI_clamp (by omega)
    refine br_f (by decide) (br_f (by decide) (br_f (by decide) (br_f (by decide) (br_f (by decide) (br_f (by decide) (br_t (by decide) ⟨hi3, ?_⟩))))))
    rw [c3, r3, e15]
    exact be_kp ht hc (h _ (be_soK hc (fun sg => by rw [hin, be_st4, e15, cc])))
  · refine br_f (by decide) (br_f (by decide) (br_f (by decide) (br_f (by decide) (br_f (by decide) (br_f (by decide) (br_f (by decide) (br_t (by decide) ⟨hi3, hi4, hi3, fun rg er => ?_⟩)))))))
    rw [er, c3, c4, r3, r4]
    exact h _ (be_soR hx4 (fun sg => by rw [hin, be_st5]))
  · refine br_f (by decide) (br_f (by decide) (br_f (by decide) (br_f (by decide) (br_f (by decide) (br_f (by decide) (br_f (by decide) (br_f (by decide) (br_t (by decide) ⟨hi3, hi4, ?_⟩))))))))
    rw [c3, c4, r3, r4]
    by_cases z : be_sl a_registers 4 t (x % 4) ≤ be_sl a_registers 4 t (x / 4)
    · exact br_t z (h _ (be_soP (fun sg => by rw [hin, be_st6, if_pos z, pk_us]) (fun u hu => pk_un hu)))
    · refine br_f z ⟨hi, hi, fun ps2 e2 => ?_⟩
      rw [ec, pk_us] at e2
      rw [e2]
      exact h _ (be_soP (fun sg => by rw [hin, be_st6, if_neg z, pk_us]) (fun u hu => (pk_un hu).trans (pk_un hu)))
  · refine br_f (by decide) (br_f (by decide) (br_f (by decide) (br_f (by decide) (br_f (by decide) (br_f (by decide) (br_f (by decide) (br_f (by decide) (br_f (by decide) (br_t (by decide) ⟨hi3, ?_⟩)))))))))
    rw [c3, r3]
    by_cases z : a_codeNumber (12 * t + p) ≤ be_sl a_registers 4 t (x / 4)
    · exact br_t z (h _ (be_soP (fun sg => by rw [hin, be_st7, if_pos z, pk_us]) (fun u hu => pk_un hu)))
    · exact br_f z (be_fa ht (h _ (be_soF (fun sg => by rw [hin, be_st7, if_neg z]) (fun u hu => pk_un hu))))
  · refine br_f (by decide) (br_f (by decide) (br_f (by decide) (br_f (by decide) (br_f (by decide) (br_f (by decide) (br_f (by decide) (br_f (by decide) (br_f (by decide) (br_f (by decide) (br_t (by decide) ⟨hi3, ?_⟩))))))))))
    rw [c3, r3]
    refine be_po ht hq hq2 (fun e => h _ (be_soP (fun sg => ?_) (fun u hu => pk_un hu))) (fun g => h _ (be_soO g (fun sg => ?_)))
    · rw [hin, be_st8, if_pos (by rw [hq, e]; decide), pk_us]
    · rw [hin, be_st8, if_neg (by rw [hq]; exact nI_ge (b := 12) g (by omega)), show (a_outCount t).toNatClampNeg = q from by rw [hq]; exact nI_clamp (by omega)]
  · obtain ⟨c, hc, e15⟩ := be_m15 (be_sl a_registers 4 t (x % 4))
    have cc : (nI c).toNatClampNeg = c := nI_clamp (by omega)
    refine br_f (by decide) (br_f (by decide) (br_f (by decide) (br_f (by decide) (br_f (by decide) (br_f (by decide) (br_f (by decide) (br_f (by decide) (br_f (by decide) (br_f (by decide) (br_f (by decide) (br_t (by decide) ⟨hi4, ?_⟩)))))))))))
    rw [c4, r4, e15]
    refine be_lk ht hc ?_
    intro v sn sV h1 h2 h3
    refine ⟨hi3, fun rg er => ?_⟩
    rw [er, c3]
    exact h _ (be_so2 (c := c) hx4 (fun sg => by rw [hin, be_st9, e15, cc]) h1 h2 h3)
  · obtain ⟨c, hc, e15⟩ := be_m15 (be_sl a_registers 4 t (x % 4))
    have cc : (nI c).toNatClampNeg = c := nI_clamp (by omega)
    refine br_f (by decide) (br_f (by decide) (br_f (by decide) (br_f (by decide) (br_f (by decide) (br_f (by decide) (br_f (by decide) (br_f (by decide) (br_f (by decide) (br_f (by decide) (br_f (by decide) (br_f (by decide) (br_t (by decide) ⟨hi4, hi3, ?_⟩))))))))))))
    rw [c3, c4, r3, r4, e15]
    exact be_kp ht hc (h _ (be_soK hc (fun sg => by rw [hin, be_st10, e15, cc])))
  · refine br_f (by decide) (br_t (by decide) ⟨hi, hi, fun ps2 e2 => ?_⟩)
    rw [ec] at e2
    rw [e2]
    exact h _ (be_soP (fun sg => by rw [hin, be_st11, pk_us]) (fun u hu => (pk_un hu).trans (pk_un hu)))
end
section
/-- transaction t's arrays are what some instructions of it make, on every store that agrees with what it saw -/
def be_Hx (ln cO cP cN : Nat → Int32) (A : be_A) (t : Nat) : Prop :=
  ∃ (k : Nat) (sv ov : Nat → Int32), ∀ sg, be_Ag (be_sn A) (be_sV A) t sg → be_xs A t = be_it (be_ms sg ln cO cP cN t) k (be_c0 sv ov)
theorem be_hxE {ln cO cP cN : Nat → Int32} {A A' : be_A} {t : Nat} (e : be_Eq A A' t) (h : be_Hx ln cO cP cN A t) : be_Hx ln cO cP cN A' t := by
  obtain ⟨k, sv, ov, h⟩ := h
  exact ⟨k, sv, ov, fun sg g => e.1.trans (h sg ((be_agE e sg).mp g))⟩
theorem be_hxB {ln cO cP cN : Nat → Int32} {A : be_A} {t l : Nat} (hL : ln t = nI l) (hl : l ≤ 12) (h : be_Hx ln cO cP cN A t) : be_BI (ln t) (be_xs A t) := by
  obtain ⟨k, sv, ov, h⟩ := h
  rw [h (fun c => be_sV A (16 * t + c)) (fun c _ _ => rfl)]
  exact be_biI hL hl k
theorem be_hx0 {ln cO cP cN sv ov : Nat → Int32} {A : be_A} {t : Nat} (h : be_xs A t = be_c0 sv ov) : be_Hx ln cO cP cN A t := ⟨0, sv, ov, fun _ _ => h⟩
theorem be_xs1 (A : be_A) (t : Nat) : (be_xs A t).1 = be_ps A t := rfl
theorem be_hxS {ln cO cP cN st bf : Nat → Int32} {A A' : be_A} {t : Nat} (S : be_SO ln cO cP cN st bf A A' t) (hp : be_ps A t < ln t) (h : be_Hx ln cO cP cN A t) : be_Hx ln cO cP cN A' t := by
  obtain ⟨k, sv, ov, h⟩ := h
  refine ⟨k + 1, sv, ov, fun sg g => ?_⟩
  obtain ⟨g1, e1⟩ := S.1 sg g
  show _ = be_ms sg ln cO cP cN t (be_it (be_ms sg ln cO cP cN t) k (be_c0 sv ov))
  rw [← h sg g1, e1]
  unfold be_ms
  rw [if_pos (show (be_xs A t).1 < ln t from hp)]
/-! who holds what -/
def be_HD (W m s : Nat) (hd st : Nat → Int32) : Prop :=
  (∀ w, w < 8 → hd w = -1 ∨ ∃ t, hd w = nI t ∧ s ≤ t ∧ t < m ∧ st t = 1) ∧ (∀ w w' t, w < 8 → w' < 8 → t < 8 → hd w = nI t → hd w' = nI t → w = w') ∧ (∀ t, t < m → st t = 1 → ∃ w, w < W ∧ hd w = nI t)
theorem be_nm : ∀ t, t < 8 → ¬ nI t = -1 := by decide +kernel
theorem be_nI8 {a b : Nat} (ha : a < 8) (hb : b < 8) (h : nI a = nI b) : a = b := (nI_eq (by omega) (by omega)).mp h
theorem be_hdT {W m s w t : Nat} {hd st : Nat → Int32} (hW : W ≤ 8) (hm : m ≤ 8) (hw : w < W) (hst : s ≤ t) (htm : t < m) (h0 : st t = 0) (hf : hd w = -1) (H : be_HD W m s hd st) : be_HD W m s (upd hd w (nI t)) (upd st t 1) := by
  obtain ⟨g1, g2, g3⟩ := H
  have no : ∀ w', w' < 8 → ¬ hd w' = nI t := fun w' hw' e => by
    rcases g1 w' hw' with q | ⟨t', q, _, q2, q3⟩
    · exact be_nm t (by omega) (e.symm.trans q)
    · have := be_nI8 (by omega) (by omega) (e.symm.trans q)
      subst this
      rw [h0] at q3
      exact absurd q3 (by decide)
  refine ⟨fun w' hw' => ?_, fun w1 w2 t' h1 h2 h3 e1 e2 => ?_, fun t' ht' e => ?_⟩
  · by_cases z : w' = w
    · subst z
      exact Or.inr ⟨t, pk_us, hst, htm, pk_us⟩
    · rw [pk_un z]
      rcases g1 w' hw' with q | ⟨t', q, q1, q2, q3⟩
      · exact Or.inl q
      · refine Or.inr ⟨t', q, q1, q2, ?_⟩
        rw [pk_un (fun e : t' = t => no w' hw' (e ▸ q))]
        exact q3
  · by_cases z1 : w1 = w
    · by_cases z2 : w2 = w
      · exact z1.trans z2.symm
      · subst z1
        rw [pk_us] at e1
        rw [pk_un z2] at e2
        exact absurd (e2.trans e1.symm) (no w2 h2)
    · by_cases z2 : w2 = w
      · subst z2
        rw [pk_us] at e2
        rw [pk_un z1] at e1
        exact absurd (e1.trans e2.symm) (no w1 h1)
      · rw [pk_un z1] at e1
        rw [pk_un z2] at e2
        exact g2 w1 w2 t' h1 h2 h3 e1 e2
  · by_cases z : t' = t
    · subst z
      exact ⟨w, hw, pk_us⟩
    · rw [pk_un z] at e
      obtain ⟨w', hw', q⟩ := g3 t' ht' e
      refine ⟨w', hw', ?_⟩
      rw [pk_un (fun e => be_nm t' (by omega) (by rw [← q, e]; exact hf))]
      exact q
theorem be_hdD {W m s w t : Nat} {hd st : Nat → Int32} (hW : W ≤ 8) (hm : m ≤ 8) (hw : w < W) (htm : t < m) (hf : hd w = nI t) (H : be_HD W m s hd st) : be_HD W m s (upd hd w (-1)) (upd st t 2) := by
  obtain ⟨g1, g2, g3⟩ := H
  refine ⟨fun w' hw' => ?_, fun w1 w2 t' h1 h2 h3 e1 e2 => ?_, fun t' ht' e => ?_⟩
  · by_cases z : w' = w
    · subst z
      exact Or.inl pk_us
    · rw [pk_un z]
      rcases g1 w' hw' with q | ⟨t', q, q1, q2, q3⟩
      · exact Or.inl q
      · refine Or.inr ⟨t', q, q1, q2, ?_⟩
        rw [pk_un (fun e : t' = t => z (g2 w' w t hw' (by omega) (by omega) (e ▸ q) hf))]
        exact q3
  · by_cases z1 : w1 = w
    · subst z1
      rw [pk_us] at e1
      exact absurd e1.symm (be_nm t' h3)
    · by_cases z2 : w2 = w
      · subst z2
        rw [pk_us] at e2
        exact absurd e2.symm (be_nm t' h3)
      · rw [pk_un z1] at e1
        rw [pk_un z2] at e2
        exact g2 w1 w2 t' h1 h2 h3 e1 e2
  · by_cases z : t' = t
    · subst z
      rw [pk_us] at e
      exact absurd e (by decide)
    · rw [pk_un z] at e
      obtain ⟨w', hw', q⟩ := g3 t' ht' e
      refine ⟨w', hw', ?_⟩
      rw [pk_un (fun e => z (be_nI8 (by omega) (by omega) (by rw [← q, e]; exact hf)))]
      exact q
theorem be_hdS {W m s t : Nat} {x : Int32} {hd st : Nat → Int32} (s' : Nat) (hx : ¬ x = 1) (h2 : ¬ st t = 1) (hs : ∀ u, s ≤ u → ¬ u = t → s' ≤ u) (H : be_HD W m s hd st) : be_HD W m s' hd (upd st t x) := by
  obtain ⟨g1, g2, g3⟩ := H
  refine ⟨fun w' hw' => ?_, g2, fun t' ht' e => ?_⟩
  · rcases g1 w' hw' with q | ⟨t', q, q1, q2, q3⟩
    · exact Or.inl q
    · have z : t' ≠ t := fun e => h2 (e ▸ q3)
      exact Or.inr ⟨t', q, hs t' q1 z, q2, by rw [pk_un z]; exact q3⟩
  · by_cases z : t' = t
    · subst z
      rw [pk_us] at e
      exact absurd e hx
    · rw [pk_un z] at e
      exact g3 t' ht' e
/-! the invariant of a block that runs -/
def be_RI (W m s : Nat) (ln cO cP cN bf hd st : Nat → Int32) (A : be_A) : Prop :=
  s ≤ m ∧ (∀ t, t < s → st t = 3) ∧ (∀ t, s ≤ t → t < m → st t = 0 ∨ st t = 1 ∨ st t = 2) ∧ (∀ t, t < s → be_Ag (be_sn A) (be_sV A) t (be_vb st (be_sc A) (be_sv A) bf t)) ∧ (∀ t, t < m → ¬ st t = 0 → be_Hx ln cO cP cN A t) ∧ (∀ t, t < m → st t = 1 → (be_ps A t).toNatClampNeg ≤ 12) ∧ (∀ t, t < m → st t = 2 ∨ st t = 3 → ¬ be_ps A t < ln t) ∧ be_HD W m s hd st
theorem be_vbF {st st' bf : Nat → Int32} {A A' : be_A} {t u : Nat} (hu : u ≤ t) (h1 : ∀ v, v ≠ t → st' v = st v) (h2 : ∀ v, v ≠ t → be_Eq A A' v) : be_vb st' (be_sc A') (be_sv A') bf u = be_vb st (be_sc A) (be_sv A) bf u :=
  be_vbc u (fun v hv => ⟨by rw [h1 v (by omega)], be_eqsc (h2 v (by omega)), be_eqsv (h2 v (by omega))⟩)
theorem be_RIt {W m s t : Nat} {ln cO cP cN bf hd hd' st st' : Nat → Int32} {A A' : be_A} (I : be_RI W m s ln cO cP cN bf hd st A) (hs : s ≤ t) (h1 : ∀ v, v ≠ t → st' v = st v) (h2 : ∀ v, v ≠ t → be_Eq A A' v) (n1 : st' t = 0 ∨ st' t = 1 ∨ st' t = 2) (n2 : ¬ st' t = 0 → be_Hx ln cO cP cN A' t) (n3 : st' t = 1 → (be_ps A' t).toNatClampNeg ≤ 12) (n4 : st' t = 2 → ¬ be_ps A' t < ln t) (g : be_HD W m s hd' st') : be_RI W m s ln cO cP cN bf hd' st' A' := by
  obtain ⟨i1, i2, i3, i4, i5, i6, i7, _⟩ := I
  refine ⟨i1, fun u hu => ?_, fun u h h' => ?_, fun u hu => ?_, fun u hu hz => ?_, fun u hu hz => ?_, fun u hu hz => ?_, g⟩
  · rw [h1 u (by omega)]
    exact i2 u hu
  · by_cases e : u = t
    · rw [e]
      exact n1
    · rw [h1 u e]
      exact i3 u h h'
  · rw [be_vbF (by omega) h1 h2]
    exact (be_agE (h2 u (by omega)) _).mpr (i4 u hu)
  · by_cases e : u = t
    · subst e
      exact n2 hz
    · exact be_hxE (h2 u e) (i5 u hu (by rw [← h1 u e]; exact hz))
  · by_cases e : u = t
    · subst e
      exact n3 hz
    · rw [be_eqps (h2 u e)]
      exact i6 u hu (by rw [← h1 u e]; exact hz)
  · by_cases e : u = t
    · subst e
      rcases hz with hz | hz
      · exact n4 hz
      · rcases n1 with q | q | q <;> rw [q] at hz <;> exact absurd hz (by decide)
    · rw [be_eqps (h2 u e)]
      exact i7 u hu (by rw [← h1 u e]; exact hz)
/-- no failed transaction keeps stores or outs (also what an earlier block left) -/
def be_G (A : be_A) : Prop := ∀ t, t < 8 → be_fl A t = 0 ∨ (be_sc A t = 0 ∧ be_oc A t = 0)
theorem be_Gt {A A' : be_A} {t : Nat} (h : be_G A) (h2 : ∀ v, v ≠ t → be_Eq A A' v) (n : be_fl A' t = 0 ∨ (be_sc A' t = 0 ∧ be_oc A' t = 0)) : be_G A' := fun u hu => by
  by_cases e : u = t
  · rw [e]
    exact n
  · rw [be_eqfl (h2 u e), be_eqsc (h2 u e), be_eqoc (h2 u e)]
    exact h u hu
theorem be_GB {L : Int32} {A : be_A} {t : Nat} (h : be_BI L (be_xs A t)) : be_fl A t = 0 ∨ (be_sc A t = 0 ∧ be_oc A t = 0) := by
  obtain ⟨ps, rg, fl, sn, sV, sc, sv, oc, ov⟩ := A
  obtain ⟨p, q, _, _, _, _, _, h⟩ := h
  rcases h with h | h
  · exact Or.inl h
  · exact Or.inr ⟨h.2.1, h.2.2.1⟩
/-- r is 0 only if the first unsettled one has been sent back already -/
def be_R (m s r : Nat) (bf st : Nat → Int32) (A : be_A) : Prop := r = 16 ∨ (r = 0 ∧ (s < m → ¬ st s = 0 → be_Ag (be_sn A) (be_sV A) s (be_vb st (be_sc A) (be_sv A) bf s)))
def be_w (st ps : Nat → Int32) (t : Nat) : Nat := if st t = 0 then 15 else if st t = 1 then 14 - (ps t).toNatClampNeg else if st t = 2 then 1 else 0
theorem be_w0 {st ps : Nat → Int32} {t : Nat} (h : st t = 0) : be_w st ps t = 15 := if_pos h
theorem be_w1 {st ps : Nat → Int32} {t : Nat} (h : st t = 1) : be_w st ps t = 14 - (ps t).toNatClampNeg := by
  unfold be_w
  rw [h, if_neg (by decide), if_pos rfl]
theorem be_w2 {st ps : Nat → Int32} {t : Nat} (h : st t = 2) : be_w st ps t = 1 := by
  unfold be_w
  rw [h, if_neg (by decide), if_neg (by decide), if_pos rfl]
theorem be_w3 {st ps : Nat → Int32} {t : Nat} (h : st t = 3) : be_w st ps t = 0 := by
  unfold be_w
  rw [h, if_neg (by decide), if_neg (by decide), if_neg (by decide)]
theorem be_wb (st ps : Nat → Int32) (t : Nat) : be_w st ps t ≤ 15 := by
  unfold be_w
  split
  · omega
  split
  · omega
  split <;> omega
theorem be_we {st st' ps ps' : Nat → Int32} {t : Nat} (h1 : st' t = st t) (h2 : ps' t = ps t) : be_w st' ps' t = be_w st ps t := by
  unfold be_w
  rw [h1, h2]
def be_mu (m s r : Nat) (st ps : Nat → Int32) : Nat := be_sm (be_w st ps) m + 16 * (m - s) + r
def be_J (W m s r : Nat) (ln cO cP cN bf hd st : Nat → Int32) (A : be_A) : Prop := be_RI W m s ln cO cP cN bf hd st A ∧ be_R m s r bf st A ∧ be_G A
/-- what the building of a block keeps -/
def be_C (W m : Nat) (ln cO cP : Nat → Int32) : Prop := 1 ≤ W ∧ W ≤ 8 ∧ m ≤ 8 ∧ (∀ t, t < 8 → ∃ l, l ≤ 12 ∧ ln t = nI l) ∧ (∀ i, ∃ x, x < 16 ∧ cP i = nI x) ∧ (∀ i, ∃ o, o < 12 ∧ cO i = nI o)
/-! the four kinds of steps -/
theorem be_cA {W m s r : Nat} {ln cO cP cN bf hd st : Nat → Int32} {A : be_A} (hs : s < m) (J : be_J W m s r ln cO cP cN bf hd st A) (h2 : st s = 2) (hg : be_Ag (be_sn A) (be_sV A) s (be_vb st (be_sc A) (be_sv A) bf s)) : be_J W m (s + 1) 16 ln cO cP cN bf hd (upd st s 3) A ∧ be_mu m (s + 1) 16 (upd st s 3) (be_ps A) < be_mu m s r st (be_ps A) := by
  obtain ⟨⟨i1, i2, i3, i4, i5, i6, i7, i8⟩, _, G⟩ := J
  have h1 : ∀ v, v ≠ s → upd st s 3 v = st v := fun v hv => pk_un hv
  have hv : ∀ u, u ≤ s → be_vb (upd st s 3) (be_sc A) (be_sv A) bf u = be_vb st (be_sc A) (be_sv A) bf u := fun u hu => be_vbF hu h1 (fun v _ => be_eqr A v)
  refine ⟨⟨⟨by omega, fun u hu => ?_, fun u h h' => ?_, fun u hu => ?_, fun u hu hz => ?_, fun u hu hz => ?_, fun u hu hz => ?_, ?_⟩, Or.inl rfl, G⟩, ?_⟩
  · by_cases e : u = s
    · rw [e, pk_us]
    · rw [h1 u e]
      exact i2 u (by omega)
  · rw [h1 u (by omega)]
    exact i3 u (by omega) h'
  · rw [hv u (by omega)]
    by_cases e : u = s
    · rw [e]
      exact hg
    · exact i4 u (by omega)
  · by_cases e : u = s
    · rw [e]
      exact i5 s hs (by rw [h2]; decide)
    · rw [h1 u e] at hz
      exact i5 u hu hz
  · by_cases e : u = s
    · rw [e, pk_us] at hz
      exact absurd hz (by decide)
    · rw [h1 u e] at hz
      exact i6 u hu hz
  · by_cases e : u = s
    · rw [e]
      exact i7 s hs (Or.inl h2)
    · rw [h1 u e] at hz
      exact i7 u hu hz
  · exact be_hdS (s + 1) (by decide) (by rw [h2]; decide) (fun u hu hne => by omega) i8
  · have hsum := be_sm1 (f := be_w (upd st s 3) (be_ps A)) (g := be_w st (be_ps A)) m hs (fun i hi => be_we (h1 i hi) rfl)
    rw [be_w3 (st := upd st s 3) pk_us, be_w2 h2] at hsum
    unfold be_mu
    omega
theorem be_cB {W m s r : Nat} {ln cO cP cN bf hd st : Nat → Int32} {A : be_A} (hs : s < m) (J : be_J W m s r ln cO cP cN bf hd st A) (h2 : st s = 2) (hg : ¬ be_Ag (be_sn A) (be_sV A) s (be_vb st (be_sc A) (be_sv A) bf s)) : be_J W m s 0 ln cO cP cN bf hd (upd st s 0) A ∧ be_mu m s 0 (upd st s 0) (be_ps A) < be_mu m s r st (be_ps A) := by
  obtain ⟨I, R, G⟩ := J
  have h1 : ∀ v, v ≠ s → upd st s 0 v = st v := fun v hv => pk_un hv
  refine ⟨⟨?_, Or.inr ⟨rfl, fun _ q => absurd pk_us q⟩, G⟩, ?_⟩
  · exact be_RIt I (Nat.le_refl s) h1 (fun v _ => be_eqr A v) (Or.inl pk_us) (fun q => absurd pk_us q) (fun q => absurd (pk_us.symm.trans q) (by decide)) (fun q => absurd (pk_us.symm.trans q) (by decide)) (be_hdS s (by decide) (by rw [h2]; decide) (fun u hu _ => hu) I.2.2.2.2.2.2.2)
  · have hr : r = 16 := by
      rcases R with q | q
      · exact q
      · exact absurd (q.2 hs (by rw [h2]; decide)) hg
    have hsum := be_sm1 (f := be_w (upd st s 0) (be_ps A)) (g := be_w st (be_ps A)) m hs (fun i hi => be_we (h1 i hi) rfl)
    rw [be_w0 (st := upd st s 0) pk_us, be_w2 h2] at hsum
    unfold be_mu
    omega
theorem be_cC {W m s r t w : Nat} {ln cO cP cN bf hd st sv ov : Nat → Int32} {A A' : be_A} (C : be_C W m ln cO cP) (J : be_J W m s r ln cO cP cN bf hd st A) (hst : s ≤ t) (htm : t < m) (hw : w < W) (h0 : st t = 0) (hf : hd w = -1) (e1 : be_xs A' t = be_c0 sv ov) (e2 : be_sn A' t = 0) (e3 : ∀ v, v ≠ t → be_Eq A A' v) : be_J W m s r ln cO cP cN bf (upd hd w (nI t)) (upd st t 1) A' ∧ be_mu m s r (upd st t 1) (be_ps A') < be_mu m s r st (be_ps A) := by
  obtain ⟨I, R, G⟩ := J
  obtain ⟨_, hW, hm, _⟩ := C
  have h1 : ∀ v, v ≠ t → upd st t 1 v = st v := fun v hv => pk_un hv
  have ep : be_ps A' t = 0 := congrArg (fun s : be_S => s.1) e1
  refine ⟨⟨?_, ?_, ?_⟩, ?_⟩
  · exact be_RIt I hst h1 e3 (Or.inr (Or.inl pk_us)) (fun _ => be_hx0 e1) (fun _ => by rw [ep]; decide) (fun q => absurd (pk_us.symm.trans q) (by decide)) (be_hdT hW hm hw hst htm h0 hf I.2.2.2.2.2.2.2)
  · rcases R with q | ⟨q1, q2⟩
    · exact Or.inl q
    · refine Or.inr ⟨q1, fun hsm hz => ?_⟩
      by_cases e : s = t
      · intro c hc hb
        rw [e, e2, b_0] at hb
        exact absurd hb (by decide)
      · rw [be_vbF hst h1 e3]
        rw [h1 s e] at hz
        exact (be_agE (e3 s e) _).mpr (q2 hsm hz)
  · exact be_Gt G e3 (Or.inl (congrArg (fun s : be_S => s.2.2.1) e1))
  · have hsum := be_sm1 (f := be_w (upd st t 1) (be_ps A')) (g := be_w st (be_ps A)) m htm (fun i hi => be_we (h1 i hi) (be_eqps (e3 i hi)))
    rw [be_w1 (st := upd st t 1) pk_us, be_w0 h0] at hsum
    unfold be_mu
    omega
theorem be_cD {W m s r t : Nat} {ln cO cP cN bf hd hd' st st' : Nat → Int32} {A A' : be_A} {x : Int32} (C : be_C W m ln cO cP) (J : be_J W m s r ln cO cP cN bf hd st A) (hst : s ≤ t) (htm : t < m) (h0 : st t = 1) (hx : (x = 1 ∧ (be_ps A' t).toNatClampNeg ≤ 12 ∧ (be_ps A t).toNatClampNeg < (be_ps A' t).toNatClampNeg) ∨ (x = 2 ∧ ¬ be_ps A' t < ln t)) (e0 : st' = upd st t x) (e1 : be_Hx ln cO cP cN A' t) (e2 : be_Ag (be_sn A) (be_sV A) t (be_vb st (be_sc A) (be_sv A) bf t) → be_Ag (be_sn A') (be_sV A') t (be_vb st (be_sc A) (be_sv A) bf t)) (e3 : ∀ v, v ≠ t → be_Eq A A' v) (H : be_HD W m s hd' st') : be_J W m s r ln cO cP cN bf hd' st' A' ∧ be_mu m s r st' (be_ps A') < be_mu m s r st (be_ps A) := by
  subst e0
  obtain ⟨I, R, G⟩ := J
  obtain ⟨_, hW, hm, hl, _⟩ := C
  have hp := I.2.2.2.2.2.1 t htm h0
  have h1 : ∀ v, v ≠ t → upd st t x v = st v := fun v hv => pk_un hv
  have hs : upd st t x t = x := pk_us
  obtain ⟨l, hl12, hL⟩ := hl t (by omega)
  refine ⟨⟨?_, ?_, ?_⟩, ?_⟩
  · refine be_RIt I hst h1 e3 ?_ (fun _ => e1) (fun q => ?_) (fun q => ?_) H
    · rw [hs]
      rcases hx with q | q
      · exact Or.inr (Or.inl q.1)
      · exact Or.inr (Or.inr q.1)
    · rw [hs] at q
      rcases hx with q' | q'
      · exact q'.2.1
      · exact absurd (q'.1.symm.trans q) (by decide)
    · rw [hs] at q
      rcases hx with q' | q'
      · exact absurd (q'.1.symm.trans q) (by decide)
      · exact q'.2
  · rcases R with q | ⟨q1, q2⟩
    · exact Or.inl q
    · refine Or.inr ⟨q1, fun hsm hz => ?_⟩
      rw [be_vbF hst h1 e3]
      by_cases e : s = t
      · subst e
        exact e2 (q2 hsm (by rw [h0]; decide))
      · rw [h1 s e] at hz
        exact (be_agE (e3 s e) _).mpr (q2 hsm hz)
  · exact be_Gt G e3 (be_GB (be_hxB hL hl12 e1))
  · have hsum := be_sm1 (f := be_w (upd st t x) (be_ps A')) (g := be_w st (be_ps A)) m htm (fun i hi => be_we (h1 i hi) (be_eqps (e3 i hi)))
    rw [be_w1 h0] at hsum
    rcases hx with q | q
    · rw [be_w1 (st := upd st t x) (hs.trans q.1)] at hsum
      unfold be_mu
      omega
    · rw [be_w2 (st := upd st t x) (hs.trans q.1)] at hsum
      unfold be_mu
      omega
end
section
/-! settle, take, goOn, makeSteps -/
theorem be_se {f_workers f_stage f_count f_settled f_turn : Int32} {a_store a_length a_codeOperation a_codePlaces a_codeNumber a_before a_held a_state a_position a_registers a_failed a_seenCells a_seenValues a_storedCells a_storedValues a_outCount a_outValues : Nat → Int32} {post : SX → Prop} {W m s r : Nat} (hm8 : m ≤ 8) (hs : f_settled = nI s) (hsm : s < m) (J : be_J W m s r a_length a_codeOperation a_codePlaces a_codeNumber a_before a_held a_state (a_position, a_registers, a_failed, a_seenCells, a_seenValues, a_storedCells, a_storedValues, a_outCount, a_outValues)) (z : a_state s = 2) (h : ∀ (s' r' : Nat) (st : Nat → Int32), be_J W m s' r' a_length a_codeOperation a_codePlaces a_codeNumber a_before a_held st (a_position, a_registers, a_failed, a_seenCells, a_seenValues, a_storedCells, a_storedValues, a_outCount, a_outValues) → be_mu m s' r' st a_position < be_mu m s r a_state a_position → post (f_workers, f_stage, f_count, nI s', f_turn, a_store, a_length, a_codeOperation, a_codePlaces, a_codeNumber, a_before, a_held, st, a_position, a_registers, a_failed, a_seenCells, a_seenValues, a_storedCells, a_storedValues, a_outCount, a_outValues)) : wpX_settle post (f_workers, f_stage, f_count, f_settled, f_turn, a_store, a_length, a_codeOperation, a_codePlaces, a_codeNumber, a_before, a_held, a_state, a_position, a_registers, a_failed, a_seenCells, a_seenValues, a_storedCells, a_storedValues, a_outCount, a_outValues) := by
  subst hs
  have hi : vp_in (nI s) 8 := vp_in_nI (by omega) (by omega)
  have cs : (nI s).toNatClampNeg = s := nI_clamp (by omega)
  unfold wpX_settle
  dsimp only
  refine be_ss (by omega) (fun g => ?_) (fun g => ?_)
  · refine br_f (by decide) ⟨hi, fun st est y ey => ?_⟩
    have c := be_cA hsm J z g
    rw [est, ey, nI_1, cs]
    exact h _ _ _ c.1 c.2
  · refine br_t rfl ⟨hi, fun st est => ?_⟩
    have c := be_cB hsm J z g
    rw [est, cs]
    exact h _ _ _ c.1 c.2
theorem be_tk {f_workers f_stage f_count f_settled f_turn : Int32} {a_store a_length a_codeOperation a_codePlaces a_codeNumber a_before a_held a_state a_position a_registers a_failed a_seenCells a_seenValues a_storedCells a_storedValues a_outCount a_outValues : Nat → Int32} {post : SX → Prop} {W m s r w t : Nat} (C : be_C W m a_length a_codeOperation a_codePlaces) (J : be_J W m s r a_length a_codeOperation a_codePlaces a_codeNumber a_before a_held a_state (a_position, a_registers, a_failed, a_seenCells, a_seenValues, a_storedCells, a_storedValues, a_outCount, a_outValues)) (hw : w < W) (hf : a_held w = -1) (h1 : s ≤ t) (h2 : t < m) (h3 : a_state t = 0) (h : ∀ (hd st : Nat → Int32) (A : be_A), be_J W m s r a_length a_codeOperation a_codePlaces a_codeNumber a_before hd st A → be_mu m s r st (be_ps A) < be_mu m s r a_state a_position → post (f_workers, f_stage, f_count, f_settled, f_turn, a_store, a_length, a_codeOperation, a_codePlaces, a_codeNumber, a_before, hd, st, A)) : wpX_take post (f_workers, f_stage, f_count, f_settled, f_turn, a_store, a_length, a_codeOperation, a_codePlaces, a_codeNumber, a_before, a_held, a_state, a_position, a_registers, a_failed, a_seenCells, a_seenValues, a_storedCells, a_storedValues, a_outCount, a_outValues) (nI w) (nI t) := by
  have hW8 : W ≤ 8 := C.2.1
  have hm8 : m ≤ 8 := C.2.2.1
  have hit : vp_in (nI t) 8 := vp_in_nI (by omega) (by omega)
  have ct : (nI t).toNatClampNeg = t := nI_clamp (by omega)
  have hiw : vp_in (nI w) 8 := vp_in_nI (by omega) (by omega)
  have cw : (nI w).toNatClampNeg = w := nI_clamp (by omega)
  unfold wpX_take
  dsimp only
  refine be_cl (by omega) ?_
  intro rg hr1 hr2
  refine ⟨hit, fun st est => ⟨hiw, fun hd ehd => ?_⟩⟩
  rw [est, ehd, ct, cw]
  have e1 : be_xs (upd a_position t 0, rg, upd a_failed t 0, upd a_seenCells t 0, a_seenValues, upd a_storedCells t 0, a_storedValues, upd a_outCount t 0, a_outValues) t = be_c0 (be_sl a_storedValues 16 t) (be_sl a_outValues 12 t) := by
    show (upd a_position t 0 t, be_sl rg 4 t, upd a_failed t 0 t, upd a_storedCells t 0 t, be_sl a_storedValues 16 t, upd a_outCount t 0 t, be_sl a_outValues 12 t) = (0, fun _ => 0, 0, 0, be_sl a_storedValues 16 t, 0, be_sl a_outValues 12 t)
    rw [hr1, pk_us, pk_us, pk_us, pk_us]
  have c := be_cC C J h1 h2 hw h3 hf e1 pk_us (fun v hv => be_eqi (pk_un hv) (hr2 v hv) (pk_un hv) (pk_un hv) rfl (pk_un hv) rfl (pk_un hv) rfl)
  exact h _ _ _ c.1 c.2
theorem be_s39 {f_workers f_stage f_count f_settled f_turn : Int32} {a_store a_length a_codeOperation a_codePlaces a_codeNumber a_before a_held a_state a_position a_registers a_failed a_seenCells a_seenValues a_storedCells a_storedValues a_outCount a_outValues : Nat → Int32} {post : SX → Prop} {w t : Nat} (hw : w < 8) (ht : t < 8) (h1 : a_position t < a_length t → post (f_workers, f_stage, f_count, f_settled, f_turn, a_store, a_length, a_codeOperation, a_codePlaces, a_codeNumber, a_before, a_held, a_state, a_position, a_registers, a_failed, a_seenCells, a_seenValues, a_storedCells, a_storedValues, a_outCount, a_outValues)) (h2 : ¬ a_position t < a_length t → post (f_workers, f_stage, f_count, f_settled, f_turn, a_store, a_length, a_codeOperation, a_codePlaces, a_codeNumber, a_before, upd a_held w (-1), upd a_state t 2, a_position, a_registers, a_failed, a_seenCells, a_seenValues, a_storedCells, a_storedValues, a_outCount, a_outValues)) : wX_goOn_33 post (nI w) (nI t) f_workers f_stage f_count f_settled f_turn a_store a_length a_codeOperation a_codePlaces a_codeNumber a_before a_held a_state a_position a_registers a_failed a_seenCells a_seenValues a_storedCells a_storedValues a_outCount a_outValues := by
  have hi : vp_in (nI t) 8 := vp_in_nI ht (by omega)
  have ct : (nI t).toNatClampNeg = t := nI_clamp (by omega)
  have hiw : vp_in (nI w) 8 := vp_in_nI hw (by omega)
  have cw : (nI w).toNatClampNeg = w := nI_clamp (by omega)
  refine ⟨hi, hi, ?_⟩
  rw [ct]
  by_cases z : a_position t < a_length t
  · exact br_t z (h1 z)
  · refine br_f z ⟨hi, fun st est => ⟨hiw, fun hd ehd => ?_⟩⟩
    rw [est, ehd, cw]
    exact h2 z
theorem be_upds {f : Nat → Int32} {t : Nat} {x : Int32} (h : f t = x) : f = upd f t x := by
  funext j
  by_cases e : j = t
  · rw [e, pk_us]
    exact h
  · rw [pk_un e]
theorem be_gO {f_workers f_stage f_count f_settled f_turn : Int32} {a_store a_length a_codeOperation a_codePlaces a_codeNumber a_before a_held a_state a_position a_registers a_failed a_seenCells a_seenValues a_storedCells a_storedValues a_outCount a_outValues : Nat → Int32} {post : SX → Prop} {W m s r w : Nat} (C : be_C W m a_length a_codeOperation a_codePlaces) (J : be_J W m s r a_length a_codeOperation a_codePlaces a_codeNumber a_before a_held a_state (a_position, a_registers, a_failed, a_seenCells, a_seenValues, a_storedCells, a_storedValues, a_outCount, a_outValues)) (hw : w < W) (z : ¬ a_held w = -1) (h : ∀ (hd st : Nat → Int32) (A : be_A), be_J W m s r a_length a_codeOperation a_codePlaces a_codeNumber a_before hd st A → be_mu m s r st (be_ps A) < be_mu m s r a_state a_position → post (f_workers, f_stage, f_count, f_settled, f_turn, a_store, a_length, a_codeOperation, a_codePlaces, a_codeNumber, a_before, hd, st, A)) : wpX_goOn post (f_workers, f_stage, f_count, f_settled, f_turn, a_store, a_length, a_codeOperation, a_codePlaces, a_codeNumber, a_before, a_held, a_state, a_position, a_registers, a_failed, a_seenCells, a_seenValues, a_storedCells, a_storedValues, a_outCount, a_outValues) (nI w) := by
  have hW8 : W ≤ 8 := C.2.1
  have hm8 : m ≤ 8 := C.2.2.1
  have hiw : vp_in (nI w) 8 := vp_in_nI (by omega) (by omega)
  have cw : (nI w).toNatClampNeg = w := nI_clamp (by omega)
  refine ⟨hiw, fun x3 e3 => ?_⟩
  rw [cw] at e3
  have I := J.1
  rcases I.2.2.2.2.2.2.2.1 w (by omega) with q | ⟨t, q, q1, q2, q3⟩
  · exact absurd q z
  · have ht : t < 8 := by omega
    have hit : vp_in (nI t) 8 := vp_in_nI ht (by omega)
    have ct : (nI t).toNatClampNeg = t := nI_clamp (by omega)
    have e3' : x3 = nI t := e3.trans q
    subst e3'
    clear e3
    have Hx := I.2.2.2.2.1 t q2 (by rw [q3]; decide)
    obtain ⟨l, hl12, hL⟩ := C.2.2.2.1 t ht
    obtain ⟨p, oq, hp, hoq, _, hoq12, hp13, _⟩ := be_hxB hL hl12 Hx
    have hend : be_HD W m s (upd a_held w (-1)) (upd a_state t 2) := be_hdD hW8 hm8 hw q2 q I.2.2.2.2.2.2.2
    refine br_f (be_nm t ht) ⟨hit, hit, ?_⟩
    rw [ct]
    by_cases zz : a_length t ≤ a_position t
    · refine br_t zz (be_s39 (by omega) ht (fun g => absurd g (Int32.not_lt.mpr zz)) (fun g => ?_))
      have c := be_cD (A' := (a_position, a_registers, a_failed, a_seenCells, a_seenValues, a_storedCells, a_storedValues, a_outCount, a_outValues)) C J q1 q2 q3 (Or.inr ⟨rfl, g⟩) rfl Hx (fun g => g) (fun v _ => be_eqr _ v) hend
      exact h _ _ _ c.1 c.2
    · have hlt : a_position t < a_length t := Int32.not_le.mp zz
      have hpl : p < l := by
        have g : a_position t < a_length t := hlt
        rw [show a_position t = nI p from hp, hL, nI_ltI (by omega) (by omega)] at g
        exact g
      obtain ⟨x, hx, ex⟩ := C.2.2.2.2.1 (12 * t + p)
      obtain ⟨o, ho, eo⟩ := C.2.2.2.2.2 (12 * t + p)
      refine br_f zz (be_co ht hp (by omega) hoq hoq12 hx ex ho eo ?_)
      intro A' S
      have Hx' := be_hxS S hlt Hx
      obtain ⟨ps, rg, fl, sn, sV, sc, sv, oc, ov⟩ := A'
      obtain ⟨p', hp', hpp, hp13'⟩ : ∃ p', ps t = nI p' ∧ p < p' ∧ p' ≤ 13 := by
        have e := (S.1 (fun c => sV (16 * t + c)) (fun c _ _ => rfl)).2
        have g := be_grow (sg := fun c => sV (16 * t + c)) (L := a_length t) (op := a_codeOperation (12 * t + (a_position t).toNatClampNeg)) (n := a_codeNumber (12 * t + (a_position t).toNatClampNeg)) (a := (a_codePlaces (12 * t + (a_position t).toNatClampNeg)).toNatClampNeg / 4) (b := (a_codePlaces (12 * t + (a_position t).toNatClampNeg)).toNatClampNeg % 4) (s := be_xs (a_position, a_registers, a_failed, a_seenCells, a_seenValues, a_storedCells, a_storedValues, a_outCount, a_outValues) t) hL hl12 hp hpl
        obtain ⟨p', g1, g2⟩ := g
        exact ⟨p', (congrArg (fun s : be_S => s.1) e).trans g1, g2⟩
      refine be_s39 (by omega) ht (fun g => ?_) (fun g => ?_)
      · have hl' : p' < l := by
          have g' : ps t < a_length t := g
          rw [hp', hL, nI_ltI (by omega) (by omega)] at g'
          exact g'
        have c := be_cD (A' := (ps, rg, fl, sn, sV, sc, sv, oc, ov)) (hd' := a_held) C J q1 q2 q3 (Or.inl ⟨rfl, by show (ps t).toNatClampNeg ≤ 12; rw [hp', nI_clamp (by omega)]; omega, by show (a_position t).toNatClampNeg < (ps t).toNatClampNeg; rw [hp', show a_position t = nI p from hp, nI_clamp (by omega), nI_clamp (by omega)]; exact hpp⟩) (be_upds q3) Hx' S.2.2 S.2.1 I.2.2.2.2.2.2.2
        exact h _ _ _ c.1 c.2
      · have c := be_cD (A' := (ps, rg, fl, sn, sV, sc, sv, oc, ov)) C J q1 q2 q3 (Or.inr ⟨rfl, g⟩) rfl Hx' S.2.2 S.2.1 hend
        exact h _ _ _ c.1 c.2
abbrev be_JT : Type := Int32 → Int32 → Int32 → Int32 → Int32 → Int32 → Int32 → (Nat → Int32) → (Nat → Int32) → (Nat → Int32) → (Nat → Int32) → (Nat → Int32) → (Nat → Int32) → (Nat → Int32) → (Nat → Int32) → (Nat → Int32) → (Nat → Int32) → (Nat → Int32) → (Nat → Int32) → (Nat → Int32) → (Nat → Int32) → (Nat → Int32) → (Nat → Int32) → (Nat → Int32) → Prop
theorem be_m90 {f_workers f_stage f_count f_settled f_turn : Int32} {a_store a_length a_codeOperation a_codePlaces a_codeNumber a_before a_held a_state a_position a_registers a_failed a_seenCells a_seenValues a_storedCells a_storedValues a_outCount a_outValues : Nat → Int32} {post : SX → Prop} {J5 : be_JT} {W m s r tn w0 i : Nat} {x2 x3 : Int32} (C : be_C W m a_length a_codeOperation a_codePlaces) (hW : f_workers = nI W) (hs : f_settled = nI s) (ht : f_turn = nI tn) (htn : tn ≤ W) (J : be_J W m s r a_length a_codeOperation a_codePlaces a_codeNumber a_before a_held a_state (a_position, a_registers, a_failed, a_seenCells, a_seenValues, a_storedCells, a_storedValues, a_outCount, a_outValues)) (h0 : w0 < W) (hb : ¬ a_held w0 = -1) (h : ∀ (s' r' tn' : Nat) (x3' : Int32) (hd st ps rg fl sn sV sc sv oc ov : Nat → Int32), tn' ≤ W → be_J W m s' r' a_length a_codeOperation a_codePlaces a_codeNumber a_before hd st (ps, rg, fl, sn, sV, sc, sv, oc, ov) → be_mu m s' r' st ps < be_mu m s r a_state a_position → J5 x3' (nI (i + 1)) f_workers f_stage f_count (nI s') (nI tn') a_store a_length a_codeOperation a_codePlaces a_codeNumber a_before hd st ps rg fl sn sV sc sv oc ov) : wX_makeSteps_90 post J5 x2 x3 (nI i) f_workers f_stage f_count f_settled f_turn a_store a_length a_codeOperation a_codePlaces a_codeNumber a_before a_held a_state a_position a_registers a_failed a_seenCells a_seenValues a_storedCells a_storedValues a_outCount a_outValues := by
  subst hs
  obtain ⟨f, hf, ef⟩ := be_m7 x3
  unfold wX_makeSteps_90
  rw [ef]
  refine be_nb hW C.2.1 ht htn hf h0 hb (fun w hw hb' => ?_)
  refine be_gO C J hw hb' (fun hd st A J' g => ?_)
  obtain ⟨ps, rg, fl, sn, sV, sc, sv, oc, ov⟩ := A
  intro y1 e1 y2 e2 y3 e3
  rw [e1, e3, nI_1, nI_1]
  exact h s r (w + 1) y2 hd st ps rg fl sn sV sc sv oc ov hw J' g
theorem be_m67 {f_workers f_stage f_count f_settled f_turn : Int32} {a_store a_length a_codeOperation a_codePlaces a_codeNumber a_before a_held a_state a_position a_registers a_failed a_seenCells a_seenValues a_storedCells a_storedValues a_outCount a_outValues : Nat → Int32} {post : SX → Prop} {J5 : be_JT} {W m s r tn w i : Nat} {x2 x3 x6 : Int32} (C : be_C W m a_length a_codeOperation a_codePlaces) (hW : f_workers = nI W) (hs : f_settled = nI s) (ht : f_turn = nI tn) (htn : tn ≤ W) (hsm : s < m) (J : be_J W m s r a_length a_codeOperation a_codePlaces a_codeNumber a_before a_held a_state (a_position, a_registers, a_failed, a_seenCells, a_seenValues, a_storedCells, a_storedValues, a_outCount, a_outValues)) (hw : w < W) (hf : a_held w = -1) (h2 : ¬ a_state s = 2) (hx : (x6 = -1 ∧ ∀ t, s ≤ t → t < m → ¬ a_state t = 0) ∨ ∃ t, x6 = nI t ∧ s ≤ t ∧ t < m ∧ a_state t = 0) (h : ∀ (s' r' tn' : Nat) (x3' : Int32) (hd st ps rg fl sn sV sc sv oc ov : Nat → Int32), tn' ≤ W → be_J W m s' r' a_length a_codeOperation a_codePlaces a_codeNumber a_before hd st (ps, rg, fl, sn, sV, sc, sv, oc, ov) → be_mu m s' r' st ps < be_mu m s r a_state a_position → J5 x3' (nI (i + 1)) f_workers f_stage f_count (nI s') (nI tn') a_store a_length a_codeOperation a_codePlaces a_codeNumber a_before hd st ps rg fl sn sV sc sv oc ov) : wX_makeSteps_67 post J5 x2 x3 (nI i) (nI w) x6 f_workers f_stage f_count f_settled f_turn a_store a_length a_codeOperation a_codePlaces a_codeNumber a_before a_held a_state a_position a_registers a_failed a_seenCells a_seenValues a_storedCells a_storedValues a_outCount a_outValues := by
  have hm8 : m ≤ 8 := C.2.2.1
  have hW8 : W ≤ 8 := C.2.1
  refine br_f (be_nm w (by omega)) ?_
  rcases hx with ⟨q1, q2⟩ | ⟨t, q1, q2, q3, q4⟩
  · rcases J.1.2.2.1 s (Nat.le_refl s) hsm with g | g | g
    · exact absurd g (q2 s (Nat.le_refl s) hsm)
    · obtain ⟨w0, hw0, e⟩ := J.1.2.2.2.2.2.2.2.2.2 s hsm g
      exact br_t q1 (be_m90 C hW hs ht htn J hw0 (by rw [e]; exact be_nm s (by omega)) h)
    · exact absurd g h2
  · subst q1 hs ht
    refine br_f (be_nm t (by omega)) ?_
    refine be_tk C J hw hf q2 q3 q4 (fun hd st A J' g => ?_)
    obtain ⟨ps, rg, fl, sn, sV, sc, sv, oc, ov⟩ := A
    intro y1 e1
    rw [e1, nI_1]
    exact h s r tn x3 hd st ps rg fl sn sV sc sv oc ov htn J' g
theorem be_mk5 {f_workers f_stage f_count : Int32} {a_store a_length a_codeOperation a_codePlaces a_codeNumber a_before : Nat → Int32} {post : SX → Prop} {W m : Nat} {x2 : Int32} (C : be_C W m a_length a_codeOperation a_codePlaces) (hW : f_workers = nI W) (hc : f_count = nI m) (h : ∀ (s r tn : Nat) (hd st : Nat → Int32) (A : be_A), tn ≤ W → be_J W m s r a_length a_codeOperation a_codePlaces a_codeNumber a_before hd st A → (x2 = 100000 → s = m) → post (f_workers, f_stage, f_count, nI s, nI tn, a_store, a_length, a_codeOperation, a_codePlaces, a_codeNumber, a_before, hd, st, A)) : ∀ (d i s r tn : Nat) (x3 : Int32) (hd st ps rg fl sn sV sc sv oc ov : Nat → Int32), i + d = 100000 → tn ≤ W → be_J W m s r a_length a_codeOperation a_codePlaces a_codeNumber a_before hd st (ps, rg, fl, sn, sV, sc, sv, oc, ov) → i + be_mu m s r st ps ≤ 100000 → wX_makeSteps_5 post x2 (d + 1) x3 (nI i) f_workers f_stage f_count (nI s) (nI tn) a_store a_length a_codeOperation a_codePlaces a_codeNumber a_before hd st ps rg fl sn sV sc sv oc ov := by
  have hm8 : m ≤ 8 := C.2.2.1
  intro d
  induction d with
  | zero =>
    intro i s r tn x3 hd st ps rg fl sn sV sc sv oc ov hd0 htn J hmu
    have hsm : s ≤ m := J.1.1
    have he : s = m := by
      unfold be_mu at hmu
      omega
    by_cases z : x2 ≤ nI i
    · exact br_t z (h s r tn hd st _ htn J (fun _ => he))
    · exact br_f z (br_t (nI_le (a := 100000) (by omega) (by omega)) (h s r tn hd st _ htn J (fun _ => he)))
  | succ d ih =>
    intro i s r tn x3 hd st ps rg fl sn sV sc sv oc ov hd0 htn J hmu
    have hsm : s ≤ m := J.1.1
    by_cases z : x2 ≤ nI i
    · refine br_t z (h s r tn hd st _ htn J (fun e => ?_))
      rw [e] at z
      exact absurd z (nI_ge (b := 100000) (by omega) (by omega))
    · refine br_f z (br_f (nI_ge (b := 100000) (by omega) (by omega)) ?_)
      by_cases zs : s = m
      · refine br_t ?_ (h s r tn hd st _ htn J (fun _ => zs))
        rw [hc]
        exact nI_le (by omega) (by omega)
      · refine br_f ?_ ?_
        · rw [hc]
          exact nI_ge (by omega) (by omega)
        · have hlt : s < m := by omega
          have hn : ∀ (s' r' tn' : Nat) (x3' : Int32) (hd' st' ps' rg' fl' sn' sV' sc' sv' oc' ov' : Nat → Int32), tn' ≤ W → be_J W m s' r' a_length a_codeOperation a_codePlaces a_codeNumber a_before hd' st' (ps', rg', fl', sn', sV', sc', sv', oc', ov') → be_mu m s' r' st' ps' < be_mu m s r st ps → wX_makeSteps_5 post x2 (d + 1) x3' (nI (i + 1)) f_workers f_stage f_count (nI s') (nI tn') a_store a_length a_codeOperation a_codePlaces a_codeNumber a_before hd' st' ps' rg' fl' sn' sV' sc' sv' oc' ov' := fun s' r' tn' x3' hd' st' ps' rg' fl' sn' sV' sc' sv' oc' ov' h1 J' g => ih (i + 1) s' r' tn' x3' hd' st' ps' rg' fl' sn' sV' sc' sv' oc' ov' (by omega) h1 J' (by omega)
          clear ih
          refine be_ff hW C.2.1 (fun g => ?_) (fun w hw hf => ?_)
          · have hW1 : 1 ≤ W := C.1
            refine be_fw hm8 hsm rfl hc (fun _ => ?_) (fun t _ _ _ => ?_)
            · exact br_t rfl (br_t rfl (be_m90 C hW rfl rfl htn J hW1 (g 0 hW1) hn))
            · exact br_t rfl (br_t rfl (be_m90 C hW rfl rfl htn J hW1 (g 0 hW1) hn))
          · have hW8 : W ≤ 8 := C.2.1
            have his : vp_in (nI s) 8 := vp_in_nI (by omega) (by omega)
            have cs : (nI s).toNatClampNeg = s := nI_clamp (by omega)
            by_cases z2 : st s = 2
            · have hse : ∀ x : Int32, (nI w = -1 → wX_makeSteps_67 post (wX_makeSteps_5 post x2 (d + 1)) x2 x3 (nI i) (nI w) x f_workers f_stage f_count (nI s) (nI tn) a_store a_length a_codeOperation a_codePlaces a_codeNumber a_before hd st ps rg fl sn sV sc sv oc ov) := fun x q => absurd q (be_nm w (by omega))
              refine be_fw hm8 hsm rfl hc (fun _ => ⟨hse _, fun _ => ⟨his, ?_⟩⟩) (fun t _ _ _ => ⟨hse _, fun _ => ⟨his, ?_⟩⟩)
              · refine br_t (by rw [cs]; exact z2) (be_se hm8 rfl hlt J z2 (fun s' r' st' J' g => ?_))
                intro y ey
                rw [ey, nI_1]
                exact hn s' r' tn x3 hd st' ps rg fl sn sV sc sv oc ov htn J' g
              · refine br_t (by rw [cs]; exact z2) (be_se hm8 rfl hlt J z2 (fun s' r' st' J' g => ?_))
                intro y ey
                rw [ey, nI_1]
                exact hn s' r' tn x3 hd st' ps rg fl sn sV sc sv oc ov htn J' g
            · refine be_fw hm8 hsm rfl hc (fun g => br_f (be_nm w (by omega)) ⟨his, br_f (by rw [cs]; exact z2) ?_⟩) (fun t h1 h2 h3 => br_f (be_nm w (by omega)) ⟨his, br_f (by rw [cs]; exact z2) ?_⟩)
              · exact be_m67 C hW rfl rfl htn hlt J hw hf z2 (Or.inl ⟨rfl, g⟩) hn
              · exact be_m67 C hW rfl rfl htn hlt J hw hf z2 (Or.inr ⟨t, rfl, h1, h2, h3⟩) hn
theorem be_mk {f_workers f_stage f_count f_settled f_turn : Int32} {a_store a_length a_codeOperation a_codePlaces a_codeNumber a_before a_held a_state a_position a_registers a_failed a_seenCells a_seenValues a_storedCells a_storedValues a_outCount a_outValues : Nat → Int32} {post : SX → Prop} {W m s tn : Nat} {x1 x2 : Int32} (C : be_C W m a_length a_codeOperation a_codePlaces) (hW : f_workers = nI W) (hc : f_count = nI m) (hs : f_settled = nI s) (ht : f_turn = nI tn) (htn : tn ≤ W) (I : be_RI W m s a_length a_codeOperation a_codePlaces a_codeNumber a_before a_held a_state (a_position, a_registers, a_failed, a_seenCells, a_seenValues, a_storedCells, a_storedValues, a_outCount, a_outValues)) (G : be_G (a_position, a_registers, a_failed, a_seenCells, a_seenValues, a_storedCells, a_storedValues, a_outCount, a_outValues)) (h : ∀ (s tn : Nat) (hd st : Nat → Int32) (A : be_A), tn ≤ W → be_RI W m s a_length a_codeOperation a_codePlaces a_codeNumber a_before hd st A → be_G A → (x2 = 100000 → s = m) → post (f_workers, f_stage, f_count, nI s, nI tn, a_store, a_length, a_codeOperation, a_codePlaces, a_codeNumber, a_before, hd, st, A)) : wpX_makeSteps post (f_workers, f_stage, f_count, f_settled, f_turn, a_store, a_length, a_codeOperation, a_codePlaces, a_codeNumber, a_before, a_held, a_state, a_position, a_registers, a_failed, a_seenCells, a_seenValues, a_storedCells, a_storedValues, a_outCount, a_outValues) x1 x2 := by
  subst hs ht
  have hm8 : m ≤ 8 := C.2.2.1
  have hb := be_smb (f := be_w a_state a_position) (be_wb a_state a_position) m
  refine ⟨100001, be_mk5 C hW hc (fun s r tn hd st A q J e => h s tn hd st A q J.1 J.2.2 e) 100000 0 s 16 tn x1 _ _ _ _ _ _ _ _ _ _ _ rfl htn ⟨I, Or.inl rfl, G⟩ ?_⟩
  unfold be_mu
  omega
end
section
/-! startIfBuilt -/
theorem be_s57 {f_workers f_stage f_count f_settled f_turn : Int32} {a_store a_length a_codeOperation a_codePlaces a_codeNumber a_before a_held a_position a_registers a_failed a_seenCells a_seenValues a_storedCells a_storedValues a_outCount a_outValues : Nat → Int32} {post : SX → Prop} (h : ∀ st, (∀ t, t < 8 → st t = 0) → post (f_workers, 1, f_count, 0, 0, a_store, a_length, a_codeOperation, a_codePlaces, a_codeNumber, a_before, a_held, st, a_position, a_registers, a_failed, a_seenCells, a_seenValues, a_storedCells, a_storedValues, a_outCount, a_outValues)) : ∀ (d t : Nat) (st : Nat → Int32), t + d = 8 → (∀ u, u < t → st u = 0) → wX_startIfBuilt_57 post f_workers f_stage f_count f_settled f_turn (d + 1) (nI t) a_store a_length a_codeOperation a_codePlaces a_codeNumber a_before a_held st a_position a_registers a_failed a_seenCells a_seenValues a_storedCells a_storedValues a_outCount a_outValues := by
  intro d
  induction d with
  | zero =>
    intro t st hd hu
    exact br_t (nI_le (a := 8) (by omega) (by omega)) (h st (fun u hu' => hu u (by omega)))
  | succ d ih =>
    intro t st hd hu
    refine br_f (nI_ge (b := 8) (by omega) (by omega)) ⟨vp_in_nI (by omega) (by omega), fun y ey y2 e2 => ?_⟩
    rw [ey, e2, nI_1, nI_clamp (n := t) (by omega)]
    refine ih (t + 1) _ (by omega) (lt_s (fun u hu' => ?_) pk_us)
    rw [pk_un (by omega)]
    exact hu u hu'
theorem be_s36 {f_workers f_stage f_count f_settled f_turn : Int32} {a_store a_length a_codeOperation a_codePlaces a_codeNumber a_before a_state a_position a_registers a_failed a_seenCells a_seenValues a_storedCells a_storedValues a_outCount a_outValues : Nat → Int32} {post : SX → Prop} (h : ∀ hd st, (∀ w, w < 8 → hd w = -1) → (∀ t, t < 8 → st t = 0) → post (f_workers, 1, f_count, 0, 0, a_store, a_length, a_codeOperation, a_codePlaces, a_codeNumber, a_before, hd, st, a_position, a_registers, a_failed, a_seenCells, a_seenValues, a_storedCells, a_storedValues, a_outCount, a_outValues)) : ∀ (d t : Nat) (hd : Nat → Int32), t + d = 8 → (∀ u, u < t → hd u = -1) → wX_startIfBuilt_36 post f_workers f_stage f_count f_settled f_turn (d + 1) (nI t) a_store a_length a_codeOperation a_codePlaces a_codeNumber a_before hd a_state a_position a_registers a_failed a_seenCells a_seenValues a_storedCells a_storedValues a_outCount a_outValues := by
  intro d
  induction d with
  | zero =>
    intro t hd hd0 hu
    exact br_t (nI_le (a := 8) (by omega) (by omega)) ⟨9, be_s57 (fun st hs => h hd st (fun u hu' => hu u (by omega)) hs) 8 0 _ rfl (fun u hu' => absurd hu' (Nat.not_lt_zero u))⟩
  | succ d ih =>
    intro t hd hd0 hu
    refine br_f (nI_ge (b := 8) (by omega) (by omega)) ⟨vp_in_nI (by omega) (by omega), fun y ey y2 e2 => ?_⟩
    rw [ey, e2, nI_1, nI_clamp (n := t) (by omega)]
    refine ih (t + 1) _ (by omega) (lt_s (fun u hu' => ?_) pk_us)
    rw [pk_un (by omega)]
    exact hu u hu'
theorem be_s10 {f_workers f_stage f_count f_settled f_turn : Int32} {a_store a_length a_codeOperation a_codePlaces a_codeNumber a_held a_state a_position a_registers a_failed a_seenCells a_seenValues a_storedCells a_storedValues a_outCount a_outValues : Nat → Int32} {post : SX → Prop} (h : ∀ bf hd st, (∀ c, c < 16 → bf c = a_store c) → (∀ w, w < 8 → hd w = -1) → (∀ t, t < 8 → st t = 0) → post (f_workers, 1, f_count, 0, 0, a_store, a_length, a_codeOperation, a_codePlaces, a_codeNumber, bf, hd, st, a_position, a_registers, a_failed, a_seenCells, a_seenValues, a_storedCells, a_storedValues, a_outCount, a_outValues)) : ∀ (d c : Nat) (bf : Nat → Int32), c + d = 16 → (∀ u, u < c → bf u = a_store u) → wX_startIfBuilt_10 post f_workers f_stage f_count f_settled f_turn (d + 1) (nI c) a_store a_length a_codeOperation a_codePlaces a_codeNumber bf a_held a_state a_position a_registers a_failed a_seenCells a_seenValues a_storedCells a_storedValues a_outCount a_outValues := by
  intro d
  induction d with
  | zero =>
    intro c bf hd0 hu
    exact br_t (nI_le (a := 16) (by omega) (by omega)) ⟨9, be_s36 (fun hd st h1 h2 => h bf hd st (fun u hu' => hu u (by omega)) h1 h2) 8 0 _ rfl (fun u hu' => absurd hu' (Nat.not_lt_zero u))⟩
  | succ d ih =>
    intro c bf hd0 hu
    have hi : vp_in (nI c) 16 := vp_in_nI (by omega) (by omega)
    refine br_f (nI_ge (b := 16) (by omega) (by omega)) ⟨hi, hi, fun y ey y2 e2 => ?_⟩
    rw [ey, e2, nI_1, nI_clamp (n := c) (by omega)]
    refine ih (c + 1) _ (by omega) (lt_s (fun u hu' => ?_) pk_us)
    rw [pk_un (by omega)]
    exact hu u hu'
theorem be_si {f_workers f_stage f_count f_settled f_turn : Int32} {a_store a_length a_codeOperation a_codePlaces a_codeNumber a_before a_held a_state a_position a_registers a_failed a_seenCells a_seenValues a_storedCells a_storedValues a_outCount a_outValues : Nat → Int32} {post : SX → Prop} (hb : f_stage = 0) (h : ∀ bf hd st, (∀ c, c < 16 → bf c = a_store c) → (∀ w, w < 8 → hd w = -1) → (∀ t, t < 8 → st t = 0) → post (f_workers, 1, f_count, 0, 0, a_store, a_length, a_codeOperation, a_codePlaces, a_codeNumber, bf, hd, st, a_position, a_registers, a_failed, a_seenCells, a_seenValues, a_storedCells, a_storedValues, a_outCount, a_outValues)) : wpX_startIfBuilt post (f_workers, f_stage, f_count, f_settled, f_turn, a_store, a_length, a_codeOperation, a_codePlaces, a_codeNumber, a_before, a_held, a_state, a_position, a_registers, a_failed, a_seenCells, a_seenValues, a_storedCells, a_storedValues, a_outCount, a_outValues) :=
  br_t hb ⟨17, be_s10 h 16 0 _ rfl (fun u hu' => absurd hu' (Nat.not_lt_zero u))⟩
/-! keepStores -/
def be_ks (sc sv sto : Nat → Int32) : Nat → Nat → Int32
  | 0, c => sto c
  | t + 1, c => be_rd (be_ks sc sv sto t) (sc t) (be_sl sv 16 t) c
theorem be_vk {st sc sv bf sto : Nat → Int32} (hb : ∀ c, c < 16 → bf c = sto c) : ∀ t : Nat, (∀ u, u < t → ¬ st u < 2) → ∀ c, c < 16 → be_vb st sc sv bf t c = be_ks sc sv sto t c
  | 0, _, c, hc => hb c hc
  | t + 1, h, c, hc => by
    have ih := be_vk (sc := sc) (sv := sv) hb t (fun u hu => h u (by omega)) c hc
    unfold be_vb be_ks be_rd
    rw [if_pos (h t (by omega)), ih]
theorem be_k12 {f_workers f_stage f_count f_settled f_turn : Int32} {a_length a_codeOperation a_codePlaces a_codeNumber a_before a_held a_state a_position a_registers a_failed a_seenCells a_seenValues a_storedCells a_storedValues a_outCount a_outValues : Nat → Int32} {post : SX → Prop} {J : Int32 → (Nat → Int32) → (Nat → Int32) → (Nat → Int32) → (Nat → Int32) → (Nat → Int32) → (Nat → Int32) → (Nat → Int32) → (Nat → Int32) → (Nat → Int32) → (Nat → Int32) → (Nat → Int32) → (Nat → Int32) → (Nat → Int32) → (Nat → Int32) → (Nat → Int32) → (Nat → Int32) → (Nat → Int32) → Prop} {t : Nat} {s0 : Nat → Int32} (ht : t < 8) (h : ∀ sto, (∀ c, c < 16 → sto c = be_ks a_storedCells a_storedValues s0 (t + 1) c) → J (nI (t + 1)) sto a_length a_codeOperation a_codePlaces a_codeNumber a_before a_held a_state a_position a_registers a_failed a_seenCells a_seenValues a_storedCells a_storedValues a_outCount a_outValues) : ∀ (d c : Nat) (sto : Nat → Int32), c + d = 16 → (∀ j, j < c → sto j = be_ks a_storedCells a_storedValues s0 (t + 1) j) → (∀ j, c ≤ j → j < 16 → sto j = be_ks a_storedCells a_storedValues s0 t j) → wX_keepStores_12 post J (nI t) f_workers f_stage f_count f_settled f_turn (d + 1) (nI c) sto a_length a_codeOperation a_codePlaces a_codeNumber a_before a_held a_state a_position a_registers a_failed a_seenCells a_seenValues a_storedCells a_storedValues a_outCount a_outValues := by
  have hi : vp_in (nI t) 8 := vp_in_nI ht (by omega)
  have ct : (nI t).toNatClampNeg = t := nI_clamp (by omega)
  intro d
  induction d with
  | zero =>
    intro c sto hd h1 h2
    refine br_t (nI_le (a := 16) (by omega) (by omega)) fun y ey => ?_
    rw [ey, nI_1]
    exact h sto (fun j hj => h1 j (by omega))
  | succ d ih =>
    intro c sto hd h1 h2
    have hc : c < 16 := by omega
    have hic : vp_in (nI c) 16 := vp_in_nI hc (by omega)
    refine br_f (nI_ge (b := 16) hc (by omega)) ⟨hi, ?_⟩
    rw [ct]
    by_cases zb : bt (a_storedCells t) c = true
    · refine br_f (by rw [be_tst _ hc, zb]; decide) ⟨(be_i16 ht hc).1, hic, fun y ey y2 e2 => ?_⟩
      rw [ey, e2, nI_1, (be_i16 ht hc).2, nI_clamp (n := c) (by omega)]
      refine ih (c + 1) _ (by omega) (lt_s (fun j hj => ?_) ?_) (fun j hj hj2 => ?_)
      · rw [pk_un (by omega)]
        exact h1 j hj
      · rw [pk_us]
        show _ = be_rd (be_ks a_storedCells a_storedValues s0 t) (a_storedCells t) (be_sl a_storedValues 16 t) c
        unfold be_rd
        rw [if_pos zb, be_sla hc]
      · rw [pk_un (by omega)]
        exact h2 j (by omega) hj2
    · refine br_t (by rw [be_tst _ hc]; exact eq_false_of_ne_true zb) fun y ey => ?_
      rw [ey, nI_1]
      refine ih (c + 1) _ (by omega) (lt_s h1 ?_) (fun j hj hj2 => h2 j (by omega) hj2)
      show _ = be_rd (be_ks a_storedCells a_storedValues s0 t) (a_storedCells t) (be_sl a_storedValues 16 t) c
      unfold be_rd
      rw [if_neg zb]
      exact h2 c (Nat.le_refl c) hc
theorem be_k2 {f_workers f_stage f_count f_settled f_turn : Int32} {a_store a_length a_codeOperation a_codePlaces a_codeNumber a_before a_held a_state a_position a_registers a_failed a_seenCells a_seenValues a_storedCells a_storedValues a_outCount a_outValues : Nat → Int32} {post : SX → Prop} {m : Nat} (hm : m ≤ 8) (hc : f_count = nI m) (h : ∀ sto, (∀ c, c < 16 → sto c = be_ks a_storedCells a_storedValues a_store m c) → post (f_workers, f_stage, f_count, f_settled, f_turn, sto, a_length, a_codeOperation, a_codePlaces, a_codeNumber, a_before, a_held, a_state, a_position, a_registers, a_failed, a_seenCells, a_seenValues, a_storedCells, a_storedValues, a_outCount, a_outValues)) : ∀ (d t : Nat) (sto : Nat → Int32), t + d = m → (∀ c, c < 16 → sto c = be_ks a_storedCells a_storedValues a_store t c) → wX_keepStores_2 post f_workers f_stage f_count f_settled f_turn (d + 1) (nI t) sto a_length a_codeOperation a_codePlaces a_codeNumber a_before a_held a_state a_position a_registers a_failed a_seenCells a_seenValues a_storedCells a_storedValues a_outCount a_outValues := by
  subst hc
  intro d
  induction d with
  | zero =>
    intro t sto hd hu
    have e : t = m := by omega
    subst e
    exact br_t (nI_le (by omega) (by omega)) (h sto hu)
  | succ d ih =>
    intro t sto hd hu
    exact br_f (nI_ge (by omega) (by omega)) ⟨17, be_k12 (by omega) (fun sto' hs' => ih (t + 1) sto' (by omega) hs') 16 0 sto rfl (fun j hj => absurd hj (Nat.not_lt_zero j)) (fun j _ hj => hu j hj)⟩
theorem be_kS {f_workers f_stage f_count f_settled f_turn : Int32} {a_store a_length a_codeOperation a_codePlaces a_codeNumber a_before a_held a_state a_position a_registers a_failed a_seenCells a_seenValues a_storedCells a_storedValues a_outCount a_outValues : Nat → Int32} {post : SX → Prop} {m : Nat} (hm : m ≤ 8) (hc : f_count = nI m) (h : ∀ sto, (∀ c, c < 16 → sto c = be_ks a_storedCells a_storedValues a_store m c) → post (f_workers, f_stage, f_count, f_settled, f_turn, sto, a_length, a_codeOperation, a_codePlaces, a_codeNumber, a_before, a_held, a_state, a_position, a_registers, a_failed, a_seenCells, a_seenValues, a_storedCells, a_storedValues, a_outCount, a_outValues)) : wpX_keepStores post (f_workers, f_stage, f_count, f_settled, f_turn, a_store, a_length, a_codeOperation, a_codePlaces, a_codeNumber, a_before, a_held, a_state, a_position, a_registers, a_failed, a_seenCells, a_seenValues, a_storedCells, a_storedValues, a_outCount, a_outValues) :=
  ⟨m + 1, be_k2 hm hc h m 0 _ (by omega) (fun c _ => rfl)⟩
/-! countDone -/
def be_cd (fl : Nat → Int32) : Nat → Int32
  | 0 => 0
  | t + 1 => if fl t = 0 then be_cd fl t + 1 else be_cd fl t
theorem be_cd4 {f_workers f_stage f_count f_settled f_turn : Int32} {a_store a_length a_codeOperation a_codePlaces a_codeNumber a_before a_held a_state a_position a_registers a_failed a_seenCells a_seenValues a_storedCells a_storedValues a_outCount a_outValues : Nat → Int32} {post : Int32 → Prop} {m : Nat} (hm : m ≤ 8) (hc : f_count = nI m) (h : post (be_cd a_failed m)) : ∀ d t : Nat, t + d = m → wX_countDone_4 post f_workers f_stage f_count f_settled f_turn a_store a_length a_codeOperation a_codePlaces a_codeNumber a_before a_held a_state a_position a_registers a_failed a_seenCells a_seenValues a_storedCells a_storedValues a_outCount a_outValues (d + 1) (be_cd a_failed t) (nI t) := by
  subst hc
  intro d
  induction d with
  | zero =>
    intro t hd
    have e : t = m := by omega
    subst e
    exact br_t (nI_le (by omega) (by omega)) h
  | succ d ih =>
    intro t hd
    have ct : (nI t).toNatClampNeg = t := nI_clamp (by omega)
    have ih' := ih (t + 1) (by omega)
    refine br_f (nI_ge (by omega) (by omega)) ⟨vp_in_nI (by omega) (by omega), ?_⟩
    rw [ct]
    by_cases z : a_failed t = 0
    · have e : be_cd a_failed (t + 1) = be_cd a_failed t + 1 := if_pos z
      rw [e] at ih'
      refine br_t z fun y ey y2 e2 => ?_
      rw [ey, e2, nI_1 t]
      exact ih'
    · have e : be_cd a_failed (t + 1) = be_cd a_failed t := if_neg z
      rw [e] at ih'
      refine br_f z fun y ey => ?_
      rw [ey, nI_1 t]
      exact ih'
theorem be_cnt {f_workers f_stage f_count f_settled f_turn : Int32} {a_store a_length a_codeOperation a_codePlaces a_codeNumber a_before a_held a_state a_position a_registers a_failed a_seenCells a_seenValues a_storedCells a_storedValues a_outCount a_outValues : Nat → Int32} {post : Int32 → Prop} {m : Nat} (hm : m ≤ 8) (hc : f_count = nI m) (h : post (be_cd a_failed m)) : wpX_countDone post (f_workers, f_stage, f_count, f_settled, f_turn, a_store, a_length, a_codeOperation, a_codePlaces, a_codeNumber, a_before, a_held, a_state, a_position, a_registers, a_failed, a_seenCells, a_seenValues, a_storedCells, a_storedValues, a_outCount, a_outValues) := ⟨m + 1, be_cd4 hm hc h m 0 (by omega)⟩
/-! digest -/
def be_dg (a : Nat → Int32) : Nat → Int32
  | 0 => 0
  | i + 1 => be_dg a i + (nI i + 1) * a i
theorem be_dge {a b : Nat → Int32} : ∀ n : Nat, (∀ c, c < n → a c = b c) → be_dg a n = be_dg b n
  | 0, _ => rfl
  | n + 1, h => by
    unfold be_dg
    rw [be_dge n (fun c hc => h c (by omega)), h n (by omega)]
theorem be_xd4 {f_workers f_stage f_count f_settled f_turn : Int32} {a_store a_length a_codeOperation a_codePlaces a_codeNumber a_before a_held a_state a_position a_registers a_failed a_seenCells a_seenValues a_storedCells a_storedValues a_outCount a_outValues : Nat → Int32} {post : Int32 → Prop} (h : post (be_dg a_store 16)) : ∀ d c : Nat, c + d = 16 → wX_digest_4 post f_workers f_stage f_count f_settled f_turn a_store a_length a_codeOperation a_codePlaces a_codeNumber a_before a_held a_state a_position a_registers a_failed a_seenCells a_seenValues a_storedCells a_storedValues a_outCount a_outValues (d + 1) (be_dg a_store c) (nI c) := by
  intro d
  induction d with
  | zero =>
    intro c hd
    have e : c = 16 := by omega
    subst e
    exact br_t (by decide) h
  | succ d ih =>
    intro c hd
    have ih' := ih (c + 1) (by omega)
    refine br_f (nI_ge (b := 16) (by omega) (by omega)) ⟨vp_in_nI (by omega) (by omega), fun y ey y2 e2 => ?_⟩
    rw [nI_clamp (n := c) (by omega)] at ey
    rw [ey, e2, nI_1 c]
    rw [show be_dg a_store (c + 1) = be_dg a_store c + (nI c + 1) * a_store c from rfl, nI_1 c] at ih'
    exact ih'
theorem be_yd4 {yf_phase yf_count yf_position yf_failed : Int32} {ya_cells ya_sizes ya_operations ya_places ya_numbers ya_done ya_outs ya_puts ya_stored ya_registers ya_before : Nat → Int32} {post : Int32 → Prop} (h : post (be_dg ya_cells 16)) : ∀ d c : Nat, c + d = 16 → wY_digest_4 post yf_phase yf_count yf_position yf_failed ya_cells ya_sizes ya_operations ya_places ya_numbers ya_done ya_outs ya_puts ya_stored ya_registers ya_before (d + 1) (be_dg ya_cells c) (nI c) := by
  intro d
  induction d with
  | zero =>
    intro c hd
    have e : c = 16 := by omega
    subst e
    exact br_t (by decide) h
  | succ d ih =>
    intro c hd
    have ih' := ih (c + 1) (by omega)
    refine br_f (nI_ge (b := 16) (by omega) (by omega)) ⟨vp_in_nI (by omega) (by omega), fun y ey y2 e2 => ?_⟩
    rw [nI_clamp (n := c) (by omega)] at ey
    rw [ey, e2, nI_1 c]
    rw [show be_dg ya_cells (c + 1) = be_dg ya_cells c + (nI c + 1) * ya_cells c from rfl, nI_1 c] at ih'
    exact ih'
/-! faults -/
theorem be_io {f_workers f_stage f_count f_settled f_turn : Int32} {a_store a_length a_codeOperation a_codePlaces a_codeNumber a_before a_held a_state a_position a_registers a_failed a_seenCells a_seenValues a_storedCells a_storedValues a_outCount a_outValues : Nat → Int32} {post : Int32 → Prop} {s t : Nat} (ht : t < 8) (hs8 : s ≤ 8) (hs : f_settled = nI s) (h1 : t < s → a_state t = 3) (h2 : s ≤ t → ¬ a_state t = 3) (h4 : f_stage = 2 → t < s) (h : post 1) : wpX_isInOrder post (f_workers, f_stage, f_count, f_settled, f_turn, a_store, a_length, a_codeOperation, a_codePlaces, a_codeNumber, a_before, a_held, a_state, a_position, a_registers, a_failed, a_seenCells, a_seenValues, a_storedCells, a_storedValues, a_outCount, a_outValues) (nI t) := by
  subst hs
  have hi : vp_in (nI t) 8 := vp_in_nI ht (by omega)
  have ct : (nI t).toNatClampNeg = t := nI_clamp (by omega)
  by_cases z : t < s
  · exact br_t (nI_lt z (by omega)) ⟨hi, br_t (by rw [ct]; exact h1 z) (br_t rfl h)⟩
  · exact br_f (nI_nlt (by omega) (by omega)) (br_f (fun q => z (h4 q)) ⟨hi, br_f (by rw [ct]; exact h2 (by omega)) (br_t rfl h)⟩)
theorem be_f62 {f_workers f_stage f_count f_settled f_turn : Int32} {a_store a_length a_codeOperation a_codePlaces a_codeNumber a_before a_held a_state a_position a_registers a_failed a_seenCells a_seenValues a_storedCells a_storedValues a_outCount a_outValues : Nat → Int32} {post : Int32 → Prop} {J : Int32 → Int32 → Prop} {t : Nat} (ht : t < 8) (h3 : a_state t = 3 → be_Ag a_seenCells a_seenValues t (be_vb a_state a_storedCells a_storedValues a_before t)) (h : J 0 (nI (t + 1))) : wX_faults_62 post J 0 (nI t) f_workers f_stage f_count f_settled f_turn a_store a_length a_codeOperation a_codePlaces a_codeNumber a_before a_held a_state a_position a_registers a_failed a_seenCells a_seenValues a_storedCells a_storedValues a_outCount a_outValues := by
  have hi : vp_in (nI t) 8 := vp_in_nI ht (by omega)
  have ct : (nI t).toNatClampNeg = t := nI_clamp (by omega)
  refine ⟨hi, ?_⟩
  rw [ct]
  by_cases z : a_state t = 3
  · refine br_t z (be_ss ht (fun g => br_f (by decide) fun y ey => ?_) (fun g => absurd (h3 z) g))
    rw [ey, nI_1]
    exact h
  · refine br_f z fun y ey => ?_
    rw [ey, nI_1]
    exact h
theorem be_f32 {f_workers f_stage f_count f_settled f_turn : Int32} {a_store a_length a_codeOperation a_codePlaces a_codeNumber a_before a_held a_state a_position a_registers a_failed a_seenCells a_seenValues a_storedCells a_storedValues a_outCount a_outValues : Nat → Int32} {post : Int32 → Prop} {J : Int32 → Int32 → Prop} {t : Nat} (ht : t < 8) (hg : a_failed t = 0 ∨ (a_storedCells t = 0 ∧ a_outCount t = 0)) (h : wX_faults_62 post J 0 (nI t) f_workers f_stage f_count f_settled f_turn a_store a_length a_codeOperation a_codePlaces a_codeNumber a_before a_held a_state a_position a_registers a_failed a_seenCells a_seenValues a_storedCells a_storedValues a_outCount a_outValues) : wX_faults_32 post J 0 (nI t) f_workers f_stage f_count f_settled f_turn a_store a_length a_codeOperation a_codePlaces a_codeNumber a_before a_held a_state a_position a_registers a_failed a_seenCells a_seenValues a_storedCells a_storedValues a_outCount a_outValues := by
  have hi : vp_in (nI t) 8 := vp_in_nI ht (by omega)
  have ct : (nI t).toNatClampNeg = t := nI_clamp (by omega)
  refine ⟨hi, ?_⟩
  rw [ct]
  by_cases z : a_failed t = 0
  · exact br_t z h
  · rcases hg with g | g
    · exact absurd g z
    · exact br_f z ⟨hi, br_t g.1 ⟨hi, br_t g.2 h⟩⟩
theorem be_f13 {f_workers f_stage f_count f_settled f_turn : Int32} {a_store a_length a_codeOperation a_codePlaces a_codeNumber a_before a_held a_state a_position a_registers a_failed a_seenCells a_seenValues a_storedCells a_storedValues a_outCount a_outValues : Nat → Int32} {post : Int32 → Prop} {s m : Nat} (hm : m ≤ 8) (hsm : s ≤ m) (hs : f_settled = nI s) (hc : f_count = nI m) (h1 : ∀ t, t < s → a_state t = 3) (h2 : ∀ t, s ≤ t → t < m → ¬ a_state t = 3) (h3 : ∀ t, t < s → be_Ag a_seenCells a_seenValues t (be_vb a_state a_storedCells a_storedValues a_before t)) (hg : ∀ t, t < 8 → a_failed t = 0 ∨ (a_storedCells t = 0 ∧ a_outCount t = 0)) (h4 : f_stage = 2 → s = m) (h : post 0) : ∀ d t : Nat, t + d = m → wX_faults_13 post f_workers f_stage f_count f_settled f_turn a_store a_length a_codeOperation a_codePlaces a_codeNumber a_before a_held a_state a_position a_registers a_failed a_seenCells a_seenValues a_storedCells a_storedValues a_outCount a_outValues (d + 1) 0 (nI t) := by
  intro d
  induction d with
  | zero =>
    intro t hd
    exact br_t (by rw [hc]; exact nI_le (by omega) (by omega)) h
  | succ d ih =>
    intro t hd
    have ht : t < 8 := by omega
    refine br_f (by rw [hc]; exact nI_ge (by omega) (by omega)) (be_io ht (by omega) hs (h1 t) (fun q => h2 t q (by omega)) (fun q => by have := h4 q; omega) ?_)
    refine br_f (by decide) (be_f32 ht (hg t ht) (be_f62 ht (fun z => ?_) (ih (t + 1) (by omega))))
    by_cases q : t < s
    · exact h3 t q
    · exact absurd z (h2 t (by omega) (by omega))
end
section
/-! the reference's transaction against the machine -/
def be_YR (sg : Nat → Int32) (L : Int32) (t : Nat) (s : be_S) (fp ff : Int32) (ce ou pu so rg bf : Nat → Int32) : Prop := match s with
  | (pos, reg, fl, bits, sv, oc, ov) => ff = fl ∧ (∀ c, c < 16 → bf c = sg c) ∧ (fl = 0 → (fp = pos ∨ (¬ fp < L ∧ ¬ pos < L)) ∧ (∀ r, r < 4 → rg r = reg r) ∧ (∀ c, c < 16 → ce c = be_rd sg bits sv c) ∧ so t = bits ∧ ou t = oc ∧ (∀ k q, oc = nI q → q ≤ 12 → k < q → pu (12 * t + k) = ov k))
/-- of the other transactions nothing changes -/
def be_YF (t : Nat) (ou pu so ou' pu' so' : Nat → Int32) : Prop := ∀ u, u ≠ t → ou' u = ou u ∧ so' u = so u ∧ be_sl pu' 12 u = be_sl pu 12 u
theorem be_yfr (t : Nat) (ou pu so : Nat → Int32) : be_YF t ou pu so ou pu so := fun _ _ => ⟨rfl, rfl, rfl⟩
theorem be_yft {t : Nat} {ou pu so ou' pu' so' ou2 pu2 so2 : Nat → Int32} (h : be_YF t ou pu so ou' pu' so') (g : be_YF t ou' pu' so' ou2 pu2 so2) : be_YF t ou pu so ou2 pu2 so2 := fun u hu => ⟨(g u hu).1.trans (h u hu).1, (g u hu).2.1.trans (h u hu).2.1, (g u hu).2.2.trans (h u hu).2.2⟩
theorem be_yst {yf_phase yf_count yf_position yf_failed : Int32} {ya_cells ya_sizes ya_operations ya_places ya_numbers ya_done ya_outs ya_puts ya_stored ya_registers ya_before : Nat → Int32} {post : SY → Prop} {t c : Nat} {v : Int32} (ht : t < 8) (hc : c < 16) (h : post (yf_phase, yf_count, yf_position, yf_failed, upd ya_cells c v, ya_sizes, ya_operations, ya_places, ya_numbers, ya_done, ya_outs, ya_puts, upd ya_stored t (be_set (ya_stored t) (nI c)), ya_registers, ya_before)) : wpY_store post (yf_phase, yf_count, yf_position, yf_failed, ya_cells, ya_sizes, ya_operations, ya_places, ya_numbers, ya_done, ya_outs, ya_puts, ya_stored, ya_registers, ya_before) (nI t) (nI c) v := by
  have hi : vp_in (nI t) 8 := vp_in_nI ht (by omega)
  have ct : (nI t).toNatClampNeg = t := nI_clamp (by omega)
  refine ⟨vp_in_nI hc (by omega), fun y1 e1 => ⟨hi, hi, fun y2 e2 => ?_⟩⟩
  rw [e1, e2, ct, nI_clamp (n := c) (by omega)]
  exact h
theorem be_rds {sg sv : Nat → Int32} {bits v : Int32} {c j : Nat} (hc : c < 16) (hj : j < 16) : be_rd sg (be_set bits (nI c)) (upd sv c v) j = if j = c then v else be_rd sg bits sv j := by
  unfold be_rd
  rw [be_orb _ hc hj]
  by_cases e : j = c
  · rw [if_pos e, e, pk_us, decide_eq_true rfl, Bool.or_true, if_pos rfl]
  · rw [if_neg e, pk_un e, decide_eq_false e, Bool.or_false]
theorem be_updr {a b : Nat → Int32} {i N : Nat} {v : Int32} (h : ∀ r, r < N → a r = b r) : ∀ r, r < N → upd a i v r = upd b i v r := fun r hr => by
  unfold upd
  split
  · rfl
  · exact h r hr
end
section
theorem be_ys {yf_phase yf_count yf_position yf_failed : Int32} {ya_cells ya_sizes ya_operations ya_places ya_numbers ya_done ya_outs ya_puts ya_stored ya_registers ya_before : Nat → Int32} {post : SY → Prop} {sg reg sv ov : Nat → Int32} {pos bits oc : Int32} {t p q x o l : Nat} (ht : t < 8) (hL : ya_sizes t = nI l) (hl : l ≤ 12) (hp : pos = nI p) (hpl : p < l) (hoc : oc = nI q) (hqp : q ≤ p) (hx : x < 16) (ex : ya_places (12 * t + p) = nI x) (ho : o < 12) (eo : ya_operations (12 * t + p) = nI o) (R : be_YR sg (ya_sizes t) t (pos, reg, 0, bits, sv, oc, ov) yf_position yf_failed ya_cells ya_outs ya_puts ya_stored ya_registers ya_before) (h : ∀ (fp ff : Int32) (ce ou pu so rg : Nat → Int32), be_YR sg (ya_sizes t) t (be_in sg ya_sizes ya_operations ya_places ya_numbers t (pos, reg, 0, bits, sv, oc, ov)) fp ff ce ou pu so rg ya_before → be_YF t ya_outs ya_puts ya_stored ou pu so → post (yf_phase, yf_count, fp, ff, ce, ya_sizes, ya_operations, ya_places, ya_numbers, ya_done, ou, pu, so, rg, ya_before)) : wpY_step post (yf_phase, yf_count, yf_position, yf_failed, ya_cells, ya_sizes, ya_operations, ya_places, ya_numbers, ya_done, ya_outs, ya_puts, ya_stored, ya_registers, ya_before) (nI t) := by
  obtain ⟨ff0, rb, R⟩ := R
  obtain ⟨rp, rr, rc, rs, ro, ru⟩ := R rfl
  have hlt : pos < ya_sizes t := by rw [hp, hL]; exact nI_lt hpl (by omega)
  have rp' : yf_position = pos := by
    rcases rp with g | g
    · exact g
    · exact absurd hlt g.2
  subst hp hoc
  have hi : vp_in (nI t) 8 := vp_in_nI ht (by omega)
  have ct : (nI t).toNatClampNeg = t := nI_clamp (by omega)
  have cp : (nI p).toNatClampNeg = p := nI_clamp (by omega)
  have cx : (nI x).toNatClampNeg = x := nI_clamp (by omega)
  have hx4 : x / 4 < 4 := by omega
  have hm4 : x % 4 < 4 := by omega
  have hin : be_in sg ya_sizes ya_operations ya_places ya_numbers t (nI p, reg, 0, bits, sv, nI q, ov) = be_st sg (ya_sizes t) (nI o) (x / 4) (x % 4) (ya_numbers (12 * t + p)) (nI p, reg, 0, bits, sv, nI q, ov) := by
    show be_st sg (ya_sizes t) (ya_operations (12 * t + (nI p).toNatClampNeg)) ((ya_places (12 * t + (nI p).toNatClampNeg)).toNatClampNeg / 4) ((ya_places (12 * t + (nI p).toNatClampNeg)).toNatClampNeg % 4) (ya_numbers (12 * t + (nI p).toNatClampNeg)) (nI p, reg, 0, bits, sv, nI q, ov) = _
    rw [cp, eo, ex, cx]
  rw [hin] at h
  intro x2 e2
  have e2' : x2 = nI (12 * t + p) := by rw [e2, rp']; exact be_iy 12 t p
  have hi2 : vp_in x2 96 := pk_in (12 * t + p) 96 (by omega) e2'
  have c2 : x2.toNatClampNeg = 12 * t + p := pk_cl _ e2' (by omega)
  clear e2 e2'
  refine ⟨hi2, by decide, fun x3 e3 => ⟨hi2, by decide, fun x4 e4 => ⟨hi2, fun x5 e5 => ⟨hi2, fun x6 e6 => fun y ey => ?_⟩⟩⟩⟩
  rw [c2] at e3 e4 e5 e6
  have e3' : x3 = nI (x / 4) := by rw [e3, ex]; exact pk_div (d := 4) (by omega) (by omega) (by omega)
  have e4' : x4 = nI (x % 4) := by rw [e4, ex]; exact pk_rem (d := 4) (by omega) (by omega) (by omega)
  have e6' : x6 = nI o := e6.trans eo
  have ey' : y = nI p + 1 := by rw [ey, rp']
  clear e3 e4 e6 ey
  subst e3' e4' e5 e6' ey'
  have hi3 : vp_in (nI (x / 4)) 4 := vp_in_nI hx4 (by omega)
  have hi4 : vp_in (nI (x % 4)) 4 := vp_in_nI hm4 (by omega)
  have c3 : (nI (x / 4)).toNatClampNeg = x / 4 := nI_clamp (by omega)
  have c4 : (nI (x % 4)).toNatClampNeg = x % 4 := nI_clamp (by omega)
  have r3 := rr (x / 4) hx4
  have r4 := rr (x % 4) hm4
  have rgw : ∀ v : Int32, be_YR sg (ya_sizes t) t (nI p + 1, upd reg (x / 4) v, 0, bits, sv, nI q, ov) (nI p + 1) yf_failed ya_cells ya_outs ya_puts ya_stored (upd ya_registers (x / 4) v) ya_before := fun v => ⟨ff0, rb, fun _ => ⟨Or.inl rfl, be_updr rr, rc, rs, ro, ru⟩⟩
  rcases be_o12 ho with rfl | rfl | rfl | rfl | rfl | rfl | rfl | rfl | rfl | rfl | rfl | rfl
  · refine br_t (by decide) ⟨hi3, fun y1 e1 => br_f (by decide) (br_f (by decide) (br_f (by decide) (br_f (by decide) (br_f (by decide) (br_f (by decide) (br_f (by decide) (br_f (by decide) (br_f (by decide) (br_f (by decide) (br_f (by decide) (?_)))))))))))⟩
    rw [e1, c3]
    refine h _ _ _ _ _ _ _ ?_ (be_yfr _ _ _ _)
    rw [be_st0]
    exact rgw _
  · refine br_f (by decide) (br_t (by decide) ⟨hi3, hi4, hi3, fun y1 e1 => br_f (by decide) (br_f (by decide) (br_f (by decide) (br_f (by decide) (br_f (by decide) (br_f (by decide) (br_f (by decide) (br_f (by decide) (br_f (by decide) (br_f (by decide) (?_))))))))))⟩)
    rw [e1, c3, c4, r3, r4]
    refine h _ _ _ _ _ _ _ ?_ (be_yfr _ _ _ _)
    rw [be_st1]
    exact rgw _
  · refine br_f (by decide) (br_f (by decide) (br_t (by decide) ⟨hi3, hi4, hi3, fun y1 e1 => br_f (by decide) (br_f (by decide) (br_f (by decide) (br_f (by decide) (br_f (by decide) (br_f (by decide) (br_f (by decide) (br_f (by decide) (br_f (by decide) (?_)))))))))⟩))
    rw [e1, c3, c4, r3, r4]
    refine h _ _ _ _ _ _ _ ?_ (be_yfr _ _ _ _)
    rw [be_st2]
    exact rgw _
  · obtain ⟨c, hc, e15⟩ := be_m15 (ya_numbers (12 * t + p))
    have cc : (nI c).toNatClampNeg = c := nI_clamp (by omega)
    refine br_f (by decide) (br_f (by decide) (br_f (by decide) (br_t (by decide) ⟨?_, hi3, fun y1 e1 => br_f (by decide) (br_f (by decide) (br_f (by decide) (br_f (by decide) (br_f (by decide) (br_f (by decide) (br_f (by decide) (br_f (by decide) (?_))))))))⟩)))
    · rw [e15]
      exact vp_in_nI hc (by omega)
    · rw [e1, c3, e15, cc, rc c hc]
      refine h _ _ _ _ _ _ _ ?_ (be_yfr _ _ _ _)
      rw [be_st3, e15, cc]
      exact rgw _
  · obtain ⟨c, hc, e15⟩ := be_m15 (ya_numbers (12 * t + p))
    have cc : (nI c).toNatClampNeg = c := nI_clamp (by omega)
    refine br_f (by decide) (br_f (by decide) (br_f (by decide) (br_f (by decide) (br_t (by decide) ⟨hi3, ?_⟩))))
    rw [c3, r3, e15]
    refine be_yst ht hc ?_
    refine br_f (by decide) (br_f (by decide) (br_f (by decide) (br_f (by decide) (br_f (by decide) (br_f (by decide) (br_f (by decide) (?_)))))))
    refine h _ _ _ _ _ _ _ ?_ (fun u hu => ⟨rfl, pk_un hu, rfl⟩)
    · rw [be_st4, e15, cc]
      refine ⟨ff0, rb, fun _ => ⟨Or.inl rfl, rr, fun j hj => ?_, ?_, ro, ru⟩⟩
      · rw [be_rds hc hj]
        by_cases e : j = c
        · rw [if_pos e, e, pk_us]
        · rw [if_neg e, pk_un e]
          exact rc j hj
      · rw [pk_us, rs]
  · refine br_f (by decide) (br_f (by decide) (br_f (by decide) (br_f (by decide) (br_f (by decide) (br_t (by decide) ⟨hi3, hi4, hi3, fun y1 e1 => br_f (by decide) (br_f (by decide) (br_f (by decide) (br_f (by decide) (br_f (by decide) (br_f (by decide) (?_))))))⟩)))))
    rw [e1, c3, c4, r3, r4]
    refine h _ _ _ _ _ _ _ ?_ (be_yfr _ _ _ _)
    rw [be_st5]
    exact rgw _
  · refine br_f (by decide) (br_f (by decide) (br_f (by decide) (br_f (by decide) (br_f (by decide) (br_f (by decide) (br_t (by decide) ⟨hi3, hi4, ?_⟩))))))
    rw [c3, c4, r3, r4]
    by_cases z : reg (x % 4) ≤ reg (x / 4)
    · refine br_t z (br_f (by decide) (br_f (by decide) (br_f (by decide) (br_f (by decide) (br_f (by decide) (?_))))))
      refine h _ _ _ _ _ _ _ ?_ (be_yfr _ _ _ _)
      rw [be_st6, if_pos z]
      exact ⟨ff0, rb, fun _ => ⟨Or.inl rfl, rr, rc, rs, ro, ru⟩⟩
    · refine br_f z fun y1 e1 => br_f (by decide) (br_f (by decide) (br_f (by decide) (br_f (by decide) (br_f (by decide) (?_)))))
      rw [e1]
      refine h _ _ _ _ _ _ _ ?_ (be_yfr _ _ _ _)
      rw [be_st6, if_neg z]
      exact ⟨ff0, rb, fun _ => ⟨Or.inl rfl, rr, rc, rs, ro, ru⟩⟩
  · refine br_f (by decide) (br_f (by decide) (br_f (by decide) (br_f (by decide) (br_f (by decide) (br_f (by decide) (br_f (by decide) (br_t (by decide) ⟨hi3, ?_⟩)))))))
    rw [c3, r3]
    by_cases z : ya_numbers (12 * t + p) ≤ reg (x / 4)
    · refine br_t z (br_f (by decide) (br_f (by decide) (br_f (by decide) (br_f (by decide) (?_)))))
      refine h _ _ _ _ _ _ _ ?_ (be_yfr _ _ _ _)
      rw [be_st7, if_pos z]
      exact ⟨ff0, rb, fun _ => ⟨Or.inl rfl, rr, rc, rs, ro, ru⟩⟩
    · refine br_f z (br_f (by decide) (br_f (by decide) (br_f (by decide) (br_f (by decide) (?_)))))
      refine h _ _ _ _ _ _ _ ?_ (be_yfr _ _ _ _)
      rw [be_st7, if_neg z]
      exact ⟨rfl, rb, fun q => absurd q (by decide)⟩
  · have e12 : 12 * nI t + ya_outs t = nI (12 * t + q) := by rw [ro]; exact be_iy 12 t q
    have e12c : (12 * nI t + ya_outs t).toNatClampNeg = 12 * t + q := pk_cl _ e12 (by omega)
    refine br_f (by decide) (br_f (by decide) (br_f (by decide) (br_f (by decide) (br_f (by decide) (br_f (by decide) (br_f (by decide) (br_f (by decide) (br_t (by decide) ⟨hi, hi3, ?_, fun y1 e1 => ⟨hi, hi, fun y2 e2 => br_f (by decide) (br_f (by decide) (br_f (by decide) (?_)))⟩⟩))))))))
    · rw [ct]
      exact pk_in (12 * t + q) 96 (by omega) e12
    · rw [e2, e1, ct, e12c, c3, r3]
      refine h _ _ _ _ _ _ _ ?_ (fun u hu => ⟨pk_un hu, rfl, be_slo (by omega) hu⟩)
      rw [be_st8, if_neg (show ¬ (12 : Int32) ≤ nI q from nI_ge (b := 12) (by omega) (by omega)), nI_clamp (n := q) (by omega)]
      refine ⟨ff0, rb, fun _ => ⟨Or.inl rfl, rr, rc, rs, ?_, fun k q' eq' hq' hk => ?_⟩⟩
      · rw [pk_us, ro]
      · rw [nI_1, nI_eq (by omega) (by omega)] at eq'
        by_cases e : k = q
        · rw [e, pk_us, pk_us]
        · rw [pk_un (by omega), pk_un e]
          exact ru k q rfl (by omega) (by omega)
  · obtain ⟨c, hc, e15⟩ := be_m15 (reg (x % 4))
    have cc : (nI c).toNatClampNeg = c := nI_clamp (by omega)
    refine br_f (by decide) (br_f (by decide) (br_f (by decide) (br_f (by decide) (br_f (by decide) (br_f (by decide) (br_f (by decide) (br_f (by decide) (br_f (by decide) (br_t (by decide) ⟨hi4, ?_, hi3, fun y1 e1 => br_f (by decide) (br_f (by decide) (?_))⟩)))))))))
    · rw [c4, r4, e15]
      exact vp_in_nI hc (by omega)
    · rw [e1, c3, c4, r4, e15, cc, rc c hc]
      refine h _ _ _ _ _ _ _ ?_ (be_yfr _ _ _ _)
      rw [be_st9, e15, cc]
      exact rgw _
  · obtain ⟨c, hc, e15⟩ := be_m15 (reg (x % 4))
    have cc : (nI c).toNatClampNeg = c := nI_clamp (by omega)
    refine br_f (by decide) (br_f (by decide) (br_f (by decide) (br_f (by decide) (br_f (by decide) (br_f (by decide) (br_f (by decide) (br_f (by decide) (br_f (by decide) (br_f (by decide) (br_t (by decide) ⟨hi4, hi3, ?_⟩))))))))))
    rw [c3, c4, r3, r4, e15]
    refine be_yst ht hc ?_
    refine br_f (by decide) (?_)
    refine h _ _ _ _ _ _ _ ?_ (fun u hu => ⟨rfl, pk_un hu, rfl⟩)
    · rw [be_st10, e15, cc]
      refine ⟨ff0, rb, fun _ => ⟨Or.inl rfl, rr, fun j hj => ?_, ?_, ro, ru⟩⟩
      · rw [be_rds hc hj]
        by_cases e : j = c
        · rw [if_pos e, e, pk_us]
        · rw [if_neg e, pk_un e]
          exact rc j hj
      · rw [pk_us, rs]
  · refine br_f (by decide) (br_f (by decide) (br_f (by decide) (br_f (by decide) (br_f (by decide) (br_f (by decide) (br_f (by decide) (br_f (by decide) (br_f (by decide) (br_f (by decide) (br_f (by decide) (br_t (by decide) ?_)))))))))))
    refine h _ _ _ _ _ _ _ ?_ (be_yfr _ _ _ _)
    rw [be_st11]
    refine ⟨ff0, rb, fun _ => ⟨Or.inr ⟨?_, Int32.lt_irrefl⟩, rr, rc, rs, ro, ru⟩⟩
    rw [hL]
    exact nI_nlt (a := 12) hl (by omega)
end
section
/-! the reference: carryOut and run -/
theorem be_itc (f : be_S → be_S) (s : be_S) : ∀ k, be_it f (k + 1) s = be_it f k (f s)
  | 0 => rfl
  | k + 1 => congrArg f (be_itc f s k)
theorem be_itH {f : be_S → be_S} {s : be_S} (h : f s = s) : ∀ k, be_it f k s = s
  | 0 => rfl
  | k + 1 => (congrArg f (be_itH h k)).trans h
theorem be_rd0 {sg sv : Nat → Int32} {c : Nat} : be_rd sg 0 sv c = sg c := by
  unfold be_rd
  rw [if_neg (by rw [b_0]; decide)]
/-- how the reference leaves a transaction whose machine ended in z -/
def be_YE (sg : Nat → Int32) (t : Nat) (z : be_S) (dn0 ce dn ou pu so : Nat → Int32) : Prop := match z with
  | (_, _, fl, bits, sv, oc, ov) => (∀ c, c < 16 → ce c = be_rd sg bits sv c) ∧ dn = upd dn0 t (if fl = 0 then 1 else 0) ∧ ou t = oc ∧ so t = bits ∧ (∀ k q, oc = nI q → q ≤ 12 → k < q → pu (12 * t + k) = ov k)
theorem be_y125 {yf_phase yf_count yf_position yf_failed : Int32} {ya_sizes ya_operations ya_places ya_numbers ya_done ya_outs ya_puts ya_stored ya_registers ya_before : Nat → Int32} {post : SY → Prop} {t : Nat} (ht : t < 8) (h : ∀ ce, (∀ c, c < 16 → ce c = ya_before c) → post (yf_phase, yf_count, yf_position, yf_failed, ce, ya_sizes, ya_operations, ya_places, ya_numbers, ya_done, upd ya_outs t 0, ya_puts, upd ya_stored t 0, ya_registers, ya_before)) : ∀ (d c : Nat) (ce : Nat → Int32), c + d = 16 → (∀ j, j < c → ce j = ya_before j) → wY_carryOut_125 post (nI t) yf_phase yf_count yf_position yf_failed (d + 1) (nI c) ce ya_sizes ya_operations ya_places ya_numbers ya_done ya_outs ya_puts ya_stored ya_registers ya_before := by
  have hi : vp_in (nI t) 8 := vp_in_nI ht (by omega)
  have ct : (nI t).toNatClampNeg = t := nI_clamp (by omega)
  intro d
  induction d with
  | zero =>
    intro c ce hd hu
    refine br_t (nI_le (a := 16) (by omega) (by omega)) ⟨hi, fun y1 e1 => ⟨hi, fun y2 e2 => ?_⟩⟩
    rw [e1, e2, ct]
    exact h ce (fun j hj => hu j (by omega))
  | succ d ih =>
    intro c ce hd hu
    have hic : vp_in (nI c) 16 := vp_in_nI (by omega) (by omega)
    refine br_f (nI_ge (b := 16) (by omega) (by omega)) ⟨hic, hic, fun y1 e1 y2 e2 => ?_⟩
    rw [e1, e2, nI_1, nI_clamp (n := c) (by omega)]
    refine ih (c + 1) _ (by omega) (lt_s (fun j hj => ?_) pk_us)
    rw [pk_un (by omega)]
    exact hu j hj
theorem be_y98 {yf_phase yf_count yf_position yf_failed : Int32} {ya_cells ya_sizes ya_operations ya_places ya_numbers ya_done ya_outs ya_puts ya_stored ya_registers ya_before : Nat → Int32} {post : SY → Prop} {sg : Nat → Int32} {L : Int32} {t : Nat} {z : be_S} (ht : t < 8) (R : be_YR sg L t z yf_position yf_failed ya_cells ya_outs ya_puts ya_stored ya_registers ya_before) (B : be_BI L z) (h : ∀ ce dn ou so, be_YE sg t z ya_done ce dn ou ya_puts so → be_YF t ya_outs ya_puts ya_stored ou ya_puts so → post (yf_phase, yf_count, yf_position, yf_failed, ce, ya_sizes, ya_operations, ya_places, ya_numbers, dn, ou, ya_puts, so, ya_registers, ya_before)) : wY_carryOut_98 post (nI t) yf_phase yf_count yf_position yf_failed ya_cells ya_sizes ya_operations ya_places ya_numbers ya_done ya_outs ya_puts ya_stored ya_registers ya_before := by
  obtain ⟨pos, reg, fl, bits, sv, oc, ov⟩ := z
  obtain ⟨ff0, rb, R⟩ := R
  obtain ⟨p, q, hp, hq, hqp, hq12, hp13, hf⟩ := B
  have hi : vp_in (nI t) 8 := vp_in_nI ht (by omega)
  have ct : (nI t).toNatClampNeg = t := nI_clamp (by omega)
  by_cases zf : fl = 0
  · obtain ⟨_, rr, rc, rs, ro, ru⟩ := R zf
    have zf' : yf_failed = 0 := ff0.trans zf
    refine br_t zf' ⟨hi, fun dn edn => br_t zf' ?_⟩
    refine h _ _ _ _ ⟨rc, ?_, ro, rs, ru⟩ (be_yfr _ _ _ _)
    rw [edn, ct, be_b1, if_pos zf]
  · have hf' : fl = 1 ∧ bits = 0 ∧ oc = 0 ∧ ¬ pos < L := by
      rcases hf with g | g
      · exact absurd g zf
      · exact g
    have zf' : ¬ yf_failed = 0 := fun g => zf (ff0.symm.trans g)
    refine br_f zf' ⟨hi, fun dn edn => br_f zf' ⟨17, be_y125 ht (fun ce hce => ?_) 16 0 _ rfl (fun j hj => absurd hj (Nat.not_lt_zero j))⟩⟩
    refine h _ _ _ _ ⟨fun c hc => ?_, ?_, ?_, ?_, fun k q' e _ hk => ?_⟩ (fun u hu => ⟨pk_un hu, pk_un hu, rfl⟩)
    · rw [hf'.2.1, be_rd0, hce c hc, rb c hc]
    · rw [edn, ct, be_b0, if_neg zf]
    · rw [pk_us, hf'.2.2.1]
    · rw [pk_us, hf'.2.1]
    · rw [hf'.2.2.1, ← nI_0, nI_eq (by omega) (by omega)] at e
      omega
theorem be_y70 {yf_phase yf_count : Int32} {ya_sizes ya_operations ya_places ya_numbers ya_done ya_outs ya_puts ya_stored ya_before : Nat → Int32} {post : SY → Prop} {sg : Nat → Int32} {t l : Nat} {z : be_S} (ht : t < 8) (hL : ya_sizes t = nI l) (hl : l ≤ 12) (hP : ∀ i, ∃ x, x < 16 ∧ ya_places i = nI x) (hO : ∀ i, ∃ o, o < 12 ∧ ya_operations i = nI o) (hz : ¬ z.1 < ya_sizes t) (h : ∀ (fp ff : Int32) (ce dn ou pu so rg : Nat → Int32), be_YE sg t z ya_done ce dn ou pu so → be_YF t ya_outs ya_puts ya_stored ou pu so → post (yf_phase, yf_count, fp, ff, ce, ya_sizes, ya_operations, ya_places, ya_numbers, dn, ou, pu, so, rg, ya_before)) : ∀ (d : Nat) (s : be_S) (fp ff : Int32) (ce ou pu so rg : Nat → Int32), be_it (be_ms sg ya_sizes ya_operations ya_places ya_numbers t) d s = z → be_YR sg (ya_sizes t) t s fp ff ce ou pu so rg ya_before → be_BI (ya_sizes t) s → be_YF t ya_outs ya_puts ya_stored ou pu so → wY_carryOut_70 post (nI t) (d + 1) yf_phase yf_count fp ff ce ya_sizes ya_operations ya_places ya_numbers ya_done ou pu so rg ya_before := by
  have hi : vp_in (nI t) 8 := vp_in_nI ht (by omega)
  have ct : (nI t).toNatClampNeg = t := nI_clamp (by omega)
  have ex : ∀ (n : Nat) (fp ff : Int32) (ce ou pu so rg : Nat → Int32), be_YR sg (ya_sizes t) t z fp ff ce ou pu so rg ya_before → be_BI (ya_sizes t) z → be_YF t ya_outs ya_puts ya_stored ou pu so → wY_carryOut_70 post (nI t) (n + 1) yf_phase yf_count fp ff ce ya_sizes ya_operations ya_places ya_numbers ya_done ou pu so rg ya_before := by
    intro n fp ff ce ou pu so rg R B F
    have h98 := be_y98 (yf_phase := yf_phase) (yf_count := yf_count) (ya_sizes := ya_sizes) (ya_operations := ya_operations) (ya_places := ya_places) (ya_numbers := ya_numbers) (ya_done := ya_done) (post := post) ht R B (fun ce' dn' ou' so' E F' => h fp ff ce' dn' ou' pu so' rg E (be_yft F F'))
    refine ⟨hi, ?_⟩
    rw [ct]
    by_cases q : ya_sizes t ≤ fp
    · exact br_t q h98
    · refine br_f q (br_f (fun g => ?_) h98)
      obtain ⟨pos, reg, fl, bits, sv, oc, ov⟩ := z
      obtain ⟨ff0, _, R⟩ := R
      rcases (R (ff0.symm.trans g)).1 with e | e
      · exact q (Int32.not_lt.mp (by rw [e]; exact hz))
      · exact q (Int32.not_lt.mp e.1)
  intro d
  induction d with
  | zero =>
    intro s fp ff ce ou pu so rg e R B F
    have e' : s = z := e
    subst e'
    exact ex 0 fp ff ce ou pu so rg R B F
  | succ d ih =>
    intro s fp ff ce ou pu so rg e R B F
    by_cases zs : s.1 < ya_sizes t
    · rw [be_itc] at e
      have em : be_ms sg ya_sizes ya_operations ya_places ya_numbers t s = be_in sg ya_sizes ya_operations ya_places ya_numbers t s := if_pos zs
      have B' := be_biM (sg := sg) (cO := ya_operations) (cP := ya_places) (cN := ya_numbers) hL hl B
      rw [em] at e B'
      obtain ⟨pos, reg, fl, bits, sv, oc, ov⟩ := s
      obtain ⟨p, q, hp, hq, hqp, hq12, hp13, hf⟩ := B
      have hf0 : fl = 0 := by
        rcases hf with g | g
        · exact g
        · exact absurd zs g.2.2.2
      subst hf0
      have hpl : p < l := by
        have g : pos < ya_sizes t := zs
        rw [hp, hL, nI_ltI (by omega) (by omega)] at g
        exact g
      have efp : fp = pos := by
        rcases (R.2.2 rfl).1 with g | g
        · exact g
        · exact absurd zs g.2
      obtain ⟨x, hx, ex⟩ := hP (12 * t + p)
      obtain ⟨o, ho, eo⟩ := hO (12 * t + p)
      refine ⟨hi, ?_⟩
      rw [ct]
      refine br_f (Int32.not_le.mpr (by rw [efp]; exact zs)) (br_t R.1 ?_)
      refine be_ys ht hL hl hp hpl hq hqp hx ex ho eo R (fun fp' ff' ce' ou' pu' so' rg' R' F' => ?_)
      exact ih _ fp' ff' ce' ou' pu' so' rg' e R' B' (be_yft F F')
    · have em : be_ms sg ya_sizes ya_operations ya_places ya_numbers t s = s := if_neg zs
      rw [be_itH em] at e
      subst e
      exact ex (d + 1) fp ff ce ou pu so rg R B F
theorem be_y28 {yf_phase yf_count yf_position yf_failed : Int32} {ya_cells ya_sizes ya_operations ya_places ya_numbers ya_done ya_outs ya_puts ya_stored ya_before : Nat → Int32} {post : SY → Prop} {t : Nat} (ht : t < 8) (h : ∀ rg, (∀ r, r < 4 → rg r = 0) → ∃ n, wY_carryOut_70 post (nI t) n yf_phase yf_count 0 0 ya_cells ya_sizes ya_operations ya_places ya_numbers ya_done (upd ya_outs t 0) ya_puts (upd ya_stored t 0) rg ya_before) : ∀ (d r : Nat) (rg : Nat → Int32), r + d = 4 → (∀ j, j < r → rg j = 0) → wY_carryOut_28 post (nI t) yf_phase yf_count yf_position yf_failed (d + 1) (nI r) ya_cells ya_sizes ya_operations ya_places ya_numbers ya_done ya_outs ya_puts ya_stored rg ya_before := by
  have hi : vp_in (nI t) 8 := vp_in_nI ht (by omega)
  have ct : (nI t).toNatClampNeg = t := nI_clamp (by omega)
  intro d
  induction d with
  | zero =>
    intro r rg hd hu
    refine br_t (nI_le (a := 4) (by omega) (by omega)) ⟨hi, fun y1 e1 => ⟨hi, fun y2 e2 => ?_⟩⟩
    rw [e1, e2, ct]
    exact h rg (fun j hj => hu j (by omega))
  | succ d ih =>
    intro r rg hd hu
    refine br_f (nI_ge (b := 4) (by omega) (by omega)) ⟨vp_in_nI (by omega) (by omega), fun y1 e1 y2 e2 => ?_⟩
    rw [e1, e2, nI_1, nI_clamp (n := r) (by omega)]
    refine ih (r + 1) _ (by omega) (lt_s (fun j hj => ?_) pk_us)
    rw [pk_un (by omega)]
    exact hu j hj
theorem be_y2 {yf_phase yf_count yf_position yf_failed : Int32} {ya_cells ya_sizes ya_operations ya_places ya_numbers ya_done ya_outs ya_puts ya_stored ya_registers : Nat → Int32} {post : SY → Prop} {t : Nat} (h : ∀ bf, (∀ c, c < 16 → bf c = ya_cells c) → ∃ n, wY_carryOut_28 post (nI t) yf_phase yf_count yf_position yf_failed n 0 ya_cells ya_sizes ya_operations ya_places ya_numbers ya_done ya_outs ya_puts ya_stored ya_registers bf) : ∀ (d c : Nat) (bf : Nat → Int32), c + d = 16 → (∀ j, j < c → bf j = ya_cells j) → wY_carryOut_2 post (nI t) yf_phase yf_count yf_position yf_failed (d + 1) (nI c) ya_cells ya_sizes ya_operations ya_places ya_numbers ya_done ya_outs ya_puts ya_stored ya_registers bf := by
  intro d
  induction d with
  | zero =>
    intro c bf hd hu
    exact br_t (nI_le (a := 16) (by omega) (by omega)) (h bf (fun j hj => hu j (by omega)))
  | succ d ih =>
    intro c bf hd hu
    have hic : vp_in (nI c) 16 := vp_in_nI (by omega) (by omega)
    refine br_f (nI_ge (b := 16) (by omega) (by omega)) ⟨hic, hic, fun y1 e1 y2 e2 => ?_⟩
    rw [e1, e2, nI_1, nI_clamp (n := c) (by omega)]
    refine ih (c + 1) _ (by omega) (lt_s (fun j hj => ?_) pk_us)
    rw [pk_un (by omega)]
    exact hu j hj
theorem be_yco {yf_phase yf_count yf_position yf_failed : Int32} {ya_cells ya_sizes ya_operations ya_places ya_numbers ya_done ya_outs ya_puts ya_stored ya_registers ya_before : Nat → Int32} {post : SY → Prop} {sg sv0 ov0 : Nat → Int32} {t l k : Nat} {z : be_S} (ht : t < 8) (hL : ya_sizes t = nI l) (hl : l ≤ 12) (hP : ∀ i, ∃ x, x < 16 ∧ ya_places i = nI x) (hO : ∀ i, ∃ o, o < 12 ∧ ya_operations i = nI o) (hc : ∀ c, c < 16 → ya_cells c = sg c) (hz : ¬ z.1 < ya_sizes t) (e : be_it (be_ms sg ya_sizes ya_operations ya_places ya_numbers t) k (be_c0 sv0 ov0) = z) (h : ∀ (fp ff : Int32) (ce dn ou pu so rg bf : Nat → Int32), be_YE sg t z ya_done ce dn ou pu so → be_YF t ya_outs ya_puts ya_stored ou pu so → post (yf_phase, yf_count, fp, ff, ce, ya_sizes, ya_operations, ya_places, ya_numbers, dn, ou, pu, so, rg, bf)) : wpY_carryOut post (yf_phase, yf_count, yf_position, yf_failed, ya_cells, ya_sizes, ya_operations, ya_places, ya_numbers, ya_done, ya_outs, ya_puts, ya_stored, ya_registers, ya_before) (nI t) := by
  refine ⟨17, be_y2 (fun bf hb => ⟨5, be_y28 ht (fun rg hr => ⟨k + 1, ?_⟩) 4 0 _ rfl (fun j hj => absurd hj (Nat.not_lt_zero j))⟩) 16 0 _ rfl (fun j hj => absurd hj (Nat.not_lt_zero j))⟩
  refine be_y70 (ya_outs := upd ya_outs t 0) (ya_puts := ya_puts) (ya_stored := upd ya_stored t 0) ht hL hl hP hO hz (fun fp ff ce dn ou pu so rg' E F => h fp ff ce dn ou pu so rg' bf E (be_yft (fun u hu => ⟨pk_un hu, pk_un hu, rfl⟩) F)) k (be_c0 sv0 ov0) 0 0 _ _ _ _ _ e ?_ (be_bi0 _ _ _) (be_yfr _ _ _ _)
  refine ⟨rfl, fun c hc' => (hb c hc').trans (hc c hc'), fun _ => ⟨Or.inl rfl, hr, fun c hc' => ?_, pk_us, pk_us, fun k q e' _ hk => ?_⟩⟩
  · rw [be_rd0]
    exact hc c hc'
  · rw [← nI_0, nI_eq (by omega) (by omega)] at e'
    omega
/-- the reference's answers on transaction u are the component's -/
def be_YM (fl sc oc ov dn ou pu so : Nat → Int32) (u : Nat) : Prop := dn u = (if fl u = 0 then 1 else 0) ∧ ou u = oc u ∧ so u = sc u ∧ (∀ k q, oc u = nI q → q ≤ 12 → k < q → pu (12 * u + k) = ov (12 * u + k))
theorem be_y15 {yf_phase yf_count : Int32} {ya_sizes ya_operations ya_places ya_numbers : Nat → Int32} {post : Int32 → SY → Prop} {st bf ps rg fl sn sV sc sv oc ov : Nat → Int32} {m : Nat} (hm : m ≤ 8) (hc : yf_count = nI m) (hl : ∀ t, t < 8 → ∃ l, l ≤ 12 ∧ ya_sizes t = nI l) (hP : ∀ i, ∃ x, x < 16 ∧ ya_places i = nI x) (hO : ∀ i, ∃ o, o < 12 ∧ ya_operations i = nI o) (h3 : ∀ t, t < m → st t = 3) (hz : ∀ t, t < m → ¬ ps t < ya_sizes t) (hx : ∀ t, t < m → ∃ (k : Nat) (sv0 ov0 : Nat → Int32), be_xs (ps, rg, fl, sn, sV, sc, sv, oc, ov) t = be_it (be_ms (be_vb st sc sv bf t) ya_sizes ya_operations ya_places ya_numbers t) k (be_c0 sv0 ov0)) (h : ∀ (fp ff : Int32) (ce dn ou pu so yr yb : Nat → Int32), (∀ c, c < 16 → ce c = be_vb st sc sv bf m c) → (∀ u, u < m → be_YM fl sc oc ov dn ou pu so u) → post (be_cd fl m) (2, yf_count, fp, ff, ce, ya_sizes, ya_operations, ya_places, ya_numbers, dn, ou, pu, so, yr, yb)) : ∀ (d t : Nat) (fp ff : Int32) (ce dn ou pu so yr yb : Nat → Int32), t + d = m → (∀ c, c < 16 → ce c = be_vb st sc sv bf t c) → (∀ u, u < t → be_YM fl sc oc ov dn ou pu so u) → wY_run_15 post (d + 1) (be_cd fl t) (nI t) yf_phase yf_count fp ff ce ya_sizes ya_operations ya_places ya_numbers dn ou pu so yr yb := by
  subst hc
  intro d
  induction d with
  | zero =>
    intro t fp ff ce dn ou pu so yr yb hd hce hM
    have e : t = m := by omega
    subst e
    exact br_t (nI_le (by omega) (by omega)) (h fp ff ce dn ou pu so yr yb hce hM)
  | succ d ih =>
    intro t fp ff ce dn ou pu so yr yb hd hce hM
    have ht : t < 8 := by omega
    have htm : t < m := by omega
    have ct : (nI t).toNatClampNeg = t := nI_clamp (by omega)
    obtain ⟨l, hl12, hL⟩ := hl t ht
    obtain ⟨k, sv0, ov0, ek⟩ := hx t htm
    refine br_f (nI_ge (by omega) (by omega)) (be_yco ht hL hl12 hP hO hce (hz t htm) ek.symm ?_)
    intro fp' ff' ce' dn' ou' pu' so' yr' yb' E F
    obtain ⟨E1, E2, E3, E4, E5⟩ := E
    have hce' : ∀ c, c < 16 → ce' c = be_vb st sc sv bf (t + 1) c := fun c hc => by
      rw [E1 c hc]
      show _ = if ¬ st t < 2 then be_rd (be_vb st sc sv bf t) (sc t) (be_sl sv 16 t) c else be_vb st sc sv bf t c
      rw [if_pos (by rw [h3 t htm]; decide)]
    have hM' : ∀ u, u < t + 1 → be_YM fl sc oc ov dn' ou' pu' so' u := by
      refine lt_s (fun u hu => ?_) ?_
      · obtain ⟨m1, m2, m3, m4⟩ := hM u hu
        have hne : u ≠ t := by omega
        obtain ⟨f1, f2, f3⟩ := F u hne
        refine ⟨?_, f1.trans m2, f2.trans m3, fun k q e hq hk => ?_⟩
        · rw [E2, pk_un hne]
          exact m1
        · rw [← m4 k q e hq hk, ← be_sla (a := pu') (w := 12) (by omega), ← be_sla (a := pu) (w := 12) (by omega), f3]
      · refine ⟨?_, E3, E4, fun k q e hq hk => ?_⟩
        · rw [E2, pk_us]
        · rw [E5 k q e hq hk]
          exact be_sla (by omega)
    have ih' := ih (t + 1) fp' ff' ce' dn' ou' pu' so' yr' yb' (by omega) hce' hM'
    have ed : dn' t = if fl t = 0 then 1 else 0 := by rw [E2, pk_us]
    refine ⟨vp_in_nI ht (by omega), ?_⟩
    rw [ct]
    by_cases z : fl t = 0
    · rw [if_pos z] at ed
      have e : be_cd fl (t + 1) = be_cd fl t + 1 := if_pos z
      rw [e] at ih'
      refine br_f (by rw [ed]; decide) fun y ey y2 e2 => ?_
      rw [ey, e2, nI_1 t]
      exact ih'
    · rw [if_neg z] at ed
      have e : be_cd fl (t + 1) = be_cd fl t := if_neg z
      rw [e] at ih'
      refine br_t ed fun y ey => ?_
      rw [ey, nI_1 t]
      exact ih'
end
section
/-! the relation -/
def i_Rel (k : Nat) (u : SX) (v : SY) : Prop := match u, v with
  | (f_workers, f_stage, f_count, f_settled, f_turn, a_store, a_length, a_codeOperation, a_codePlaces, a_codeNumber, a_before, a_held, a_state, a_position, a_registers, a_failed, a_seenCells, a_seenValues, a_storedCells, a_storedValues, a_outCount, a_outValues), (yf_phase, yf_count, yf_position, yf_failed, ya_cells, ya_sizes, ya_operations, ya_places, ya_numbers, ya_done, ya_outs, ya_puts, ya_stored, ya_registers, ya_before) => ∃ W m : Nat, f_workers = nI W ∧ f_count = nI m ∧ yf_count = nI m ∧ f_stage = yf_phase ∧ a_length = ya_sizes ∧ a_codeOperation = ya_operations ∧ a_codePlaces = ya_places ∧ a_codeNumber = ya_numbers ∧ be_C W m a_length a_codeOperation a_codePlaces ∧ (∀ c, c < 16 → ya_cells c = a_store c) ∧ be_G (a_position, a_registers, a_failed, a_seenCells, a_seenValues, a_storedCells, a_storedValues, a_outCount, a_outValues) ∧ (f_stage = 0 ∨ (f_stage = 1 ∧ (∃ s tn, f_settled = nI s ∧ f_turn = nI tn ∧ tn ≤ W ∧ be_RI W m s a_length a_codeOperation a_codePlaces a_codeNumber a_before a_held a_state (a_position, a_registers, a_failed, a_seenCells, a_seenValues, a_storedCells, a_storedValues, a_outCount, a_outValues)) ∧ (∀ c, c < 16 → a_before c = a_store c)) ∨ (f_stage = 2 ∧ f_settled = nI m ∧ be_RI W m m a_length a_codeOperation a_codePlaces a_codeNumber a_before a_held a_state (a_position, a_registers, a_failed, a_seenCells, a_seenValues, a_storedCells, a_storedValues, a_outCount, a_outValues) ∧ ∀ u, u < m → be_YM a_failed a_storedCells a_outCount a_outValues ya_done ya_outs ya_puts ya_stored u))
theorem i_up {k : Nat} {u : SX} {v : SY} (h : i_Rel k u v) : i_Rel (k + 4) u v := h
theorem be_v0 (W : Nat) (h1 : 1 ≤ W) (h8 : W ≤ 8) : i_Rel 1 (nI W, 0, 0, 0, 0, (fun _ => 0), (fun _ => 0), (fun _ => 0), (fun _ => 0), (fun _ => 0), (fun _ => 0), (fun _ => 0), (fun _ => 0), (fun _ => 0), (fun _ => 0), (fun _ => 0), (fun _ => 0), (fun _ => 0), (fun _ => 0), (fun _ => 0), (fun _ => 0), (fun _ => 0)) (0, 0, 0, 0, (fun _ => 0), (fun _ => 0), (fun _ => 0), (fun _ => 0), (fun _ => 0), (fun _ => 0), (fun _ => 0), (fun _ => 0), (fun _ => 0), (fun _ => 0), (fun _ => 0)) :=
  ⟨W, 0, rfl, rfl, rfl, rfl, rfl, rfl, rfl, rfl, ⟨h1, h8, by omega, fun _ _ => ⟨0, by omega, rfl⟩, fun _ => ⟨0, by omega, rfl⟩, fun _ => ⟨0, by omega, rfl⟩⟩, fun _ _ => rfl, fun _ _ => Or.inl rfl, Or.inl rfl⟩
theorem i_vc0 (k0 : Int32) : wpX_init (fun u => wpY_init (fun v => i_Rel 1 u v) k0) k0 := by
  refine br_c (fun h1 => br_c (fun h8 => ?_) (fun h8 => ?_)) (fun h1 => ?_)
  · obtain ⟨j, hj, rfl⟩ := nI_of (x := k0) (Int32.not_lt.mpr (Int32.le_trans (by decide) h1))
    have g1 : 1 ≤ j := (nI_leI (a := 1) (by omega) hj).mp h1
    have g8 : j ≤ 8 := (nI_leI (b := 8) hj (by omega)).mp h8
    exact be_v0 j g1 g8
  · exact be_v0 8 (by omega) (by omega)
  · exact be_v0 1 (by omega) (by omega)
theorem be_xr1 {f_workers f_stage f_count f_settled f_turn : Int32} {a_store a_length a_codeOperation a_codePlaces a_codeNumber a_before a_held a_state a_position a_registers a_failed a_seenCells a_seenValues a_storedCells a_storedValues a_outCount a_outValues : Nat → Int32} {post : Int32 → Prop} (h : f_stage = 1) (p : post (-4)) : wpX_refusal post (f_workers, f_stage, f_count, f_settled, f_turn, a_store, a_length, a_codeOperation, a_codePlaces, a_codeNumber, a_before, a_held, a_state, a_position, a_registers, a_failed, a_seenCells, a_seenValues, a_storedCells, a_storedValues, a_outCount, a_outValues) := br_f (by rw [h]; decide) p
theorem be_xr2 {f_workers f_stage f_count f_settled f_turn : Int32} {a_store a_length a_codeOperation a_codePlaces a_codeNumber a_before a_held a_state a_position a_registers a_failed a_seenCells a_seenValues a_storedCells a_storedValues a_outCount a_outValues : Nat → Int32} {post : Int32 → Prop} (h : f_stage = 2) (p : post (-3)) : wpX_refusal post (f_workers, f_stage, f_count, f_settled, f_turn, a_store, a_length, a_codeOperation, a_codePlaces, a_codeNumber, a_before, a_held, a_state, a_position, a_registers, a_failed, a_seenCells, a_seenValues, a_storedCells, a_storedValues, a_outCount, a_outValues) := br_t h p
theorem be_yr0 {yf_phase yf_count yf_position yf_failed : Int32} {ya_cells ya_sizes ya_operations ya_places ya_numbers ya_done ya_outs ya_puts ya_stored ya_registers ya_before : Nat → Int32} {post : Int32 → Prop} (h : yf_phase = 0) (p : post 0) : wpY_refusal post (yf_phase, yf_count, yf_position, yf_failed, ya_cells, ya_sizes, ya_operations, ya_places, ya_numbers, ya_done, ya_outs, ya_puts, ya_stored, ya_registers, ya_before) := br_f (by rw [h]; decide) (br_f (by rw [h]; decide) p)
theorem be_yr1 {yf_phase yf_count yf_position yf_failed : Int32} {ya_cells ya_sizes ya_operations ya_places ya_numbers ya_done ya_outs ya_puts ya_stored ya_registers ya_before : Nat → Int32} {post : Int32 → Prop} (h : yf_phase = 1) (p : post (-4)) : wpY_refusal post (yf_phase, yf_count, yf_position, yf_failed, ya_cells, ya_sizes, ya_operations, ya_places, ya_numbers, ya_done, ya_outs, ya_puts, ya_stored, ya_registers, ya_before) := br_f (by rw [h]; decide) (br_t h p)
theorem be_yr2 {yf_phase yf_count yf_position yf_failed : Int32} {ya_cells ya_sizes ya_operations ya_places ya_numbers ya_done ya_outs ya_puts ya_stored ya_registers ya_before : Nat → Int32} {post : Int32 → Prop} (h : yf_phase = 2) (p : post (-3)) : wpY_refusal post (yf_phase, yf_count, yf_position, yf_failed, ya_cells, ya_sizes, ya_operations, ya_places, ya_numbers, ya_done, ya_outs, ya_puts, ya_stored, ya_registers, ya_before) := br_t h p
theorem be_lnU {ln : Nat → Int32} {i l : Nat} (h : ∀ t, t < 8 → ∃ l, l ≤ 12 ∧ ln t = nI l) (hl : l ≤ 12) : ∀ t, t < 8 → ∃ l', l' ≤ 12 ∧ upd ln i (nI l) t = nI l' := fun t ht => by
  by_cases e : t = i
  · exact ⟨l, hl, by rw [e, pk_us]⟩
  · obtain ⟨y, hy, ey⟩ := h t ht
    exact ⟨y, hy, by rw [pk_un e]; exact ey⟩
theorem be_cU {a : Nat → Int32} {i x N : Nat} (h : ∀ j, ∃ x, x < N ∧ a j = nI x) (hx : x < N) : ∀ j, ∃ y, y < N ∧ upd a i (nI x) j = nI y := fun j => by
  by_cases e : j = i
  · exact ⟨x, hx, by rw [e, pk_us]⟩
  · obtain ⟨y, hy, ey⟩ := h j
    exact ⟨y, hy, by rw [pk_un e]; exact ey⟩
end
section
theorem i_vc_begin {k : Nat} {u : SX} {v : SY} (I : i_Rel k u v) (hk : k + 4 ≤ 2049) : wpX_begin (fun r u' => wpY_begin (fun r' v' => r' = r ∧ i_Rel (k + 4) u' v') v) u := by
  obtain ⟨f_workers, f_stage, f_count, f_settled, f_turn, a_store, a_length, a_codeOperation, a_codePlaces, a_codeNumber, a_before, a_held, a_state, a_position, a_registers, a_failed, a_seenCells, a_seenValues, a_storedCells, a_storedValues, a_outCount, a_outValues⟩ := u
  obtain ⟨yf_phase, yf_count, yf_position, yf_failed, ya_cells, ya_sizes, ya_operations, ya_places, ya_numbers, ya_done, ya_outs, ya_puts, ya_stored, ya_registers, ya_before⟩ := v
  have I0 := I
  obtain ⟨W, m, rfl, rfl, rfl, rfl, rfl, rfl, rfl, rfl, C, hce, G, hst⟩ := I
  unfold wpX_begin wpY_begin
  dsimp only
  have hm8 : m ≤ 8 := C.2.2.1
  rcases hst with rfl | ⟨rfl, _, _⟩ | ⟨rfl, _⟩
  · refine br_t rfl ?_
    by_cases hm : m < 8
    · have hi : vp_in (nI m) 8 := vp_in_nI hm (by omega)
      refine br_t (nI_lt (b := 8) hm (by omega)) ⟨hi, fun y1 e1 y2 e2 => ?_⟩
      refine be_yr0 rfl (br_t (by decide) (br_f (fun e => ?_) ⟨hi, fun z1 f1 z2 f2 => ?_⟩))
      · have e' := (nI_eq (b := 8) (by omega) (by omega)).mp e
        omega
      · rw [nI_clamp (n := m) (by omega)] at e1 f1
        subst e1 e2 f1 f2
        exact ⟨rfl, W, m + 1, rfl, nI_1 m, nI_1 m, rfl, rfl, rfl, rfl, rfl, ⟨C.1, C.2.1, by omega, be_lnU (l := 0) C.2.2.2.1 (by omega), C.2.2.2.2⟩, hce, G, Or.inl rfl⟩
    · have e : m = 8 := by omega
      subst e
      exact br_f (by decide) (be_yr0 rfl (br_t (by decide) (br_t rfl ⟨rfl, I0⟩)))
  · exact br_f (by decide) (be_xr1 rfl (be_yr1 rfl (br_f (by decide) (be_yr1 rfl ⟨rfl, I0⟩))))
  · exact br_f (by decide) (be_xr2 rfl (be_yr2 rfl (br_f (by decide) (be_yr2 rfl ⟨rfl, I0⟩))))
theorem i_vc_add {k : Nat} {u : SX} {v : SY} (I : i_Rel k u v) (hk : k + 4 ≤ 2049) (v1 : Int32) (v2 : Int32) (v3 : Int32) : wpX_add (fun r u' => wpY_add (fun r' v' => r' = r ∧ i_Rel (k + 4) u' v') v v1 v2 v3) u v1 v2 v3 := by
  obtain ⟨f_workers, f_stage, f_count, f_settled, f_turn, a_store, a_length, a_codeOperation, a_codePlaces, a_codeNumber, a_before, a_held, a_state, a_position, a_registers, a_failed, a_seenCells, a_seenValues, a_storedCells, a_storedValues, a_outCount, a_outValues⟩ := u
  obtain ⟨yf_phase, yf_count, yf_position, yf_failed, ya_cells, ya_sizes, ya_operations, ya_places, ya_numbers, ya_done, ya_outs, ya_puts, ya_stored, ya_registers, ya_before⟩ := v
  have I0 := I
  obtain ⟨W, m, rfl, rfl, rfl, rfl, rfl, rfl, rfl, rfl, C, hce, G, hst⟩ := I
  unfold wpX_add wpY_add
  dsimp only
  have hm8 : m ≤ 8 := C.2.2.1
  rcases hst with rfl | ⟨rfl, _, _⟩ | ⟨rfl, _⟩
  · refine br_t rfl ?_
    by_cases h1 : v1 < 0
    · exact br_t h1 (be_yr0 rfl (br_t (by decide) (br_t h1 ⟨rfl, I0⟩)))
    by_cases h2 : 11 < v1
    · exact br_f h1 (br_t h2 (be_yr0 rfl (br_t (by decide) (br_f h1 (br_t h2 ⟨rfl, I0⟩)))))
    by_cases h3 : v2 < 0
    · exact br_f h1 (br_f h2 (br_t h3 (be_yr0 rfl (br_t (by decide) (br_f h1 (br_f h2 (br_t h3 ⟨rfl, I0⟩)))))))
    obtain ⟨o, ho, rfl⟩ := nI_of h1
    obtain ⟨x, hx, rfl⟩ := nI_of h3
    have ho2 : o < 12 := by
      have g : ¬ 11 < o := fun g => h2 (nI_lt (a := 11) g ho)
      omega
    by_cases h4 : x < 16
    · have h4a : nI x < 16 := nI_lt (b := 16) h4 (by omega)
      have h4b : nI x ≤ 15 := nI_le (b := 15) (by omega) (by omega)
      by_cases hm : m = 0
      · subst hm
        exact br_f h1 (br_f h2 (br_f h3 (br_t h4a (br_t rfl (be_yr0 rfl (br_t (by decide) (br_f h1 (br_f h2 (br_f h3 (br_t h4b (br_t rfl ⟨rfl, I0⟩)))))))))))
      · obtain ⟨t, rfl⟩ : ∃ t, m = t + 1 := ⟨m - 1, by omega⟩
        have hz : ¬ nI (t + 1) = 0 := nI_ne0 (by omega) (by omega)
        have hi : vp_in (nI t) 8 := vp_in_nI (by omega) (by omega)
        have ct : (nI t).toNatClampNeg = t := nI_clamp (by omega)
        obtain ⟨l, hl, eL⟩ := C.2.2.2.1 t (by omega)
        refine br_f h1 (br_f h2 (br_f h3 (br_t h4a (br_f hz fun x4 e4 => ?_))))
        rw [nI_pred] at e4
        subst e4
        refine ⟨hi, fun x5 e5 => ?_⟩
        rw [ct, eL] at e5
        subst e5
        by_cases h12 : l < 12
        · have e6 : nI t * 12 + nI l = nI (12 * t + l) := be_ix 12 t l
          have e6y : 12 * nI t + nI l = nI (12 * t + l) := be_iy 12 t l
          have i6 : vp_in (nI (12 * t + l)) 96 := vp_in_nI (by omega) (by omega)
          have c6 : (nI (12 * t + l)).toNatClampNeg = 12 * t + l := nI_clamp (by omega)
          refine br_t (nI_lt (b := 12) h12 (by omega)) fun x6 f6 => ?_
          rw [e6] at f6
          subst f6
          refine ⟨i6, fun y1 g1 => ⟨i6, fun y2 g2 => ⟨i6, fun y3 g3 => ⟨hi, fun y4 g4 => ?_⟩⟩⟩⟩
          rw [c6] at g1 g2 g3
          rw [ct, nI_1] at g4
          subst g1 g2 g3 g4
          refine be_yr0 rfl (br_t (by decide) (br_f h1 (br_f h2 (br_f h3 (br_t h4b (br_f hz fun x4 e4 => ?_))))))
          rw [nI_pred] at e4
          subst e4
          refine ⟨hi, br_f (fun e => ?_) ⟨hi, fun x5 e5 => ?_⟩⟩
          · rw [ct, eL] at e
            have e' := (nI_eq (b := 12) (by omega) (by omega)).mp e
            omega
          · rw [ct, eL, e6y] at e5
            subst e5
            refine ⟨i6, fun y1 g1 => ⟨i6, fun y2 g2 => ⟨i6, fun y3 g3 => ⟨hi, hi, fun y4 g4 => ⟨hi, ?_⟩⟩⟩⟩⟩
            rw [c6] at g1 g2 g3
            rw [ct, eL, nI_1] at g4
            subst g1 g2 g3 g4
            rw [ct, pk_us, nI_pred]
            exact ⟨rfl, W, t + 1, rfl, rfl, rfl, rfl, rfl, rfl, rfl, rfl, ⟨C.1, C.2.1, hm8, be_lnU C.2.2.2.1 (by omega), be_cU C.2.2.2.2.1 h4, be_cU C.2.2.2.2.2 ho2⟩, hce, G, Or.inl rfl⟩
        · have e12 : l = 12 := by omega
          subst e12
          refine br_f (by decide) (be_yr0 rfl (br_t (by decide) (br_f h1 (br_f h2 (br_f h3 (br_t h4b (br_f hz fun x4 e4 => ?_)))))))
          rw [nI_pred] at e4
          subst e4
          refine ⟨hi, br_t ?_ ⟨rfl, I0⟩⟩
          rw [ct, eL]
          rfl
    · have h4a : ¬ nI x < 16 := nI_nlt (b := 16) (by omega) hx
      have h4b : ¬ nI x ≤ 15 := nI_ge (a := 15) (by omega) hx
      exact br_f h1 (br_f h2 (br_f h3 (br_f h4a (be_yr0 rfl (br_t (by decide) (br_f h1 (br_f h2 (br_f h3 (br_f h4b ⟨rfl, I0⟩)))))))))
  · exact br_f (by decide) (be_xr1 rfl (be_yr1 rfl (br_f (by decide) (be_yr1 rfl ⟨rfl, I0⟩))))
  · exact br_f (by decide) (be_xr2 rfl (be_yr2 rfl (br_f (by decide) (be_yr2 rfl ⟨rfl, I0⟩))))
theorem i_vc_phase {k : Nat} {u : SX} {v : SY} (I : i_Rel k u v) (hk : k + 4 ≤ 2049) : wpX_phase (fun r => wpY_phase (fun r' => r' = r ∧ i_Rel (k + 4) u v) v) u := by
  obtain ⟨f_workers, f_stage, f_count, f_settled, f_turn, a_store, a_length, a_codeOperation, a_codePlaces, a_codeNumber, a_before, a_held, a_state, a_position, a_registers, a_failed, a_seenCells, a_seenValues, a_storedCells, a_storedValues, a_outCount, a_outValues⟩ := u
  obtain ⟨yf_phase, yf_count, yf_position, yf_failed, ya_cells, ya_sizes, ya_operations, ya_places, ya_numbers, ya_done, ya_outs, ya_puts, ya_stored, ya_registers, ya_before⟩ := v
  have I0 := I
  obtain ⟨W, m, rfl, rfl, rfl, rfl, rfl, rfl, rfl, rfl, C, hce, G, hst⟩ := I
  exact ⟨rfl, I0⟩
theorem i_vc_transactions {k : Nat} {u : SX} {v : SY} (I : i_Rel k u v) (hk : k + 4 ≤ 2049) : wpX_transactions (fun r => wpY_transactions (fun r' => r' = r ∧ i_Rel (k + 4) u v) v) u := by
  obtain ⟨f_workers, f_stage, f_count, f_settled, f_turn, a_store, a_length, a_codeOperation, a_codePlaces, a_codeNumber, a_before, a_held, a_state, a_position, a_registers, a_failed, a_seenCells, a_seenValues, a_storedCells, a_storedValues, a_outCount, a_outValues⟩ := u
  obtain ⟨yf_phase, yf_count, yf_position, yf_failed, ya_cells, ya_sizes, ya_operations, ya_places, ya_numbers, ya_done, ya_outs, ya_puts, ya_stored, ya_registers, ya_before⟩ := v
  have I0 := I
  obtain ⟨W, m, rfl, rfl, rfl, rfl, rfl, rfl, rfl, rfl, C, hce, G, hst⟩ := I
  exact ⟨rfl, I0⟩
theorem i_vc_next {k : Nat} {u : SX} {v : SY} (I : i_Rel k u v) (hk : k + 4 ≤ 2049) : wpX_next (fun r u' => wpY_next (fun r' v' => r' = r ∧ i_Rel (k + 4) u' v') v) u := by
  obtain ⟨f_workers, f_stage, f_count, f_settled, f_turn, a_store, a_length, a_codeOperation, a_codePlaces, a_codeNumber, a_before, a_held, a_state, a_position, a_registers, a_failed, a_seenCells, a_seenValues, a_storedCells, a_storedValues, a_outCount, a_outValues⟩ := u
  obtain ⟨yf_phase, yf_count, yf_position, yf_failed, ya_cells, ya_sizes, ya_operations, ya_places, ya_numbers, ya_done, ya_outs, ya_puts, ya_stored, ya_registers, ya_before⟩ := v
  have I0 := I
  obtain ⟨W, m, rfl, rfl, rfl, rfl, rfl, rfl, rfl, rfl, C, hce, G, hst⟩ := I
  by_cases h1 : f_stage = 1
  · exact br_t h1 (br_t h1 ⟨rfl, I0⟩)
  · exact br_f h1 (br_f h1 ⟨rfl, W, 0, rfl, rfl, rfl, rfl, rfl, rfl, rfl, rfl, ⟨C.1, C.2.1, by omega, C.2.2.2⟩, hce, G, Or.inl rfl⟩)
theorem i_vc_undo {k : Nat} {u : SX} {v : SY} (I : i_Rel k u v) (hk : k + 4 ≤ 2049) : wpX_undo (fun r u' => wpY_undo (fun r' v' => r' = r ∧ i_Rel (k + 4) u' v') v) u := by
  obtain ⟨f_workers, f_stage, f_count, f_settled, f_turn, a_store, a_length, a_codeOperation, a_codePlaces, a_codeNumber, a_before, a_held, a_state, a_position, a_registers, a_failed, a_seenCells, a_seenValues, a_storedCells, a_storedValues, a_outCount, a_outValues⟩ := u
  obtain ⟨yf_phase, yf_count, yf_position, yf_failed, ya_cells, ya_sizes, ya_operations, ya_places, ya_numbers, ya_done, ya_outs, ya_puts, ya_stored, ya_registers, ya_before⟩ := v
  have I0 := I
  obtain ⟨W, m, rfl, rfl, rfl, rfl, rfl, rfl, rfl, rfl, C, hce, G, hst⟩ := I
  unfold wpX_undo wpY_undo
  dsimp only
  have hm8 : m ≤ 8 := C.2.2.1
  rcases hst with rfl | ⟨rfl, _, _⟩ | ⟨rfl, _⟩
  · refine br_t rfl ?_
    by_cases hm : m = 0
    · subst hm
      exact br_t rfl (be_yr0 rfl (br_t (by decide) (br_t rfl ⟨rfl, I0⟩)))
    · obtain ⟨t, rfl⟩ : ∃ t, m = t + 1 := ⟨m - 1, by omega⟩
      have hz : ¬ nI (t + 1) = 0 := nI_ne0 (by omega) (by omega)
      have hi : vp_in (nI (t + 1) - 1) 8 := by rw [nI_pred]; exact vp_in_nI (by omega) (by omega)
      have ct : (nI (t + 1) - 1).toNatClampNeg = t := by rw [nI_pred]; exact nI_clamp (by omega)
      obtain ⟨l, hl, eL⟩ := C.2.2.2.1 t (by omega)
      by_cases h0 : l = 0
      · have hle : a_length (nI (t + 1) - 1).toNatClampNeg ≤ 0 := by rw [ct, eL, h0]; decide
        have C' : be_C W t a_length a_codeOperation a_codePlaces := ⟨C.1, C.2.1, by omega, C.2.2.2⟩
        refine br_f hz ⟨hi, br_t hle fun y1 e1 => ?_⟩
        rw [nI_pred] at e1
        subst e1
        by_cases ht0 : t = 0
        · subst ht0
          refine br_t rfl (be_yr0 rfl (br_t (by decide) (br_f hz ⟨hi, br_t hle fun z1 f1 => ?_⟩)))
          rw [nI_pred] at f1
          subst f1
          exact br_t rfl ⟨rfl, W, 0, rfl, rfl, rfl, rfl, rfl, rfl, rfl, rfl, C', hce, G, Or.inl rfl⟩
        · have hz' : ¬ nI t = 0 := nI_ne0 (by omega) (by omega)
          have hi' : vp_in (nI t - 1) 8 := by
            obtain ⟨t', rfl⟩ : ∃ t', t = t' + 1 := ⟨t - 1, by omega⟩
            rw [nI_pred]
            exact vp_in_nI (by omega) (by omega)
          refine br_f hz' ⟨hi', be_yr0 rfl (br_t (by decide) (br_f hz ⟨hi, br_t hle fun z1 f1 => ?_⟩))⟩
          rw [nI_pred] at f1
          subst f1
          exact br_f hz' ⟨hi', rfl, W, t, rfl, rfl, rfl, rfl, rfl, rfl, rfl, rfl, C', hce, G, Or.inl rfl⟩
      · obtain ⟨l', rfl⟩ : ∃ l', l = l' + 1 := ⟨l - 1, by omega⟩
        have hle : ¬ a_length (nI (t + 1) - 1).toNatClampNeg ≤ 0 := by rw [ct, eL]; exact nI_nle (by omega) (by omega)
        have C' : be_C W (t + 1) (upd a_length t (nI l')) a_codeOperation a_codePlaces := ⟨C.1, C.2.1, hm8, be_lnU C.2.2.2.1 (by omega), C.2.2.2.2⟩
        refine br_f hz ⟨hi, br_f hle ⟨hi, hi, fun y1 e1 => ?_⟩⟩
        rw [ct, eL, nI_pred] at e1
        subst e1
        refine br_f hz ⟨hi, be_yr0 rfl (br_t (by decide) (br_f hz ⟨hi, br_f hle ⟨hi, hi, fun z1 f1 => ?_⟩⟩))⟩
        rw [ct, eL, nI_pred] at f1
        subst f1
        exact br_f hz ⟨hi, rfl, W, t + 1, rfl, rfl, rfl, rfl, rfl, rfl, rfl, rfl, C', hce, G, Or.inl rfl⟩
  · exact br_f (by decide) (be_xr1 rfl (be_yr1 rfl (br_f (by decide) (be_yr1 rfl ⟨rfl, I0⟩))))
  · exact br_f (by decide) (be_xr2 rfl (be_yr2 rfl (br_f (by decide) (be_yr2 rfl ⟨rfl, I0⟩))))
theorem be_ic0 {f_workers f_stage f_count f_settled f_turn : Int32} {a_store a_length a_codeOperation a_codePlaces a_codeNumber a_before a_held a_state a_position a_registers a_failed a_seenCells a_seenValues a_storedCells a_storedValues a_outCount a_outValues : Nat → Int32} {post : Int32 → Prop} {c : Int32} (h : c < 0 ∨ 16 ≤ c) (p : post 0) : wpX_isCell post (f_workers, f_stage, f_count, f_settled, f_turn, a_store, a_length, a_codeOperation, a_codePlaces, a_codeNumber, a_before, a_held, a_state, a_position, a_registers, a_failed, a_seenCells, a_seenValues, a_storedCells, a_storedValues, a_outCount, a_outValues) c := by
  by_cases z : c < 0
  · exact br_t z p
  · rcases h with q | q
    · exact absurd q z
    · exact br_f z (br_t q p)
theorem be_ic1 {f_workers f_stage f_count f_settled f_turn : Int32} {a_store a_length a_codeOperation a_codePlaces a_codeNumber a_before a_held a_state a_position a_registers a_failed a_seenCells a_seenValues a_storedCells a_storedValues a_outCount a_outValues : Nat → Int32} {post : Int32 → Prop} {j : Nat} (h : j < 16) (p : post 1) : wpX_isCell post (f_workers, f_stage, f_count, f_settled, f_turn, a_store, a_length, a_codeOperation, a_codePlaces, a_codeNumber, a_before, a_held, a_state, a_position, a_registers, a_failed, a_seenCells, a_seenValues, a_storedCells, a_storedValues, a_outCount, a_outValues) (nI j) := br_f (nI_pos (by omega)) (br_f (nI_ge (b := 16) h (by omega)) p)
theorem i_vc_poke {k : Nat} {u : SX} {v : SY} (I : i_Rel k u v) (hk : k + 4 ≤ 2049) (v1 : Int32) (v2 : Int32) : wpX_poke (fun r u' => wpY_poke (fun r' v' => r' = r ∧ i_Rel (k + 4) u' v') v v1 v2) u v1 v2 := by
  obtain ⟨f_workers, f_stage, f_count, f_settled, f_turn, a_store, a_length, a_codeOperation, a_codePlaces, a_codeNumber, a_before, a_held, a_state, a_position, a_registers, a_failed, a_seenCells, a_seenValues, a_storedCells, a_storedValues, a_outCount, a_outValues⟩ := u
  obtain ⟨yf_phase, yf_count, yf_position, yf_failed, ya_cells, ya_sizes, ya_operations, ya_places, ya_numbers, ya_done, ya_outs, ya_puts, ya_stored, ya_registers, ya_before⟩ := v
  have I0 := I
  obtain ⟨W, m, rfl, rfl, rfl, rfl, rfl, rfl, rfl, rfl, C, hce, G, hst⟩ := I
  by_cases h1 : f_stage = 1
  · exact br_t h1 (br_t h1 ⟨rfl, I0⟩)
  · refine br_f h1 ?_
    rcases pk_ix v1 (n := 16) (by omega) with q | q | ⟨j, hj, rfl⟩
    · exact be_ic0 (Or.inl q) (br_t rfl (br_f h1 (br_t q ⟨rfl, I0⟩)))
    · have q0 : ¬ v1 < 0 := Int32.not_lt.mpr (Int32.le_trans (by decide) q)
      have q15 : ¬ v1 ≤ 15 := fun g => absurd (Int32.le_trans q g) (by decide)
      exact be_ic0 (Or.inr q) (br_t rfl (br_f h1 (br_f q0 (br_f q15 ⟨rfl, I0⟩))))
    · have hi : vp_in (nI j) 16 := vp_in_nI hj (by omega)
      refine be_ic1 hj (br_f (by decide) ⟨hi, fun y1 e1 => br_f h1 (br_f (nI_pos (by omega)) (br_t (nI_le (b := 15) (by omega) (by omega)) ⟨hi, fun z1 f1 => ?_⟩))⟩)
      rw [nI_clamp (n := j) (by omega)] at e1 f1
      subst e1 f1
      refine ⟨rfl, W, m, rfl, rfl, rfl, rfl, rfl, rfl, rfl, rfl, C, be_updr hce, G, ?_⟩
      rcases hst with g | g | g
      · exact Or.inl g
      · exact absurd g.1 h1
      · exact Or.inr (Or.inr g)
theorem be_RI0 {W m : Nat} {ln cO cP cN bf hd st : Nat → Int32} {A : be_A} (hm : m ≤ 8) (h2 : ∀ w, w < 8 → hd w = -1) (h3 : ∀ t, t < 8 → st t = 0) : be_RI W m 0 ln cO cP cN bf hd st A := by
  have ne : ∀ t x, t < m → st t = x → ¬ (0 : Int32) = x → False := fun t x ht e q => q ((h3 t (by omega)).symm.trans e)
  refine ⟨by omega, fun t ht => absurd ht (Nat.not_lt_zero t), fun t _ htm => Or.inl (h3 t (by omega)), fun t ht => absurd ht (Nat.not_lt_zero t), fun t htm hz => absurd (h3 t (by omega)) hz, fun t htm e => (ne t 1 htm e (by decide)).elim, fun t htm e => ?_, fun w hw => Or.inl (h2 w hw), fun w w' t hw _ ht e _ => absurd (e.symm.trans (h2 w hw)) (be_nm t ht), fun t htm e => (ne t 1 htm e (by decide)).elim⟩
  rcases e with e | e
  · exact (ne t 2 htm e (by decide)).elim
  · exact (ne t 3 htm e (by decide)).elim
theorem i_vc_work {k : Nat} {u : SX} {v : SY} (I : i_Rel k u v) (hk : k + 4 ≤ 2049) (v1 : Int32) (v2 : Int32) : wpX_work (fun r u' => wpY_work (fun r' v' => r' = r ∧ i_Rel (k + 4) u' v') v v1 v2) u v1 v2 := by
  obtain ⟨f_workers, f_stage, f_count, f_settled, f_turn, a_store, a_length, a_codeOperation, a_codePlaces, a_codeNumber, a_before, a_held, a_state, a_position, a_registers, a_failed, a_seenCells, a_seenValues, a_storedCells, a_storedValues, a_outCount, a_outValues⟩ := u
  obtain ⟨yf_phase, yf_count, yf_position, yf_failed, ya_cells, ya_sizes, ya_operations, ya_places, ya_numbers, ya_done, ya_outs, ya_puts, ya_stored, ya_registers, ya_before⟩ := v
  have I0 := I
  obtain ⟨W, m, rfl, rfl, rfl, rfl, rfl, rfl, rfl, rfl, C, hce, G, hst⟩ := I
  rcases hst with rfl | ⟨rfl, ⟨s, tn, rfl, rfl, htn, RI⟩, hbf⟩ | ⟨rfl, _⟩
  · refine br_f (by decide) (be_si rfl (fun bf hd st h1 h2 h3 => ?_))
    refine be_mk (s := 0) (tn := 0) C rfl rfl rfl rfl (Nat.zero_le _) (be_RI0 C.2.2.1 h2 h3) G (fun s' tn' hd' st' A' htn' RI' G' _ => ?_)
    obtain ⟨ps, rg, fl, sn, sV, sc, sv, oc, ov⟩ := A'
    exact br_f (by decide) ⟨rfl, W, m, rfl, rfl, rfl, rfl, rfl, rfl, rfl, rfl, C, hce, G', Or.inr (Or.inl ⟨rfl, ⟨s', tn', rfl, rfl, htn', RI'⟩, h1⟩)⟩
  · refine br_f (by decide) (br_f (by decide) ?_)
    refine be_mk C rfl rfl rfl rfl htn RI G (fun s' tn' hd' st' A' htn' RI' G' _ => ?_)
    obtain ⟨ps, rg, fl, sn, sV, sc, sv, oc, ov⟩ := A'
    exact br_f (by decide) ⟨rfl, W, m, rfl, rfl, rfl, rfl, rfl, rfl, rfl, rfl, C, hce, G', Or.inr (Or.inl ⟨rfl, ⟨s', tn', rfl, rfl, htn', RI'⟩, hbf⟩)⟩
  · exact br_t rfl (br_t rfl ⟨rfl, I0⟩)
theorem be_yrun {yf_phase yf_count yf_position yf_failed : Int32} {ya_cells ya_sizes ya_operations ya_places ya_numbers ya_done ya_outs ya_puts ya_stored ya_registers ya_before : Nat → Int32} {post : Int32 → SY → Prop} {W m : Nat} {bf hd st ps rg fl sn sV sc sv oc ov : Nat → Int32} {x : Int32} (hph : ¬ yf_phase = 2) (hc : yf_count = nI m) (C : be_C W m ya_sizes ya_operations ya_places) (RI : be_RI W m m ya_sizes ya_operations ya_places ya_numbers bf hd st (ps, rg, fl, sn, sV, sc, sv, oc, ov)) (hce : ∀ c, c < 16 → ya_cells c = bf c) (h : ∀ (fp ff : Int32) (ce dn ou pu so yr yb : Nat → Int32), (∀ c, c < 16 → ce c = be_vb st sc sv bf m c) → (∀ u, u < m → be_YM fl sc oc ov dn ou pu so u) → post (be_cd fl m) (2, yf_count, fp, ff, ce, ya_sizes, ya_operations, ya_places, ya_numbers, dn, ou, pu, so, yr, yb)) : wpY_run post (yf_phase, yf_count, yf_position, yf_failed, ya_cells, ya_sizes, ya_operations, ya_places, ya_numbers, ya_done, ya_outs, ya_puts, ya_stored, ya_registers, ya_before) x := by
  obtain ⟨_, i2, _, i4, i5, _, i7, _⟩ := RI
  refine br_f hph ⟨m + 1, be_y15 (ps := ps) (rg := rg) (sn := sn) (sV := sV) C.2.2.1 hc C.2.2.2.1 C.2.2.2.2.1 C.2.2.2.2.2 i2 (fun t ht => i7 t ht (Or.inr (i2 t ht))) (fun t ht => ?_) h m 0 _ _ _ _ _ _ _ _ _ (by omega) hce (fun u hu => absurd hu (Nat.not_lt_zero u))⟩
  obtain ⟨k, sv0, ov0, e⟩ := i5 t ht (by rw [i2 t ht]; decide)
  exact ⟨k, sv0, ov0, e _ (i4 t ht)⟩
theorem i_vc_run {k : Nat} {u : SX} {v : SY} (I : i_Rel k u v) (hk : k + 4 ≤ 2049) (v1 : Int32) : wpX_run (fun r u' => wpY_run (fun r' v' => r' = r ∧ i_Rel (k + 4) u' v') v v1) u v1 := by
  obtain ⟨f_workers, f_stage, f_count, f_settled, f_turn, a_store, a_length, a_codeOperation, a_codePlaces, a_codeNumber, a_before, a_held, a_state, a_position, a_registers, a_failed, a_seenCells, a_seenValues, a_storedCells, a_storedValues, a_outCount, a_outValues⟩ := u
  obtain ⟨yf_phase, yf_count, yf_position, yf_failed, ya_cells, ya_sizes, ya_operations, ya_places, ya_numbers, ya_done, ya_outs, ya_puts, ya_stored, ya_registers, ya_before⟩ := v
  have I0 := I
  obtain ⟨W, m, rfl, rfl, rfl, rfl, rfl, rfl, rfl, rfl, C, hce, G, hst⟩ := I
  rcases hst with rfl | ⟨rfl, ⟨s, tn, rfl, rfl, htn, RI⟩, hbf⟩ | ⟨rfl, _⟩
  · refine br_f (by decide) (be_si rfl (fun bf hd st h1 h2 h3 => ?_))
    refine be_mk (s := 0) (tn := 0) C rfl rfl rfl rfl (Nat.zero_le _) (be_RI0 C.2.2.1 h2 h3) G (fun s' tn' hd' st' A' htn' RI' G' hx => ?_)
    obtain ⟨ps, rg, fl, sn, sV, sc, sv, oc, ov⟩ := A'
    have e := hx rfl
    subst e
    refine be_kS C.2.2.1 rfl (fun sto hs => be_cnt C.2.2.1 rfl ?_)
    refine be_yrun (by decide) rfl C RI' (fun c hc => (hce c hc).trans (h1 c hc).symm) (fun fp ff ce dn ou pu so yr yb h4 h5 => ?_)
    refine ⟨rfl, W, s', rfl, rfl, rfl, rfl, rfl, rfl, rfl, rfl, C, fun c hc => ?_, G', Or.inr (Or.inr ⟨rfl, rfl, RI', h5⟩)⟩
    rw [h4 c hc, hs c hc]
    exact be_vk h1 s' (fun u hu => by rw [RI'.2.1 u hu]; decide) c hc
  · refine br_f (by decide) (br_f (by decide) ?_)
    refine be_mk C rfl rfl rfl rfl htn RI G (fun s' tn' hd' st' A' htn' RI' G' hx => ?_)
    obtain ⟨ps, rg, fl, sn, sV, sc, sv, oc, ov⟩ := A'
    have e := hx rfl
    subst e
    refine be_kS C.2.2.1 rfl (fun sto hs => be_cnt C.2.2.1 rfl ?_)
    refine be_yrun (by decide) rfl C RI' (fun c hc => (hce c hc).trans (hbf c hc).symm) (fun fp ff ce dn ou pu so yr yb h4 h5 => ?_)
    refine ⟨rfl, W, s', rfl, rfl, rfl, rfl, rfl, rfl, rfl, rfl, C, fun c hc => ?_, G', Or.inr (Or.inr ⟨rfl, rfl, RI', h5⟩)⟩
    rw [h4 c hc, hs c hc]
    exact be_vk hbf s' (fun u hu => by rw [RI'.2.1 u hu]; decide) c hc
  · exact br_t rfl (br_t rfl ⟨rfl, I0⟩)
theorem i_vc_cell {k : Nat} {u : SX} {v : SY} (I : i_Rel k u v) (hk : k + 4 ≤ 2049) (v1 : Int32) : wpX_cell (fun r => wpY_cell (fun r' => r' = r ∧ i_Rel (k + 4) u v) v v1) u v1 := by
  obtain ⟨f_workers, f_stage, f_count, f_settled, f_turn, a_store, a_length, a_codeOperation, a_codePlaces, a_codeNumber, a_before, a_held, a_state, a_position, a_registers, a_failed, a_seenCells, a_seenValues, a_storedCells, a_storedValues, a_outCount, a_outValues⟩ := u
  obtain ⟨yf_phase, yf_count, yf_position, yf_failed, ya_cells, ya_sizes, ya_operations, ya_places, ya_numbers, ya_done, ya_outs, ya_puts, ya_stored, ya_registers, ya_before⟩ := v
  have I0 := I
  obtain ⟨W, m, rfl, rfl, rfl, rfl, rfl, rfl, rfl, rfl, C, hce, G, hst⟩ := I
  unfold wpX_cell wpY_cell
  dsimp only
  rcases pk_ix v1 (n := 16) (by omega) with q | q | ⟨j, hj, rfl⟩
  · exact be_ic0 (Or.inl q) (br_t rfl (br_t q ⟨rfl, I0⟩))
  · have q0 : ¬ v1 < 0 := Int32.not_lt.mpr (Int32.le_trans (by decide) q)
    have q15 : ¬ v1 ≤ 15 := fun g => absurd (Int32.le_trans q g) (by decide)
    exact be_ic0 (Or.inr q) (br_t rfl (br_f q0 (br_f q15 ⟨rfl, I0⟩)))
  · have hi : vp_in (nI j) 16 := vp_in_nI hj (by omega)
    refine be_ic1 hj (br_f (by decide) ⟨hi, br_f (nI_pos (by omega)) (br_t (nI_le (b := 15) (by omega) (by omega)) ⟨hi, ?_, I0⟩)⟩)
    rw [nI_clamp (n := j) (by omega)]
    exact hce j hj
theorem i_vc_digest {k : Nat} {u : SX} {v : SY} (I : i_Rel k u v) (hk : k + 4 ≤ 2049) : wpX_digest (fun r => wpY_digest (fun r' => r' = r ∧ i_Rel (k + 4) u v) v) u := by
  obtain ⟨f_workers, f_stage, f_count, f_settled, f_turn, a_store, a_length, a_codeOperation, a_codePlaces, a_codeNumber, a_before, a_held, a_state, a_position, a_registers, a_failed, a_seenCells, a_seenValues, a_storedCells, a_storedValues, a_outCount, a_outValues⟩ := u
  obtain ⟨yf_phase, yf_count, yf_position, yf_failed, ya_cells, ya_sizes, ya_operations, ya_places, ya_numbers, ya_done, ya_outs, ya_puts, ya_stored, ya_registers, ya_before⟩ := v
  have I0 := I
  obtain ⟨W, m, rfl, rfl, rfl, rfl, rfl, rfl, rfl, rfl, C, hce, G, hst⟩ := I
  exact ⟨17, be_xd4 ⟨17, be_yd4 ⟨be_dge 16 hce, I0⟩ 16 0 rfl⟩ 16 0 rfl⟩
theorem be_xtN {f_workers f_stage f_count f_settled f_turn : Int32} {a_store a_length a_codeOperation a_codePlaces a_codeNumber a_before a_held a_state a_position a_registers a_failed a_seenCells a_seenValues a_storedCells a_storedValues a_outCount a_outValues : Nat → Int32} {post : Int32 → Prop} {c : Int32} (h : c < 0 ∨ f_count ≤ c) (p : post 0) : wpX_isTransaction post (f_workers, f_stage, f_count, f_settled, f_turn, a_store, a_length, a_codeOperation, a_codePlaces, a_codeNumber, a_before, a_held, a_state, a_position, a_registers, a_failed, a_seenCells, a_seenValues, a_storedCells, a_storedValues, a_outCount, a_outValues) c := by
  by_cases z : c < 0
  · exact br_t z p
  · rcases h with q | q
    · exact absurd q z
    · exact br_f z (br_t q p)
theorem be_xtY {f_workers f_stage f_count f_settled f_turn : Int32} {a_store a_length a_codeOperation a_codePlaces a_codeNumber a_before a_held a_state a_position a_registers a_failed a_seenCells a_seenValues a_storedCells a_storedValues a_outCount a_outValues : Nat → Int32} {post : Int32 → Prop} {j m : Nat} (hm : m ≤ 8) (hc : f_count = nI m) (h : j < m) (p : post 1) : wpX_isTransaction post (f_workers, f_stage, f_count, f_settled, f_turn, a_store, a_length, a_codeOperation, a_codePlaces, a_codeNumber, a_before, a_held, a_state, a_position, a_registers, a_failed, a_seenCells, a_seenValues, a_storedCells, a_storedValues, a_outCount, a_outValues) (nI j) := by
  subst hc
  exact br_f (nI_pos (by omega)) (br_f (nI_ge h (by omega)) p)
theorem be_yhN {yf_phase yf_count yf_position yf_failed : Int32} {ya_cells ya_sizes ya_operations ya_places ya_numbers ya_done ya_outs ya_puts ya_stored ya_registers ya_before : Nat → Int32} {post : Int32 → Prop} {c : Int32} (h : c < 0 ∨ yf_count ≤ c) (p : post (-1)) : wpY_hidden post (yf_phase, yf_count, yf_position, yf_failed, ya_cells, ya_sizes, ya_operations, ya_places, ya_numbers, ya_done, ya_outs, ya_puts, ya_stored, ya_registers, ya_before) c := by
  by_cases z : c < 0
  · exact br_t z p
  · rcases h with q | q
    · exact absurd q z
    · exact br_f z (br_f (Int32.not_lt.mpr q) p)
theorem be_yhY {yf_phase yf_count yf_position yf_failed : Int32} {ya_cells ya_sizes ya_operations ya_places ya_numbers ya_done ya_outs ya_puts ya_stored ya_registers ya_before : Nat → Int32} {post : Int32 → Prop} {j m : Nat} (hm : m ≤ 8) (hc : yf_count = nI m) (h : j < m) (p2 : yf_phase = 2 → post 0) (p5 : ¬ yf_phase = 2 → post (-5)) : wpY_hidden post (yf_phase, yf_count, yf_position, yf_failed, ya_cells, ya_sizes, ya_operations, ya_places, ya_numbers, ya_done, ya_outs, ya_puts, ya_stored, ya_registers, ya_before) (nI j) := by
  subst hc
  exact br_f (nI_pos (by omega)) (br_t (nI_lt h (by omega)) ⟨p2, p5⟩)
theorem i_vc_result {k : Nat} {u : SX} {v : SY} (I : i_Rel k u v) (hk : k + 4 ≤ 2049) (v1 : Int32) : wpX_result (fun r => wpY_result (fun r' => r' = r ∧ i_Rel (k + 4) u v) v v1) u v1 := by
  obtain ⟨f_workers, f_stage, f_count, f_settled, f_turn, a_store, a_length, a_codeOperation, a_codePlaces, a_codeNumber, a_before, a_held, a_state, a_position, a_registers, a_failed, a_seenCells, a_seenValues, a_storedCells, a_storedValues, a_outCount, a_outValues⟩ := u
  obtain ⟨yf_phase, yf_count, yf_position, yf_failed, ya_cells, ya_sizes, ya_operations, ya_places, ya_numbers, ya_done, ya_outs, ya_puts, ya_stored, ya_registers, ya_before⟩ := v
  have I0 := I
  obtain ⟨W, m, rfl, rfl, rfl, rfl, rfl, rfl, rfl, rfl, C, hce, G, hst⟩ := I
  unfold wpX_result wpY_result
  dsimp only
  have hm8 : m ≤ 8 := C.2.2.1
  have N : (v1 < 0 ∨ nI m ≤ v1) ∨ ∃ j : Nat, j < m ∧ v1 = nI j := by
    rcases pk_ix v1 (n := m) (by omega) with q | q | q
    · exact Or.inl (Or.inl q)
    · exact Or.inl (Or.inr q)
    · exact Or.inr q
  rcases N with q | ⟨j, hj, rfl⟩
  · exact be_xtN q (br_t rfl (be_yhN q (br_f (by decide) (be_yhN q ⟨rfl, I0⟩))))
  · have hi : vp_in (nI j) 8 := vp_in_nI (by omega) (by omega)
    have cj : (nI j).toNatClampNeg = j := nI_clamp (by omega)
    refine be_xtY hm8 rfl hj (br_f (by decide) ?_)
    by_cases h2 : f_stage = 2
    · have M : be_YM a_failed a_storedCells a_outCount a_outValues ya_done ya_outs ya_puts ya_stored j := by
        rcases hst with g | g | g
        · exact absurd (g.symm.trans h2) (by decide)
        · exact absurd (g.1.symm.trans h2) (by decide)
        · exact g.2.2.2 j hj
      refine br_t h2 ⟨hi, ?_⟩
      rw [cj]
      by_cases z : a_failed j = 0
      · refine br_t z (be_yhY hm8 rfl hj (fun _ => br_t (by decide) ⟨hi, br_f ?_ ⟨rfl, I0⟩⟩) (fun g => absurd h2 g))
        rw [M.1, if_pos z]
        decide
      · refine br_f z (be_yhY hm8 rfl hj (fun _ => br_t (by decide) ⟨hi, br_t ?_ ⟨rfl, I0⟩⟩) (fun g => absurd h2 g))
        rw [M.1, if_neg z]
    · exact br_f h2 (be_yhY hm8 rfl hj (fun g => absurd g h2) (fun _ => br_f (by decide) (be_yhY hm8 rfl hj (fun g => absurd g h2) (fun _ => ⟨rfl, I0⟩))))
theorem i_vc_outs {k : Nat} {u : SX} {v : SY} (I : i_Rel k u v) (hk : k + 4 ≤ 2049) (v1 : Int32) : wpX_outs (fun r => wpY_outs (fun r' => r' = r ∧ i_Rel (k + 4) u v) v v1) u v1 := by
  obtain ⟨f_workers, f_stage, f_count, f_settled, f_turn, a_store, a_length, a_codeOperation, a_codePlaces, a_codeNumber, a_before, a_held, a_state, a_position, a_registers, a_failed, a_seenCells, a_seenValues, a_storedCells, a_storedValues, a_outCount, a_outValues⟩ := u
  obtain ⟨yf_phase, yf_count, yf_position, yf_failed, ya_cells, ya_sizes, ya_operations, ya_places, ya_numbers, ya_done, ya_outs, ya_puts, ya_stored, ya_registers, ya_before⟩ := v
  have I0 := I
  obtain ⟨W, m, rfl, rfl, rfl, rfl, rfl, rfl, rfl, rfl, C, hce, G, hst⟩ := I
  unfold wpX_outs wpY_outs
  dsimp only
  have hm8 : m ≤ 8 := C.2.2.1
  have N : (v1 < 0 ∨ nI m ≤ v1) ∨ ∃ j : Nat, j < m ∧ v1 = nI j := by
    rcases pk_ix v1 (n := m) (by omega) with q | q | q
    · exact Or.inl (Or.inl q)
    · exact Or.inl (Or.inr q)
    · exact Or.inr q
  rcases N with q | ⟨j, hj, rfl⟩
  · exact be_xtN q (br_t rfl (be_yhN q (br_f (by decide) (be_yhN q ⟨rfl, I0⟩))))
  · have hi : vp_in (nI j) 8 := vp_in_nI (by omega) (by omega)
    have cj : (nI j).toNatClampNeg = j := nI_clamp (by omega)
    refine be_xtY hm8 rfl hj (br_f (by decide) ?_)
    by_cases h2 : f_stage = 2
    · have M : be_YM a_failed a_storedCells a_outCount a_outValues ya_done ya_outs ya_puts ya_stored j := by
        rcases hst with g | g | g
        · exact absurd (g.symm.trans h2) (by decide)
        · exact absurd (g.1.symm.trans h2) (by decide)
        · exact g.2.2.2 j hj
      refine br_t h2 ⟨hi, ?_⟩
      refine be_yhY hm8 rfl hj (fun _ => br_t (by decide) ⟨hi, ?_, I0⟩) (fun g => absurd h2 g)
      rw [cj]
      exact M.2.1
    · exact br_f h2 (be_yhY hm8 rfl hj (fun g => absurd g h2) (fun _ => br_f (by decide) (be_yhY hm8 rfl hj (fun g => absurd g h2) (fun _ => ⟨rfl, I0⟩))))
theorem i_vc_stored {k : Nat} {u : SX} {v : SY} (I : i_Rel k u v) (hk : k + 4 ≤ 2049) (v1 : Int32) : wpX_stored (fun r => wpY_stored (fun r' => r' = r ∧ i_Rel (k + 4) u v) v v1) u v1 := by
  obtain ⟨f_workers, f_stage, f_count, f_settled, f_turn, a_store, a_length, a_codeOperation, a_codePlaces, a_codeNumber, a_before, a_held, a_state, a_position, a_registers, a_failed, a_seenCells, a_seenValues, a_storedCells, a_storedValues, a_outCount, a_outValues⟩ := u
  obtain ⟨yf_phase, yf_count, yf_position, yf_failed, ya_cells, ya_sizes, ya_operations, ya_places, ya_numbers, ya_done, ya_outs, ya_puts, ya_stored, ya_registers, ya_before⟩ := v
  have I0 := I
  obtain ⟨W, m, rfl, rfl, rfl, rfl, rfl, rfl, rfl, rfl, C, hce, G, hst⟩ := I
  unfold wpX_stored wpY_stored
  dsimp only
  have hm8 : m ≤ 8 := C.2.2.1
  have N : (v1 < 0 ∨ nI m ≤ v1) ∨ ∃ j : Nat, j < m ∧ v1 = nI j := by
    rcases pk_ix v1 (n := m) (by omega) with q | q | q
    · exact Or.inl (Or.inl q)
    · exact Or.inl (Or.inr q)
    · exact Or.inr q
  rcases N with q | ⟨j, hj, rfl⟩
  · exact be_xtN q (br_t rfl (be_yhN q (br_f (by decide) (be_yhN q ⟨rfl, I0⟩))))
  · have hi : vp_in (nI j) 8 := vp_in_nI (by omega) (by omega)
    have cj : (nI j).toNatClampNeg = j := nI_clamp (by omega)
    refine be_xtY hm8 rfl hj (br_f (by decide) ?_)
    by_cases h2 : f_stage = 2
    · have M : be_YM a_failed a_storedCells a_outCount a_outValues ya_done ya_outs ya_puts ya_stored j := by
        rcases hst with g | g | g
        · exact absurd (g.symm.trans h2) (by decide)
        · exact absurd (g.1.symm.trans h2) (by decide)
        · exact g.2.2.2 j hj
      refine br_t h2 ⟨hi, ?_⟩
      refine be_yhY hm8 rfl hj (fun _ => br_t (by decide) ⟨hi, ?_, I0⟩) (fun g => absurd h2 g)
      rw [cj]
      exact M.2.2.1
    · exact br_f h2 (be_yhY hm8 rfl hj (fun g => absurd g h2) (fun _ => br_f (by decide) (be_yhY hm8 rfl hj (fun g => absurd g h2) (fun _ => ⟨rfl, I0⟩))))
theorem i_vc_out {k : Nat} {u : SX} {v : SY} (I : i_Rel k u v) (hk : k + 4 ≤ 2049) (v1 : Int32) (v2 : Int32) : wpX_out (fun r => wpY_out (fun r' => r' = r ∧ i_Rel (k + 4) u v) v v1 v2) u v1 v2 := by
  obtain ⟨f_workers, f_stage, f_count, f_settled, f_turn, a_store, a_length, a_codeOperation, a_codePlaces, a_codeNumber, a_before, a_held, a_state, a_position, a_registers, a_failed, a_seenCells, a_seenValues, a_storedCells, a_storedValues, a_outCount, a_outValues⟩ := u
  obtain ⟨yf_phase, yf_count, yf_position, yf_failed, ya_cells, ya_sizes, ya_operations, ya_places, ya_numbers, ya_done, ya_outs, ya_puts, ya_stored, ya_registers, ya_before⟩ := v
  have I0 := I
  obtain ⟨W, m, rfl, rfl, rfl, rfl, rfl, rfl, rfl, rfl, C, hce, G, hst⟩ := I
  unfold wpX_out wpY_out
  dsimp only
  have hm8 : m ≤ 8 := C.2.2.1
  have N : (v1 < 0 ∨ nI m ≤ v1) ∨ ∃ j : Nat, j < m ∧ v1 = nI j := by
    rcases pk_ix v1 (n := m) (by omega) with q | q | q
    · exact Or.inl (Or.inl q)
    · exact Or.inl (Or.inr q)
    · exact Or.inr q
  by_cases h2 : f_stage = 2
  · refine br_t h2 ?_
    rcases N with q | ⟨j, hj, rfl⟩
    · exact be_xtN q (br_t rfl (be_yhN q (br_t (by decide) ⟨rfl, I0⟩)))
    · have hi : vp_in (nI j) 8 := vp_in_nI (by omega) (by omega)
      have cj : (nI j).toNatClampNeg = j := nI_clamp (by omega)
      refine be_xtY hm8 rfl hj (br_f (by decide) ?_)
      by_cases h0 : v2 < 0
      · exact br_t h0 (be_yhY hm8 rfl hj (fun _ => br_f (by decide) (br_t h0 ⟨rfl, I0⟩)) (fun g => absurd h2 g))
      · obtain ⟨x, hx, rfl⟩ := nI_of h0
        have R2 : be_RI W m m a_length a_codeOperation a_codePlaces a_codeNumber a_before a_held a_state (a_position, a_registers, a_failed, a_seenCells, a_seenValues, a_storedCells, a_storedValues, a_outCount, a_outValues) ∧ be_YM a_failed a_storedCells a_outCount a_outValues ya_done ya_outs ya_puts ya_stored j := by
          rcases hst with g | g | g
          · exact absurd (g.symm.trans h2) (by decide)
          · exact absurd (g.1.symm.trans h2) (by decide)
          · exact ⟨g.2.2.1, g.2.2.2 j hj⟩
        obtain ⟨RI, M⟩ := R2
        obtain ⟨l, hl12, hL⟩ := C.2.2.2.1 j (by omega)
        obtain ⟨p, oq, hp, hoq, _, hoq12, hp13, _⟩ := be_hxB hL hl12 (RI.2.2.2.2.1 j hj (by rw [RI.2.1 j hj]; decide))
        have eX : a_outCount j = nI oq := hoq
        have eY : ya_outs j = nI oq := M.2.1.trans eX
        by_cases hk : x < oq
        · have e1 : nI j * 12 + nI x = nI (12 * j + x) := be_ix 12 j x
          have e2 : 12 * nI j + nI x = nI (12 * j + x) := be_iy 12 j x
          have i6 : vp_in (nI (12 * j + x)) 96 := vp_in_nI (by omega) (by omega)
          have c6 : (nI (12 * j + x)).toNatClampNeg = 12 * j + x := nI_clamp (by omega)
          refine br_f h0 ⟨hi, br_t (by rw [cj, eX]; exact nI_lt hk (by omega)) ⟨by rw [e1]; exact i6, be_yhY hm8 rfl hj (fun _ => br_f (by decide) (br_f h0 ⟨hi, br_t (by rw [cj, eY]; exact nI_lt hk (by omega)) ⟨by rw [e2]; exact i6, ?_, I0⟩⟩)) (fun g => absurd h2 g)⟩⟩
          rw [e1, e2, c6]
          exact M.2.2.2 x oq eX hoq12 hk
        · exact br_f h0 ⟨hi, br_f (by rw [cj, eX]; exact nI_nlt (by omega) (by omega)) (be_yhY hm8 rfl hj (fun _ => br_f (by decide) (br_f h0 ⟨hi, br_f (by rw [cj, eY]; exact nI_nlt (by omega) (by omega)) ⟨rfl, I0⟩⟩)) (fun g => absurd h2 g))⟩
  · refine br_f h2 ?_
    rcases N with q | ⟨j, hj, rfl⟩
    · exact be_yhN q (br_t (by decide) ⟨rfl, I0⟩)
    · exact be_yhY hm8 rfl hj (fun g => absurd g h2) (fun _ => br_t (by decide) ⟨rfl, I0⟩)
theorem be_fl0 {f_workers f_stage f_count f_settled f_turn : Int32} {a_store a_length a_codeOperation a_codePlaces a_codeNumber a_before a_held a_state a_position a_registers a_failed a_seenCells a_seenValues a_storedCells a_storedValues a_outCount a_outValues : Nat → Int32} {post : Int32 → Prop} {W m s : Nat} (hm : m ≤ 8) (hs : f_settled = nI s) (hc : f_count = nI m) (h0 : ¬ f_stage = 0) (G : be_G (a_position, a_registers, a_failed, a_seenCells, a_seenValues, a_storedCells, a_storedValues, a_outCount, a_outValues)) (RI : be_RI W m s a_length a_codeOperation a_codePlaces a_codeNumber a_before a_held a_state (a_position, a_registers, a_failed, a_seenCells, a_seenValues, a_storedCells, a_storedValues, a_outCount, a_outValues)) (h4 : f_stage = 2 → s = m) (p : post 0) : wpX_faults post (f_workers, f_stage, f_count, f_settled, f_turn, a_store, a_length, a_codeOperation, a_codePlaces, a_codeNumber, a_before, a_held, a_state, a_position, a_registers, a_failed, a_seenCells, a_seenValues, a_storedCells, a_storedValues, a_outCount, a_outValues) := by
  obtain ⟨i1, i2, i3, i4, _⟩ := RI
  refine br_f h0 ⟨m + 1, be_f13 hm i1 hs hc i2 (fun t h h' e => ?_) i4 G h4 p m 0 (by omega)⟩
  rcases i3 t h h' with q | q | q <;> rw [q] at e <;> exact absurd e (by decide)
theorem i_vc_faults {k : Nat} {u : SX} {v : SY} (I : i_Rel k u v) (hk : k + 4 ≤ 2049) : wpX_faults (fun r => wpY_faults (fun r' => r' = r ∧ i_Rel (k + 4) u v) v) u := by
  obtain ⟨f_workers, f_stage, f_count, f_settled, f_turn, a_store, a_length, a_codeOperation, a_codePlaces, a_codeNumber, a_before, a_held, a_state, a_position, a_registers, a_failed, a_seenCells, a_seenValues, a_storedCells, a_storedValues, a_outCount, a_outValues⟩ := u
  obtain ⟨yf_phase, yf_count, yf_position, yf_failed, ya_cells, ya_sizes, ya_operations, ya_places, ya_numbers, ya_done, ya_outs, ya_puts, ya_stored, ya_registers, ya_before⟩ := v
  have I0 := I
  obtain ⟨W, m, rfl, rfl, rfl, rfl, rfl, rfl, rfl, rfl, C, hce, G, hst⟩ := I
  have hm8 : m ≤ 8 := C.2.2.1
  rcases hst with rfl | ⟨rfl, ⟨s, tn, rfl, rfl, htn, RI⟩, _⟩ | ⟨rfl, rfl, RI, _⟩
  · exact br_t rfl ⟨rfl, I0⟩
  · exact be_fl0 hm8 rfl rfl (by decide) G RI (fun q => absurd q (by decide)) ⟨rfl, I0⟩
  · exact be_fl0 hm8 rfl rfl (by decide) G RI (fun _ => rfl) ⟨rfl, I0⟩
end
