/-! bits -/
theorem be_1 : ∀ i, i < 32 → bt 1 i = decide (i = 0) := by decide +kernel
theorem be_and1 (x : Int32) : (x &&& 1) = 0 ↔ bt x 0 = false := by
  constructor
  · intro h
    have h2 : bt (x &&& 1) 0 = bt 0 0 := by rw [h]
    rw [b_and, b_0, be_1 0 (by omega)] at h2
    simpa using h2
  · intro h
    refine b_ext fun i hi => ?_
    rw [b_and, b_0, be_1 i hi]
    by_cases e : i = 0
    · subst e; rw [h]; rfl
    · rw [decide_eq_false e, Bool.and_false]
theorem be_tst (x : Int32) {c : Nat} (hc : c < 16) : ((x >>> (nI c &&& 31)) &&& 1) = 0 ↔ bt x c = false := by
  rw [be_and1, b_sshr c (by omega) x (by omega), if_pos (by omega), Nat.add_zero]
theorem be_sh {c i : Nat} (hc : c < 32) (hi : i < 32) : bt ((1 : Int32) <<< (nI c &&& 31)) i = decide (i = c) := by
  rw [b_shl c hc 1 hi, be_1 (i - c) (by omega)]
  by_cases h : i = c
  · subst h; simp
  · rw [decide_eq_false h]
    by_cases h2 : c ≤ i
    · rw [decide_eq_false (p := i - c = 0) (by omega), Bool.and_false]
    · rw [decide_eq_false h2, Bool.false_and]
theorem be_msk (x : Int32) {c : Nat} (hc : c < 16) : (x &&& ((1 : Int32) <<< (nI c &&& 31))) = 0 ↔ bt x c = false := by
  constructor
  · intro h
    have h2 : bt (x &&& ((1 : Int32) <<< (nI c &&& 31))) c = bt 0 c := by rw [h]
    rw [b_and, b_0, be_sh (by omega) (by omega)] at h2
    simpa using h2
  · intro h
    refine b_ext fun i hi => ?_
    rw [b_and, b_0, be_sh (by omega) hi]
    by_cases e : i = c
    · subst e; rw [h]; rfl
    · rw [decide_eq_false e, Bool.and_false]
def be_set (x c : Int32) : Int32 := x ||| ((1 : Int32) <<< (c &&& 31))
theorem be_orb (x : Int32) {c j : Nat} (hc : c < 16) (hj : j < 16) : bt (be_set x (nI c)) j = (bt x j || decide (j = c)) := by
  unfold be_set
  rw [b_or, be_sh (by omega) (by omega)]
theorem be_m15 (x : Int32) : ∃ c : Nat, c < 16 ∧ x &&& 15 = nI c := pk_andE x 4 (by decide)
theorem be_m7 (x : Int32) : ∃ c : Nat, c < 8 ∧ x &&& 7 = nI c := pk_andE x 3 (by decide)
theorem be_b0 : vp_nar .boolean 0 = 0 := by decide
theorem be_b1 : vp_nar .boolean 1 = 1 := by decide
theorem be_ix (w t a : Nat) : nI t * nI w + nI a = nI (w * t + a) := by rw [pk_mul, nI_add, Nat.mul_comm]
theorem be_iy (w t a : Nat) : nI w * nI t + nI a = nI (w * t + a) := by rw [pk_mul, nI_add]
theorem be_bf {x : Bool} (h : ¬ x = false) : x = true := by cases x <;> simp_all
/-! slices of the arrays: width w, transaction t -/
def be_sl (a : Nat → Int32) (w t : Nat) : Nat → Int32 := fun i => if i < w then a (w * t + i) else 0
theorem be_sla {a : Nat → Int32} {w t i : Nat} (h : i < w) : be_sl a w t i = a (w * t + i) := if_pos h
theorem be_slu {a : Nat → Int32} {w t i : Nat} {x : Int32} (hi : i < w) : be_sl (upd a (w * t + i) x) w t = upd (be_sl a w t) i x := by
  funext j
  unfold be_sl upd
  by_cases h : j = i
  · subst h; simp [hi]
  · by_cases h2 : j < w
    · have h3 : ¬ w * t + j = w * t + i := by omega
      simp [h, h2, h3]
    · simp [h, h2]
theorem be_ne {w t t' i j : Nat} (hi : i < w) (hj : j < w) (ht : t' ≠ t) : ¬ w * t' + j = w * t + i := by
  intro e
  rcases Nat.lt_or_gt_of_ne ht with h | h
  · have h2 : w * (t' + 1) ≤ w * t := Nat.mul_le_mul_left w h
    rw [Nat.mul_add] at h2
    omega
  · have h2 : w * (t + 1) ≤ w * t' := Nat.mul_le_mul_left w h
    rw [Nat.mul_add] at h2
    omega
theorem be_slo {a : Nat → Int32} {w t t' i : Nat} {x : Int32} (hi : i < w) (ht : t' ≠ t) : be_sl (upd a (w * t + i) x) w t' = be_sl a w t' := by
  funext j
  unfold be_sl upd
  by_cases h2 : j < w
  · simp [h2, be_ne hi h2 ht]
  · simp [h2]
/-! the machine of one transaction: position, registers, failed, stored cells, stored values, outs, put out -/
abbrev be_S : Type := Int32 × (Nat → Int32) × Int32 × Int32 × (Nat → Int32) × Int32 × (Nat → Int32)
def be_rd (sg : Nat → Int32) (bits : Int32) (sv : Nat → Int32) (c : Nat) : Int32 := if bt bits c = true then sv c else sg c
def be_st (sg : Nat → Int32) (L op : Int32) (a b : Nat) (n : Int32) : be_S → be_S
  | (pos, reg, fl, bits, sv, oc, ov) =>
    if op = 0 then (pos + 1, upd reg a n, fl, bits, sv, oc, ov)
    else if op = 1 then (pos + 1, upd reg a (reg a + reg b), fl, bits, sv, oc, ov)
    else if op = 2 then (pos + 1, upd reg a (reg a - reg b), fl, bits, sv, oc, ov)
    else if op = 3 then (pos + 1, upd reg a (be_rd sg bits sv (n &&& 15).toNatClampNeg), fl, bits, sv, oc, ov)
    else if op = 4 then (pos + 1, reg, fl, be_set bits (n &&& 15), upd sv (n &&& 15).toNatClampNeg (reg a), oc, ov)
    else if op = 5 then (pos + 1, upd reg a (reg a * reg b), fl, bits, sv, oc, ov)
    else if op = 6 then (if reg b ≤ reg a then (pos + 1, reg, fl, bits, sv, oc, ov) else (pos + 1 + 1, reg, fl, bits, sv, oc, ov))
    else if op = 7 then (if n ≤ reg a then (pos + 1, reg, fl, bits, sv, oc, ov) else (L, reg, 1, 0, sv, 0, ov))
    else if op = 8 then (if 12 ≤ oc then (pos + 1, reg, fl, bits, sv, oc, ov) else (pos + 1, reg, fl, bits, sv, oc + 1, upd ov oc.toNatClampNeg (reg a)))
    else if op = 9 then (pos + 1, upd reg a (be_rd sg bits sv (reg b &&& 15).toNatClampNeg), fl, bits, sv, oc, ov)
    else if op = 10 then (pos + 1, reg, fl, be_set bits (reg b &&& 15), upd sv (reg b &&& 15).toNatClampNeg (reg a), oc, ov)
    else (L, reg, fl, bits, sv, oc, ov)
/-- the instruction at s's position, of transaction t -/
def be_in (sg ln cO cP cN : Nat → Int32) (t : Nat) (s : be_S) : be_S :=
  be_st sg (ln t) (cO (12 * t + s.1.toNatClampNeg)) ((cP (12 * t + s.1.toNatClampNeg)).toNatClampNeg / 4) ((cP (12 * t + s.1.toNatClampNeg)).toNatClampNeg % 4) (cN (12 * t + s.1.toNatClampNeg)) s
def be_ms (sg ln cO cP cN : Nat → Int32) (t : Nat) (s : be_S) : be_S := if s.1 < ln t then be_in sg ln cO cP cN t s else s
def be_it (f : be_S → be_S) : Nat → be_S → be_S
  | 0, s => s
  | k + 1, s => f (be_it f k s)
def be_c0 (sv ov : Nat → Int32) : be_S := (0, fun _ => 0, 0, 0, sv, 0, ov)
theorem be_ite {α : Type} {c : Prop} [Decidable c] {P : α → Prop} {x y : α} (h1 : P x) (h2 : P y) : P (if c then x else y) := by
  by_cases h : c
  · rw [if_pos h]; exact h1
  · rw [if_neg h]; exact h2
def be_BI (L : Int32) (s : be_S) : Prop :=
  match s with
  | (pos, _, fl, bits, _, oc, _) => ∃ p q : Nat, pos = nI p ∧ oc = nI q ∧ q ≤ p ∧ q ≤ 12 ∧ p ≤ 13 ∧ (fl = 0 ∨ (fl = 1 ∧ bits = 0 ∧ oc = 0 ∧ ¬ pos < L))
theorem be_bi0 (L : Int32) (sv ov : Nat → Int32) : be_BI L (be_c0 sv ov) := ⟨0, 0, rfl, rfl, by omega, by omega, by omega, Or.inl rfl⟩
theorem be_biS {sg : Nat → Int32} {L op n : Int32} {a b l : Nat} {s : be_S} (hL : L = nI l) (hl : l ≤ 12) (hs : s.1 < L) (h : be_BI L s) : be_BI L (be_st sg L op a b n s) := by
  obtain ⟨pos, reg, fl, bits, sv, oc, ov⟩ := s
  obtain ⟨p, q, rfl, rfl, hqp, hq, hp, hf⟩ := h
  have hpl : p < l := by
    have h2 : nI p < L := hs
    rw [hL, nI_ltI (by omega) (by omega)] at h2
    exact h2
  have hf0 : fl = 0 := by
    rcases hf with hf | hf
    · exact hf
    · exact absurd hs hf.2.2.2
  have e1 : nI p + 1 = nI (p + 1) := nI_1 p
  have e2 : nI p + 1 + 1 = nI (p + 2) := by rw [nI_1, nI_1]
  have H1 : ∀ (r : Nat → Int32) (bb : Int32) (w : Nat → Int32) (o : Nat → Int32), be_BI L (nI p + 1, r, fl, bb, w, nI q, o) := fun r bb w o => ⟨p + 1, q, e1, rfl, by omega, by omega, by omega, Or.inl hf0⟩
  unfold be_st
  dsimp only
  refine be_ite (P := be_BI L) (H1 _ _ _ _) ?_
  refine be_ite (P := be_BI L) (H1 _ _ _ _) ?_
  refine be_ite (P := be_BI L) (H1 _ _ _ _) ?_
  refine be_ite (P := be_BI L) (H1 _ _ _ _) ?_
  refine be_ite (P := be_BI L) (H1 _ _ _ _) ?_
  refine be_ite (P := be_BI L) (H1 _ _ _ _) ?_
  refine be_ite (P := be_BI L) (be_ite (P := be_BI L) (H1 _ _ _ _) ⟨p + 2, q, e2, rfl, by omega, by omega, by omega, Or.inl hf0⟩) ?_
  refine be_ite (P := be_BI L) (be_ite (P := be_BI L) (H1 _ _ _ _) ⟨l, 0, hL, rfl, by omega, by omega, by omega, Or.inr ⟨rfl, rfl, rfl, Int32.lt_irrefl⟩⟩) ?_
  refine be_ite (P := be_BI L) ?_ ?_
  · by_cases z : 12 ≤ nI q
    · rw [if_pos z]
      exact H1 _ _ _ _
    · rw [if_neg z]
      have z2 : q < 12 := by
        by_cases z3 : q < 12
        · exact z3
        · exact absurd (nI_le (a := 12) (b := q) (by omega) (by omega)) z
      exact ⟨p + 1, q + 1, e1, nI_1 q, by omega, by omega, by omega, Or.inl hf0⟩
  refine be_ite (P := be_BI L) (H1 _ _ _ _) ?_
  refine be_ite (P := be_BI L) (H1 _ _ _ _) ?_
  exact ⟨l, q, hL, rfl, by omega, by omega, by omega, Or.inl hf0⟩
/-- an instruction goes on: the position grows -/
theorem be_grow {sg : Nat → Int32} {L op n : Int32} {a b l p : Nat} {s : be_S} (hL : L = nI l) (hl : l ≤ 12) (hp : s.1 = nI p) (hpl : p < l) : ∃ p', (be_st sg L op a b n s).1 = nI p' ∧ p < p' ∧ p' ≤ 13 := by
  obtain ⟨pos, reg, fl, bits, sv, oc, ov⟩ := s
  have hp' : pos = nI p := hp
  subst hp'
  have e1 : nI p + 1 = nI (p + 1) := nI_1 p
  have e2 : nI p + 1 + 1 = nI (p + 2) := by rw [nI_1, nI_1]
  have H1 : ∃ p', nI p + 1 = nI p' ∧ p < p' ∧ p' ≤ 13 := ⟨p + 1, e1, by omega, by omega⟩
  have H2 : ∃ p', nI p + 1 + 1 = nI p' ∧ p < p' ∧ p' ≤ 13 := ⟨p + 2, e2, by omega, by omega⟩
  have HL : ∃ p', L = nI p' ∧ p < p' ∧ p' ≤ 13 := ⟨l, hL, by omega, by omega⟩
  unfold be_st
  dsimp only
  refine be_ite (P := fun s : be_S => ∃ p', s.1 = nI p' ∧ p < p' ∧ p' ≤ 13) H1 ?_
  refine be_ite (P := fun s : be_S => ∃ p', s.1 = nI p' ∧ p < p' ∧ p' ≤ 13) H1 ?_
  refine be_ite (P := fun s : be_S => ∃ p', s.1 = nI p' ∧ p < p' ∧ p' ≤ 13) H1 ?_
  refine be_ite (P := fun s : be_S => ∃ p', s.1 = nI p' ∧ p < p' ∧ p' ≤ 13) H1 ?_
  refine be_ite (P := fun s : be_S => ∃ p', s.1 = nI p' ∧ p < p' ∧ p' ≤ 13) H1 ?_
  refine be_ite (P := fun s : be_S => ∃ p', s.1 = nI p' ∧ p < p' ∧ p' ≤ 13) H1 ?_
  refine be_ite (P := fun s : be_S => ∃ p', s.1 = nI p' ∧ p < p' ∧ p' ≤ 13) (be_ite (P := fun s : be_S => ∃ p', s.1 = nI p' ∧ p < p' ∧ p' ≤ 13) H1 H2) ?_
  refine be_ite (P := fun s : be_S => ∃ p', s.1 = nI p' ∧ p < p' ∧ p' ≤ 13) (be_ite (P := fun s : be_S => ∃ p', s.1 = nI p' ∧ p < p' ∧ p' ≤ 13) H1 HL) ?_
  refine be_ite (P := fun s : be_S => ∃ p', s.1 = nI p' ∧ p < p' ∧ p' ≤ 13) (be_ite (P := fun s : be_S => ∃ p', s.1 = nI p' ∧ p < p' ∧ p' ≤ 13) H1 H1) ?_
  refine be_ite (P := fun s : be_S => ∃ p', s.1 = nI p' ∧ p < p' ∧ p' ≤ 13) H1 ?_
  exact be_ite (P := fun s : be_S => ∃ p', s.1 = nI p' ∧ p < p' ∧ p' ≤ 13) H1 HL
theorem be_biM {sg ln cO cP cN : Nat → Int32} {t l : Nat} {s : be_S} (hL : ln t = nI l) (hl : l ≤ 12) (h : be_BI (ln t) s) : be_BI (ln t) (be_ms sg ln cO cP cN t s) := by
  unfold be_ms
  split
  · exact be_biS hL hl (by assumption) h
  · exact h
theorem be_biI {sg ln cO cP cN sv ov : Nat → Int32} {t l : Nat} (hL : ln t = nI l) (hl : l ≤ 12) : ∀ k, be_BI (ln t) (be_it (be_ms sg ln cO cP cN t) k (be_c0 sv ov))
  | 0 => be_bi0 _ _ _
  | k + 1 => be_biM hL hl (be_biI hL hl k)
/-! the transactions' arrays -/
abbrev be_A : Type := (Nat → Int32) × (Nat → Int32) × (Nat → Int32) × (Nat → Int32) × (Nat → Int32) × (Nat → Int32) × (Nat → Int32) × (Nat → Int32) × (Nat → Int32)
def be_xs (A : be_A) (t : Nat) : be_S := match A with
  | (ps, rg, fl, _, _, sc, sv, oc, ov) => (ps t, be_sl rg 4 t, fl t, sc t, be_sl sv 16 t, oc t, be_sl ov 12 t)
abbrev be_ps (A : be_A) : Nat → Int32 := A.1
abbrev be_fl (A : be_A) : Nat → Int32 := A.2.2.1
abbrev be_sn (A : be_A) : Nat → Int32 := A.2.2.2.1
abbrev be_sV (A : be_A) : Nat → Int32 := A.2.2.2.2.1
abbrev be_sc (A : be_A) : Nat → Int32 := A.2.2.2.2.2.1
abbrev be_sv (A : be_A) : Nat → Int32 := A.2.2.2.2.2.2.1
abbrev be_oc (A : be_A) : Nat → Int32 := A.2.2.2.2.2.2.2.1
abbrev be_ov (A : be_A) : Nat → Int32 := A.2.2.2.2.2.2.2.2
/-- the store sg agrees with what transaction t has seen -/
def be_Ag (sn sV : Nat → Int32) (t : Nat) (sg : Nat → Int32) : Prop := ∀ c, c < 16 → bt (sn t) c = true → sg c = sV (16 * t + c)
def be_Eq (A A' : be_A) (t : Nat) : Prop := be_xs A' t = be_xs A t ∧ be_sn A' t = be_sn A t ∧ be_sl (be_sV A') 16 t = be_sl (be_sV A) 16 t
theorem be_eqr (A : be_A) (t : Nat) : be_Eq A A t := ⟨rfl, rfl, rfl⟩
theorem be_eqi {ps rg fl sn sV sc sv oc ov ps' rg' fl' sn' sV' sc' sv' oc' ov' : Nat → Int32} {t : Nat} (h1 : ps' t = ps t) (h2 : be_sl rg' 4 t = be_sl rg 4 t) (h3 : fl' t = fl t) (h4 : sn' t = sn t) (h5 : be_sl sV' 16 t = be_sl sV 16 t) (h6 : sc' t = sc t) (h7 : be_sl sv' 16 t = be_sl sv 16 t) (h8 : oc' t = oc t) (h9 : be_sl ov' 12 t = be_sl ov 12 t) : be_Eq (ps, rg, fl, sn, sV, sc, sv, oc, ov) (ps', rg', fl', sn', sV', sc', sv', oc', ov') t := by
  refine ⟨?_, h4, h5⟩
  show (ps' t, be_sl rg' 4 t, fl' t, sc' t, be_sl sv' 16 t, oc' t, be_sl ov' 12 t) = (ps t, be_sl rg 4 t, fl t, sc t, be_sl sv 16 t, oc t, be_sl ov 12 t)
  rw [h1, h2, h3, h6, h7, h8, h9]
theorem be_agE {A A' : be_A} {t : Nat} (h : be_Eq A A' t) (sg : Nat → Int32) : be_Ag (be_sn A') (be_sV A') t sg ↔ be_Ag (be_sn A) (be_sV A) t sg := by
  have h5 : ∀ c, c < 16 → be_sV A' (16 * t + c) = be_sV A (16 * t + c) := fun c hc => by
    rw [← be_sla (a := be_sV A') hc, ← be_sla (a := be_sV A) hc, h.2.2]
  constructor
  · intro g c hc hb
    rw [← h5 c hc]
    exact g c hc (by rw [h.2.1]; exact hb)
  · intro g c hc hb
    rw [h5 c hc]
    exact g c hc (by rw [← h.2.1]; exact hb)
theorem be_eqps {A A' : be_A} {t : Nat} (h : be_Eq A A' t) : be_ps A' t = be_ps A t := congrArg (fun s : be_S => s.1) h.1
theorem be_eqfl {A A' : be_A} {t : Nat} (h : be_Eq A A' t) : be_fl A' t = be_fl A t := congrArg (fun s : be_S => s.2.2.1) h.1
theorem be_eqsc {A A' : be_A} {t : Nat} (h : be_Eq A A' t) : be_sc A' t = be_sc A t := congrArg (fun s : be_S => s.2.2.2.1) h.1
theorem be_eqsv {A A' : be_A} {t : Nat} (h : be_Eq A A' t) : be_sl (be_sv A') 16 t = be_sl (be_sv A) 16 t := congrArg (fun s : be_S => s.2.2.2.2.1) h.1
theorem be_eqoc {A A' : be_A} {t : Nat} (h : be_Eq A A' t) : be_oc A' t = be_oc A t := congrArg (fun s : be_S => s.2.2.2.2.2.1) h.1
/-- what a transaction finds in cell c: the last one before it that has been carried out and has stored there -/
def be_vb (st sc sv bf : Nat → Int32) : Nat → Nat → Int32
  | 0, c => bf c
  | t + 1, c => if ¬ st t < 2 then be_rd (be_vb st sc sv bf t) (sc t) (be_sl sv 16 t) c else be_vb st sc sv bf t c
theorem be_vbc {st st' sc sc' sv sv' bf : Nat → Int32} : ∀ t : Nat, (∀ u, u < t → (st' u < 2 ↔ st u < 2) ∧ sc' u = sc u ∧ be_sl sv' 16 u = be_sl sv 16 u) → be_vb st' sc' sv' bf t = be_vb st sc sv bf t
  | 0, _ => rfl
  | t + 1, h => by
    funext c
    have ih := be_vbc (bf := bf) t (fun u hu => h u (by omega))
    have h1 := h t (by omega)
    unfold be_vb
    rw [ih, h1.2.1, h1.2.2]
    by_cases z : st t < 2
    · rw [if_neg (fun q : ¬ st' t < 2 => q (h1.1.mpr z)), if_neg (fun q : ¬ st t < 2 => q z)]
    · rw [if_pos (fun q : st' t < 2 => z (h1.1.mp q)), if_pos z]
/-! sums -/
def be_sm (f : Nat → Nat) : Nat → Nat
  | 0 => 0
  | n + 1 => be_sm f n + f n
theorem be_sme {f g : Nat → Nat} : ∀ n, (∀ i, i < n → f i = g i) → be_sm f n = be_sm g n
  | 0, _ => rfl
  | n + 1, h => by
    show be_sm f n + f n = be_sm g n + g n
    rw [be_sme n (fun i hi => h i (by omega)), h n (by omega)]
theorem be_sm1 {f g : Nat → Nat} {t : Nat} : ∀ n, t < n → (∀ i, i ≠ t → f i = g i) → be_sm f n + g t = be_sm g n + f t
  | 0, h, _ => absurd h (Nat.not_lt_zero _)
  | n + 1, h, e => by
    show be_sm f n + f n + g t = be_sm g n + g n + f t
    by_cases z : t = n
    · subst z
      rw [be_sme t (fun i hi => e i (by omega))]
      omega
    · have ih := be_sm1 n (by omega) e
      rw [e n (fun q => z q.symm)]
      omega
theorem be_smb {f : Nat → Nat} {b : Nat} (h : ∀ i, f i ≤ b) : ∀ n, be_sm f n ≤ b * n
  | 0 => by show 0 ≤ _; omega
  | n + 1 => by
    have ih := be_smb h n
    have h2 := h n
    show be_sm f n + f n ≤ b * (n + 1)
    rw [Nat.mul_add]
    omega
