/-- transaction t's arrays are what some instructions of it make, on every store that agrees with what it saw -/
def be_Hx (ln cO cP cN : Nat → Int32) (A : be_A) (t : Nat) : Prop :=
  ∃ (k : Nat) (sv ov : Nat → Int32), ∀ sg, be_Ag (be_sn A) (be_sV A) t sg → be_xs A t = be_it (be_ms sg ln cO cP cN t) k (be_c0 sv ov)
theorem be_hxE {ln cO cP cN : Nat → Int32} {A A' : be_A} {t : Nat} (e : be_Eq A A' t) (h : be_Hx ln cO cP cN A t) : be_Hx ln cO cP cN A' t := by
  obtain ⟨k, sv, ov, h⟩ := h
  exact ⟨k, sv, ov, fun sg g => e.1.trans (h sg ((be_agE e sg).mp g))⟩
theorem be_hxB {ln cO cP cN : Nat → Int32} {A : be_A} {t l : Nat} (hL : ln t = nI l) (hl : l ≤ 12) (h : be_Hx ln cO cP cN A t) : be_BI (ln t) (be_xs A t) := by
  obtain ⟨k, sv, ov, h⟩ := h
  rw [h (fun c => be_sV A (16 * t + c)) (fun c _ _ => rfl)]
  exact be_biI hL hl k
theorem be_hx0 {ln cO cP cN sv ov : Nat → Int32} {A : be_A} {t : Nat} (h : be_xs A t = be_c0 sv ov) : be_Hx ln cO cP cN A t := ⟨0, sv, ov, fun _ _ => h⟩
theorem be_xs1 (A : be_A) (t : Nat) : (be_xs A t).1 = be_ps A t := rfl
theorem be_hxS {ln cO cP cN st bf : Nat → Int32} {A A' : be_A} {t : Nat} (S : be_SO ln cO cP cN st bf A A' t) (hp : be_ps A t < ln t) (h : be_Hx ln cO cP cN A t) : be_Hx ln cO cP cN A' t := by
  obtain ⟨k, sv, ov, h⟩ := h
  refine ⟨k + 1, sv, ov, fun sg g => ?_⟩
  obtain ⟨g1, e1⟩ := S.1 sg g
  show _ = be_ms sg ln cO cP cN t (be_it (be_ms sg ln cO cP cN t) k (be_c0 sv ov))
  rw [← h sg g1, e1]
  unfold be_ms
  rw [if_pos (show (be_xs A t).1 < ln t from hp)]
/-! who holds what -/
def be_HD (W m s : Nat) (hd st : Nat → Int32) : Prop :=
  (∀ w, w < 8 → hd w = -1 ∨ ∃ t, hd w = nI t ∧ s ≤ t ∧ t < m ∧ st t = 1) ∧ (∀ w w' t, w < 8 → w' < 8 → t < 8 → hd w = nI t → hd w' = nI t → w = w') ∧ (∀ t, t < m → st t = 1 → ∃ w, w < W ∧ hd w = nI t)
theorem be_nm : ∀ t, t < 8 → ¬ nI t = -1 := by decide +kernel
theorem be_nI8 {a b : Nat} (ha : a < 8) (hb : b < 8) (h : nI a = nI b) : a = b := (nI_eq (by omega) (by omega)).mp h
theorem be_hdT {W m s w t : Nat} {hd st : Nat → Int32} (hW : W ≤ 8) (hm : m ≤ 8) (hw : w < W) (hst : s ≤ t) (htm : t < m) (h0 : st t = 0) (hf : hd w = -1) (H : be_HD W m s hd st) : be_HD W m s (upd hd w (nI t)) (upd st t 1) := by
  obtain ⟨g1, g2, g3⟩ := H
  have no : ∀ w', w' < 8 → ¬ hd w' = nI t := fun w' hw' e => by
    rcases g1 w' hw' with q | ⟨t', q, _, q2, q3⟩
    · exact be_nm t (by omega) (e.symm.trans q)
    · have := be_nI8 (by omega) (by omega) (e.symm.trans q)
      subst this
      rw [h0] at q3
      exact absurd q3 (by decide)
  refine ⟨fun w' hw' => ?_, fun w1 w2 t' h1 h2 h3 e1 e2 => ?_, fun t' ht' e => ?_⟩
  · by_cases z : w' = w
    · subst z
      exact Or.inr ⟨t, pk_us, hst, htm, pk_us⟩
    · rw [pk_un z]
      rcases g1 w' hw' with q | ⟨t', q, q1, q2, q3⟩
      · exact Or.inl q
      · refine Or.inr ⟨t', q, q1, q2, ?_⟩
        rw [pk_un (fun e : t' = t => no w' hw' (e ▸ q))]
        exact q3
  · by_cases z1 : w1 = w
    · by_cases z2 : w2 = w
      · exact z1.trans z2.symm
      · subst z1
        rw [pk_us] at e1
        rw [pk_un z2] at e2
        exact absurd (e2.trans e1.symm) (no w2 h2)
    · by_cases z2 : w2 = w
      · subst z2
        rw [pk_us] at e2
        rw [pk_un z1] at e1
        exact absurd (e1.trans e2.symm) (no w1 h1)
      · rw [pk_un z1] at e1
        rw [pk_un z2] at e2
        exact g2 w1 w2 t' h1 h2 h3 e1 e2
  · by_cases z : t' = t
    · subst z
      exact ⟨w, hw, pk_us⟩
    · rw [pk_un z] at e
      obtain ⟨w', hw', q⟩ := g3 t' ht' e
      refine ⟨w', hw', ?_⟩
      rw [pk_un (fun e => be_nm t' (by omega) (by rw [← q, e]; exact hf))]
      exact q
theorem be_hdD {W m s w t : Nat} {hd st : Nat → Int32} (hW : W ≤ 8) (hm : m ≤ 8) (hw : w < W) (htm : t < m) (hf : hd w = nI t) (H : be_HD W m s hd st) : be_HD W m s (upd hd w (-1)) (upd st t 2) := by
  obtain ⟨g1, g2, g3⟩ := H
  refine ⟨fun w' hw' => ?_, fun w1 w2 t' h1 h2 h3 e1 e2 => ?_, fun t' ht' e => ?_⟩
  · by_cases z : w' = w
    · subst z
      exact Or.inl pk_us
    · rw [pk_un z]
      rcases g1 w' hw' with q | ⟨t', q, q1, q2, q3⟩
      · exact Or.inl q
      · refine Or.inr ⟨t', q, q1, q2, ?_⟩
        rw [pk_un (fun e : t' = t => z (g2 w' w t hw' (by omega) (by omega) (e ▸ q) hf))]
        exact q3
  · by_cases z1 : w1 = w
    · subst z1
      rw [pk_us] at e1
      exact absurd e1.symm (be_nm t' h3)
    · by_cases z2 : w2 = w
      · subst z2
        rw [pk_us] at e2
        exact absurd e2.symm (be_nm t' h3)
      · rw [pk_un z1] at e1
        rw [pk_un z2] at e2
        exact g2 w1 w2 t' h1 h2 h3 e1 e2
  · by_cases z : t' = t
    · subst z
      rw [pk_us] at e
      exact absurd e (by decide)
    · rw [pk_un z] at e
      obtain ⟨w', hw', q⟩ := g3 t' ht' e
      refine ⟨w', hw', ?_⟩
      rw [pk_un (fun e => z (be_nI8 (by omega) (by omega) (by rw [← q, e]; exact hf)))]
      exact q
theorem be_hdS {W m s t : Nat} {x : Int32} {hd st : Nat → Int32} (s' : Nat) (hx : ¬ x = 1) (h2 : ¬ st t = 1) (hs : ∀ u, s ≤ u → ¬ u = t → s' ≤ u) (H : be_HD W m s hd st) : be_HD W m s' hd (upd st t x) := by
  obtain ⟨g1, g2, g3⟩ := H
  refine ⟨fun w' hw' => ?_, g2, fun t' ht' e => ?_⟩
  · rcases g1 w' hw' with q | ⟨t', q, q1, q2, q3⟩
    · exact Or.inl q
    · have z : t' ≠ t := fun e => h2 (e ▸ q3)
      exact Or.inr ⟨t', q, hs t' q1 z, q2, by rw [pk_un z]; exact q3⟩
  · by_cases z : t' = t
    · subst z
      rw [pk_us] at e
      exact absurd e hx
    · rw [pk_un z] at e
      exact g3 t' ht' e
/-! the invariant of a block that runs -/
def be_RI (W m s : Nat) (ln cO cP cN bf hd st : Nat → Int32) (A : be_A) : Prop :=
  s ≤ m ∧ (∀ t, t < s → st t = 3) ∧ (∀ t, s ≤ t → t < m → st t = 0 ∨ st t = 1 ∨ st t = 2) ∧ (∀ t, t < s → be_Ag (be_sn A) (be_sV A) t (be_vb st (be_sc A) (be_sv A) bf t)) ∧ (∀ t, t < m → ¬ st t = 0 → be_Hx ln cO cP cN A t) ∧ (∀ t, t < m → st t = 1 → (be_ps A t).toNatClampNeg ≤ 12) ∧ (∀ t, t < m → st t = 2 ∨ st t = 3 → ¬ be_ps A t < ln t) ∧ be_HD W m s hd st
theorem be_vbF {st st' bf : Nat → Int32} {A A' : be_A} {t u : Nat} (hu : u ≤ t) (h1 : ∀ v, v ≠ t → st' v = st v) (h2 : ∀ v, v ≠ t → be_Eq A A' v) : be_vb st' (be_sc A') (be_sv A') bf u = be_vb st (be_sc A) (be_sv A) bf u :=
  be_vbc u (fun v hv => ⟨by rw [h1 v (by omega)], be_eqsc (h2 v (by omega)), be_eqsv (h2 v (by omega))⟩)
theorem be_RIt {W m s t : Nat} {ln cO cP cN bf hd hd' st st' : Nat → Int32} {A A' : be_A} (I : be_RI W m s ln cO cP cN bf hd st A) (hs : s ≤ t) (h1 : ∀ v, v ≠ t → st' v = st v) (h2 : ∀ v, v ≠ t → be_Eq A A' v) (n1 : st' t = 0 ∨ st' t = 1 ∨ st' t = 2) (n2 : ¬ st' t = 0 → be_Hx ln cO cP cN A' t) (n3 : st' t = 1 → (be_ps A' t).toNatClampNeg ≤ 12) (n4 : st' t = 2 → ¬ be_ps A' t < ln t) (g : be_HD W m s hd' st') : be_RI W m s ln cO cP cN bf hd' st' A' := by
  obtain ⟨i1, i2, i3, i4, i5, i6, i7, _⟩ := I
  refine ⟨i1, fun u hu => ?_, fun u h h' => ?_, fun u hu => ?_, fun u hu hz => ?_, fun u hu hz => ?_, fun u hu hz => ?_, g⟩
  · rw [h1 u (by omega)]
    exact i2 u hu
  · by_cases e : u = t
    · rw [e]
      exact n1
    · rw [h1 u e]
      exact i3 u h h'
  · rw [be_vbF (by omega) h1 h2]
    exact (be_agE (h2 u (by omega)) _).mpr (i4 u hu)
  · by_cases e : u = t
    · subst e
      exact n2 hz
    · exact be_hxE (h2 u e) (i5 u hu (by rw [← h1 u e]; exact hz))
  · by_cases e : u = t
    · subst e
      exact n3 hz
    · rw [be_eqps (h2 u e)]
      exact i6 u hu (by rw [← h1 u e]; exact hz)
  · by_cases e : u = t
    · subst e
      rcases hz with hz | hz
      · exact n4 hz
      · rcases n1 with q | q | q <;> rw [q] at hz <;> exact absurd hz (by decide)
    · rw [be_eqps (h2 u e)]
      exact i7 u hu (by rw [← h1 u e]; exact hz)
/-- no failed transaction keeps stores or outs (also what an earlier block left) -/
def be_G (A : be_A) : Prop := ∀ t, t < 8 → be_fl A t = 0 ∨ (be_sc A t = 0 ∧ be_oc A t = 0)
theorem be_Gt {A A' : be_A} {t : Nat} (h : be_G A) (h2 : ∀ v, v ≠ t → be_Eq A A' v) (n : be_fl A' t = 0 ∨ (be_sc A' t = 0 ∧ be_oc A' t = 0)) : be_G A' := fun u hu => by
  by_cases e : u = t
  · rw [e]
    exact n
  · rw [be_eqfl (h2 u e), be_eqsc (h2 u e), be_eqoc (h2 u e)]
    exact h u hu
theorem be_GB {L : Int32} {A : be_A} {t : Nat} (h : be_BI L (be_xs A t)) : be_fl A t = 0 ∨ (be_sc A t = 0 ∧ be_oc A t = 0) := by
  obtain ⟨ps, rg, fl, sn, sV, sc, sv, oc, ov⟩ := A
  obtain ⟨p, q, _, _, _, _, _, h⟩ := h
  rcases h with h | h
  · exact Or.inl h
  · exact Or.inr ⟨h.2.1, h.2.2.1⟩
/-- r is 0 only if the first unsettled one has been sent back already -/
def be_R (m s r : Nat) (bf st : Nat → Int32) (A : be_A) : Prop := r = 16 ∨ (r = 0 ∧ (s < m → ¬ st s = 0 → be_Ag (be_sn A) (be_sV A) s (be_vb st (be_sc A) (be_sv A) bf s)))
def be_w (st ps : Nat → Int32) (t : Nat) : Nat := if st t = 0 then 15 else if st t = 1 then 14 - (ps t).toNatClampNeg else if st t = 2 then 1 else 0
theorem be_w0 {st ps : Nat → Int32} {t : Nat} (h : st t = 0) : be_w st ps t = 15 := if_pos h
theorem be_w1 {st ps : Nat → Int32} {t : Nat} (h : st t = 1) : be_w st ps t = 14 - (ps t).toNatClampNeg := by
  unfold be_w
  rw [h, if_neg (by decide), if_pos rfl]
theorem be_w2 {st ps : Nat → Int32} {t : Nat} (h : st t = 2) : be_w st ps t = 1 := by
  unfold be_w
  rw [h, if_neg (by decide), if_neg (by decide), if_pos rfl]
theorem be_w3 {st ps : Nat → Int32} {t : Nat} (h : st t = 3) : be_w st ps t = 0 := by
  unfold be_w
  rw [h, if_neg (by decide), if_neg (by decide), if_neg (by decide)]
theorem be_wb (st ps : Nat → Int32) (t : Nat) : be_w st ps t ≤ 15 := by
  unfold be_w
  split
  · omega
  split
  · omega
  split <;> omega
theorem be_we {st st' ps ps' : Nat → Int32} {t : Nat} (h1 : st' t = st t) (h2 : ps' t = ps t) : be_w st' ps' t = be_w st ps t := by
  unfold be_w
  rw [h1, h2]
def be_mu (m s r : Nat) (st ps : Nat → Int32) : Nat := be_sm (be_w st ps) m + 16 * (m - s) + r
def be_J (W m s r : Nat) (ln cO cP cN bf hd st : Nat → Int32) (A : be_A) : Prop := be_RI W m s ln cO cP cN bf hd st A ∧ be_R m s r bf st A ∧ be_G A
/-- what the building of a block keeps -/
def be_C (W m : Nat) (ln cO cP : Nat → Int32) : Prop := 1 ≤ W ∧ W ≤ 8 ∧ m ≤ 8 ∧ (∀ t, t < 8 → ∃ l, l ≤ 12 ∧ ln t = nI l) ∧ (∀ i, ∃ x, x < 16 ∧ cP i = nI x) ∧ (∀ i, ∃ o, o < 12 ∧ cO i = nI o)
/-! the four kinds of steps -/
theorem be_cA {W m s r : Nat} {ln cO cP cN bf hd st : Nat → Int32} {A : be_A} (hs : s < m) (J : be_J W m s r ln cO cP cN bf hd st A) (h2 : st s = 2) (hg : be_Ag (be_sn A) (be_sV A) s (be_vb st (be_sc A) (be_sv A) bf s)) : be_J W m (s + 1) 16 ln cO cP cN bf hd (upd st s 3) A ∧ be_mu m (s + 1) 16 (upd st s 3) (be_ps A) < be_mu m s r st (be_ps A) := by
  obtain ⟨⟨i1, i2, i3, i4, i5, i6, i7, i8⟩, _, G⟩ := J
  have h1 : ∀ v, v ≠ s → upd st s 3 v = st v := fun v hv => pk_un hv
  have hv : ∀ u, u ≤ s → be_vb (upd st s 3) (be_sc A) (be_sv A) bf u = be_vb st (be_sc A) (be_sv A) bf u := fun u hu => be_vbF hu h1 (fun v _ => be_eqr A v)
  refine ⟨⟨⟨by omega, fun u hu => ?_, fun u h h' => ?_, fun u hu => ?_, fun u hu hz => ?_, fun u hu hz => ?_, fun u hu hz => ?_, ?_⟩, Or.inl rfl, G⟩, ?_⟩
  · by_cases e : u = s
    · rw [e, pk_us]
    · rw [h1 u e]
      exact i2 u (by omega)
  · rw [h1 u (by omega)]
    exact i3 u (by omega) h'
  · rw [hv u (by omega)]
    by_cases e : u = s
    · rw [e]
      exact hg
    · exact i4 u (by omega)
  · by_cases e : u = s
    · rw [e]
      exact i5 s hs (by rw [h2]; decide)
    · rw [h1 u e] at hz
      exact i5 u hu hz
  · by_cases e : u = s
    · rw [e, pk_us] at hz
      exact absurd hz (by decide)
    · rw [h1 u e] at hz
      exact i6 u hu hz
  · by_cases e : u = s
    · rw [e]
      exact i7 s hs (Or.inl h2)
    · rw [h1 u e] at hz
      exact i7 u hu hz
  · exact be_hdS (s + 1) (by decide) (by rw [h2]; decide) (fun u hu hne => by omega) i8
  · have hsum := be_sm1 (f := be_w (upd st s 3) (be_ps A)) (g := be_w st (be_ps A)) m hs (fun i hi => be_we (h1 i hi) rfl)
    rw [be_w3 (st := upd st s 3) pk_us, be_w2 h2] at hsum
    unfold be_mu
    omega
theorem be_cB {W m s r : Nat} {ln cO cP cN bf hd st : Nat → Int32} {A : be_A} (hs : s < m) (J : be_J W m s r ln cO cP cN bf hd st A) (h2 : st s = 2) (hg : ¬ be_Ag (be_sn A) (be_sV A) s (be_vb st (be_sc A) (be_sv A) bf s)) : be_J W m s 0 ln cO cP cN bf hd (upd st s 0) A ∧ be_mu m s 0 (upd st s 0) (be_ps A) < be_mu m s r st (be_ps A) := by
  obtain ⟨I, R, G⟩ := J
  have h1 : ∀ v, v ≠ s → upd st s 0 v = st v := fun v hv => pk_un hv
  refine ⟨⟨?_, Or.inr ⟨rfl, fun _ q => absurd pk_us q⟩, G⟩, ?_⟩
  · exact be_RIt I (Nat.le_refl s) h1 (fun v _ => be_eqr A v) (Or.inl pk_us) (fun q => absurd pk_us q) (fun q => absurd (pk_us.symm.trans q) (by decide)) (fun q => absurd (pk_us.symm.trans q) (by decide)) (be_hdS s (by decide) (by rw [h2]; decide) (fun u hu _ => hu) I.2.2.2.2.2.2.2)
  · have hr : r = 16 := by
      rcases R with q | q
      · exact q
      · exact absurd (q.2 hs (by rw [h2]; decide)) hg
    have hsum := be_sm1 (f := be_w (upd st s 0) (be_ps A)) (g := be_w st (be_ps A)) m hs (fun i hi => be_we (h1 i hi) rfl)
    rw [be_w0 (st := upd st s 0) pk_us, be_w2 h2] at hsum
    unfold be_mu
    omega
theorem be_cC {W m s r t w : Nat} {ln cO cP cN bf hd st sv ov : Nat → Int32} {A A' : be_A} (C : be_C W m ln cO cP) (J : be_J W m s r ln cO cP cN bf hd st A) (hst : s ≤ t) (htm : t < m) (hw : w < W) (h0 : st t = 0) (hf : hd w = -1) (e1 : be_xs A' t = be_c0 sv ov) (e2 : be_sn A' t = 0) (e3 : ∀ v, v ≠ t → be_Eq A A' v) : be_J W m s r ln cO cP cN bf (upd hd w (nI t)) (upd st t 1) A' ∧ be_mu m s r (upd st t 1) (be_ps A') < be_mu m s r st (be_ps A) := by
  obtain ⟨I, R, G⟩ := J
  obtain ⟨_, hW, hm, _⟩ := C
  have h1 : ∀ v, v ≠ t → upd st t 1 v = st v := fun v hv => pk_un hv
  have ep : be_ps A' t = 0 := congrArg (fun s : be_S => s.1) e1
  refine ⟨⟨?_, ?_, ?_⟩, ?_⟩
  · exact be_RIt I hst h1 e3 (Or.inr (Or.inl pk_us)) (fun _ => be_hx0 e1) (fun _ => by rw [ep]; decide) (fun q => absurd (pk_us.symm.trans q) (by decide)) (be_hdT hW hm hw hst htm h0 hf I.2.2.2.2.2.2.2)
  · rcases R with q | ⟨q1, q2⟩
    · exact Or.inl q
    · refine Or.inr ⟨q1, fun hsm hz => ?_⟩
      by_cases e : s = t
      · intro c hc hb
        rw [e, e2, b_0] at hb
        exact absurd hb (by decide)
      · rw [be_vbF hst h1 e3]
        rw [h1 s e] at hz
        exact (be_agE (e3 s e) _).mpr (q2 hsm hz)
  · exact be_Gt G e3 (Or.inl (congrArg (fun s : be_S => s.2.2.1) e1))
  · have hsum := be_sm1 (f := be_w (upd st t 1) (be_ps A')) (g := be_w st (be_ps A)) m htm (fun i hi => be_we (h1 i hi) (be_eqps (e3 i hi)))
    rw [be_w1 (st := upd st t 1) pk_us, be_w0 h0] at hsum
    unfold be_mu
    omega
theorem be_cD {W m s r t : Nat} {ln cO cP cN bf hd hd' st st' : Nat → Int32} {A A' : be_A} {x : Int32} (C : be_C W m ln cO cP) (J : be_J W m s r ln cO cP cN bf hd st A) (hst : s ≤ t) (htm : t < m) (h0 : st t = 1) (hx : (x = 1 ∧ (be_ps A' t).toNatClampNeg ≤ 12 ∧ (be_ps A t).toNatClampNeg < (be_ps A' t).toNatClampNeg) ∨ (x = 2 ∧ ¬ be_ps A' t < ln t)) (e0 : st' = upd st t x) (e1 : be_Hx ln cO cP cN A' t) (e2 : be_Ag (be_sn A) (be_sV A) t (be_vb st (be_sc A) (be_sv A) bf t) → be_Ag (be_sn A') (be_sV A') t (be_vb st (be_sc A) (be_sv A) bf t)) (e3 : ∀ v, v ≠ t → be_Eq A A' v) (H : be_HD W m s hd' st') : be_J W m s r ln cO cP cN bf hd' st' A' ∧ be_mu m s r st' (be_ps A') < be_mu m s r st (be_ps A) := by
  subst e0
  obtain ⟨I, R, G⟩ := J
  obtain ⟨_, hW, hm, hl, _⟩ := C
  have hp := I.2.2.2.2.2.1 t htm h0
  have h1 : ∀ v, v ≠ t → upd st t x v = st v := fun v hv => pk_un hv
  have hs : upd st t x t = x := pk_us
  obtain ⟨l, hl12, hL⟩ := hl t (by omega)
  refine ⟨⟨?_, ?_, ?_⟩, ?_⟩
  · refine be_RIt I hst h1 e3 ?_ (fun _ => e1) (fun q => ?_) (fun q => ?_) H
    · rw [hs]
      rcases hx with q | q
      · exact Or.inr (Or.inl q.1)
      · exact Or.inr (Or.inr q.1)
    · rw [hs] at q
      rcases hx with q' | q'
      · exact q'.2.1
      · exact absurd (q'.1.symm.trans q) (by decide)
    · rw [hs] at q
      rcases hx with q' | q'
      · exact absurd (q'.1.symm.trans q) (by decide)
      · exact q'.2
  · rcases R with q | ⟨q1, q2⟩
    · exact Or.inl q
    · refine Or.inr ⟨q1, fun hsm hz => ?_⟩
      rw [be_vbF hst h1 e3]
      by_cases e : s = t
      · subst e
        exact e2 (q2 hsm (by rw [h0]; decide))
      · rw [h1 s e] at hz
        exact (be_agE (e3 s e) _).mpr (q2 hsm hz)
  · exact be_Gt G e3 (be_GB (be_hxB hL hl12 e1))
  · have hsum := be_sm1 (f := be_w (upd st t x) (be_ps A')) (g := be_w st (be_ps A)) m htm (fun i hi => be_we (h1 i hi) (be_eqps (e3 i hi)))
    rw [be_w1 h0] at hsum
    rcases hx with q | q
    · rw [be_w1 (st := upd st t x) (hs.trans q.1)] at hsum
      unfold be_mu
      omega
    · rw [be_w2 (st := upd st t x) (hs.trans q.1)] at hsum
      unfold be_mu
      omega
