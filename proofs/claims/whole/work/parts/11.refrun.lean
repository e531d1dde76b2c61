/-! the reference: carryOut and run -/
theorem be_itc (f : be_S → be_S) (s : be_S) : ∀ k, be_it f (k + 1) s = be_it f k (f s)
  | 0 => rfl
  | k + 1 => congrArg f (be_itc f s k)
theorem be_itH {f : be_S → be_S} {s : be_S} (h : f s = s) : ∀ k, be_it f k s = s
  | 0 => rfl
  | k + 1 => (congrArg f (be_itH h k)).trans h
theorem be_rd0 {sg sv : Nat → Int32} {c : Nat} : be_rd sg 0 sv c = sg c := by
  unfold be_rd
  rw [if_neg (by rw [b_0]; decide)]
/-- how the reference leaves a transaction whose machine ended in z -/
def be_YE (sg : Nat → Int32) (t : Nat) (z : be_S) (dn0 ce dn ou pu so : Nat → Int32) : Prop := match z with
  | (_, _, fl, bits, sv, oc, ov) => (∀ c, c < 16 → ce c = be_rd sg bits sv c) ∧ dn = upd dn0 t (if fl = 0 then 1 else 0) ∧ ou t = oc ∧ so t = bits ∧ (∀ k q, oc = nI q → q ≤ 12 → k < q → pu (12 * t + k) = ov k)
theorem be_y125 {yf_phase yf_count yf_position yf_failed : Int32} {ya_sizes ya_operations ya_places ya_numbers ya_done ya_outs ya_puts ya_stored ya_registers ya_before : Nat → Int32} {post : SY → Prop} {t : Nat} (ht : t < 8) (h : ∀ ce, (∀ c, c < 16 → ce c = ya_before c) → post (yf_phase, yf_count, yf_position, yf_failed, ce, ya_sizes, ya_operations, ya_places, ya_numbers, ya_done, upd ya_outs t 0, ya_puts, upd ya_stored t 0, ya_registers, ya_before)) : ∀ (d c : Nat) (ce : Nat → Int32), c + d = 16 → (∀ j, j < c → ce j = ya_before j) → wY_carryOut_125 post (nI t) yf_phase yf_count yf_position yf_failed (d + 1) (nI c) ce ya_sizes ya_operations ya_places ya_numbers ya_done ya_outs ya_puts ya_stored ya_registers ya_before := by
  have hi : vp_in (nI t) 8 := vp_in_nI ht (by omega)
  have ct : (nI t).toNatClampNeg = t := nI_clamp (by omega)
  intro d
  induction d with
  | zero =>
    intro c ce hd hu
    refine br_t (nI_le (a := 16) (by omega) (by omega)) ⟨hi, fun y1 e1 => ⟨hi, fun y2 e2 => ?_⟩⟩
    rw [e1, e2, ct]
    exact h ce (fun j hj => hu j (by omega))
  | succ d ih =>
    intro c ce hd hu
    have hic : vp_in (nI c) 16 := vp_in_nI (by omega) (by omega)
    refine br_f (nI_ge (b := 16) (by omega) (by omega)) ⟨hic, hic, fun y1 e1 y2 e2 => ?_⟩
    rw [e1, e2, nI_1, nI_clamp (n := c) (by omega)]
    refine ih (c + 1) _ (by omega) (lt_s (fun j hj => ?_) pk_us)
    rw [pk_un (by omega)]
    exact hu j hj
theorem be_y98 {yf_phase yf_count yf_position yf_failed : Int32} {ya_cells ya_sizes ya_operations ya_places ya_numbers ya_done ya_outs ya_puts ya_stored ya_registers ya_before : Nat → Int32} {post : SY → Prop} {sg : Nat → Int32} {L : Int32} {t : Nat} {z : be_S} (ht : t < 8) (R : be_YR sg L t z yf_position yf_failed ya_cells ya_outs ya_puts ya_stored ya_registers ya_before) (B : be_BI L z) (h : ∀ ce dn ou so, be_YE sg t z ya_done ce dn ou ya_puts so → be_YF t ya_outs ya_puts ya_stored ou ya_puts so → post (yf_phase, yf_count, yf_position, yf_failed, ce, ya_sizes, ya_operations, ya_places, ya_numbers, dn, ou, ya_puts, so, ya_registers, ya_before)) : wY_carryOut_98 post (nI t) yf_phase yf_count yf_position yf_failed ya_cells ya_sizes ya_operations ya_places ya_numbers ya_done ya_outs ya_puts ya_stored ya_registers ya_before := by
  obtain ⟨pos, reg, fl, bits, sv, oc, ov⟩ := z
  obtain ⟨ff0, rb, R⟩ := R
  obtain ⟨p, q, hp, hq, hqp, hq12, hp13, hf⟩ := B
  have hi : vp_in (nI t) 8 := vp_in_nI ht (by omega)
  have ct : (nI t).toNatClampNeg = t := nI_clamp (by omega)
  by_cases zf : fl = 0
  · obtain ⟨_, rr, rc, rs, ro, ru⟩ := R zf
    have zf' : yf_failed = 0 := ff0.trans zf
    refine br_t zf' ⟨hi, fun dn edn => br_t zf' ?_⟩
    refine h _ _ _ _ ⟨rc, ?_, ro, rs, ru⟩ (be_yfr _ _ _ _)
    rw [edn, ct, be_b1, if_pos zf]
  · have hf' : fl = 1 ∧ bits = 0 ∧ oc = 0 ∧ ¬ pos < L := by
      rcases hf with g | g
      · exact absurd g zf
      · exact g
    have zf' : ¬ yf_failed = 0 := fun g => zf (ff0.symm.trans g)
    refine br_f zf' ⟨hi, fun dn edn => br_f zf' ⟨17, be_y125 ht (fun ce hce => ?_) 16 0 _ rfl (fun j hj => absurd hj (Nat.not_lt_zero j))⟩⟩
    refine h _ _ _ _ ⟨fun c hc => ?_, ?_, ?_, ?_, fun k q' e _ hk => ?_⟩ (fun u hu => ⟨pk_un hu, pk_un hu, rfl⟩)
    · rw [hf'.2.1, be_rd0, hce c hc, rb c hc]
    · rw [edn, ct, be_b0, if_neg zf]
    · rw [pk_us, hf'.2.2.1]
    · rw [pk_us, hf'.2.1]
    · rw [hf'.2.2.1, ← nI_0, nI_eq (by omega) (by omega)] at e
      omega
theorem be_y70 {yf_phase yf_count : Int32} {ya_sizes ya_operations ya_places ya_numbers ya_done ya_outs ya_puts ya_stored ya_before : Nat → Int32} {post : SY → Prop} {sg : Nat → Int32} {t l : Nat} {z : be_S} (ht : t < 8) (hL : ya_sizes t = nI l) (hl : l ≤ 12) (hP : ∀ i, ∃ x, x < 16 ∧ ya_places i = nI x) (hO : ∀ i, ∃ o, o < 12 ∧ ya_operations i = nI o) (hz : ¬ z.1 < ya_sizes t) (h : ∀ (fp ff : Int32) (ce dn ou pu so rg : Nat → Int32), be_YE sg t z ya_done ce dn ou pu so → be_YF t ya_outs ya_puts ya_stored ou pu so → post (yf_phase, yf_count, fp, ff, ce, ya_sizes, ya_operations, ya_places, ya_numbers, dn, ou, pu, so, rg, ya_before)) : ∀ (d : Nat) (s : be_S) (fp ff : Int32) (ce ou pu so rg : Nat → Int32), be_it (be_ms sg ya_sizes ya_operations ya_places ya_numbers t) d s = z → be_YR sg (ya_sizes t) t s fp ff ce ou pu so rg ya_before → be_BI (ya_sizes t) s → be_YF t ya_outs ya_puts ya_stored ou pu so → wY_carryOut_70 post (nI t) (d + 1) yf_phase yf_count fp ff ce ya_sizes ya_operations ya_places ya_numbers ya_done ou pu so rg ya_before := by
  have hi : vp_in (nI t) 8 := vp_in_nI ht (by omega)
  have ct : (nI t).toNatClampNeg = t := nI_clamp (by omega)
  have ex : ∀ (n : Nat) (fp ff : Int32) (ce ou pu so rg : Nat → Int32), be_YR sg (ya_sizes t) t z fp ff ce ou pu so rg ya_before → be_BI (ya_sizes t) z → be_YF t ya_outs ya_puts ya_stored ou pu so → wY_carryOut_70 post (nI t) (n + 1) yf_phase yf_count fp ff ce ya_sizes ya_operations ya_places ya_numbers ya_done ou pu so rg ya_before := by
    intro n fp ff ce ou pu so rg R B F
    have h98 := be_y98 (yf_phase := yf_phase) (yf_count := yf_count) (ya_sizes := ya_sizes) (ya_operations := ya_operations) (ya_places := ya_places) (ya_numbers := ya_numbers) (ya_done := ya_done) (post := post) ht R B (fun ce' dn' ou' so' E F' => h fp ff ce' dn' ou' pu so' rg E (be_yft F F'))
    refine ⟨hi, ?_⟩
    rw [ct]
    by_cases q : ya_sizes t ≤ fp
    · exact br_t q h98
    · refine br_f q (br_f (fun g => ?_) h98)
      obtain ⟨pos, reg, fl, bits, sv, oc, ov⟩ := z
      obtain ⟨ff0, _, R⟩ := R
      rcases (R (ff0.symm.trans g)).1 with e | e
      · exact q (Int32.not_lt.mp (by rw [e]; exact hz))
      · exact q (Int32.not_lt.mp e.1)
  intro d
  induction d with
  | zero =>
    intro s fp ff ce ou pu so rg e R B F
    have e' : s = z := e
    subst e'
    exact ex 0 fp ff ce ou pu so rg R B F
  | succ d ih =>
    intro s fp ff ce ou pu so rg e R B F
    by_cases zs : s.1 < ya_sizes t
    · rw [be_itc] at e
      have em : be_ms sg ya_sizes ya_operations ya_places ya_numbers t s = be_in sg ya_sizes ya_operations ya_places ya_numbers t s := if_pos zs
      have B' := be_biM (sg := sg) (cO := ya_operations) (cP := ya_places) (cN := ya_numbers) hL hl B
      rw [em] at e B'
      obtain ⟨pos, reg, fl, bits, sv, oc, ov⟩ := s
      obtain ⟨p, q, hp, hq, hqp, hq12, hp13, hf⟩ := B
      have hf0 : fl = 0 := by
        rcases hf with g | g
        · exact g
        · exact absurd zs g.2.2.2
      subst hf0
      have hpl : p < l := by
        have g : pos < ya_sizes t := zs
        rw [hp, hL, nI_ltI (by omega) (by omega)] at g
        exact g
      have efp : fp = pos := by
        rcases (R.2.2 rfl).1 with g | g
        · exact g
        · exact absurd zs g.2
      obtain ⟨x, hx, ex⟩ := hP (12 * t + p)
      obtain ⟨o, ho, eo⟩ := hO (12 * t + p)
      refine ⟨hi, ?_⟩
      rw [ct]
      refine br_f (Int32.not_le.mpr (by rw [efp]; exact zs)) (br_t R.1 ?_)
      refine be_ys ht hL hl hp hpl hq hqp hx ex ho eo R (fun fp' ff' ce' ou' pu' so' rg' R' F' => ?_)
      exact ih _ fp' ff' ce' ou' pu' so' rg' e R' B' (be_yft F F')
    · have em : be_ms sg ya_sizes ya_operations ya_places ya_numbers t s = s := if_neg zs
      rw [be_itH em] at e
      subst e
      exact ex (d + 1) fp ff ce ou pu so rg R B F
theorem be_y28 {yf_phase yf_count yf_position yf_failed : Int32} {ya_cells ya_sizes ya_operations ya_places ya_numbers ya_done ya_outs ya_puts ya_stored ya_before : Nat → Int32} {post : SY → Prop} {t : Nat} (ht : t < 8) (h : ∀ rg, (∀ r, r < 4 → rg r = 0) → ∃ n, wY_carryOut_70 post (nI t) n yf_phase yf_count 0 0 ya_cells ya_sizes ya_operations ya_places ya_numbers ya_done (upd ya_outs t 0) ya_puts (upd ya_stored t 0) rg ya_before) : ∀ (d r : Nat) (rg : Nat → Int32), r + d = 4 → (∀ j, j < r → rg j = 0) → wY_carryOut_28 post (nI t) yf_phase yf_count yf_position yf_failed (d + 1) (nI r) ya_cells ya_sizes ya_operations ya_places ya_numbers ya_done ya_outs ya_puts ya_stored rg ya_before := by
  have hi : vp_in (nI t) 8 := vp_in_nI ht (by omega)
  have ct : (nI t).toNatClampNeg = t := nI_clamp (by omega)
  intro d
  induction d with
  | zero =>
    intro r rg hd hu
    refine br_t (nI_le (a := 4) (by omega) (by omega)) ⟨hi, fun y1 e1 => ⟨hi, fun y2 e2 => ?_⟩⟩
    rw [e1, e2, ct]
    exact h rg (fun j hj => hu j (by omega))
  | succ d ih =>
    intro r rg hd hu
    refine br_f (nI_ge (b := 4) (by omega) (by omega)) ⟨vp_in_nI (by omega) (by omega), fun y1 e1 y2 e2 => ?_⟩
    rw [e1, e2, nI_1, nI_clamp (n := r) (by omega)]
    refine ih (r + 1) _ (by omega) (lt_s (fun j hj => ?_) pk_us)
    rw [pk_un (by omega)]
    exact hu j hj
theorem be_y2 {yf_phase yf_count yf_position yf_failed : Int32} {ya_cells ya_sizes ya_operations ya_places ya_numbers ya_done ya_outs ya_puts ya_stored ya_registers : Nat → Int32} {post : SY → Prop} {t : Nat} (h : ∀ bf, (∀ c, c < 16 → bf c = ya_cells c) → ∃ n, wY_carryOut_28 post (nI t) yf_phase yf_count yf_position yf_failed n 0 ya_cells ya_sizes ya_operations ya_places ya_numbers ya_done ya_outs ya_puts ya_stored ya_registers bf) : ∀ (d c : Nat) (bf : Nat → Int32), c + d = 16 → (∀ j, j < c → bf j = ya_cells j) → wY_carryOut_2 post (nI t) yf_phase yf_count yf_position yf_failed (d + 1) (nI c) ya_cells ya_sizes ya_operations ya_places ya_numbers ya_done ya_outs ya_puts ya_stored ya_registers bf := by
  intro d
  induction d with
  | zero =>
    intro c bf hd hu
    exact br_t (nI_le (a := 16) (by omega) (by omega)) (h bf (fun j hj => hu j (by omega)))
  | succ d ih =>
    intro c bf hd hu
    have hic : vp_in (nI c) 16 := vp_in_nI (by omega) (by omega)
    refine br_f (nI_ge (b := 16) (by omega) (by omega)) ⟨hic, hic, fun y1 e1 y2 e2 => ?_⟩
    rw [e1, e2, nI_1, nI_clamp (n := c) (by omega)]
    refine ih (c + 1) _ (by omega) (lt_s (fun j hj => ?_) pk_us)
    rw [pk_un (by omega)]
    exact hu j hj
theorem be_yco {yf_phase yf_count yf_position yf_failed : Int32} {ya_cells ya_sizes ya_operations ya_places ya_numbers ya_done ya_outs ya_puts ya_stored ya_registers ya_before : Nat → Int32} {post : SY → Prop} {sg sv0 ov0 : Nat → Int32} {t l k : Nat} {z : be_S} (ht : t < 8) (hL : ya_sizes t = nI l) (hl : l ≤ 12) (hP : ∀ i, ∃ x, x < 16 ∧ ya_places i = nI x) (hO : ∀ i, ∃ o, o < 12 ∧ ya_operations i = nI o) (hc : ∀ c, c < 16 → ya_cells c = sg c) (hz : ¬ z.1 < ya_sizes t) (e : be_it (be_ms sg ya_sizes ya_operations ya_places ya_numbers t) k (be_c0 sv0 ov0) = z) (h : ∀ (fp ff : Int32) (ce dn ou pu so rg bf : Nat → Int32), be_YE sg t z ya_done ce dn ou pu so → be_YF t ya_outs ya_puts ya_stored ou pu so → post (yf_phase, yf_count, fp, ff, ce, ya_sizes, ya_operations, ya_places, ya_numbers, dn, ou, pu, so, rg, bf)) : wpY_carryOut post (yf_phase, yf_count, yf_position, yf_failed, ya_cells, ya_sizes, ya_operations, ya_places, ya_numbers, ya_done, ya_outs, ya_puts, ya_stored, ya_registers, ya_before) (nI t) := by
  refine ⟨17, be_y2 (fun bf hb => ⟨5, be_y28 ht (fun rg hr => ⟨k + 1, ?_⟩) 4 0 _ rfl (fun j hj => absurd hj (Nat.not_lt_zero j))⟩) 16 0 _ rfl (fun j hj => absurd hj (Nat.not_lt_zero j))⟩
  refine be_y70 (ya_outs := upd ya_outs t 0) (ya_puts := ya_puts) (ya_stored := upd ya_stored t 0) ht hL hl hP hO hz (fun fp ff ce dn ou pu so rg' E F => h fp ff ce dn ou pu so rg' bf E (be_yft (fun u hu => ⟨pk_un hu, pk_un hu, rfl⟩) F)) k (be_c0 sv0 ov0) 0 0 _ _ _ _ _ e ?_ (be_bi0 _ _ _) (be_yfr _ _ _ _)
  refine ⟨rfl, fun c hc' => (hb c hc').trans (hc c hc'), fun _ => ⟨Or.inl rfl, hr, fun c hc' => ?_, pk_us, pk_us, fun k q e' _ hk => ?_⟩⟩
  · rw [be_rd0]
    exact hc c hc'
  · rw [← nI_0, nI_eq (by omega) (by omega)] at e'
    omega
/-- the reference's answers on transaction u are the component's -/
def be_YM (fl sc oc ov dn ou pu so : Nat → Int32) (u : Nat) : Prop := dn u = (if fl u = 0 then 1 else 0) ∧ ou u = oc u ∧ so u = sc u ∧ (∀ k q, oc u = nI q → q ≤ 12 → k < q → pu (12 * u + k) = ov (12 * u + k))
theorem be_y15 {yf_phase yf_count : Int32} {ya_sizes ya_operations ya_places ya_numbers : Nat → Int32} {post : Int32 → SY → Prop} {st bf ps rg fl sn sV sc sv oc ov : Nat → Int32} {m : Nat} (hm : m ≤ 8) (hc : yf_count = nI m) (hl : ∀ t, t < 8 → ∃ l, l ≤ 12 ∧ ya_sizes t = nI l) (hP : ∀ i, ∃ x, x < 16 ∧ ya_places i = nI x) (hO : ∀ i, ∃ o, o < 12 ∧ ya_operations i = nI o) (h3 : ∀ t, t < m → st t = 3) (hz : ∀ t, t < m → ¬ ps t < ya_sizes t) (hx : ∀ t, t < m → ∃ (k : Nat) (sv0 ov0 : Nat → Int32), be_xs (ps, rg, fl, sn, sV, sc, sv, oc, ov) t = be_it (be_ms (be_vb st sc sv bf t) ya_sizes ya_operations ya_places ya_numbers t) k (be_c0 sv0 ov0)) (h : ∀ (fp ff : Int32) (ce dn ou pu so yr yb : Nat → Int32), (∀ c, c < 16 → ce c = be_vb st sc sv bf m c) → (∀ u, u < m → be_YM fl sc oc ov dn ou pu so u) → post (be_cd fl m) (2, yf_count, fp, ff, ce, ya_sizes, ya_operations, ya_places, ya_numbers, dn, ou, pu, so, yr, yb)) : ∀ (d t : Nat) (fp ff : Int32) (ce dn ou pu so yr yb : Nat → Int32), t + d = m → (∀ c, c < 16 → ce c = be_vb st sc sv bf t c) → (∀ u, u < t → be_YM fl sc oc ov dn ou pu so u) → wY_run_15 post (d + 1) (be_cd fl t) (nI t) yf_phase yf_count fp ff ce ya_sizes ya_operations ya_places ya_numbers dn ou pu so yr yb := by
  subst hc
  intro d
  induction d with
  | zero =>
    intro t fp ff ce dn ou pu so yr yb hd hce hM
    have e : t = m := by omega
    subst e
    exact br_t (nI_le (by omega) (by omega)) (h fp ff ce dn ou pu so yr yb hce hM)
  | succ d ih =>
    intro t fp ff ce dn ou pu so yr yb hd hce hM
    have ht : t < 8 := by omega
    have htm : t < m := by omega
    have ct : (nI t).toNatClampNeg = t := nI_clamp (by omega)
    obtain ⟨l, hl12, hL⟩ := hl t ht
    obtain ⟨k, sv0, ov0, ek⟩ := hx t htm
    refine br_f (nI_ge (by omega) (by omega)) (be_yco ht hL hl12 hP hO hce (hz t htm) ek.symm ?_)
    intro fp' ff' ce' dn' ou' pu' so' yr' yb' E F
    obtain ⟨E1, E2, E3, E4, E5⟩ := E
    have hce' : ∀ c, c < 16 → ce' c = be_vb st sc sv bf (t + 1) c := fun c hc => by
      rw [E1 c hc]
      show _ = if ¬ st t < 2 then be_rd (be_vb st sc sv bf t) (sc t) (be_sl sv 16 t) c else be_vb st sc sv bf t c
      rw [if_pos (by rw [h3 t htm]; decide)]
    have hM' : ∀ u, u < t + 1 → be_YM fl sc oc ov dn' ou' pu' so' u := by
      refine lt_s (fun u hu => ?_) ?_
      · obtain ⟨m1, m2, m3, m4⟩ := hM u hu
        have hne : u ≠ t := by omega
        obtain ⟨f1, f2, f3⟩ := F u hne
        refine ⟨?_, f1.trans m2, f2.trans m3, fun k q e hq hk => ?_⟩
        · rw [E2, pk_un hne]
          exact m1
        · rw [← m4 k q e hq hk, ← be_sla (a := pu') (w := 12) (by omega), ← be_sla (a := pu) (w := 12) (by omega), f3]
      · refine ⟨?_, E3, E4, fun k q e hq hk => ?_⟩
        · rw [E2, pk_us]
        · rw [E5 k q e hq hk]
          exact be_sla (by omega)
    have ih' := ih (t + 1) fp' ff' ce' dn' ou' pu' so' yr' yb' (by omega) hce' hM'
    have ed : dn' t = if fl t = 0 then 1 else 0 := by rw [E2, pk_us]
    refine ⟨vp_in_nI ht (by omega), ?_⟩
    rw [ct]
    by_cases z : fl t = 0
    · rw [if_pos z] at ed
      have e : be_cd fl (t + 1) = be_cd fl t + 1 := if_pos z
      rw [e] at ih'
      refine br_f (by rw [ed]; decide) fun y ey y2 e2 => ?_
      rw [ey, e2, nI_1 t]
      exact ih'
    · rw [if_neg z] at ed
      have e : be_cd fl (t + 1) = be_cd fl t := if_neg z
      rw [e] at ih'
      refine br_t ed fun y ey => ?_
      rw [ey, nI_1 t]
      exact ih'
