theorem i_vc_begin {k : Nat} {u : SX} {v : SY} (I : i_Rel k u v) (hk : k + 4 ≤ 2049) : wpX_begin (fun r u' => wpY_begin (fun r' v' => r' = r ∧ i_Rel (k + 4) u' v') v) u := by
  obtain ⟨f_workers, f_stage, f_count, f_settled, f_turn, a_store, a_length, a_codeOperation, a_codePlaces, a_codeNumber, a_before, a_held, a_state, a_position, a_registers, a_failed, a_seenCells, a_seenValues, a_storedCells, a_storedValues, a_outCount, a_outValues⟩ := u
  obtain ⟨yf_phase, yf_count, yf_position, yf_failed, ya_cells, ya_sizes, ya_operations, ya_places, ya_numbers, ya_done, ya_outs, ya_puts, ya_stored, ya_registers, ya_before⟩ := v
  have I0 := I
  obtain ⟨W, m, rfl, rfl, rfl, rfl, rfl, rfl, rfl, rfl, C, hce, G, hst⟩ := I
  unfold wpX_begin wpY_begin
  dsimp only
  have hm8 : m ≤ 8 := C.2.2.1
  rcases hst with rfl | ⟨rfl, _, _⟩ | ⟨rfl, _⟩
  · refine br_t rfl ?_
    by_cases hm : m < 8
    · have hi : vp_in (nI m) 8 := vp_in_nI hm (by omega)
      refine br_t (nI_lt (b := 8) hm (by omega)) ⟨hi, fun y1 e1 y2 e2 => ?_⟩
      refine be_yr0 rfl (br_t (by decide) (br_f (fun e => ?_) ⟨hi, fun z1 f1 z2 f2 => ?_⟩))
      · have e' := (nI_eq (b := 8) (by omega) (by omega)).mp e
        omega
      · rw [nI_clamp (n := m) (by omega)] at e1 f1
        subst e1 e2 f1 f2
        exact ⟨rfl, W, m + 1, rfl, nI_1 m, nI_1 m, rfl, rfl, rfl, rfl, rfl, ⟨C.1, C.2.1, by omega, be_lnU (l := 0) C.2.2.2.1 (by omega), C.2.2.2.2⟩, hce, G, Or.inl rfl⟩
    · have e : m = 8 := by omega
      subst e
      exact br_f (by decide) (be_yr0 rfl (br_t (by decide) (br_t rfl ⟨rfl, I0⟩)))
  · exact br_f (by decide) (be_xr1 rfl (be_yr1 rfl (br_f (by decide) (be_yr1 rfl ⟨rfl, I0⟩))))
  · exact br_f (by decide) (be_xr2 rfl (be_yr2 rfl (br_f (by decide) (be_yr2 rfl ⟨rfl, I0⟩))))
theorem i_vc_add {k : Nat} {u : SX} {v : SY} (I : i_Rel k u v) (hk : k + 4 ≤ 2049) (v1 : Int32) (v2 : Int32) (v3 : Int32) : wpX_add (fun r u' => wpY_add (fun r' v' => r' = r ∧ i_Rel (k + 4) u' v') v v1 v2 v3) u v1 v2 v3 := by
  obtain ⟨f_workers, f_stage, f_count, f_settled, f_turn, a_store, a_length, a_codeOperation, a_codePlaces, a_codeNumber, a_before, a_held, a_state, a_position, a_registers, a_failed, a_seenCells, a_seenValues, a_storedCells, a_storedValues, a_outCount, a_outValues⟩ := u
  obtain ⟨yf_phase, yf_count, yf_position, yf_failed, ya_cells, ya_sizes, ya_operations, ya_places, ya_numbers, ya_done, ya_outs, ya_puts, ya_stored, ya_registers, ya_before⟩ := v
  have I0 := I
  obtain ⟨W, m, rfl, rfl, rfl, rfl, rfl, rfl, rfl, rfl, C, hce, G, hst⟩ := I
  unfold wpX_add wpY_add
  dsimp only
  have hm8 : m ≤ 8 := C.2.2.1
  rcases hst with rfl | ⟨rfl, _, _⟩ | ⟨rfl, _⟩
  · refine br_t rfl ?_
    by_cases h1 : v1 < 0
    · exact br_t h1 (be_yr0 rfl (br_t (by decide) (br_t h1 ⟨rfl, I0⟩)))
    by_cases h2 : 11 < v1
    · exact br_f h1 (br_t h2 (be_yr0 rfl (br_t (by decide) (br_f h1 (br_t h2 ⟨rfl, I0⟩)))))
    by_cases h3 : v2 < 0
    · exact br_f h1 (br_f h2 (br_t h3 (be_yr0 rfl (br_t (by decide) (br_f h1 (br_f h2 (br_t h3 ⟨rfl, I0⟩)))))))
    obtain ⟨o, ho, rfl⟩ := nI_of h1
    obtain ⟨x, hx, rfl⟩ := nI_of h3
    have ho2 : o < 12 := by
      have g : ¬ 11 < o := fun g => h2 (nI_lt (a := 11) g ho)
      omega
    by_cases h4 : x < 16
    · have h4a : nI x < 16 := nI_lt (b := 16) h4 (by omega)
      have h4b : nI x ≤ 15 := nI_le (b := 15) (by omega) (by omega)
      by_cases hm : m = 0
      · subst hm
        exact br_f h1 (br_f h2 (br_f h3 (br_t h4a (br_t rfl (be_yr0 rfl (br_t (by decide) (br_f h1 (br_f h2 (br_f h3 (br_t h4b (br_t rfl ⟨rfl, I0⟩)))))))))))
      · obtain ⟨t, rfl⟩ : ∃ t, m = t + 1 := ⟨m - 1, by omega⟩
        have hz : ¬ nI (t + 1) = 0 := nI_ne0 (by omega) (by omega)
        have hi : vp_in (nI t) 8 := vp_in_nI (by omega) (by omega)
        have ct : (nI t).toNatClampNeg = t := nI_clamp (by omega)
        obtain ⟨l, hl, eL⟩ := C.2.2.2.1 t (by omega)
        refine br_f h1 (br_f h2 (br_f h3 (br_t h4a (br_f hz fun x4 e4 => ?_))))
        rw [nI_pred] at e4
        subst e4
        refine ⟨hi, fun x5 e5 => ?_⟩
        rw [ct, eL] at e5
        subst e5
        by_cases h12 : l < 12
        · have e6 : nI t * 12 + nI l = nI (12 * t + l) := be_ix 12 t l
          have e6y : 12 * nI t + nI l = nI (12 * t + l) := be_iy 12 t l
          have i6 : vp_in (nI (12 * t + l)) 96 := vp_in_nI (by omega) (by omega)
          have c6 : (nI (12 * t + l)).toNatClampNeg = 12 * t + l := nI_clamp (by omega)
          refine br_t (nI_lt (b := 12) h12 (by omega)) fun x6 f6 => ?_
          rw [e6] at f6
          subst f6
          refine ⟨i6, fun y1 g1 => ⟨i6, fun y2 g2 => ⟨i6, fun y3 g3 => ⟨hi, fun y4 g4 => ?_⟩⟩⟩⟩
          rw [c6] at g1 g2 g3
          rw [ct, nI_1] at g4
          subst g1 g2 g3 g4
          refine be_yr0 rfl (br_t (by decide) (br_f h1 (br_f h2 (br_f h3 (br_t h4b (br_f hz fun x4 e4 => ?_))))))
          rw [nI_pred] at e4
          subst e4
          refine ⟨hi, br_f (fun e => ?_) ⟨hi, fun x5 e5 => ?_⟩⟩
          · rw [ct, eL] at e
            have e' := (nI_eq (b := 12) (by omega) (by omega)).mp e
            omega
          · rw [ct, eL, e6y] at e5
            subst e5
            refine ⟨i6, fun y1 g1 => ⟨i6, fun y2 g2 => ⟨i6, fun y3 g3 => ⟨hi, hi, fun y4 g4 => ⟨hi, ?_⟩⟩⟩⟩⟩
            rw [c6] at g1 g2 g3
            rw [ct, eL, nI_1] at g4
            subst g1 g2 g3 g4
            rw [ct, pk_us, nI_pred]
            exact ⟨rfl, W, t + 1, rfl, rfl, rfl, rfl, rfl, rfl, rfl, rfl, ⟨C.1, C.2.1, hm8, be_lnU C.2.2.2.1 (by omega), be_cU C.2.2.2.2.1 h4, be_cU C.2.2.2.2.2 ho2⟩, hce, G, Or.inl rfl⟩
        · have e12 : l = 12 := by omega
          subst e12
          refine br_f (by decide) (be_yr0 rfl (br_t (by decide) (br_f h1 (br_f h2 (br_f h3 (br_t h4b (br_f hz fun x4 e4 => ?_)))))))
          rw [nI_pred] at e4
          subst e4
          refine ⟨hi, br_t ?_ ⟨rfl, I0⟩⟩
          rw [ct, eL]
          rfl
    · have h4a : ¬ nI x < 16 := nI_nlt (b := 16) (by omega) hx
      have h4b : ¬ nI x ≤ 15 := nI_ge (a := 15) (by omega) hx
      exact br_f h1 (br_f h2 (br_f h3 (br_f h4a (be_yr0 rfl (br_t (by decide) (br_f h1 (br_f h2 (br_f h3 (br_f h4b ⟨rfl, I0⟩)))))))))
  · exact br_f (by decide) (be_xr1 rfl (be_yr1 rfl (br_f (by decide) (be_yr1 rfl ⟨rfl, I0⟩))))
  · exact br_f (by decide) (be_xr2 rfl (be_yr2 rfl (br_f (by decide) (be_yr2 rfl ⟨rfl, I0⟩))))
theorem i_vc_phase {k : Nat} {u : SX} {v : SY} (I : i_Rel k u v) (hk : k + 4 ≤ 2049) : wpX_phase (fun r => wpY_phase (fun r' => r' = r ∧ i_Rel (k + 4) u v) v) u := by
  obtain ⟨f_workers, f_stage, f_count, f_settled, f_turn, a_store, a_length, a_codeOperation, a_codePlaces, a_codeNumber, a_before, a_held, a_state, a_position, a_registers, a_failed, a_seenCells, a_seenValues, a_storedCells, a_storedValues, a_outCount, a_outValues⟩ := u
  obtain ⟨yf_phase, yf_count, yf_position, yf_failed, ya_cells, ya_sizes, ya_operations, ya_places, ya_numbers, ya_done, ya_outs, ya_puts, ya_stored, ya_registers, ya_before⟩ := v
  have I0 := I
  obtain ⟨W, m, rfl, rfl, rfl, rfl, rfl, rfl, rfl, rfl, C, hce, G, hst⟩ := I
  exact ⟨rfl, I0⟩
theorem i_vc_transactions {k : Nat} {u : SX} {v : SY} (I : i_Rel k u v) (hk : k + 4 ≤ 2049) : wpX_transactions (fun r => wpY_transactions (fun r' => r' = r ∧ i_Rel (k + 4) u v) v) u := by
  obtain ⟨f_workers, f_stage, f_count, f_settled, f_turn, a_store, a_length, a_codeOperation, a_codePlaces, a_codeNumber, a_before, a_held, a_state, a_position, a_registers, a_failed, a_seenCells, a_seenValues, a_storedCells, a_storedValues, a_outCount, a_outValues⟩ := u
  obtain ⟨yf_phase, yf_count, yf_position, yf_failed, ya_cells, ya_sizes, ya_operations, ya_places, ya_numbers, ya_done, ya_outs, ya_puts, ya_stored, ya_registers, ya_before⟩ := v
  have I0 := I
  obtain ⟨W, m, rfl, rfl, rfl, rfl, rfl, rfl, rfl, rfl, C, hce, G, hst⟩ := I
  exact ⟨rfl, I0⟩
theorem i_vc_next {k : Nat} {u : SX} {v : SY} (I : i_Rel k u v) (hk : k + 4 ≤ 2049) : wpX_next (fun r u' => wpY_next (fun r' v' => r' = r ∧ i_Rel (k + 4) u' v') v) u := by
  obtain ⟨f_workers, f_stage, f_count, f_settled, f_turn, a_store, a_length, a_codeOperation, a_codePlaces, a_codeNumber, a_before, a_held, a_state, a_position, a_registers, a_failed, a_seenCells, a_seenValues, a_storedCells, a_storedValues, a_outCount, a_outValues⟩ := u
  obtain ⟨yf_phase, yf_count, yf_position, yf_failed, ya_cells, ya_sizes, ya_operations, ya_places, ya_numbers, ya_done, ya_outs, ya_puts, ya_stored, ya_registers, ya_before⟩ := v
  have I0 := I
  obtain ⟨W, m, rfl, rfl, rfl, rfl, rfl, rfl, rfl, rfl, C, hce, G, hst⟩ := I
  by_cases h1 : f_stage = 1
  · exact br_t h1 (br_t h1 ⟨rfl, I0⟩)
  · exact br_f h1 (br_f h1 ⟨rfl, W, 0, rfl, rfl, rfl, rfl, rfl, rfl, rfl, rfl, ⟨C.1, C.2.1, by omega, C.2.2.2⟩, hce, G, Or.inl rfl⟩)
theorem i_vc_undo {k : Nat} {u : SX} {v : SY} (I : i_Rel k u v) (hk : k + 4 ≤ 2049) : wpX_undo (fun r u' => wpY_undo (fun r' v' => r' = r ∧ i_Rel (k + 4) u' v') v) u := by
  obtain ⟨f_workers, f_stage, f_count, f_settled, f_turn, a_store, a_length, a_codeOperation, a_codePlaces, a_codeNumber, a_before, a_held, a_state, a_position, a_registers, a_failed, a_seenCells, a_seenValues, a_storedCells, a_storedValues, a_outCount, a_outValues⟩ := u
  obtain ⟨yf_phase, yf_count, yf_position, yf_failed, ya_cells, ya_sizes, ya_operations, ya_places, ya_numbers, ya_done, ya_outs, ya_puts, ya_stored, ya_registers, ya_before⟩ := v
  have I0 := I
  obtain ⟨W, m, rfl, rfl, rfl, rfl, rfl, rfl, rfl, rfl, C, hce, G, hst⟩ := I
  unfold wpX_undo wpY_undo
  dsimp only
  have hm8 : m ≤ 8 := C.2.2.1
  rcases hst with rfl | ⟨rfl, _, _⟩ | ⟨rfl, _⟩
  · refine br_t rfl ?_
    by_cases hm : m = 0
    · subst hm
      exact br_t rfl (be_yr0 rfl (br_t (by decide) (br_t rfl ⟨rfl, I0⟩)))
    · obtain ⟨t, rfl⟩ : ∃ t, m = t + 1 := ⟨m - 1, by omega⟩
      have hz : ¬ nI (t + 1) = 0 := nI_ne0 (by omega) (by omega)
      have hi : vp_in (nI (t + 1) - 1) 8 := by rw [nI_pred]; exact vp_in_nI (by omega) (by omega)
      have ct : (nI (t + 1) - 1).toNatClampNeg = t := by rw [nI_pred]; exact nI_clamp (by omega)
      obtain ⟨l, hl, eL⟩ := C.2.2.2.1 t (by omega)
      by_cases h0 : l = 0
      · have hle : a_length (nI (t + 1) - 1).toNatClampNeg ≤ 0 := by rw [ct, eL, h0]; decide
        have C' : be_C W t a_length a_codeOperation a_codePlaces := ⟨C.1, C.2.1, by omega, C.2.2.2⟩
        refine br_f hz ⟨hi, br_t hle fun y1 e1 => ?_⟩
        rw [nI_pred] at e1
        subst e1
        by_cases ht0 : t = 0
        · subst ht0
          refine br_t rfl (be_yr0 rfl (br_t (by decide) (br_f hz ⟨hi, br_t hle fun z1 f1 => ?_⟩)))
          rw [nI_pred] at f1
          subst f1
          exact br_t rfl ⟨rfl, W, 0, rfl, rfl, rfl, rfl, rfl, rfl, rfl, rfl, C', hce, G, Or.inl rfl⟩
        · have hz' : ¬ nI t = 0 := nI_ne0 (by omega) (by omega)
          have hi' : vp_in (nI t - 1) 8 := by
            obtain ⟨t', rfl⟩ : ∃ t', t = t' + 1 := ⟨t - 1, by omega⟩
            rw [nI_pred]
            exact vp_in_nI (by omega) (by omega)
          refine br_f hz' ⟨hi', be_yr0 rfl (br_t (by decide) (br_f hz ⟨hi, br_t hle fun z1 f1 => ?_⟩))⟩
          rw [nI_pred] at f1
          subst f1
          exact br_f hz' ⟨hi', rfl, W, t, rfl, rfl, rfl, rfl, rfl, rfl, rfl, rfl, C', hce, G, Or.inl rfl⟩
      · obtain ⟨l', rfl⟩ : ∃ l', l = l' + 1 := ⟨l - 1, by omega⟩
        have hle : ¬ a_length (nI (t + 1) - 1).toNatClampNeg ≤ 0 := by rw [ct, eL]; exact nI_nle (by omega) (by omega)
        have C' : be_C W (t + 1) (upd a_length t (nI l')) a_codeOperation a_codePlaces := ⟨C.1, C.2.1, hm8, be_lnU C.2.2.2.1 (by omega), C.2.2.2.2⟩
        refine br_f hz ⟨hi, br_f hle ⟨hi, hi, fun y1 e1 => ?_⟩⟩
        rw [ct, eL, nI_pred] at e1
        subst e1
        refine br_f hz ⟨hi, be_yr0 rfl (br_t (by decide) (br_f hz ⟨hi, br_f hle ⟨hi, hi, fun z1 f1 => ?_⟩⟩))⟩
        rw [ct, eL, nI_pred] at f1
        subst f1
        exact br_f hz ⟨hi, rfl, W, t + 1, rfl, rfl, rfl, rfl, rfl, rfl, rfl, rfl, C', hce, G, Or.inl rfl⟩
  · exact br_f (by decide) (be_xr1 rfl (be_yr1 rfl (br_f (by decide) (be_yr1 rfl ⟨rfl, I0⟩))))
  · exact br_f (by decide) (be_xr2 rfl (be_yr2 rfl (br_f (by decide) (be_yr2 rfl ⟨rfl, I0⟩))))
theorem be_ic0 {f_workers f_stage f_count f_settled f_turn : Int32} {a_store a_length a_codeOperation a_codePlaces a_codeNumber a_before a_held a_state a_position a_registers a_failed a_seenCells a_seenValues a_storedCells a_storedValues a_outCount a_outValues : Nat → Int32} {post : Int32 → Prop} {c : Int32} (h : c < 0 ∨ 16 ≤ c) (p : post 0) : wpX_isCell post (f_workers, f_stage, f_count, f_settled, f_turn, a_store, a_length, a_codeOperation, a_codePlaces, a_codeNumber, a_before, a_held, a_state, a_position, a_registers, a_failed, a_seenCells, a_seenValues, a_storedCells, a_storedValues, a_outCount, a_outValues) c := by
  by_cases z : c < 0
  · exact br_t z p
  · rcases h with q | q
    · exact absurd q z
    · exact br_f z (br_t q p)
theorem be_ic1 {f_workers f_stage f_count f_settled f_turn : Int32} {a_store a_length a_codeOperation a_codePlaces a_codeNumber a_before a_held a_state a_position a_registers a_failed a_seenCells a_seenValues a_storedCells a_storedValues a_outCount a_outValues : Nat → Int32} {post : Int32 → Prop} {j : Nat} (h : j < 16) (p : post 1) : wpX_isCell post (f_workers, f_stage, f_count, f_settled, f_turn, a_store, a_length, a_codeOperation, a_codePlaces, a_codeNumber, a_before, a_held, a_state, a_position, a_registers, a_failed, a_seenCells, a_seenValues, a_storedCells, a_storedValues, a_outCount, a_outValues) (nI j) := br_f (nI_pos (by omega)) (br_f (nI_ge (b := 16) h (by omega)) p)
theorem i_vc_poke {k : Nat} {u : SX} {v : SY} (I : i_Rel k u v) (hk : k + 4 ≤ 2049) (v1 : Int32) (v2 : Int32) : wpX_poke (fun r u' => wpY_poke (fun r' v' => r' = r ∧ i_Rel (k + 4) u' v') v v1 v2) u v1 v2 := by
  obtain ⟨f_workers, f_stage, f_count, f_settled, f_turn, a_store, a_length, a_codeOperation, a_codePlaces, a_codeNumber, a_before, a_held, a_state, a_position, a_registers, a_failed, a_seenCells, a_seenValues, a_storedCells, a_storedValues, a_outCount, a_outValues⟩ := u
  obtain ⟨yf_phase, yf_count, yf_position, yf_failed, ya_cells, ya_sizes, ya_operations, ya_places, ya_numbers, ya_done, ya_outs, ya_puts, ya_stored, ya_registers, ya_before⟩ := v
  have I0 := I
  obtain ⟨W, m, rfl, rfl, rfl, rfl, rfl, rfl, rfl, rfl, C, hce, G, hst⟩ := I
  by_cases h1 : f_stage = 1
  · exact br_t h1 (br_t h1 ⟨rfl, I0⟩)
  · refine br_f h1 ?_
    rcases pk_ix v1 (n := 16) (by omega) with q | q | ⟨j, hj, rfl⟩
    · exact be_ic0 (Or.inl q) (br_t rfl (br_f h1 (br_t q ⟨rfl, I0⟩)))
    · have q0 : ¬ v1 < 0 := Int32.not_lt.mpr (Int32.le_trans (by decide) q)
      have q15 : ¬ v1 ≤ 15 := fun g => absurd (Int32.le_trans q g) (by decide)
      exact be_ic0 (Or.inr q) (br_t rfl (br_f h1 (br_f q0 (br_f q15 ⟨rfl, I0⟩))))
    · have hi : vp_in (nI j) 16 := vp_in_nI hj (by omega)
      refine be_ic1 hj (br_f (by decide) ⟨hi, fun y1 e1 => br_f h1 (br_f (nI_pos (by omega)) (br_t (nI_le (b := 15) (by omega) (by omega)) ⟨hi, fun z1 f1 => ?_⟩))⟩)
      rw [nI_clamp (n := j) (by omega)] at e1 f1
      subst e1 f1
      refine ⟨rfl, W, m, rfl, rfl, rfl, rfl, rfl, rfl, rfl, rfl, C, be_updr hce, G, ?_⟩
      rcases hst with g | g | g
      · exact Or.inl g
      · exact absurd g.1 h1
      · exact Or.inr (Or.inr g)
theorem be_RI0 {W m : Nat} {ln cO cP cN bf hd st : Nat → Int32} {A : be_A} (hm : m ≤ 8) (h2 : ∀ w, w < 8 → hd w = -1) (h3 : ∀ t, t < 8 → st t = 0) : be_RI W m 0 ln cO cP cN bf hd st A := by
  have ne : ∀ t x, t < m → st t = x → ¬ (0 : Int32) = x → False := fun t x ht e q => q ((h3 t (by omega)).symm.trans e)
  refine ⟨by omega, fun t ht => absurd ht (Nat.not_lt_zero t), fun t _ htm => Or.inl (h3 t (by omega)), fun t ht => absurd ht (Nat.not_lt_zero t), fun t htm hz => absurd (h3 t (by omega)) hz, fun t htm e => (ne t 1 htm e (by decide)).elim, fun t htm e => ?_, fun w hw => Or.inl (h2 w hw), fun w w' t hw _ ht e _ => absurd (e.symm.trans (h2 w hw)) (be_nm t ht), fun t htm e => (ne t 1 htm e (by decide)).elim⟩
  rcases e with e | e
  · exact (ne t 2 htm e (by decide)).elim
  · exact (ne t 3 htm e (by decide)).elim
theorem i_vc_work {k : Nat} {u : SX} {v : SY} (I : i_Rel k u v) (hk : k + 4 ≤ 2049) (v1 : Int32) (v2 : Int32) : wpX_work (fun r u' => wpY_work (fun r' v' => r' = r ∧ i_Rel (k + 4) u' v') v v1 v2) u v1 v2 := by
  obtain ⟨f_workers, f_stage, f_count, f_settled, f_turn, a_store, a_length, a_codeOperation, a_codePlaces, a_codeNumber, a_before, a_held, a_state, a_position, a_registers, a_failed, a_seenCells, a_seenValues, a_storedCells, a_storedValues, a_outCount, a_outValues⟩ := u
  obtain ⟨yf_phase, yf_count, yf_position, yf_failed, ya_cells, ya_sizes, ya_operations, ya_places, ya_numbers, ya_done, ya_outs, ya_puts, ya_stored, ya_registers, ya_before⟩ := v
  have I0 := I
  obtain ⟨W, m, rfl, rfl, rfl, rfl, rfl, rfl, rfl, rfl, C, hce, G, hst⟩ := I
  rcases hst with rfl | ⟨rfl, ⟨s, tn, rfl, rfl, htn, RI⟩, hbf⟩ | ⟨rfl, _⟩
  · refine br_f (by decide) (be_si rfl (fun bf hd st h1 h2 h3 => ?_))
    refine be_mk (s := 0) (tn := 0) C rfl rfl rfl rfl (Nat.zero_le _) (be_RI0 C.2.2.1 h2 h3) G (fun s' tn' hd' st' A' htn' RI' G' _ => ?_)
    obtain ⟨ps, rg, fl, sn, sV, sc, sv, oc, ov⟩ := A'
    exact br_f (by decide) ⟨rfl, W, m, rfl, rfl, rfl, rfl, rfl, rfl, rfl, rfl, C, hce, G', Or.inr (Or.inl ⟨rfl, ⟨s', tn', rfl, rfl, htn', RI'⟩, h1⟩)⟩
  · refine br_f (by decide) (br_f (by decide) ?_)
    refine be_mk C rfl rfl rfl rfl htn RI G (fun s' tn' hd' st' A' htn' RI' G' _ => ?_)
    obtain ⟨ps, rg, fl, sn, sV, sc, sv, oc, ov⟩ := A'
    exact br_f (by decide) ⟨rfl, W, m, rfl, rfl, rfl, rfl, rfl, rfl, rfl, rfl, C, hce, G', Or.inr (Or.inl ⟨rfl, ⟨s', tn', rfl, rfl, htn', RI'⟩, hbf⟩)⟩
  · exact br_t rfl (br_t rfl ⟨rfl, I0⟩)
theorem be_yrun {yf_phase yf_count yf_position yf_failed : Int32} {ya_cells ya_sizes ya_operations ya_places ya_numbers ya_done ya_outs ya_puts ya_stored ya_registers ya_before : Nat → Int32} {post : Int32 → SY → Prop} {W m : Nat} {bf hd st ps rg fl sn sV sc sv oc ov : Nat → Int32} {x : Int32} (hph : ¬ yf_phase = 2) (hc : yf_count = nI m) (C : be_C W m ya_sizes ya_operations ya_places) (RI : be_RI W m m ya_sizes ya_operations ya_places ya_numbers bf hd st (ps, rg, fl, sn, sV, sc, sv, oc, ov)) (hce : ∀ c, c < 16 → ya_cells c = bf c) (h : ∀ (fp ff : Int32) (ce dn ou pu so yr yb : Nat → Int32), (∀ c, c < 16 → ce c = be_vb st sc sv bf m c) → (∀ u, u < m → be_YM fl sc oc ov dn ou pu so u) → post (be_cd fl m) (2, yf_count, fp, ff, ce, ya_sizes, ya_operations, ya_places, ya_numbers, dn, ou, pu, so, yr, yb)) : wpY_run post (yf_phase, yf_count, yf_position, yf_failed, ya_cells, ya_sizes, ya_operations, ya_places, ya_numbers, ya_done, ya_outs, ya_puts, ya_stored, ya_registers, ya_before) x := by
  obtain ⟨_, i2, _, i4, i5, _, i7, _⟩ := RI
  refine br_f hph ⟨m + 1, be_y15 (ps := ps) (rg := rg) (sn := sn) (sV := sV) C.2.2.1 hc C.2.2.2.1 C.2.2.2.2.1 C.2.2.2.2.2 i2 (fun t ht => i7 t ht (Or.inr (i2 t ht))) (fun t ht => ?_) h m 0 _ _ _ _ _ _ _ _ _ (by omega) hce (fun u hu => absurd hu (Nat.not_lt_zero u))⟩
  obtain ⟨k, sv0, ov0, e⟩ := i5 t ht (by rw [i2 t ht]; decide)
  exact ⟨k, sv0, ov0, e _ (i4 t ht)⟩
theorem i_vc_run {k : Nat} {u : SX} {v : SY} (I : i_Rel k u v) (hk : k + 4 ≤ 2049) (v1 : Int32) : wpX_run (fun r u' => wpY_run (fun r' v' => r' = r ∧ i_Rel (k + 4) u' v') v v1) u v1 := by
  obtain ⟨f_workers, f_stage, f_count, f_settled, f_turn, a_store, a_length, a_codeOperation, a_codePlaces, a_codeNumber, a_before, a_held, a_state, a_position, a_registers, a_failed, a_seenCells, a_seenValues, a_storedCells, a_storedValues, a_outCount, a_outValues⟩ := u
  obtain ⟨yf_phase, yf_count, yf_position, yf_failed, ya_cells, ya_sizes, ya_operations, ya_places, ya_numbers, ya_done, ya_outs, ya_puts, ya_stored, ya_registers, ya_before⟩ := v
  have I0 := I
  obtain ⟨W, m, rfl, rfl, rfl, rfl, rfl, rfl, rfl, rfl, C, hce, G, hst⟩ := I
  rcases hst with rfl | ⟨rfl, ⟨s, tn, rfl, rfl, htn, RI⟩, hbf⟩ | ⟨rfl, _⟩
  · refine br_f (by decide) (be_si rfl (fun bf hd st h1 h2 h3 => ?_))
    refine be_mk (s := 0) (tn := 0) C rfl rfl rfl rfl (Nat.zero_le _) (be_RI0 C.2.2.1 h2 h3) G (fun s' tn' hd' st' A' htn' RI' G' hx => ?_)
    obtain ⟨ps, rg, fl, sn, sV, sc, sv, oc, ov⟩ := A'
    have e := hx rfl
    subst e
    refine be_kS C.2.2.1 rfl (fun sto hs => be_cnt C.2.2.1 rfl ?_)
    refine be_yrun (by decide) rfl C RI' (fun c hc => (hce c hc).trans (h1 c hc).symm) (fun fp ff ce dn ou pu so yr yb h4 h5 => ?_)
    refine ⟨rfl, W, s', rfl, rfl, rfl, rfl, rfl, rfl, rfl, rfl, C, fun c hc => ?_, G', Or.inr (Or.inr ⟨rfl, rfl, RI', h5⟩)⟩
    rw [h4 c hc, hs c hc]
    exact be_vk h1 s' (fun u hu => by rw [RI'.2.1 u hu]; decide) c hc
  · refine br_f (by decide) (br_f (by decide) ?_)
    refine be_mk C rfl rfl rfl rfl htn RI G (fun s' tn' hd' st' A' htn' RI' G' hx => ?_)
    obtain ⟨ps, rg, fl, sn, sV, sc, sv, oc, ov⟩ := A'
    have e := hx rfl
    subst e
    refine be_kS C.2.2.1 rfl (fun sto hs => be_cnt C.2.2.1 rfl ?_)
    refine be_yrun (by decide) rfl C RI' (fun c hc => (hce c hc).trans (hbf c hc).symm) (fun fp ff ce dn ou pu so yr yb h4 h5 => ?_)
    refine ⟨rfl, W, s', rfl, rfl, rfl, rfl, rfl, rfl, rfl, rfl, C, fun c hc => ?_, G', Or.inr (Or.inr ⟨rfl, rfl, RI', h5⟩)⟩
    rw [h4 c hc, hs c hc]
    exact be_vk hbf s' (fun u hu => by rw [RI'.2.1 u hu]; decide) c hc
  · exact br_t rfl (br_t rfl ⟨rfl, I0⟩)
theorem i_vc_cell {k : Nat} {u : SX} {v : SY} (I : i_Rel k u v) (hk : k + 4 ≤ 2049) (v1 : Int32) : wpX_cell (fun r => wpY_cell (fun r' => r' = r ∧ i_Rel (k + 4) u v) v v1) u v1 := by
  obtain ⟨f_workers, f_stage, f_count, f_settled, f_turn, a_store, a_length, a_codeOperation, a_codePlaces, a_codeNumber, a_before, a_held, a_state, a_position, a_registers, a_failed, a_seenCells, a_seenValues, a_storedCells, a_storedValues, a_outCount, a_outValues⟩ := u
  obtain ⟨yf_phase, yf_count, yf_position, yf_failed, ya_cells, ya_sizes, ya_operations, ya_places, ya_numbers, ya_done, ya_outs, ya_puts, ya_stored, ya_registers, ya_before⟩ := v
  have I0 := I
  obtain ⟨W, m, rfl, rfl, rfl, rfl, rfl, rfl, rfl, rfl, C, hce, G, hst⟩ := I
  unfold wpX_cell wpY_cell
  dsimp only
  rcases pk_ix v1 (n := 16) (by omega) with q | q | ⟨j, hj, rfl⟩
  · exact be_ic0 (Or.inl q) (br_t rfl (br_t q ⟨rfl, I0⟩))
  · have q0 : ¬ v1 < 0 := Int32.not_lt.mpr (Int32.le_trans (by decide) q)
    have q15 : ¬ v1 ≤ 15 := fun g => absurd (Int32.le_trans q g) (by decide)
    exact be_ic0 (Or.inr q) (br_t rfl (br_f q0 (br_f q15 ⟨rfl, I0⟩)))
  · have hi : vp_in (nI j) 16 := vp_in_nI hj (by omega)
    refine be_ic1 hj (br_f (by decide) ⟨hi, br_f (nI_pos (by omega)) (br_t (nI_le (b := 15) (by omega) (by omega)) ⟨hi, ?_, I0⟩)⟩)
    rw [nI_clamp (n := j) (by omega)]
    exact hce j hj
theorem i_vc_digest {k : Nat} {u : SX} {v : SY} (I : i_Rel k u v) (hk : k + 4 ≤ 2049) : wpX_digest (fun r => wpY_digest (fun r' => r' = r ∧ i_Rel (k + 4) u v) v) u := by
  obtain ⟨f_workers, f_stage, f_count, f_settled, f_turn, a_store, a_length, a_codeOperation, a_codePlaces, a_codeNumber, a_before, a_held, a_state, a_position, a_registers, a_failed, a_seenCells, a_seenValues, a_storedCells, a_storedValues, a_outCount, a_outValues⟩ := u
  obtain ⟨yf_phase, yf_count, yf_position, yf_failed, ya_cells, ya_sizes, ya_operations, ya_places, ya_numbers, ya_done, ya_outs, ya_puts, ya_stored, ya_registers, ya_before⟩ := v
  have I0 := I
  obtain ⟨W, m, rfl, rfl, rfl, rfl, rfl, rfl, rfl, rfl, C, hce, G, hst⟩ := I
  exact ⟨17, be_xd4 ⟨17, be_yd4 ⟨be_dge 16 hce, I0⟩ 16 0 rfl⟩ 16 0 rfl⟩
theorem be_xtN {f_workers f_stage f_count f_settled f_turn : Int32} {a_store a_length a_codeOperation a_codePlaces a_codeNumber a_before a_held a_state a_position a_registers a_failed a_seenCells a_seenValues a_storedCells a_storedValues a_outCount a_outValues : Nat → Int32} {post : Int32 → Prop} {c : Int32} (h : c < 0 ∨ f_count ≤ c) (p : post 0) : wpX_isTransaction post (f_workers, f_stage, f_count, f_settled, f_turn, a_store, a_length, a_codeOperation, a_codePlaces, a_codeNumber, a_before, a_held, a_state, a_position, a_registers, a_failed, a_seenCells, a_seenValues, a_storedCells, a_storedValues, a_outCount, a_outValues) c := by
  by_cases z : c < 0
  · exact br_t z p
  · rcases h with q | q
    · exact absurd q z
    · exact br_f z (br_t q p)
theorem be_xtY {f_workers f_stage f_count f_settled f_turn : Int32} {a_store a_length a_codeOperation a_codePlaces a_codeNumber a_before a_held a_state a_position a_registers a_failed a_seenCells a_seenValues a_storedCells a_storedValues a_outCount a_outValues : Nat → Int32} {post : Int32 → Prop} {j m : Nat} (hm : m ≤ 8) (hc : f_count = nI m) (h : j < m) (p : post 1) : wpX_isTransaction post (f_workers, f_stage, f_count, f_settled, f_turn, a_store, a_length, a_codeOperation, a_codePlaces, a_codeNumber, a_before, a_held, a_state, a_position, a_registers, a_failed, a_seenCells, a_seenValues, a_storedCells, a_storedValues, a_outCount, a_outValues) (nI j) := by
  subst hc
  exact br_f (nI_pos (by omega)) (br_f (nI_ge h (by omega)) p)
theorem be_yhN {yf_phase yf_count yf_position yf_failed : Int32} {ya_cells ya_sizes ya_operations ya_places ya_numbers ya_done ya_outs ya_puts ya_stored ya_registers ya_before : Nat → Int32} {post : Int32 → Prop} {c : Int32} (h : c < 0 ∨ yf_count ≤ c) (p : post (-1)) : wpY_hidden post (yf_phase, yf_count, yf_position, yf_failed, ya_cells, ya_sizes, ya_operations, ya_places, ya_numbers, ya_done, ya_outs, ya_puts, ya_stored, ya_registers, ya_before) c := by
  by_cases z : c < 0
  · exact br_t z p
  · rcases h with q | q
    · exact absurd q z
    · exact br_f z (br_f (Int32.not_lt.mpr q) p)
theorem be_yhY {yf_phase yf_count yf_position yf_failed : Int32} {ya_cells ya_sizes ya_operations ya_places ya_numbers ya_done ya_outs ya_puts ya_stored ya_registers ya_before : Nat → Int32} {post : Int32 → Prop} {j m : Nat} (hm : m ≤ 8) (hc : yf_count = nI m) (h : j < m) (p2 : yf_phase = 2 → post 0) (p5 : ¬ yf_phase = 2 → post (-5)) : wpY_hidden post (yf_phase, yf_count, yf_position, yf_failed, ya_cells, ya_sizes, ya_operations, ya_places, ya_numbers, ya_done, ya_outs, ya_puts, ya_stored, ya_registers, ya_before) (nI j) := by
  subst hc
  exact br_f (nI_pos (by omega)) (br_t (nI_lt h (by omega)) ⟨p2, p5⟩)
theorem i_vc_result {k : Nat} {u : SX} {v : SY} (I : i_Rel k u v) (hk : k + 4 ≤ 2049) (v1 : Int32) : wpX_result (fun r => wpY_result (fun r' => r' = r ∧ i_Rel (k + 4) u v) v v1) u v1 := by
  obtain ⟨f_workers, f_stage, f_count, f_settled, f_turn, a_store, a_length, a_codeOperation, a_codePlaces, a_codeNumber, a_before, a_held, a_state, a_position, a_registers, a_failed, a_seenCells, a_seenValues, a_storedCells, a_storedValues, a_outCount, a_outValues⟩ := u
  obtain ⟨yf_phase, yf_count, yf_position, yf_failed, ya_cells, ya_sizes, ya_operations, ya_places, ya_numbers, ya_done, ya_outs, ya_puts, ya_stored, ya_registers, ya_before⟩ := v
  have I0 := I
  obtain ⟨W, m, rfl, rfl, rfl, rfl, rfl, rfl, rfl, rfl, C, hce, G, hst⟩ := I
  unfold wpX_result wpY_result
  dsimp only
  have hm8 : m ≤ 8 := C.2.2.1
  have N : (v1 < 0 ∨ nI m ≤ v1) ∨ ∃ j : Nat, j < m ∧ v1 = nI j := by
    rcases pk_ix v1 (n := m) (by omega) with q | q | q
    · exact Or.inl (Or.inl q)
    · exact Or.inl (Or.inr q)
    · exact Or.inr q
  rcases N with q | ⟨j, hj, rfl⟩
  · exact be_xtN q (br_t rfl (be_yhN q (br_f (by decide) (be_yhN q ⟨rfl, I0⟩))))
  · have hi : vp_in (nI j) 8 := vp_in_nI (by omega) (by omega)
    have cj : (nI j).toNatClampNeg = j := nI_clamp (by omega)
    refine be_xtY hm8 rfl hj (br_f (by decide) ?_)
    by_cases h2 : f_stage = 2
    · have M : be_YM a_failed a_storedCells a_outCount a_outValues ya_done ya_outs ya_puts ya_stored j := by
        rcases hst with g | g | g
        · exact absurd (g.symm.trans h2) (by decide)
        · exact absurd (g.1.symm.trans h2) (by decide)
        · exact g.2.2.2 j hj
      refine br_t h2 ⟨hi, ?_⟩
      rw [cj]
      by_cases z : a_failed j = 0
      · refine br_t z (be_yhY hm8 rfl hj (fun _ => br_t (by decide) ⟨hi, br_f ?_ ⟨rfl, I0⟩⟩) (fun g => absurd h2 g))
        rw [M.1, if_pos z]
        decide
      · refine br_f z (be_yhY hm8 rfl hj (fun _ => br_t (by decide) ⟨hi, br_t ?_ ⟨rfl, I0⟩⟩) (fun g => absurd h2 g))
        rw [M.1, if_neg z]
    · exact br_f h2 (be_yhY hm8 rfl hj (fun g => absurd g h2) (fun _ => br_f (by decide) (be_yhY hm8 rfl hj (fun g => absurd g h2) (fun _ => ⟨rfl, I0⟩))))
theorem i_vc_outs {k : Nat} {u : SX} {v : SY} (I : i_Rel k u v) (hk : k + 4 ≤ 2049) (v1 : Int32) : wpX_outs (fun r => wpY_outs (fun r' => r' = r ∧ i_Rel (k + 4) u v) v v1) u v1 := by
  obtain ⟨f_workers, f_stage, f_count, f_settled, f_turn, a_store, a_length, a_codeOperation, a_codePlaces, a_codeNumber, a_before, a_held, a_state, a_position, a_registers, a_failed, a_seenCells, a_seenValues, a_storedCells, a_storedValues, a_outCount, a_outValues⟩ := u
  obtain ⟨yf_phase, yf_count, yf_position, yf_failed, ya_cells, ya_sizes, ya_operations, ya_places, ya_numbers, ya_done, ya_outs, ya_puts, ya_stored, ya_registers, ya_before⟩ := v
  have I0 := I
  obtain ⟨W, m, rfl, rfl, rfl, rfl, rfl, rfl, rfl, rfl, C, hce, G, hst⟩ := I
  unfold wpX_outs wpY_outs
  dsimp only
  have hm8 : m ≤ 8 := C.2.2.1
  have N : (v1 < 0 ∨ nI m ≤ v1) ∨ ∃ j : Nat, j < m ∧ v1 = nI j := by
    rcases pk_ix v1 (n := m) (by omega) with q | q | q
    · exact Or.inl (Or.inl q)
    · exact Or.inl (Or.inr q)
    · exact Or.inr q
  rcases N with q | ⟨j, hj, rfl⟩
  · exact be_xtN q (br_t rfl (be_yhN q (br_f (by decide) (be_yhN q ⟨rfl, I0⟩))))
  · have hi : vp_in (nI j) 8 := vp_in_nI (by omega) (by omega)
    have cj : (nI j).toNatClampNeg = j := nI_clamp (by omega)
    refine be_xtY hm8 rfl hj (br_f (by decide) ?_)
    by_cases h2 : f_stage = 2
    · have M : be_YM a_failed a_storedCells a_outCount a_outValues ya_done ya_outs ya_puts ya_stored j := by
        rcases hst with g | g | g
        · exact absurd (g.symm.trans h2) (by decide)
        · exact absurd (g.1.symm.trans h2) (by decide)
        · exact g.2.2.2 j hj
      refine br_t h2 ⟨hi, ?_⟩
      refine be_yhY hm8 rfl hj (fun _ => br_t (by decide) ⟨hi, ?_, I0⟩) (fun g => absurd h2 g)
      rw [cj]
      exact M.2.1
    · exact br_f h2 (be_yhY hm8 rfl hj (fun g => absurd g h2) (fun _ => br_f (by decide) (be_yhY hm8 rfl hj (fun g => absurd g h2) (fun _ => ⟨rfl, I0⟩))))
theorem i_vc_stored {k : Nat} {u : SX} {v : SY} (I : i_Rel k u v) (hk : k + 4 ≤ 2049) (v1 : Int32) : wpX_stored (fun r => wpY_stored (fun r' => r' = r ∧ i_Rel (k + 4) u v) v v1) u v1 := by
  obtain ⟨f_workers, f_stage, f_count, f_settled, f_turn, a_store, a_length, a_codeOperation, a_codePlaces, a_codeNumber, a_before, a_held, a_state, a_position, a_registers, a_failed, a_seenCells, a_seenValues, a_storedCells, a_storedValues, a_outCount, a_outValues⟩ := u
  obtain ⟨yf_phase, yf_count, yf_position, yf_failed, ya_cells, ya_sizes, ya_operations, ya_places, ya_numbers, ya_done, ya_outs, ya_puts, ya_stored, ya_registers, ya_before⟩ := v
  have I0 := I
  obtain ⟨W, m, rfl, rfl, rfl, rfl, rfl, rfl, rfl, rfl, C, hce, G, hst⟩ := I
  unfold wpX_stored wpY_stored
  dsimp only
  have hm8 : m ≤ 8 := C.2.2.1
  have N : (v1 < 0 ∨ nI m ≤ v1) ∨ ∃ j : Nat, j < m ∧ v1 = nI j := by
    rcases pk_ix v1 (n := m) (by omega) with q | q | q
    · exact Or.inl (Or.inl q)
    · exact Or.inl (Or.inr q)
    · exact Or.inr q
  rcases N with q | ⟨j, hj, rfl⟩
  · exact be_xtN q (br_t rfl (be_yhN q (br_f (by decide) (be_yhN q ⟨rfl, I0⟩))))
  · have hi : vp_in (nI j) 8 := vp_in_nI (by omega) (by omega)
    have cj : (nI j).toNatClampNeg = j := nI_clamp (by omega)
    refine be_xtY hm8 rfl hj (br_f (by decide) ?_)
    by_cases h2 : f_stage = 2
    · have M : be_YM a_failed a_storedCells a_outCount a_outValues ya_done ya_outs ya_puts ya_stored j := by
        rcases hst with g | g | g
        · exact absurd (g.symm.trans h2) (by decide)
        · exact absurd (g.1.symm.trans h2) (by decide)
        · exact g.2.2.2 j hj
      refine br_t h2 ⟨hi, ?_⟩
      refine be_yhY hm8 rfl hj (fun _ => br_t (by decide) ⟨hi, ?_, I0⟩) (fun g => absurd h2 g)
      rw [cj]
      exact M.2.2.1
    · exact br_f h2 (be_yhY hm8 rfl hj (fun g => absurd g h2) (fun _ => br_f (by decide) (be_yhY hm8 rfl hj (fun g => absurd g h2) (fun _ => ⟨rfl, I0⟩))))
theorem i_vc_out {k : Nat} {u : SX} {v : SY} (I : i_Rel k u v) (hk : k + 4 ≤ 2049) (v1 : Int32) (v2 : Int32) : wpX_out (fun r => wpY_out (fun r' => r' = r ∧ i_Rel (k + 4) u v) v v1 v2) u v1 v2 := by
  obtain ⟨f_workers, f_stage, f_count, f_settled, f_turn, a_store, a_length, a_codeOperation, a_codePlaces, a_codeNumber, a_before, a_held, a_state, a_position, a_registers, a_failed, a_seenCells, a_seenValues, a_storedCells, a_storedValues, a_outCount, a_outValues⟩ := u
  obtain ⟨yf_phase, yf_count, yf_position, yf_failed, ya_cells, ya_sizes, ya_operations, ya_places, ya_numbers, ya_done, ya_outs, ya_puts, ya_stored, ya_registers, ya_before⟩ := v
  have I0 := I
  obtain ⟨W, m, rfl, rfl, rfl, rfl, rfl, rfl, rfl, rfl, C, hce, G, hst⟩ := I
  unfold wpX_out wpY_out
  dsimp only
  have hm8 : m ≤ 8 := C.2.2.1
  have N : (v1 < 0 ∨ nI m ≤ v1) ∨ ∃ j : Nat, j < m ∧ v1 = nI j := by
    rcases pk_ix v1 (n := m) (by omega) with q | q | q
    · exact Or.inl (Or.inl q)
    · exact Or.inl (Or.inr q)
    · exact Or.inr q
  by_cases h2 : f_stage = 2
  · refine br_t h2 ?_
    rcases N with q | ⟨j, hj, rfl⟩
    · exact be_xtN q (br_t rfl (be_yhN q (br_t (by decide) ⟨rfl, I0⟩)))
    · have hi : vp_in (nI j) 8 := vp_in_nI (by omega) (by omega)
      have cj : (nI j).toNatClampNeg = j := nI_clamp (by omega)
      refine be_xtY hm8 rfl hj (br_f (by decide) ?_)
      by_cases h0 : v2 < 0
      · exact br_t h0 (be_yhY hm8 rfl hj (fun _ => br_f (by decide) (br_t h0 ⟨rfl, I0⟩)) (fun g => absurd h2 g))
      · obtain ⟨x, hx, rfl⟩ := nI_of h0
        have R2 : be_RI W m m a_length a_codeOperation a_codePlaces a_codeNumber a_before a_held a_state (a_position, a_registers, a_failed, a_seenCells, a_seenValues, a_storedCells, a_storedValues, a_outCount, a_outValues) ∧ be_YM a_failed a_storedCells a_outCount a_outValues ya_done ya_outs ya_puts ya_stored j := by
          rcases hst with g | g | g
          · exact absurd (g.symm.trans h2) (by decide)
          · exact absurd (g.1.symm.trans h2) (by decide)
          · exact ⟨g.2.2.1, g.2.2.2 j hj⟩
        obtain ⟨RI, M⟩ := R2
        obtain ⟨l, hl12, hL⟩ := C.2.2.2.1 j (by omega)
        obtain ⟨p, oq, hp, hoq, _, hoq12, hp13, _⟩ := be_hxB hL hl12 (RI.2.2.2.2.1 j hj (by rw [RI.2.1 j hj]; decide))
        have eX : a_outCount j = nI oq := hoq
        have eY : ya_outs j = nI oq := M.2.1.trans eX
        by_cases hk : x < oq
        · have e1 : nI j * 12 + nI x = nI (12 * j + x) := be_ix 12 j x
          have e2 : 12 * nI j + nI x = nI (12 * j + x) := be_iy 12 j x
          have i6 : vp_in (nI (12 * j + x)) 96 := vp_in_nI (by omega) (by omega)
          have c6 : (nI (12 * j + x)).toNatClampNeg = 12 * j + x := nI_clamp (by omega)
          refine br_f h0 ⟨hi, br_t (by rw [cj, eX]; exact nI_lt hk (by omega)) ⟨by rw [e1]; exact i6, be_yhY hm8 rfl hj (fun _ => br_f (by decide) (br_f h0 ⟨hi, br_t (by rw [cj, eY]; exact nI_lt hk (by omega)) ⟨by rw [e2]; exact i6, ?_, I0⟩⟩)) (fun g => absurd h2 g)⟩⟩
          rw [e1, e2, c6]
          exact M.2.2.2 x oq eX hoq12 hk
        · exact br_f h0 ⟨hi, br_f (by rw [cj, eX]; exact nI_nlt (by omega) (by omega)) (be_yhY hm8 rfl hj (fun _ => br_f (by decide) (br_f h0 ⟨hi, br_f (by rw [cj, eY]; exact nI_nlt (by omega) (by omega)) ⟨rfl, I0⟩⟩)) (fun g => absurd h2 g))⟩
  · refine br_f h2 ?_
    rcases N with q | ⟨j, hj, rfl⟩
    · exact be_yhN q (br_t (by decide) ⟨rfl, I0⟩)
    · exact be_yhY hm8 rfl hj (fun g => absurd g h2) (fun _ => br_t (by decide) ⟨rfl, I0⟩)
theorem be_fl0 {f_workers f_stage f_count f_settled f_turn : Int32} {a_store a_length a_codeOperation a_codePlaces a_codeNumber a_before a_held a_state a_position a_registers a_failed a_seenCells a_seenValues a_storedCells a_storedValues a_outCount a_outValues : Nat → Int32} {post : Int32 → Prop} {W m s : Nat} (hm : m ≤ 8) (hs : f_settled = nI s) (hc : f_count = nI m) (h0 : ¬ f_stage = 0) (G : be_G (a_position, a_registers, a_failed, a_seenCells, a_seenValues, a_storedCells, a_storedValues, a_outCount, a_outValues)) (RI : be_RI W m s a_length a_codeOperation a_codePlaces a_codeNumber a_before a_held a_state (a_position, a_registers, a_failed, a_seenCells, a_seenValues, a_storedCells, a_storedValues, a_outCount, a_outValues)) (h4 : f_stage = 2 → s = m) (p : post 0) : wpX_faults post (f_workers, f_stage, f_count, f_settled, f_turn, a_store, a_length, a_codeOperation, a_codePlaces, a_codeNumber, a_before, a_held, a_state, a_position, a_registers, a_failed, a_seenCells, a_seenValues, a_storedCells, a_storedValues, a_outCount, a_outValues) := by
  obtain ⟨i1, i2, i3, i4, _⟩ := RI
  refine br_f h0 ⟨m + 1, be_f13 hm i1 hs hc i2 (fun t h h' e => ?_) i4 G h4 p m 0 (by omega)⟩
  rcases i3 t h h' with q | q | q <;> rw [q] at e <;> exact absurd e (by decide)
theorem i_vc_faults {k : Nat} {u : SX} {v : SY} (I : i_Rel k u v) (hk : k + 4 ≤ 2049) : wpX_faults (fun r => wpY_faults (fun r' => r' = r ∧ i_Rel (k + 4) u v) v) u := by
  obtain ⟨f_workers, f_stage, f_count, f_settled, f_turn, a_store, a_length, a_codeOperation, a_codePlaces, a_codeNumber, a_before, a_held, a_state, a_position, a_registers, a_failed, a_seenCells, a_seenValues, a_storedCells, a_storedValues, a_outCount, a_outValues⟩ := u
  obtain ⟨yf_phase, yf_count, yf_position, yf_failed, ya_cells, ya_sizes, ya_operations, ya_places, ya_numbers, ya_done, ya_outs, ya_puts, ya_stored, ya_registers, ya_before⟩ := v
  have I0 := I
  obtain ⟨W, m, rfl, rfl, rfl, rfl, rfl, rfl, rfl, rfl, C, hce, G, hst⟩ := I
  have hm8 : m ≤ 8 := C.2.2.1
  rcases hst with rfl | ⟨rfl, ⟨s, tn, rfl, rfl, htn, RI⟩, _⟩ | ⟨rfl, rfl, RI, _⟩
  · exact br_t rfl ⟨rfl, I0⟩
  · exact be_fl0 hm8 rfl rfl (by decide) G RI (fun q => absurd q (by decide)) ⟨rfl, I0⟩
  · exact be_fl0 hm8 rfl rfl (by decide) G RI (fun _ => rfl) ⟨rfl, I0⟩
