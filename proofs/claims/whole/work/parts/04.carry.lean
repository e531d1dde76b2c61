/-! look, keep, fail, putOut -/
theorem be_lk {f_workers f_stage f_count f_settled f_turn : Int32} {a_store a_length a_codeOperation a_codePlaces a_codeNumber a_before a_held a_state a_position a_registers a_failed a_seenCells a_seenValues a_storedCells a_storedValues a_outCount a_outValues : Nat → Int32} {post : Int32 → SX → Prop} {t c : Nat} (ht : t < 8) (hc : c < 16) (h : ∀ (v : Int32) (sn sV : Nat → Int32), (∀ sg, be_Ag sn sV t sg → be_Ag a_seenCells a_seenValues t sg ∧ v = be_rd sg (a_storedCells t) (be_sl a_storedValues 16 t) c) → (∀ u, u ≠ t → sn u = a_seenCells u ∧ be_sl sV 16 u = be_sl a_seenValues 16 u) → (be_Ag a_seenCells a_seenValues t (be_vb a_state a_storedCells a_storedValues a_before t) → be_Ag sn sV t (be_vb a_state a_storedCells a_storedValues a_before t)) → post v (f_workers, f_stage, f_count, f_settled, f_turn, a_store, a_length, a_codeOperation, a_codePlaces, a_codeNumber, a_before, a_held, a_state, a_position, a_registers, a_failed, sn, sV, a_storedCells, a_storedValues, a_outCount, a_outValues)) : wpX_look post (f_workers, f_stage, f_count, f_settled, f_turn, a_store, a_length, a_codeOperation, a_codePlaces, a_codeNumber, a_before, a_held, a_state, a_position, a_registers, a_failed, a_seenCells, a_seenValues, a_storedCells, a_storedValues, a_outCount, a_outValues) (nI t) (nI c) := by
  have hi : vp_in (nI t) 8 := vp_in_nI ht (by omega)
  have ec : (nI t).toNatClampNeg = t := nI_clamp (by omega)
  intro x3 e3 x4 e4
  have hi4 : vp_in x4 128 := by rw [e4]; exact (be_i16 ht hc).1
  have e4c : x4.toNatClampNeg = 16 * t + c := by rw [e4]; exact (be_i16 ht hc).2
  clear e4
  subst e3
  refine ⟨hi, ?_⟩
  rw [ec]
  by_cases zs : bt (a_storedCells t) c = true
  · refine br_f (by rw [be_msk _ hc, zs]; decide) ⟨hi4, ?_⟩
    rw [e4c]
    refine h _ _ _ (fun sg g => ⟨g, ?_⟩) (fun u hu => ⟨rfl, rfl⟩) (fun g => g)
    unfold be_rd
    rw [if_pos zs, be_sla hc]
  · refine br_t (by rw [be_msk _ hc]; exact eq_false_of_ne_true zs) ⟨hi, ?_⟩
    by_cases zn : bt (a_seenCells t) c = true
    · refine br_f (by rw [be_msk _ hc, zn]; decide) ⟨hi4, ?_⟩
      rw [e4c]
      refine h _ _ _ (fun sg g => ⟨g, ?_⟩) (fun u hu => ⟨rfl, rfl⟩) (fun g => g)
      unfold be_rd
      rw [if_neg zs]
      exact (g c hc zn).symm
    · refine br_t (by rw [be_msk _ hc]; exact eq_false_of_ne_true zn) (be_vbX (by omega) hc ?_)
      refine ⟨hi4, fun sV eV => ⟨hi, hi, fun sn en => ⟨hi4, ?_⟩⟩⟩
      rw [e4c] at eV ⊢
      subst eV en
      rw [pk_us]
      have hset : ∀ j, j < 16 → bt (upd a_seenCells t (be_set (a_seenCells t) (nI c)) t) j = (bt (a_seenCells t) j || decide (j = c)) := fun j hj => by rw [pk_us, be_orb _ hc hj]
      refine h _ _ _ (fun sg g => ⟨fun j hj hb => ?_, ?_⟩) (fun u hu => ⟨pk_un hu, be_slo hc hu⟩) (fun g j hj hb => ?_)
      · have h2 := g j hj (by have q := hset j hj; rw [hb] at q; exact q)
        have hne : j ≠ c := fun e => zn (e ▸ hb)
        rw [pk_un (by omega)] at h2
        exact h2
      · unfold be_rd
        rw [if_neg zs]
        have h2 := g c hc (by have q := hset c hc; rw [decide_eq_true rfl, Bool.or_true] at q; exact q)
        rw [pk_us] at h2
        exact h2.symm
      · by_cases e : j = c
        · subst e
          rw [pk_us]
        · rw [pk_un (by omega)]
          refine g j hj ?_
          have q := hset j hj
          rw [decide_eq_false e, Bool.or_false] at q
          rw [← q]
          exact hb
theorem be_kp {f_workers f_stage f_count f_settled f_turn : Int32} {a_store a_length a_codeOperation a_codePlaces a_codeNumber a_before a_held a_state a_position a_registers a_failed a_seenCells a_seenValues a_storedCells a_storedValues a_outCount a_outValues : Nat → Int32} {post : SX → Prop} {t c : Nat} {v : Int32} (ht : t < 8) (hc : c < 16) (h : post (f_workers, f_stage, f_count, f_settled, f_turn, a_store, a_length, a_codeOperation, a_codePlaces, a_codeNumber, a_before, a_held, a_state, a_position, a_registers, a_failed, a_seenCells, a_seenValues, upd a_storedCells t (be_set (a_storedCells t) (nI c)), upd a_storedValues (16 * t + c) v, a_outCount, a_outValues)) : wpX_keep post (f_workers, f_stage, f_count, f_settled, f_turn, a_store, a_length, a_codeOperation, a_codePlaces, a_codeNumber, a_before, a_held, a_state, a_position, a_registers, a_failed, a_seenCells, a_seenValues, a_storedCells, a_storedValues, a_outCount, a_outValues) (nI t) (nI c) v := by
  have hi : vp_in (nI t) 8 := vp_in_nI ht (by omega)
  have ec : (nI t).toNatClampNeg = t := nI_clamp (by omega)
  refine ⟨hi, hi, fun y1 e1 => ⟨(be_i16 ht hc).1, fun y2 e2 => ?_⟩⟩
  rw [e1, e2, ec, (be_i16 ht hc).2]
  exact h
theorem be_fa {f_workers f_stage f_count f_settled f_turn : Int32} {a_store a_length a_codeOperation a_codePlaces a_codeNumber a_before a_held a_state a_position a_registers a_failed a_seenCells a_seenValues a_storedCells a_storedValues a_outCount a_outValues : Nat → Int32} {post : SX → Prop} {t : Nat} (ht : t < 8) (h : post (f_workers, f_stage, f_count, f_settled, f_turn, a_store, a_length, a_codeOperation, a_codePlaces, a_codeNumber, a_before, a_held, a_state, upd a_position t (a_length t), a_registers, upd a_failed t 1, a_seenCells, a_seenValues, upd a_storedCells t 0, a_storedValues, upd a_outCount t 0, a_outValues)) : wpX_fail post (f_workers, f_stage, f_count, f_settled, f_turn, a_store, a_length, a_codeOperation, a_codePlaces, a_codeNumber, a_before, a_held, a_state, a_position, a_registers, a_failed, a_seenCells, a_seenValues, a_storedCells, a_storedValues, a_outCount, a_outValues) (nI t) := by
  have hi : vp_in (nI t) 8 := vp_in_nI ht (by omega)
  have ec : (nI t).toNatClampNeg = t := nI_clamp (by omega)
  refine ⟨hi, fun y1 e1 => ⟨hi, fun y2 e2 => ⟨hi, fun y3 e3 => ⟨hi, hi, fun y4 e4 => ?_⟩⟩⟩⟩
  rw [e1, e2, e3, e4, ec, be_b1]
  exact h
theorem be_po {f_workers f_stage f_count f_settled f_turn : Int32} {a_store a_length a_codeOperation a_codePlaces a_codeNumber a_before a_held a_state a_position a_registers a_failed a_seenCells a_seenValues a_storedCells a_storedValues a_outCount a_outValues : Nat → Int32} {post : SX → Prop} {t q : Nat} {v : Int32} (ht : t < 8) (hq : a_outCount t = nI q) (hq2 : q ≤ 12) (h1 : q = 12 → post (f_workers, f_stage, f_count, f_settled, f_turn, a_store, a_length, a_codeOperation, a_codePlaces, a_codeNumber, a_before, a_held, a_state, a_position, a_registers, a_failed, a_seenCells, a_seenValues, a_storedCells, a_storedValues, a_outCount, a_outValues)) (h2 : q < 12 → post (f_workers, f_stage, f_count, f_settled, f_turn, a_store, a_length, a_codeOperation, a_codePlaces, a_codeNumber, a_before, a_held, a_state, a_position, a_registers, a_failed, a_seenCells, a_seenValues, a_storedCells, a_storedValues, upd a_outCount t (a_outCount t + 1), upd a_outValues (12 * t + q) v)) : wpX_putOut post (f_workers, f_stage, f_count, f_settled, f_turn, a_store, a_length, a_codeOperation, a_codePlaces, a_codeNumber, a_before, a_held, a_state, a_position, a_registers, a_failed, a_seenCells, a_seenValues, a_storedCells, a_storedValues, a_outCount, a_outValues) (nI t) v := by
  have hi : vp_in (nI t) 8 := vp_in_nI ht (by omega)
  have ec : (nI t).toNatClampNeg = t := nI_clamp (by omega)
  refine ⟨hi, fun x3 e3 => ?_⟩
  rw [ec] at e3
  have e3' : x3 = nI q := e3.trans hq
  have e12 : nI t * 12 + x3 = nI (12 * t + q) := by rw [e3']; exact be_ix 12 t q
  refine pk_le 12 q (fun g => h1 (by omega)) (fun g => ⟨pk_in (12 * t + q) 96 (by omega) e12, fun y1 e1 => ⟨hi, fun y2 e2 => ?_⟩⟩) rfl e3'
  rw [e1, e2, ec, pk_cl (12 * t + q) e12 (by omega), e3]
  exact h2 g
/-! what an instruction does to the arrays -/
def be_SO (ln cO cP cN st bf : Nat → Int32) (A A' : be_A) (t : Nat) : Prop :=
  (∀ sg, be_Ag (be_sn A') (be_sV A') t sg → be_Ag (be_sn A) (be_sV A) t sg ∧ be_xs A' t = be_in sg ln cO cP cN t (be_xs A t)) ∧ (∀ u, u ≠ t → be_Eq A A' u) ∧ (be_Ag (be_sn A) (be_sV A) t (be_vb st (be_sc A) (be_sv A) bf t) → be_Ag (be_sn A') (be_sV A') t (be_vb st (be_sc A) (be_sv A) bf t))
theorem be_so1 {ln cO cP cN st bf ps rg fl sn sV sc sv oc ov ps' rg' fl' sc' sv' oc' ov' : Nat → Int32} {t : Nat} (h : ∀ sg, be_in sg ln cO cP cN t (be_xs (ps, rg, fl, sn, sV, sc, sv, oc, ov) t) = (ps' t, be_sl rg' 4 t, fl' t, sc' t, be_sl sv' 16 t, oc' t, be_sl ov' 12 t)) (e1 : ∀ u, u ≠ t → ps' u = ps u) (e2 : ∀ u, u ≠ t → be_sl rg' 4 u = be_sl rg 4 u) (e3 : ∀ u, u ≠ t → fl' u = fl u) (e6 : ∀ u, u ≠ t → sc' u = sc u) (e7 : ∀ u, u ≠ t → be_sl sv' 16 u = be_sl sv 16 u) (e8 : ∀ u, u ≠ t → oc' u = oc u) (e9 : ∀ u, u ≠ t → be_sl ov' 12 u = be_sl ov 12 u) : be_SO ln cO cP cN st bf (ps, rg, fl, sn, sV, sc, sv, oc, ov) (ps', rg', fl', sn, sV, sc', sv', oc', ov') t :=
  ⟨fun sg g => ⟨g, (h sg).symm⟩, fun u hu => be_eqi (e1 u hu) (e2 u hu) (e3 u hu) rfl rfl (e6 u hu) (e7 u hu) (e8 u hu) (e9 u hu), fun g => g⟩
theorem be_so2 {ln cO cP cN st bf ps rg fl sn sV sc sv oc ov sn' sV' : Nat → Int32} {t a c : Nat} {v : Int32} (ha : a < 4) (h : ∀ sg, be_in sg ln cO cP cN t (be_xs (ps, rg, fl, sn, sV, sc, sv, oc, ov) t) = (ps t + 1, upd (be_sl rg 4 t) a (be_rd sg (sc t) (be_sl sv 16 t) c), fl t, sc t, be_sl sv 16 t, oc t, be_sl ov 12 t)) (h1 : ∀ sg, be_Ag sn' sV' t sg → be_Ag sn sV t sg ∧ v = be_rd sg (sc t) (be_sl sv 16 t) c) (h2 : ∀ u, u ≠ t → sn' u = sn u ∧ be_sl sV' 16 u = be_sl sV 16 u) (h3 : be_Ag sn sV t (be_vb st sc sv bf t) → be_Ag sn' sV' t (be_vb st sc sv bf t)) : be_SO ln cO cP cN st bf (ps, rg, fl, sn, sV, sc, sv, oc, ov) (upd ps t (ps t + 1), upd rg (4 * t + a) v, fl, sn', sV', sc, sv, oc, ov) t := by
  refine ⟨fun sg g => ⟨(h1 sg g).1, ?_⟩, fun u hu => be_eqi (pk_un hu) (be_slo ha hu) rfl (h2 u hu).1 (h2 u hu).2 rfl rfl rfl rfl, h3⟩
  rw [h sg, ← (h1 sg g).2]
  show (upd ps t (ps t + 1) t, be_sl (upd rg (4 * t + a) v) 4 t, _) = _
  rw [pk_us, be_slu ha]
