theorem be_soR {ln cO cP cN st bf ps rg fl sn sV sc sv oc ov : Nat → Int32} {t a : Nat} {v : Int32} (ha : a < 4) (h : ∀ sg, be_in sg ln cO cP cN t (be_xs (ps, rg, fl, sn, sV, sc, sv, oc, ov) t) = (ps t + 1, upd (be_sl rg 4 t) a v, fl t, sc t, be_sl sv 16 t, oc t, be_sl ov 12 t)) : be_SO ln cO cP cN st bf (ps, rg, fl, sn, sV, sc, sv, oc, ov) (upd ps t (ps t + 1), upd rg (4 * t + a) v, fl, sn, sV, sc, sv, oc, ov) t :=
  be_so1 (fun sg => by rw [h sg, pk_us, be_slu ha]) (fun u hu => pk_un hu) (fun u hu => be_slo ha hu) (fun _ _ => rfl) (fun _ _ => rfl) (fun _ _ => rfl) (fun _ _ => rfl) (fun _ _ => rfl)
theorem be_soP {ln cO cP cN st bf ps ps' rg fl sn sV sc sv oc ov : Nat → Int32} {t : Nat} (h : ∀ sg, be_in sg ln cO cP cN t (be_xs (ps, rg, fl, sn, sV, sc, sv, oc, ov) t) = (ps' t, be_sl rg 4 t, fl t, sc t, be_sl sv 16 t, oc t, be_sl ov 12 t)) (e : ∀ u, u ≠ t → ps' u = ps u) : be_SO ln cO cP cN st bf (ps, rg, fl, sn, sV, sc, sv, oc, ov) (ps', rg, fl, sn, sV, sc, sv, oc, ov) t :=
  be_so1 h e (fun _ _ => rfl) (fun _ _ => rfl) (fun _ _ => rfl) (fun _ _ => rfl) (fun _ _ => rfl) (fun _ _ => rfl)
theorem be_soK {ln cO cP cN st bf ps rg fl sn sV sc sv oc ov : Nat → Int32} {t c : Nat} {b v : Int32} (hc : c < 16) (h : ∀ sg, be_in sg ln cO cP cN t (be_xs (ps, rg, fl, sn, sV, sc, sv, oc, ov) t) = (ps t + 1, be_sl rg 4 t, fl t, b, upd (be_sl sv 16 t) c v, oc t, be_sl ov 12 t)) : be_SO ln cO cP cN st bf (ps, rg, fl, sn, sV, sc, sv, oc, ov) (upd ps t (ps t + 1), rg, fl, sn, sV, upd sc t b, upd sv (16 * t + c) v, oc, ov) t :=
  be_so1 (fun sg => by rw [h sg, pk_us, pk_us, be_slu hc]) (fun u hu => pk_un hu) (fun _ _ => rfl) (fun _ _ => rfl) (fun u hu => pk_un hu) (fun u hu => be_slo hc hu) (fun _ _ => rfl) (fun _ _ => rfl)
theorem be_soO {ln cO cP cN st bf ps rg fl sn sV sc sv oc ov : Nat → Int32} {t q : Nat} {b v : Int32} (hq : q < 12) (h : ∀ sg, be_in sg ln cO cP cN t (be_xs (ps, rg, fl, sn, sV, sc, sv, oc, ov) t) = (ps t + 1, be_sl rg 4 t, fl t, sc t, be_sl sv 16 t, b, upd (be_sl ov 12 t) q v)) : be_SO ln cO cP cN st bf (ps, rg, fl, sn, sV, sc, sv, oc, ov) (upd ps t (ps t + 1), rg, fl, sn, sV, sc, sv, upd oc t b, upd ov (12 * t + q) v) t :=
  be_so1 (fun sg => by rw [h sg, pk_us, pk_us, be_slu hq]) (fun u hu => pk_un hu) (fun _ _ => rfl) (fun _ _ => rfl) (fun _ _ => rfl) (fun _ _ => rfl) (fun u hu => pk_un hu) (fun u hu => be_slo hq hu)
theorem be_soF {ln cO cP cN st bf ps ps' rg fl sn sV sc sv oc ov : Nat → Int32} {t : Nat} {L : Int32} (h : ∀ sg, be_in sg ln cO cP cN t (be_xs (ps, rg, fl, sn, sV, sc, sv, oc, ov) t) = (L, be_sl rg 4 t, 1, 0, be_sl sv 16 t, 0, be_sl ov 12 t)) (e : ∀ u, u ≠ t → ps' u = ps u) : be_SO ln cO cP cN st bf (ps, rg, fl, sn, sV, sc, sv, oc, ov) (upd ps' t L, rg, upd fl t 1, sn, sV, upd sc t 0, sv, upd oc t 0, ov) t :=
  be_so1 (fun sg => by rw [h sg, pk_us, pk_us, pk_us, pk_us]) (fun u hu => (pk_un hu).trans (e u hu)) (fun _ _ => rfl) (fun u hu => pk_un hu) (fun u hu => pk_un hu) (fun _ _ => rfl) (fun u hu => pk_un hu) (fun _ _ => rfl)
theorem be_o12 {o : Nat} (h : o < 12) : o = 0 ∨ o = 1 ∨ o = 2 ∨ o = 3 ∨ o = 4 ∨ o = 5 ∨ o = 6 ∨ o = 7 ∨ o = 8 ∨ o = 9 ∨ o = 10 ∨ o = 11 := by omega
theorem be_co {f_workers f_stage f_count f_settled f_turn : Int32} {a_store a_length a_codeOperation a_codePlaces a_codeNumber a_before a_held a_state a_position a_registers a_failed a_seenCells a_seenValues a_storedCells a_storedValues a_outCount a_outValues : Nat → Int32} {post : SX → Prop} {t p q x o : Nat} (ht : t < 8) (hp : a_position t = nI p) (hp12 : p < 12) (hq : a_outCount t = nI q) (hq2 : q ≤ 12) (hx : x < 16) (ex : a_codePlaces (12 * t + p) = nI x) (ho : o < 12) (eo : a_codeOperation (12 * t + p) = nI o) (h : ∀ A', be_SO a_length a_codeOperation a_codePlaces a_codeNumber a_state a_before (a_position, a_registers, a_failed, a_seenCells, a_seenValues, a_storedCells, a_storedValues, a_outCount, a_outValues) A' t → post (f_workers, f_stage, f_count, f_settled, f_turn, a_store, a_length, a_codeOperation, a_codePlaces, a_codeNumber, a_before, a_held, a_state, A')) : wpX_carryOut post (f_workers, f_stage, f_count, f_settled, f_turn, a_store, a_length, a_codeOperation, a_codePlaces, a_codeNumber, a_before, a_held, a_state, a_position, a_registers, a_failed, a_seenCells, a_seenValues, a_storedCells, a_storedValues, a_outCount, a_outValues) (nI t) := by
  have hi : vp_in (nI t) 8 := vp_in_nI ht (by omega)
  have ec : (nI t).toNatClampNeg = t := nI_clamp (by omega)
  have cp : (nI p).toNatClampNeg = p := nI_clamp (by omega)
  have cx : (nI x).toNatClampNeg = x := nI_clamp (by omega)
  have hx4 : x / 4 < 4 := by omega
  have hm4 : x % 4 < 4 := by omega
  have hin : ∀ sg, be_in sg a_length a_codeOperation a_codePlaces a_codeNumber t (be_xs (a_position, a_registers, a_failed, a_seenCells, a_seenValues, a_storedCells, a_storedValues, a_outCount, a_outValues) t) = be_st sg (a_length t) (nI o) (x / 4) (x % 4) (a_codeNumber (12 * t + p)) (a_position t, be_sl a_registers 4 t, a_failed t, a_storedCells t, be_sl a_storedValues 16 t, a_outCount t, be_sl a_outValues 12 t) := fun sg => by
    show be_st sg (a_length t) (a_codeOperation (12 * t + (a_position t).toNatClampNeg)) ((a_codePlaces (12 * t + (a_position t).toNatClampNeg)).toNatClampNeg / 4) ((a_codePlaces (12 * t + (a_position t).toNatClampNeg)).toNatClampNeg % 4) (a_codeNumber (12 * t + (a_position t).toNatClampNeg)) (a_position t, be_sl a_registers 4 t, a_failed t, a_storedCells t, be_sl a_storedValues 16 t, a_outCount t, be_sl a_outValues 12 t) = _
    rw [show (a_position t).toNatClampNeg = p from by rw [hp]; exact cp, eo, ex, cx]
  refine ⟨hi, fun x2 e2 => ?_⟩
  have e2' : x2 = nI (12 * t + p) := by rw [e2, ec, hp]; exact be_ix 12 t p
  have hi2 : vp_in x2 96 := pk_in (12 * t + p) 96 (by omega) e2'
  have c2 : x2.toNatClampNeg = 12 * t + p := pk_cl _ e2' (by omega)
  refine ⟨hi2, fun x3 e3 => ⟨hi2, fun x4 e4 => ⟨hi2, fun x5 e5 => ⟨hi, hi, fun ps' eps => ⟨hi2, fun k ek => ?_⟩⟩⟩⟩⟩
  clear e2 e2'
  rw [c2] at e3 e4 e5 ek
  rw [ec] at eps
  have e3' : x3 = nI (4 * t + x / 4) := by
    rw [e3, ex, pk_shrN (by omega) _ 2 (by decide)]
    exact be_ix 4 t (x / 4)
  have e4' : x4 = nI (4 * t + x % 4) := by
    rw [e4, ex, pk_andN (by omega) 2 (by decide)]
    exact be_ix 4 t (x % 4)
  have hi3 : vp_in x3 32 := pk_in (4 * t + x / 4) 32 (by omega) e3'
  have c3 : x3.toNatClampNeg = 4 * t + x / 4 := pk_cl _ e3' (by omega)
  have hi4 : vp_in x4 32 := pk_in (4 * t + x % 4) 32 (by omega) e4'
  have c4 : x4.toNatClampNeg = 4 * t + x % 4 := pk_cl _ e4' (by omega)
  have r3 : a_registers (4 * t + x / 4) = be_sl a_registers 4 t (x / 4) := (be_sla hx4).symm
  have r4 : a_registers (4 * t + x % 4) = be_sl a_registers 4 t (x % 4) := (be_sla hm4).symm
  have hk : k = nI o := ek.trans eo
  clear e3 e3' e4 e4' ek hi2 c2
  subst hk eps e5
  rcases be_o12 ho with rfl | rfl | rfl | rfl | rfl | rfl | rfl | rfl | rfl | rfl | rfl | rfl
  · refine br_f (by decide) (br_f (by decide) (br_t (by decide) ⟨hi3, fun rg er => ?_⟩))
    rw [er, c3]
    exact h _ (be_soR hx4 (fun sg => by rw [hin, be_st0]))
  · refine br_f (by decide) (br_f (by decide) (br_f (by decide) (br_t (by decide) ⟨hi3, hi4, hi3, fun rg er => ?_⟩)))
    rw [er, c3, c4, r3, r4]
    exact h _ (be_soR hx4 (fun sg => by rw [hin, be_st1]))
  · refine br_f (by decide) (br_f (by decide) (br_f (by decide) (br_f (by decide) (br_t (by decide) ⟨hi3, hi4, hi3, fun rg er => ?_⟩))))
    rw [er, c3, c4, r3, r4]
    exact h _ (be_soR hx4 (fun sg => by rw [hin, be_st2]))
  · obtain ⟨c, hc, e15⟩ := be_m15 (a_codeNumber (12 * t + p))
    have cc : (nI c).toNatClampNeg = c := nI_clamp (by omega)
    refine br_f (by decide) (br_f (by decide) (br_f (by decide) (br_f (by decide) (br_f (by decide) (br_t (by decide) ?_)))))
    rw [e15]
    refine be_lk ht hc ?_
    intro v sn sV h1 h2 h3
    refine ⟨hi3, fun rg er => ?_⟩
    rw [er, c3]
    exact h _ (be_so2 (c := c) hx4 (fun sg => by rw [hin, be_st3, e15, cc]) h1 h2 h3)
  · obtain ⟨c, hc, e15⟩ := be_m15 (a_codeNumber (12 * t + p))
    have cc : (nI c).toNatClampNeg = c := nI_clamp (by omega)
    refine br_f (by decide) (br_f (by decide) (br_f (by decide) (br_f (by decide) (br_f (by decide) (br_f (by decide) (br_t (by decide) ⟨hi3, ?_⟩))))))
    rw [c3, r3, e15]
    exact be_kp ht hc (h _ (be_soK hc (fun sg => by rw [hin, be_st4, e15, cc])))
  · refine br_f (by decide) (br_f (by decide) (br_f (by decide) (br_f (by decide) (br_f (by decide) (br_f (by decide) (br_f (by decide) (br_t (by decide) ⟨hi3, hi4, hi3, fun rg er => ?_⟩)))))))
    rw [er, c3, c4, r3, r4]
    exact h _ (be_soR hx4 (fun sg => by rw [hin, be_st5]))
  · refine br_f (by decide) (br_f (by decide) (br_f (by decide) (br_f (by decide) (br_f (by decide) (br_f (by decide) (br_f (by decide) (br_f (by decide) (br_t (by decide) ⟨hi3, hi4, ?_⟩))))))))
    rw [c3, c4, r3, r4]
    by_cases z : be_sl a_registers 4 t (x % 4) ≤ be_sl a_registers 4 t (x / 4)
    · exact br_t z (h _ (be_soP (fun sg => by rw [hin, be_st6, if_pos z, pk_us]) (fun u hu => pk_un hu)))
    · refine br_f z ⟨hi, hi, fun ps2 e2 => ?_⟩
      rw [ec, pk_us] at e2
      rw [e2]
      exact h _ (be_soP (fun sg => by rw [hin, be_st6, if_neg z, pk_us]) (fun u hu => (pk_un hu).trans (pk_un hu)))
  · refine br_f (by decide) (br_f (by decide) (br_f (by decide) (br_f (by decide) (br_f (by decide) (br_f (by decide) (br_f (by decide) (br_f (by decide) (br_f (by decide) (br_t (by decide) ⟨hi3, ?_⟩)))))))))
    rw [c3, r3]
    by_cases z : a_codeNumber (12 * t + p) ≤ be_sl a_registers 4 t (x / 4)
    · exact br_t z (h _ (be_soP (fun sg => by rw [hin, be_st7, if_pos z, pk_us]) (fun u hu => pk_un hu)))
    · exact br_f z (be_fa ht (h _ (be_soF (fun sg => by rw [hin, be_st7, if_neg z]) (fun u hu => pk_un hu))))
  · refine br_f (by decide) (br_f (by decide) (br_f (by decide) (br_f (by decide) (br_f (by decide) (br_f (by decide) (br_f (by decide) (br_f (by decide) (br_f (by decide) (br_f (by decide) (br_t (by decide) ⟨hi3, ?_⟩))))))))))
    rw [c3, r3]
    refine be_po ht hq hq2 (fun e => h _ (be_soP (fun sg => ?_) (fun u hu => pk_un hu))) (fun g => h _ (be_soO g (fun sg => ?_)))
    · rw [hin, be_st8, if_pos (by rw [hq, e]; decide), pk_us]
    · rw [hin, be_st8, if_neg (by rw [hq]; exact nI_ge (b := 12) g (by omega)), show (a_outCount t).toNatClampNeg = q from by rw [hq]; exact nI_clamp (by omega)]
  · obtain ⟨c, hc, e15⟩ := be_m15 (be_sl a_registers 4 t (x % 4))
    have cc : (nI c).toNatClampNeg = c := nI_clamp (by omega)
    refine br_f (by decide) (br_f (by decide) (br_f (by decide) (br_f (by decide) (br_f (by decide) (br_f (by decide) (br_f (by decide) (br_f (by decide) (br_f (by decide) (br_f (by decide) (br_f (by decide) (br_t (by decide) ⟨hi4, ?_⟩)))))))))))
    rw [c4, r4, e15]
    refine be_lk ht hc ?_
    intro v sn sV h1 h2 h3
    refine ⟨hi3, fun rg er => ?_⟩
    rw [er, c3]
    exact h _ (be_so2 (c := c) hx4 (fun sg => by rw [hin, be_st9, e15, cc]) h1 h2 h3)
  · obtain ⟨c, hc, e15⟩ := be_m15 (be_sl a_registers 4 t (x % 4))
    have cc : (nI c).toNatClampNeg = c := nI_clamp (by omega)
    refine br_f (by decide) (br_f (by decide) (br_f (by decide) (br_f (by decide) (br_f (by decide) (br_f (by decide) (br_f (by decide) (br_f (by decide) (br_f (by decide) (br_f (by decide) (br_f (by decide) (br_f (by decide) (br_t (by decide) ⟨hi4, hi3, ?_⟩))))))))))))
    rw [c3, c4, r3, r4, e15]
    exact be_kp ht hc (h _ (be_soK hc (fun sg => by rw [hin, be_st10, e15, cc])))
  · refine br_f (by decide) (br_t (by decide) ⟨hi, hi, fun ps2 e2 => ?_⟩)
    rw [ec] at e2
    rw [e2]
    exact h _ (be_soP (fun sg => by rw [hin, be_st11, pk_us]) (fun u hu => (pk_un hu).trans (pk_un hu)))
