theorem be_ys {yf_phase yf_count yf_position yf_failed : Int32} {ya_cells ya_sizes ya_operations ya_places ya_numbers ya_done ya_outs ya_puts ya_stored ya_registers ya_before : Nat → Int32} {post : SY → Prop} {sg reg sv ov : Nat → Int32} {pos bits oc : Int32} {t p q x o l : Nat} (ht : t < 8) (hL : ya_sizes t = nI l) (hl : l ≤ 12) (hp : pos = nI p) (hpl : p < l) (hoc : oc = nI q) (hqp : q ≤ p) (hx : x < 16) (ex : ya_places (12 * t + p) = nI x) (ho : o < 12) (eo : ya_operations (12 * t + p) = nI o) (R : be_YR sg (ya_sizes t) t (pos, reg, 0, bits, sv, oc, ov) yf_position yf_failed ya_cells ya_outs ya_puts ya_stored ya_registers ya_before) (h : ∀ (fp ff : Int32) (ce ou pu so rg : Nat → Int32), be_YR sg (ya_sizes t) t (be_in sg ya_sizes ya_operations ya_places ya_numbers t (pos, reg, 0, bits, sv, oc, ov)) fp ff ce ou pu so rg ya_before → be_YF t ya_outs ya_puts ya_stored ou pu so → post (yf_phase, yf_count, fp, ff, ce, ya_sizes, ya_operations, ya_places, ya_numbers, ya_done, ou, pu, so, rg, ya_before)) : wpY_step post (yf_phase, yf_count, yf_position, yf_failed, ya_cells, ya_sizes, ya_operations, ya_places, ya_numbers, ya_done, ya_outs, ya_puts, ya_stored, ya_registers, ya_before) (nI t) := by
  obtain ⟨ff0, rb, R⟩ := R
  obtain ⟨rp, rr, rc, rs, ro, ru⟩ := R rfl
  have hlt : pos < ya_sizes t := by rw [hp, hL]; exact nI_lt hpl (by omega)
  have rp' : yf_position = pos := by
    rcases rp with g | g
    · exact g
    · exact absurd hlt g.2
  subst hp hoc
  have hi : vp_in (nI t) 8 := vp_in_nI ht (by omega)
  have ct : (nI t).toNatClampNeg = t := nI_clamp (by omega)
  have cp : (nI p).toNatClampNeg = p := nI_clamp (by omega)
  have cx : (nI x).toNatClampNeg = x := nI_clamp (by omega)
  have hx4 : x / 4 < 4 := by omega
  have hm4 : x % 4 < 4 := by omega
  have hin : be_in sg ya_sizes ya_operations ya_places ya_numbers t (nI p, reg, 0, bits, sv, nI q, ov) = be_st sg (ya_sizes t) (nI o) (x / 4) (x % 4) (ya_numbers (12 * t + p)) (nI p, reg, 0, bits, sv, nI q, ov) := by
    show be_st sg (ya_sizes t) (ya_operations (12 * t + (nI p).toNatClampNeg)) ((ya_places (12 * t + (nI p).toNatClampNeg)).toNatClampNeg / 4) ((ya_places (12 * t + (nI p).toNatClampNeg)).toNatClampNeg % 4) (ya_numbers (12 * t + (nI p).toNatClampNeg)) (nI p, reg, 0, bits, sv, nI q, ov) = _
    rw [cp, eo, ex, cx]
  rw [hin] at h
  intro x2 e2
  have e2' : x2 = nI (12 * t + p) := by rw [e2, rp']; exact be_iy 12 t p
  have hi2 : vp_in x2 96 := pk_in (12 * t + p) 96 (by omega) e2'
  have c2 : x2.toNatClampNeg = 12 * t + p := pk_cl _ e2' (by omega)
  clear e2 e2'
  refine ⟨hi2, by decide, fun x3 e3 => ⟨hi2, by decide, fun x4 e4 => ⟨hi2, fun x5 e5 => ⟨hi2, fun x6 e6 => fun y ey => ?_⟩⟩⟩⟩
  rw [c2] at e3 e4 e5 e6
  have e3' : x3 = nI (x / 4) := by rw [e3, ex]; exact pk_div (d := 4) (by omega) (by omega) (by omega)
  have e4' : x4 = nI (x % 4) := by rw [e4, ex]; exact pk_rem (d := 4) (by omega) (by omega) (by omega)
  have e6' : x6 = nI o := e6.trans eo
  have ey' : y = nI p + 1 := by rw [ey, rp']
  clear e3 e4 e6 ey
  subst e3' e4' e5 e6' ey'
  have hi3 : vp_in (nI (x / 4)) 4 := vp_in_nI hx4 (by omega)
  have hi4 : vp_in (nI (x % 4)) 4 := vp_in_nI hm4 (by omega)
  have c3 : (nI (x / 4)).toNatClampNeg = x / 4 := nI_clamp (by omega)
  have c4 : (nI (x % 4)).toNatClampNeg = x % 4 := nI_clamp (by omega)
  have r3 := rr (x / 4) hx4
  have r4 := rr (x % 4) hm4
  have rgw : ∀ v : Int32, be_YR sg (ya_sizes t) t (nI p + 1, upd reg (x / 4) v, 0, bits, sv, nI q, ov) (nI p + 1) yf_failed ya_cells ya_outs ya_puts ya_stored (upd ya_registers (x / 4) v) ya_before := fun v => ⟨ff0, rb, fun _ => ⟨Or.inl rfl, be_updr rr, rc, rs, ro, ru⟩⟩
  rcases be_o12 ho with rfl | rfl | rfl | rfl | rfl | rfl | rfl | rfl | rfl | rfl | rfl | rfl
  · refine br_t (by decide) ⟨hi3, fun y1 e1 => br_f (by decide) (br_f (by decide) (br_f (by decide) (br_f (by decide) (br_f (by decide) (br_f (by decide) (br_f (by decide) (br_f (by decide) (br_f (by decide) (br_f (by decide) (br_f (by decide) (?_)))))))))))⟩
    rw [e1, c3]
    refine h _ _ _ _ _ _ _ ?_ (be_yfr _ _ _ _)
    rw [be_st0]
    exact rgw _
  · refine br_f (by decide) (br_t (by decide) ⟨hi3, hi4, hi3, fun y1 e1 => br_f (by decide) (br_f (by decide) (br_f (by decide) (br_f (by decide) (br_f (by decide) (br_f (by decide) (br_f (by decide) (br_f (by decide) (br_f (by decide) (br_f (by decide) (?_))))))))))⟩)
    rw [e1, c3, c4, r3, r4]
    refine h _ _ _ _ _ _ _ ?_ (be_yfr _ _ _ _)
    rw [be_st1]
    exact rgw _
  · refine br_f (by decide) (br_f (by decide) (br_t (by decide) ⟨hi3, hi4, hi3, fun y1 e1 => br_f (by decide) (br_f (by decide) (br_f (by decide) (br_f (by decide) (br_f (by decide) (br_f (by decide) (br_f (by decide) (br_f (by decide) (br_f (by decide) (?_)))))))))⟩))
    rw [e1, c3, c4, r3, r4]
    refine h _ _ _ _ _ _ _ ?_ (be_yfr _ _ _ _)
    rw [be_st2]
    exact rgw _
  · obtain ⟨c, hc, e15⟩ := be_m15 (ya_numbers (12 * t + p))
    have cc : (nI c).toNatClampNeg = c := nI_clamp (by omega)
    refine br_f (by decide) (br_f (by decide) (br_f (by decide) (br_t (by decide) ⟨?_, hi3, fun y1 e1 => br_f (by decide) (br_f (by decide) (br_f (by decide) (br_f (by decide) (br_f (by decide) (br_f (by decide) (br_f (by decide) (br_f (by decide) (?_))))))))⟩)))
    · rw [e15]
      exact vp_in_nI hc (by omega)
    · rw [e1, c3, e15, cc, rc c hc]
      refine h _ _ _ _ _ _ _ ?_ (be_yfr _ _ _ _)
      rw [be_st3, e15, cc]
      exact rgw _
  · obtain ⟨c, hc, e15⟩ := be_m15 (ya_numbers (12 * t + p))
    have cc : (nI c).toNatClampNeg = c := nI_clamp (by omega)
    refine br_f (by decide) (br_f (by decide) (br_f (by decide) (br_f (by decide) (br_t (by decide) ⟨hi3, ?_⟩))))
    rw [c3, r3, e15]
    refine be_yst ht hc ?_
    refine br_f (by decide) (br_f (by decide) (br_f (by decide) (br_f (by decide) (br_f (by decide) (br_f (by decide) (br_f (by decide) (?_)))))))
    refine h _ _ _ _ _ _ _ ?_ (fun u hu => ⟨rfl, pk_un hu, rfl⟩)
    · rw [be_st4, e15, cc]
      refine ⟨ff0, rb, fun _ => ⟨Or.inl rfl, rr, fun j hj => ?_, ?_, ro, ru⟩⟩
      · rw [be_rds hc hj]
        by_cases e : j = c
        · rw [if_pos e, e, pk_us]
        · rw [if_neg e, pk_un e]
          exact rc j hj
      · rw [pk_us, rs]
  · refine br_f (by decide) (br_f (by decide) (br_f (by decide) (br_f (by decide) (br_f (by decide) (br_t (by decide) ⟨hi3, hi4, hi3, fun y1 e1 => br_f (by decide) (br_f (by decide) (br_f (by decide) (br_f (by decide) (br_f (by decide) (br_f (by decide) (?_))))))⟩)))))
    rw [e1, c3, c4, r3, r4]
    refine h _ _ _ _ _ _ _ ?_ (be_yfr _ _ _ _)
    rw [be_st5]
    exact rgw _
  · refine br_f (by decide) (br_f (by decide) (br_f (by decide) (br_f (by decide) (br_f (by decide) (br_f (by decide) (br_t (by decide) ⟨hi3, hi4, ?_⟩))))))
    rw [c3, c4, r3, r4]
    by_cases z : reg (x % 4) ≤ reg (x / 4)
    · refine br_t z (br_f (by decide) (br_f (by decide) (br_f (by decide) (br_f (by decide) (br_f (by decide) (?_))))))
      refine h _ _ _ _ _ _ _ ?_ (be_yfr _ _ _ _)
      rw [be_st6, if_pos z]
      exact ⟨ff0, rb, fun _ => ⟨Or.inl rfl, rr, rc, rs, ro, ru⟩⟩
    · refine br_f z fun y1 e1 => br_f (by decide) (br_f (by decide) (br_f (by decide) (br_f (by decide) (br_f (by decide) (?_)))))
      rw [e1]
      refine h _ _ _ _ _ _ _ ?_ (be_yfr _ _ _ _)
      rw [be_st6, if_neg z]
      exact ⟨ff0, rb, fun _ => ⟨Or.inl rfl, rr, rc, rs, ro, ru⟩⟩
  · refine br_f (by decide) (br_f (by decide) (br_f (by decide) (br_f (by decide) (br_f (by decide) (br_f (by decide) (br_f (by decide) (br_t (by decide) ⟨hi3, ?_⟩)))))))
    rw [c3, r3]
    by_cases z : ya_numbers (12 * t + p) ≤ reg (x / 4)
    · refine br_t z (br_f (by decide) (br_f (by decide) (br_f (by decide) (br_f (by decide) (?_)))))
      refine h _ _ _ _ _ _ _ ?_ (be_yfr _ _ _ _)
      rw [be_st7, if_pos z]
      exact ⟨ff0, rb, fun _ => ⟨Or.inl rfl, rr, rc, rs, ro, ru⟩⟩
    · refine br_f z (br_f (by decide) (br_f (by decide) (br_f (by decide) (br_f (by decide) (?_)))))
      refine h _ _ _ _ _ _ _ ?_ (be_yfr _ _ _ _)
      rw [be_st7, if_neg z]
      exact ⟨rfl, rb, fun q => absurd q (by decide)⟩
  · have e12 : 12 * nI t + ya_outs t = nI (12 * t + q) := by rw [ro]; exact be_iy 12 t q
    have e12c : (12 * nI t + ya_outs t).toNatClampNeg = 12 * t + q := pk_cl _ e12 (by omega)
    refine br_f (by decide) (br_f (by decide) (br_f (by decide) (br_f (by decide) (br_f (by decide) (br_f (by decide) (br_f (by decide) (br_f (by decide) (br_t (by decide) ⟨hi, hi3, ?_, fun y1 e1 => ⟨hi, hi, fun y2 e2 => br_f (by decide) (br_f (by decide) (br_f (by decide) (?_)))⟩⟩))))))))
    · rw [ct]
      exact pk_in (12 * t + q) 96 (by omega) e12
    · rw [e2, e1, ct, e12c, c3, r3]
      refine h _ _ _ _ _ _ _ ?_ (fun u hu => ⟨pk_un hu, rfl, be_slo (by omega) hu⟩)
      rw [be_st8, if_neg (show ¬ (12 : Int32) ≤ nI q from nI_ge (b := 12) (by omega) (by omega)), nI_clamp (n := q) (by omega)]
      refine ⟨ff0, rb, fun _ => ⟨Or.inl rfl, rr, rc, rs, ?_, fun k q' eq' hq' hk => ?_⟩⟩
      · rw [pk_us, ro]
      · rw [nI_1, nI_eq (by omega) (by omega)] at eq'
        by_cases e : k = q
        · rw [e, pk_us, pk_us]
        · rw [pk_un (by omega), pk_un e]
          exact ru k q rfl (by omega) (by omega)
  · obtain ⟨c, hc, e15⟩ := be_m15 (reg (x % 4))
    have cc : (nI c).toNatClampNeg = c := nI_clamp (by omega)
    refine br_f (by decide) (br_f (by decide) (br_f (by decide) (br_f (by decide) (br_f (by decide) (br_f (by decide) (br_f (by decide) (br_f (by decide) (br_f (by decide) (br_t (by decide) ⟨hi4, ?_, hi3, fun y1 e1 => br_f (by decide) (br_f (by decide) (?_))⟩)))))))))
    · rw [c4, r4, e15]
      exact vp_in_nI hc (by omega)
    · rw [e1, c3, c4, r4, e15, cc, rc c hc]
      refine h _ _ _ _ _ _ _ ?_ (be_yfr _ _ _ _)
      rw [be_st9, e15, cc]
      exact rgw _
  · obtain ⟨c, hc, e15⟩ := be_m15 (reg (x % 4))
    have cc : (nI c).toNatClampNeg = c := nI_clamp (by omega)
    refine br_f (by decide) (br_f (by decide) (br_f (by decide) (br_f (by decide) (br_f (by decide) (br_f (by decide) (br_f (by decide) (br_f (by decide) (br_f (by decide) (br_f (by decide) (br_t (by decide) ⟨hi4, hi3, ?_⟩))))))))))
    rw [c3, c4, r3, r4, e15]
    refine be_yst ht hc ?_
    refine br_f (by decide) (?_)
    refine h _ _ _ _ _ _ _ ?_ (fun u hu => ⟨rfl, pk_un hu, rfl⟩)
    · rw [be_st10, e15, cc]
      refine ⟨ff0, rb, fun _ => ⟨Or.inl rfl, rr, fun j hj => ?_, ?_, ro, ru⟩⟩
      · rw [be_rds hc hj]
        by_cases e : j = c
        · rw [if_pos e, e, pk_us]
        · rw [if_neg e, pk_un e]
          exact rc j hj
      · rw [pk_us, rs]
  · refine br_f (by decide) (br_f (by decide) (br_f (by decide) (br_f (by decide) (br_f (by decide) (br_f (by decide) (br_f (by decide) (br_f (by decide) (br_f (by decide) (br_f (by decide) (br_f (by decide) (br_t (by decide) ?_)))))))))))
    refine h _ _ _ _ _ _ _ ?_ (be_yfr _ _ _ _)
    rw [be_st11]
    refine ⟨ff0, rb, fun _ => ⟨Or.inr ⟨?_, Int32.lt_irrefl⟩, rr, rc, rs, ro, ru⟩⟩
    rw [hL]
    exact nI_nlt (a := 12) hl (by omega)
