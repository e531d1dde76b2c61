/-! settle, take, goOn, makeSteps -/
theorem be_se {f_workers f_stage f_count f_settled f_turn : Int32} {a_store a_length a_codeOperation a_codePlaces a_codeNumber a_before a_held a_state a_position a_registers a_failed a_seenCells a_seenValues a_storedCells a_storedValues a_outCount a_outValues : Nat → Int32} {post : SX → Prop} {W m s r : Nat} (hm8 : m ≤ 8) (hs : f_settled = nI s) (hsm : s < m) (J : be_J W m s r a_length a_codeOperation a_codePlaces a_codeNumber a_before a_held a_state (a_position, a_registers, a_failed, a_seenCells, a_seenValues, a_storedCells, a_storedValues, a_outCount, a_outValues)) (z : a_state s = 2) (h : ∀ (s' r' : Nat) (st : Nat → Int32), be_J W m s' r' a_length a_codeOperation a_codePlaces a_codeNumber a_before a_held st (a_position, a_registers, a_failed, a_seenCells, a_seenValues, a_storedCells, a_storedValues, a_outCount, a_outValues) → be_mu m s' r' st a_position < be_mu m s r a_state a_position → post (f_workers, f_stage, f_count, nI s', f_turn, a_store, a_length, a_codeOperation, a_codePlaces, a_codeNumber, a_before, a_held, st, a_position, a_registers, a_failed, a_seenCells, a_seenValues, a_storedCells, a_storedValues, a_outCount, a_outValues)) : wpX_settle post (f_workers, f_stage, f_count, f_settled, f_turn, a_store, a_length, a_codeOperation, a_codePlaces, a_codeNumber, a_before, a_held, a_state, a_position, a_registers, a_failed, a_seenCells, a_seenValues, a_storedCells, a_storedValues, a_outCount, a_outValues) := by
  subst hs
  have hi : vp_in (nI s) 8 := vp_in_nI (by omega) (by omega)
  have cs : (nI s).toNatClampNeg = s := nI_clamp (by omega)
  unfold wpX_settle
  dsimp only
  refine be_ss (by omega) (fun g => ?_) (fun g => ?_)
  · refine br_f (by decide) ⟨hi, fun st est y ey => ?_⟩
    have c := be_cA hsm J z g
    rw [est, ey, nI_1, cs]
    exact h _ _ _ c.1 c.2
  · refine br_t rfl ⟨hi, fun st est => ?_⟩
    have c := be_cB hsm J z g
    rw [est, cs]
    exact h _ _ _ c.1 c.2
theorem be_tk {f_workers f_stage f_count f_settled f_turn : Int32} {a_store a_length a_codeOperation a_codePlaces a_codeNumber a_before a_held a_state a_position a_registers a_failed a_seenCells a_seenValues a_storedCells a_storedValues a_outCount a_outValues : Nat → Int32} {post : SX → Prop} {W m s r w t : Nat} (C : be_C W m a_length a_codeOperation a_codePlaces) (J : be_J W m s r a_length a_codeOperation a_codePlaces a_codeNumber a_before a_held a_state (a_position, a_registers, a_failed, a_seenCells, a_seenValues, a_storedCells, a_storedValues, a_outCount, a_outValues)) (hw : w < W) (hf : a_held w = -1) (h1 : s ≤ t) (h2 : t < m) (h3 : a_state t = 0) (h : ∀ (hd st : Nat → Int32) (A : be_A), be_J W m s r a_length a_codeOperation a_codePlaces a_codeNumber a_before hd st A → be_mu m s r st (be_ps A) < be_mu m s r a_state a_position → post (f_workers, f_stage, f_count, f_settled, f_turn, a_store, a_length, a_codeOperation, a_codePlaces, a_codeNumber, a_before, hd, st, A)) : wpX_take post (f_workers, f_stage, f_count, f_settled, f_turn, a_store, a_length, a_codeOperation, a_codePlaces, a_codeNumber, a_before, a_held, a_state, a_position, a_registers, a_failed, a_seenCells, a_seenValues, a_storedCells, a_storedValues, a_outCount, a_outValues) (nI w) (nI t) := by
  have hW8 : W ≤ 8 := C.2.1
  have hm8 : m ≤ 8 := C.2.2.1
  have hit : vp_in (nI t) 8 := vp_in_nI (by omega) (by omega)
  have ct : (nI t).toNatClampNeg = t := nI_clamp (by omega)
  have hiw : vp_in (nI w) 8 := vp_in_nI (by omega) (by omega)
  have cw : (nI w).toNatClampNeg = w := nI_clamp (by omega)
  unfold wpX_take
  dsimp only
  refine be_cl (by omega) ?_
  intro rg hr1 hr2
  refine ⟨hit, fun st est => ⟨hiw, fun hd ehd => ?_⟩⟩
  rw [est, ehd, ct, cw]
  have e1 : be_xs (upd a_position t 0, rg, upd a_failed t 0, upd a_seenCells t 0, a_seenValues, upd a_storedCells t 0, a_storedValues, upd a_outCount t 0, a_outValues) t = be_c0 (be_sl a_storedValues 16 t) (be_sl a_outValues 12 t) := by
    show (upd a_position t 0 t, be_sl rg 4 t, upd a_failed t 0 t, upd a_storedCells t 0 t, be_sl a_storedValues 16 t, upd a_outCount t 0 t, be_sl a_outValues 12 t) = (0, fun _ => 0, 0, 0, be_sl a_storedValues 16 t, 0, be_sl a_outValues 12 t)
    rw [hr1, pk_us, pk_us, pk_us, pk_us]
  have c := be_cC C J h1 h2 hw h3 hf e1 pk_us (fun v hv => be_eqi (pk_un hv) (hr2 v hv) (pk_un hv) (pk_un hv) rfl (pk_un hv) rfl (pk_un hv) rfl)
  exact h _ _ _ c.1 c.2
theorem be_s39 {f_workers f_stage f_count f_settled f_turn : Int32} {a_store a_length a_codeOperation a_codePlaces a_codeNumber a_before a_held a_state a_position a_registers a_failed a_seenCells a_seenValues a_storedCells a_storedValues a_outCount a_outValues : Nat → Int32} {post : SX → Prop} {w t : Nat} (hw : w < 8) (ht : t < 8) (h1 : a_position t < a_length t → post (f_workers, f_stage, f_count, f_settled, f_turn, a_store, a_length, a_codeOperation, a_codePlaces, a_codeNumber, a_before, a_held, a_state, a_position, a_registers, a_failed, a_seenCells, a_seenValues, a_storedCells, a_storedValues, a_outCount, a_outValues)) (h2 : ¬ a_position t < a_length t → post (f_workers, f_stage, f_count, f_settled, f_turn, a_store, a_length, a_codeOperation, a_codePlaces, a_codeNumber, a_before, upd a_held w (-1), upd a_state t 2, a_position, a_registers, a_failed, a_seenCells, a_seenValues, a_storedCells, a_storedValues, a_outCount, a_outValues)) : wX_goOn_33 post (nI w) (nI t) f_workers f_stage f_count f_settled f_turn a_store a_length a_codeOperation a_codePlaces a_codeNumber a_before a_held a_state a_position a_registers a_failed a_seenCells a_seenValues a_storedCells a_storedValues a_outCount a_outValues := by
  have hi : vp_in (nI t) 8 := vp_in_nI ht (by omega)
  have ct : (nI t).toNatClampNeg = t := nI_clamp (by omega)
  have hiw : vp_in (nI w) 8 := vp_in_nI hw (by omega)
  have cw : (nI w).toNatClampNeg = w := nI_clamp (by omega)
  refine ⟨hi, hi, ?_⟩
  rw [ct]
  by_cases z : a_position t < a_length t
  · exact br_t z (h1 z)
  · refine br_f z ⟨hi, fun st est => ⟨hiw, fun hd ehd => ?_⟩⟩
    rw [est, ehd, cw]
    exact h2 z
theorem be_upds {f : Nat → Int32} {t : Nat} {x : Int32} (h : f t = x) : f = upd f t x := by
  funext j
  by_cases e : j = t
  · rw [e, pk_us]
    exact h
  · rw [pk_un e]
theorem be_gO {f_workers f_stage f_count f_settled f_turn : Int32} {a_store a_length a_codeOperation a_codePlaces a_codeNumber a_before a_held a_state a_position a_registers a_failed a_seenCells a_seenValues a_storedCells a_storedValues a_outCount a_outValues : Nat → Int32} {post : SX → Prop} {W m s r w : Nat} (C : be_C W m a_length a_codeOperation a_codePlaces) (J : be_J W m s r a_length a_codeOperation a_codePlaces a_codeNumber a_before a_held a_state (a_position, a_registers, a_failed, a_seenCells, a_seenValues, a_storedCells, a_storedValues, a_outCount, a_outValues)) (hw : w < W) (z : ¬ a_held w = -1) (h : ∀ (hd st : Nat → Int32) (A : be_A), be_J W m s r a_length a_codeOperation a_codePlaces a_codeNumber a_before hd st A → be_mu m s r st (be_ps A) < be_mu m s r a_state a_position → post (f_workers, f_stage, f_count, f_settled, f_turn, a_store, a_length, a_codeOperation, a_codePlaces, a_codeNumber, a_before, hd, st, A)) : wpX_goOn post (f_workers, f_stage, f_count, f_settled, f_turn, a_store, a_length, a_codeOperation, a_codePlaces, a_codeNumber, a_before, a_held, a_state, a_position, a_registers, a_failed, a_seenCells, a_seenValues, a_storedCells, a_storedValues, a_outCount, a_outValues) (nI w) := by
  have hW8 : W ≤ 8 := C.2.1
  have hm8 : m ≤ 8 := C.2.2.1
  have hiw : vp_in (nI w) 8 := vp_in_nI (by omega) (by omega)
  have cw : (nI w).toNatClampNeg = w := nI_clamp (by omega)
  refine ⟨hiw, fun x3 e3 => ?_⟩
  rw [cw] at e3
  have I := J.1
  rcases I.2.2.2.2.2.2.2.1 w (by omega) with q | ⟨t, q, q1, q2, q3⟩
  · exact absurd q z
  · have ht : t < 8 := by omega
    have hit : vp_in (nI t) 8 := vp_in_nI ht (by omega)
    have ct : (nI t).toNatClampNeg = t := nI_clamp (by omega)
    have e3' : x3 = nI t := e3.trans q
    subst e3'
    clear e3
    have Hx := I.2.2.2.2.1 t q2 (by rw [q3]; decide)
    obtain ⟨l, hl12, hL⟩ := C.2.2.2.1 t ht
    obtain ⟨p, oq, hp, hoq, _, hoq12, hp13, _⟩ := be_hxB hL hl12 Hx
    have hend : be_HD W m s (upd a_held w (-1)) (upd a_state t 2) := be_hdD hW8 hm8 hw q2 q I.2.2.2.2.2.2.2
    refine br_f (be_nm t ht) ⟨hit, hit, ?_⟩
    rw [ct]
    by_cases zz : a_length t ≤ a_position t
    · refine br_t zz (be_s39 (by omega) ht (fun g => absurd g (Int32.not_lt.mpr zz)) (fun g => ?_))
      have c := be_cD (A' := (a_position, a_registers, a_failed, a_seenCells, a_seenValues, a_storedCells, a_storedValues, a_outCount, a_outValues)) C J q1 q2 q3 (Or.inr ⟨rfl, g⟩) rfl Hx (fun g => g) (fun v _ => be_eqr _ v) hend
      exact h _ _ _ c.1 c.2
    · have hlt : a_position t < a_length t := Int32.not_le.mp zz
      have hpl : p < l := by
        have g : a_position t < a_length t := hlt
        rw [show a_position t = nI p from hp, hL, nI_ltI (by omega) (by omega)] at g
        exact g
      obtain ⟨x, hx, ex⟩ := C.2.2.2.2.1 (12 * t + p)
      obtain ⟨o, ho, eo⟩ := C.2.2.2.2.2 (12 * t + p)
      refine br_f zz (be_co ht hp (by omega) hoq hoq12 hx ex ho eo ?_)
      intro A' S
      have Hx' := be_hxS S hlt Hx
      obtain ⟨ps, rg, fl, sn, sV, sc, sv, oc, ov⟩ := A'
      obtain ⟨p', hp', hpp, hp13'⟩ : ∃ p', ps t = nI p' ∧ p < p' ∧ p' ≤ 13 := by
        have e := (S.1 (fun c => sV (16 * t + c)) (fun c _ _ => rfl)).2
        have g := be_grow (sg := fun c => sV (16 * t + c)) (L := a_length t) (op := a_codeOperation (12 * t + (a_position t).toNatClampNeg)) (n := a_codeNumber (12 * t + (a_position t).toNatClampNeg)) (a := (a_codePlaces (12 * t + (a_position t).toNatClampNeg)).toNatClampNeg / 4) (b := (a_codePlaces (12 * t + (a_position t).toNatClampNeg)).toNatClampNeg % 4) (s := be_xs (a_position, a_registers, a_failed, a_seenCells, a_seenValues, a_storedCells, a_storedValues, a_outCount, a_outValues) t) hL hl12 hp hpl
        obtain ⟨p', g1, g2⟩ := g
        exact ⟨p', (congrArg (fun s : be_S => s.1) e).trans g1, g2⟩
      refine be_s39 (by omega) ht (fun g => ?_) (fun g => ?_)
      · have hl' : p' < l := by
          have g' : ps t < a_length t := g
          rw [hp', hL, nI_ltI (by omega) (by omega)] at g'
          exact g'
        have c := be_cD (A' := (ps, rg, fl, sn, sV, sc, sv, oc, ov)) (hd' := a_held) C J q1 q2 q3 (Or.inl ⟨rfl, by show (ps t).toNatClampNeg ≤ 12; rw [hp', nI_clamp (by omega)]; omega, by show (a_position t).toNatClampNeg < (ps t).toNatClampNeg; rw [hp', show a_position t = nI p from hp, nI_clamp (by omega), nI_clamp (by omega)]; exact hpp⟩) (be_upds q3) Hx' S.2.2 S.2.1 I.2.2.2.2.2.2.2
        exact h _ _ _ c.1 c.2
      · have c := be_cD (A' := (ps, rg, fl, sn, sV, sc, sv, oc, ov)) C J q1 q2 q3 (Or.inr ⟨rfl, g⟩) rfl Hx' S.2.2 S.2.1 hend
        exact h _ _ _ c.1 c.2
abbrev be_JT : Type := Int32 → Int32 → Int32 → Int32 → Int32 → Int32 → Int32 → (Nat → Int32) → (Nat → Int32) → (Nat → Int32) → (Nat → Int32) → (Nat → Int32) → (Nat → Int32) → (Nat → Int32) → (Nat → Int32) → (Nat → Int32) → (Nat → Int32) → (Nat → Int32) → (Nat → Int32) → (Nat → Int32) → (Nat → Int32) → (Nat → Int32) → (Nat → Int32) → (Nat → Int32) → Prop
theorem be_m90 {f_workers f_stage f_count f_settled f_turn : Int32} {a_store a_length a_codeOperation a_codePlaces a_codeNumber a_before a_held a_state a_position a_registers a_failed a_seenCells a_seenValues a_storedCells a_storedValues a_outCount a_outValues : Nat → Int32} {post : SX → Prop} {J5 : be_JT} {W m s r tn w0 i : Nat} {x2 x3 : Int32} (C : be_C W m a_length a_codeOperation a_codePlaces) (hW : f_workers = nI W) (hs : f_settled = nI s) (ht : f_turn = nI tn) (htn : tn ≤ W) (J : be_J W m s r a_length a_codeOperation a_codePlaces a_codeNumber a_before a_held a_state (a_position, a_registers, a_failed, a_seenCells, a_seenValues, a_storedCells, a_storedValues, a_outCount, a_outValues)) (h0 : w0 < W) (hb : ¬ a_held w0 = -1) (h : ∀ (s' r' tn' : Nat) (x3' : Int32) (hd st ps rg fl sn sV sc sv oc ov : Nat → Int32), tn' ≤ W → be_J W m s' r' a_length a_codeOperation a_codePlaces a_codeNumber a_before hd st (ps, rg, fl, sn, sV, sc, sv, oc, ov) → be_mu m s' r' st ps < be_mu m s r a_state a_position → J5 x3' (nI (i + 1)) f_workers f_stage f_count (nI s') (nI tn') a_store a_length a_codeOperation a_codePlaces a_codeNumber a_before hd st ps rg fl sn sV sc sv oc ov) : wX_makeSteps_90 post J5 x2 x3 (nI i) f_workers f_stage f_count f_settled f_turn a_store a_length a_codeOperation a_codePlaces a_codeNumber a_before a_held a_state a_position a_registers a_failed a_seenCells a_seenValues a_storedCells a_storedValues a_outCount a_outValues := by
  subst hs
  obtain ⟨f, hf, ef⟩ := be_m7 x3
  unfold wX_makeSteps_90
  rw [ef]
  refine be_nb hW C.2.1 ht htn hf h0 hb (fun w hw hb' => ?_)
  refine be_gO C J hw hb' (fun hd st A J' g => ?_)
  obtain ⟨ps, rg, fl, sn, sV, sc, sv, oc, ov⟩ := A
  intro y1 e1 y2 e2 y3 e3
  rw [e1, e3, nI_1, nI_1]
  exact h s r (w + 1) y2 hd st ps rg fl sn sV sc sv oc ov hw J' g
theorem be_m67 {f_workers f_stage f_count f_settled f_turn : Int32} {a_store a_length a_codeOperation a_codePlaces a_codeNumber a_before a_held a_state a_position a_registers a_failed a_seenCells a_seenValues a_storedCells a_storedValues a_outCount a_outValues : Nat → Int32} {post : SX → Prop} {J5 : be_JT} {W m s r tn w i : Nat} {x2 x3 x6 : Int32} (C : be_C W m a_length a_codeOperation a_codePlaces) (hW : f_workers = nI W) (hs : f_settled = nI s) (ht : f_turn = nI tn) (htn : tn ≤ W) (hsm : s < m) (J : be_J W m s r a_length a_codeOperation a_codePlaces a_codeNumber a_before a_held a_state (a_position, a_registers, a_failed, a_seenCells, a_seenValues, a_storedCells, a_storedValues, a_outCount, a_outValues)) (hw : w < W) (hf : a_held w = -1) (h2 : ¬ a_state s = 2) (hx : (x6 = -1 ∧ ∀ t, s ≤ t → t < m → ¬ a_state t = 0) ∨ ∃ t, x6 = nI t ∧ s ≤ t ∧ t < m ∧ a_state t = 0) (h : ∀ (s' r' tn' : Nat) (x3' : Int32) (hd st ps rg fl sn sV sc sv oc ov : Nat → Int32), tn' ≤ W → be_J W m s' r' a_length a_codeOperation a_codePlaces a_codeNumber a_before hd st (ps, rg, fl, sn, sV, sc, sv, oc, ov) → be_mu m s' r' st ps < be_mu m s r a_state a_position → J5 x3' (nI (i + 1)) f_workers f_stage f_count (nI s') (nI tn') a_store a_length a_codeOperation a_codePlaces a_codeNumber a_before hd st ps rg fl sn sV sc sv oc ov) : wX_makeSteps_67 post J5 x2 x3 (nI i) (nI w) x6 f_workers f_stage f_count f_settled f_turn a_store a_length a_codeOperation a_codePlaces a_codeNumber a_before a_held a_state a_position a_registers a_failed a_seenCells a_seenValues a_storedCells a_storedValues a_outCount a_outValues := by
  have hm8 : m ≤ 8 := C.2.2.1
  have hW8 : W ≤ 8 := C.2.1
  refine br_f (be_nm w (by omega)) ?_
  rcases hx with ⟨q1, q2⟩ | ⟨t, q1, q2, q3, q4⟩
  · rcases J.1.2.2.1 s (Nat.le_refl s) hsm with g | g | g
    · exact absurd g (q2 s (Nat.le_refl s) hsm)
    · obtain ⟨w0, hw0, e⟩ := J.1.2.2.2.2.2.2.2.2.2 s hsm g
      exact br_t q1 (be_m90 C hW hs ht htn J hw0 (by rw [e]; exact be_nm s (by omega)) h)
    · exact absurd g h2
  · subst q1 hs ht
    refine br_f (be_nm t (by omega)) ?_
    refine be_tk C J hw hf q2 q3 q4 (fun hd st A J' g => ?_)
    obtain ⟨ps, rg, fl, sn, sV, sc, sv, oc, ov⟩ := A
    intro y1 e1
    rw [e1, nI_1]
    exact h s r tn x3 hd st ps rg fl sn sV sc sv oc ov htn J' g
theorem be_mk5 {f_workers f_stage f_count : Int32} {a_store a_length a_codeOperation a_codePlaces a_codeNumber a_before : Nat → Int32} {post : SX → Prop} {W m : Nat} {x2 : Int32} (C : be_C W m a_length a_codeOperation a_codePlaces) (hW : f_workers = nI W) (hc : f_count = nI m) (h : ∀ (s r tn : Nat) (hd st : Nat → Int32) (A : be_A), tn ≤ W → be_J W m s r a_length a_codeOperation a_codePlaces a_codeNumber a_before hd st A → (x2 = 100000 → s = m) → post (f_workers, f_stage, f_count, nI s, nI tn, a_store, a_length, a_codeOperation, a_codePlaces, a_codeNumber, a_before, hd, st, A)) : ∀ (d i s r tn : Nat) (x3 : Int32) (hd st ps rg fl sn sV sc sv oc ov : Nat → Int32), i + d = 100000 → tn ≤ W → be_J W m s r a_length a_codeOperation a_codePlaces a_codeNumber a_before hd st (ps, rg, fl, sn, sV, sc, sv, oc, ov) → i + be_mu m s r st ps ≤ 100000 → wX_makeSteps_5 post x2 (d + 1) x3 (nI i) f_workers f_stage f_count (nI s) (nI tn) a_store a_length a_codeOperation a_codePlaces a_codeNumber a_before hd st ps rg fl sn sV sc sv oc ov := by
  have hm8 : m ≤ 8 := C.2.2.1
  intro d
  induction d with
  | zero =>
    intro i s r tn x3 hd st ps rg fl sn sV sc sv oc ov hd0 htn J hmu
    have hsm : s ≤ m := J.1.1
    have he : s = m := by
      unfold be_mu at hmu
      omega
    by_cases z : x2 ≤ nI i
    · exact br_t z (h s r tn hd st _ htn J (fun _ => he))
    · exact br_f z (br_t (nI_le (a := 100000) (by omega) (by omega)) (h s r tn hd st _ htn J (fun _ => he)))
  | succ d ih =>
    intro i s r tn x3 hd st ps rg fl sn sV sc sv oc ov hd0 htn J hmu
    have hsm : s ≤ m := J.1.1
    by_cases z : x2 ≤ nI i
    · refine br_t z (h s r tn hd st _ htn J (fun e => ?_))
      rw [e] at z
      exact absurd z (nI_ge (b := 100000) (by omega) (by omega))
    · refine br_f z (br_f (nI_ge (b := 100000) (by omega) (by omega)) ?_)
      by_cases zs : s = m
      · refine br_t ?_ (h s r tn hd st _ htn J (fun _ => zs))
        rw [hc]
        exact nI_le (by omega) (by omega)
      · refine br_f ?_ ?_
        · rw [hc]
          exact nI_ge (by omega) (by omega)
        · have hlt : s < m := by omega
          have hn : ∀ (s' r' tn' : Nat) (x3' : Int32) (hd' st' ps' rg' fl' sn' sV' sc' sv' oc' ov' : Nat → Int32), tn' ≤ W → be_J W m s' r' a_length a_codeOperation a_codePlaces a_codeNumber a_before hd' st' (ps', rg', fl', sn', sV', sc', sv', oc', ov') → be_mu m s' r' st' ps' < be_mu m s r st ps → wX_makeSteps_5 post x2 (d + 1) x3' (nI (i + 1)) f_workers f_stage f_count (nI s') (nI tn') a_store a_length a_codeOperation a_codePlaces a_codeNumber a_before hd' st' ps' rg' fl' sn' sV' sc' sv' oc' ov' := fun s' r' tn' x3' hd' st' ps' rg' fl' sn' sV' sc' sv' oc' ov' h1 J' g => ih (i + 1) s' r' tn' x3' hd' st' ps' rg' fl' sn' sV' sc' sv' oc' ov' (by omega) h1 J' (by omega)
          clear ih
          refine be_ff hW C.2.1 (fun g => ?_) (fun w hw hf => ?_)
          · have hW1 : 1 ≤ W := C.1
            refine be_fw hm8 hsm rfl hc (fun _ => ?_) (fun t _ _ _ => ?_)
            · exact br_t rfl (br_t rfl (be_m90 C hW rfl rfl htn J hW1 (g 0 hW1) hn))
            · exact br_t rfl (br_t rfl (be_m90 C hW rfl rfl htn J hW1 (g 0 hW1) hn))
          · have hW8 : W ≤ 8 := C.2.1
            have his : vp_in (nI s) 8 := vp_in_nI (by omega) (by omega)
            have cs : (nI s).toNatClampNeg = s := nI_clamp (by omega)
            by_cases z2 : st s = 2
            · have hse : ∀ x : Int32, (nI w = -1 → wX_makeSteps_67 post (wX_makeSteps_5 post x2 (d + 1)) x2 x3 (nI i) (nI w) x f_workers f_stage f_count (nI s) (nI tn) a_store a_length a_codeOperation a_codePlaces a_codeNumber a_before hd st ps rg fl sn sV sc sv oc ov) := fun x q => absurd q (be_nm w (by omega))
              refine be_fw hm8 hsm rfl hc (fun _ => ⟨hse _, fun _ => ⟨his, ?_⟩⟩) (fun t _ _ _ => ⟨hse _, fun _ => ⟨his, ?_⟩⟩)
              · refine br_t (by rw [cs]; exact z2) (be_se hm8 rfl hlt J z2 (fun s' r' st' J' g => ?_))
                intro y ey
                rw [ey, nI_1]
                exact hn s' r' tn x3 hd st' ps rg fl sn sV sc sv oc ov htn J' g
              · refine br_t (by rw [cs]; exact z2) (be_se hm8 rfl hlt J z2 (fun s' r' st' J' g => ?_))
                intro y ey
                rw [ey, nI_1]
                exact hn s' r' tn x3 hd st' ps rg fl sn sV sc sv oc ov htn J' g
            · refine be_fw hm8 hsm rfl hc (fun g => br_f (be_nm w (by omega)) ⟨his, br_f (by rw [cs]; exact z2) ?_⟩) (fun t h1 h2 h3 => br_f (be_nm w (by omega)) ⟨his, br_f (by rw [cs]; exact z2) ?_⟩)
              · exact be_m67 C hW rfl rfl htn hlt J hw hf z2 (Or.inl ⟨rfl, g⟩) hn
              · exact be_m67 C hW rfl rfl htn hlt J hw hf z2 (Or.inr ⟨t, rfl, h1, h2, h3⟩) hn
theorem be_mk {f_workers f_stage f_count f_settled f_turn : Int32} {a_store a_length a_codeOperation a_codePlaces a_codeNumber a_before a_held a_state a_position a_registers a_failed a_seenCells a_seenValues a_storedCells a_storedValues a_outCount a_outValues : Nat → Int32} {post : SX → Prop} {W m s tn : Nat} {x1 x2 : Int32} (C : be_C W m a_length a_codeOperation a_codePlaces) (hW : f_workers = nI W) (hc : f_count = nI m) (hs : f_settled = nI s) (ht : f_turn = nI tn) (htn : tn ≤ W) (I : be_RI W m s a_length a_codeOperation a_codePlaces a_codeNumber a_before a_held a_state (a_position, a_registers, a_failed, a_seenCells, a_seenValues, a_storedCells, a_storedValues, a_outCount, a_outValues)) (G : be_G (a_position, a_registers, a_failed, a_seenCells, a_seenValues, a_storedCells, a_storedValues, a_outCount, a_outValues)) (h : ∀ (s tn : Nat) (hd st : Nat → Int32) (A : be_A), tn ≤ W → be_RI W m s a_length a_codeOperation a_codePlaces a_codeNumber a_before hd st A → be_G A → (x2 = 100000 → s = m) → post (f_workers, f_stage, f_count, nI s, nI tn, a_store, a_length, a_codeOperation, a_codePlaces, a_codeNumber, a_before, hd, st, A)) : wpX_makeSteps post (f_workers, f_stage, f_count, f_settled, f_turn, a_store, a_length, a_codeOperation, a_codePlaces, a_codeNumber, a_before, a_held, a_state, a_position, a_registers, a_failed, a_seenCells, a_seenValues, a_storedCells, a_storedValues, a_outCount, a_outValues) x1 x2 := by
  subst hs ht
  have hm8 : m ≤ 8 := C.2.2.1
  have hb := be_smb (f := be_w a_state a_position) (be_wb a_state a_position) m
  refine ⟨100001, be_mk5 C hW hc (fun s r tn hd st A q J e => h s tn hd st A q J.1 J.2.2 e) 100000 0 s 16 tn x1 _ _ _ _ _ _ _ _ _ _ _ rfl htn ⟨I, Or.inl rfl, G⟩ ?_⟩
  unfold be_mu
  omega
