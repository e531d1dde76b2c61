/-! valueBefore -/
theorem be_vs1 {st sc sv bf : Nat → Int32} {t c : Nat} (z : st t < 2) : be_vb st sc sv bf (t + 1) c = be_vb st sc sv bf t c := by
  show (if ¬ st t < 2 then _ else _) = _
  rw [if_neg (fun q => q z)]
theorem be_vs2 {st sc sv bf : Nat → Int32} {t c : Nat} (z : ¬ st t < 2) (zb : ¬ bt (sc t) c = true) : be_vb st sc sv bf (t + 1) c = be_vb st sc sv bf t c := by
  show (if ¬ st t < 2 then (if bt (sc t) c = true then be_sl sv 16 t c else be_vb st sc sv bf t c) else _) = _
  rw [if_pos z, if_neg zb]
theorem be_vs3 {st sc sv bf : Nat → Int32} {t c : Nat} (hc : c < 16) (z : ¬ st t < 2) (zb : bt (sc t) c = true) : be_vb st sc sv bf (t + 1) c = sv (16 * t + c) := by
  show (if ¬ st t < 2 then (if bt (sc t) c = true then be_sl sv 16 t c else be_vb st sc sv bf t c) else _) = _
  rw [if_pos z, if_pos zb, be_sla hc]
theorem be_m1 (x : Int32) : x + (-1) = x - 1 := (Int32.sub_eq_add_neg x 1).symm
theorem be_i16 {t c : Nat} (ht : t < 8) (hc : c < 16) : vp_in (nI t * 16 + nI c) 128 ∧ (nI t * 16 + nI c).toNatClampNeg = 16 * t + c := ⟨pk_in (16 * t + c) 128 (by omega) (be_ix 16 t c), pk_cl (16 * t + c) (be_ix 16 t c) (by omega)⟩
theorem be_vb4 {f_workers f_stage f_count f_settled f_turn : Int32} {a_store a_length a_codeOperation a_codePlaces a_codeNumber a_before a_held a_state a_position a_registers a_failed a_seenCells a_seenValues a_storedCells a_storedValues a_outCount a_outValues : Nat → Int32} {post : Int32 → Prop} {c : Nat} (hc : c < 16) : ∀ t : Nat, t ≤ 8 → post (be_vb a_state a_storedCells a_storedValues a_before t c) → wX_valueBefore_4 post (nI c) f_workers f_stage f_count f_settled f_turn a_store a_length a_codeOperation a_codePlaces a_codeNumber a_before a_held a_state a_position a_registers a_failed a_seenCells a_seenValues a_storedCells a_storedValues a_outCount a_outValues (t + 1) (nI t - 1) := by
  intro t
  induction t with
  | zero =>
    intro _ h
    refine br_t (by decide) ⟨vp_in_nI hc (by omega), ?_⟩
    rw [nI_clamp (by omega)]
    exact h
  | succ t ih =>
    intro ht h
    rw [nI_pred]
    have hi : vp_in (nI t) 8 := vp_in_nI (by omega) (by omega)
    have ec : (nI t).toNatClampNeg = t := nI_clamp (by omega)
    refine br_f (nI_pos (by omega)) ⟨hi, ?_⟩
    rw [ec]
    by_cases z : a_state t < 2
    · rw [be_vs1 z] at h
      refine br_t z fun y ey => ?_
      rw [ey, be_m1]
      exact ih (by omega) h
    · refine br_f z ⟨hi, ?_⟩
      by_cases zb : bt (a_storedCells t) c = true
      · rw [be_vs3 hc z zb] at h
        refine br_f (by rw [be_tst _ hc, zb]; decide) ⟨(be_i16 (by omega) hc).1, ?_⟩
        rw [(be_i16 (by omega) hc).2]
        exact h
      · rw [be_vs2 z zb] at h
        refine br_t (by rw [be_tst _ hc]; exact eq_false_of_ne_true zb) fun y ey => ?_
        rw [ey, be_m1]
        exact ih (by omega) h
theorem be_vbX {f_workers f_stage f_count f_settled f_turn : Int32} {a_store a_length a_codeOperation a_codePlaces a_codeNumber a_before a_held a_state a_position a_registers a_failed a_seenCells a_seenValues a_storedCells a_storedValues a_outCount a_outValues : Nat → Int32} {post : Int32 → Prop} {t c : Nat} (ht : t ≤ 8) (hc : c < 16) (h : post (be_vb a_state a_storedCells a_storedValues a_before t c)) : wpX_valueBefore post (f_workers, f_stage, f_count, f_settled, f_turn, a_store, a_length, a_codeOperation, a_codePlaces, a_codeNumber, a_before, a_held, a_state, a_position, a_registers, a_failed, a_seenCells, a_seenValues, a_storedCells, a_storedValues, a_outCount, a_outValues) (nI t) (nI c) := by
  intro x3 e3
  refine ⟨t + 1, ?_⟩
  rw [e3]
  exact be_vb4 hc t ht h
/-! seesTheSame -/
theorem be_ss2 {f_workers f_stage f_count f_settled f_turn : Int32} {a_store a_length a_codeOperation a_codePlaces a_codeNumber a_before a_held a_state a_position a_registers a_failed a_seenCells a_seenValues a_storedCells a_storedValues a_outCount a_outValues : Nat → Int32} {post : Int32 → Prop} {t : Nat} (ht : t < 8) (h1 : be_Ag a_seenCells a_seenValues t (be_vb a_state a_storedCells a_storedValues a_before t) → post 1) (h0 : ¬ be_Ag a_seenCells a_seenValues t (be_vb a_state a_storedCells a_storedValues a_before t) → post 0) : ∀ d c : Nat, c + d = 16 → (∀ j, j < c → bt (a_seenCells t) j = true → be_vb a_state a_storedCells a_storedValues a_before t j = a_seenValues (16 * t + j)) → wX_seesTheSame_2 post (nI t) f_workers f_stage f_count f_settled f_turn a_store a_length a_codeOperation a_codePlaces a_codeNumber a_before a_held a_state a_position a_registers a_failed a_seenCells a_seenValues a_storedCells a_storedValues a_outCount a_outValues (d + 1) (nI c) := by
  intro d
  induction d with
  | zero =>
    intro c hd hp
    exact br_t (nI_le (a := 16) (by omega) (by omega)) (h1 (fun j hj hb => hp j (by omega) hb))
  | succ d ih =>
    intro c hd hp
    have hc : c < 16 := by omega
    have hi : vp_in (nI t) 8 := vp_in_nI ht (by omega)
    have ec : (nI t).toNatClampNeg = t := nI_clamp (by omega)
    refine br_f (nI_ge (b := 16) hc (by omega)) ⟨hi, ?_⟩
    rw [ec]
    by_cases zb : bt (a_seenCells t) c = true
    · refine br_f (by rw [be_tst _ hc, zb]; decide) (be_vbX (by omega) hc ?_)
      refine ⟨(be_i16 ht hc).1, ?_⟩
      rw [(be_i16 ht hc).2]
      by_cases zv : be_vb a_state a_storedCells a_storedValues a_before t c = a_seenValues (16 * t + c)
      · refine br_t zv fun y ey => ?_
        rw [ey, nI_1]
        exact ih (c + 1) (by omega) (lt_s hp (fun _ => zv))
      · exact br_f zv (h0 (fun g => zv (g c hc zb)))
    · refine br_t (by rw [be_tst _ hc]; exact eq_false_of_ne_true zb) fun y ey => ?_
      rw [ey, nI_1]
      exact ih (c + 1) (by omega) (lt_s hp (fun q => absurd q zb))
theorem be_ss {f_workers f_stage f_count f_settled f_turn : Int32} {a_store a_length a_codeOperation a_codePlaces a_codeNumber a_before a_held a_state a_position a_registers a_failed a_seenCells a_seenValues a_storedCells a_storedValues a_outCount a_outValues : Nat → Int32} {post : Int32 → Prop} {t : Nat} (ht : t < 8) (h1 : be_Ag a_seenCells a_seenValues t (be_vb a_state a_storedCells a_storedValues a_before t) → post 1) (h0 : ¬ be_Ag a_seenCells a_seenValues t (be_vb a_state a_storedCells a_storedValues a_before t) → post 0) : wpX_seesTheSame post (f_workers, f_stage, f_count, f_settled, f_turn, a_store, a_length, a_codeOperation, a_codePlaces, a_codeNumber, a_before, a_held, a_state, a_position, a_registers, a_failed, a_seenCells, a_seenValues, a_storedCells, a_storedValues, a_outCount, a_outValues) (nI t) :=
  ⟨17, be_ss2 ht h1 h0 16 0 rfl (fun j hj => absurd hj (Nat.not_lt_zero j))⟩
/-! firstWaiting -/
theorem be_fw5 {f_workers f_stage f_count f_settled f_turn : Int32} {a_store a_length a_codeOperation a_codePlaces a_codeNumber a_before a_held a_state a_position a_registers a_failed a_seenCells a_seenValues a_storedCells a_storedValues a_outCount a_outValues : Nat → Int32} {post : Int32 → Prop} {s m : Nat} (hm : m ≤ 8) (hc : f_count = nI m) (hn : (∀ t, s ≤ t → t < m → ¬ a_state t = 0) → post (-1)) (hw : ∀ t, s ≤ t → t < m → a_state t = 0 → post (nI t)) : ∀ d t : Nat, t + d = m → s ≤ t → (∀ u, s ≤ u → u < t → ¬ a_state u = 0) → wX_firstWaiting_5 post f_workers f_stage f_count f_settled f_turn a_store a_length a_codeOperation a_codePlaces a_codeNumber a_before a_held a_state a_position a_registers a_failed a_seenCells a_seenValues a_storedCells a_storedValues a_outCount a_outValues (d + 1) (nI t) := by
  subst hc
  intro d
  induction d with
  | zero =>
    intro t hd hs hp
    exact br_t (nI_le (by omega) (by omega)) (hn (fun u h1 h2 => hp u h1 (by omega)))
  | succ d ih =>
    intro t hd hs hp
    have hi : vp_in (nI t) 8 := vp_in_nI (by omega) (by omega)
    have ec : (nI t).toNatClampNeg = t := nI_clamp (by omega)
    refine br_f (nI_ge (by omega) (by omega)) ⟨hi, ?_⟩
    rw [ec]
    by_cases z : a_state t = 0
    · exact br_t z (hw t hs (by omega) z)
    · refine br_f z fun y ey => ?_
      rw [ey, nI_1]
      refine ih (t + 1) (by omega) (by omega) (fun u h1 h2 => ?_)
      by_cases e : u = t
      · rw [e]; exact z
      · exact hp u h1 (by omega)
theorem be_fw {f_workers f_stage f_count f_settled f_turn : Int32} {a_store a_length a_codeOperation a_codePlaces a_codeNumber a_before a_held a_state a_position a_registers a_failed a_seenCells a_seenValues a_storedCells a_storedValues a_outCount a_outValues : Nat → Int32} {post : Int32 → Prop} {s m : Nat} (hm : m ≤ 8) (hsm : s ≤ m) (hs : f_settled = nI s) (hc : f_count = nI m) (hn : (∀ t, s ≤ t → t < m → ¬ a_state t = 0) → post (-1)) (hw : ∀ t, s ≤ t → t < m → a_state t = 0 → post (nI t)) : wpX_firstWaiting post (f_workers, f_stage, f_count, f_settled, f_turn, a_store, a_length, a_codeOperation, a_codePlaces, a_codeNumber, a_before, a_held, a_state, a_position, a_registers, a_failed, a_seenCells, a_seenValues, a_storedCells, a_storedValues, a_outCount, a_outValues) := by
  refine ⟨m - s + 1, ?_⟩
  rw [hs]
  exact be_fw5 hm hc hn hw (m - s) s (by omega) (Nat.le_refl s) (fun u h1 h2 => absurd h1 (by omega))
/-! firstFree -/
theorem be_ff2 {f_workers f_stage f_count f_settled f_turn : Int32} {a_store a_length a_codeOperation a_codePlaces a_codeNumber a_before a_held a_state a_position a_registers a_failed a_seenCells a_seenValues a_storedCells a_storedValues a_outCount a_outValues : Nat → Int32} {post : Int32 → Prop} {W : Nat} (hW : f_workers = nI W) (hW8 : W ≤ 8) (hn : (∀ w, w < W → ¬ a_held w = -1) → post (-1)) (hw : ∀ w, w < W → a_held w = -1 → post (nI w)) : ∀ d w : Nat, w + d = W → (∀ u, u < w → ¬ a_held u = -1) → wX_firstFree_2 post f_workers f_stage f_count f_settled f_turn a_store a_length a_codeOperation a_codePlaces a_codeNumber a_before a_held a_state a_position a_registers a_failed a_seenCells a_seenValues a_storedCells a_storedValues a_outCount a_outValues (d + 1) (nI w) := by
  subst hW
  intro d
  induction d with
  | zero =>
    intro w hd hp
    exact br_t (nI_le (by omega) (by omega)) (hn (fun u h1 => hp u (by omega)))
  | succ d ih =>
    intro w hd hp
    have hi : vp_in (nI w) 8 := vp_in_nI (by omega) (by omega)
    have ec : (nI w).toNatClampNeg = w := nI_clamp (by omega)
    refine br_f (nI_ge (by omega) (by omega)) ⟨hi, ?_⟩
    rw [ec]
    by_cases z : a_held w = -1
    · exact br_t z (hw w (by omega) z)
    · refine br_f z fun y ey => ?_
      rw [ey, nI_1]
      exact ih (w + 1) (by omega) (lt_s hp z)
theorem be_ff {f_workers f_stage f_count f_settled f_turn : Int32} {a_store a_length a_codeOperation a_codePlaces a_codeNumber a_before a_held a_state a_position a_registers a_failed a_seenCells a_seenValues a_storedCells a_storedValues a_outCount a_outValues : Nat → Int32} {post : Int32 → Prop} {W : Nat} (hW : f_workers = nI W) (hW8 : W ≤ 8) (hn : (∀ w, w < W → ¬ a_held w = -1) → post (-1)) (hw : ∀ w, w < W → a_held w = -1 → post (nI w)) : wpX_firstFree post (f_workers, f_stage, f_count, f_settled, f_turn, a_store, a_length, a_codeOperation, a_codePlaces, a_codeNumber, a_before, a_held, a_state, a_position, a_registers, a_failed, a_seenCells, a_seenValues, a_storedCells, a_storedValues, a_outCount, a_outValues) :=
  ⟨W + 1, be_ff2 hW hW8 hn hw W 0 (by omega) (fun u h1 => absurd h1 (Nat.not_lt_zero u))⟩
/-! nextBusy: w0 is busy; e steps lead to it -/
theorem be_nb10 {f_workers f_stage f_count f_settled f_turn : Int32} {a_store a_length a_codeOperation a_codePlaces a_codeNumber a_before a_held a_state a_position a_registers a_failed a_seenCells a_seenValues a_storedCells a_storedValues a_outCount a_outValues : Nat → Int32} {post : Int32 → Prop} {W w0 : Nat} (hW : f_workers = nI W) (hW8 : W ≤ 8) (h0 : w0 < W) (hb : ¬ a_held w0 = -1) (hp : ∀ w, w < W → ¬ a_held w = -1 → post (nI w)) : ∀ d i l x e : Nat, i + d = 64 → (x < W ∧ (x + e = w0 ∨ x + e = w0 + W) ∨ x = W ∧ e = w0) → e < W → 8 * l + e + i ≤ 63 → wX_nextBusy_10 post f_workers f_stage f_count f_settled f_turn a_store a_length a_codeOperation a_codePlaces a_codeNumber a_before a_held a_state a_position a_registers a_failed a_seenCells a_seenValues a_storedCells a_storedValues a_outCount a_outValues (d + 1) (nI l) (nI x) (nI i) := by
  subst hW
  intro d
  induction d with
  | zero =>
    intro i l x e hd hx he hl
    omega
  | succ d ih =>
    intro i l x e hd hx he hl
    have go : ∀ y, y < W → (y + e = w0 ∨ y + e = w0 + W) → wX_nextBusy_27 post (wX_nextBusy_10 post (nI W) f_stage f_count f_settled f_turn a_store a_length a_codeOperation a_codePlaces a_codeNumber a_before a_held a_state a_position a_registers a_failed a_seenCells a_seenValues a_storedCells a_storedValues a_outCount a_outValues (d + 1)) (nI l) (nI y) (nI i) (nI W) f_stage f_count f_settled f_turn a_store a_length a_codeOperation a_codePlaces a_codeNumber a_before a_held a_state a_position a_registers a_failed a_seenCells a_seenValues a_storedCells a_storedValues a_outCount a_outValues := by
      intro y hy hye
      have hi : vp_in (nI y) 8 := vp_in_nI (by omega) (by omega)
      have ec : (nI y).toNatClampNeg = y := nI_clamp (by omega)
      refine ⟨hi, ?_⟩
      rw [ec]
      by_cases z : a_held y = -1
      · have hne : ¬ y = w0 := fun q => hb (q ▸ z)
        refine br_t z fun x3 e3 x4 e4 => ?_
        rw [e3, e4, nI_1, nI_1]
        exact ih (i + 1) l (y + 1) (e - 1) (by omega) (by omega) (by omega) (by omega)
      · refine br_f z ?_
        by_cases zl : l = 0
        · subst zl
          exact br_t rfl (hp y hy z)
        · obtain ⟨l', rfl⟩ : ∃ l', l = l' + 1 := ⟨l - 1, by omega⟩
          refine br_f (nI_ne0 (by omega) (by omega)) fun x2 e2 x3 e3 x4 e4 => ?_
          rw [e2, e3, e4, be_m1, nI_pred, nI_1, nI_1]
          by_cases q : y = w0
          · exact ih (i + 1) l' (y + 1) (W - 1) (by omega) (by omega) (by omega) (by omega)
          · exact ih (i + 1) l' (y + 1) (e - 1) (by omega) (by omega) (by omega) (by omega)
    refine br_f (nI_ge (b := 64) (by omega) (by omega)) ?_
    rcases hx with ⟨h1, h2⟩ | ⟨h1, h2⟩
    · exact br_t (nI_lt h1 (by omega)) (go x h1 h2)
    · exact br_f (nI_nlt (by omega) (by omega)) (go 0 (by omega) (by omega))
theorem be_nb {f_workers f_stage f_count f_settled f_turn : Int32} {a_store a_length a_codeOperation a_codePlaces a_codeNumber a_before a_held a_state a_position a_registers a_failed a_seenCells a_seenValues a_storedCells a_storedValues a_outCount a_outValues : Nat → Int32} {post : Int32 → Prop} {W w0 tn l : Nat} (hW : f_workers = nI W) (hW8 : W ≤ 8) (ht : f_turn = nI tn) (htn : tn ≤ W) (hl : l < 8) (h0 : w0 < W) (hb : ¬ a_held w0 = -1) (hp : ∀ w, w < W → ¬ a_held w = -1 → post (nI w)) : wpX_nextBusy post (f_workers, f_stage, f_count, f_settled, f_turn, a_store, a_length, a_codeOperation, a_codePlaces, a_codeNumber, a_before, a_held, a_state, a_position, a_registers, a_failed, a_seenCells, a_seenValues, a_storedCells, a_storedValues, a_outCount, a_outValues) (nI l) := by
  subst ht
  refine ⟨65, ?_⟩
  by_cases z : tn = W
  · exact be_nb10 hW hW8 h0 hb hp 64 0 l tn w0 rfl (by omega) h0 (by omega)
  · by_cases q : tn ≤ w0
    · exact be_nb10 hW hW8 h0 hb hp 64 0 l tn (w0 - tn) rfl (by omega) (by omega) (by omega)
    · exact be_nb10 hW hW8 h0 hb hp 64 0 l tn (w0 + W - tn) rfl (by omega) (by omega) (by omega)
/-! clear -/
theorem be_cl2 {f_workers f_stage f_count f_settled f_turn : Int32} {a_store a_length a_codeOperation a_codePlaces a_codeNumber a_before a_held a_state a_position a_registers a_failed a_seenCells a_seenValues a_storedCells a_storedValues a_outCount a_outValues : Nat → Int32} {post : SX → Prop} {t : Nat} (ht : t < 8) (h : ∀ rg, be_sl rg 4 t = (fun _ => 0) → (∀ u, u ≠ t → be_sl rg 4 u = be_sl a_registers 4 u) → post (f_workers, f_stage, f_count, f_settled, f_turn, a_store, a_length, a_codeOperation, a_codePlaces, a_codeNumber, a_before, a_held, a_state, upd a_position t 0, rg, upd a_failed t 0, upd a_seenCells t 0, a_seenValues, upd a_storedCells t 0, a_storedValues, upd a_outCount t 0, a_outValues)) : ∀ (d r : Nat) (rg : Nat → Int32), r + d = 4 → (∀ j, j < r → rg (4 * t + j) = 0) → (∀ u, u ≠ t → be_sl rg 4 u = be_sl a_registers 4 u) → wX_clear_2 post (nI t) f_workers f_stage f_count f_settled f_turn (d + 1) (nI r) a_store a_length a_codeOperation a_codePlaces a_codeNumber a_before a_held a_state a_position rg a_failed a_seenCells a_seenValues a_storedCells a_storedValues a_outCount a_outValues := by
  have hi : vp_in (nI t) 8 := vp_in_nI ht (by omega)
  have ec : (nI t).toNatClampNeg = t := nI_clamp (by omega)
  intro d
  induction d with
  | zero =>
    intro r rg hd h0 hu
    refine br_t (nI_le (a := 4) (by omega) (by omega)) ⟨hi, fun y1 e1 => ⟨hi, fun y2 e2 => ⟨hi, fun y3 e3 => ⟨hi, fun y4 e4 => ⟨hi, fun y5 e5 => ?_⟩⟩⟩⟩⟩
    rw [e1, e2, e3, e4, e5, ec, be_b0]
    refine h rg (funext fun j => ?_) hu
    unfold be_sl
    by_cases z : j < 4
    · rw [if_pos z]; exact h0 j (by omega)
    · rw [if_neg z]
  | succ d ih =>
    intro r rg hd h0 hu
    have e4 : nI t * 4 + nI r = nI (4 * t + r) := be_ix 4 t r
    refine br_f (nI_ge (b := 4) (by omega) (by omega)) ⟨pk_in (4 * t + r) 32 (by omega) e4, fun y1 e1 y2 e2 => ?_⟩
    rw [e1, e2, nI_1, pk_cl (4 * t + r) e4 (by omega)]
    refine ih (r + 1) _ (by omega) (lt_s (fun j hj => ?_) pk_us) (fun u hu2 => (be_slo (by omega) hu2).trans (hu u hu2))
    rw [pk_un (by omega)]
    exact h0 j hj
theorem be_cl {f_workers f_stage f_count f_settled f_turn : Int32} {a_store a_length a_codeOperation a_codePlaces a_codeNumber a_before a_held a_state a_position a_registers a_failed a_seenCells a_seenValues a_storedCells a_storedValues a_outCount a_outValues : Nat → Int32} {post : SX → Prop} {t : Nat} (ht : t < 8) (h : ∀ rg, be_sl rg 4 t = (fun _ => 0) → (∀ u, u ≠ t → be_sl rg 4 u = be_sl a_registers 4 u) → post (f_workers, f_stage, f_count, f_settled, f_turn, a_store, a_length, a_codeOperation, a_codePlaces, a_codeNumber, a_before, a_held, a_state, upd a_position t 0, rg, upd a_failed t 0, upd a_seenCells t 0, a_seenValues, upd a_storedCells t 0, a_storedValues, upd a_outCount t 0, a_outValues)) : wpX_clear post (f_workers, f_stage, f_count, f_settled, f_turn, a_store, a_length, a_codeOperation, a_codePlaces, a_codeNumber, a_before, a_held, a_state, a_position, a_registers, a_failed, a_seenCells, a_seenValues, a_storedCells, a_storedValues, a_outCount, a_outValues) (nI t) :=
  ⟨5, be_cl2 ht h 4 0 _ rfl (fun j hj => absurd hj (Nat.not_lt_zero j)) (fun _ _ => rfl)⟩
