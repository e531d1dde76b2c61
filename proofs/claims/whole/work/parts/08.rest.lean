/-! startIfBuilt -/
theorem be_s57 {f_workers f_stage f_count f_settled f_turn : Int32} {a_store a_length a_codeOperation a_codePlaces a_codeNumber a_before a_held a_position a_registers a_failed a_seenCells a_seenValues a_storedCells a_storedValues a_outCount a_outValues : Nat → Int32} {post : SX → Prop} (h : ∀ st, (∀ t, t < 8 → st t = 0) → post (f_workers, 1, f_count, 0, 0, a_store, a_length, a_codeOperation, a_codePlaces, a_codeNumber, a_before, a_held, st, a_position, a_registers, a_failed, a_seenCells, a_seenValues, a_storedCells, a_storedValues, a_outCount, a_outValues)) : ∀ (d t : Nat) (st : Nat → Int32), t + d = 8 → (∀ u, u < t → st u = 0) → wX_startIfBuilt_57 post f_workers f_stage f_count f_settled f_turn (d + 1) (nI t) a_store a_length a_codeOperation a_codePlaces a_codeNumber a_before a_held st a_position a_registers a_failed a_seenCells a_seenValues a_storedCells a_storedValues a_outCount a_outValues := by
  intro d
  induction d with
  | zero =>
    intro t st hd hu
    exact br_t (nI_le (a := 8) (by omega) (by omega)) (h st (fun u hu' => hu u (by omega)))
  | succ d ih =>
    intro t st hd hu
    refine br_f (nI_ge (b := 8) (by omega) (by omega)) ⟨vp_in_nI (by omega) (by omega), fun y ey y2 e2 => ?_⟩
    rw [ey, e2, nI_1, nI_clamp (n := t) (by omega)]
    refine ih (t + 1) _ (by omega) (lt_s (fun u hu' => ?_) pk_us)
    rw [pk_un (by omega)]
    exact hu u hu'
theorem be_s36 {f_workers f_stage f_count f_settled f_turn : Int32} {a_store a_length a_codeOperation a_codePlaces a_codeNumber a_before a_state a_position a_registers a_failed a_seenCells a_seenValues a_storedCells a_storedValues a_outCount a_outValues : Nat → Int32} {post : SX → Prop} (h : ∀ hd st, (∀ w, w < 8 → hd w = -1) → (∀ t, t < 8 → st t = 0) → post (f_workers, 1, f_count, 0, 0, a_store, a_length, a_codeOperation, a_codePlaces, a_codeNumber, a_before, hd, st, a_position, a_registers, a_failed, a_seenCells, a_seenValues, a_storedCells, a_storedValues, a_outCount, a_outValues)) : ∀ (d t : Nat) (hd : Nat → Int32), t + d = 8 → (∀ u, u < t → hd u = -1) → wX_startIfBuilt_36 post f_workers f_stage f_count f_settled f_turn (d + 1) (nI t) a_store a_length a_codeOperation a_codePlaces a_codeNumber a_before hd a_state a_position a_registers a_failed a_seenCells a_seenValues a_storedCells a_storedValues a_outCount a_outValues := by
  intro d
  induction d with
  | zero =>
    intro t hd hd0 hu
    exact br_t (nI_le (a := 8) (by omega) (by omega)) ⟨9, be_s57 (fun st hs => h hd st (fun u hu' => hu u (by omega)) hs) 8 0 _ rfl (fun u hu' => absurd hu' (Nat.not_lt_zero u))⟩
  | succ d ih =>
    intro t hd hd0 hu
    refine br_f (nI_ge (b := 8) (by omega) (by omega)) ⟨vp_in_nI (by omega) (by omega), fun y ey y2 e2 => ?_⟩
    rw [ey, e2, nI_1, nI_clamp (n := t) (by omega)]
    refine ih (t + 1) _ (by omega) (lt_s (fun u hu' => ?_) pk_us)
    rw [pk_un (by omega)]
    exact hu u hu'
theorem be_s10 {f_workers f_stage f_count f_settled f_turn : Int32} {a_store a_length a_codeOperation a_codePlaces a_codeNumber a_held a_state a_position a_registers a_failed a_seenCells a_seenValues a_storedCells a_storedValues a_outCount a_outValues : Nat → Int32} {post : SX → Prop} (h : ∀ bf hd st, (∀ c, c < 16 → bf c = a_store c) → (∀ w, w < 8 → hd w = -1) → (∀ t, t < 8 → st t = 0) → post (f_workers, 1, f_count, 0, 0, a_store, a_length, a_codeOperation, a_codePlaces, a_codeNumber, bf, hd, st, a_position, a_registers, a_failed, a_seenCells, a_seenValues, a_storedCells, a_storedValues, a_outCount, a_outValues)) : ∀ (d c : Nat) (bf : Nat → Int32), c + d = 16 → (∀ u, u < c → bf u = a_store u) → wX_startIfBuilt_10 post f_workers f_stage f_count f_settled f_turn (d + 1) (nI c) a_store a_length a_codeOperation a_codePlaces a_codeNumber bf a_held a_state a_position a_registers a_failed a_seenCells a_seenValues a_storedCells a_storedValues a_outCount a_outValues := by
  intro d
  induction d with
  | zero =>
    intro c bf hd0 hu
    exact br_t (nI_le (a := 16) (by omega) (by omega)) ⟨9, be_s36 (fun hd st h1 h2 => h bf hd st (fun u hu' => hu u (by omega)) h1 h2) 8 0 _ rfl (fun u hu' => absurd hu' (Nat.not_lt_zero u))⟩
  | succ d ih =>
    intro c bf hd0 hu
    have hi : vp_in (nI c) 16 := vp_in_nI (by omega) (by omega)
    refine br_f (nI_ge (b := 16) (by omega) (by omega)) ⟨hi, hi, fun y ey y2 e2 => ?_⟩
    rw [ey, e2, nI_1, nI_clamp (n := c) (by omega)]
    refine ih (c + 1) _ (by omega) (lt_s (fun u hu' => ?_) pk_us)
    rw [pk_un (by omega)]
    exact hu u hu'
theorem be_si {f_workers f_stage f_count f_settled f_turn : Int32} {a_store a_length a_codeOperation a_codePlaces a_codeNumber a_before a_held a_state a_position a_registers a_failed a_seenCells a_seenValues a_storedCells a_storedValues a_outCount a_outValues : Nat → Int32} {post : SX → Prop} (hb : f_stage = 0) (h : ∀ bf hd st, (∀ c, c < 16 → bf c = a_store c) → (∀ w, w < 8 → hd w = -1) → (∀ t, t < 8 → st t = 0) → post (f_workers, 1, f_count, 0, 0, a_store, a_length, a_codeOperation, a_codePlaces, a_codeNumber, bf, hd, st, a_position, a_registers, a_failed, a_seenCells, a_seenValues, a_storedCells, a_storedValues, a_outCount, a_outValues)) : wpX_startIfBuilt post (f_workers, f_stage, f_count, f_settled, f_turn, a_store, a_length, a_codeOperation, a_codePlaces, a_codeNumber, a_before, a_held, a_state, a_position, a_registers, a_failed, a_seenCells, a_seenValues, a_storedCells, a_storedValues, a_outCount, a_outValues) :=
  br_t hb ⟨17, be_s10 h 16 0 _ rfl (fun u hu' => absurd hu' (Nat.not_lt_zero u))⟩
/-! keepStores -/
def be_ks (sc sv sto : Nat → Int32) : Nat → Nat → Int32
  | 0, c => sto c
  | t + 1, c => be_rd (be_ks sc sv sto t) (sc t) (be_sl sv 16 t) c
theorem be_vk {st sc sv bf sto : Nat → Int32} (hb : ∀ c, c < 16 → bf c = sto c) : ∀ t : Nat, (∀ u, u < t → ¬ st u < 2) → ∀ c, c < 16 → be_vb st sc sv bf t c = be_ks sc sv sto t c
  | 0, _, c, hc => hb c hc
  | t + 1, h, c, hc => by
    have ih := be_vk (sc := sc) (sv := sv) hb t (fun u hu => h u (by omega)) c hc
    unfold be_vb be_ks be_rd
    rw [if_pos (h t (by omega)), ih]
theorem be_k12 {f_workers f_stage f_count f_settled f_turn : Int32} {a_length a_codeOperation a_codePlaces a_codeNumber a_before a_held a_state a_position a_registers a_failed a_seenCells a_seenValues a_storedCells a_storedValues a_outCount a_outValues : Nat → Int32} {post : SX → Prop} {J : Int32 → (Nat → Int32) → (Nat → Int32) → (Nat → Int32) → (Nat → Int32) → (Nat → Int32) → (Nat → Int32) → (Nat → Int32) → (Nat → Int32) → (Nat → Int32) → (Nat → Int32) → (Nat → Int32) → (Nat → Int32) → (Nat → Int32) → (Nat → Int32) → (Nat → Int32) → (Nat → Int32) → (Nat → Int32) → Prop} {t : Nat} {s0 : Nat → Int32} (ht : t < 8) (h : ∀ sto, (∀ c, c < 16 → sto c = be_ks a_storedCells a_storedValues s0 (t + 1) c) → J (nI (t + 1)) sto a_length a_codeOperation a_codePlaces a_codeNumber a_before a_held a_state a_position a_registers a_failed a_seenCells a_seenValues a_storedCells a_storedValues a_outCount a_outValues) : ∀ (d c : Nat) (sto : Nat → Int32), c + d = 16 → (∀ j, j < c → sto j = be_ks a_storedCells a_storedValues s0 (t + 1) j) → (∀ j, c ≤ j → j < 16 → sto j = be_ks a_storedCells a_storedValues s0 t j) → wX_keepStores_12 post J (nI t) f_workers f_stage f_count f_settled f_turn (d + 1) (nI c) sto a_length a_codeOperation a_codePlaces a_codeNumber a_before a_held a_state a_position a_registers a_failed a_seenCells a_seenValues a_storedCells a_storedValues a_outCount a_outValues := by
  have hi : vp_in (nI t) 8 := vp_in_nI ht (by omega)
  have ct : (nI t).toNatClampNeg = t := nI_clamp (by omega)
  intro d
  induction d with
  | zero =>
    intro c sto hd h1 h2
    refine br_t (nI_le (a := 16) (by omega) (by omega)) fun y ey => ?_
    rw [ey, nI_1]
    exact h sto (fun j hj => h1 j (by omega))
  | succ d ih =>
    intro c sto hd h1 h2
    have hc : c < 16 := by omega
    have hic : vp_in (nI c) 16 := vp_in_nI hc (by omega)
    refine br_f (nI_ge (b := 16) hc (by omega)) ⟨hi, ?_⟩
    rw [ct]
    by_cases zb : bt (a_storedCells t) c = true
    · refine br_f (by rw [be_tst _ hc, zb]; decide) ⟨(be_i16 ht hc).1, hic, fun y ey y2 e2 => ?_⟩
      rw [ey, e2, nI_1, (be_i16 ht hc).2, nI_clamp (n := c) (by omega)]
      refine ih (c + 1) _ (by omega) (lt_s (fun j hj => ?_) ?_) (fun j hj hj2 => ?_)
      · rw [pk_un (by omega)]
        exact h1 j hj
      · rw [pk_us]
        show _ = be_rd (be_ks a_storedCells a_storedValues s0 t) (a_storedCells t) (be_sl a_storedValues 16 t) c
        unfold be_rd
        rw [if_pos zb, be_sla hc]
      · rw [pk_un (by omega)]
        exact h2 j (by omega) hj2
    · refine br_t (by rw [be_tst _ hc]; exact eq_false_of_ne_true zb) fun y ey => ?_
      rw [ey, nI_1]
      refine ih (c + 1) _ (by omega) (lt_s h1 ?_) (fun j hj hj2 => h2 j (by omega) hj2)
      show _ = be_rd (be_ks a_storedCells a_storedValues s0 t) (a_storedCells t) (be_sl a_storedValues 16 t) c
      unfold be_rd
      rw [if_neg zb]
      exact h2 c (Nat.le_refl c) hc
theorem be_k2 {f_workers f_stage f_count f_settled f_turn : Int32} {a_store a_length a_codeOperation a_codePlaces a_codeNumber a_before a_held a_state a_position a_registers a_failed a_seenCells a_seenValues a_storedCells a_storedValues a_outCount a_outValues : Nat → Int32} {post : SX → Prop} {m : Nat} (hm : m ≤ 8) (hc : f_count = nI m) (h : ∀ sto, (∀ c, c < 16 → sto c = be_ks a_storedCells a_storedValues a_store m c) → post (f_workers, f_stage, f_count, f_settled, f_turn, sto, a_length, a_codeOperation, a_codePlaces, a_codeNumber, a_before, a_held, a_state, a_position, a_registers, a_failed, a_seenCells, a_seenValues, a_storedCells, a_storedValues, a_outCount, a_outValues)) : ∀ (d t : Nat) (sto : Nat → Int32), t + d = m → (∀ c, c < 16 → sto c = be_ks a_storedCells a_storedValues a_store t c) → wX_keepStores_2 post f_workers f_stage f_count f_settled f_turn (d + 1) (nI t) sto a_length a_codeOperation a_codePlaces a_codeNumber a_before a_held a_state a_position a_registers a_failed a_seenCells a_seenValues a_storedCells a_storedValues a_outCount a_outValues := by
  subst hc
  intro d
  induction d with
  | zero =>
    intro t sto hd hu
    have e : t = m := by omega
    subst e
    exact br_t (nI_le (by omega) (by omega)) (h sto hu)
  | succ d ih =>
    intro t sto hd hu
    exact br_f (nI_ge (by omega) (by omega)) ⟨17, be_k12 (by omega) (fun sto' hs' => ih (t + 1) sto' (by omega) hs') 16 0 sto rfl (fun j hj => absurd hj (Nat.not_lt_zero j)) (fun j _ hj => hu j hj)⟩
theorem be_kS {f_workers f_stage f_count f_settled f_turn : Int32} {a_store a_length a_codeOperation a_codePlaces a_codeNumber a_before a_held a_state a_position a_registers a_failed a_seenCells a_seenValues a_storedCells a_storedValues a_outCount a_outValues : Nat → Int32} {post : SX → Prop} {m : Nat} (hm : m ≤ 8) (hc : f_count = nI m) (h : ∀ sto, (∀ c, c < 16 → sto c = be_ks a_storedCells a_storedValues a_store m c) → post (f_workers, f_stage, f_count, f_settled, f_turn, sto, a_length, a_codeOperation, a_codePlaces, a_codeNumber, a_before, a_held, a_state, a_position, a_registers, a_failed, a_seenCells, a_seenValues, a_storedCells, a_storedValues, a_outCount, a_outValues)) : wpX_keepStores post (f_workers, f_stage, f_count, f_settled, f_turn, a_store, a_length, a_codeOperation, a_codePlaces, a_codeNumber, a_before, a_held, a_state, a_position, a_registers, a_failed, a_seenCells, a_seenValues, a_storedCells, a_storedValues, a_outCount, a_outValues) :=
  ⟨m + 1, be_k2 hm hc h m 0 _ (by omega) (fun c _ => rfl)⟩
/-! countDone -/
def be_cd (fl : Nat → Int32) : Nat → Int32
  | 0 => 0
  | t + 1 => if fl t = 0 then be_cd fl t + 1 else be_cd fl t
theorem be_cd4 {f_workers f_stage f_count f_settled f_turn : Int32} {a_store a_length a_codeOperation a_codePlaces a_codeNumber a_before a_held a_state a_position a_registers a_failed a_seenCells a_seenValues a_storedCells a_storedValues a_outCount a_outValues : Nat → Int32} {post : Int32 → Prop} {m : Nat} (hm : m ≤ 8) (hc : f_count = nI m) (h : post (be_cd a_failed m)) : ∀ d t : Nat, t + d = m → wX_countDone_4 post f_workers f_stage f_count f_settled f_turn a_store a_length a_codeOperation a_codePlaces a_codeNumber a_before a_held a_state a_position a_registers a_failed a_seenCells a_seenValues a_storedCells a_storedValues a_outCount a_outValues (d + 1) (be_cd a_failed t) (nI t) := by
  subst hc
  intro d
  induction d with
  | zero =>
    intro t hd
    have e : t = m := by omega
    subst e
    exact br_t (nI_le (by omega) (by omega)) h
  | succ d ih =>
    intro t hd
    have ct : (nI t).toNatClampNeg = t := nI_clamp (by omega)
    have ih' := ih (t + 1) (by omega)
    refine br_f (nI_ge (by omega) (by omega)) ⟨vp_in_nI (by omega) (by omega), ?_⟩
    rw [ct]
    by_cases z : a_failed t = 0
    · have e : be_cd a_failed (t + 1) = be_cd a_failed t + 1 := if_pos z
      rw [e] at ih'
      refine br_t z fun y ey y2 e2 => ?_
      rw [ey, e2, nI_1 t]
      exact ih'
    · have e : be_cd a_failed (t + 1) = be_cd a_failed t := if_neg z
      rw [e] at ih'
      refine br_f z fun y ey => ?_
      rw [ey, nI_1 t]
      exact ih'
theorem be_cnt {f_workers f_stage f_count f_settled f_turn : Int32} {a_store a_length a_codeOperation a_codePlaces a_codeNumber a_before a_held a_state a_position a_registers a_failed a_seenCells a_seenValues a_storedCells a_storedValues a_outCount a_outValues : Nat → Int32} {post : Int32 → Prop} {m : Nat} (hm : m ≤ 8) (hc : f_count = nI m) (h : post (be_cd a_failed m)) : wpX_countDone post (f_workers, f_stage, f_count, f_settled, f_turn, a_store, a_length, a_codeOperation, a_codePlaces, a_codeNumber, a_before, a_held, a_state, a_position, a_registers, a_failed, a_seenCells, a_seenValues, a_storedCells, a_storedValues, a_outCount, a_outValues) := ⟨m + 1, be_cd4 hm hc h m 0 (by omega)⟩
/-! digest -/
def be_dg (a : Nat → Int32) : Nat → Int32
  | 0 => 0
  | i + 1 => be_dg a i + (nI i + 1) * a i
theorem be_dge {a b : Nat → Int32} : ∀ n : Nat, (∀ c, c < n → a c = b c) → be_dg a n = be_dg b n
  | 0, _ => rfl
  | n + 1, h => by
    unfold be_dg
    rw [be_dge n (fun c hc => h c (by omega)), h n (by omega)]
theorem be_xd4 {f_workers f_stage f_count f_settled f_turn : Int32} {a_store a_length a_codeOperation a_codePlaces a_codeNumber a_before a_held a_state a_position a_registers a_failed a_seenCells a_seenValues a_storedCells a_storedValues a_outCount a_outValues : Nat → Int32} {post : Int32 → Prop} (h : post (be_dg a_store 16)) : ∀ d c : Nat, c + d = 16 → wX_digest_4 post f_workers f_stage f_count f_settled f_turn a_store a_length a_codeOperation a_codePlaces a_codeNumber a_before a_held a_state a_position a_registers a_failed a_seenCells a_seenValues a_storedCells a_storedValues a_outCount a_outValues (d + 1) (be_dg a_store c) (nI c) := by
  intro d
  induction d with
  | zero =>
    intro c hd
    have e : c = 16 := by omega
    subst e
    exact br_t (by decide) h
  | succ d ih =>
    intro c hd
    have ih' := ih (c + 1) (by omega)
    refine br_f (nI_ge (b := 16) (by omega) (by omega)) ⟨vp_in_nI (by omega) (by omega), fun y ey y2 e2 => ?_⟩
    rw [nI_clamp (n := c) (by omega)] at ey
    rw [ey, e2, nI_1 c]
    rw [show be_dg a_store (c + 1) = be_dg a_store c + (nI c + 1) * a_store c from rfl, nI_1 c] at ih'
    exact ih'
theorem be_yd4 {yf_phase yf_count yf_position yf_failed : Int32} {ya_cells ya_sizes ya_operations ya_places ya_numbers ya_done ya_outs ya_puts ya_stored ya_registers ya_before : Nat → Int32} {post : Int32 → Prop} (h : post (be_dg ya_cells 16)) : ∀ d c : Nat, c + d = 16 → wY_digest_4 post yf_phase yf_count yf_position yf_failed ya_cells ya_sizes ya_operations ya_places ya_numbers ya_done ya_outs ya_puts ya_stored ya_registers ya_before (d + 1) (be_dg ya_cells c) (nI c) := by
  intro d
  induction d with
  | zero =>
    intro c hd
    have e : c = 16 := by omega
    subst e
    exact br_t (by decide) h
  | succ d ih =>
    intro c hd
    have ih' := ih (c + 1) (by omega)
    refine br_f (nI_ge (b := 16) (by omega) (by omega)) ⟨vp_in_nI (by omega) (by omega), fun y ey y2 e2 => ?_⟩
    rw [nI_clamp (n := c) (by omega)] at ey
    rw [ey, e2, nI_1 c]
    rw [show be_dg ya_cells (c + 1) = be_dg ya_cells c + (nI c + 1) * ya_cells c from rfl, nI_1 c] at ih'
    exact ih'
/-! faults -/
theorem be_io {f_workers f_stage f_count f_settled f_turn : Int32} {a_store a_length a_codeOperation a_codePlaces a_codeNumber a_before a_held a_state a_position a_registers a_failed a_seenCells a_seenValues a_storedCells a_storedValues a_outCount a_outValues : Nat → Int32} {post : Int32 → Prop} {s t : Nat} (ht : t < 8) (hs8 : s ≤ 8) (hs : f_settled = nI s) (h1 : t < s → a_state t = 3) (h2 : s ≤ t → ¬ a_state t = 3) (h4 : f_stage = 2 → t < s) (h : post 1) : wpX_isInOrder post (f_workers, f_stage, f_count, f_settled, f_turn, a_store, a_length, a_codeOperation, a_codePlaces, a_codeNumber, a_before, a_held, a_state, a_position, a_registers, a_failed, a_seenCells, a_seenValues, a_storedCells, a_storedValues, a_outCount, a_outValues) (nI t) := by
  subst hs
  have hi : vp_in (nI t) 8 := vp_in_nI ht (by omega)
  have ct : (nI t).toNatClampNeg = t := nI_clamp (by omega)
  by_cases z : t < s
  · exact br_t (nI_lt z (by omega)) ⟨hi, br_t (by rw [ct]; exact h1 z) (br_t rfl h)⟩
  · exact br_f (nI_nlt (by omega) (by omega)) (br_f (fun q => z (h4 q)) ⟨hi, br_f (by rw [ct]; exact h2 (by omega)) (br_t rfl h)⟩)
theorem be_f62 {f_workers f_stage f_count f_settled f_turn : Int32} {a_store a_length a_codeOperation a_codePlaces a_codeNumber a_before a_held a_state a_position a_registers a_failed a_seenCells a_seenValues a_storedCells a_storedValues a_outCount a_outValues : Nat → Int32} {post : Int32 → Prop} {J : Int32 → Int32 → Prop} {t : Nat} (ht : t < 8) (h3 : a_state t = 3 → be_Ag a_seenCells a_seenValues t (be_vb a_state a_storedCells a_storedValues a_before t)) (h : J 0 (nI (t + 1))) : wX_faults_62 post J 0 (nI t) f_workers f_stage f_count f_settled f_turn a_store a_length a_codeOperation a_codePlaces a_codeNumber a_before a_held a_state a_position a_registers a_failed a_seenCells a_seenValues a_storedCells a_storedValues a_outCount a_outValues := by
  have hi : vp_in (nI t) 8 := vp_in_nI ht (by omega)
  have ct : (nI t).toNatClampNeg = t := nI_clamp (by omega)
  refine ⟨hi, ?_⟩
  rw [ct]
  by_cases z : a_state t = 3
  · refine br_t z (be_ss ht (fun g => br_f (by decide) fun y ey => ?_) (fun g => absurd (h3 z) g))
    rw [ey, nI_1]
    exact h
  · refine br_f z fun y ey => ?_
    rw [ey, nI_1]
    exact h
theorem be_f32 {f_workers f_stage f_count f_settled f_turn : Int32} {a_store a_length a_codeOperation a_codePlaces a_codeNumber a_before a_held a_state a_position a_registers a_failed a_seenCells a_seenValues a_storedCells a_storedValues a_outCount a_outValues : Nat → Int32} {post : Int32 → Prop} {J : Int32 → Int32 → Prop} {t : Nat} (ht : t < 8) (hg : a_failed t = 0 ∨ (a_storedCells t = 0 ∧ a_outCount t = 0)) (h : wX_faults_62 post J 0 (nI t) f_workers f_stage f_count f_settled f_turn a_store a_length a_codeOperation a_codePlaces a_codeNumber a_before a_held a_state a_position a_registers a_failed a_seenCells a_seenValues a_storedCells a_storedValues a_outCount a_outValues) : wX_faults_32 post J 0 (nI t) f_workers f_stage f_count f_settled f_turn a_store a_length a_codeOperation a_codePlaces a_codeNumber a_before a_held a_state a_position a_registers a_failed a_seenCells a_seenValues a_storedCells a_storedValues a_outCount a_outValues := by
  have hi : vp_in (nI t) 8 := vp_in_nI ht (by omega)
  have ct : (nI t).toNatClampNeg = t := nI_clamp (by omega)
  refine ⟨hi, ?_⟩
  rw [ct]
  by_cases z : a_failed t = 0
  · exact br_t z h
  · rcases hg with g | g
    · exact absurd g z
    · exact br_f z ⟨hi, br_t g.1 ⟨hi, br_t g.2 h⟩⟩
theorem be_f13 {f_workers f_stage f_count f_settled f_turn : Int32} {a_store a_length a_codeOperation a_codePlaces a_codeNumber a_before a_held a_state a_position a_registers a_failed a_seenCells a_seenValues a_storedCells a_storedValues a_outCount a_outValues : Nat → Int32} {post : Int32 → Prop} {s m : Nat} (hm : m ≤ 8) (hsm : s ≤ m) (hs : f_settled = nI s) (hc : f_count = nI m) (h1 : ∀ t, t < s → a_state t = 3) (h2 : ∀ t, s ≤ t → t < m → ¬ a_state t = 3) (h3 : ∀ t, t < s → be_Ag a_seenCells a_seenValues t (be_vb a_state a_storedCells a_storedValues a_before t)) (hg : ∀ t, t < 8 → a_failed t = 0 ∨ (a_storedCells t = 0 ∧ a_outCount t = 0)) (h4 : f_stage = 2 → s = m) (h : post 0) : ∀ d t : Nat, t + d = m → wX_faults_13 post f_workers f_stage f_count f_settled f_turn a_store a_length a_codeOperation a_codePlaces a_codeNumber a_before a_held a_state a_position a_registers a_failed a_seenCells a_seenValues a_storedCells a_storedValues a_outCount a_outValues (d + 1) 0 (nI t) := by
  intro d
  induction d with
  | zero =>
    intro t hd
    exact br_t (by rw [hc]; exact nI_le (by omega) (by omega)) h
  | succ d ih =>
    intro t hd
    have ht : t < 8 := by omega
    refine br_f (by rw [hc]; exact nI_ge (by omega) (by omega)) (be_io ht (by omega) hs (h1 t) (fun q => h2 t q (by omega)) (fun q => by have := h4 q; omega) ?_)
    refine br_f (by decide) (be_f32 ht (hg t ht) (be_f62 ht (fun z => ?_) (ih (t + 1) (by omega))))
    by_cases q : t < s
    · exact h3 t q
    · exact absurd z (h2 t (by omega) (by omega))
