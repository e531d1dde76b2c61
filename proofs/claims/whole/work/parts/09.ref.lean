/-! the reference's transaction against the machine -/
def be_YR (sg : Nat → Int32) (L : Int32) (t : Nat) (s : be_S) (fp ff : Int32) (ce ou pu so rg bf : Nat → Int32) : Prop := match s with
  | (pos, reg, fl, bits, sv, oc, ov) => ff = fl ∧ (∀ c, c < 16 → bf c = sg c) ∧ (fl = 0 → (fp = pos ∨ (¬ fp < L ∧ ¬ pos < L)) ∧ (∀ r, r < 4 → rg r = reg r) ∧ (∀ c, c < 16 → ce c = be_rd sg bits sv c) ∧ so t = bits ∧ ou t = oc ∧ (∀ k q, oc = nI q → q ≤ 12 → k < q → pu (12 * t + k) = ov k))
/-- of the other transactions nothing changes -/
def be_YF (t : Nat) (ou pu so ou' pu' so' : Nat → Int32) : Prop := ∀ u, u ≠ t → ou' u = ou u ∧ so' u = so u ∧ be_sl pu' 12 u = be_sl pu 12 u
theorem be_yfr (t : Nat) (ou pu so : Nat → Int32) : be_YF t ou pu so ou pu so := fun _ _ => ⟨rfl, rfl, rfl⟩
theorem be_yft {t : Nat} {ou pu so ou' pu' so' ou2 pu2 so2 : Nat → Int32} (h : be_YF t ou pu so ou' pu' so') (g : be_YF t ou' pu' so' ou2 pu2 so2) : be_YF t ou pu so ou2 pu2 so2 := fun u hu => ⟨(g u hu).1.trans (h u hu).1, (g u hu).2.1.trans (h u hu).2.1, (g u hu).2.2.trans (h u hu).2.2⟩
theorem be_yst {yf_phase yf_count yf_position yf_failed : Int32} {ya_cells ya_sizes ya_operations ya_places ya_numbers ya_done ya_outs ya_puts ya_stored ya_registers ya_before : Nat → Int32} {post : SY → Prop} {t c : Nat} {v : Int32} (ht : t < 8) (hc : c < 16) (h : post (yf_phase, yf_count, yf_position, yf_failed, upd ya_cells c v, ya_sizes, ya_operations, ya_places, ya_numbers, ya_done, ya_outs, ya_puts, upd ya_stored t (be_set (ya_stored t) (nI c)), ya_registers, ya_before)) : wpY_store post (yf_phase, yf_count, yf_position, yf_failed, ya_cells, ya_sizes, ya_operations, ya_places, ya_numbers, ya_done, ya_outs, ya_puts, ya_stored, ya_registers, ya_before) (nI t) (nI c) v := by
  have hi : vp_in (nI t) 8 := vp_in_nI ht (by omega)
  have ct : (nI t).toNatClampNeg = t := nI_clamp (by omega)
  refine ⟨vp_in_nI hc (by omega), fun y1 e1 => ⟨hi, hi, fun y2 e2 => ?_⟩⟩
  rw [e1, e2, ct, nI_clamp (n := c) (by omega)]
  exact h
theorem be_rds {sg sv : Nat → Int32} {bits v : Int32} {c j : Nat} (hc : c < 16) (hj : j < 16) : be_rd sg (be_set bits (nI c)) (upd sv c v) j = if j = c then v else be_rd sg bits sv j := by
  unfold be_rd
  rw [be_orb _ hc hj]
  by_cases e : j = c
  · rw [if_pos e, e, pk_us, decide_eq_true rfl, Bool.or_true, if_pos rfl]
  · rw [if_neg e, pk_un e, decide_eq_false e, Bool.or_false]
theorem be_updr {a b : Nat → Int32} {i N : Nat} {v : Int32} (h : ∀ r, r < N → a r = b r) : ∀ r, r < N → upd a i v r = upd b i v r := fun r hr => by
  unfold upd
  split
  · rfl
  · exact h r hr
