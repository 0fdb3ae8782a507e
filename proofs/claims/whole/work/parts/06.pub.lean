section BGP
variable {T B E : Int32} {C K Q N P HL LR SC SR ST OU NR NW D L S : Nat → Int32}
/-! the calls that refuse a number that isn't a task's -/
theorem bx_input_b {post : Int32 → SX → Prop} {v w : Int32} (h : v < 0 ∨ T ≤ v) (hp : post (-1) (T, B, E, C, K, Q, N, P, HL, LR, SC, SR, ST, OU, NR, NW, D)) : wpX_input post (T, B, E, C, K, Q, N, P, HL, LR, SC, SR, ST, OU, NR, NW, D) v w := by
  unfold wpX_input
  exact bx_T0 h (br_t rfl hp)
theorem bx_constant_b {post : Int32 → SX → Prop} {v w : Int32} (h : v < 0 ∨ T ≤ v) (hp : post (-1) (T, B, E, C, K, Q, N, P, HL, LR, SC, SR, ST, OU, NR, NW, D)) : wpX_constant post (T, B, E, C, K, Q, N, P, HL, LR, SC, SR, ST, OU, NR, NW, D) v w := by
  unfold wpX_constant
  exact bx_T0 h (br_t rfl hp)
theorem bx_build_b {post : Int32 → SX → Prop} {v : Int32} (h : v < 0 ∨ T ≤ v) (hp : post (-1) (T, B, E, C, K, Q, N, P, HL, LR, SC, SR, ST, OU, NR, NW, D)) : wpX_build post (T, B, E, C, K, Q, N, P, HL, LR, SC, SR, ST, OU, NR, NW, D) v := by
  unfold wpX_build
  exact bx_T0 h (br_t rfl hp)
theorem bx_clean_b {post : Int32 → SX → Prop} {v : Int32} (h : v < 0 ∨ T ≤ v) (hp : post (-1) (T, B, E, C, K, Q, N, P, HL, LR, SC, SR, ST, OU, NR, NW, D)) : wpX_clean post (T, B, E, C, K, Q, N, P, HL, LR, SC, SR, ST, OU, NR, NW, D) v := by
  unfold wpX_clean
  exact bx_T0 h (br_t rfl hp)
theorem bx_fresh_b {post : Int32 → SX → Prop} {v : Int32} (h : v < 0 ∨ T ≤ v) (hp : post 0 (T, B, E, C, K, Q, N, P, HL, LR, SC, SR, ST, OU, NR, NW, D)) : wpX_fresh post (T, B, E, C, K, Q, N, P, HL, LR, SC, SR, ST, OU, NR, NW, D) v := by
  unfold wpX_fresh
  exact bx_T0 h (br_t rfl hp)
theorem bx_needed_b {post : Int32 → SX → Prop} {v : Int32} (h : v < 0 ∨ T ≤ v) (hp : post (-1) (T, B, E, C, K, Q, N, P, HL, LR, SC, SR, ST, OU, NR, NW, D)) : wpX_needed post (T, B, E, C, K, Q, N, P, HL, LR, SC, SR, ST, OU, NR, NW, D) v := by
  unfold wpX_needed
  exact bx_T0 h (br_t rfl hp)
theorem bx_work_b {post : Int32 → SX → Prop} {v : Int32} (h : v < 0 ∨ T ≤ v) (hp : post (-1) (T, B, E, C, K, Q, N, P, HL, LR, SC, SR, ST, OU, NR, NW, D)) : wpX_work post (T, B, E, C, K, Q, N, P, HL, LR, SC, SR, ST, OU, NR, NW, D) v := by
  unfold wpX_work
  exact bx_T0 h (br_t rfl hp)
theorem bx_status_b {post : Int32 → Prop} {v : Int32} (h : v < 0 ∨ T ≤ v) (hp : post (-1)) : wpX_status post (T, B, E, C, K, Q, N, P, HL, LR, SC, SR, ST, OU, NR, NW, D) v := by
  unfold wpX_status
  exact bx_T0 h (br_t rfl hp)
theorem bx_output_b {post : Int32 → Prop} {v : Int32} (h : v < 0 ∨ T ≤ v) (hp : post 0) : wpX_output post (T, B, E, C, K, Q, N, P, HL, LR, SC, SR, ST, OU, NR, NW, D) v := by
  unfold wpX_output
  exact bx_T0 h (br_t rfl hp)
theorem by_input_b {post : Int32 → SY → Prop} {v w : Int32} (h : v < 0 ∨ T ≤ v) (hp : post (-1) (T, B, E, C, K, Q, N, P, OU, ST, HL, L, SC, S, NW)) : wpY_input post (T, B, E, C, K, Q, N, P, OU, ST, HL, L, SC, S, NW) v w := by
  unfold wpY_input
  exact by_T1 h (br_f bg_10 hp)
theorem by_constant_b {post : Int32 → SY → Prop} {v w : Int32} (h : v < 0 ∨ T ≤ v) (hp : post (-1) (T, B, E, C, K, Q, N, P, OU, ST, HL, L, SC, S, NW)) : wpY_constant post (T, B, E, C, K, Q, N, P, OU, ST, HL, L, SC, S, NW) v w := by
  unfold wpY_constant
  exact by_T1 h (br_f bg_10 hp)
theorem by_build_b {post : Int32 → SY → Prop} {v : Int32} (h : v < 0 ∨ T ≤ v) (hp : post (-1) (T, B, E, C, K, Q, N, P, OU, ST, HL, L, SC, S, NW)) : wpY_build post (T, B, E, C, K, Q, N, P, OU, ST, HL, L, SC, S, NW) v := by
  unfold wpY_build
  exact by_T1 h (br_f bg_10 hp)
theorem by_clean_b {post : Int32 → SY → Prop} {v : Int32} (h : v < 0 ∨ T ≤ v) (hp : post (-1) (T, B, E, C, K, Q, N, P, OU, ST, HL, L, SC, S, NW)) : wpY_clean post (T, B, E, C, K, Q, N, P, OU, ST, HL, L, SC, S, NW) v := by
  unfold wpY_clean
  exact by_T1 h (br_f bg_10 hp)
theorem by_fresh_b {post : Int32 → SY → Prop} {v : Int32} (h : v < 0 ∨ T ≤ v) (hp : post 0 (T, B, E, C, K, Q, N, P, OU, ST, HL, L, SC, S, NW)) : wpY_fresh post (T, B, E, C, K, Q, N, P, OU, ST, HL, L, SC, S, NW) v := by
  unfold wpY_fresh
  exact by_T1 h (br_f bg_10 hp)
theorem by_needed_b {post : Int32 → Prop} {v : Int32} (h : v < 0 ∨ T ≤ v) (hp : post (-1)) : wpY_needed post (T, B, E, C, K, Q, N, P, OU, ST, HL, L, SC, S, NW) v := by
  unfold wpY_needed
  exact by_T1 h (br_f bg_10 hp)
theorem by_work_b {post : Int32 → SY → Prop} {v : Int32} (h : v < 0 ∨ T ≤ v) (hp : post (-1) (T, B, E, C, K, Q, N, P, OU, ST, HL, L, SC, S, NW)) : wpY_work post (T, B, E, C, K, Q, N, P, OU, ST, HL, L, SC, S, NW) v := by
  unfold wpY_work
  exact by_T1 h (br_f bg_10 hp)
theorem by_status_b {post : Int32 → Prop} {v : Int32} (h : v < 0 ∨ T ≤ v) (hp : post (-1)) : wpY_status post (T, B, E, C, K, Q, N, P, OU, ST, HL, L, SC, S, NW) v := by
  unfold wpY_status
  exact by_T1 h (br_f bg_10 hp)
theorem by_output_b {post : Int32 → Prop} {v : Int32} (h : v < 0 ∨ T ≤ v) (hp : post 0) : wpY_output post (T, B, E, C, K, Q, N, P, OU, ST, HL, L, SC, S, NW) v := by
  unfold wpY_output
  exact by_T1 h (br_f bg_10 hp)
/-! the calls that are carried out -/
theorem bx_Tg {post : Int32 → Prop} {n t : Nat} (hn : n ≤ 12) (ht : t < n) (hp : post 1) : wpX_isTask post ((nI n), B, E, C, K, Q, N, P, HL, LR, SC, SR, ST, OU, NR, NW, D) (nI t) := bx_T1 (nI_pos (by omega)) (nI_ge ht (by omega)) hp
theorem by_Tg {post : Int32 → Prop} {n t : Nat} (hn : n ≤ 12) (ht : t < n) (hp : post 0) : wpY_bad post ((nI n), B, E, C, K, Q, N, P, OU, ST, HL, L, SC, S, NW) (nI t) := by_T0 (nI_pos (by omega)) (nI_ge ht (by omega)) hp
theorem bx_content_b {post : Int32 → SX → Prop} {v w : Int32} (h : v < 0 ∨ 8 ≤ v) (hp : post (-2) (T, B, E, C, K, Q, N, P, HL, LR, SC, SR, ST, OU, NR, NW, D)) : wpX_content post (T, B, E, C, K, Q, N, P, HL, LR, SC, SR, ST, OU, NR, NW, D) v w := by
  unfold wpX_content
  exact bx_S0 h (br_t rfl hp)
theorem by_content_b {post : Int32 → SY → Prop} {v w : Int32} (h : v < 0 ∨ 8 ≤ v) (hp : post (-2) (T, B, E, C, K, Q, N, P, OU, ST, HL, L, SC, S, NW)) : wpY_content post (T, B, E, C, K, Q, N, P, OU, ST, HL, L, SC, S, NW) v w := by
  by_cases h0 : v < 0
  · exact br_t h0 hp
  · obtain ⟨j, hj, rfl⟩ := nI_of h0
    have h8 : ¬ j < 8 := fun z => (nI_ge (b := 8) z (by decide)) (h.resolve_left h0)
    exact br_f h0 (br_f (nI_ge (a := 7) (by omega) hj) hp)
theorem bx_content_g {post : Int32 → SX → Prop} {t : Nat} {w : Int32} (ht : t < 8) (hp : post (C t) (T, B, E, (upd C t w), K, Q, N, P, HL, LR, SC, SR, ST, OU, NR, NW, D)) : wpX_content post (T, B, E, C, K, Q, N, P, HL, LR, SC, SR, ST, OU, NR, NW, D) (nI t) w := by
  have ct : (nI t).toNatClampNeg = t := nI_clamp (by omega)
  have it : vp_in (nI t) 8 := vp_in_nI ht (by omega)
  unfold wpX_content
  exact bx_S1 (nI_pos (by omega)) (nI_ge (b := 8) ht (by decide)) (br_f bg_10 ⟨it, nm_r (e' := C t) (by rw [ct]) ⟨it, nm_r (e' := upd C t w) (by rw [ct]) hp⟩⟩)
theorem by_content_g {post : Int32 → SY → Prop} {t : Nat} {w : Int32} (ht : t < 8) (hp : post (C t) (T, B, E, (upd C t w), K, Q, N, P, OU, ST, HL, L, SC, S, NW)) : wpY_content post (T, B, E, C, K, Q, N, P, OU, ST, HL, L, SC, S, NW) (nI t) w := by
  have ct : (nI t).toNatClampNeg = t := nI_clamp (by omega)
  have it : vp_in (nI t) 8 := vp_in_nI ht (by omega)
  exact br_f (nI_pos (by omega)) (br_t (nI_le (b := 7) (by omega) (by decide)) ⟨it, nm_r (e' := C t) (by rw [ct]) ⟨it, nm_r (e' := upd C t w) (by rw [ct]) hp⟩⟩)
theorem bx_task_f {post : Int32 → SX → Prop} {v w : Int32} (hp : post (-4) ((nI 12), B, E, C, K, Q, N, P, HL, LR, SC, SR, ST, OU, NR, NW, D)) : wpX_task post ((nI 12), B, E, C, K, Q, N, P, HL, LR, SC, SR, ST, OU, NR, NW, D) v w := br_t (Int32.le_refl 12) hp
theorem by_task_f {post : Int32 → SY → Prop} {v w : Int32} (hp : post (-4) ((nI 12), B, E, C, K, Q, N, P, OU, ST, HL, L, SC, S, NW)) : wpY_task post ((nI 12), B, E, C, K, Q, N, P, OU, ST, HL, L, SC, S, NW) v w := br_t rfl hp
theorem bx_task_g {post : Int32 → SX → Prop} {n : Nat} {v w : Int32} (hn : n < 12) (hp : post (nI n) ((nI (n + 1)), B, E, C, (upd K n (v &&& 3)), (upd Q n w), N, P, HL, LR, SC, SR, ST, OU, NR, NW, D)) : wpX_task post ((nI n), B, E, C, K, Q, N, P, HL, LR, SC, SR, ST, OU, NR, NW, D) v w := by
  have cn : (nI n).toNatClampNeg = n := nI_clamp (by omega)
  have it : vp_in (nI n) 12 := vp_in_nI hn (by omega)
  exact br_f (nI_ge (b := 12) hn (by decide)) ⟨it, nm_r (e' := upd K n (v &&& 3)) (by rw [cn]) ⟨it, nm_r (e' := upd Q n w) (by rw [cn]) (nm_r (nI_1 n) hp)⟩⟩
theorem by_task_g {post : Int32 → SY → Prop} {n : Nat} {v w : Int32} (hn : n < 12) (hp : post (nI n) ((nI (n + 1)), B, E, C, (upd K n (v &&& 3)), (upd Q n w), N, P, OU, ST, HL, L, SC, S, NW)) : wpY_task post ((nI n), B, E, C, K, Q, N, P, OU, ST, HL, L, SC, S, NW) v w := by
  have cn : (nI n).toNatClampNeg = n := nI_clamp (by omega)
  have it : vp_in (nI n) 12 := vp_in_nI hn (by omega)
  refine br_f (fun z => absurd ((nI_eq (b := 12) (by omega) (by omega)).mp z) (by omega)) ⟨it, nm_r (e' := upd K n (v &&& 3)) (by rw [cn]) ⟨it, nm_r (e' := upd Q n w) (by rw [cn]) (nm_r (nI_1 n) ?_)⟩⟩
  rw [nI_pred]
  exact hp
theorem bx_constant_g {post : Int32 → SX → Prop} {n t : Nat} {w : Int32} (hn : n ≤ 12) (ht : t < n) (hp : post (Q t) ((nI n), B, E, C, K, (upd Q t w), N, P, HL, LR, SC, SR, ST, OU, NR, NW, D)) : wpX_constant post ((nI n), B, E, C, K, Q, N, P, HL, LR, SC, SR, ST, OU, NR, NW, D) (nI t) w := by
  have ct : (nI t).toNatClampNeg = t := nI_clamp (by omega)
  have it : vp_in (nI t) 12 := vp_in_nI (by omega) (by omega)
  unfold wpX_constant
  exact bx_Tg hn ht (br_f bg_10 ⟨it, nm_r (e' := Q t) (by rw [ct]) ⟨it, nm_r (e' := upd Q t w) (by rw [ct]) hp⟩⟩)
theorem by_constant_g {post : Int32 → SY → Prop} {n t : Nat} {w : Int32} (hn : n ≤ 12) (ht : t < n) (hp : post (Q t) ((nI n), B, E, C, K, (upd Q t w), N, P, OU, ST, HL, L, SC, S, NW)) : wpY_constant post ((nI n), B, E, C, K, Q, N, P, OU, ST, HL, L, SC, S, NW) (nI t) w := by
  have ct : (nI t).toNatClampNeg = t := nI_clamp (by omega)
  have it : vp_in (nI t) 12 := vp_in_nI (by omega) (by omega)
  unfold wpY_constant
  exact by_Tg hn ht (br_t rfl ⟨it, nm_r (e' := Q t) (by rw [ct]) ⟨it, nm_r (e' := upd Q t w) (by rw [ct]) hp⟩⟩)
end BGP
