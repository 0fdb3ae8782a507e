section BGP
variable {T B E : Int32} {C K Q N P HL LR SC SR ST OU NR NW D L S : Nat → Int32}
/-! the calls that refuse a number that isn't a task's -/
theorem bx_input_b {post : Int32 → SX → Prop} {v w : Int32} (h : v < 0 ∨ T ≤ v) (hp : post (-1) (T, B, E, C, K, Q, N, P, HL, LR, SC, SR, ST, OU, NR, NW, D)) : wpX_input post (T, B, E, C, K, Q, N, P, HL, LR, SC, SR, ST, OU, NR, NW, D) v w := by
  unfold wpX_input
  exact bx_T0 h (br_t rfl hp)
theorem bx_constant_b {post : Int32 → SX → Prop} {v w : Int32} (h : v < 0 ∨ T ≤ v) (hp : post (-1) (T, B, E, C, K, Q, N, P, HL, LR, SC, SR, ST, OU, NR, NW, D)) : wpX_constant post (T, B, E, C, K, Q, N, P, HL, LR, SC, SR, ST, OU, NR, NW, D) v w := by
  unfold wpX_constant
  exact bx_T0 h (br_t rfl hp)
theorem bx_build_b {post : Int32 → SX → Prop} {v : Int32} (h : v < 0 ∨ T ≤ v) (hp : post (-1) (T, B, E, C, K, Q, N, P, HL, LR, SC, SR, ST, OU, NR, NW, D)) : wpX_build post (T, B, E, C, K, Q, N, P, HL, LR, SC, SR, ST, OU, NR, NW, D) v := by
  unfold wpX_build
  exact bx_T0 h (br_t rfl hp)
theorem bx_clean_b {post : Int32 → SX → Prop} {v : Int32} (h : v < 0 ∨ T ≤ v) (hp : post (-1) (T, B, E, C, K, Q, N, P, HL, LR, SC, SR, ST, OU, NR, NW, D)) : wpX_clean post (T, B, E, C, K, Q, N, P, HL, LR, SC, SR, ST, OU, NR, NW, D) v := by
  unfold wpX_clean
  exact bx_T0 h (br_t rfl hp)
theorem bx_fresh_b {post : Int32 → SX → Prop} {v : Int32} (h : v < 0 ∨ T ≤ v) (hp : post 0 (T, B, E, C, K, Q, N, P, HL, LR, SC, SR, ST, OU, NR, NW, D)) : wpX_fresh post (T, B, E, C, K, Q, N, P, HL, LR, SC, SR, ST, OU, NR, NW, D) v := by
  unfold wpX_fresh
  exact bx_T0 h (br_t rfl hp)
theorem bx_needed_b {post : Int32 → SX → Prop} {v : Int32} (h : v < 0 ∨ T ≤ v) (hp : post (-1) (T, B, E, C, K, Q, N, P, HL, LR, SC, SR, ST, OU, NR, NW, D)) : wpX_needed post (T, B, E, C, K, Q, N, P, HL, LR, SC, SR, ST, OU, NR, NW, D) v := by
  unfold wpX_needed
  exact bx_T0 h (br_t rfl hp)
theorem bx_work_b {post : Int32 → SX → Prop} {v : Int32} (h : v < 0 ∨ T ≤ v) (hp : post (-1) (T, B, E, C, K, Q, N, P, HL, LR, SC, SR, ST, OU, NR, NW, D)) : wpX_work post (T, B, E, C, K, Q, N, P, HL, LR, SC, SR, ST, OU, NR, NW, D) v := by
  unfold wpX_work
  exact bx_T0 h (br_t rfl hp)
theorem bx_status_b {post : Int32 → Prop} {v : Int32} (h : v < 0 ∨ T ≤ v) (hp : post (-1)) : wpX_status post (T, B, E, C, K, Q, N, P, HL, LR, SC, SR, ST, OU, NR, NW, D) v := by
  unfold wpX_status
  exact bx_T0 h (br_t rfl hp)
theorem bx_output_b {post : Int32 → Prop} {v : Int32} (h : v < 0 ∨ T ≤ v) (hp : post 0) : wpX_output post (T, B, E, C, K, Q, N, P, HL, LR, SC, SR, ST, OU, NR, NW, D) v := by
  unfold wpX_output
  exact bx_T0 h (br_t rfl hp)
theorem by_input_b {post : Int32 → SY → Prop} {v w : Int32} (h : v < 0 ∨ T ≤ v) (hp : post (-1) (T, B, E, C, K, Q, N, P, OU, ST, HL, L, SC, S, NW)) : wpY_input post (T, B, E, C, K, Q, N, P, OU, ST, HL, L, SC, S, NW) v w := by
  unfold wpY_input
  exact by_T1 h (br_f bg_10 hp)
theorem by_constant_b {post : Int32 → SY → Prop} {v w : Int32} (h : v < 0 ∨ T ≤ v) (hp : post (-1) (T, B, E, C, K, Q, N, P, OU, ST, HL, L, SC, S, NW)) : wpY_constant post (T, B, E, C, K, Q, N, P, OU, ST, HL, L, SC, S, NW) v w := by
  unfold wpY_constant
  exact by_T1 h (br_f bg_10 hp)
theorem by_build_b {post : Int32 → SY → Prop} {v : Int32} (h : v < 0 ∨ T ≤ v) (hp : post (-1) (T, B, E, C, K, Q, N, P, OU, ST, HL, L, SC, S, NW)) : wpY_build post (T, B, E, C, K, Q, N, P, OU, ST, HL, L, SC, S, NW) v := by
  unfold wpY_build
  exact by_T1 h (br_f bg_10 hp)
theorem by_clean_b {post : Int32 → SY → Prop} {v : Int32} (h : v < 0 ∨ T ≤ v) (hp : post (-1) (T, B, E, C, K, Q, N, P, OU, ST, HL, L, SC, S, NW)) : wpY_clean post (T, B, E, C, K, Q, N, P, OU, ST, HL, L, SC, S, NW) v := by
  unfold wpY_clean
  exact by_T1 h (br_f bg_10 hp)
theorem by_fresh_b {post : Int32 → SY → Prop} {v : Int32} (h : v < 0 ∨ T ≤ v) (hp : post 0 (T, B, E, C, K, Q, N, P, OU, ST, HL, L, SC, S, NW)) : wpY_fresh post (T, B, E, C, K, Q, N, P, OU, ST, HL, L, SC, S, NW) v := by
  unfold wpY_fresh
  exact by_T1 h (br_f bg_10 hp)
theorem by_needed_b {post : Int32 → Prop} {v : Int32} (h : v < 0 ∨ T ≤ v) (hp : post (-1)) : wpY_needed post (T, B, E, C, K, Q, N, P, OU, ST, HL, L, SC, S, NW) v := by
  unfold wpY_needed
  exact by_T1 h (br_f bg_10 hp)
theorem by_work_b {post : Int32 → SY → Prop} {v : Int32} (h : v < 0 ∨ T ≤ v) (hp : post (-1) (T, B, E, C, K, Q, N, P, OU, ST, HL, L, SC, S, NW)) : wpY_work post (T, B, E, C, K, Q, N, P, OU, ST, HL, L, SC, S, NW) v := by
  unfold wpY_work
  exact by_T1 h (br_f bg_10 hp)
theorem by_status_b {post : Int32 → Prop} {v : Int32} (h : v < 0 ∨ T ≤ v) (hp : post (-1)) : wpY_status post (T, B, E, C, K, Q, N, P, OU, ST, HL, L, SC, S, NW) v := by
  unfold wpY_status
  exact by_T1 h (br_f bg_10 hp)
theorem by_output_b {post : Int32 → Prop} {v : Int32} (h : v < 0 ∨ T ≤ v) (hp : post 0) : wpY_output post (T, B, E, C, K, Q, N, P, OU, ST, HL, L, SC, S, NW) v := by
  unfold wpY_output
  exact by_T1 h (br_f bg_10 hp)
/-! the calls that are carried out -/
theorem bx_Tg {post : Int32 → Prop} {n t : Nat} (hn : n ≤ 12) (ht : t < n) (hp : post 1) : wpX_isTask post ((nI n), B, E, C, K, Q, N, P, HL, LR, SC, SR, ST, OU, NR, NW, D) (nI t) := bx_T1 (nI_pos (by omega)) (nI_ge ht (by omega)) hp
theorem by_Tg {post : Int32 → Prop} {n t : Nat} (hn : n ≤ 12) (ht : t < n) (hp : post 0) : wpY_bad post ((nI n), B, E, C, K, Q, N, P, OU, ST, HL, L, SC, S, NW) (nI t) := by_T0 (nI_pos (by omega)) (nI_ge ht (by omega)) hp
theorem bx_content_b {post : Int32 → SX → Prop} {v w : Int32} (h : v < 0 ∨ 8 ≤ v) (hp : post (-2) (T, B, E, C, K, Q, N, P, HL, LR, SC, SR, ST, OU, NR, NW, D)) : wpX_content post (T, B, E, C, K, Q, N, P, HL, LR, SC, SR, ST, OU, NR, NW, D) v w := by
  unfold wpX_content
  exact bx_S0 h (br_t rfl hp)
theorem by_content_b {post : Int32 → SY → Prop} {v w : Int32} (h : v < 0 ∨ 8 ≤ v) (hp : post (-2) (T, B, E, C, K, Q, N, P, OU, ST, HL, L, SC, S, NW)) : wpY_content post (T, B, E, C, K, Q, N, P, OU, ST, HL, L, SC, S, NW) v w := by
  by_cases h0 : v < 0
  · exact br_t h0 hp
  · obtain ⟨j, hj, rfl⟩ := nI_of h0
    have h8 : ¬ j < 8 := fun z => (nI_ge (b := 8) z (by decide)) (h.resolve_left h0)
    exact br_f h0 (br_f (nI_ge (a := 7) (by omega) hj) hp)
theorem bx_content_g {post : Int32 → SX → Prop} {t : Nat} {w : Int32} (ht : t < 8) (hp : post (C t) (T, B, E, (upd C t w), K, Q, N, P, HL, LR, SC, SR, ST, OU, NR, NW, D)) : wpX_content post (T, B, E, C, K, Q, N, P, HL, LR, SC, SR, ST, OU, NR, NW, D) (nI t) w := by
  have ct : (nI t).toNatClampNeg = t := nI_clamp (by omega)
  have it : vp_in (nI t) 8 := vp_in_nI ht (by omega)
  unfold wpX_content
  exact bx_S1 (nI_pos (by omega)) (nI_ge (b := 8) ht (by decide)) (br_f bg_10 ⟨it, nm_r (e' := C t) (by rw [ct]) ⟨it, nm_r (e' := upd C t w) (by rw [ct]) hp⟩⟩)
theorem by_content_g {post : Int32 → SY → Prop} {t : Nat} {w : Int32} (ht : t < 8) (hp : post (C t) (T, B, E, (upd C t w), K, Q, N, P, OU, ST, HL, L, SC, S, NW)) : wpY_content post (T, B, E, C, K, Q, N, P, OU, ST, HL, L, SC, S, NW) (nI t) w := by
  have ct : (nI t).toNatClampNeg = t := nI_clamp (by omega)
  have it : vp_in (nI t) 8 := vp_in_nI ht (by omega)
  exact br_f (nI_pos (by omega)) (br_t (nI_le (b := 7) (by omega) (by decide)) ⟨it, nm_r (e' := C t) (by rw [ct]) ⟨it, nm_r (e' := upd C t w) (by rw [ct]) hp⟩⟩)
theorem bx_task_f {post : Int32 → SX → Prop} {v w : Int32} (hp : post (-4) ((nI 12), B, E, C, K, Q, N, P, HL, LR, SC, SR, ST, OU, NR, NW, D)) : wpX_task post ((nI 12), B, E, C, K, Q, N, P, HL, LR, SC, SR, ST, OU, NR, NW, D) v w := br_f (by decide) hp
theorem by_task_f {post : Int32 → SY → Prop} {v w : Int32} (hp : post (-4) ((nI 12), B, E, C, K, Q, N, P, OU, ST, HL, L, SC, S, NW)) : wpY_task post ((nI 12), B, E, C, K, Q, N, P, OU, ST, HL, L, SC, S, NW) v w := br_t rfl hp
theorem bx_task_g {post : Int32 → SX → Prop} {n : Nat} {v w : Int32} (hn : n < 12) (hp : post (nI n) ((nI (n + 1)), B, E, C, (upd K n (v &&& 3)), (upd Q n w), N, P, HL, LR, SC, SR, ST, OU, NR, NW, D)) : wpX_task post ((nI n), B, E, C, K, Q, N, P, HL, LR, SC, SR, ST, OU, NR, NW, D) v w := by
  have cn : (nI n).toNatClampNeg = n := nI_clamp (by omega)
  have it : vp_in (nI n) 12 := vp_in_nI hn (by omega)
  exact br_t (nI_lt (b := 12) hn (by decide)) ⟨it, nm_r (e' := upd K n (v &&& 3)) (by rw [cn]) ⟨it, nm_r (e' := upd Q n w) (by rw [cn]) (nm_r (nI_1 n) hp)⟩⟩
theorem by_task_g {post : Int32 → SY → Prop} {n : Nat} {v w : Int32} (hn : n < 12) (hp : post (nI n) ((nI (n + 1)), B, E, C, (upd K n (v &&& 3)), (upd Q n w), N, P, OU, ST, HL, L, SC, S, NW)) : wpY_task post ((nI n), B, E, C, K, Q, N, P, OU, ST, HL, L, SC, S, NW) v w := by
  have cn : (nI n).toNatClampNeg = n := nI_clamp (by omega)
  have it : vp_in (nI n) 12 := vp_in_nI hn (by omega)
  refine br_f (fun z => absurd ((nI_eq (b := 12) (by omega) (by omega)).mp z) (by omega)) ⟨it, nm_r (e' := upd K n (v &&& 3)) (by rw [cn]) ⟨it, nm_r (e' := upd Q n w) (by rw [cn]) (nm_r (nI_1 n) ?_)⟩⟩
  rw [nI_pred]
  exact hp
theorem bx_constant_g {post : Int32 → SX → Prop} {n t : Nat} {w : Int32} (hn : n ≤ 12) (ht : t < n) (hp : post (Q t) ((nI n), B, E, C, K, (upd Q t w), N, P, HL, LR, SC, SR, ST, OU, NR, NW, D)) : wpX_constant post ((nI n), B, E, C, K, Q, N, P, HL, LR, SC, SR, ST, OU, NR, NW, D) (nI t) w := by
  have ct : (nI t).toNatClampNeg = t := nI_clamp (by omega)
  have it : vp_in (nI t) 12 := vp_in_nI (by omega) (by omega)
  unfold wpX_constant
  exact bx_Tg hn ht (br_f bg_10 ⟨it, nm_r (e' := Q t) (by rw [ct]) ⟨it, nm_r (e' := upd Q t w) (by rw [ct]) hp⟩⟩)
theorem by_constant_g {post : Int32 → SY → Prop} {n t : Nat} {w : Int32} (hn : n ≤ 12) (ht : t < n) (hp : post (Q t) ((nI n), B, E, C, K, (upd Q t w), N, P, OU, ST, HL, L, SC, S, NW)) : wpY_constant post ((nI n), B, E, C, K, Q, N, P, OU, ST, HL, L, SC, S, NW) (nI t) w := by
  have ct : (nI t).toNatClampNeg = t := nI_clamp (by omega)
  have it : vp_in (nI t) 12 := vp_in_nI (by omega) (by omega)
  unfold wpY_constant
  exact by_Tg hn ht (br_t rfl ⟨it, nm_r (e' := Q t) (by rw [ct]) ⟨it, nm_r (e' := upd Q t w) (by rw [ct]) hp⟩⟩)
theorem bx_input_s {post : Int32 → SX → Prop} {n t : Nat} {w : Int32} (hn : n ≤ 12) (ht : t < n) (h : w < 0 ∨ nI (8 + t) ≤ w) (hp : post (-2) ((nI n), B, E, C, K, Q, N, P, HL, LR, SC, SR, ST, OU, NR, NW, D)) : wpX_input post ((nI n), B, E, C, K, Q, N, P, HL, LR, SC, SR, ST, OU, NR, NW, D) (nI t) w := by
  unfold wpX_input
  refine bx_Tg hn ht (br_f bg_10 ?_)
  rw [bg_p8]
  by_cases h0 : w < 0
  · exact br_t h0 hp
  · exact br_f h0 (br_f (Int32.not_lt.mpr (h.resolve_left h0)) hp)
theorem by_input_s {post : Int32 → SY → Prop} {n t : Nat} {w : Int32} (hn : n ≤ 12) (ht : t < n) (h : w < 0 ∨ nI (8 + t) ≤ w) (hp : post (-2) ((nI n), B, E, C, K, Q, N, P, OU, ST, HL, L, SC, S, NW)) : wpY_input post ((nI n), B, E, C, K, Q, N, P, OU, ST, HL, L, SC, S, NW) (nI t) w := by
  unfold wpY_input
  refine by_Tg hn ht (br_t rfl ?_)
  rw [bg_p8]
  by_cases h0 : w < 0
  · exact br_t h0 hp
  · exact br_f h0 (br_f (Int32.not_lt.mpr (h.resolve_left h0)) hp)
theorem bx_input_f {post : Int32 → SX → Prop} {n t j : Nat} (hn : n ≤ 12) (ht : t < n) (hj : j < 8 + t) (hc : N t = nI 3) (hp : post (-4) ((nI n), B, E, C, K, Q, N, P, HL, LR, SC, SR, ST, OU, NR, NW, D)) : wpX_input post ((nI n), B, E, C, K, Q, N, P, HL, LR, SC, SR, ST, OU, NR, NW, D) (nI t) (nI j) := by
  have ct : (nI t).toNatClampNeg = t := nI_clamp (by omega)
  have it : vp_in (nI t) 12 := vp_in_nI (by omega) (by omega)
  unfold wpX_input
  refine bx_Tg hn ht (br_f bg_10 ?_)
  rw [bg_p8]
  refine br_f (nI_pos (by omega)) (br_t (nI_lt hj (by omega)) ⟨it, nm_r (e' := nI 3) (by rw [ct, hc]) (br_f (by decide) hp)⟩)
theorem by_input_f {post : Int32 → SY → Prop} {n t j : Nat} (hn : n ≤ 12) (ht : t < n) (hj : j < 8 + t) (hc : N t = nI 3) (hp : post (-4) ((nI n), B, E, C, K, Q, N, P, OU, ST, HL, L, SC, S, NW)) : wpY_input post ((nI n), B, E, C, K, Q, N, P, OU, ST, HL, L, SC, S, NW) (nI t) (nI j) := by
  have ct : (nI t).toNatClampNeg = t := nI_clamp (by omega)
  have it : vp_in (nI t) 12 := vp_in_nI (by omega) (by omega)
  unfold wpY_input
  refine by_Tg hn ht (br_t rfl ?_)
  rw [bg_p8]
  refine br_f (nI_pos (by omega)) (br_t (nI_lt hj (by omega)) ⟨it, br_t (by rw [ct, hc]; rfl) hp⟩)
theorem bx_input_g {post : Int32 → SX → Prop} {n t j c : Nat} (hn : n ≤ 12) (ht : t < n) (hj : j < 8 + t) (hc : c < 3) (hN : N t = nI c) (hp : post (nI (c + 1)) ((nI n), B, E, C, K, Q, (upd N t (nI (c + 1))), (upd P (t * 3 + c) (nI j)), HL, LR, SC, SR, ST, OU, NR, NW, D)) : wpX_input post ((nI n), B, E, C, K, Q, N, P, HL, LR, SC, SR, ST, OU, NR, NW, D) (nI t) (nI j) := by
  have ct : (nI t).toNatClampNeg = t := nI_clamp (by omega)
  have it : vp_in (nI t) 12 := vp_in_nI (by omega) (by omega)
  have e1 : nI t * 3 + nI c = nI (t * 3 + c) := bg_a (bg_m3 t) rfl
  unfold wpX_input
  refine bx_Tg hn ht (br_f bg_10 ?_)
  rw [bg_p8]
  refine br_f (nI_pos (by omega)) (br_t (nI_lt hj (by omega)) ⟨it, nm_r (e' := nI c) (by rw [ct, hN]) (br_t (nI_lt (b := 3) hc (by decide)) ⟨pk_in (t * 3 + c) 36 (by omega) e1, nm_r (e' := upd P (t * 3 + c) (nI j)) (by rw [e1, nI_clamp (by omega)]) ⟨it, nm_r (e' := upd N t (nI (c + 1))) (by rw [ct, nI_1]) ?_⟩⟩)⟩)
  rw [nI_1]
  exact hp
theorem by_input_g {post : Int32 → SY → Prop} {n t j c : Nat} (hn : n ≤ 12) (ht : t < n) (hj : j < 8 + t) (hc : c < 3) (hN : N t = nI c) (hp : post (nI (c + 1)) ((nI n), B, E, C, K, Q, (upd N t (nI (c + 1))), (upd P (t * 3 + c) (nI j)), OU, ST, HL, L, SC, S, NW)) : wpY_input post ((nI n), B, E, C, K, Q, N, P, OU, ST, HL, L, SC, S, NW) (nI t) (nI j) := by
  have ct : (nI t).toNatClampNeg = t := nI_clamp (by omega)
  have it : vp_in (nI t) 12 := vp_in_nI (by omega) (by omega)
  have e1 : nI t * 3 + nI c = nI (t * 3 + c) := bg_a (bg_m3 t) rfl
  unfold wpY_input
  refine by_Tg hn ht (br_t rfl ?_)
  rw [bg_p8]
  refine br_f (nI_pos (by omega)) (br_t (nI_lt hj (by omega)) ⟨it, br_f (by rw [ct, hN]; exact fun z => absurd ((nI_eq (b := 3) (by omega) (by omega)).mp z) (by omega)) ⟨it, pk_in (t * 3 + c) 36 (by omega) (by rw [ct, hN, e1]), nm_r (e' := upd P (t * 3 + c) (nI j)) (by rw [ct, hN, e1, nI_clamp (by omega)]) ⟨it, it, nm_r (e' := upd N t (nI (c + 1))) (by rw [ct, hN, nI_1]) ⟨it, ?_⟩⟩⟩⟩)
  rw [ct, pk_us]
  exact hp
theorem bx_clean_g {post : Int32 → SX → Prop} {n t : Nat} (hn : n ≤ 12) (ht : t < n) (hp : post (if HL t = 0 then 0 else 1) ((nI n), B, E, C, K, Q, N, P, (upd HL t 0), LR, SC, SR, ST, OU, NR, NW, D)) : wpX_clean post ((nI n), B, E, C, K, Q, N, P, HL, LR, SC, SR, ST, OU, NR, NW, D) (nI t) := by
  have ct : (nI t).toNatClampNeg = t := nI_clamp (by omega)
  have it : vp_in (nI t) 12 := vp_in_nI (by omega) (by omega)
  unfold wpX_clean
  refine bx_Tg hn ht (br_f bg_10 ⟨it, ?_⟩)
  rw [ct]
  by_cases h : HL t = 0
  · rw [if_pos h] at hp
    exact br_t h ⟨it, nm_r (e' := upd HL t 0) (by rw [ct, bg_vb0]) hp⟩
  · rw [if_neg h] at hp
    exact br_f h ⟨it, nm_r (e' := upd HL t 0) (by rw [ct, bg_vb0]) hp⟩
theorem by_clean_g {post : Int32 → SY → Prop} {n t : Nat} (hn : n ≤ 12) (ht : t < n) (hp : post (if HL t = 0 then 0 else 1) ((nI n), B, E, C, K, Q, N, P, OU, ST, (upd HL t 0), L, SC, S, NW)) : wpY_clean post ((nI n), B, E, C, K, Q, N, P, OU, ST, HL, L, SC, S, NW) (nI t) := by
  have ct : (nI t).toNatClampNeg = t := nI_clamp (by omega)
  have it : vp_in (nI t) 12 := vp_in_nI (by omega) (by omega)
  unfold wpY_clean
  refine by_Tg hn ht (br_t rfl ⟨it, ?_⟩)
  rw [ct]
  by_cases h : HL t = 0
  · rw [if_pos h] at hp
    exact br_t h ⟨it, nm_r (e' := upd HL t 0) (by rw [ct, bg_vb0]) hp⟩
  · rw [if_neg h] at hp
    exact br_f h ⟨it, nm_r (e' := upd HL t 0) (by rw [ct, bg_vb0]) hp⟩
theorem bx_empty {post : SX → Prop} (hp : post (T, (nI 0), E, C, K, Q, N, P, HL, LR, (bg_z SC 12), SR, ST, OU, NR, NW, D)) : wpX_emptyStore post (T, B, E, C, K, Q, N, P, HL, LR, SC, SR, ST, OU, NR, NW, D) := by
  refine bg_lq (fun n i => wX_emptyStore_2 post T B E n (nI i) C K Q N P HL LR (bg_z SC i) SR ST OU NR NW D) 12 (fun n => br_t (Int32.le_refl 12) hp) (fun n i hi ih => ?_)
  exact br_f (nI_ge (b := 12) hi (by decide)) ⟨vp_in_nI hi (by omega), nm_r (e' := bg_z SC (i + 1)) (by rw [nI_clamp (by omega)]; rfl) (nm_r (nI_1 i) ih)⟩
theorem by_empty {post : SY → Prop} (hp : post (T, (nI 0), E, C, K, Q, N, P, OU, ST, HL, L, (bg_z SC 12), S, NW)) : wpY_emptyStore post (T, B, E, C, K, Q, N, P, OU, ST, HL, L, SC, S, NW) := by
  refine bg_lq (fun n i => wY_emptyStore_7 post T 0 E n (nI i) C K Q N P OU ST HL L (bg_z SC i) S NW) 12 (fun n => br_t (Int32.le_refl 12) hp) (fun n i hi ih => ?_)
  exact br_f (nI_ge (b := 12) hi (by decide)) ⟨vp_in_nI hi (by omega), nm_r (e' := bg_z SC (i + 1)) (by rw [nI_clamp (by omega)]; rfl) (nm_r (nI_1 i) ih)⟩
theorem bx_status_g {post : Int32 → Prop} {n t : Nat} (hn : n ≤ 12) (ht : t < n) (hp : post (ST t)) : wpX_status post ((nI n), B, E, C, K, Q, N, P, HL, LR, SC, SR, ST, OU, NR, NW, D) (nI t) := by
  unfold wpX_status
  refine bx_Tg hn ht (br_f bg_10 ⟨vp_in_nI (by omega) (by omega), ?_⟩)
  rw [nI_clamp (by omega)]; exact hp
theorem by_status_g {post : Int32 → Prop} {n t : Nat} (hn : n ≤ 12) (ht : t < n) (hp : post (ST t)) : wpY_status post ((nI n), B, E, C, K, Q, N, P, OU, ST, HL, L, SC, S, NW) (nI t) := by
  unfold wpY_status
  refine by_Tg hn ht (br_t rfl ⟨vp_in_nI (by omega) (by omega), ?_⟩)
  rw [nI_clamp (by omega)]; exact hp
theorem bx_output_g {post : Int32 → Prop} {n t : Nat} (hn : n ≤ 12) (ht : t < n) (hp : post (OU t)) : wpX_output post ((nI n), B, E, C, K, Q, N, P, HL, LR, SC, SR, ST, OU, NR, NW, D) (nI t) := by
  unfold wpX_output
  refine bx_Tg hn ht (br_f bg_10 ⟨vp_in_nI (by omega) (by omega), ?_⟩)
  rw [nI_clamp (by omega)]; exact hp
theorem by_output_g {post : Int32 → Prop} {n t : Nat} (hn : n ≤ 12) (ht : t < n) (hp : post (OU t)) : wpY_output post ((nI n), B, E, C, K, Q, N, P, OU, ST, HL, L, SC, S, NW) (nI t) := by
  unfold wpY_output
  refine by_Tg hn ht (br_t rfl ⟨vp_in_nI (by omega) (by omega), ?_⟩)
  rw [nI_clamp (by omega)]; exact hp
theorem bx_fresh_g {post : Int32 → SX → Prop} {n t : Nat} (hn : n ≤ 12) (ht : t < n) (hP : bg_PP P) (hN : bg_NN N) (hp : post (bg_wo C K Q N P NW n t) ((nI n), B, E, C, K, Q, N, P, HL, LR, SC, SR, ST, OU, (bg_nr C K Q N P NW NR n), (bg_wo C K Q N P NW n), D)) : wpX_fresh post ((nI n), B, E, C, K, Q, N, P, HL, LR, SC, SR, ST, OU, NR, NW, D) (nI t) := by
  unfold wpX_fresh
  refine bx_Tg hn ht (br_f bg_10 (bx_wo hn rfl hP hN ⟨vp_in_nI (by omega) (by omega), ?_⟩))
  rw [nI_clamp (by omega)]; exact hp
theorem by_fresh_g {post : Int32 → SY → Prop} {n t : Nat} (hn : n ≤ 12) (ht : t < n) (hK : bg_KK K) (hP : bg_PP P) (hN : bg_NN N) (hp : post (bg_wo C K Q N P NW n t) ((nI n), B, E, C, K, Q, N, P, OU, ST, HL, L, SC, S, (bg_wo C K Q N P NW n))) : wpY_fresh post ((nI n), B, E, C, K, Q, N, P, OU, ST, HL, L, SC, S, NW) (nI t) := by
  unfold wpY_fresh
  refine by_Tg hn ht (br_t rfl (by_wo hn rfl hK hP hN ⟨vp_in_nI (by omega) (by omega), ?_⟩))
  rw [nI_clamp (by omega)]; exact hp
theorem bx_needed_g {post : Int32 → SX → Prop} {n t : Nat} (hn : n ≤ 12) (ht : t < n) (hP : bg_PP P) (hN : bg_NN N) (hp : ∀ D' : Nat → Int32, post (nI (bg_ct (bg_nd P N t) (t + 1))) ((nI n), B, E, C, K, Q, N, P, HL, LR, SC, SR, ST, OU, NR, NW, D')) : wpX_needed post ((nI n), B, E, C, K, Q, N, P, HL, LR, SC, SR, ST, OU, NR, NW, D) (nI t) := by
  unfold wpX_needed
  refine bx_Tg hn ht (br_f bg_10 (bx_mn (by omega) hP hN (fun D' hD => ?_)))
  refine bg_lq (fun m i => wX_needed_19 post (nI t) (nI n) B E C K Q N P HL LR SC SR ST OU NR NW D' m (nI (bg_ct (bg_nd P N t) i)) (nI i)) (t + 1) (fun m => br_t (nI_lt (by omega) (by omega)) (hp D')) (fun m i hi ih => ?_)
  try dsimp only at ih
  refine br_f (nI_nlt (by omega) (by omega)) ⟨vp_in_nI (by omega) (by omega), ?_⟩
  rw [nI_clamp (by omega), hD i (by omega)]
  by_cases h : bg_nd P N t i = true
  · rw [bg_ct_t h] at ih
    rw [bg_bi_t h]
    exact br_f bg_10 (nm_r (nI_1 _) (nm_r (nI_1 i) ih))
  · rw [bg_ct_f h] at ih
    rw [bg_bi_f h]
    exact br_t rfl (nm_r (nI_1 i) ih)
theorem by_needed_g {post : Int32 → Prop} {n t : Nat} (hn : n ≤ 12) (ht : t < n) (hP : bg_PP P) (hN : bg_NN N) (hp : post (nI (bg_ct (bg_nd P N t) 12))) : wpY_needed post ((nI n), B, E, C, K, Q, N, P, OU, ST, HL, L, SC, S, NW) (nI t) := by
  unfold wpY_needed
  refine by_Tg hn ht (br_t rfl (by_nd (by omega) hP hN (fun q hq hb => ?_)))
  refine bg_lq (fun m i => wY_needed_21 post (nI q) (nI n) B E C K Q N P OU ST HL L SC S NW m (nI (bg_ct (bg_nd P N t) i)) (nI i)) 12 (fun m => br_t (Int32.le_refl 12) hp) (fun m i hi ih => ?_)
  try dsimp only at ih
  refine br_f (nI_ge (b := 12) hi (by decide)) (nm_r (e' := nI (bg_ct (bg_nd P N t) (i + 1))) ?_ (nm_r (nI_1 i) ih))
  rw [bg_bit' hq hi, hb i hi]
  by_cases h : bg_nd P N t i = true
  · rw [bg_ct_t h, if_pos h]; exact nI_1 _
  · rw [bg_ct_f h, if_neg h]; exact Int32.add_zero _
theorem bx_executed {post : Int32 → Prop} (hp : post E) : wpX_executed post (T, B, E, C, K, Q, N, P, HL, LR, SC, SR, ST, OU, NR, NW, D) := hp
theorem by_executed {post : Int32 → Prop} (hp : post E) : wpY_executed post (T, B, E, C, K, Q, N, P, OU, ST, HL, L, SC, S, NW) := hp
end BGP
