/-! the relation, and what is owed -/
def i_Rel (_ : Nat) (u : SX) (v : SY) : Prop := ∃ (n b : Nat) (E : Int32) (C K Q N P HL LR SC SR ST OU NR NW D L S : Nat → Int32), u = ((nI n), (nI b), E, C, K, Q, N, P, HL, LR, SC, SR, ST, OU, NR, NW, D) ∧ v = ((nI n), (nI b), E, C, K, Q, N, P, OU, ST, HL, L, SC, S, NW) ∧ bg_R n b K N P HL LR SC SR L S
theorem bg_I {k n b : Nat} {E : Int32} {C K Q N P HL LR SC SR ST OU NR NW D L S : Nat → Int32} (h : bg_R n b K N P HL LR SC SR L S) : i_Rel k ((nI n), (nI b), E, C, K, Q, N, P, HL, LR, SC, SR, ST, OU, NR, NW, D) ((nI n), (nI b), E, C, K, Q, N, P, OU, ST, HL, L, SC, S, NW) := ⟨n, b, E, C, K, Q, N, P, HL, LR, SC, SR, ST, OU, NR, NW, D, L, S, rfl, rfl, h⟩
theorem i_up {k : Nat} {u : SX} {v : SY} (h : i_Rel k u v) : i_Rel (k + 3) u v := h
theorem i_vc0 : wpX_init (fun u => wpY_init (fun v => i_Rel 0 u v)) := bg_I (k := 0) bg_R_0
theorem i_vc_content {k : Nat} {u : SX} {v : SY} (I : i_Rel k u v) (hk : k + 3 ≤ 1536) (v1 : Int32) (v2 : Int32) : wpX_content (fun r u' => wpY_content (fun r' v' => r' = r ∧ i_Rel (k + 3) u' v') v v1 v2) u v1 v2 := by
  obtain ⟨n, b, E, C, K, Q, N, P, HL, LR, SC, SR, ST, OU, NR, NW, D, L, S, rfl, rfl, h⟩ := I
  rcases pk_ix v1 (n := 8) (by omega) with hv | hv | ⟨t, ht, rfl⟩
  · exact bx_content_b (Or.inl hv) (by_content_b (Or.inl hv) ⟨rfl, bg_I h⟩)
  · exact bx_content_b (Or.inr hv) (by_content_b (Or.inr hv) ⟨rfl, bg_I h⟩)
  · exact bx_content_g ht (by_content_g ht ⟨rfl, bg_I h⟩)
theorem i_vc_task {k : Nat} {u : SX} {v : SY} (I : i_Rel k u v) (hk : k + 3 ≤ 1536) (v1 : Int32) (v2 : Int32) : wpX_task (fun r u' => wpY_task (fun r' v' => r' = r ∧ i_Rel (k + 3) u' v') v v1 v2) u v1 v2 := by
  obtain ⟨n, b, E, C, K, Q, N, P, HL, LR, SC, SR, ST, OU, NR, NW, D, L, S, rfl, rfl, h⟩ := I
  have hn := h.1
  by_cases h12 : n = 12
  · subst h12
    exact bx_task_f (by_task_f ⟨rfl, bg_I h⟩)
  · have hlt : n < 12 := by omega
    exact bx_task_g hlt (by_task_g hlt ⟨rfl, bg_I (bg_R_task h hlt v1)⟩)
theorem i_vc_input {k : Nat} {u : SX} {v : SY} (I : i_Rel k u v) (hk : k + 3 ≤ 1536) (v1 : Int32) (v2 : Int32) : wpX_input (fun r u' => wpY_input (fun r' v' => r' = r ∧ i_Rel (k + 3) u' v') v v1 v2) u v1 v2 := by
  obtain ⟨n, b, E, C, K, Q, N, P, HL, LR, SC, SR, ST, OU, NR, NW, D, L, S, rfl, rfl, h⟩ := I
  have hn := h.1
  rcases pk_ix v1 (n := n) (by omega) with hv | hv | ⟨t, ht, rfl⟩
  · exact bx_input_b (Or.inl hv) (by_input_b (Or.inl hv) ⟨rfl, bg_I h⟩)
  · exact bx_input_b (Or.inr hv) (by_input_b (Or.inr hv) ⟨rfl, bg_I h⟩)
  · rcases pk_ix v2 (n := 8 + t) (by omega) with hw | hw | ⟨j, hj, rfl⟩
    · exact bx_input_s hn ht (Or.inl hw) (by_input_s hn ht (Or.inl hw) ⟨rfl, bg_I h⟩)
    · exact bx_input_s hn ht (Or.inr hw) (by_input_s hn ht (Or.inr hw) ⟨rfl, bg_I h⟩)
    · obtain ⟨c, hc, e⟩ := h.2.2.2.1 t
      by_cases h3 : c = 3
      · subst h3
        exact bx_input_f hn ht hj e (by_input_f hn ht hj e ⟨rfl, bg_I h⟩)
      · have hc3 : c < 3 := by omega
        exact bx_input_g hn ht hj hc3 e (by_input_g hn ht hj hc3 e ⟨rfl, bg_I (bg_R_input h (by omega) hc3 hj)⟩)
theorem i_vc_constant {k : Nat} {u : SX} {v : SY} (I : i_Rel k u v) (hk : k + 3 ≤ 1536) (v1 : Int32) (v2 : Int32) : wpX_constant (fun r u' => wpY_constant (fun r' v' => r' = r ∧ i_Rel (k + 3) u' v') v v1 v2) u v1 v2 := by
  obtain ⟨n, b, E, C, K, Q, N, P, HL, LR, SC, SR, ST, OU, NR, NW, D, L, S, rfl, rfl, h⟩ := I
  have hn := h.1
  rcases pk_ix v1 (n := n) (by omega) with hv | hv | ⟨t, ht, rfl⟩
  · exact bx_constant_b (Or.inl hv) (by_constant_b (Or.inl hv) ⟨rfl, bg_I h⟩)
  · exact bx_constant_b (Or.inr hv) (by_constant_b (Or.inr hv) ⟨rfl, bg_I h⟩)
  · exact bx_constant_g hn ht (by_constant_g hn ht ⟨rfl, bg_I h⟩)
theorem i_vc_build {k : Nat} {u : SX} {v : SY} (I : i_Rel k u v) (hk : k + 3 ≤ 1536) (v1 : Int32) : wpX_build (fun r u' => wpY_build (fun r' v' => r' = r ∧ i_Rel (k + 3) u' v') v v1) u v1 := by
  obtain ⟨n, b, E, C, K, Q, N, P, HL, LR, SC, SR, ST, OU, NR, NW, D, L, S, rfl, rfl, h⟩ := I
  have hn := h.1
  have hb := h.2.1
  rcases pk_ix v1 (n := n) (by omega) with hv | hv | ⟨t, ht, rfl⟩
  · exact bx_build_b (Or.inl hv) (by_build_b (Or.inl hv) ⟨rfl, bg_I h⟩)
  · exact bx_build_b (Or.inr hv) (by_build_b (Or.inr hv) ⟨rfl, bg_I h⟩)
  · by_cases h40 : b = 40
    · subst h40
      exact bx_build_f hn ht (by_build_f hn ht ⟨rfl, bg_I h⟩)
    · have hlt : b < 40 := by omega
      refine bx_build_g (l := fun j => bg_dc (bg_lx HL LR (bg_rc C K Q N P (bg_wo C K Q N P NW n)) j)) (o := fun j => bg_dc (bg_sx SC SR (bg_rc C K Q N P (bg_wo C K Q N P NW n)) j)) h ht hlt (fun j hj => bg_dc_i) (fun j hj => bg_dc_i) (fun NR' D' => ?_)
      refine by_build_g (l := fun j => bg_dc (bg_lx HL LR (bg_rc C K Q N P (bg_wo C K Q N P NW n)) j)) (o := fun j => bg_dc (bg_sx SC SR (bg_rc C K Q N P (bg_wo C K Q N P NW n)) j)) h ht hlt (fun j hj => bg_dc_i.trans (bg_lxy h.2.2.2.2.2.1 (by omega) rfl)) (fun j hj => bg_dc_i.trans (bg_sxy h.2.2.2.2.2.2 hb (by omega) rfl)) ?_
      exact ⟨rfl, bg_I (bg_R_build h hlt (fun t => rfl))⟩
theorem i_vc_clean {k : Nat} {u : SX} {v : SY} (I : i_Rel k u v) (hk : k + 3 ≤ 1536) (v1 : Int32) : wpX_clean (fun r u' => wpY_clean (fun r' v' => r' = r ∧ i_Rel (k + 3) u' v') v v1) u v1 := by
  obtain ⟨n, b, E, C, K, Q, N, P, HL, LR, SC, SR, ST, OU, NR, NW, D, L, S, rfl, rfl, h⟩ := I
  have hn := h.1
  rcases pk_ix v1 (n := n) (by omega) with hv | hv | ⟨t, ht, rfl⟩
  · exact bx_clean_b (Or.inl hv) (by_clean_b (Or.inl hv) ⟨rfl, bg_I h⟩)
  · exact bx_clean_b (Or.inr hv) (by_clean_b (Or.inr hv) ⟨rfl, bg_I h⟩)
  · exact bx_clean_g hn ht (by_clean_g hn ht ⟨rfl, bg_I (bg_R_clean h t)⟩)
theorem i_vc_emptyStore {k : Nat} {u : SX} {v : SY} (I : i_Rel k u v) (hk : k + 3 ≤ 1536) : wpX_emptyStore (fun u' => wpY_emptyStore (fun v' => i_Rel (k + 3) u' v') v) u := by
  obtain ⟨n, b, E, C, K, Q, N, P, HL, LR, SC, SR, ST, OU, NR, NW, D, L, S, rfl, rfl, h⟩ := I
  exact bx_empty (by_empty (bg_I (bg_R_empty h)))
theorem i_vc_status {k : Nat} {u : SX} {v : SY} (I : i_Rel k u v) (hk : k + 3 ≤ 1536) (v1 : Int32) : wpX_status (fun r => wpY_status (fun r' => r' = r ∧ i_Rel (k + 3) u v) v v1) u v1 := by
  have J := i_up I
  obtain ⟨n, b, E, C, K, Q, N, P, HL, LR, SC, SR, ST, OU, NR, NW, D, L, S, rfl, rfl, h⟩ := I
  have hn := h.1
  rcases pk_ix v1 (n := n) (by omega) with hv | hv | ⟨t, ht, rfl⟩
  · exact bx_status_b (Or.inl hv) (by_status_b (Or.inl hv) ⟨rfl, J⟩)
  · exact bx_status_b (Or.inr hv) (by_status_b (Or.inr hv) ⟨rfl, J⟩)
  · exact bx_status_g hn ht (by_status_g hn ht ⟨rfl, J⟩)
theorem i_vc_output {k : Nat} {u : SX} {v : SY} (I : i_Rel k u v) (hk : k + 3 ≤ 1536) (v1 : Int32) : wpX_output (fun r => wpY_output (fun r' => r' = r ∧ i_Rel (k + 3) u v) v v1) u v1 := by
  have J := i_up I
  obtain ⟨n, b, E, C, K, Q, N, P, HL, LR, SC, SR, ST, OU, NR, NW, D, L, S, rfl, rfl, h⟩ := I
  have hn := h.1
  rcases pk_ix v1 (n := n) (by omega) with hv | hv | ⟨t, ht, rfl⟩
  · exact bx_output_b (Or.inl hv) (by_output_b (Or.inl hv) ⟨rfl, J⟩)
  · exact bx_output_b (Or.inr hv) (by_output_b (Or.inr hv) ⟨rfl, J⟩)
  · exact bx_output_g hn ht (by_output_g hn ht ⟨rfl, J⟩)
theorem i_vc_fresh {k : Nat} {u : SX} {v : SY} (I : i_Rel k u v) (hk : k + 3 ≤ 1536) (v1 : Int32) : wpX_fresh (fun r u' => wpY_fresh (fun r' v' => r' = r ∧ i_Rel (k + 3) u' v') v v1) u v1 := by
  obtain ⟨n, b, E, C, K, Q, N, P, HL, LR, SC, SR, ST, OU, NR, NW, D, L, S, rfl, rfl, h⟩ := I
  have hn := h.1
  rcases pk_ix v1 (n := n) (by omega) with hv | hv | ⟨t, ht, rfl⟩
  · exact bx_fresh_b (Or.inl hv) (by_fresh_b (Or.inl hv) ⟨rfl, bg_I h⟩)
  · exact bx_fresh_b (Or.inr hv) (by_fresh_b (Or.inr hv) ⟨rfl, bg_I h⟩)
  · exact bx_fresh_g hn ht h.2.2.2.2.1 h.2.2.2.1 (by_fresh_g hn ht h.2.2.1 h.2.2.2.2.1 h.2.2.2.1 ⟨rfl, bg_I h⟩)
theorem i_vc_needed {k : Nat} {u : SX} {v : SY} (I : i_Rel k u v) (hk : k + 3 ≤ 1536) (v1 : Int32) : wpX_needed (fun r u' => wpY_needed (fun r' => r' = r ∧ i_Rel (k + 3) u' v) v v1) u v1 := by
  obtain ⟨n, b, E, C, K, Q, N, P, HL, LR, SC, SR, ST, OU, NR, NW, D, L, S, rfl, rfl, h⟩ := I
  have hn := h.1
  have hN := h.2.2.2.1
  have hP := h.2.2.2.2.1
  rcases pk_ix v1 (n := n) (by omega) with hv | hv | ⟨t, ht, rfl⟩
  · exact bx_needed_b (Or.inl hv) (by_needed_b (Or.inl hv) ⟨rfl, bg_I h⟩)
  · exact bx_needed_b (Or.inr hv) (by_needed_b (Or.inr hv) ⟨rfl, bg_I h⟩)
  · refine bx_needed_g hn ht hP hN (fun D' => by_needed_g hn ht hP hN ⟨?_, bg_I h⟩)
    exact congrArg nI (bg_ct_m 12 (by omega) (fun j h1 h2 => bg_nd_lt hP hN (by omega) (by omega)))
theorem i_vc_work {k : Nat} {u : SX} {v : SY} (I : i_Rel k u v) (hk : k + 3 ≤ 1536) (v1 : Int32) : wpX_work (fun r u' => wpY_work (fun r' v' => r' = r ∧ i_Rel (k + 3) u' v') v v1) u v1 := by
  obtain ⟨n, b, E, C, K, Q, N, P, HL, LR, SC, SR, ST, OU, NR, NW, D, L, S, rfl, rfl, h⟩ := I
  have hn := h.1
  have hb := h.2.1
  have hN := h.2.2.2.1
  have hP := h.2.2.2.2.1
  rcases pk_ix v1 (n := n) (by omega) with hv | hv | ⟨t, ht, rfl⟩
  · exact bx_work_b (Or.inl hv) (by_work_b (Or.inl hv) ⟨rfl, bg_I h⟩)
  · exact bx_work_b (Or.inr hv) (by_work_b (Or.inr hv) ⟨rfl, bg_I h⟩)
  · refine bx_work_g (l := fun j => bg_dc (bg_lx HL LR (bg_rc C K Q N P (bg_wo C K Q N P NW n)) j)) (o := fun j => bg_dc (bg_sx SC SR (bg_rc C K Q N P (bg_wo C K Q N P NW n)) j)) h ht (fun j hj => bg_dc_i) (fun j hj => bg_dc_i) (fun NR' D' => ?_)
    refine by_work_g (l := fun j => bg_dc (bg_lx HL LR (bg_rc C K Q N P (bg_wo C K Q N P NW n)) j)) (o := fun j => bg_dc (bg_sx SC SR (bg_rc C K Q N P (bg_wo C K Q N P NW n)) j)) h ht (fun j hj => bg_dc_i.trans (bg_lxy h.2.2.2.2.2.1 (by omega) rfl)) (fun j hj => bg_dc_i.trans (bg_sxy h.2.2.2.2.2.2 hb (by omega) rfl)) ?_
    refine ⟨congrArg nI (bg_ct_m n (by omega) (fun j h1 h2 => ?_)), bg_I h⟩
    exact Bool.eq_false_iff.mpr (bg_Ev_f (by rw [bg_nd_lt hP hN (by omega) (by omega)]; decide))
theorem i_vc_executed {k : Nat} {u : SX} {v : SY} (I : i_Rel k u v) (hk : k + 3 ≤ 1536) : wpX_executed (fun r => wpY_executed (fun r' => r' = r ∧ i_Rel (k + 3) u v) v) u := by
  have J := i_up I
  obtain ⟨n, b, E, C, K, Q, N, P, HL, LR, SC, SR, ST, OU, NR, NW, D, L, S, rfl, rfl, h⟩ := I
  exact bx_executed (by_executed ⟨rfl, J⟩)
theorem i_vc_stale {k : Nat} {u : SX} {v : SY} (I : i_Rel k u v) (hk : k + 3 ≤ 1536) : wpX_stale (fun r u' => wpY_stale (fun r' v' => r' = r ∧ i_Rel (k + 3) u' v') v) u := by
  obtain ⟨n, b, E, C, K, Q, N, P, HL, LR, SC, SR, ST, OU, NR, NW, D, L, S, rfl, rfl, h⟩ := I
  have hn := h.1
  have nf : ∀ p : Prop, (!bg_dc p) = false ↔ p := fun p => by rw [Bool.not_eq_false']; exact bg_dc_i
  refine bx_stale (l := fun j => !bg_dc (bg_lx HL LR (bg_rc C K Q N P (bg_wo C K Q N P NW n)) j)) h (fun j hj => nf _) (fun NR' => ?_)
  exact by_stale (l := fun j => !bg_dc (bg_lx HL LR (bg_rc C K Q N P (bg_wo C K Q N P NW n)) j)) h (fun j hj => (nf _).trans (bg_lxy h.2.2.2.2.2.1 (by omega) rfl)) ⟨rfl, bg_I h⟩
