section BGB
variable {T B E : Int32} {C K Q N P HL LR SC SR ST OU NR NW D L S : Nat → Int32}
/-! work, stale and build -/
theorem bx_work_g {post : Int32 → SX → Prop} {n b t : Nat} {l o : Nat → Bool} (h : bg_R n b K N P HL LR SC SR L S) (ht : t < n) (hl : ∀ j, j < n → (l j = true ↔ bg_lx HL LR (bg_rc C K Q N P (bg_wo C K Q N P NW n)) j)) (ho : ∀ j, j < n → (o j = true ↔ bg_sx SC SR (bg_rc C K Q N P (bg_wo C K Q N P NW n)) j)) (hp : ∀ NR' D' : Nat → Int32, post (nI (bg_ct (bg_Ev (bg_nd P N t) l o) (t + 1))) ((nI n), B, E, C, K, Q, N, P, HL, LR, SC, SR, ST, OU, NR', (bg_wo C K Q N P NW n), D')) : wpX_work post ((nI n), B, E, C, K, Q, N, P, HL, LR, SC, SR, ST, OU, NR, NW, D) (nI t) := by
  obtain ⟨hn, hb, hK, hN, hP, hL, hS⟩ := h
  have hR : ∀ j, j < n → ∀ i, i < 6 → bg_nr C K Q N P NW NR n (j * 6 + i) = bg_rc C K Q N P (bg_wo C K Q N P NW n) j i := fun j hj i hi => bg_nr_s hP hi n hj hn
  unfold wpX_work
  refine bx_Tg hn ht (br_f bg_10 (bx_wo hn rfl hP hN (bx_mn (by omega) hP hN (fun D' hD => ?_))))
  refine bg_lq (fun m i => wX_work_23 post (nI t) (nI n) B E C K Q N P HL LR SC SR ST OU (bg_nr C K Q N P NW NR n) (bg_wo C K Q N P NW n) D' m (nI (bg_ct (bg_Ev (bg_nd P N t) l o) i)) (nI i)) (t + 1) (fun m => br_t (nI_lt (by omega) (by omega)) (hp _ D')) (fun m i hi ih => ?_)
  try dsimp only at ih
  refine br_f (nI_nlt (by omega) (by omega)) ⟨vp_in_nI (by omega) (by omega), ?_⟩
  rw [nI_clamp (by omega), hD i (by omega)]
  by_cases hd : bg_nd P N t i = true
  · rw [bg_bi_t hd]
    obtain ⟨s, h1, h2, _⟩ := hS i (by omega)
    refine br_f bg_10 (bx_sn (s := s) (by omega) (by omega) h2 (hR i (by omega)) (hl i (by omega)) (ho i (by omega)) ?_)
    by_cases hx : bg_ex (l i) (o i) = true
    · rw [bg_ct_t ((bg_Ev_t hd).trans hx)] at ih
      exact br_t (bg_sv_3.mpr hx) (nm_r (nI_1 _) (nm_r (nI_1 i) ih))
    · rw [bg_ct_f (by rw [bg_Ev_t hd]; exact hx)] at ih
      exact br_f (fun z => hx (bg_sv_3.mp z)) (nm_r (nI_1 i) ih)
  · rw [bg_ct_f (bg_Ev_f hd)] at ih
    rw [bg_bi_f hd]
    exact br_t rfl (nm_r (nI_1 i) ih)
theorem by_work_g {post : Int32 → SY → Prop} {n b t : Nat} {l o : Nat → Bool} (h : bg_R n b K N P HL LR SC SR L S) (ht : t < n) (hl : ∀ j, j < n → (l j = true ↔ bg_ly HL L (bg_rc C K Q N P (bg_wo C K Q N P NW n)) j)) (ho : ∀ j, j < n → (o j = true ↔ bg_sy SC S (bg_rc C K Q N P (bg_wo C K Q N P NW n)) j)) (hp : post (nI (bg_ct (bg_Ev (bg_nd P N t) l o) n)) ((nI n), B, E, C, K, Q, N, P, OU, ST, HL, L, SC, S, (bg_wo C K Q N P NW n))) : wpY_work post ((nI n), B, E, C, K, Q, N, P, OU, ST, HL, L, SC, S, NW) (nI t) := by
  obtain ⟨hn, hb, hK, hN, hP, hL, hS⟩ := h
  unfold wpY_work
  refine by_Tg hn ht (br_t rfl (by_wo hn rfl hK hP hN (by_nd (by omega) hP hN (fun q hq hb2 => ?_))))
  refine bg_lq (fun m i => wY_work_25 post (nI q) (nI n) B E C K Q N P OU ST HL L SC S (bg_wo C K Q N P NW n) m (nI (bg_ct (bg_Ev (bg_nd P N t) l o) i)) (nI i)) n (fun m => br_t (Int32.le_refl _) hp) (fun m i hi ih => ?_)
  try dsimp only at ih
  refine br_f (nI_ge hi (by omega)) ?_
  rw [bg_bit' hq (by omega), hb2 i (by omega)]
  by_cases hd : bg_nd P N t i = true
  · rw [if_pos hd]
    obtain ⟨s, h1, h2, _⟩ := hS i (by omega)
    have lf : ∀ z : Bool, ¬ z = true → z = false := fun z hz => Bool.eq_false_iff.mpr hz
    refine br_t rfl (by_iL (by omega) hP (fun z => ?_) (fun z => ?_))
    · rw [bg_ct_f (by rw [bg_Ev_t hd, (hl i hi).mpr z]; exact fun w => Bool.noConfusion w)] at ih
      exact br_f bg_10 (nm_r (nI_1 i) ih)
    · refine br_t rfl (by_iS (s := s) (by omega) (by omega) h2 hP (fun y => ?_) (fun y => ?_))
      · rw [bg_ct_f (by rw [bg_Ev_t hd, (ho i hi).mpr y, lf _ (fun w => z ((hl i hi).mp w))]; exact fun w => Bool.noConfusion w)] at ih
        exact br_f bg_10 (nm_r (nI_1 i) ih)
      · rw [bg_ct_t (by rw [bg_Ev_t hd, lf _ (fun w => z ((hl i hi).mp w)), lf _ (fun w => y ((ho i hi).mp w))]; rfl)] at ih
        exact br_t rfl (nm_r (nI_1 _) (nm_r (nI_1 i) ih))
  · rw [bg_ct_f (bg_Ev_f hd)] at ih
    rw [if_neg hd]
    exact br_f (by decide) (nm_r (nI_1 i) ih)
theorem bx_stale {post : Int32 → SX → Prop} {n b : Nat} {l : Nat → Bool} (h : bg_R n b K N P HL LR SC SR L S) (hl : ∀ j, j < n → (l j = false ↔ bg_lx HL LR (bg_rc C K Q N P (bg_wo C K Q N P NW n)) j)) (hp : ∀ NR' : Nat → Int32, post (nI (bg_ct l n)) ((nI n), B, E, C, K, Q, N, P, HL, LR, SC, SR, ST, OU, NR', (bg_wo C K Q N P NW n), D)) : wpX_stale post ((nI n), B, E, C, K, Q, N, P, HL, LR, SC, SR, ST, OU, NR, NW, D) := by
  obtain ⟨hn, hb, hK, hN, hP, hL, hS⟩ := h
  have hR : ∀ j, j < n → ∀ i, i < 6 → bg_nr C K Q N P NW NR n (j * 6 + i) = bg_rc C K Q N P (bg_wo C K Q N P NW n) j i := fun j hj i hi => bg_nr_s hP hi n hj hn
  unfold wpX_stale
  refine bx_wo hn rfl hP hN ?_
  refine bg_lq (fun m i => wX_stale_8 post (nI n) B E C K Q N P HL LR SC SR ST OU (bg_nr C K Q N P NW NR n) (bg_wo C K Q N P NW n) D m (nI (bg_ct l i)) (nI i)) n (fun m => br_t (Int32.le_refl _) (hp _)) (fun m i hi ih => ?_)
  try dsimp only at ih
  refine br_f (nI_ge hi (by omega)) (bx_iL (by omega) (hR i hi) (fun z => ?_) (fun z => ?_))
  · rw [bg_ct_f (by rw [(hl i hi).mpr z]; exact fun w => Bool.noConfusion w)] at ih
    exact br_f bg_10 (nm_r (nI_1 i) ih)
  · rw [bg_ct_t ((Bool.not_eq_false _).mp (fun w => z ((hl i hi).mp w)))] at ih
    exact br_t rfl (nm_r (nI_1 _) (nm_r (nI_1 i) ih))
theorem by_stale {post : Int32 → SY → Prop} {n b : Nat} {l : Nat → Bool} (h : bg_R n b K N P HL LR SC SR L S) (hl : ∀ j, j < n → (l j = false ↔ bg_ly HL L (bg_rc C K Q N P (bg_wo C K Q N P NW n)) j)) (hp : post (nI (bg_ct l n)) ((nI n), B, E, C, K, Q, N, P, OU, ST, HL, L, SC, S, (bg_wo C K Q N P NW n))) : wpY_stale post ((nI n), B, E, C, K, Q, N, P, OU, ST, HL, L, SC, S, NW) := by
  obtain ⟨hn, hb, hK, hN, hP, hL, hS⟩ := h
  unfold wpY_stale
  refine by_wo hn rfl hK hP hN ?_
  refine bg_lq (fun m i => wY_stale_8 post (nI n) B E C K Q N P OU ST HL L SC S (bg_wo C K Q N P NW n) m (nI (bg_ct l i)) (nI i)) n (fun m => br_t (Int32.le_refl _) hp) (fun m i hi ih => ?_)
  try dsimp only at ih
  refine br_f (nI_ge hi (by omega)) (by_iL (by omega) hP (fun z => ?_) (fun z => ?_))
  · rw [bg_ct_f (by rw [(hl i hi).mpr z]; exact fun w => Bool.noConfusion w)] at ih
    exact br_f bg_10 (nm_r (nI_1 i) ih)
  · rw [bg_ct_t ((Bool.not_eq_false _).mp (fun w => z ((hl i hi).mp w)))] at ih
    exact br_t rfl (nm_r (nI_1 _) (nm_r (nI_1 i) ih))
theorem bx_build_f {post : Int32 → SX → Prop} {n t : Nat} (hn : n ≤ 12) (ht : t < n) (hp : post (-4) ((nI n), (nI 40), E, C, K, Q, N, P, HL, LR, SC, SR, ST, OU, NR, NW, D)) : wpX_build post ((nI n), (nI 40), E, C, K, Q, N, P, HL, LR, SC, SR, ST, OU, NR, NW, D) (nI t) := by
  unfold wpX_build
  exact bx_Tg hn ht (br_f bg_10 (br_f (by decide) hp))
theorem by_build_f {post : Int32 → SY → Prop} {n t : Nat} (hn : n ≤ 12) (ht : t < n) (hp : post (-4) ((nI n), (nI 40), E, C, K, Q, N, P, OU, ST, HL, L, SC, S, NW)) : wpY_build post ((nI n), (nI 40), E, C, K, Q, N, P, OU, ST, HL, L, SC, S, NW) (nI t) := by
  unfold wpY_build
  exact by_Tg hn ht (br_t rfl (br_t rfl hp))
theorem bx_build_g {post : Int32 → SX → Prop} {n b t : Nat} {l o : Nat → Bool} (h : bg_R n b K N P HL LR SC SR L S) (ht : t < n) (hb : b < 40) (hl : ∀ j, j < n → (l j = true ↔ bg_lx HL LR (bg_rc C K Q N P (bg_wo C K Q N P NW n)) j)) (ho : ∀ j, j < n → (o j = true ↔ bg_sx SC SR (bg_rc C K Q N P (bg_wo C K Q N P NW n)) j)) (hp : ∀ NR' D' : Nat → Int32, post (nI (bg_ct (bg_Ev (bg_nd P N t) l o) n)) ((nI n), (nI (b + 1)), (E + nI (bg_ct (bg_Ev (bg_nd P N t) l o) n)), C, K, Q, N, P, (bg_u1 (bg_nd P N t) (fun _ => 1) HL n), (bg_ur (bg_nd P N t) (bg_rc C K Q N P (bg_wo C K Q N P NW n)) (fun t => t * 6) 6 LR n), (bg_u1 (bg_Ev (bg_nd P N t) l o) (fun t => SC t + 1) SC n), (bg_ur (bg_Ev (bg_nd P N t) l o) (bg_rc C K Q N P (bg_wo C K Q N P NW n)) (fun t => t * 240 + (SC t).toNatClampNeg * 6) 6 SR n), (bg_st (bg_nd P N t) (fun j => bg_sv (l j) (o j)) ST n), (bg_u1 (bg_nd P N t) (bg_wo C K Q N P NW n) OU n), NR', (bg_wo C K Q N P NW n), D')) : wpX_build post ((nI n), (nI b), E, C, K, Q, N, P, HL, LR, SC, SR, ST, OU, NR, NW, D) (nI t) := by
  obtain ⟨hn, _, hK, hN, hP, hL, hS⟩ := h
  have hR : ∀ j, j < n → ∀ i, i < 6 → bg_nr C K Q N P NW NR n (j * 6 + i) = bg_rc C K Q N P (bg_wo C K Q N P NW n) j i := fun j hj i hi => bg_nr_s hP hi n hj hn
  unfold wpX_build
  refine bx_Tg hn ht (br_f bg_10 (br_t (nI_lt (b := 40) hb (by decide)) (bx_wo hn rfl hP hN (bx_mn (by omega) hP hN (fun D' hD => ?_)))))
  refine bx_bl hn (fun t ht => ?_) hR hD hl ho ?_
  · obtain ⟨s, h1, h2, _⟩ := hS t ht
    exact ⟨s, by omega, h2⟩
  · rw [nI_1]
    exact hp _ D'
theorem by_build_g {post : Int32 → SY → Prop} {n b t : Nat} {l o : Nat → Bool} (h : bg_R n b K N P HL LR SC SR L S) (ht : t < n) (hb : b < 40) (hl : ∀ j, j < n → (l j = true ↔ bg_ly HL L (bg_rc C K Q N P (bg_wo C K Q N P NW n)) j)) (ho : ∀ j, j < n → (o j = true ↔ bg_sy SC S (bg_rc C K Q N P (bg_wo C K Q N P NW n)) j)) (hp : post (nI (bg_ct (bg_Ev (bg_nd P N t) l o) n)) ((nI n), (nI (b + 1)), (E + nI (bg_ct (bg_Ev (bg_nd P N t) l o) n)), C, K, Q, N, P, (bg_u1 (bg_nd P N t) (bg_wo C K Q N P NW n) OU n), (bg_st (bg_nd P N t) (fun j => bg_sv (l j) (o j)) ST n), (bg_u1 (bg_nd P N t) (fun _ => 1) HL n), (bg_ur (bg_nd P N t) (fun t j => bg_rc C K Q N P (bg_wo C K Q N P NW n) t (j + 1)) (fun t => t * 5) 5 L n), (bg_u1 (bg_Ev (bg_nd P N t) l o) (fun t => SC t + 1) SC n), (bg_ur (bg_Ev (bg_nd P N t) l o) (fun t j => bg_rc C K Q N P (bg_wo C K Q N P NW n) t (j + 1)) (fun t => (t * 40 + (SC t).toNatClampNeg) * 5) 5 S n), (bg_wo C K Q N P NW n))) : wpY_build post ((nI n), (nI b), E, C, K, Q, N, P, OU, ST, HL, L, SC, S, NW) (nI t) := by
  obtain ⟨hn, _, hK, hN, hP, hL, hS⟩ := h
  unfold wpY_build
  refine by_Tg hn ht (br_t rfl (br_f (fun z => absurd ((nI_eq (b := 40) (by omega) (by omega)).mp z) (by omega)) (nm_r (nI_1 b) (by_wo hn rfl hK hP hN (by_nd (by omega) hP hN (fun q hq hb2 => ?_))))))
  refine by_bl hn (fun t ht => ?_) hP hq hb2 hl ho ?_
  · obtain ⟨s, h1, h2, _⟩ := hS t ht
    exact ⟨s, by omega, h2⟩
  · rw [show E + nI (bg_ct (bg_Ev (bg_nd P N t) l o) n) - E = nI (bg_ct (bg_Ev (bg_nd P N t) l o) n) from by rw [Int32.add_comm E, Int32.add_sub_cancel]]
    exact hp
end BGB
