section BGY
variable {T B E : Int32} {C K Q N P HL L SC S ST OU NW : Nat → Int32}
/-! the reference -/
theorem by_T1 {post : Int32 → Prop} {v : Int32} (h : v < 0 ∨ T ≤ v) (hp : post 1) : wpY_bad post (T, B, E, C, K, Q, N, P, OU, ST, HL, L, SC, S, NW) v := by
  by_cases h0 : v < 0
  · exact br_t h0 hp
  · exact br_f h0 (br_f (Int32.not_lt.mpr (h.resolve_left h0)) hp)
theorem by_T0 {post : Int32 → Prop} {v : Int32} (h0 : ¬ v < 0) (h1 : ¬ T ≤ v) (hp : post 0) : wpY_bad post (T, B, E, C, K, Q, N, P, OU, ST, HL, L, SC, S, NW) v := br_f h0 (br_t (Int32.not_le.mp h1) hp)
theorem by_vl {post : Int32 → Prop} {t i : Nat} (ht : t < 12) (hi : i < 3) (hP : bg_PP P) (hp : post (bg_vl C N P NW t i)) : wpY_value post (T, B, E, C, K, Q, N, P, OU, ST, HL, L, SC, S, NW) (nI t) (nI i) := by
  obtain ⟨j, hj, e⟩ := hP t i ht hi
  have e1 : nI t * 3 + nI i = nI (t * 3 + i) := bg_a (bg_m3 t) rfl
  have ct : (nI t).toNatClampNeg = t := nI_clamp (by omega)
  unfold bg_vl bg_iv at hp
  rw [e] at hp
  refine ⟨vp_in_nI ht (by omega), ?_⟩
  rw [ct]
  by_cases hc : nI i < N t
  · rw [if_pos hc] at hp
    refine br_t hc ⟨pk_in (t * 3 + i) 36 (by omega) e1, nm_r (e' := nI j) (by rw [e1, nI_clamp (by omega), e]) ?_⟩
    by_cases h8 : nI j < 8
    · rw [if_pos h8] at hp
      have h8' : j < 8 := (nI_ltI (b := 8) (by omega) (by omega)).mp h8
      exact br_f (Int32.not_le.mpr h8) ⟨vp_in_nI h8' (by omega), hp⟩
    · rw [if_neg h8] at hp
      have h8' : ¬ j < 8 := fun z => h8 ((nI_ltI (b := 8) (by omega) (by omega)).mpr z)
      exact br_t (Int32.not_lt.mp h8) ⟨pk_in (j - 8) 12 (by omega) (bg_s8 (by omega)), hp⟩
  · rw [if_neg hc] at hp
    exact br_f hc hp
theorem by_wo {post : SY → Prop} {m : Nat} (hm : m ≤ 12) (hT : T = nI m) (hK : bg_KK K) (hP : bg_PP P) (hN : bg_NN N) (hp : post (T, B, E, C, K, Q, N, P, OU, ST, HL, L, SC, S, (bg_wo C K Q N P NW m))) : wpY_workOut post (T, B, E, C, K, Q, N, P, OU, ST, HL, L, SC, S, NW) := by
  subst hT
  refine bg_lq (fun n t => wY_workOut_2 post (nI m) B E n (nI t) C K Q N P OU ST HL L SC S (bg_wo C K Q N P NW t)) m (fun n => br_t (Int32.le_refl _) hp) (fun n t ht ih => ?_)
  have ct : (nI t).toNatClampNeg = t := nI_clamp (by omega)
  have it : vp_in (nI t) 12 := vp_in_nI (by omega) (by omega)
  obtain ⟨c, hc, e⟩ := hN t
  refine br_f (nI_ge ht (by omega)) ⟨it, ?_⟩
  rw [ct]
  have fin : ∀ z : Int32, z = bg_ou C K Q N P (bg_wo C K Q N P NW t) t → upd (bg_wo C K Q N P NW t) t z = bg_wo C K Q N P NW (t + 1) := fun z hz => by rw [hz]; rfl
  have ou : bg_ou C K Q N P (bg_wo C K Q N P NW t) t = bg_fo (K t) (Q t) (bg_vl C N P (bg_wo C K Q N P NW t) t) c := by
    unfold bg_ou; rw [e, nI_clamp (by omega)]
  have lp : ∀ x, x = bg_fs (K t) (Q t) (bg_vl C N P (bg_wo C K Q N P NW t) t) 0 → ∃ n2, wY_workOut_33 post (wY_workOut_2 post (nI m) B E n) (nI t) (nI m) B E C K Q N P OU ST HL L SC S (bg_wo C K Q N P NW t) n2 x 0 := by
    intro x hx
    rw [hx]
    refine bg_lq (fun n2 i => wY_workOut_33 post (wY_workOut_2 post (nI m) B E n) (nI t) (nI m) B E C K Q N P OU ST HL L SC S (bg_wo C K Q N P NW t) n2 (bg_fs (K t) (Q t) (bg_vl C N P (bg_wo C K Q N P NW t) t) i) (nI i)) c (fun n2 => ⟨it, ?_⟩) (fun n2 i hi ih2 => ⟨it, ?_⟩)
    · rw [ct, e]
      refine br_t (Int32.le_refl _) ⟨it, ?_⟩
      unfold bg_fo at ou
      by_cases h3 : K t = 3
      · rw [if_pos h3] at ou
        exact br_t h3 ⟨it, nm_r (fin _ ou.symm) (nm_r (nI_1 t) ih)⟩
      · rw [if_neg h3] at ou
        exact br_f h3 ⟨it, nm_r (fin _ ou.symm) (nm_r (nI_1 t) ih)⟩
    · rw [ct, e]
      try dsimp only at ih2
      refine br_f (nI_ge hi (by omega)) (by_vl (by omega) (by omega) hP ⟨it, ?_⟩)
      rcases hK t with k | k | k | k
      · rw [bg_fs_p (by rw [k]; decide) (by rw [k]; decide)] at ih2
        exact br_t k (nm_e (nm_r (nI_1 i) ih2))
      · rw [bg_fs_1 k] at ih2
        exact br_f (by rw [k]; decide) ⟨it, br_f (by rw [k]; decide) ⟨it, br_t k (nm_e (nm_r (nI_1 i) ih2))⟩⟩
      · rw [bg_fs_2 k] at ih2
        refine br_f (by rw [k]; decide) ⟨it, br_f (by rw [k]; decide) ⟨it, br_f (by rw [k]; decide) ?_⟩⟩
        by_cases k3 : bg_fs (K t) (Q t) (bg_vl C N P (bg_wo C K Q N P NW t) t) i < bg_vl C N P (bg_wo C K Q N P NW t) t i
        · rw [if_pos k3] at ih2
          exact br_f (Int32.not_le.mpr k3) (nm_r (nI_1 i) ih2)
        · rw [if_neg k3] at ih2
          exact br_t (Int32.not_lt.mp k3) (nm_r (nI_1 i) ih2)
      · rw [bg_fs_p (by rw [k]; decide) (by rw [k]; decide)] at ih2
        exact br_f (by rw [k]; decide) ⟨it, br_t k (nm_e (nm_r (nI_1 i) ih2))⟩
  by_cases h3 : K t = 3
  · exact br_t h3 (lp _ (if_pos h3).symm)
  · exact br_f h3 ⟨it, nm_e (lp _ (if_neg h3).symm)⟩
theorem by_pt {post : Int32 → Prop} {t j : Nat} (ht : t < 12) (hj : j < 5) (hP : bg_PP P) (hp : post (bg_rc C K Q N P NW t (j + 1))) : wpY_part post (T, B, E, C, K, Q, N, P, OU, ST, HL, L, SC, S, NW) (nI t) (nI j) := by
  have ct : (nI t).toNatClampNeg = t := nI_clamp (by omega)
  have it : vp_in (nI t) 12 := vp_in_nI ht (by omega)
  by_cases j0 : j = 0
  · subst j0
    exact br_t rfl ⟨it, by rw [ct]; exact hp⟩
  · refine br_f (nI_ne0 (by omega) (by omega)) ?_
    by_cases j1 : j = 1
    · subst j1
      exact br_t rfl ⟨it, by rw [ct]; exact hp⟩
    · refine br_f (fun z => j1 ((nI_eq (b := 1) (by omega) (by omega)).mp z)) ?_
      obtain ⟨i, rfl⟩ : ∃ i, j = i + 2 := ⟨j - 2, by omega⟩
      rw [bg_s2 (by omega)]
      exact by_vl ht (by omega) hP hp
theorem by_iL {post : Int32 → Prop} {t : Nat} (ht : t < 12) (hP : bg_PP P) (h1 : bg_ly HL L (bg_rc C K Q N P NW) t → post 1) (h0 : ¬ bg_ly HL L (bg_rc C K Q N P NW) t → post 0) : wpY_isLast post (T, B, E, C, K, Q, N, P, OU, ST, HL, L, SC, S, NW) (nI t) := by
  have ct : (nI t).toNatClampNeg = t := nI_clamp (by omega)
  have it : vp_in (nI t) 12 := vp_in_nI ht (by omega)
  refine ⟨it, ?_⟩
  rw [ct]
  by_cases h : HL t = 0
  · exact br_t h (h0 (fun z => z.1 h))
  · refine br_f h ?_
    refine bg_lp0 (fun n i => wY_isLast_13 post (nI t) T B E C K Q N P OU ST HL L SC S NW n (nI i)) (fun i => ∀ j, j < i → L (t * 5 + j) = bg_rc C K Q N P NW t (j + 1)) 5 0 (by omega) (fun j hj => by omega) (fun n h2 => br_t (Int32.le_refl 5) (h1 ⟨h, h2⟩)) (fun n i hi h2 ih => ?_)
    have e1 : nI t * 5 + nI i = nI (t * 5 + i) := bg_a (bg_m5 t) rfl
    refine br_f (nI_ge (b := 5) hi (by decide)) ⟨pk_in (t * 5 + i) 60 (by omega) e1, by_pt ht hi hP ?_⟩
    rw [e1, nI_clamp (by omega)]
    by_cases q : L (t * 5 + i) = bg_rc C K Q N P NW t (i + 1)
    · refine br_t q (nm_r (nI_1 i) (ih (fun j hj => ?_)))
      by_cases ej : j = i
      · rw [ej]; exact q
      · exact h2 j (by omega)
    · exact br_f q (h0 (fun z => q (z.2 i hi)))
theorem by_iR {post : Int32 → Prop} {t r : Nat} (ht : t < 12) (hr : r < 40) (hP : bg_PP P) (h1 : (∀ j, j < 5 → S ((t * 40 + r) * 5 + j) = bg_rc C K Q N P NW t (j + 1)) → post 1) (h0 : ¬ (∀ j, j < 5 → S ((t * 40 + r) * 5 + j) = bg_rc C K Q N P NW t (j + 1)) → post 0) : wpY_isRecord post (T, B, E, C, K, Q, N, P, OU, ST, HL, L, SC, S, NW) (nI t) (nI r) := by
  refine bg_lp0 (fun n i => wY_isRecord_2 post (nI t) (nI r) T B E C K Q N P OU ST HL L SC S NW n (nI i)) (fun i => ∀ j, j < i → S ((t * 40 + r) * 5 + j) = bg_rc C K Q N P NW t (j + 1)) 5 0 (by omega) (fun j hj => by omega) (fun n h2 => br_t (Int32.le_refl 5) (h1 h2)) (fun n i hi h2 ih => ?_)
  have e1 : (nI t * 40 + nI r) * 5 + nI i = nI ((t * 40 + r) * 5 + i) := bg_a (bg_m (bg_a (bg_m40 t) rfl) rfl) rfl
  refine br_f (nI_ge (b := 5) hi (by decide)) ⟨pk_in ((t * 40 + r) * 5 + i) 2400 (by omega) e1, by_pt ht hi hP ?_⟩
  rw [e1, nI_clamp (by omega)]
  by_cases q : S ((t * 40 + r) * 5 + i) = bg_rc C K Q N P NW t (i + 1)
  · refine br_t q (nm_r (nI_1 i) (ih (fun j hj => ?_)))
    by_cases ej : j = i
    · rw [ej]; exact q
    · exact h2 j (by omega)
  · exact br_f q (h0 (fun z => q (z i hi)))
theorem by_iS {post : Int32 → Prop} {t s : Nat} (ht : t < 12) (hs : s ≤ 40) (hS : SC t = nI s) (hP : bg_PP P) (h1 : bg_sy SC S (bg_rc C K Q N P NW) t → post 1) (h0 : ¬ bg_sy SC S (bg_rc C K Q N P NW) t → post 0) : wpY_isStored post (T, B, E, C, K, Q, N, P, OU, ST, HL, L, SC, S, NW) (nI t) := by
  have ct : (nI t).toNatClampNeg = t := nI_clamp (by omega)
  have it : vp_in (nI t) 12 := vp_in_nI ht (by omega)
  have hc : (SC t).toNatClampNeg = s := by rw [hS, nI_clamp (by omega)]
  refine bg_lp0 (fun n i => wY_isStored_2 post (nI t) T B E C K Q N P OU ST HL L SC S NW n (nI i)) (fun i => ∀ r, r < i → ¬ ∀ j, j < 5 → S ((t * 40 + r) * 5 + j) = bg_rc C K Q N P NW t (j + 1)) s 0 (by omega) (fun r hr => by omega) (fun n h => ⟨it, ?_⟩) (fun n i hi h ih => ⟨it, ?_⟩)
  · rw [ct, hS]
    refine br_t (Int32.le_refl _) (h0 (fun ⟨r, hr, hj⟩ => ?_))
    rw [hc] at hr
    exact h r hr hj
  · rw [ct, hS]
    refine br_f (nI_ge hi (by omega)) (by_iR ht (by omega) hP (fun z => ?_) (fun z => ?_))
    · exact br_f bg_10 (h1 ⟨i, by rw [hc]; exact hi, z⟩)
    · refine br_t rfl (nm_r (nI_1 i) (ih (fun r hr => ?_)))
      by_cases er : r = i
      · rw [er]; exact z
      · exact h r (by omega)
theorem by_nd {post : Int32 → Prop} {t : Nat} (ht : t < 12) (hP : bg_PP P) (hN : bg_NN N) (hp : ∀ q, q < 4096 → (∀ j, j < 12 → q.testBit j = bg_nd P N t j) → post (nI q)) : wpY_needs post (T, B, E, C, K, Q, N, P, OU, ST, HL, L, SC, S, NW) (nI t) := by
  refine nm_r (bg_shl ht) ?_
  obtain ⟨n, hn⟩ := bg_ld (fun n k => ∀ (q : Nat) (A : Nat → Bool), q < 4096 → (∀ j, j < 12 → q.testBit j = A j) → (∀ q2, q2 < 4096 → (∀ j, j < 12 → q2.testBit j = bg_pd P N k A j) → post (nI q2)) → wY_needs_6 post T B E C K Q N P OU ST HL L SC S NW n (nI q) (nI k + (-1))) (t + 1) (fun n q A hq h2 h3 => br_t (by decide) (h3 q hq h2)) (fun n k hk ih q A hq h2 h3 => by
    rw [pk_m1]
    refine br_f (nI_pos (by omega)) ?_
    obtain ⟨c, hc, e⟩ := hN k
    have ck : (nI k).toNatClampNeg = k := nI_clamp (by omega)
    have ik : vp_in (nI k) 12 := vp_in_nI (by omega) (by omega)
    obtain ⟨n2, hn2⟩ := bg_lq (fun n2 i => ∀ q, q < 4096 → (∀ j, j < 12 → q.testBit j = (if A k = true then bg_pi P k A i else A) j) → wY_needs_13 post (wY_needs_6 post T B E C K Q N P OU ST HL L SC S NW n) (nI k) T B E C K Q N P OU ST HL L SC S NW n2 (nI q) (nI i)) c (fun n2 q hq hb => ⟨ik, by
      rw [ck, e]
      refine br_t (Int32.le_refl _) (nm_e (ih q (bg_pb P N k A) hq (fun j hj => ?_) h3))
      rw [hb j hj]
      unfold bg_pb
      rw [e, nI_clamp (by omega)]⟩) (fun n2 i hi ih2 q hq hb => ⟨ik, by
      rw [ck, e]
      refine br_f (nI_ge hi (by omega)) ?_
      obtain ⟨x, hx, ex⟩ := hP k i (by omega) (by omega)
      have e1 : nI k * 3 + nI i = nI (k * 3 + i) := bg_a (bg_m3 k) rfl
      have pj : ∀ j, bg_pi P k A (i + 1) j = (bg_pi P k A i j || decide (x = j + 8)) := by
        intro j
        show (bg_pi P k A i j || decide ((P (k * 3 + i)).toNatClampNeg = j + 8)) = _
        rw [ex, nI_clamp (by omega)]
      rw [bg_bit' hq (by omega), hb k (by omega)]
      by_cases ha : A k = true
      · have b1 : (if A k = true then bg_pi P k A i else A) k = true := by rw [if_pos ha, bg_pi_t hP (by omega) A i (by omega) k (Nat.le_refl k)]; exact ha
        rw [b1]
        refine br_t rfl ⟨pk_in (k * 3 + i) 36 (by omega) e1, ?_⟩
        rw [e1, nI_clamp (by omega), ex]
        rw [if_pos ha] at hb
        by_cases h8 : x < 8
        · refine br_t (nI_lt (b := 8) h8 (by decide)) (nm_r (nI_1 i) (ih2 q hq (fun j hj => ?_)))
          rw [if_pos ha, pj j, decide_eq_false (by omega), Bool.or_false]
          exact hb j hj
        · refine br_f (nI_nlt (b := 8) (by omega) (by omega)) ⟨vp_in_nI (by omega) (by omega), ?_⟩
          refine nm_r (e' := nI (q ||| 2 ^ (x - 8))) (by rw [bg_s8 (by omega), bg_shl (by omega), bg_or]) (nm_r (nI_1 i) (ih2 _ (bg_orlt hq (by omega)) (fun j hj => ?_)))
          rw [if_pos ha, pj j, Nat.testBit_or, hb j hj, Nat.testBit_two_pow]
          exact congrArg _ (decide_eq_decide.mpr (by omega))
      · have b0 : (if A k = true then bg_pi P k A i else A) k = false := by rw [if_neg ha]; exact Bool.eq_false_iff.mpr ha
        rw [b0]
        refine br_f (by decide) (nm_r (nI_1 i) (ih2 q hq (fun j hj => ?_)))
        rw [if_neg ha] at hb ⊢
        exact hb j hj⟩)
    exact ⟨n2, hn2 q hq (fun j hj => by rw [h2 j hj]; by_cases ha : A k = true <;> simp [ha, bg_pi])⟩)
  have hq0 : 2 ^ t < 4096 := Nat.pow_lt_pow_right (a := 2) (by decide) ht
  have z := hn (2 ^ t) (fun j => decide (j = t)) hq0 (fun j hj => by rw [Nat.testBit_two_pow]; exact decide_eq_decide.mpr (by omega)) hp
  rw [pk_m1] at z
  exact ⟨n, z⟩
theorem by_hj {post : SY → Prop} {t : Nat} (ht : t < 12) (hP : bg_PP P) (hp : post (T, B, E, C, K, Q, N, P, (upd OU t (NW t)), ST, (upd HL t 1), (bg_cp (fun j => bg_rc C K Q N P NW t (j + 1)) (t * 5) L 5), SC, S, NW)) : ∃ n, wY_handle_108 post (nI t) T B E n 0 C K Q N P OU ST HL L SC S NW := by
  have ct : (nI t).toNatClampNeg = t := nI_clamp (by omega)
  have it : vp_in (nI t) 12 := vp_in_nI ht (by omega)
  refine bg_lq (fun n i => wY_handle_108 post (nI t) T B E n (nI i) C K Q N P OU ST HL (bg_cp (fun j => bg_rc C K Q N P NW t (j + 1)) (t * 5) L i) SC S NW) 5 (fun n => br_t (Int32.le_refl 5) ⟨it, nm_r (e' := upd HL t 1) (by rw [ct, bg_vb1]) ⟨it, it, nm_r (e' := upd OU t (NW t)) (by rw [ct]) hp⟩⟩) (fun n i hi ih => ?_)
  have e1 : nI t * 5 + nI i = nI (t * 5 + i) := bg_a (bg_m5 t) rfl
  exact br_f (nI_ge (b := 5) hi (by decide)) (by_pt ht hi hP ⟨pk_in (t * 5 + i) 60 (by omega) e1, nm_r (e' := bg_cp (fun j => bg_rc C K Q N P NW t (j + 1)) (t * 5) L (i + 1)) (by rw [e1, nI_clamp (by omega)]; rfl) (nm_r (nI_1 i) ih)⟩)
theorem by_h1 {post : SY → Prop} {t s : Nat} {l o : Bool} (ht : t < 12) (hs : s < 40) (hS : SC t = nI s) (hP : bg_PP P) (hl : l = true ↔ bg_ly HL L (bg_rc C K Q N P NW) t) (ho : o = true ↔ bg_sy SC S (bg_rc C K Q N P NW) t) (hx : bg_ex l o = true) (hp : post (T, B, (E + 1), C, K, Q, N, P, (upd OU t (NW t)), (upd ST t (bg_sv l o)), (upd HL t 1), (bg_cp (fun j => bg_rc C K Q N P NW t (j + 1)) (t * 5) L 5), (upd SC t (SC t + 1)), (bg_cp (fun j => bg_rc C K Q N P NW t (j + 1)) ((t * 40 + (SC t).toNatClampNeg) * 5) S 5), NW)) : wpY_handle post (T, B, E, C, K, Q, N, P, OU, ST, HL, L, SC, S, NW) (nI t) := by
  have ct : (nI t).toNatClampNeg = t := nI_clamp (by omega)
  have it : vp_in (nI t) 12 := vp_in_nI ht (by omega)
  have hc : (SC t).toNatClampNeg = s := by rw [hS, nI_clamp (by omega)]
  have l0 : l = false := by cases l <;> cases o <;> first | rfl | exact absurd hx (by decide)
  have o0 : o = false := by cases l <;> cases o <;> first | rfl | exact absurd hx (by decide)
  have s3 : bg_sv l o = 3 := bg_sv_3.mpr hx
  rw [s3] at hp
  unfold wpY_handle
  refine by_iL ht hP (fun z => absurd (hl.mpr z) (by rw [l0]; decide)) (fun z => br_t rfl (by_iS ht (by omega) hS hP (fun y => absurd (ho.mpr y) (by rw [o0]; decide)) (fun y => br_t rfl ⟨it, nm_r (e' := upd ST t 3) (by rw [ct]) ?_⟩)))
  refine bg_lq (fun n i => wY_handle_45 post (nI t) T B E n (nI i) C K Q N P OU (upd ST t 3) HL L SC (bg_cp (fun j => bg_rc C K Q N P NW t (j + 1)) ((t * 40 + (SC t).toNatClampNeg) * 5) S i) NW) 5 (fun n => br_t (Int32.le_refl 5) ⟨it, it, nm_r (e' := upd SC t (SC t + 1)) (by rw [ct]) (nm_e (by_hj ht hP hp))⟩) (fun n i hi ih => ?_)
  have e1 : (nI t * 40 + nI s) * 5 + nI i = nI ((t * 40 + s) * 5 + i) := bg_a (bg_m (bg_a (bg_m40 t) rfl) rfl) rfl
  exact br_f (nI_ge (b := 5) hi (by decide)) ⟨it, by_pt ht hi hP ⟨pk_in ((t * 40 + s) * 5 + i) 2400 (by omega) (by rw [ct, hS, e1]), nm_r (e' := bg_cp (fun j => bg_rc C K Q N P NW t (j + 1)) ((t * 40 + (SC t).toNatClampNeg) * 5) S (i + 1)) (by rw [ct, hc, hS, e1, nI_clamp (by omega)]; rfl) (nm_r (nI_1 i) ih)⟩⟩
theorem by_h0 {post : SY → Prop} {t s : Nat} {l o : Bool} (ht : t < 12) (hs : s < 40) (hS : SC t = nI s) (hP : bg_PP P) (hl : l = true ↔ bg_ly HL L (bg_rc C K Q N P NW) t) (ho : o = true ↔ bg_sy SC S (bg_rc C K Q N P NW) t) (hx : ¬ bg_ex l o = true) (hp : post (T, B, E, C, K, Q, N, P, (upd OU t (NW t)), (upd ST t (bg_sv l o)), (upd HL t 1), (bg_cp (fun j => bg_rc C K Q N P NW t (j + 1)) (t * 5) L 5), SC, S, NW)) : wpY_handle post (T, B, E, C, K, Q, N, P, OU, ST, HL, L, SC, S, NW) (nI t) := by
  have ct : (nI t).toNatClampNeg = t := nI_clamp (by omega)
  have it : vp_in (nI t) 12 := vp_in_nI ht (by omega)
  unfold wpY_handle
  refine by_iL ht hP (fun z => ?_) (fun z => ?_)
  · have s1 : bg_sv l o = 1 := by rw [hl.mpr z]; rfl
    rw [s1] at hp
    exact br_f bg_10 ⟨it, nm_r (e' := upd ST t 1) (by rw [ct]) (by_hj ht hP hp)⟩
  · have l0 : l = false := Bool.eq_false_iff.mpr (fun w => z (hl.mp w))
    have o1 : o = true := by
      rw [l0] at hx
      cases o with
      | true => rfl
      | false => exact absurd rfl hx
    have s2 : bg_sv l o = 2 := by rw [l0, o1]; rfl
    rw [s2] at hp
    refine br_t rfl (by_iS ht (by omega) hS hP (fun y => ?_) (fun y => absurd (ho.mp o1) y))
    exact br_f bg_10 ⟨it, nm_r (e' := upd ST t 2) (by rw [ct]) (by_hj ht hP hp)⟩
/-! a build's loop -/
theorem by_bl {post : Int32 → SY → Prop} {n q : Nat} {F : Int32} {dn l o : Nat → Bool} (hn : n ≤ 12) (hs : ∀ t, t < 12 → ∃ s, s < 40 ∧ SC t = nI s) (hP : bg_PP P) (hq : q < 4096) (hD : ∀ j, j < 12 → q.testBit j = dn j) (hl : ∀ j, j < n → (l j = true ↔ bg_ly HL L (bg_rc C K Q N P NW) j)) (ho : ∀ j, j < n → (o j = true ↔ bg_sy SC S (bg_rc C K Q N P NW) j)) (hp : post (E + nI (bg_ct (bg_Ev dn l o) n) - F) ((nI n), B, (E + nI (bg_ct (bg_Ev dn l o) n)), C, K, Q, N, P, (bg_u1 dn NW OU n), (bg_st dn (fun j => bg_sv (l j) (o j)) ST n), (bg_u1 dn (fun _ => 1) HL n), (bg_ur dn (fun t j => bg_rc C K Q N P NW t (j + 1)) (fun t => t * 5) 5 L n), (bg_u1 (bg_Ev dn l o) (fun t => SC t + 1) SC n), (bg_ur (bg_Ev dn l o) (fun t j => bg_rc C K Q N P NW t (j + 1)) (fun t => (t * 40 + (SC t).toNatClampNeg) * 5) 5 S n), NW)) : ∃ m, wY_build_50 post F (nI q) m 0 (nI n) B E C K Q N P OU ST HL L SC S NW := by
  have hs' : ∀ t, t < 12 → (SC t).toNatClampNeg < 40 := fun t ht => by
    obtain ⟨s, h1, h2⟩ := hs t ht
    rw [h2, nI_clamp (by omega)]; exact h1
  refine bg_lq (fun m j => wY_build_50 post F (nI q) m (nI j) (nI n) B (bg_en E (bg_Ev dn l o) j) C K Q N P (bg_u1 dn NW OU j) (bg_st dn (fun j => bg_sv (l j) (o j)) ST j) (bg_u1 dn (fun _ => 1) HL j) (bg_ur dn (fun t j => bg_rc C K Q N P NW t (j + 1)) (fun t => t * 5) 5 L j) (bg_u1 (bg_Ev dn l o) (fun t => SC t + 1) SC j) (bg_ur (bg_Ev dn l o) (fun t j => bg_rc C K Q N P NW t (j + 1)) (fun t => (t * 40 + (SC t).toNatClampNeg) * 5) 5 S j) NW) n (fun m => br_t (Int32.le_refl _) (by rw [bg_en_eq]; exact hp)) (fun m j hj ih => ?_)
  have cj : (nI j).toNatClampNeg = j := nI_clamp (by omega)
  have ij : vp_in (nI j) 12 := vp_in_nI (by omega) (by omega)
  try dsimp only at ih
  refine br_f (nI_ge hj (by omega)) ⟨ij, nm_r (e' := upd (bg_st dn (fun j => bg_sv (l j) (o j)) ST j) j 0) (by rw [cj]) ?_⟩
  rw [bg_bit' hq (by omega), hD j (by omega)]
  by_cases hd : dn j = true
  · rw [if_pos hd]
    rw [bg_st_t hd, bg_u1_t (f := fun _ => 1) hd, bg_u1_t (f := NW) hd, bg_ur_t (m := 5) (d := fun t => t * 5) hd] at ih
    obtain ⟨s, h1, h2⟩ := hs j (by omega)
    have hsc : bg_u1 (bg_Ev dn l o) (fun t => SC t + 1) SC j j = SC j := bg_u1_hi j (Nat.le_refl j)
    have hl' := (hl j hj).trans (bg_ly_t (D := dn) (f := fun _ => 1)).symm
    have ho' := (ho j hj).trans (bg_sy_t (D := bg_Ev dn l o) (f := fun t => SC t + 1) (by omega) hs').symm
    by_cases hx : bg_ex (l j) (o j) = true
    · have hE : bg_Ev dn l o j = true := (bg_Ev_t hd).trans hx
      rw [bg_u1_t hE, bg_ur_t hE, bg_en_t hE] at ih
      refine br_t rfl (by_h1 (s := s) (by omega) h1 (hsc.trans h2) hP hl' ho' hx ?_)
      rw [hsc]
      exact nm_r (nI_1 j) ih
    · have hE : ¬ bg_Ev dn l o j = true := by rw [bg_Ev_t hd]; exact hx
      rw [bg_u1_f hE, bg_ur_f hE, bg_en_f hE] at ih
      refine br_t rfl (by_h0 (s := s) (by omega) h1 (hsc.trans h2) hP hl' ho' hx ?_)
      exact nm_r (nI_1 j) ih
  · have hE := bg_Ev_f (l := l) (o := o) hd
    rw [bg_st_f hd, bg_u1_f (f := fun _ => 1) hd, bg_u1_f (f := NW) hd, bg_ur_f (m := 5) (d := fun t => t * 5) hd, bg_u1_f hE, bg_ur_f hE, bg_en_f hE] at ih
    rw [if_neg hd]
    exact br_f (by decide) (nm_r (nI_1 j) ih)
end BGY
