section BGX
variable {T B E : Int32} {C K Q N P HL LR SC SR ST OU NR NW D : Nat → Int32}
/-! the component: what is asked of a number -/
theorem bx_S0 {post : Int32 → Prop} {v : Int32} (h : v < 0 ∨ 8 ≤ v) (hp : post 0) : wpX_isSource post (T, B, E, C, K, Q, N, P, HL, LR, SC, SR, ST, OU, NR, NW, D) v := by
  by_cases h0 : v < 0
  · exact br_t h0 hp
  · exact br_f h0 (br_t (h.resolve_left h0) hp)
theorem bx_S1 {post : Int32 → Prop} {v : Int32} (h0 : ¬ v < 0) (h1 : ¬ 8 ≤ v) (hp : post 1) : wpX_isSource post (T, B, E, C, K, Q, N, P, HL, LR, SC, SR, ST, OU, NR, NW, D) v := br_f h0 (br_f h1 hp)
theorem bx_T0 {post : Int32 → Prop} {v : Int32} (h : v < 0 ∨ T ≤ v) (hp : post 0) : wpX_isTask post (T, B, E, C, K, Q, N, P, HL, LR, SC, SR, ST, OU, NR, NW, D) v := by
  by_cases h0 : v < 0
  · exact br_t h0 hp
  · exact br_f h0 (br_t (h.resolve_left h0) hp)
theorem bx_T1 {post : Int32 → Prop} {v : Int32} (h0 : ¬ v < 0) (h1 : ¬ T ≤ v) (hp : post 1) : wpX_isTask post (T, B, E, C, K, Q, N, P, HL, LR, SC, SR, ST, OU, NR, NW, D) v := br_f h0 (br_f h1 hp)
/-! records worked out -/
theorem bx_iv {post : Int32 → Prop} {t i : Nat} (ht : t < 12) (hi : i < 3) (hP : bg_PP P) (hp : post (bg_iv C P NW t i)) : wpX_inputValue post (T, B, E, C, K, Q, N, P, HL, LR, SC, SR, ST, OU, NR, NW, D) (nI t) (nI i) := by
  obtain ⟨j, hj, e⟩ := hP t i ht hi
  have e1 : nI t * 3 + nI i = nI (t * 3 + i) := bg_a (bg_m3 t) rfl
  unfold bg_iv at hp
  rw [e] at hp
  refine ⟨pk_in (t * 3 + i) 36 (by omega) e1, nm_r (e' := nI j) (by rw [e1, nI_clamp (by omega), e]) ?_⟩
  by_cases h8 : nI j < 8
  · rw [if_pos h8] at hp
    have h8' : j < 8 := (nI_ltI (b := 8) (by omega) (by omega)).mp h8
    exact br_f (Int32.not_le.mpr h8) ⟨vp_in_nI h8' (by omega), hp⟩
  · rw [if_neg h8] at hp
    have h8' : ¬ j < 8 := fun z => h8 ((nI_ltI (b := 8) (by omega) (by omega)).mpr z)
    exact br_t (Int32.not_lt.mp h8) ⟨pk_in (j - 8) 12 (by omega) (bg_s8 (by omega)), hp⟩
theorem bx_wr {post : SX → Prop} {t : Nat} (ht : t < 12) (hP : bg_PP P) (hN : bg_NN N) (hp : post (T, B, E, C, K, Q, N, P, HL, LR, SC, SR, ST, OU, (bg_cp (bg_rc C K Q N P NW t) (t * 6) NR 6), NW, D)) : wpX_writeRecord post (T, B, E, C, K, Q, N, P, HL, LR, SC, SR, ST, OU, NR, NW, D) (nI t) := by
  have ct : (nI t).toNatClampNeg = t := nI_clamp (by omega)
  have it : vp_in (nI t) 12 := vp_in_nI ht (by omega)
  have e0 : nI (t * 6) + 0 = nI (t * 6 + 0) := bg_p0 _
  have e1 : nI (t * 6) + 1 = nI (t * 6 + 1) := nI_1 _
  have e2 : nI (t * 6) + 2 = nI (t * 6 + 2) := bg_p2 _
  refine nm_r (bg_m6 t) ⟨it, pk_in (t * 6 + 0) 72 (by omega) e0, nm_r (e' := upd NR (t * 6 + 0) (K t)) (by rw [e0, nI_clamp (by omega), ct]) ⟨it, pk_in (t * 6 + 1) 72 (by omega) e1, nm_r (e' := upd (upd NR (t * 6 + 0) (K t)) (t * 6 + 1) (Q t)) (by rw [e1, nI_clamp (by omega), ct]) ⟨it, pk_in (t * 6 + 2) 72 (by omega) e2, nm_r (e' := bg_cp (bg_rc C K Q N P NW t) (t * 6) NR 3) (by rw [e2, nI_clamp (by omega), ct]; rfl) ?_⟩⟩⟩
  refine bg_lq (fun n i => wX_writeRecord_49 post (nI t) (nI (t * 6)) T B E n (nI i) C K Q N P HL LR SC SR ST OU (bg_cp (bg_rc C K Q N P NW t) (t * 6) NR (i + 3)) NW D) 3 (fun n => br_t (Int32.le_refl 3) hp) (fun n i hi ih => ?_)
  have c3 : ¬ (3 : Int32) ≤ nI i := nI_ge (b := 3) hi (by decide)
  have e3 : nI (t * 6) + 3 + nI i = nI (t * 6 + (i + 3)) := (bg_a (bg_p3 _) rfl).trans (congrArg nI (by omega))
  have fin : ∀ z : Int32, z = bg_vl C N P NW t i → upd (bg_cp (bg_rc C K Q N P NW t) (t * 6) NR (i + 3)) (nI (t * 6) + 3 + nI i).toNatClampNeg z = bg_cp (bg_rc C K Q N P NW t) (t * 6) NR (i + 1 + 3) := by
    intro z hz
    rw [e3, nI_clamp (by omega), hz]
    rfl
  refine br_f c3 ⟨it, ?_⟩
  rw [ct]
  by_cases hc : nI i < N t
  · exact br_f (Int32.not_le.mpr hc) (bx_iv ht hi hP ⟨pk_in _ 72 (by omega) e3, nm_r (fin _ (if_pos hc).symm) (nm_r (nI_1 i) ih)⟩)
  · exact br_t (Int32.not_lt.mp hc) ⟨pk_in _ 72 (by omega) e3, nm_r (fin _ (if_neg hc).symm) (nm_r (nI_1 i) ih)⟩
theorem bx_or {post : Int32 → Prop} {t c : Nat} (ht : t < 12) (hc : c ≤ 3) (hR : NR (t * 6 + 2) = nI c) (hp : post (bg_fo (NR (t * 6 + 0)) (NR (t * 6 + 1)) (fun i => NR (t * 6 + (i + 3))) c)) : wpX_outputOfRecord post (T, B, E, C, K, Q, N, P, HL, LR, SC, SR, ST, OU, NR, NW, D) (nI (t * 6)) := by
  have e0 : nI (t * 6) + 0 = nI (t * 6 + 0) := bg_p0 _
  have e1 : nI (t * 6) + 1 = nI (t * 6 + 1) := nI_1 _
  have e2 : nI (t * 6) + 2 = nI (t * 6 + 2) := bg_p2 _
  refine ⟨pk_in (t * 6 + 0) 72 (by omega) e0, nm_r (e' := NR (t * 6 + 0)) (by rw [e0, nI_clamp (by omega)]) ⟨pk_in (t * 6 + 2) 72 (by omega) e2, nm_r (e' := nI c) (by rw [e2, nI_clamp (by omega), hR]) ?_⟩⟩
  have lp : ∀ x, x = bg_fs (NR (t * 6 + 0)) (NR (t * 6 + 1)) (fun i => NR (t * 6 + (i + 3))) 0 → ∃ n, wX_outputOfRecord_40 post (nI (t * 6)) (NR (t * 6 + 0)) (nI c) T B E C K Q N P HL LR SC SR ST OU NR NW D n x 0 := by
    intro x hx
    rw [hx]
    refine bg_lq (fun n i => wX_outputOfRecord_40 post (nI (t * 6)) (NR (t * 6 + 0)) (nI c) T B E C K Q N P HL LR SC SR ST OU NR NW D n (bg_fs (NR (t * 6 + 0)) (NR (t * 6 + 1)) (fun i => NR (t * 6 + (i + 3))) i) (nI i)) c (fun n => br_t (Int32.le_refl _) ?_) (fun n i hi ih => ?_)
    · unfold bg_fo at hp
      by_cases h3 : NR (t * 6 + 0) = 3
      · rw [if_pos h3] at hp; exact br_t h3 hp
      · rw [if_neg h3] at hp; exact br_f h3 hp
    · try dsimp only at ih
      have cc : ¬ nI c ≤ nI i := nI_ge hi (by omega)
      have e3 : nI (t * 6) + 3 + nI i = nI (t * 6 + (i + 3)) := (bg_a (bg_p3 _) rfl).trans (congrArg nI (by omega))
      refine br_f cc ⟨pk_in _ 72 (by omega) e3, nm_r (e' := NR (t * 6 + (i + 3))) (by rw [e3, nI_clamp (by omega)]) ?_⟩
      by_cases k1 : NR (t * 6 + 0) = 1
      · rw [bg_fs_1 k1] at ih
        exact br_t k1 (nm_e (nm_r (nI_1 i) ih))
      · by_cases k2 : NR (t * 6 + 0) = 2
        · rw [bg_fs_2 k2] at ih
          by_cases k3 : bg_fs (NR (t * 6 + 0)) (NR (t * 6 + 1)) (fun i => NR (t * 6 + (i + 3))) i < NR (t * 6 + (i + 3))
          · rw [if_pos k3] at ih
            exact br_f k1 (br_t k2 (br_f (Int32.not_le.mpr k3) (nm_r (nI_1 i) ih)))
          · rw [if_neg k3] at ih
            exact br_f k1 (br_t k2 (br_t (Int32.not_lt.mp k3) (nm_r (nI_1 i) ih)))
        · rw [bg_fs_p k1 k2] at ih
          exact br_f k1 (br_f k2 (nm_e (nm_r (nI_1 i) ih)))
  by_cases h3 : NR (t * 6 + 0) = 3
  · exact br_t h3 (lp _ (if_pos h3).symm)
  · exact br_f h3 ⟨pk_in (t * 6 + 1) 72 (by omega) e1, nm_r (e' := NR (t * 6 + 1)) (by rw [e1, nI_clamp (by omega)]) (lp _ (if_neg h3).symm)⟩
theorem bx_wo {post : SX → Prop} {m : Nat} (hm : m ≤ 12) (hT : T = nI m) (hP : bg_PP P) (hN : bg_NN N) (hp : post (T, B, E, C, K, Q, N, P, HL, LR, SC, SR, ST, OU, (bg_nr C K Q N P NW NR m), (bg_wo C K Q N P NW m), D)) : wpX_workOutTasks post (T, B, E, C, K, Q, N, P, HL, LR, SC, SR, ST, OU, NR, NW, D) := by
  subst hT
  refine bg_lq (fun n i => wX_workOutTasks_2 post n (nI i) (nI m) B E C K Q N P HL LR SC SR ST OU (bg_nr C K Q N P NW NR i) (bg_wo C K Q N P NW i) D) m (fun n => br_t (Int32.le_refl _) hp) (fun n t ht ih => ?_)
  have ct : (nI t).toNatClampNeg = t := nI_clamp (by omega)
  refine br_f (nI_ge ht (by omega)) (bx_wr (by omega) hP hN ?_)
  obtain ⟨c, hc, e⟩ := hN t
  have rd : ∀ j, j < 6 → bg_cp (bg_rc C K Q N P (bg_wo C K Q N P NW t) t) (t * 6) (bg_nr C K Q N P NW NR t) 6 (t * 6 + j) = bg_rc C K Q N P (bg_wo C K Q N P NW t) t j := fun j hj => bg_cp_in _ _ _ 6 j hj
  show wpX_outputOfRecord _ _ (nI t * 6)
  rw [bg_m6 t]
  refine bx_or (c := c) (by omega) hc ((rd 2 (by omega)).trans e) ?_
  refine ⟨vp_in_nI (by omega) (by omega), nm_r (e' := bg_wo C K Q N P NW (t + 1)) ?_ (nm_r (nI_1 t) ih)⟩
  rw [ct]
  show upd _ _ _ = upd _ _ (bg_ou C K Q N P (bg_wo C K Q N P NW t) t)
  unfold bg_ou bg_fo
  rw [e, nI_clamp (by omega), rd 0 (by omega), rd 1 (by omega), bg_fs_x (w := bg_vl C N P (bg_wo C K Q N P NW t) t) c (fun i hi => rd (i + 3) (by omega))]
  rfl
theorem bx_mi {post : SX → Prop} {t : Nat} {A : Nat → Bool} (ht : t < 12) (hP : bg_PP P) (hN : bg_NN N) (hD : ∀ j, j < 12 → D j = bg_bi (A j)) (hp : ∀ D' : Nat → Int32, (∀ j, j < 12 → D' j = bg_bi (bg_pi P t A (N t).toNatClampNeg j)) → post (T, B, E, C, K, Q, N, P, HL, LR, SC, SR, ST, OU, NR, NW, D')) : wpX_markInputs post (T, B, E, C, K, Q, N, P, HL, LR, SC, SR, ST, OU, NR, NW, D) (nI t) := by
  obtain ⟨c, hc, e⟩ := hN t
  have ct : (nI t).toNatClampNeg = t := nI_clamp (by omega)
  have it : vp_in (nI t) 12 := vp_in_nI ht (by omega)
  rw [e, nI_clamp (by omega)] at hp
  obtain ⟨n, hn⟩ := bg_lq (fun n i => ∀ D' : Nat → Int32, (∀ j, j < 12 → D' j = bg_bi (bg_pi P t A i j)) → wX_markInputs_2 post (nI t) T B E n (nI i) C K Q N P HL LR SC SR ST OU NR NW D') c (fun n D' hD' => ⟨it, by
    rw [ct, e]
    exact br_t (Int32.le_refl _) (hp D' hD')⟩) (fun n i hi ih D' hD' => ⟨it, by
    rw [ct, e]
    refine br_f (nI_ge hi (by omega)) ?_
    obtain ⟨x, hx, ex⟩ := hP t i ht (by omega)
    have e1 : nI t * 3 + nI i = nI (t * 3 + i) := bg_a (bg_m3 t) rfl
    have pj : ∀ j, bg_pi P t A (i + 1) j = (bg_pi P t A i j || decide (x = j + 8)) := by
      intro j
      show (bg_pi P t A i j || decide ((P (t * 3 + i)).toNatClampNeg = j + 8)) = _
      rw [ex, nI_clamp (by omega)]
    refine ⟨pk_in (t * 3 + i) 36 (by omega) e1, nm_r (e' := nI x) (by rw [e1, nI_clamp (by omega), ex]) ?_⟩
    by_cases h8 : x < 8
    · refine br_t (nI_lt (b := 8) h8 (by decide)) (nm_r (nI_1 i) (ih D' (fun j hj => ?_)))
      rw [pj j, decide_eq_false (by omega), Bool.or_false]
      exact hD' j hj
    · refine br_f (nI_nlt (b := 8) (by omega) (by omega)) ⟨pk_in (x - 8) 12 (by omega) (bg_s8 (by omega)), nm_r (e' := upd D' (x - 8) 1) (by rw [bg_s8 (by omega), nI_clamp (by omega), bg_vb1]) (nm_r (nI_1 i) (ih _ (fun j hj => ?_)))⟩
      rw [pj j]
      by_cases ej : j = x - 8
      · rw [ej, pk_us, decide_eq_true (by omega), Bool.or_true]; rfl
      · rw [pk_un ej, decide_eq_false (by omega), Bool.or_false]
        exact hD' j hj⟩)
  exact ⟨n, hn D hD⟩
theorem bx_mn {post : SX → Prop} {t : Nat} (ht : t < 12) (hP : bg_PP P) (hN : bg_NN N) (hp : ∀ D' : Nat → Int32, (∀ j, j < 12 → D' j = bg_bi (bg_nd P N t j)) → post (T, B, E, C, K, Q, N, P, HL, LR, SC, SR, ST, OU, NR, NW, D')) : wpX_markNeeded post (T, B, E, C, K, Q, N, P, HL, LR, SC, SR, ST, OU, NR, NW, D) (nI t) := by
  obtain ⟨n, hn⟩ := bg_lq (fun n i => ∀ D' : Nat → Int32, (∀ j, j < i → D' j = bg_bi (decide (j = t))) → wX_markNeeded_2 post (nI t) T B E n (nI i) C K Q N P HL LR SC SR ST OU NR NW D') 12 (fun n D' hD' => br_t (Int32.le_refl 12) (by
    obtain ⟨n2, hn2⟩ := bg_ld (fun n k => ∀ (D2 : Nat → Int32) (A : Nat → Bool), (∀ j, j < 12 → D2 j = bg_bi (A j)) → (∀ D3 : Nat → Int32, (∀ j, j < 12 → D3 j = bg_bi (bg_pd P N k A j)) → post (T, B, E, C, K, Q, N, P, HL, LR, SC, SR, ST, OU, NR, NW, D3)) → wX_markNeeded_32 post n (nI k + (-1)) T B E C K Q N P HL LR SC SR ST OU NR NW D2) (t + 1) (fun n D2 A h2 h3 => br_t (by decide) (h3 D2 h2)) (fun n k hk ih D2 A h2 h3 => by
      rw [pk_m1]
      refine br_f (nI_pos (by omega)) ⟨vp_in_nI (by omega) (by omega), ?_⟩
      rw [nI_clamp (by omega), h2 k (by omega)]
      by_cases ha : A k = true
      · rw [bg_bi_t ha]
        refine br_f bg_10 (bx_mi (A := A) (by omega) hP hN h2 (fun D3 h4 => nm_e (ih D3 _ h4 (fun D4 h5 => h3 D4 (fun j hj => ?_)))))
        rw [h5 j hj]
        show _ = bg_bi (bg_pd P N k (bg_pb P N k A) j)
        unfold bg_pb
        rw [if_pos ha]
      · rw [bg_bi_f ha]
        refine br_t rfl (nm_e (ih D2 A h2 (fun D4 h5 => h3 D4 (fun j hj => ?_))))
        rw [h5 j hj]
        show _ = bg_bi (bg_pd P N k (bg_pb P N k A) j)
        unfold bg_pb
        rw [if_neg ha])
    have q := hn2 D' (fun j => decide (j = t)) hD' hp
    rw [pk_m1] at q
    exact ⟨n2, q⟩)) (fun n i hi ih D' hD' => by
    refine br_f (nI_ge (b := 12) hi (by decide)) ?_
    have ci : (nI i).toNatClampNeg = i := nI_clamp (by omega)
    by_cases et : i = t
    · refine br_t (congrArg nI et) ⟨vp_in_nI hi (by omega), nm_r (e' := upd D' i 1) (by rw [ci, bg_vb1]) (nm_r (nI_1 i) (ih _ (fun j hj => ?_)))⟩
      by_cases ej : j = i
      · rw [ej, pk_us, decide_eq_true et]; rfl
      · rw [pk_un ej]; exact hD' j (by omega)
    · refine br_f (fun z => et ((nI_eq (by omega) (by omega)).mp z)) ⟨vp_in_nI hi (by omega), nm_r (e' := upd D' i 0) (by rw [ci, bg_vb0]) (nm_r (nI_1 i) (ih _ (fun j hj => ?_)))⟩
      by_cases ej : j = i
      · rw [ej, pk_us, decide_eq_false et]; rfl
      · rw [pk_un ej]; exact hD' j (by omega))
  exact ⟨n, hn D (fun j hj => by omega)⟩
/-! records compared and copied -/
theorem bx_inL {post : Int32 → Prop} {t s : Nat} (ht : t < 12) (hs : s + 6 ≤ 72) (h1 : (∀ j, j < 6 → LR (s + j) = NR (t * 6 + j)) → post 1) (h0 : ¬ (∀ j, j < 6 → LR (s + j) = NR (t * 6 + j)) → post 0) : wpX_isNowRecord__lastRecords post (T, B, E, C, K, Q, N, P, HL, LR, SC, SR, ST, OU, NR, NW, D) (nI t) (nI s) := by
  refine bg_lp0 (fun n i => wX_isNowRecord__lastRecords_3 post (nI t) (nI s) T B E C K Q N P HL LR SC SR ST OU NR NW D n (nI i)) (fun i => ∀ j, j < i → LR (s + j) = NR (t * 6 + j)) 6 0 (by omega) (fun j hj => by omega) (fun n h => br_t (Int32.le_refl 6) (h1 h)) (fun n i hi h ih => ?_)
  have e1 : nI s + nI i = nI (s + i) := nI_add s i
  have e2 : nI t * 6 + nI i = nI (t * 6 + i) := bg_a (bg_m6 t) rfl
  refine br_f (nI_ge (b := 6) hi (by decide)) ⟨pk_in (s + i) 72 (by omega) e1, pk_in (t * 6 + i) 72 (by omega) e2, ?_⟩
  rw [e1, e2, nI_clamp (by omega), nI_clamp (by omega)]
  by_cases q : LR (s + i) = NR (t * 6 + i)
  · refine br_t q (nm_r (nI_1 i) (ih (fun j hj => ?_)))
    by_cases ej : j = i
    · rw [ej]; exact q
    · exact h j (by omega)
  · exact br_f q (h0 (fun z => q (z i hi)))
theorem bx_inS {post : Int32 → Prop} {t s : Nat} (ht : t < 12) (hs : s + 6 ≤ 2880) (h1 : (∀ j, j < 6 → SR (s + j) = NR (t * 6 + j)) → post 1) (h0 : ¬ (∀ j, j < 6 → SR (s + j) = NR (t * 6 + j)) → post 0) : wpX_isNowRecord__storeRecords post (T, B, E, C, K, Q, N, P, HL, LR, SC, SR, ST, OU, NR, NW, D) (nI t) (nI s) := by
  refine bg_lp0 (fun n i => wX_isNowRecord__storeRecords_3 post (nI t) (nI s) T B E C K Q N P HL LR SC SR ST OU NR NW D n (nI i)) (fun i => ∀ j, j < i → SR (s + j) = NR (t * 6 + j)) 6 0 (by omega) (fun j hj => by omega) (fun n h => br_t (Int32.le_refl 6) (h1 h)) (fun n i hi h ih => ?_)
  have e1 : nI s + nI i = nI (s + i) := nI_add s i
  have e2 : nI t * 6 + nI i = nI (t * 6 + i) := bg_a (bg_m6 t) rfl
  refine br_f (nI_ge (b := 6) hi (by decide)) ⟨pk_in (s + i) 2880 (by omega) e1, pk_in (t * 6 + i) 72 (by omega) e2, ?_⟩
  rw [e1, e2, nI_clamp (by omega), nI_clamp (by omega)]
  by_cases q : SR (s + i) = NR (t * 6 + i)
  · refine br_t q (nm_r (nI_1 i) (ih (fun j hj => ?_)))
    by_cases ej : j = i
    · rw [ej]; exact q
    · exact h j (by omega)
  · exact br_f q (h0 (fun z => q (z i hi)))
theorem bx_iL {post : Int32 → Prop} {t : Nat} {rc : Nat → Nat → Int32} (ht : t < 12) (hR : ∀ j, j < 6 → NR (t * 6 + j) = rc t j) (h1 : bg_lx HL LR rc t → post 1) (h0 : ¬ bg_lx HL LR rc t → post 0) : wpX_isLastRecord post (T, B, E, C, K, Q, N, P, HL, LR, SC, SR, ST, OU, NR, NW, D) (nI t) := by
  have ct : (nI t).toNatClampNeg = t := nI_clamp (by omega)
  have it : vp_in (nI t) 12 := vp_in_nI ht (by omega)
  have sw : (∀ j, j < 6 → LR (t * 6 + j) = NR (t * 6 + j)) ↔ ∀ j, j < 6 → LR (t * 6 + j) = rc t j := ⟨fun h j hj => (h j hj).trans (hR j hj), fun h j hj => (h j hj).trans (hR j hj).symm⟩
  refine nm_r (bg_m6 t) ⟨it, ?_⟩
  rw [ct]
  by_cases h : HL t = 0
  · exact br_t h (h0 (fun z => z.1 h))
  · refine br_f h (bx_inL ht (by omega) (fun z => ?_) (fun z => ?_))
    · exact br_f bg_10 (h1 ⟨h, sw.mp z⟩)
    · exact br_t rfl (h0 (fun w => z (sw.mpr w.2)))
theorem bx_iS {post : Int32 → Prop} {t s : Nat} {rc : Nat → Nat → Int32} (ht : t < 12) (hs : s ≤ 40) (hS : SC t = nI s) (hR : ∀ j, j < 6 → NR (t * 6 + j) = rc t j) (h1 : bg_sx SC SR rc t → post 1) (h0 : ¬ bg_sx SC SR rc t → post 0) : wpX_isInStore post (T, B, E, C, K, Q, N, P, HL, LR, SC, SR, ST, OU, NR, NW, D) (nI t) := by
  have ct : (nI t).toNatClampNeg = t := nI_clamp (by omega)
  have it : vp_in (nI t) 12 := vp_in_nI ht (by omega)
  have hc : (SC t).toNatClampNeg = s := by rw [hS, nI_clamp (by omega)]
  refine bg_lp0 (fun n i => wX_isInStore_2 post (nI t) T B E C K Q N P HL LR SC SR ST OU NR NW D n (nI i)) (fun i => ∀ r, r < i → ¬ ∀ j, j < 6 → SR (t * 240 + r * 6 + j) = rc t j) s 0 (by omega) (fun r hr => by omega) (fun n h => ⟨it, ?_⟩) (fun n i hi h ih => ⟨it, ?_⟩)
  · rw [ct, hS]
    refine br_t (Int32.le_refl _) (h0 (fun ⟨r, hr, hj⟩ => ?_))
    rw [hc] at hr
    exact h r hr hj
  · rw [ct, hS]
    refine br_f (nI_ge hi (by omega)) (nm_r (e' := nI (t * 240 + i * 6)) (bg_a (bg_m240 t) (bg_m6 i)) ?_)
    have sw : (∀ j, j < 6 → SR (t * 240 + i * 6 + j) = NR (t * 6 + j)) ↔ ∀ j, j < 6 → SR (t * 240 + i * 6 + j) = rc t j := ⟨fun h j hj => (h j hj).trans (hR j hj), fun h j hj => (h j hj).trans (hR j hj).symm⟩
    refine bx_inS ht (by omega) (fun z => ?_) (fun z => ?_)
    · exact br_f bg_10 (h1 ⟨i, by rw [hc]; exact hi, sw.mp z⟩)
    · refine br_t rfl (nm_r (nI_1 i) (ih (fun r hr => ?_)))
      by_cases er : r = i
      · rw [er]; exact fun w => z (sw.mpr w)
      · exact h r (by omega)
theorem bx_sn {post : Int32 → Prop} {t s : Nat} {rc : Nat → Nat → Int32} {l o : Bool} (ht : t < 12) (hs : s ≤ 40) (hS : SC t = nI s) (hR : ∀ j, j < 6 → NR (t * 6 + j) = rc t j) (hl : l = true ↔ bg_lx HL LR rc t) (ho : o = true ↔ bg_sx SC SR rc t) (hp : post (bg_sv l o)) : wpX_statusNow post (T, B, E, C, K, Q, N, P, HL, LR, SC, SR, ST, OU, NR, NW, D) (nI t) := by
  unfold wpX_statusNow
  refine bx_iL ht hR (fun z => ?_) (fun z => ?_)
  · rw [hl.mpr z] at hp
    exact br_f bg_10 hp
  · have l0 : l = false := by
      cases l with
      | false => rfl
      | true => exact absurd (hl.mp rfl) z
    rw [l0] at hp
    refine br_t rfl (bx_iS ht hs hS hR (fun y => ?_) (fun y => ?_))
    · rw [ho.mpr y] at hp
      exact br_f bg_10 hp
    · have o0 : o = false := by
        cases o with
        | false => rfl
        | true => exact absurd (ho.mp rfl) y
      rw [o0] at hp
      exact br_t rfl hp
theorem bx_cL {post : SX → Prop} {t s : Nat} (ht : t < 12) (hs : s + 6 ≤ 72) (hp : post (T, B, E, C, K, Q, N, P, HL, (bg_cp (fun j => NR (t * 6 + j)) s LR 6), SC, SR, ST, OU, NR, NW, D)) : wpX_copyNowRecord__lastRecords post (T, B, E, C, K, Q, N, P, HL, LR, SC, SR, ST, OU, NR, NW, D) (nI t) (nI s) := by
  refine bg_lq (fun n i => wX_copyNowRecord__lastRecords_3 post (nI t) (nI s) T B E n (nI i) C K Q N P HL (bg_cp (fun j => NR (t * 6 + j)) s LR i) SC SR ST OU NR NW D) 6 (fun n => br_t (Int32.le_refl 6) hp) (fun n i hi ih => ?_)
  have e1 : nI s + nI i = nI (s + i) := nI_add s i
  have e2 : nI t * 6 + nI i = nI (t * 6 + i) := bg_a (bg_m6 t) rfl
  refine br_f (nI_ge (b := 6) hi (by decide)) ⟨pk_in (t * 6 + i) 72 (by omega) e2, pk_in (s + i) 72 (by omega) e1, nm_r (e' := bg_cp (fun j => NR (t * 6 + j)) s LR (i + 1)) ?_ (nm_r (nI_1 i) ih)⟩
  rw [e1, e2, nI_clamp (by omega), nI_clamp (by omega)]
  rfl
theorem bx_cS {post : SX → Prop} {t s : Nat} (ht : t < 12) (hs : s + 6 ≤ 2880) (hp : post (T, B, E, C, K, Q, N, P, HL, LR, SC, (bg_cp (fun j => NR (t * 6 + j)) s SR 6), ST, OU, NR, NW, D)) : wpX_copyNowRecord__storeRecords post (T, B, E, C, K, Q, N, P, HL, LR, SC, SR, ST, OU, NR, NW, D) (nI t) (nI s) := by
  refine bg_lq (fun n i => wX_copyNowRecord__storeRecords_3 post (nI t) (nI s) T B E n (nI i) C K Q N P HL LR SC (bg_cp (fun j => NR (t * 6 + j)) s SR i) ST OU NR NW D) 6 (fun n => br_t (Int32.le_refl 6) hp) (fun n i hi ih => ?_)
  have e1 : nI s + nI i = nI (s + i) := nI_add s i
  have e2 : nI t * 6 + nI i = nI (t * 6 + i) := bg_a (bg_m6 t) rfl
  refine br_f (nI_ge (b := 6) hi (by decide)) ⟨pk_in (t * 6 + i) 72 (by omega) e2, pk_in (s + i) 2880 (by omega) e1, nm_r (e' := bg_cp (fun j => NR (t * 6 + j)) s SR (i + 1)) ?_ (nm_r (nI_1 i) ih)⟩
  rw [e1, e2, nI_clamp (by omega), nI_clamp (by omega)]
  rfl
theorem bx_ad {post : SX → Prop} {t s : Nat} (ht : t < 12) (hs : s < 40) (hS : SC t = nI s) (hp : post (T, B, E, C, K, Q, N, P, HL, LR, (upd SC t (SC t + 1)), (bg_cp (fun j => NR (t * 6 + j)) (t * 240 + (SC t).toNatClampNeg * 6) SR 6), ST, OU, NR, NW, D)) : wpX_addToStore post (T, B, E, C, K, Q, N, P, HL, LR, SC, SR, ST, OU, NR, NW, D) (nI t) := by
  have ct : (nI t).toNatClampNeg = t := nI_clamp (by omega)
  have it : vp_in (nI t) 12 := vp_in_nI ht (by omega)
  have hc : (SC t).toNatClampNeg = s := by rw [hS, nI_clamp (by omega)]
  have e1 : nI t * 240 + nI s * 6 = nI (t * 240 + s * 6) := bg_a (bg_m240 t) (bg_m6 s)
  rw [hc] at hp
  refine ⟨it, nm_r (e' := nI s) (by rw [ct, hS]) ?_⟩
  refine br_f (nI_ge (b := 40) hs (by decide)) ?_
  rw [e1]
  refine bx_cS ht (by omega) ?_
  refine ⟨it, nm_r (e' := upd SC t (SC t + 1)) (by rw [ct, hS]) hp⟩
theorem bx_ht {post : SX → Prop} {t : Nat} {rc : Nat → Nat → Int32} (ht : t < 12) (hR : ∀ j, j < 6 → NR (t * 6 + j) = rc t j) (hp : post (T, B, E, C, K, Q, N, P, (upd HL t 1), (bg_cp (rc t) (t * 6) LR 6), SC, SR, ST, (upd OU t (NW t)), NR, NW, D)) : wX_handle_26 post (nI t) T B E C K Q N P HL LR SC SR ST OU NR NW D := by
  have ct : (nI t).toNatClampNeg = t := nI_clamp (by omega)
  have it : vp_in (nI t) 12 := vp_in_nI ht (by omega)
  have hf : bg_cp (fun j => NR (t * 6 + j)) (t * 6) LR 6 = bg_cp (rc t) (t * 6) LR 6 := bg_cp_x 6 hR
  unfold wX_handle_26
  rw [bg_m6]
  refine bx_cL ht (by omega) ?_
  rw [hf]
  exact ⟨it, nm_r (e' := upd HL t 1) (by rw [ct, bg_vb1]) ⟨it, it, nm_r (e' := upd OU t (NW t)) (by rw [ct]) hp⟩⟩
theorem bx_h1 {post : SX → Prop} {t s : Nat} {rc : Nat → Nat → Int32} {l o : Bool} (ht : t < 12) (hs : s < 40) (hS : SC t = nI s) (hR : ∀ j, j < 6 → NR (t * 6 + j) = rc t j) (hl : l = true ↔ bg_lx HL LR rc t) (ho : o = true ↔ bg_sx SC SR rc t) (hx : bg_ex l o = true) (hp : post (T, B, E, C, K, Q, N, P, (upd HL t 1), (bg_cp (rc t) (t * 6) LR 6), (upd SC t (SC t + 1)), (bg_cp (rc t) (t * 240 + (SC t).toNatClampNeg * 6) SR 6), (upd ST t (bg_sv l o)), (upd OU t (NW t)), NR, NW, D)) : wpX_handle post (T, B, E, C, K, Q, N, P, HL, LR, SC, SR, ST, OU, NR, NW, D) (nI t) := by
  have ct : (nI t).toNatClampNeg = t := nI_clamp (by omega)
  have it : vp_in (nI t) 12 := vp_in_nI ht (by omega)
  have hg : bg_cp (fun j => NR (t * 6 + j)) (t * 240 + (SC t).toNatClampNeg * 6) SR 6 = bg_cp (rc t) (t * 240 + (SC t).toNatClampNeg * 6) SR 6 := bg_cp_x 6 hR
  unfold wpX_handle
  refine bx_sn ht (by omega) hS hR hl ho ?_
  refine ⟨it, nm_r (e' := upd ST t (bg_sv l o)) (by rw [ct]) ⟨it, ?_⟩⟩
  rw [ct, pk_us]
  refine br_t (bg_sv_3.mpr hx) (bx_ad ht hs hS ?_)
  rw [hg]
  exact bx_ht ht hR hp
theorem bx_h0 {post : SX → Prop} {t s : Nat} {rc : Nat → Nat → Int32} {l o : Bool} (ht : t < 12) (hs : s < 40) (hS : SC t = nI s) (hR : ∀ j, j < 6 → NR (t * 6 + j) = rc t j) (hl : l = true ↔ bg_lx HL LR rc t) (ho : o = true ↔ bg_sx SC SR rc t) (hx : ¬ bg_ex l o = true) (hp : post (T, B, E, C, K, Q, N, P, (upd HL t 1), (bg_cp (rc t) (t * 6) LR 6), SC, SR, (upd ST t (bg_sv l o)), (upd OU t (NW t)), NR, NW, D)) : wpX_handle post (T, B, E, C, K, Q, N, P, HL, LR, SC, SR, ST, OU, NR, NW, D) (nI t) := by
  have ct : (nI t).toNatClampNeg = t := nI_clamp (by omega)
  have it : vp_in (nI t) 12 := vp_in_nI ht (by omega)
  have hg : bg_cp (fun j => NR (t * 6 + j)) (t * 240 + (SC t).toNatClampNeg * 6) SR 6 = bg_cp (rc t) (t * 240 + (SC t).toNatClampNeg * 6) SR 6 := bg_cp_x 6 hR
  unfold wpX_handle
  refine bx_sn ht (by omega) hS hR hl ho ?_
  refine ⟨it, nm_r (e' := upd ST t (bg_sv l o)) (by rw [ct]) ⟨it, ?_⟩⟩
  rw [ct, pk_us]
  refine br_f (fun z => hx (bg_sv_3.mp z)) ?_
  exact bx_ht ht hR hp
/-! a build's loop -/
theorem bx_bl {post : Int32 → SX → Prop} {n : Nat} {dn l o : Nat → Bool} {rc : Nat → Nat → Int32} (hn : n ≤ 12) (hs : ∀ t, t < 12 → ∃ s, s < 40 ∧ SC t = nI s) (hR : ∀ j, j < n → ∀ i, i < 6 → NR (j * 6 + i) = rc j i) (hD : ∀ j, j < 12 → D j = bg_bi (dn j)) (hl : ∀ j, j < n → (l j = true ↔ bg_lx HL LR rc j)) (ho : ∀ j, j < n → (o j = true ↔ bg_sx SC SR rc j)) (hp : post (nI (bg_ct (bg_Ev dn l o) n)) ((nI n), (B + 1), (E + nI (bg_ct (bg_Ev dn l o) n)), C, K, Q, N, P, (bg_u1 dn (fun _ => 1) HL n), (bg_ur dn rc (fun t => t * 6) 6 LR n), (bg_u1 (bg_Ev dn l o) (fun t => SC t + 1) SC n), (bg_ur (bg_Ev dn l o) rc (fun t => t * 240 + (SC t).toNatClampNeg * 6) 6 SR n), (bg_st dn (fun j => bg_sv (l j) (o j)) ST n), (bg_u1 dn NW OU n), NR, NW, D)) : ∃ m, wX_build_35 post m 0 0 (nI n) B E C K Q N P HL LR SC SR ST OU NR NW D := by
  have hs' : ∀ t, t < 12 → (SC t).toNatClampNeg < 40 := fun t ht => by
    obtain ⟨s, h1, h2⟩ := hs t ht
    rw [h2, nI_clamp (by omega)]; exact h1
  refine bg_lq (fun m j => wX_build_35 post m (nI (bg_ct (bg_Ev dn l o) j)) (nI j) (nI n) B E C K Q N P (bg_u1 dn (fun _ => 1) HL j) (bg_ur dn rc (fun t => t * 6) 6 LR j) (bg_u1 (bg_Ev dn l o) (fun t => SC t + 1) SC j) (bg_ur (bg_Ev dn l o) rc (fun t => t * 240 + (SC t).toNatClampNeg * 6) 6 SR j) (bg_st dn (fun j => bg_sv (l j) (o j)) ST j) (bg_u1 dn NW OU j) NR NW D) n (fun m => br_t (Int32.le_refl _) (nm_e (nm_e hp))) (fun m j hj ih => ?_)
  have cj : (nI j).toNatClampNeg = j := nI_clamp (by omega)
  have ij : vp_in (nI j) 12 := vp_in_nI (by omega) (by omega)
  try dsimp only at ih
  refine br_f (nI_ge hj (by omega)) ⟨ij, nm_r (e' := upd (bg_st dn (fun j => bg_sv (l j) (o j)) ST j) j 0) (by rw [cj]) ⟨ij, ?_⟩⟩
  rw [cj, hD j (by omega)]
  by_cases hd : dn j = true
  · rw [bg_bi_t hd]
    rw [bg_st_t hd, bg_u1_t (f := fun _ => 1) hd, bg_u1_t (f := NW) hd, bg_ur_t (m := 6) (d := fun t => t * 6) hd] at ih
    obtain ⟨s, h1, h2⟩ := hs j (by omega)
    have hsc : bg_u1 (bg_Ev dn l o) (fun t => SC t + 1) SC j j = SC j := bg_u1_hi j (Nat.le_refl j)
    have hl' := (hl j hj).trans (bg_lx_t (D := dn) (f := fun _ => 1)).symm
    have ho' := (ho j hj).trans (bg_sx_t (D := bg_Ev dn l o) (f := fun t => SC t + 1) (by omega) hs').symm
    by_cases hx : bg_ex (l j) (o j) = true
    · have hE : bg_Ev dn l o j = true := (bg_Ev_t hd).trans hx
      rw [bg_u1_t hE, bg_ur_t hE, bg_ct_t hE] at ih
      refine br_f bg_10 (bx_h1 (s := s) (by omega) h1 (hsc.trans h2) (hR j hj) hl' ho' hx ?_)
      rw [hsc]
      refine ⟨ij, ?_⟩
      rw [cj, pk_us]
      exact br_t (bg_sv_3.mpr hx) (nm_r (nI_1 _) (nm_r (nI_1 j) ih))
    · have hE : ¬ bg_Ev dn l o j = true := by rw [bg_Ev_t hd]; exact hx
      rw [bg_u1_f hE, bg_ur_f hE, bg_ct_f hE] at ih
      refine br_f bg_10 (bx_h0 (s := s) (by omega) h1 (hsc.trans h2) (hR j hj) hl' ho' hx ?_)
      refine ⟨ij, ?_⟩
      rw [cj, pk_us]
      exact br_f (fun z => hx (bg_sv_3.mp z)) (nm_r (nI_1 j) ih)
  · have hE := bg_Ev_f (l := l) (o := o) hd
    rw [bg_st_f hd, bg_u1_f (f := fun _ => 1) hd, bg_u1_f (f := NW) hd, bg_ur_f (m := 6) (d := fun t => t * 6) hd, bg_u1_f hE, bg_ur_f hE, bg_ct_f hE] at ih
    rw [bg_bi_f hd]
    refine br_t rfl ⟨ij, ?_⟩
    rw [cj, pk_us]
    exact br_f (by decide) (nm_r (nI_1 j) ih)
end BGX
