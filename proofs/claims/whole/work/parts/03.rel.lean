/-! the relation's parts, and how each call keeps them -/
def bg_LL (n : Nat) (K HL LR L : Nat → Int32) : Prop := ∀ t, t < 12 → ¬ HL t = 0 → t < n ∧ LR (t * 6) = K t ∧ ∀ j, j < 5 → LR (t * 6 + (j + 1)) = L (t * 5 + j)
def bg_SS (n b : Nat) (K SC SR S : Nat → Int32) : Prop := ∀ t, t < 12 → ∃ s, s ≤ b ∧ SC t = nI s ∧ (n ≤ t → s = 0) ∧ ∀ r, r < s → SR (t * 240 + r * 6) = K t ∧ ∀ j, j < 5 → SR (t * 240 + r * 6 + (j + 1)) = S ((t * 40 + r) * 5 + j)
def bg_R (n b : Nat) (K N P HL LR SC SR L S : Nat → Int32) : Prop := n ≤ 12 ∧ b ≤ 40 ∧ bg_KK K ∧ bg_NN N ∧ bg_PP P ∧ bg_LL n K HL LR L ∧ bg_SS n b K SC SR S
def bg_lx (HL LR : Nat → Int32) (rc : Nat → Nat → Int32) (t : Nat) : Prop := ¬ HL t = 0 ∧ ∀ j, j < 6 → LR (t * 6 + j) = rc t j
def bg_ly (HL L : Nat → Int32) (rc : Nat → Nat → Int32) (t : Nat) : Prop := ¬ HL t = 0 ∧ ∀ j, j < 5 → L (t * 5 + j) = rc t (j + 1)
def bg_sx (SC SR : Nat → Int32) (rc : Nat → Nat → Int32) (t : Nat) : Prop := ∃ r, r < (SC t).toNatClampNeg ∧ ∀ j, j < 6 → SR (t * 240 + r * 6 + j) = rc t j
def bg_sy (SC S : Nat → Int32) (rc : Nat → Nat → Int32) (t : Nat) : Prop := ∃ r, r < (SC t).toNatClampNeg ∧ ∀ j, j < 5 → S ((t * 40 + r) * 5 + j) = rc t (j + 1)
theorem bg_lxy {n : Nat} {K HL LR L : Nat → Int32} {rc : Nat → Nat → Int32} (h : bg_LL n K HL LR L) {t : Nat} (ht : t < 12) (hr : rc t 0 = K t) : bg_lx HL LR rc t ↔ bg_ly HL L rc t := by
  constructor
  · rintro ⟨a, b⟩
    refine ⟨a, fun j hj => ?_⟩
    rw [← (h t ht a).2.2 j hj]
    exact b (j + 1) (by omega)
  · rintro ⟨a, b⟩
    refine ⟨a, fun j hj => ?_⟩
    cases j with
    | zero => exact (h t ht a).2.1.trans hr.symm
    | succ j => rw [(h t ht a).2.2 j (by omega)]; exact b j (by omega)
theorem bg_sxy {n b : Nat} {K SC SR S : Nat → Int32} {rc : Nat → Nat → Int32} (h : bg_SS n b K SC SR S) (hb : b ≤ 40) {t : Nat} (ht : t < 12) (hr : rc t 0 = K t) : bg_sx SC SR rc t ↔ bg_sy SC S rc t := by
  obtain ⟨s, h1, h2, _, h4⟩ := h t ht
  have hc : (SC t).toNatClampNeg = s := by rw [h2, nI_clamp (by omega)]
  constructor
  · rintro ⟨r, a, c⟩
    rw [hc] at a
    refine ⟨r, by rw [hc]; exact a, fun j hj => ?_⟩
    rw [← (h4 r a).2 j hj]
    exact c (j + 1) (by omega)
  · rintro ⟨r, a, c⟩
    rw [hc] at a
    refine ⟨r, by rw [hc]; exact a, fun j hj => ?_⟩
    cases j with
    | zero => exact (h4 r a).1.trans hr.symm
    | succ j => rw [(h4 r a).2 j (by omega)]; exact c j (by omega)
theorem bg_LL_b {n : Nat} {K HL LR L : Nat → Int32} {D : Nat → Bool} {rc : Nat → Nat → Int32} (hn : n ≤ 12) (hr : ∀ t, rc t 0 = K t) (h : bg_LL n K HL LR L) : bg_LL n K (bg_u1 D (fun _ => 1) HL n) (bg_ur D rc (fun t => t * 6) 6 LR n) (bg_ur D (fun t j => rc t (j + 1)) (fun t => t * 5) 5 L n) := by
  intro t ht hh
  by_cases hd : t < n ∧ D t = true
  · obtain ⟨h1, h2⟩ := hd
    have e : ∀ j, j < 6 → bg_ur D rc (fun t => t * 6) 6 LR n (t * 6 + j) = rc t j := fun j hj => bg_ur_in (d := fun t => t * 6) hj h2 n h1 (fun t' a b => by (try dsimp only); omega)
    refine ⟨h1, ?_, fun j hj => ?_⟩
    · exact (e 0 (by omega)).trans (hr t)
    · rw [e (j + 1) (by omega)]
      exact (bg_ur_in (d := fun t => t * 5) (f := fun t j => rc t (j + 1)) hj h2 n h1 (fun t' a b => by (try dsimp only); omega)).symm
  · have hu : bg_u1 D (fun _ => 1) HL n t = HL t := by
      by_cases h1 : t < n
      · rw [bg_u1_lo n h1, if_neg (fun z => hd ⟨h1, z⟩)]
      · exact bg_u1_hi n (by omega)
    rw [hu] at hh
    obtain ⟨a, b, c⟩ := h t ht hh
    have o6 : ∀ j, j < 6 → bg_ur D rc (fun t => t * 6) 6 LR n (t * 6 + j) = LR (t * 6 + j) := fun j hj => bg_ur_out n (fun t' h1 h2 => by
      have ne : t' ≠ t := fun z => hd (by rw [← z]; exact ⟨h1, h2⟩)
      try dsimp only
      omega)
    have o5 : ∀ j, j < 5 → bg_ur D (fun t j => rc t (j + 1)) (fun t => t * 5) 5 L n (t * 5 + j) = L (t * 5 + j) := fun j hj => bg_ur_out n (fun t' h1 h2 => by
      have ne : t' ≠ t := fun z => hd (by rw [← z]; exact ⟨h1, h2⟩)
      try dsimp only
      omega)
    refine ⟨a, (o6 0 (by omega)).trans b, fun j hj => ?_⟩
    rw [o6 (j + 1) (by omega), o5 j hj]
    exact c j hj
theorem bg_SS_b {n b : Nat} {K SC SR S : Nat → Int32} {D : Nat → Bool} {rc : Nat → Nat → Int32} (hn : n ≤ 12) (hb : b < 40) (hr : ∀ t, rc t 0 = K t) (h : bg_SS n b K SC SR S) : bg_SS n (b + 1) K (bg_u1 D (fun t => SC t + 1) SC n) (bg_ur D rc (fun t => t * 240 + (SC t).toNatClampNeg * 6) 6 SR n) (bg_ur D (fun t j => rc t (j + 1)) (fun t => (t * 40 + (SC t).toNatClampNeg) * 5) 5 S n) := by
  intro t ht
  have hs : ∀ t', t' < 12 → (SC t').toNatClampNeg ≤ b := fun t' h' => by
    obtain ⟨s, h1, h2, _⟩ := h t' h'
    rw [h2, nI_clamp (by omega)]; exact h1
  obtain ⟨s, hs1, hs2, hs3, hs4⟩ := h t ht
  have hc : (SC t).toNatClampNeg = s := by rw [hs2, nI_clamp (by omega)]
  have ox : ∀ r j, r < 40 → j < 6 → ¬ (t < n ∧ D t = true ∧ r = s) → bg_ur D rc (fun t => t * 240 + (SC t).toNatClampNeg * 6) 6 SR n (t * 240 + r * 6 + j) = SR (t * 240 + r * 6 + j) := fun r j hr' hj hx => bg_ur_out n (fun t' h1 h2 => by
    have a := hs t' (by omega)
    try dsimp only
    by_cases e : t' = t
    · rw [e, hc]
      have ne : r ≠ s := fun z => hx (by rw [e] at h1 h2; exact ⟨h1, h2, z⟩)
      omega
    · generalize (SC t').toNatClampNeg = s' at a ⊢
      omega)
  have oy : ∀ r j, r < 40 → j < 5 → ¬ (t < n ∧ D t = true ∧ r = s) → bg_ur D (fun t j => rc t (j + 1)) (fun t => (t * 40 + (SC t).toNatClampNeg) * 5) 5 S n ((t * 40 + r) * 5 + j) = S ((t * 40 + r) * 5 + j) := fun r j hr' hj hx => bg_ur_out n (fun t' h1 h2 => by
    have a := hs t' (by omega)
    try dsimp only
    by_cases e : t' = t
    · rw [e, hc]
      have ne : r ≠ s := fun z => hx (by rw [e] at h1 h2; exact ⟨h1, h2, z⟩)
      omega
    · generalize (SC t').toNatClampNeg = s' at a ⊢
      omega)
  have old : ∀ r, r < s → ¬ (t < n ∧ D t = true ∧ r = s) → bg_ur D rc (fun t => t * 240 + (SC t).toNatClampNeg * 6) 6 SR n (t * 240 + r * 6) = K t ∧ ∀ j, j < 5 → bg_ur D rc (fun t => t * 240 + (SC t).toNatClampNeg * 6) 6 SR n (t * 240 + r * 6 + (j + 1)) = bg_ur D (fun t j => rc t (j + 1)) (fun t => (t * 40 + (SC t).toNatClampNeg) * 5) 5 S n ((t * 40 + r) * 5 + j) := by
    intro r hr' hx
    refine ⟨(ox r 0 (by omega) (by omega) hx).trans (hs4 r hr').1, fun j hj => ?_⟩
    rw [ox r (j + 1) (by omega) (by omega) hx, oy r j (by omega) hj hx]
    exact (hs4 r hr').2 j hj
  by_cases hd : t < n ∧ D t = true
  · refine ⟨s + 1, by omega, ?_, fun z => by omega, fun r hr' => ?_⟩
    · rw [bg_u1_lo n hd.1, if_pos hd.2]
      show SC t + 1 = _
      rw [hs2]; exact nI_1 s
    · by_cases e : r = s
      · have nx : ∀ j, j < 6 → bg_ur D rc (fun t => t * 240 + (SC t).toNatClampNeg * 6) 6 SR n (t * 240 + r * 6 + j) = rc t j := by
          intro j hj
          have q := bg_ur_in (D := D) (f := rc) (d := fun t => t * 240 + (SC t).toNatClampNeg * 6) (A := SR) hj hd.2 n hd.1 (fun t' h1 h2 => by
            have a := hs t' (by omega)
            have a2 := hs t ht
            try dsimp only
            generalize (SC t').toNatClampNeg = s' at a ⊢
            generalize (SC t).toNatClampNeg = s2 at a2 ⊢
            omega)
          try dsimp only at q
          rw [hc] at q
          rw [e]; exact q
        have ny : ∀ j, j < 5 → bg_ur D (fun t j => rc t (j + 1)) (fun t => (t * 40 + (SC t).toNatClampNeg) * 5) 5 S n ((t * 40 + r) * 5 + j) = rc t (j + 1) := by
          intro j hj
          have q := bg_ur_in (D := D) (f := fun t j => rc t (j + 1)) (d := fun t => (t * 40 + (SC t).toNatClampNeg) * 5) (A := S) hj hd.2 n hd.1 (fun t' h1 h2 => by
            have a := hs t' (by omega)
            have a2 := hs t ht
            try dsimp only
            generalize (SC t').toNatClampNeg = s' at a ⊢
            generalize (SC t).toNatClampNeg = s2 at a2 ⊢
            omega)
          try dsimp only at q
          rw [hc] at q
          rw [e]; exact q
        refine ⟨(nx 0 (by omega)).trans (hr t), fun j hj => ?_⟩
        rw [nx (j + 1) (by omega), ny j hj]
      · exact old r (by omega) (fun z => e z.2.2)
  · refine ⟨s, by omega, ?_, hs3, fun r hr' => old r hr' (fun z => hd ⟨z.1, z.2.1⟩)⟩
    by_cases h1 : t < n
    · rw [bg_u1_lo n h1, if_neg (fun z => hd ⟨h1, z⟩)]; exact hs2
    · rw [bg_u1_hi n (by omega)]; exact hs2
/-! the small calls -/
theorem bg_K3 (x : Int32) : x &&& 3 = 0 ∨ x &&& 3 = 1 ∨ x &&& 3 = 2 ∨ x &&& 3 = 3 := by
  obtain ⟨j, hj, e⟩ := pk_andE x (m := 3) 2 (by decide)
  rw [e]
  have h : j = 0 ∨ j = 1 ∨ j = 2 ∨ j = 3 := by omega
  rcases h with h | h | h | h <;> subst h <;> decide
theorem bg_R_task {n b : Nat} {K N P HL LR SC SR L S : Nat → Int32} (h : bg_R n b K N P HL LR SC SR L S) (hn : n < 12) (x : Int32) : bg_R (n + 1) b (upd K n (x &&& 3)) N P HL LR SC SR L S := by
  obtain ⟨_, h2, h3, h4, h5, h6, h7⟩ := h
  refine ⟨hn, h2, fun t => ?_, h4, h5, fun t ht hh => ?_, fun t ht => ?_⟩
  · by_cases e : t = n
    · rw [e, pk_us]; exact bg_K3 x
    · rw [pk_un e]; exact h3 t
  · obtain ⟨a, b, c⟩ := h6 t ht hh
    exact ⟨by omega, by rw [pk_un (by omega)]; exact b, c⟩
  · obtain ⟨s, a, c, d, e⟩ := h7 t ht
    refine ⟨s, a, c, fun z => d (by omega), fun r hr => ?_⟩
    have ht' : t < n := Nat.lt_of_not_le (fun z => by have := d z; omega)
    rw [pk_un (by omega)]; exact e r hr
theorem bg_R_input {n b : Nat} {K N P HL LR SC SR L S : Nat → Int32} (h : bg_R n b K N P HL LR SC SR L S) {t c j : Nat} (ht : t < 12) (hc : c < 3) (hj : j < 8 + t) : bg_R n b K (upd N t (nI (c + 1))) (upd P (t * 3 + c) (nI j)) HL LR SC SR L S := by
  obtain ⟨h1, h2, h3, h4, h5, h6, h7⟩ := h
  refine ⟨h1, h2, h3, fun t' => ?_, fun t' i ht' hi => ?_, h6, h7⟩
  · by_cases e : t' = t
    · rw [e, pk_us]; exact ⟨c + 1, by omega, rfl⟩
    · rw [pk_un e]; exact h4 t'
  · by_cases e : t' * 3 + i = t * 3 + c
    · rw [e, pk_us]; exact ⟨j, by omega, rfl⟩
    · rw [pk_un e]; exact h5 t' i ht' hi
theorem bg_R_clean {n b : Nat} {K N P HL LR SC SR L S : Nat → Int32} (h : bg_R n b K N P HL LR SC SR L S) (t : Nat) : bg_R n b K N P (upd HL t 0) LR SC SR L S := by
  obtain ⟨h1, h2, h3, h4, h5, h6, h7⟩ := h
  refine ⟨h1, h2, h3, h4, h5, fun t' ht' hh => ?_, h7⟩
  by_cases e : t' = t
  · rw [e, pk_us] at hh; exact absurd rfl hh
  · rw [pk_un e] at hh; exact h6 t' ht' hh
def bg_z (A : Nat → Int32) : Nat → (Nat → Int32)
  | 0 => A
  | t + 1 => upd (bg_z A t) t 0
theorem bg_z_lo {A : Nat → Int32} {j : Nat} : ∀ t, j < t → bg_z A t j = 0 := by
  intro t
  induction t with
  | zero => intro h; omega
  | succ t ih =>
    intro h
    show upd (bg_z A t) t 0 j = 0
    by_cases e : j = t
    · rw [e]; exact pk_us
    · rw [pk_un e]; exact ih (by omega)
theorem bg_R_empty {n b : Nat} {K N P HL LR SC SR L S : Nat → Int32} (h : bg_R n b K N P HL LR SC SR L S) : bg_R n 0 K N P HL LR (bg_z SC 12) SR L S := by
  obtain ⟨h1, h2, h3, h4, h5, h6, h7⟩ := h
  exact ⟨h1, by omega, h3, h4, h5, h6, fun t ht => ⟨0, by omega, bg_z_lo 12 ht, fun _ => rfl, fun r hr => by omega⟩⟩
theorem bg_R_0 : bg_R 0 0 (fun _ => 0) (fun _ => 0) (fun _ => 0) (fun _ => 0) (fun _ => 0) (fun _ => 0) (fun _ => 0) (fun _ => 0) (fun _ => 0) :=
  ⟨by omega, by omega, fun _ => Or.inl rfl, fun _ => ⟨0, by omega, rfl⟩, fun t i _ _ => ⟨0, by omega, rfl⟩, fun t _ h => (h rfl).elim, fun t _ => ⟨0, by omega, rfl, fun _ => rfl, fun r hr => by omega⟩⟩
theorem bg_R_build {n b : Nat} {K N P HL LR SC SR L S : Nat → Int32} {D E : Nat → Bool} {rc : Nat → Nat → Int32} (h : bg_R n b K N P HL LR SC SR L S) (hb : b < 40) (hr : ∀ t, rc t 0 = K t) : bg_R n (b + 1) K N P (bg_u1 D (fun _ => 1) HL n) (bg_ur D rc (fun t => t * 6) 6 LR n) (bg_u1 E (fun t => SC t + 1) SC n) (bg_ur E rc (fun t => t * 240 + (SC t).toNatClampNeg * 6) 6 SR n) (bg_ur D (fun t j => rc t (j + 1)) (fun t => t * 5) 5 L n) (bg_ur E (fun t j => rc t (j + 1)) (fun t => (t * 40 + (SC t).toNatClampNeg) * 5) 5 S n) := by
  obtain ⟨h1, h2, h3, h4, h5, h6, h7⟩ := h
  exact ⟨h1, hb, h3, h4, h5, bg_LL_b h1 hr h6, bg_SS_b h1 hb hr h7⟩
/-! inside a build: what lies at t is still as it was before the tasks below it were handled -/
theorem bg_lx_t {HL LR f : Nat → Int32} {D : Nat → Bool} {rc : Nat → Nat → Int32} {t : Nat} : bg_lx (bg_u1 D f HL t) (bg_ur D rc (fun t => t * 6) 6 LR t) rc t ↔ bg_lx HL LR rc t := by
  have o : ∀ j, j < 6 → bg_ur D rc (fun t => t * 6) 6 LR t (t * 6 + j) = LR (t * 6 + j) := fun j hj => bg_ur_out t (fun t' h1 h2 => by (try dsimp only); omega)
  unfold bg_lx
  rw [bg_u1_hi t (Nat.le_refl t)]
  exact ⟨fun h => ⟨h.1, fun j hj => (o j hj).symm.trans (h.2 j hj)⟩, fun h => ⟨h.1, fun j hj => (o j hj).trans (h.2 j hj)⟩⟩
theorem bg_ly_t {HL L f : Nat → Int32} {D : Nat → Bool} {rc : Nat → Nat → Int32} {t : Nat} : bg_ly (bg_u1 D f HL t) (bg_ur D (fun t j => rc t (j + 1)) (fun t => t * 5) 5 L t) rc t ↔ bg_ly HL L rc t := by
  have o : ∀ j, j < 5 → bg_ur D (fun t j => rc t (j + 1)) (fun t => t * 5) 5 L t (t * 5 + j) = L (t * 5 + j) := fun j hj => bg_ur_out t (fun t' h1 h2 => by (try dsimp only); omega)
  unfold bg_ly
  rw [bg_u1_hi t (Nat.le_refl t)]
  exact ⟨fun h => ⟨h.1, fun j hj => (o j hj).symm.trans (h.2 j hj)⟩, fun h => ⟨h.1, fun j hj => (o j hj).trans (h.2 j hj)⟩⟩
theorem bg_sx_t {SC SR f : Nat → Int32} {D : Nat → Bool} {rc : Nat → Nat → Int32} {t : Nat} (ht : t < 12) (hs : ∀ t', t' < 12 → (SC t').toNatClampNeg < 40) : bg_sx (bg_u1 D f SC t) (bg_ur D rc (fun t => t * 240 + (SC t).toNatClampNeg * 6) 6 SR t) rc t ↔ bg_sx SC SR rc t := by
  have o : ∀ r j, r < (SC t).toNatClampNeg → j < 6 → bg_ur D rc (fun t => t * 240 + (SC t).toNatClampNeg * 6) 6 SR t (t * 240 + r * 6 + j) = SR (t * 240 + r * 6 + j) := fun r j hr hj => bg_ur_out t (fun t' h1 h2 => by
    have a := hs t' (by omega)
    try dsimp only
    generalize (SC t').toNatClampNeg = s' at a ⊢
    omega)
  unfold bg_sx
  rw [bg_u1_hi t (Nat.le_refl t)]
  constructor
  · rintro ⟨r, hr, h⟩
    exact ⟨r, hr, fun j hj => (o r j hr hj).symm.trans (h j hj)⟩
  · rintro ⟨r, hr, h⟩
    exact ⟨r, hr, fun j hj => (o r j hr hj).trans (h j hj)⟩
theorem bg_sy_t {SC S f : Nat → Int32} {D : Nat → Bool} {rc : Nat → Nat → Int32} {t : Nat} (ht : t < 12) (hs : ∀ t', t' < 12 → (SC t').toNatClampNeg < 40) : bg_sy (bg_u1 D f SC t) (bg_ur D (fun t j => rc t (j + 1)) (fun t => (t * 40 + (SC t).toNatClampNeg) * 5) 5 S t) rc t ↔ bg_sy SC S rc t := by
  have o : ∀ r j, r < (SC t).toNatClampNeg → j < 5 → bg_ur D (fun t j => rc t (j + 1)) (fun t => (t * 40 + (SC t).toNatClampNeg) * 5) 5 S t ((t * 40 + r) * 5 + j) = S ((t * 40 + r) * 5 + j) := fun r j hr hj => bg_ur_out t (fun t' h1 h2 => by
    have a := hs t' (by omega)
    try dsimp only
    generalize (SC t').toNatClampNeg = s' at a ⊢
    omega)
  unfold bg_sy
  rw [bg_u1_hi t (Nat.le_refl t)]
  constructor
  · rintro ⟨r, hr, h⟩
    exact ⟨r, hr, fun j hj => (o r j hr hj).symm.trans (h j hj)⟩
  · rintro ⟨r, hr, h⟩
    exact ⟨r, hr, fun j hj => (o r j hr hj).trans (h j hj)⟩
theorem bg_SS_s {n b : Nat} {K SC SR S : Nat → Int32} (h : bg_SS n b K SC SR S) (hb : b ≤ 40) : ∀ t, t < 12 → ∃ s, s ≤ b ∧ SC t = nI s ∧ (SC t).toNatClampNeg = s := by
  intro t ht
  obtain ⟨s, h1, h2, _⟩ := h t ht
  exact ⟨s, h1, h2, by rw [h2, nI_clamp (by omega)]⟩
