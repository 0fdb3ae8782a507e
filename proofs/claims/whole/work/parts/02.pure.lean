/-! the pure picture: the values, a record, an output, what is worked out -/
def bg_iv (C P W : Nat → Int32) (t i : Nat) : Int32 :=
  if P (t * 3 + i) < 8 then C (P (t * 3 + i)).toNatClampNeg else W (P (t * 3 + i) - 8).toNatClampNeg
def bg_vl (C N P W : Nat → Int32) (t i : Nat) : Int32 := if nI i < N t then bg_iv C P W t i else 0
def bg_fs (k q : Int32) (v : Nat → Int32) : Nat → Int32
  | 0 => if k = 3 then 0 else q
  | i + 1 => if k = 1 then bg_fs k q v i * 31 + v i else if k = 2 then (if bg_fs k q v i < v i then v i else bg_fs k q v i) else bg_fs k q v i + v i
def bg_fo (k q : Int32) (v : Nat → Int32) (c : Nat) : Int32 := if k = 3 then bg_fs k q v c &&& 15 else bg_fs k q v c
def bg_rc (C K Q N P W : Nat → Int32) (t : Nat) : Nat → Int32
  | 0 => K t
  | 1 => Q t
  | 2 => N t
  | j + 3 => bg_vl C N P W t j
def bg_ou (C K Q N P W : Nat → Int32) (t : Nat) : Int32 := bg_fo (K t) (Q t) (bg_vl C N P W t) (N t).toNatClampNeg
def bg_wo (C K Q N P W : Nat → Int32) : Nat → (Nat → Int32)
  | 0 => W
  | t + 1 => upd (bg_wo C K Q N P W t) t (bg_ou C K Q N P (bg_wo C K Q N P W t) t)
/-- m cells from d on, written one by one -/
def bg_cp (f : Nat → Int32) (d : Nat) (A : Nat → Int32) : Nat → (Nat → Int32)
  | 0 => A
  | i + 1 => upd (bg_cp f d A i) (d + i) (f i)
def bg_nr (C K Q N P W R : Nat → Int32) : Nat → (Nat → Int32)
  | 0 => R
  | t + 1 => bg_cp (bg_rc C K Q N P (bg_wo C K Q N P W t) t) (t * 6) (bg_nr C K Q N P W R t) 6
def bg_PP (P : Nat → Int32) : Prop := ∀ t i, t < 12 → i < 3 → ∃ j, j < 8 + t ∧ P (t * 3 + i) = nI j
def bg_NN (N : Nat → Int32) : Prop := ∀ t, ∃ c, c ≤ 3 ∧ N t = nI c
def bg_KK (K : Nat → Int32) : Prop := ∀ t, K t = 0 ∨ K t = 1 ∨ K t = 2 ∨ K t = 3
theorem bg_cp_in (f : Nat → Int32) (d : Nat) (A : Nat → Int32) : ∀ i j, j < i → bg_cp f d A i (d + j) = f j := by
  intro i
  induction i with
  | zero => intro j h; omega
  | succ i ih =>
    intro j h
    show upd (bg_cp f d A i) (d + i) (f i) (d + j) = f j
    by_cases e : j = i
    · rw [e]; exact pk_us
    · rw [pk_un (by omega)]; exact ih j (by omega)
theorem bg_cp_out (f : Nat → Int32) (d : Nat) (A : Nat → Int32) : ∀ i x, (x < d ∨ d + i ≤ x) → bg_cp f d A i x = A x := by
  intro i
  induction i with
  | zero => intro x h; rfl
  | succ i ih =>
    intro x h
    show upd (bg_cp f d A i) (d + i) (f i) x = A x
    rw [pk_un (by omega)]; exact ih x (by omega)
theorem bg_cp_x {f g : Nat → Int32} {d : Nat} {A : Nat → Int32} : ∀ i, (∀ j, j < i → f j = g j) → bg_cp f d A i = bg_cp g d A i := by
  intro i
  induction i with
  | zero => intro h; rfl
  | succ i ih =>
    intro h
    show upd (bg_cp f d A i) (d + i) (f i) = upd (bg_cp g d A i) (d + i) (g i)
    rw [ih (fun j hj => h j (by omega)), h i (by omega)]
theorem bg_wo_s {C K Q N P W : Nat → Int32} {j t : Nat} (h : j < t) : ∀ n, t ≤ n → bg_wo C K Q N P W n j = bg_wo C K Q N P W t j := by
  intro n
  induction n with
  | zero => intro hn; omega
  | succ n ih =>
    intro hn
    by_cases e : t = n + 1
    · rw [e]
    · show upd (bg_wo C K Q N P W n) n _ j = _
      rw [pk_un (by omega)]; exact ih (by omega)
theorem bg_vl_x {C N P W W' : Nat → Int32} (hP : bg_PP P) {t i : Nat} (ht : t < 12) (hi : i < 3) (h : ∀ j, j < t → W j = W' j) : bg_vl C N P W t i = bg_vl C N P W' t i := by
  obtain ⟨j, hj, e⟩ := hP t i ht hi
  unfold bg_vl bg_iv
  rw [e]
  by_cases h1 : nI i < N t
  · rw [if_pos h1, if_pos h1]
    by_cases h2 : nI j < 8
    · rw [if_pos h2, if_pos h2]
    · rw [if_neg h2, if_neg h2]
      have h8 : 8 ≤ j := Nat.le_of_not_lt (fun z => h2 (nI_lt (b := 8) z (by decide)))
      rw [bg_s8 h8, nI_clamp (by omega)]
      exact h _ (by omega)
  · rw [if_neg h1, if_neg h1]
theorem bg_rc_x {C K Q N P W W' : Nat → Int32} (hP : bg_PP P) {t : Nat} (ht : t < 12) (h : ∀ j, j < t → W j = W' j) : ∀ j, j < 6 → bg_rc C K Q N P W t j = bg_rc C K Q N P W' t j
  | 0, _ => rfl
  | 1, _ => rfl
  | 2, _ => rfl
  | j + 3, hj => bg_vl_x hP ht (by omega) h
theorem bg_nr_s {C K Q N P W R : Nat → Int32} (hP : bg_PP P) {t j : Nat} (hj : j < 6) : ∀ n, t < n → n ≤ 12 → bg_nr C K Q N P W R n (t * 6 + j) = bg_rc C K Q N P (bg_wo C K Q N P W n) t j := by
  intro n
  induction n with
  | zero => intro h; omega
  | succ n ih =>
    intro h hn
    show bg_cp (bg_rc C K Q N P (bg_wo C K Q N P W n) n) (n * 6) (bg_nr C K Q N P W R n) 6 (t * 6 + j) = _
    by_cases e : t = n
    · subst e
      rw [bg_cp_in _ _ _ 6 j hj]
      exact bg_rc_x hP (by omega) (fun i hi => (bg_wo_s hi (t + 1) (by omega)).symm) j hj
    · rw [bg_cp_out _ _ _ 6 _ (by omega), ih (by omega) (by omega)]
      exact bg_rc_x hP (by omega) (fun i hi => by rw [bg_wo_s (t := n) (by omega) (n + 1) (by omega)]) j hj
/-- the values that the fold sees -/
theorem bg_fs_x {k q : Int32} {v w : Nat → Int32} : ∀ c, (∀ i, i < c → v i = w i) → bg_fs k q v c = bg_fs k q w c := by
  intro c
  induction c with
  | zero => intro h; rfl
  | succ c ih =>
    intro h
    have e1 := ih (fun i hi => h i (by omega))
    have e2 := h c (by omega)
    show (if k = 1 then bg_fs k q v c * 31 + v c else if k = 2 then (if bg_fs k q v c < v c then v c else bg_fs k q v c) else bg_fs k q v c + v c) = (if k = 1 then bg_fs k q w c * 31 + w c else if k = 2 then (if bg_fs k q w c < w c then w c else bg_fs k q w c) else bg_fs k q w c + w c)
    rw [e1, e2]
theorem bg_fs_1 {k q : Int32} {v : Nat → Int32} {i : Nat} (h : k = 1) : bg_fs k q v (i + 1) = bg_fs k q v i * 31 + v i := if_pos h
theorem bg_fs_2 {k q : Int32} {v : Nat → Int32} {i : Nat} (h : k = 2) : bg_fs k q v (i + 1) = if bg_fs k q v i < v i then v i else bg_fs k q v i :=
  (if_neg (fun z => absurd (h.symm.trans z) (by decide))).trans (if_pos h)
theorem bg_fs_p {k q : Int32} {v : Nat → Int32} {i : Nat} (h1 : ¬ k = 1) (h2 : ¬ k = 2) : bg_fs k q v (i + 1) = bg_fs k q v i + v i :=
  (if_neg h1).trans (if_neg h2)
/-! what a build needs -/
def bg_pi (P : Nat → Int32) (t : Nat) (B : Nat → Bool) : Nat → (Nat → Bool)
  | 0 => B
  | i + 1 => fun j => bg_pi P t B i j || decide ((P (t * 3 + i)).toNatClampNeg = j + 8)
def bg_pb (P N : Nat → Int32) (t : Nat) (B : Nat → Bool) : Nat → Bool := if B t = true then bg_pi P t B (N t).toNatClampNeg else B
def bg_pd (P N : Nat → Int32) : Nat → (Nat → Bool) → (Nat → Bool)
  | 0, B => B
  | t + 1, B => bg_pd P N t (bg_pb P N t B)
def bg_nd (P N : Nat → Int32) (t : Nat) : Nat → Bool := bg_pd P N (t + 1) (fun j => decide (j = t))
theorem bg_pi_t {P : Nat → Int32} (hP : bg_PP P) {t : Nat} (ht : t < 12) (B : Nat → Bool) : ∀ i, i ≤ 3 → ∀ j, t ≤ j → bg_pi P t B i j = B j := by
  intro i
  induction i with
  | zero => intro _ j _; rfl
  | succ i ih =>
    intro hi j hj
    obtain ⟨x, hx, e⟩ := hP t i ht (by omega)
    show (bg_pi P t B i j || decide ((P (t * 3 + i)).toNatClampNeg = j + 8)) = B j
    rw [ih (by omega) j hj, e, nI_clamp (by omega), decide_eq_false (by omega), Bool.or_false]
theorem bg_pb_t {P N : Nat → Int32} (hP : bg_PP P) (hN : bg_NN N) {t : Nat} (ht : t < 12) (B : Nat → Bool) {j : Nat} (hj : t ≤ j) : bg_pb P N t B j = B j := by
  unfold bg_pb
  by_cases h : B t = true
  · rw [if_pos h]
    obtain ⟨c, hc, e⟩ := hN t
    rw [e, nI_clamp (by omega)]
    exact bg_pi_t hP ht B c hc j hj
  · rw [if_neg h]
theorem bg_pd_t {P N : Nat → Int32} (hP : bg_PP P) (hN : bg_NN N) : ∀ t, t ≤ 12 → ∀ (B : Nat → Bool) (j : Nat), t ≤ j + 1 → bg_pd P N t B j = B j := by
  intro t
  induction t with
  | zero => intro _ B j _; rfl
  | succ t ih =>
    intro ht B j hj
    show bg_pd P N t (bg_pb P N t B) j = B j
    rw [ih (by omega) _ j (by omega)]
    exact bg_pb_t hP hN (by omega) B (by omega)
theorem bg_nd_lt {P N : Nat → Int32} (hP : bg_PP P) (hN : bg_NN N) {t j : Nat} (ht : t < 12) (hj : t < j) : bg_nd P N t j = false := by
  unfold bg_nd
  rw [bg_pd_t hP hN (t + 1) (by omega) _ j (by omega)]
  exact decide_eq_false (by omega)
/-! counting -/
def bg_ct (B : Nat → Bool) : Nat → Nat
  | 0 => 0
  | n + 1 => if B n = true then bg_ct B n + 1 else bg_ct B n
theorem bg_ct_le (B : Nat → Bool) : ∀ n, bg_ct B n ≤ n := by
  intro n
  induction n with
  | zero => exact Nat.le_refl 0
  | succ n ih =>
    show (if B n = true then bg_ct B n + 1 else bg_ct B n) ≤ n + 1
    by_cases h : B n = true
    · rw [if_pos h]; omega
    · rw [if_neg h]; omega
theorem bg_ct_t {B : Nat → Bool} {n : Nat} (h : B n = true) : bg_ct B (n + 1) = bg_ct B n + 1 := if_pos h
theorem bg_ct_f {B : Nat → Bool} {n : Nat} (h : ¬ B n = true) : bg_ct B (n + 1) = bg_ct B n := if_neg h
theorem bg_ct_m {B : Nat → Bool} {m : Nat} : ∀ n, m ≤ n → (∀ j, m ≤ j → j < n → B j = false) → bg_ct B n = bg_ct B m := by
  intro n
  induction n with
  | zero =>
    intro h _
    have e : m = 0 := by omega
    rw [e]
  | succ n ih =>
    intro h hB
    by_cases e : m = n + 1
    · rw [e]
    · rw [bg_ct_f (by rw [hB n (by omega) (by omega)]; decide)]
      exact ih (by omega) (fun j h1 h2 => hB j h1 (by omega))
theorem bg_ct_x {A B : Nat → Bool} : ∀ n, (∀ j, j < n → A j = B j) → bg_ct A n = bg_ct B n := by
  intro n
  induction n with
  | zero => intro _; rfl
  | succ n ih =>
    intro h
    show (if A n = true then bg_ct A n + 1 else bg_ct A n) = (if B n = true then bg_ct B n + 1 else bg_ct B n)
    rw [ih (fun j hj => h j (by omega)), h n (by omega)]
noncomputable def bg_dc (p : Prop) : Bool := @decide p (Classical.propDecidable p)
theorem bg_dc_i {p : Prop} : bg_dc p = true ↔ p := @decide_eq_true_iff p (Classical.propDecidable p)
def bg_bi (b : Bool) : Int32 := if b = true then 1 else 0
theorem bg_bi_t {b : Bool} (h : b = true) : bg_bi b = 1 := if_pos h
theorem bg_bi_f {b : Bool} (h : ¬ b = true) : bg_bi b = 0 := if_neg h
theorem bg_10 : ¬ (1 : Int32) = 0 := by decide
theorem bg_bi_0 {b : Bool} : bg_bi b = 0 ↔ ¬ b = true := by cases b <;> decide
/-! a build's writes -/
def bg_st (D : Nat → Bool) (s : Nat → Int32) (A : Nat → Int32) : Nat → (Nat → Int32)
  | 0 => A
  | t + 1 => if D t = true then upd (upd (bg_st D s A t) t 0) t (s t) else upd (bg_st D s A t) t 0
def bg_u1 (D : Nat → Bool) (f : Nat → Int32) (A : Nat → Int32) : Nat → (Nat → Int32)
  | 0 => A
  | t + 1 => if D t = true then upd (bg_u1 D f A t) t (f t) else bg_u1 D f A t
def bg_ur (D : Nat → Bool) (f : Nat → Nat → Int32) (d : Nat → Nat) (m : Nat) (A : Nat → Int32) : Nat → (Nat → Int32)
  | 0 => A
  | t + 1 => if D t = true then bg_cp (f t) (d t) (bg_ur D f d m A t) m else bg_ur D f d m A t
theorem bg_u1_hi {D : Nat → Bool} {f A : Nat → Int32} {j : Nat} : ∀ t, t ≤ j → bg_u1 D f A t j = A j := by
  intro t
  induction t with
  | zero => intro _; rfl
  | succ t ih =>
    intro h
    show (if D t = true then upd (bg_u1 D f A t) t (f t) else bg_u1 D f A t) j = A j
    by_cases e : D t = true
    · rw [if_pos e, pk_un (by omega)]; exact ih (by omega)
    · rw [if_neg e]; exact ih (by omega)
theorem bg_u1_lo {D : Nat → Bool} {f A : Nat → Int32} {j : Nat} : ∀ t, j < t → bg_u1 D f A t j = if D j = true then f j else A j := by
  intro t
  induction t with
  | zero => intro h; omega
  | succ t ih =>
    intro h
    show (if D t = true then upd (bg_u1 D f A t) t (f t) else bg_u1 D f A t) j = _
    by_cases e : j = t
    · subst e
      by_cases e2 : D j = true
      · rw [if_pos e2, if_pos e2]; exact pk_us
      · rw [if_neg e2, if_neg e2]; exact bg_u1_hi j (Nat.le_refl j)
    · by_cases e2 : D t = true
      · rw [if_pos e2, pk_un e]; exact ih (by omega)
      · rw [if_neg e2]; exact ih (by omega)
theorem bg_ur_out {D : Nat → Bool} {f : Nat → Nat → Int32} {d : Nat → Nat} {m : Nat} {A : Nat → Int32} {x : Nat} : ∀ n, (∀ t, t < n → D t = true → x < d t ∨ d t + m ≤ x) → bg_ur D f d m A n x = A x := by
  intro n
  induction n with
  | zero => intro _; rfl
  | succ n ih =>
    intro h
    show (if D n = true then bg_cp (f n) (d n) (bg_ur D f d m A n) m else bg_ur D f d m A n) x = A x
    by_cases e : D n = true
    · rw [if_pos e, bg_cp_out _ _ _ m x (h n (by omega) e)]; exact ih (fun t ht => h t (by omega))
    · rw [if_neg e]; exact ih (fun t ht => h t (by omega))
theorem bg_ur_in {D : Nat → Bool} {f : Nat → Nat → Int32} {d : Nat → Nat} {m : Nat} {A : Nat → Int32} {t j : Nat} (hj : j < m) (hD : D t = true) : ∀ n, t < n → (∀ t', t < t' → t' < n → d t + j < d t' ∨ d t' + m ≤ d t + j) → bg_ur D f d m A n (d t + j) = f t j := by
  intro n
  induction n with
  | zero => intro h; omega
  | succ n ih =>
    intro h hd
    show (if D n = true then bg_cp (f n) (d n) (bg_ur D f d m A n) m else bg_ur D f d m A n) (d t + j) = f t j
    by_cases e : t = n
    · subst e
      rw [if_pos hD]; exact bg_cp_in _ _ _ m j hj
    · by_cases e2 : D n = true
      · rw [if_pos e2, bg_cp_out _ _ _ m _ (hd n (by omega) (by omega))]; exact ih (by omega) (fun t' h1 h2 => hd t' h1 (by omega))
      · rw [if_neg e2]; exact ih (by omega) (fun t' h1 h2 => hd t' h1 (by omega))
/-! a build's answer for one task -/
def bg_sv (l o : Bool) : Int32 := if l = true then 1 else if o = true then 2 else 3
def bg_ex (l o : Bool) : Bool := !l && !o
theorem bg_sv_3 {l o : Bool} : bg_sv l o = 3 ↔ bg_ex l o = true := by cases l <;> cases o <;> decide
theorem bg_cp_s (f : Nat → Int32) (d : Nat) (A : Nat → Int32) (i : Nat) : upd (bg_cp f d A i) (d + i) (f i) = bg_cp f d A (i + 1) := rfl
theorem bg_cp_3 (f : Nat → Int32) (d : Nat) (A : Nat → Int32) : upd (upd (upd A (d + 0) (f 0)) (d + 1) (f 1)) (d + 2) (f 2) = bg_cp f d A 3 := rfl
theorem bg_st_t {D : Nat → Bool} {s A : Nat → Int32} {t : Nat} (h : D t = true) : bg_st D s A (t + 1) = upd (upd (bg_st D s A t) t 0) t (s t) := if_pos h
theorem bg_st_f {D : Nat → Bool} {s A : Nat → Int32} {t : Nat} (h : ¬ D t = true) : bg_st D s A (t + 1) = upd (bg_st D s A t) t 0 := if_neg h
theorem bg_u1_t {D : Nat → Bool} {f A : Nat → Int32} {t : Nat} (h : D t = true) : bg_u1 D f A (t + 1) = upd (bg_u1 D f A t) t (f t) := if_pos h
theorem bg_u1_f {D : Nat → Bool} {f A : Nat → Int32} {t : Nat} (h : ¬ D t = true) : bg_u1 D f A (t + 1) = bg_u1 D f A t := if_neg h
theorem bg_ur_t {D : Nat → Bool} {f : Nat → Nat → Int32} {d : Nat → Nat} {m : Nat} {A : Nat → Int32} {t : Nat} (h : D t = true) : bg_ur D f d m A (t + 1) = bg_cp (f t) (d t) (bg_ur D f d m A t) m := if_pos h
theorem bg_ur_f {D : Nat → Bool} {f : Nat → Nat → Int32} {d : Nat → Nat} {m : Nat} {A : Nat → Int32} {t : Nat} (h : ¬ D t = true) : bg_ur D f d m A (t + 1) = bg_ur D f d m A t := if_neg h
/-- what is executed: needed, not up to date, not in the store -/
def bg_Ev (D l o : Nat → Bool) : Nat → Bool := fun j => D j && bg_ex (l j) (o j)
theorem bg_Ev_t {D l o : Nat → Bool} {j : Nat} (h : D j = true) : bg_Ev D l o j = bg_ex (l j) (o j) := by
  show (D j && bg_ex (l j) (o j)) = _
  rw [h, Bool.true_and]
theorem bg_Ev_f {D l o : Nat → Bool} {j : Nat} (h : ¬ D j = true) : ¬ bg_Ev D l o j = true := by
  show ¬ (D j && bg_ex (l j) (o j)) = true
  rw [Bool.eq_false_iff.mpr h, Bool.false_and]
  decide
/-- the reference's running count, from e on -/
def bg_en (e : Int32) (A : Nat → Bool) : Nat → Int32
  | 0 => e
  | j + 1 => if A j = true then bg_en e A j + 1 else bg_en e A j
theorem bg_en_t {e : Int32} {A : Nat → Bool} {j : Nat} (h : A j = true) : bg_en e A (j + 1) = bg_en e A j + 1 := if_pos h
theorem bg_en_f {e : Int32} {A : Nat → Bool} {j : Nat} (h : ¬ A j = true) : bg_en e A (j + 1) = bg_en e A j := if_neg h
theorem bg_en_eq (e : Int32) (A : Nat → Bool) : ∀ n, bg_en e A n = e + nI (bg_ct A n) := by
  intro n
  induction n with
  | zero => exact (Int32.add_zero e).symm
  | succ n ih =>
    by_cases h : A n = true
    · rw [bg_en_t h, bg_ct_t h, ih, ← nI_1, Int32.add_assoc]
    · rw [bg_en_f h, bg_ct_f h, ih]
