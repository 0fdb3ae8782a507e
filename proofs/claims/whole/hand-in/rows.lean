section
/-! numbers: rows of the kit to paste, and a few of my own -/
theorem pk_us {f : Nat → Int32} {k : Nat} {x : Int32} : upd f k x k = x := if_pos rfl
theorem pk_un {f : Nat → Int32} {k j : Nat} {x : Int32} (h : j ≠ k) : upd f k x j = f j := if_neg h
theorem pk_sub {a b : Nat} (h : b ≤ a) : nI a - nI b = nI (a - b) := by
  obtain ⟨c, rfl⟩ : ∃ c, a = c + b := ⟨a - b, by omega⟩
  rw [← nI_add, Int32.add_sub_cancel, Nat.add_sub_cancel]
theorem pk_m1 (n : Nat) : nI (n + 1) + (-1) = nI n := by
  rw [← nI_1, Int32.add_assoc, show (1 : Int32) + (-1) = 0 from rfl, Int32.add_zero]
theorem pk_mul (a b : Nat) : nI a * nI b = nI (a * b) := (Int32.ofNat_mul a b).symm
theorem pk_ix (x : Int32) {n : Nat} (hn : n < 2 ^ 31) : x < 0 ∨ nI n ≤ x ∨ ∃ j : Nat, j < n ∧ x = nI j := by
  by_cases h : x < 0
  · exact Or.inl h
  · obtain ⟨j, hj, rfl⟩ := nI_of h
    by_cases h2 : j < n
    · exact Or.inr (Or.inr ⟨j, h2, rfl⟩)
    · exact Or.inr (Or.inl (nI_le (by omega) hj))
theorem pk_le {x y : Int32} {A B : Prop} (a b : Nat) (f : a ≤ b → A) (g : b < a → B) (hx : x = nI a := by rfl) (hy : y = nI b := by rfl) (ha : a < 2 ^ 31 := by omega) (hb : b < 2 ^ 31 := by omega) : (x ≤ y → A) ∧ (¬ x ≤ y → B) := by
  subst hx hy
  rw [nI_leI ha hb]
  exact ⟨f, fun z => g (by omega)⟩
theorem pk_lt {x y : Int32} {A B : Prop} (a b : Nat) (f : a < b → A) (g : b ≤ a → B) (hx : x = nI a := by rfl) (hy : y = nI b := by rfl) (ha : a < 2 ^ 31 := by omega) (hb : b < 2 ^ 31 := by omega) : (x < y → A) ∧ (¬ x < y → B) := by
  subst hx hy
  rw [nI_ltI ha hb]
  exact ⟨f, fun z => g (by omega)⟩
theorem pk_eq {x y : Int32} {A B : Prop} (a b : Nat) (f : a = b → A) (g : a ≠ b → B) (hx : x = nI a := by rfl) (hy : y = nI b := by rfl) (ha : a < 2 ^ 31 := by omega) (hb : b < 2 ^ 31 := by omega) : (x = y → A) ∧ (¬ x = y → B) := by
  subst hx hy
  rw [nI_eq ha hb]
  exact ⟨f, g⟩
theorem pk_in {x : Int32} (n N : Nat) (h : n < N) (hx : x = nI n := by rfl) (hN : N < 2 ^ 31 := by omega) : vp_in x N := by
  subst hx
  exact vp_in_nI h hN
theorem pk_cl {x : Int32} (n : Nat) (hx : x = nI n := by rfl) (h : n < 2 ^ 31 := by omega) : x.toNatClampNeg = n := by
  subst hx
  exact nI_clamp h
theorem pk_tn {n : Nat} (h : n < 2 ^ 32) : (nI n).toBitVec.toNat = n := Nat.mod_eq_of_lt h
theorem pk_and (x : Int32) {m : Int32} (k : Nat) (hm : m.toBitVec.toNat = 2 ^ k - 1) : x &&& m = nI (x.toBitVec.toNat % 2 ^ k) := by
  apply Int32.toBitVec_inj.mp
  apply BitVec.eq_of_toNat_eq
  rw [Int32.toBitVec_and, BitVec.toNat_and, hm, Nat.and_two_pow_sub_one_eq_mod]
  show _ = (BitVec.ofNat 32 _).toNat
  rw [BitVec.toNat_ofNat]
  exact (Nat.mod_eq_of_lt (Nat.lt_of_le_of_lt (Nat.mod_le _ _) x.toBitVec.isLt)).symm
theorem pk_andN {n : Nat} (h : n < 2 ^ 32) {m : Int32} (k : Nat) (hm : m.toBitVec.toNat = 2 ^ k - 1) : nI n &&& m = nI (n % 2 ^ k) := by
  rw [pk_and _ k hm, pk_tn h]
theorem pk_andE (x : Int32) {m : Int32} (k : Nat) (hm : m.toBitVec.toNat = 2 ^ k - 1) : ∃ j : Nat, j < 2 ^ k ∧ x &&& m = nI j := ⟨_, Nat.mod_lt _ (Nat.two_pow_pos k), pk_and x k hm⟩
theorem pk_shl (a s : Int32) (k : Nat) (hs : (s.toBitVec.smod 32).toNat = k) : (a <<< s).toBitVec.toNat = a.toBitVec.toNat * 2 ^ k % 2 ^ 32 := by
  show (a.toBitVec <<< (s.toBitVec.smod 32).toNat).toNat = _
  rw [hs, BitVec.toNat_shiftLeft, Nat.shiftLeft_eq]
theorem pk_shlN {n : Nat} (s : Int32) (k : Nat) (hs : (s.toBitVec.smod 32).toNat = k) (h : n * 2 ^ k < 2 ^ 32) : nI n <<< s = nI (n * 2 ^ k) := by
  apply Int32.toBitVec_inj.mp
  apply BitVec.eq_of_toNat_eq
  have hn : n < 2 ^ 32 := Nat.lt_of_le_of_lt (Nat.le_mul_of_pos_right n (Nat.two_pow_pos k)) h
  rw [pk_shl _ _ k hs, pk_tn hn, pk_tn h, Nat.mod_eq_of_lt h]
theorem pk_shr (a s : Int32) (k : Nat) (hs : (s.toBitVec.smod 32).toNat = k) : (a >>> s).toInt = a.toInt >>> k := by
  show (a.toBitVec.sshiftRight (s.toBitVec.smod 32).toNat).toInt = _
  rw [hs, BitVec.toInt_sshiftRight]
  rfl
theorem pk_shrN {n : Nat} (h : n < 2 ^ 31) (s : Int32) (k : Nat) (hs : (s.toBitVec.smod 32).toNat = k) : nI n >>> s = nI (n / 2 ^ k) := by
  apply Int32.toInt_inj.mp
  have h2 : n / 2 ^ k ≤ n := Nat.div_le_self _ _
  rw [pk_shr _ _ k hs, nI_toInt h, nI_toInt (by omega), Int.shiftRight_eq_div_pow]
  rfl
theorem s_l : ∀ n, n < 32 → ((nI n &&& 31).toBitVec.smod 32).toNat = n := by decide +kernel
theorem bg_or (a b : Nat) : nI a ||| nI b = nI (a ||| b) := by
  apply Int32.toBitVec_inj.1
  show BitVec.ofNat 32 a ||| BitVec.ofNat 32 b = BitVec.ofNat 32 (a ||| b)
  apply BitVec.eq_of_getLsbD_eq
  intro i hi
  simp [hi]
/-- bit t of a mask, as the reference looks at it -/
theorem bg_bit {q t : Nat} (hq : q < 4096) (ht : t < 12) : (nI q >>> (nI t &&& 31)) &&& 1 = nI (q / 2 ^ t % 2) := by
  rw [pk_shrN (by omega) (nI t &&& 31) t (s_l t (by omega))]
  exact pk_andN (Nat.lt_of_le_of_lt (Nat.div_le_self _ _) (by omega)) 1 (by decide)
theorem bg_bit' {q t : Nat} (hq : q < 4096) (ht : t < 12) : (nI q >>> (nI t &&& 31)) &&& 1 = if q.testBit t then 1 else 0 := by
  rw [bg_bit hq ht]
  have e : q.testBit t = decide (q / 2 ^ t % 2 = 1) := Nat.testBit_eq_decide_div_mod_eq
  rw [e]
  have h : q / 2 ^ t % 2 = 0 ∨ q / 2 ^ t % 2 = 1 := by omega
  rcases h with h | h
  · rw [h]; rfl
  · rw [h]; rfl
theorem bg_shl {k : Nat} (hk : k < 12) : (1 : Int32) <<< (nI k &&& 31) = nI (2 ^ k) := by
  have h : 2 ^ k < 4096 := Nat.pow_lt_pow_right (a := 2) (by decide) hk
  have e := pk_shlN (n := 1) (nI k &&& 31) k (s_l k (by omega)) (by omega)
  rw [Nat.one_mul] at e
  exact e
theorem bg_orlt {q k : Nat} (hq : q < 4096) (hk : k < 12) : q ||| 2 ^ k < 4096 :=
  Nat.or_lt_two_pow (n := 12) hq (Nat.pow_lt_pow_right (a := 2) (by decide) hk)
theorem bg_vb0 : vp_nar .boolean 0 = 0 := by decide
theorem bg_vb1 : vp_nar .boolean 1 = 1 := by decide
theorem bg_a {x y : Int32} {a b : Nat} (hx : x = nI a) (hy : y = nI b) : x + y = nI (a + b) := by rw [hx, hy, nI_add]
theorem bg_m {x y : Int32} {a b : Nat} (hx : x = nI a) (hy : y = nI b) : x * y = nI (a * b) := by rw [hx, hy, pk_mul]
theorem bg_s {x y : Int32} {a b : Nat} (hx : x = nI a) (hy : y = nI b) (h : b ≤ a) : x - y = nI (a - b) := by rw [hx, hy, pk_sub h]
theorem bg_m3 (a : Nat) : nI a * 3 = nI (a * 3) := pk_mul a 3
theorem bg_m5 (a : Nat) : nI a * 5 = nI (a * 5) := pk_mul a 5
theorem bg_m6 (a : Nat) : nI a * 6 = nI (a * 6) := pk_mul a 6
theorem bg_m40 (a : Nat) : nI a * 40 = nI (a * 40) := pk_mul a 40
theorem bg_m240 (a : Nat) : nI a * 240 = nI (a * 240) := pk_mul a 240
theorem bg_p0 (a : Nat) : nI a + 0 = nI (a + 0) := nI_add a 0
theorem bg_p2 (a : Nat) : nI a + 2 = nI (a + 2) := nI_add a 2
theorem bg_p3 (a : Nat) : nI a + 3 = nI (a + 3) := nI_add a 3
theorem bg_p8 (a : Nat) : 8 + nI a = nI (8 + a) := nI_add 8 a
theorem bg_s8 {a : Nat} (h : 8 ≤ a) : nI a - 8 = nI (a - 8) := pk_sub (b := 8) h
theorem bg_s2 {a : Nat} (h : 2 ≤ a) : nI a - 2 = nI (a - 2) := pk_sub (b := 2) h
/-! loops -/
theorem bg_lp (W : Nat → Nat → Prop) (H : Nat → Prop) (e : Nat) (hx : ∀ n, H e → W (n + 1) e) (hs : ∀ n i, i < e → H i → (H (i + 1) → W n (i + 1)) → W (n + 1) i) : ∀ d i, i + d = e → H i → W (d + 1) i := by
  intro d
  induction d with
  | zero =>
    intro i hi h
    have e1 : i = e := by omega
    rw [e1] at h ⊢
    exact hx 0 h
  | succ d ih =>
    intro i hi h
    exact hs (d + 1) i (by omega) h (fun h' => ih (i + 1) (by omega) h')
theorem bg_lp0 (W : Nat → Nat → Prop) (H : Nat → Prop) (e : Nat) (i : Nat) (hi : i ≤ e) (h : H i) (hx : ∀ n, H e → W (n + 1) e) (hs : ∀ n i, i < e → H i → (H (i + 1) → W n (i + 1)) → W (n + 1) i) : ∃ n, W n i :=
  ⟨e - i + 1, bg_lp W H e hx hs (e - i) i (by omega) h⟩
theorem bg_lq (W : Nat → Nat → Prop) (e : Nat) (hx : ∀ n, W (n + 1) e) (hs : ∀ n i, i < e → W n (i + 1) → W (n + 1) i) : ∃ n, W n 0 :=
  bg_lp0 W (fun _ => True) e 0 (Nat.zero_le e) trivial (fun n _ => hx n) (fun n i hi _ h => hs n i hi (h trivial))
theorem bg_ld (W : Nat → Nat → Prop) (e : Nat) (hx : ∀ n, W (n + 1) 0) (hs : ∀ n i, i < e → W n i → W (n + 1) (i + 1)) : ∃ n, W n e := by
  have h : ∀ i, i ≤ e → W (i + 1) i := by
    intro i
    induction i with
    | zero => intro _; exact hx 0
    | succ i ih => intro hi; exact hs (i + 1) i (by omega) (ih (by omega))
  exact ⟨e + 1, h e (Nat.le_refl e)⟩
end
section
/-! the pure picture: the values, a record, an output, what is worked out -/
def bg_iv (C P W : Nat → Int32) (t i : Nat) : Int32 :=
  if P (t * 3 + i) < 8 then C (P (t * 3 + i)).toNatClampNeg else W (P (t * 3 + i) - 8).toNatClampNeg
def bg_vl (C N P W : Nat → Int32) (t i : Nat) : Int32 := if nI i < N t then bg_iv C P W t i else 0
def bg_fs (k q : Int32) (v : Nat → Int32) : Nat → Int32
  | 0 => if k = 3 then 0 else q
  | i + 1 => if k = 1 then bg_fs k q v i * 31 + v i else if k = 2 then (if bg_fs k q v i < v i then v i else bg_fs k q v i) else bg_fs k q v i + v i
def bg_fo (k q : Int32) (v : Nat → Int32) (c : Nat) : Int32 := if k = 3 then bg_fs k q v c &&& 15 else bg_fs k q v c
def bg_rc (C K Q N P W : Nat → Int32) (t : Nat) : Nat → Int32
  | 0 => K t
  | 1 => Q t
  | 2 => N t
  | j + 3 => bg_vl C N P W t j
def bg_ou (C K Q N P W : Nat → Int32) (t : Nat) : Int32 := bg_fo (K t) (Q t) (bg_vl C N P W t) (N t).toNatClampNeg
def bg_wo (C K Q N P W : Nat → Int32) : Nat → (Nat → Int32)
  | 0 => W
  | t + 1 => upd (bg_wo C K Q N P W t) t (bg_ou C K Q N P (bg_wo C K Q N P W t) t)
/-- m cells from d on, written one by one -/
def bg_cp (f : Nat → Int32) (d : Nat) (A : Nat → Int32) : Nat → (Nat → Int32)
  | 0 => A
  | i + 1 => upd (bg_cp f d A i) (d + i) (f i)
def bg_nr (C K Q N P W R : Nat → Int32) : Nat → (Nat → Int32)
  | 0 => R
  | t + 1 => bg_cp (bg_rc C K Q N P (bg_wo C K Q N P W t) t) (t * 6) (bg_nr C K Q N P W R t) 6
def bg_PP (P : Nat → Int32) : Prop := ∀ t i, t < 12 → i < 3 → ∃ j, j < 8 + t ∧ P (t * 3 + i) = nI j
def bg_NN (N : Nat → Int32) : Prop := ∀ t, ∃ c, c ≤ 3 ∧ N t = nI c
def bg_KK (K : Nat → Int32) : Prop := ∀ t, K t = 0 ∨ K t = 1 ∨ K t = 2 ∨ K t = 3
theorem bg_cp_in (f : Nat → Int32) (d : Nat) (A : Nat → Int32) : ∀ i j, j < i → bg_cp f d A i (d + j) = f j := by
  intro i
  induction i with
  | zero => intro j h; omega
  | succ i ih =>
    intro j h
    show upd (bg_cp f d A i) (d + i) (f i) (d + j) = f j
    by_cases e : j = i
    · rw [e]; exact pk_us
    · rw [pk_un (by omega)]; exact ih j (by omega)
theorem bg_cp_out (f : Nat → Int32) (d : Nat) (A : Nat → Int32) : ∀ i x, (x < d ∨ d + i ≤ x) → bg_cp f d A i x = A x := by
  intro i
  induction i with
  | zero => intro x h; rfl
  | succ i ih =>
    intro x h
    show upd (bg_cp f d A i) (d + i) (f i) x = A x
    rw [pk_un (by omega)]; exact ih x (by omega)
theorem bg_cp_x {f g : Nat → Int32} {d : Nat} {A : Nat → Int32} : ∀ i, (∀ j, j < i → f j = g j) → bg_cp f d A i = bg_cp g d A i := by
  intro i
  induction i with
  | zero => intro h; rfl
  | succ i ih =>
    intro h
    show upd (bg_cp f d A i) (d + i) (f i) = upd (bg_cp g d A i) (d + i) (g i)
    rw [ih (fun j hj => h j (by omega)), h i (by omega)]
theorem bg_wo_s {C K Q N P W : Nat → Int32} {j t : Nat} (h : j < t) : ∀ n, t ≤ n → bg_wo C K Q N P W n j = bg_wo C K Q N P W t j := by
  intro n
  induction n with
  | zero => intro hn; omega
  | succ n ih =>
    intro hn
    by_cases e : t = n + 1
    · rw [e]
    · show upd (bg_wo C K Q N P W n) n _ j = _
      rw [pk_un (by omega)]; exact ih (by omega)
theorem bg_vl_x {C N P W W' : Nat → Int32} (hP : bg_PP P) {t i : Nat} (ht : t < 12) (hi : i < 3) (h : ∀ j, j < t → W j = W' j) : bg_vl C N P W t i = bg_vl C N P W' t i := by
  obtain ⟨j, hj, e⟩ := hP t i ht hi
  unfold bg_vl bg_iv
  rw [e]
  by_cases h1 : nI i < N t
  · rw [if_pos h1, if_pos h1]
    by_cases h2 : nI j < 8
    · rw [if_pos h2, if_pos h2]
    · rw [if_neg h2, if_neg h2]
      have h8 : 8 ≤ j := Nat.le_of_not_lt (fun z => h2 (nI_lt (b := 8) z (by decide)))
      rw [bg_s8 h8, nI_clamp (by omega)]
      exact h _ (by omega)
  · rw [if_neg h1, if_neg h1]
theorem bg_rc_x {C K Q N P W W' : Nat → Int32} (hP : bg_PP P) {t : Nat} (ht : t < 12) (h : ∀ j, j < t → W j = W' j) : ∀ j, j < 6 → bg_rc C K Q N P W t j = bg_rc C K Q N P W' t j
  | 0, _ => rfl
  | 1, _ => rfl
  | 2, _ => rfl
  | j + 3, hj => bg_vl_x hP ht (by omega) h
theorem bg_nr_s {C K Q N P W R : Nat → Int32} (hP : bg_PP P) {t j : Nat} (hj : j < 6) : ∀ n, t < n → n ≤ 12 → bg_nr C K Q N P W R n (t * 6 + j) = bg_rc C K Q N P (bg_wo C K Q N P W n) t j := by
  intro n
  induction n with
  | zero => intro h; omega
  | succ n ih =>
    intro h hn
    show bg_cp (bg_rc C K Q N P (bg_wo C K Q N P W n) n) (n * 6) (bg_nr C K Q N P W R n) 6 (t * 6 + j) = _
    by_cases e : t = n
    · subst e
      rw [bg_cp_in _ _ _ 6 j hj]
      exact bg_rc_x hP (by omega) (fun i hi => (bg_wo_s hi (t + 1) (by omega)).symm) j hj
    · rw [bg_cp_out _ _ _ 6 _ (by omega), ih (by omega) (by omega)]
      exact bg_rc_x hP (by omega) (fun i hi => by rw [bg_wo_s (t := n) (by omega) (n + 1) (by omega)]) j hj
/-- the values that the fold sees -/
theorem bg_fs_x {k q : Int32} {v w : Nat → Int32} : ∀ c, (∀ i, i < c → v i = w i) → bg_fs k q v c = bg_fs k q w c := by
  intro c
  induction c with
  | zero => intro h; rfl
  | succ c ih =>
    intro h
    have e1 := ih (fun i hi => h i (by omega))
    have e2 := h c (by omega)
    show (if k = 1 then bg_fs k q v c * 31 + v c else if k = 2 then (if bg_fs k q v c < v c then v c else bg_fs k q v c) else bg_fs k q v c + v c) = (if k = 1 then bg_fs k q w c * 31 + w c else if k = 2 then (if bg_fs k q w c < w c then w c else bg_fs k q w c) else bg_fs k q w c + w c)
    rw [e1, e2]
theorem bg_fs_1 {k q : Int32} {v : Nat → Int32} {i : Nat} (h : k = 1) : bg_fs k q v (i + 1) = bg_fs k q v i * 31 + v i := if_pos h
theorem bg_fs_2 {k q : Int32} {v : Nat → Int32} {i : Nat} (h : k = 2) : bg_fs k q v (i + 1) = if bg_fs k q v i < v i then v i else bg_fs k q v i :=
  (if_neg (fun z => absurd (h.symm.trans z) (by decide))).trans (if_pos h)
theorem bg_fs_p {k q : Int32} {v : Nat → Int32} {i : Nat} (h1 : ¬ k = 1) (h2 : ¬ k = 2) : bg_fs k q v (i + 1) = bg_fs k q v i + v i :=
  (if_neg h1).trans (if_neg h2)
/-! what a build needs -/
def bg_pi (P : Nat → Int32) (t : Nat) (B : Nat → Bool) : Nat → (Nat → Bool)
  | 0 => B
  | i + 1 => fun j => bg_pi P t B i j || decide ((P (t * 3 + i)).toNatClampNeg = j + 8)
def bg_pb (P N : Nat → Int32) (t : Nat) (B : Nat → Bool) : Nat → Bool := if B t = true then bg_pi P t B (N t).toNatClampNeg else B
def bg_pd (P N : Nat → Int32) : Nat → (Nat → Bool) → (Nat → Bool)
  | 0, B => B
  | t + 1, B => bg_pd P N t (bg_pb P N t B)
def bg_nd (P N : Nat → Int32) (t : Nat) : Nat → Bool := bg_pd P N (t + 1) (fun j => decide (j = t))
theorem bg_pi_t {P : Nat → Int32} (hP : bg_PP P) {t : Nat} (ht : t < 12) (B : Nat → Bool) : ∀ i, i ≤ 3 → ∀ j, t ≤ j → bg_pi P t B i j = B j := by
  intro i
  induction i with
  | zero => intro _ j _; rfl
  | succ i ih =>
    intro hi j hj
    obtain ⟨x, hx, e⟩ := hP t i ht (by omega)
    show (bg_pi P t B i j || decide ((P (t * 3 + i)).toNatClampNeg = j + 8)) = B j
    rw [ih (by omega) j hj, e, nI_clamp (by omega), decide_eq_false (by omega), Bool.or_false]
theorem bg_pb_t {P N : Nat → Int32} (hP : bg_PP P) (hN : bg_NN N) {t : Nat} (ht : t < 12) (B : Nat → Bool) {j : Nat} (hj : t ≤ j) : bg_pb P N t B j = B j := by
  unfold bg_pb
  by_cases h : B t = true
  · rw [if_pos h]
    obtain ⟨c, hc, e⟩ := hN t
    rw [e, nI_clamp (by omega)]
    exact bg_pi_t hP ht B c hc j hj
  · rw [if_neg h]
theorem bg_pd_t {P N : Nat → Int32} (hP : bg_PP P) (hN : bg_NN N) : ∀ t, t ≤ 12 → ∀ (B : Nat → Bool) (j : Nat), t ≤ j + 1 → bg_pd P N t B j = B j := by
  intro t
  induction t with
  | zero => intro _ B j _; rfl
  | succ t ih =>
    intro ht B j hj
    show bg_pd P N t (bg_pb P N t B) j = B j
    rw [ih (by omega) _ j (by omega)]
    exact bg_pb_t hP hN (by omega) B (by omega)
theorem bg_nd_lt {P N : Nat → Int32} (hP : bg_PP P) (hN : bg_NN N) {t j : Nat} (ht : t < 12) (hj : t < j) : bg_nd P N t j = false := by
  unfold bg_nd
  rw [bg_pd_t hP hN (t + 1) (by omega) _ j (by omega)]
  exact decide_eq_false (by omega)
/-! counting -/
def bg_ct (B : Nat → Bool) : Nat → Nat
  | 0 => 0
  | n + 1 => if B n = true then bg_ct B n + 1 else bg_ct B n
theorem bg_ct_le (B : Nat → Bool) : ∀ n, bg_ct B n ≤ n := by
  intro n
  induction n with
  | zero => exact Nat.le_refl 0
  | succ n ih =>
    show (if B n = true then bg_ct B n + 1 else bg_ct B n) ≤ n + 1
    by_cases h : B n = true
    · rw [if_pos h]; omega
    · rw [if_neg h]; omega
theorem bg_ct_t {B : Nat → Bool} {n : Nat} (h : B n = true) : bg_ct B (n + 1) = bg_ct B n + 1 := if_pos h
theorem bg_ct_f {B : Nat → Bool} {n : Nat} (h : ¬ B n = true) : bg_ct B (n + 1) = bg_ct B n := if_neg h
theorem bg_ct_m {B : Nat → Bool} {m : Nat} : ∀ n, m ≤ n → (∀ j, m ≤ j → j < n → B j = false) → bg_ct B n = bg_ct B m := by
  intro n
  induction n with
  | zero =>
    intro h _
    have e : m = 0 := by omega
    rw [e]
  | succ n ih =>
    intro h hB
    by_cases e : m = n + 1
    · rw [e]
    · rw [bg_ct_f (by rw [hB n (by omega) (by omega)]; decide)]
      exact ih (by omega) (fun j h1 h2 => hB j h1 (by omega))
theorem bg_ct_x {A B : Nat → Bool} : ∀ n, (∀ j, j < n → A j = B j) → bg_ct A n = bg_ct B n := by
  intro n
  induction n with
  | zero => intro _; rfl
  | succ n ih =>
    intro h
    show (if A n = true then bg_ct A n + 1 else bg_ct A n) = (if B n = true then bg_ct B n + 1 else bg_ct B n)
    rw [ih (fun j hj => h j (by omega)), h n (by omega)]
noncomputable def bg_dc (p : Prop) : Bool := @decide p (Classical.propDecidable p)
theorem bg_dc_i {p : Prop} : bg_dc p = true ↔ p := @decide_eq_true_iff p (Classical.propDecidable p)
def bg_bi (b : Bool) : Int32 := if b = true then 1 else 0
theorem bg_bi_t {b : Bool} (h : b = true) : bg_bi b = 1 := if_pos h
theorem bg_bi_f {b : Bool} (h : ¬ b = true) : bg_bi b = 0 := if_neg h
theorem bg_10 : ¬ (1 : Int32) = 0 := by decide
theorem bg_bi_0 {b : Bool} : bg_bi b = 0 ↔ ¬ b = true := by cases b <;> decide
/-! a build's writes -/
def bg_st (D : Nat → Bool) (s : Nat → Int32) (A : Nat → Int32) : Nat → (Nat → Int32)
  | 0 => A
  | t + 1 => if D t = true then upd (upd (bg_st D s A t) t 0) t (s t) else upd (bg_st D s A t) t 0
def bg_u1 (D : Nat → Bool) (f : Nat → Int32) (A : Nat → Int32) : Nat → (Nat → Int32)
  | 0 => A
  | t + 1 => if D t = true then upd (bg_u1 D f A t) t (f t) else bg_u1 D f A t
def bg_ur (D : Nat → Bool) (f : Nat → Nat → Int32) (d : Nat → Nat) (m : Nat) (A : Nat → Int32) : Nat → (Nat → Int32)
  | 0 => A
  | t + 1 => if D t = true then bg_cp (f t) (d t) (bg_ur D f d m A t) m else bg_ur D f d m A t
theorem bg_u1_hi {D : Nat → Bool} {f A : Nat → Int32} {j : Nat} : ∀ t, t ≤ j → bg_u1 D f A t j = A j := by
  intro t
  induction t with
  | zero => intro _; rfl
  | succ t ih =>
    intro h
    show (if D t = true then upd (bg_u1 D f A t) t (f t) else bg_u1 D f A t) j = A j
    by_cases e : D t = true
    · rw [if_pos e, pk_un (by omega)]; exact ih (by omega)
    · rw [if_neg e]; exact ih (by omega)
theorem bg_u1_lo {D : Nat → Bool} {f A : Nat → Int32} {j : Nat} : ∀ t, j < t → bg_u1 D f A t j = if D j = true then f j else A j := by
  intro t
  induction t with
  | zero => intro h; omega
  | succ t ih =>
    intro h
    show (if D t = true then upd (bg_u1 D f A t) t (f t) else bg_u1 D f A t) j = _
    by_cases e : j = t
    · subst e
      by_cases e2 : D j = true
      · rw [if_pos e2, if_pos e2]; exact pk_us
      · rw [if_neg e2, if_neg e2]; exact bg_u1_hi j (Nat.le_refl j)
    · by_cases e2 : D t = true
      · rw [if_pos e2, pk_un e]; exact ih (by omega)
      · rw [if_neg e2]; exact ih (by omega)
theorem bg_ur_out {D : Nat → Bool} {f : Nat → Nat → Int32} {d : Nat → Nat} {m : Nat} {A : Nat → Int32} {x : Nat} : ∀ n, (∀ t, t < n → D t = true → x < d t ∨ d t + m ≤ x) → bg_ur D f d m A n x = A x := by
  intro n
  induction n with
  | zero => intro _; rfl
  | succ n ih =>
    intro h
    show (if D n = true then bg_cp (f n) (d n) (bg_ur D f d m A n) m else bg_ur D f d m A n) x = A x
    by_cases e : D n = true
    · rw [if_pos e, bg_cp_out _ _ _ m x (h n (by omega) e)]; exact ih (fun t ht => h t (by omega))
    · rw [if_neg e]; exact ih (fun t ht => h t (by omega))
theorem bg_ur_in {D : Nat → Bool} {f : Nat → Nat → Int32} {d : Nat → Nat} {m : Nat} {A : Nat → Int32} {t j : Nat} (hj : j < m) (hD : D t = true) : ∀ n, t < n → (∀ t', t < t' → t' < n → d t + j < d t' ∨ d t' + m ≤ d t + j) → bg_ur D f d m A n (d t + j) = f t j := by
  intro n
  induction n with
  | zero => intro h; omega
  | succ n ih =>
    intro h hd
    show (if D n = true then bg_cp (f n) (d n) (bg_ur D f d m A n) m else bg_ur D f d m A n) (d t + j) = f t j
    by_cases e : t = n
    · subst e
      rw [if_pos hD]; exact bg_cp_in _ _ _ m j hj
    · by_cases e2 : D n = true
      · rw [if_pos e2, bg_cp_out _ _ _ m _ (hd n (by omega) (by omega))]; exact ih (by omega) (fun t' h1 h2 => hd t' h1 (by omega))
      · rw [if_neg e2]; exact ih (by omega) (fun t' h1 h2 => hd t' h1 (by omega))
/-! a build's answer for one task -/
def bg_sv (l o : Bool) : Int32 := if l = true then 1 else if o = true then 2 else 3
def bg_ex (l o : Bool) : Bool := !l && !o
theorem bg_sv_3 {l o : Bool} : bg_sv l o = 3 ↔ bg_ex l o = true := by cases l <;> cases o <;> decide
theorem bg_cp_s (f : Nat → Int32) (d : Nat) (A : Nat → Int32) (i : Nat) : upd (bg_cp f d A i) (d + i) (f i) = bg_cp f d A (i + 1) := rfl
theorem bg_cp_3 (f : Nat → Int32) (d : Nat) (A : Nat → Int32) : upd (upd (upd A (d + 0) (f 0)) (d + 1) (f 1)) (d + 2) (f 2) = bg_cp f d A 3 := rfl
theorem bg_st_t {D : Nat → Bool} {s A : Nat → Int32} {t : Nat} (h : D t = true) : bg_st D s A (t + 1) = upd (upd (bg_st D s A t) t 0) t (s t) := if_pos h
theorem bg_st_f {D : Nat → Bool} {s A : Nat → Int32} {t : Nat} (h : ¬ D t = true) : bg_st D s A (t + 1) = upd (bg_st D s A t) t 0 := if_neg h
theorem bg_u1_t {D : Nat → Bool} {f A : Nat → Int32} {t : Nat} (h : D t = true) : bg_u1 D f A (t + 1) = upd (bg_u1 D f A t) t (f t) := if_pos h
theorem bg_u1_f {D : Nat → Bool} {f A : Nat → Int32} {t : Nat} (h : ¬ D t = true) : bg_u1 D f A (t + 1) = bg_u1 D f A t := if_neg h
theorem bg_ur_t {D : Nat → Bool} {f : Nat → Nat → Int32} {d : Nat → Nat} {m : Nat} {A : Nat → Int32} {t : Nat} (h : D t = true) : bg_ur D f d m A (t + 1) = bg_cp (f t) (d t) (bg_ur D f d m A t) m := if_pos h
theorem bg_ur_f {D : Nat → Bool} {f : Nat → Nat → Int32} {d : Nat → Nat} {m : Nat} {A : Nat → Int32} {t : Nat} (h : ¬ D t = true) : bg_ur D f d m A (t + 1) = bg_ur D f d m A t := if_neg h
/-- what is executed: needed, not up to date, not in the store -/
def bg_Ev (D l o : Nat → Bool) : Nat → Bool := fun j => D j && bg_ex (l j) (o j)
theorem bg_Ev_t {D l o : Nat → Bool} {j : Nat} (h : D j = true) : bg_Ev D l o j = bg_ex (l j) (o j) := by
  show (D j && bg_ex (l j) (o j)) = _
  rw [h, Bool.true_and]
theorem bg_Ev_f {D l o : Nat → Bool} {j : Nat} (h : ¬ D j = true) : ¬ bg_Ev D l o j = true := by
  show ¬ (D j && bg_ex (l j) (o j)) = true
  rw [Bool.eq_false_iff.mpr h, Bool.false_and]
  decide
/-- the reference's running count, from e on -/
def bg_en (e : Int32) (A : Nat → Bool) : Nat → Int32
  | 0 => e
  | j + 1 => if A j = true then bg_en e A j + 1 else bg_en e A j
theorem bg_en_t {e : Int32} {A : Nat → Bool} {j : Nat} (h : A j = true) : bg_en e A (j + 1) = bg_en e A j + 1 := if_pos h
theorem bg_en_f {e : Int32} {A : Nat → Bool} {j : Nat} (h : ¬ A j = true) : bg_en e A (j + 1) = bg_en e A j := if_neg h
theorem bg_en_eq (e : Int32) (A : Nat → Bool) : ∀ n, bg_en e A n = e + nI (bg_ct A n) := by
  intro n
  induction n with
  | zero => exact (Int32.add_zero e).symm
  | succ n ih =>
    by_cases h : A n = true
    · rw [bg_en_t h, bg_ct_t h, ih, ← nI_1, Int32.add_assoc]
    · rw [bg_en_f h, bg_ct_f h, ih]
end
section
/-! the relation's parts, and how each call keeps them -/
def bg_LL (n : Nat) (K HL LR L : Nat → Int32) : Prop := ∀ t, t < 12 → ¬ HL t = 0 → t < n ∧ LR (t * 6) = K t ∧ ∀ j, j < 5 → LR (t * 6 + (j + 1)) = L (t * 5 + j)
def bg_SS (n b : Nat) (K SC SR S : Nat → Int32) : Prop := ∀ t, t < 12 → ∃ s, s ≤ b ∧ SC t = nI s ∧ (n ≤ t → s = 0) ∧ ∀ r, r < s → SR (t * 240 + r * 6) = K t ∧ ∀ j, j < 5 → SR (t * 240 + r * 6 + (j + 1)) = S ((t * 40 + r) * 5 + j)
def bg_R (n b : Nat) (K N P HL LR SC SR L S : Nat → Int32) : Prop := n ≤ 12 ∧ b ≤ 40 ∧ bg_KK K ∧ bg_NN N ∧ bg_PP P ∧ bg_LL n K HL LR L ∧ bg_SS n b K SC SR S
def bg_lx (HL LR : Nat → Int32) (rc : Nat → Nat → Int32) (t : Nat) : Prop := ¬ HL t = 0 ∧ ∀ j, j < 6 → LR (t * 6 + j) = rc t j
def bg_ly (HL L : Nat → Int32) (rc : Nat → Nat → Int32) (t : Nat) : Prop := ¬ HL t = 0 ∧ ∀ j, j < 5 → L (t * 5 + j) = rc t (j + 1)
def bg_sx (SC SR : Nat → Int32) (rc : Nat → Nat → Int32) (t : Nat) : Prop := ∃ r, r < (SC t).toNatClampNeg ∧ ∀ j, j < 6 → SR (t * 240 + r * 6 + j) = rc t j
def bg_sy (SC S : Nat → Int32) (rc : Nat → Nat → Int32) (t : Nat) : Prop := ∃ r, r < (SC t).toNatClampNeg ∧ ∀ j, j < 5 → S ((t * 40 + r) * 5 + j) = rc t (j + 1)
theorem bg_lxy {n : Nat} {K HL LR L : Nat → Int32} {rc : Nat → Nat → Int32} (h : bg_LL n K HL LR L) {t : Nat} (ht : t < 12) (hr : rc t 0 = K t) : bg_lx HL LR rc t ↔ bg_ly HL L rc t := by
  constructor
  · rintro ⟨a, b⟩
    refine ⟨a, fun j hj => ?_⟩
    rw [← (h t ht a).2.2 j hj]
    exact b (j + 1) (by omega)
  · rintro ⟨a, b⟩
    refine ⟨a, fun j hj => ?_⟩
    cases j with
    | zero => exact (h t ht a).2.1.trans hr.symm
    | succ j => rw [(h t ht a).2.2 j (by omega)]; exact b j (by omega)
theorem bg_sxy {n b : Nat} {K SC SR S : Nat → Int32} {rc : Nat → Nat → Int32} (h : bg_SS n b K SC SR S) (hb : b ≤ 40) {t : Nat} (ht : t < 12) (hr : rc t 0 = K t) : bg_sx SC SR rc t ↔ bg_sy SC S rc t := by
  obtain ⟨s, h1, h2, _, h4⟩ := h t ht
  have hc : (SC t).toNatClampNeg = s := by rw [h2, nI_clamp (by omega)]
  constructor
  · rintro ⟨r, a, c⟩
    rw [hc] at a
    refine ⟨r, by rw [hc]; exact a, fun j hj => ?_⟩
    rw [← (h4 r a).2 j hj]
    exact c (j + 1) (by omega)
  · rintro ⟨r, a, c⟩
    rw [hc] at a
    refine ⟨r, by rw [hc]; exact a, fun j hj => ?_⟩
    cases j with
    | zero => exact (h4 r a).1.trans hr.symm
    | succ j => rw [(h4 r a).2 j (by omega)]; exact c j (by omega)
theorem bg_LL_b {n : Nat} {K HL LR L : Nat → Int32} {D : Nat → Bool} {rc : Nat → Nat → Int32} (hn : n ≤ 12) (hr : ∀ t, rc t 0 = K t) (h : bg_LL n K HL LR L) : bg_LL n K (bg_u1 D (fun _ => 1) HL n) (bg_ur D rc (fun t => t * 6) 6 LR n) (bg_ur D (fun t j => rc t (j + 1)) (fun t => t * 5) 5 L n) := by
  intro t ht hh
  by_cases hd : t < n ∧ D t = true
  · obtain ⟨h1, h2⟩ := hd
    have e : ∀ j, j < 6 → bg_ur D rc (fun t => t * 6) 6 LR n (t * 6 + j) = rc t j := fun j hj => bg_ur_in (d := fun t => t * 6) hj h2 n h1 (fun t' a b => by (try dsimp only); omega)
    refine ⟨h1, ?_, fun j hj => ?_⟩
    · exact (e 0 (by omega)).trans (hr t)
    · rw [e (j + 1) (by omega)]
      exact (bg_ur_in (d := fun t => t * 5) (f := fun t j => rc t (j + 1)) hj h2 n h1 (fun t' a b => by (try dsimp only); omega)).symm
  · have hu : bg_u1 D (fun _ => 1) HL n t = HL t := by
      by_cases h1 : t < n
      · rw [bg_u1_lo n h1, if_neg (fun z => hd ⟨h1, z⟩)]
      · exact bg_u1_hi n (by omega)
    rw [hu] at hh
    obtain ⟨a, b, c⟩ := h t ht hh
    have o6 : ∀ j, j < 6 → bg_ur D rc (fun t => t * 6) 6 LR n (t * 6 + j) = LR (t * 6 + j) := fun j hj => bg_ur_out n (fun t' h1 h2 => by
      have ne : t' ≠ t := fun z => hd (by rw [← z]; exact ⟨h1, h2⟩)
      try dsimp only
      omega)
    have o5 : ∀ j, j < 5 → bg_ur D (fun t j => rc t (j + 1)) (fun t => t * 5) 5 L n (t * 5 + j) = L (t * 5 + j) := fun j hj => bg_ur_out n (fun t' h1 h2 => by
      have ne : t' ≠ t := fun z => hd (by rw [← z]; exact ⟨h1, h2⟩)
      try dsimp only
      omega)
    refine ⟨a, (o6 0 (by omega)).trans b, fun j hj => ?_⟩
    rw [o6 (j + 1) (by omega), o5 j hj]
    exact c j hj
theorem bg_SS_b {n b : Nat} {K SC SR S : Nat → Int32} {D : Nat → Bool} {rc : Nat → Nat → Int32} (hn : n ≤ 12) (hb : b < 40) (hr : ∀ t, rc t 0 = K t) (h : bg_SS n b K SC SR S) : bg_SS n (b + 1) K (bg_u1 D (fun t => SC t + 1) SC n) (bg_ur D rc (fun t => t * 240 + (SC t).toNatClampNeg * 6) 6 SR n) (bg_ur D (fun t j => rc t (j + 1)) (fun t => (t * 40 + (SC t).toNatClampNeg) * 5) 5 S n) := by
  intro t ht
  have hs : ∀ t', t' < 12 → (SC t').toNatClampNeg ≤ b := fun t' h' => by
    obtain ⟨s, h1, h2, _⟩ := h t' h'
    rw [h2, nI_clamp (by omega)]; exact h1
  obtain ⟨s, hs1, hs2, hs3, hs4⟩ := h t ht
  have hc : (SC t).toNatClampNeg = s := by rw [hs2, nI_clamp (by omega)]
  have ox : ∀ r j, r < 40 → j < 6 → ¬ (t < n ∧ D t = true ∧ r = s) → bg_ur D rc (fun t => t * 240 + (SC t).toNatClampNeg * 6) 6 SR n (t * 240 + r * 6 + j) = SR (t * 240 + r * 6 + j) := fun r j hr' hj hx => bg_ur_out n (fun t' h1 h2 => by
    have a := hs t' (by omega)
    try dsimp only
    by_cases e : t' = t
    · rw [e, hc]
      have ne : r ≠ s := fun z => hx (by rw [e] at h1 h2; exact ⟨h1, h2, z⟩)
      omega
    · generalize (SC t').toNatClampNeg = s' at a ⊢
      omega)
  have oy : ∀ r j, r < 40 → j < 5 → ¬ (t < n ∧ D t = true ∧ r = s) → bg_ur D (fun t j => rc t (j + 1)) (fun t => (t * 40 + (SC t).toNatClampNeg) * 5) 5 S n ((t * 40 + r) * 5 + j) = S ((t * 40 + r) * 5 + j) := fun r j hr' hj hx => bg_ur_out n (fun t' h1 h2 => by
    have a := hs t' (by omega)
    try dsimp only
    by_cases e : t' = t
    · rw [e, hc]
      have ne : r ≠ s := fun z => hx (by rw [e] at h1 h2; exact ⟨h1, h2, z⟩)
      omega
    · generalize (SC t').toNatClampNeg = s' at a ⊢
      omega)
  have old : ∀ r, r < s → ¬ (t < n ∧ D t = true ∧ r = s) → bg_ur D rc (fun t => t * 240 + (SC t).toNatClampNeg * 6) 6 SR n (t * 240 + r * 6) = K t ∧ ∀ j, j < 5 → bg_ur D rc (fun t => t * 240 + (SC t).toNatClampNeg * 6) 6 SR n (t * 240 + r * 6 + (j + 1)) = bg_ur D (fun t j => rc t (j + 1)) (fun t => (t * 40 + (SC t).toNatClampNeg) * 5) 5 S n ((t * 40 + r) * 5 + j) := by
    intro r hr' hx
    refine ⟨(ox r 0 (by omega) (by omega) hx).trans (hs4 r hr').1, fun j hj => ?_⟩
    rw [ox r (j + 1) (by omega) (by omega) hx, oy r j (by omega) hj hx]
    exact (hs4 r hr').2 j hj
  by_cases hd : t < n ∧ D t = true
  · refine ⟨s + 1, by omega, ?_, fun z => by omega, fun r hr' => ?_⟩
    · rw [bg_u1_lo n hd.1, if_pos hd.2]
      show SC t + 1 = _
      rw [hs2]; exact nI_1 s
    · by_cases e : r = s
      · have nx : ∀ j, j < 6 → bg_ur D rc (fun t => t * 240 + (SC t).toNatClampNeg * 6) 6 SR n (t * 240 + r * 6 + j) = rc t j := by
          intro j hj
          have q := bg_ur_in (D := D) (f := rc) (d := fun t => t * 240 + (SC t).toNatClampNeg * 6) (A := SR) hj hd.2 n hd.1 (fun t' h1 h2 => by
            have a := hs t' (by omega)
            have a2 := hs t ht
            try dsimp only
            generalize (SC t').toNatClampNeg = s' at a ⊢
            generalize (SC t).toNatClampNeg = s2 at a2 ⊢
            omega)
          try dsimp only at q
          rw [hc] at q
          rw [e]; exact q
        have ny : ∀ j, j < 5 → bg_ur D (fun t j => rc t (j + 1)) (fun t => (t * 40 + (SC t).toNatClampNeg) * 5) 5 S n ((t * 40 + r) * 5 + j) = rc t (j + 1) := by
          intro j hj
          have q := bg_ur_in (D := D) (f := fun t j => rc t (j + 1)) (d := fun t => (t * 40 + (SC t).toNatClampNeg) * 5) (A := S) hj hd.2 n hd.1 (fun t' h1 h2 => by
            have a := hs t' (by omega)
            have a2 := hs t ht
            try dsimp only
            generalize (SC t').toNatClampNeg = s' at a ⊢
            generalize (SC t).toNatClampNeg = s2 at a2 ⊢
            omega)
          try dsimp only at q
          rw [hc] at q
          rw [e]; exact q
        refine ⟨(nx 0 (by omega)).trans (hr t), fun j hj => ?_⟩
        rw [nx (j + 1) (by omega), ny j hj]
      · exact old r (by omega) (fun z => e z.2.2)
  · refine ⟨s, by omega, ?_, hs3, fun r hr' => old r hr' (fun z => hd ⟨z.1, z.2.1⟩)⟩
    by_cases h1 : t < n
    · rw [bg_u1_lo n h1, if_neg (fun z => hd ⟨h1, z⟩)]; exact hs2
    · rw [bg_u1_hi n (by omega)]; exact hs2
/-! the small calls -/
theorem bg_K3 (x : Int32) : x &&& 3 = 0 ∨ x &&& 3 = 1 ∨ x &&& 3 = 2 ∨ x &&& 3 = 3 := by
  obtain ⟨j, hj, e⟩ := pk_andE x (m := 3) 2 (by decide)
  rw [e]
  have h : j = 0 ∨ j = 1 ∨ j = 2 ∨ j = 3 := by omega
  rcases h with h | h | h | h <;> subst h <;> decide
theorem bg_R_task {n b : Nat} {K N P HL LR SC SR L S : Nat → Int32} (h : bg_R n b K N P HL LR SC SR L S) (hn : n < 12) (x : Int32) : bg_R (n + 1) b (upd K n (x &&& 3)) N P HL LR SC SR L S := by
  obtain ⟨_, h2, h3, h4, h5, h6, h7⟩ := h
  refine ⟨hn, h2, fun t => ?_, h4, h5, fun t ht hh => ?_, fun t ht => ?_⟩
  · by_cases e : t = n
    · rw [e, pk_us]; exact bg_K3 x
    · rw [pk_un e]; exact h3 t
  · obtain ⟨a, b, c⟩ := h6 t ht hh
    exact ⟨by omega, by rw [pk_un (by omega)]; exact b, c⟩
  · obtain ⟨s, a, c, d, e⟩ := h7 t ht
    refine ⟨s, a, c, fun z => d (by omega), fun r hr => ?_⟩
    have ht' : t < n := Nat.lt_of_not_le (fun z => by have := d z; omega)
    rw [pk_un (by omega)]; exact e r hr
theorem bg_R_input {n b : Nat} {K N P HL LR SC SR L S : Nat → Int32} (h : bg_R n b K N P HL LR SC SR L S) {t c j : Nat} (ht : t < 12) (hc : c < 3) (hj : j < 8 + t) : bg_R n b K (upd N t (nI (c + 1))) (upd P (t * 3 + c) (nI j)) HL LR SC SR L S := by
  obtain ⟨h1, h2, h3, h4, h5, h6, h7⟩ := h
  refine ⟨h1, h2, h3, fun t' => ?_, fun t' i ht' hi => ?_, h6, h7⟩
  · by_cases e : t' = t
    · rw [e, pk_us]; exact ⟨c + 1, by omega, rfl⟩
    · rw [pk_un e]; exact h4 t'
  · by_cases e : t' * 3 + i = t * 3 + c
    · rw [e, pk_us]; exact ⟨j, by omega, rfl⟩
    · rw [pk_un e]; exact h5 t' i ht' hi
theorem bg_R_clean {n b : Nat} {K N P HL LR SC SR L S : Nat → Int32} (h : bg_R n b K N P HL LR SC SR L S) (t : Nat) : bg_R n b K N P (upd HL t 0) LR SC SR L S := by
  obtain ⟨h1, h2, h3, h4, h5, h6, h7⟩ := h
  refine ⟨h1, h2, h3, h4, h5, fun t' ht' hh => ?_, h7⟩
  by_cases e : t' = t
  · rw [e, pk_us] at hh; exact absurd rfl hh
  · rw [pk_un e] at hh; exact h6 t' ht' hh
def bg_z (A : Nat → Int32) : Nat → (Nat → Int32)
  | 0 => A
  | t + 1 => upd (bg_z A t) t 0
theorem bg_z_lo {A : Nat → Int32} {j : Nat} : ∀ t, j < t → bg_z A t j = 0 := by
  intro t
  induction t with
  | zero => intro h; omega
  | succ t ih =>
    intro h
    show upd (bg_z A t) t 0 j = 0
    by_cases e : j = t
    · rw [e]; exact pk_us
    · rw [pk_un e]; exact ih (by omega)
theorem bg_R_empty {n b : Nat} {K N P HL LR SC SR L S : Nat → Int32} (h : bg_R n b K N P HL LR SC SR L S) : bg_R n 0 K N P HL LR (bg_z SC 12) SR L S := by
  obtain ⟨h1, h2, h3, h4, h5, h6, h7⟩ := h
  exact ⟨h1, by omega, h3, h4, h5, h6, fun t ht => ⟨0, by omega, bg_z_lo 12 ht, fun _ => rfl, fun r hr => by omega⟩⟩
theorem bg_R_0 : bg_R 0 0 (fun _ => 0) (fun _ => 0) (fun _ => 0) (fun _ => 0) (fun _ => 0) (fun _ => 0) (fun _ => 0) (fun _ => 0) (fun _ => 0) :=
  ⟨by omega, by omega, fun _ => Or.inl rfl, fun _ => ⟨0, by omega, rfl⟩, fun t i _ _ => ⟨0, by omega, rfl⟩, fun t _ h => (h rfl).elim, fun t _ => ⟨0, by omega, rfl, fun _ => rfl, fun r hr => by omega⟩⟩
theorem bg_R_build {n b : Nat} {K N P HL LR SC SR L S : Nat → Int32} {D E : Nat → Bool} {rc : Nat → Nat → Int32} (h : bg_R n b K N P HL LR SC SR L S) (hb : b < 40) (hr : ∀ t, rc t 0 = K t) : bg_R n (b + 1) K N P (bg_u1 D (fun _ => 1) HL n) (bg_ur D rc (fun t => t * 6) 6 LR n) (bg_u1 E (fun t => SC t + 1) SC n) (bg_ur E rc (fun t => t * 240 + (SC t).toNatClampNeg * 6) 6 SR n) (bg_ur D (fun t j => rc t (j + 1)) (fun t => t * 5) 5 L n) (bg_ur E (fun t j => rc t (j + 1)) (fun t => (t * 40 + (SC t).toNatClampNeg) * 5) 5 S n) := by
  obtain ⟨h1, h2, h3, h4, h5, h6, h7⟩ := h
  exact ⟨h1, hb, h3, h4, h5, bg_LL_b h1 hr h6, bg_SS_b h1 hb hr h7⟩
/-! inside a build: what lies at t is still as it was before the tasks below it were handled -/
theorem bg_lx_t {HL LR f : Nat → Int32} {D : Nat → Bool} {rc : Nat → Nat → Int32} {t : Nat} : bg_lx (bg_u1 D f HL t) (bg_ur D rc (fun t => t * 6) 6 LR t) rc t ↔ bg_lx HL LR rc t := by
  have o : ∀ j, j < 6 → bg_ur D rc (fun t => t * 6) 6 LR t (t * 6 + j) = LR (t * 6 + j) := fun j hj => bg_ur_out t (fun t' h1 h2 => by (try dsimp only); omega)
  unfold bg_lx
  rw [bg_u1_hi t (Nat.le_refl t)]
  exact ⟨fun h => ⟨h.1, fun j hj => (o j hj).symm.trans (h.2 j hj)⟩, fun h => ⟨h.1, fun j hj => (o j hj).trans (h.2 j hj)⟩⟩
theorem bg_ly_t {HL L f : Nat → Int32} {D : Nat → Bool} {rc : Nat → Nat → Int32} {t : Nat} : bg_ly (bg_u1 D f HL t) (bg_ur D (fun t j => rc t (j + 1)) (fun t => t * 5) 5 L t) rc t ↔ bg_ly HL L rc t := by
  have o : ∀ j, j < 5 → bg_ur D (fun t j => rc t (j + 1)) (fun t => t * 5) 5 L t (t * 5 + j) = L (t * 5 + j) := fun j hj => bg_ur_out t (fun t' h1 h2 => by (try dsimp only); omega)
  unfold bg_ly
  rw [bg_u1_hi t (Nat.le_refl t)]
  exact ⟨fun h => ⟨h.1, fun j hj => (o j hj).symm.trans (h.2 j hj)⟩, fun h => ⟨h.1, fun j hj => (o j hj).trans (h.2 j hj)⟩⟩
theorem bg_sx_t {SC SR f : Nat → Int32} {D : Nat → Bool} {rc : Nat → Nat → Int32} {t : Nat} (ht : t < 12) (hs : ∀ t', t' < 12 → (SC t').toNatClampNeg < 40) : bg_sx (bg_u1 D f SC t) (bg_ur D rc (fun t => t * 240 + (SC t).toNatClampNeg * 6) 6 SR t) rc t ↔ bg_sx SC SR rc t := by
  have o : ∀ r j, r < (SC t).toNatClampNeg → j < 6 → bg_ur D rc (fun t => t * 240 + (SC t).toNatClampNeg * 6) 6 SR t (t * 240 + r * 6 + j) = SR (t * 240 + r * 6 + j) := fun r j hr hj => bg_ur_out t (fun t' h1 h2 => by
    have a := hs t' (by omega)
    try dsimp only
    generalize (SC t').toNatClampNeg = s' at a ⊢
    omega)
  unfold bg_sx
  rw [bg_u1_hi t (Nat.le_refl t)]
  constructor
  · rintro ⟨r, hr, h⟩
    exact ⟨r, hr, fun j hj => (o r j hr hj).symm.trans (h j hj)⟩
  · rintro ⟨r, hr, h⟩
    exact ⟨r, hr, fun j hj => (o r j hr hj).trans (h j hj)⟩
theorem bg_sy_t {SC S f : Nat → Int32} {D : Nat → Bool} {rc : Nat → Nat → Int32} {t : Nat} (ht : t < 12) (hs : ∀ t', t' < 12 → (SC t').toNatClampNeg < 40) : bg_sy (bg_u1 D f SC t) (bg_ur D (fun t j => rc t (j + 1)) (fun t => (t * 40 + (SC t).toNatClampNeg) * 5) 5 S t) rc t ↔ bg_sy SC S rc t := by
  have o : ∀ r j, r < (SC t).toNatClampNeg → j < 5 → bg_ur D (fun t j => rc t (j + 1)) (fun t => (t * 40 + (SC t).toNatClampNeg) * 5) 5 S t ((t * 40 + r) * 5 + j) = S ((t * 40 + r) * 5 + j) := fun r j hr hj => bg_ur_out t (fun t' h1 h2 => by
    have a := hs t' (by omega)
    try dsimp only
    generalize (SC t').toNatClampNeg = s' at a ⊢
    omega)
  unfold bg_sy
  rw [bg_u1_hi t (Nat.le_refl t)]
  constructor
  · rintro ⟨r, hr, h⟩
    exact ⟨r, hr, fun j hj => (o r j hr hj).symm.trans (h j hj)⟩
  · rintro ⟨r, hr, h⟩
    exact ⟨r, hr, fun j hj => (o r j hr hj).trans (h j hj)⟩
theorem bg_SS_s {n b : Nat} {K SC SR S : Nat → Int32} (h : bg_SS n b K SC SR S) (hb : b ≤ 40) : ∀ t, t < 12 → ∃ s, s ≤ b ∧ SC t = nI s ∧ (SC t).toNatClampNeg = s := by
  intro t ht
  obtain ⟨s, h1, h2, _⟩ := h t ht
  exact ⟨s, h1, h2, by rw [h2, nI_clamp (by omega)]⟩
end
section
section BGX
variable {T B E : Int32} {C K Q N P HL LR SC SR ST OU NR NW D : Nat → Int32}
/-! the component: what is asked of a number -/
theorem bx_S0 {post : Int32 → Prop} {v : Int32} (h : v < 0 ∨ 8 ≤ v) (hp : post 0) : wpX_isSource post (T, B, E, C, K, Q, N, P, HL, LR, SC, SR, ST, OU, NR, NW, D) v := by
  by_cases h0 : v < 0
  · exact br_t h0 hp
  · exact br_f h0 (br_t (h.resolve_left h0) hp)
theorem bx_S1 {post : Int32 → Prop} {v : Int32} (h0 : ¬ v < 0) (h1 : ¬ 8 ≤ v) (hp : post 1) : wpX_isSource post (T, B, E, C, K, Q, N, P, HL, LR, SC, SR, ST, OU, NR, NW, D) v := br_f h0 (br_f h1 hp)
theorem bx_T0 {post : Int32 → Prop} {v : Int32} (h : v < 0 ∨ T ≤ v) (hp : post 0) : wpX_isTask post (T, B, E, C, K, Q, N, P, HL, LR, SC, SR, ST, OU, NR, NW, D) v := by
  by_cases h0 : v < 0
  · exact br_t h0 hp
  · exact br_f h0 (br_t (h.resolve_left h0) hp)
theorem bx_T1 {post : Int32 → Prop} {v : Int32} (h0 : ¬ v < 0) (h1 : ¬ T ≤ v) (hp : post 1) : wpX_isTask post (T, B, E, C, K, Q, N, P, HL, LR, SC, SR, ST, OU, NR, NW, D) v := br_f h0 (br_f h1 hp)
/-! records worked out -/
theorem bx_iv {post : Int32 → Prop} {t i : Nat} (ht : t < 12) (hi : i < 3) (hP : bg_PP P) (hp : post (bg_iv C P NW t i)) : wpX_inputValue post (T, B, E, C, K, Q, N, P, HL, LR, SC, SR, ST, OU, NR, NW, D) (nI t) (nI i) := by
  obtain ⟨j, hj, e⟩ := hP t i ht hi
  have e1 : nI t * 3 + nI i = nI (t * 3 + i) := bg_a (bg_m3 t) rfl
  unfold bg_iv at hp
  rw [e] at hp
  refine ⟨pk_in (t * 3 + i) 36 (by omega) e1, nm_r (e' := nI j) (by rw [e1, nI_clamp (by omega), e]) ?_⟩
  by_cases h8 : nI j < 8
  · rw [if_pos h8] at hp
    have h8' : j < 8 := (nI_ltI (b := 8) (by omega) (by omega)).mp h8
    exact br_f (Int32.not_le.mpr h8) ⟨vp_in_nI h8' (by omega), hp⟩
  · rw [if_neg h8] at hp
    have h8' : ¬ j < 8 := fun z => h8 ((nI_ltI (b := 8) (by omega) (by omega)).mpr z)
    exact br_t (Int32.not_lt.mp h8) ⟨pk_in (j - 8) 12 (by omega) (bg_s8 (by omega)), hp⟩
theorem bx_wr {post : SX → Prop} {t : Nat} (ht : t < 12) (hP : bg_PP P) (hN : bg_NN N) (hp : post (T, B, E, C, K, Q, N, P, HL, LR, SC, SR, ST, OU, (bg_cp (bg_rc C K Q N P NW t) (t * 6) NR 6), NW, D)) : wpX_writeRecord post (T, B, E, C, K, Q, N, P, HL, LR, SC, SR, ST, OU, NR, NW, D) (nI t) := by
  have ct : (nI t).toNatClampNeg = t := nI_clamp (by omega)
  have it : vp_in (nI t) 12 := vp_in_nI ht (by omega)
  have e0 : nI (t * 6) + 0 = nI (t * 6 + 0) := bg_p0 _
  have e1 : nI (t * 6) + 1 = nI (t * 6 + 1) := nI_1 _
  have e2 : nI (t * 6) + 2 = nI (t * 6 + 2) := bg_p2 _
  refine nm_r (bg_m6 t) ⟨it, pk_in (t * 6 + 0) 72 (by omega) e0, nm_r (e' := upd NR (t * 6 + 0) (K t)) (by rw [e0, nI_clamp (by omega), ct]) ⟨it, pk_in (t * 6 + 1) 72 (by omega) e1, nm_r (e' := upd (upd NR (t * 6 + 0) (K t)) (t * 6 + 1) (Q t)) (by rw [e1, nI_clamp (by omega), ct]) ⟨it, pk_in (t * 6 + 2) 72 (by omega) e2, nm_r (e' := bg_cp (bg_rc C K Q N P NW t) (t * 6) NR 3) (by rw [e2, nI_clamp (by omega), ct]; rfl) ?_⟩⟩⟩
  refine bg_lq (fun n i => wX_writeRecord_49 post (nI t) (nI (t * 6)) T B E n (nI i) C K Q N P HL LR SC SR ST OU (bg_cp (bg_rc C K Q N P NW t) (t * 6) NR (i + 3)) NW D) 3 (fun n => br_t (Int32.le_refl 3) hp) (fun n i hi ih => ?_)
  have c3 : ¬ (3 : Int32) ≤ nI i := nI_ge (b := 3) hi (by decide)
  have e3 : nI (t * 6) + 3 + nI i = nI (t * 6 + (i + 3)) := (bg_a (bg_p3 _) rfl).trans (congrArg nI (by omega))
  have fin : ∀ z : Int32, z = bg_vl C N P NW t i → upd (bg_cp (bg_rc C K Q N P NW t) (t * 6) NR (i + 3)) (nI (t * 6) + 3 + nI i).toNatClampNeg z = bg_cp (bg_rc C K Q N P NW t) (t * 6) NR (i + 1 + 3) := by
    intro z hz
    rw [e3, nI_clamp (by omega), hz]
    rfl
  refine br_f c3 ⟨it, ?_⟩
  rw [ct]
  by_cases hc : nI i < N t
  · exact br_f (Int32.not_le.mpr hc) (bx_iv ht hi hP ⟨pk_in _ 72 (by omega) e3, nm_r (fin _ (if_pos hc).symm) (nm_r (nI_1 i) ih)⟩)
  · exact br_t (Int32.not_lt.mp hc) ⟨pk_in _ 72 (by omega) e3, nm_r (fin _ (if_neg hc).symm) (nm_r (nI_1 i) ih)⟩
theorem bx_or {post : Int32 → Prop} {t c : Nat} (ht : t < 12) (hc : c ≤ 3) (hR : NR (t * 6 + 2) = nI c) (hp : post (bg_fo (NR (t * 6 + 0)) (NR (t * 6 + 1)) (fun i => NR (t * 6 + (i + 3))) c)) : wpX_outputOfRecord post (T, B, E, C, K, Q, N, P, HL, LR, SC, SR, ST, OU, NR, NW, D) (nI (t * 6)) := by
  have e0 : nI (t * 6) + 0 = nI (t * 6 + 0) := bg_p0 _
  have e1 : nI (t * 6) + 1 = nI (t * 6 + 1) := nI_1 _
  have e2 : nI (t * 6) + 2 = nI (t * 6 + 2) := bg_p2 _
  refine ⟨pk_in (t * 6 + 0) 72 (by omega) e0, nm_r (e' := NR (t * 6 + 0)) (by rw [e0, nI_clamp (by omega)]) ⟨pk_in (t * 6 + 2) 72 (by omega) e2, nm_r (e' := nI c) (by rw [e2, nI_clamp (by omega), hR]) ?_⟩⟩
  have lp : ∀ x, x = bg_fs (NR (t * 6 + 0)) (NR (t * 6 + 1)) (fun i => NR (t * 6 + (i + 3))) 0 → ∃ n, wX_outputOfRecord_40 post (nI (t * 6)) (NR (t * 6 + 0)) (nI c) T B E C K Q N P HL LR SC SR ST OU NR NW D n x 0 := by
    intro x hx
    rw [hx]
    refine bg_lq (fun n i => wX_outputOfRecord_40 post (nI (t * 6)) (NR (t * 6 + 0)) (nI c) T B E C K Q N P HL LR SC SR ST OU NR NW D n (bg_fs (NR (t * 6 + 0)) (NR (t * 6 + 1)) (fun i => NR (t * 6 + (i + 3))) i) (nI i)) c (fun n => br_t (Int32.le_refl _) ?_) (fun n i hi ih => ?_)
    · unfold bg_fo at hp
      by_cases h3 : NR (t * 6 + 0) = 3
      · rw [if_pos h3] at hp; exact br_t h3 hp
      · rw [if_neg h3] at hp; exact br_f h3 hp
    · try dsimp only at ih
      have cc : ¬ nI c ≤ nI i := nI_ge hi (by omega)
      have e3 : nI (t * 6) + 3 + nI i = nI (t * 6 + (i + 3)) := (bg_a (bg_p3 _) rfl).trans (congrArg nI (by omega))
      refine br_f cc ⟨pk_in _ 72 (by omega) e3, nm_r (e' := NR (t * 6 + (i + 3))) (by rw [e3, nI_clamp (by omega)]) ?_⟩
      by_cases k1 : NR (t * 6 + 0) = 1
      · rw [bg_fs_1 k1] at ih
        exact br_t k1 (nm_e (nm_r (nI_1 i) ih))
      · by_cases k2 : NR (t * 6 + 0) = 2
        · rw [bg_fs_2 k2] at ih
          by_cases k3 : bg_fs (NR (t * 6 + 0)) (NR (t * 6 + 1)) (fun i => NR (t * 6 + (i + 3))) i < NR (t * 6 + (i + 3))
          · rw [if_pos k3] at ih
            exact br_f k1 (br_t k2 (br_f (Int32.not_le.mpr k3) (nm_r (nI_1 i) ih)))
          · rw [if_neg k3] at ih
            exact br_f k1 (br_t k2 (br_t (Int32.not_lt.mp k3) (nm_r (nI_1 i) ih)))
        · rw [bg_fs_p k1 k2] at ih
          exact br_f k1 (br_f k2 (nm_e (nm_r (nI_1 i) ih)))
  by_cases h3 : NR (t * 6 + 0) = 3
  · exact br_t h3 (lp _ (if_pos h3).symm)
  · exact br_f h3 ⟨pk_in (t * 6 + 1) 72 (by omega) e1, nm_r (e' := NR (t * 6 + 1)) (by rw [e1, nI_clamp (by omega)]) (lp _ (if_neg h3).symm)⟩
theorem bx_wo {post : SX → Prop} {m : Nat} (hm : m ≤ 12) (hT : T = nI m) (hP : bg_PP P) (hN : bg_NN N) (hp : post (T, B, E, C, K, Q, N, P, HL, LR, SC, SR, ST, OU, (bg_nr C K Q N P NW NR m), (bg_wo C K Q N P NW m), D)) : wpX_workOutTasks post (T, B, E, C, K, Q, N, P, HL, LR, SC, SR, ST, OU, NR, NW, D) := by
  subst hT
  refine bg_lq (fun n i => wX_workOutTasks_2 post n (nI i) (nI m) B E C K Q N P HL LR SC SR ST OU (bg_nr C K Q N P NW NR i) (bg_wo C K Q N P NW i) D) m (fun n => br_t (Int32.le_refl _) hp) (fun n t ht ih => ?_)
  have ct : (nI t).toNatClampNeg = t := nI_clamp (by omega)
  refine br_f (nI_ge ht (by omega)) (bx_wr (by omega) hP hN ?_)
  obtain ⟨c, hc, e⟩ := hN t
  have rd : ∀ j, j < 6 → bg_cp (bg_rc C K Q N P (bg_wo C K Q N P NW t) t) (t * 6) (bg_nr C K Q N P NW NR t) 6 (t * 6 + j) = bg_rc C K Q N P (bg_wo C K Q N P NW t) t j := fun j hj => bg_cp_in _ _ _ 6 j hj
  show wpX_outputOfRecord _ _ (nI t * 6)
  rw [bg_m6 t]
  refine bx_or (c := c) (by omega) hc ((rd 2 (by omega)).trans e) ?_
  refine ⟨vp_in_nI (by omega) (by omega), nm_r (e' := bg_wo C K Q N P NW (t + 1)) ?_ (nm_r (nI_1 t) ih)⟩
  rw [ct]
  show upd _ _ _ = upd _ _ (bg_ou C K Q N P (bg_wo C K Q N P NW t) t)
  unfold bg_ou bg_fo
  rw [e, nI_clamp (by omega), rd 0 (by omega), rd 1 (by omega), bg_fs_x (w := bg_vl C N P (bg_wo C K Q N P NW t) t) c (fun i hi => rd (i + 3) (by omega))]
  rfl
theorem bx_mi {post : SX → Prop} {t : Nat} {A : Nat → Bool} (ht : t < 12) (hP : bg_PP P) (hN : bg_NN N) (hD : ∀ j, j < 12 → D j = bg_bi (A j)) (hp : ∀ D' : Nat → Int32, (∀ j, j < 12 → D' j = bg_bi (bg_pi P t A (N t).toNatClampNeg j)) → post (T, B, E, C, K, Q, N, P, HL, LR, SC, SR, ST, OU, NR, NW, D')) : wpX_markInputs post (T, B, E, C, K, Q, N, P, HL, LR, SC, SR, ST, OU, NR, NW, D) (nI t) := by
  obtain ⟨c, hc, e⟩ := hN t
  have ct : (nI t).toNatClampNeg = t := nI_clamp (by omega)
  have it : vp_in (nI t) 12 := vp_in_nI ht (by omega)
  rw [e, nI_clamp (by omega)] at hp
  obtain ⟨n, hn⟩ := bg_lq (fun n i => ∀ D' : Nat → Int32, (∀ j, j < 12 → D' j = bg_bi (bg_pi P t A i j)) → wX_markInputs_2 post (nI t) T B E n (nI i) C K Q N P HL LR SC SR ST OU NR NW D') c (fun n D' hD' => ⟨it, by
    rw [ct, e]
    exact br_t (Int32.le_refl _) (hp D' hD')⟩) (fun n i hi ih D' hD' => ⟨it, by
    rw [ct, e]
    refine br_f (nI_ge hi (by omega)) ?_
    obtain ⟨x, hx, ex⟩ := hP t i ht (by omega)
    have e1 : nI t * 3 + nI i = nI (t * 3 + i) := bg_a (bg_m3 t) rfl
    have pj : ∀ j, bg_pi P t A (i + 1) j = (bg_pi P t A i j || decide (x = j + 8)) := by
      intro j
      show (bg_pi P t A i j || decide ((P (t * 3 + i)).toNatClampNeg = j + 8)) = _
      rw [ex, nI_clamp (by omega)]
    refine ⟨pk_in (t * 3 + i) 36 (by omega) e1, nm_r (e' := nI x) (by rw [e1, nI_clamp (by omega), ex]) ?_⟩
    by_cases h8 : x < 8
    · refine br_t (nI_lt (b := 8) h8 (by decide)) (nm_r (nI_1 i) (ih D' (fun j hj => ?_)))
      rw [pj j, decide_eq_false (by omega), Bool.or_false]
      exact hD' j hj
    · refine br_f (nI_nlt (b := 8) (by omega) (by omega)) ⟨pk_in (x - 8) 12 (by omega) (bg_s8 (by omega)), nm_r (e' := upd D' (x - 8) 1) (by rw [bg_s8 (by omega), nI_clamp (by omega), bg_vb1]) (nm_r (nI_1 i) (ih _ (fun j hj => ?_)))⟩
      rw [pj j]
      by_cases ej : j = x - 8
      · rw [ej, pk_us, decide_eq_true (by omega), Bool.or_true]; rfl
      · rw [pk_un ej, decide_eq_false (by omega), Bool.or_false]
        exact hD' j hj⟩)
  exact ⟨n, hn D hD⟩
theorem bx_mn {post : SX → Prop} {t : Nat} (ht : t < 12) (hP : bg_PP P) (hN : bg_NN N) (hp : ∀ D' : Nat → Int32, (∀ j, j < 12 → D' j = bg_bi (bg_nd P N t j)) → post (T, B, E, C, K, Q, N, P, HL, LR, SC, SR, ST, OU, NR, NW, D')) : wpX_markNeeded post (T, B, E, C, K, Q, N, P, HL, LR, SC, SR, ST, OU, NR, NW, D) (nI t) := by
  obtain ⟨n, hn⟩ := bg_lq (fun n i => ∀ D' : Nat → Int32, (∀ j, j < i → D' j = bg_bi (decide (j = t))) → wX_markNeeded_2 post (nI t) T B E n (nI i) C K Q N P HL LR SC SR ST OU NR NW D') 12 (fun n D' hD' => br_t (Int32.le_refl 12) (by
    obtain ⟨n2, hn2⟩ := bg_ld (fun n k => ∀ (D2 : Nat → Int32) (A : Nat → Bool), (∀ j, j < 12 → D2 j = bg_bi (A j)) → (∀ D3 : Nat → Int32, (∀ j, j < 12 → D3 j = bg_bi (bg_pd P N k A j)) → post (T, B, E, C, K, Q, N, P, HL, LR, SC, SR, ST, OU, NR, NW, D3)) → wX_markNeeded_32 post n (nI k + (-1)) T B E C K Q N P HL LR SC SR ST OU NR NW D2) (t + 1) (fun n D2 A h2 h3 => br_t (by decide) (h3 D2 h2)) (fun n k hk ih D2 A h2 h3 => by
      rw [pk_m1]
      refine br_f (nI_pos (by omega)) ⟨vp_in_nI (by omega) (by omega), ?_⟩
      rw [nI_clamp (by omega), h2 k (by omega)]
      by_cases ha : A k = true
      · rw [bg_bi_t ha]
        refine br_f bg_10 (bx_mi (A := A) (by omega) hP hN h2 (fun D3 h4 => nm_e (ih D3 _ h4 (fun D4 h5 => h3 D4 (fun j hj => ?_)))))
        rw [h5 j hj]
        show _ = bg_bi (bg_pd P N k (bg_pb P N k A) j)
        unfold bg_pb
        rw [if_pos ha]
      · rw [bg_bi_f ha]
        refine br_t rfl (nm_e (ih D2 A h2 (fun D4 h5 => h3 D4 (fun j hj => ?_))))
        rw [h5 j hj]
        show _ = bg_bi (bg_pd P N k (bg_pb P N k A) j)
        unfold bg_pb
        rw [if_neg ha])
    have q := hn2 D' (fun j => decide (j = t)) hD' hp
    rw [pk_m1] at q
    exact ⟨n2, q⟩)) (fun n i hi ih D' hD' => by
    refine br_f (nI_ge (b := 12) hi (by decide)) ?_
    have ci : (nI i).toNatClampNeg = i := nI_clamp (by omega)
    by_cases et : i = t
    · refine br_t (congrArg nI et) ⟨vp_in_nI hi (by omega), nm_r (e' := upd D' i 1) (by rw [ci, bg_vb1]) (nm_r (nI_1 i) (ih _ (fun j hj => ?_)))⟩
      by_cases ej : j = i
      · rw [ej, pk_us, decide_eq_true et]; rfl
      · rw [pk_un ej]; exact hD' j (by omega)
    · refine br_f (fun z => et ((nI_eq (by omega) (by omega)).mp z)) ⟨vp_in_nI hi (by omega), nm_r (e' := upd D' i 0) (by rw [ci, bg_vb0]) (nm_r (nI_1 i) (ih _ (fun j hj => ?_)))⟩
      by_cases ej : j = i
      · rw [ej, pk_us, decide_eq_false et]; rfl
      · rw [pk_un ej]; exact hD' j (by omega))
  exact ⟨n, hn D (fun j hj => by omega)⟩
/-! records compared and copied -/
theorem bx_inL {post : Int32 → Prop} {t s : Nat} (ht : t < 12) (hs : s + 6 ≤ 72) (h1 : (∀ j, j < 6 → LR (s + j) = NR (t * 6 + j)) → post 1) (h0 : ¬ (∀ j, j < 6 → LR (s + j) = NR (t * 6 + j)) → post 0) : wpX_isNowRecord__lastRecords post (T, B, E, C, K, Q, N, P, HL, LR, SC, SR, ST, OU, NR, NW, D) (nI t) (nI s) := by
  refine bg_lp0 (fun n i => wX_isNowRecord__lastRecords_3 post (nI t) (nI s) T B E C K Q N P HL LR SC SR ST OU NR NW D n (nI i)) (fun i => ∀ j, j < i → LR (s + j) = NR (t * 6 + j)) 6 0 (by omega) (fun j hj => by omega) (fun n h => br_t (Int32.le_refl 6) (h1 h)) (fun n i hi h ih => ?_)
  have e1 : nI s + nI i = nI (s + i) := nI_add s i
  have e2 : nI t * 6 + nI i = nI (t * 6 + i) := bg_a (bg_m6 t) rfl
  refine br_f (nI_ge (b := 6) hi (by decide)) ⟨pk_in (s + i) 72 (by omega) e1, pk_in (t * 6 + i) 72 (by omega) e2, ?_⟩
  rw [e1, e2, nI_clamp (by omega), nI_clamp (by omega)]
  by_cases q : LR (s + i) = NR (t * 6 + i)
  · refine br_t q (nm_r (nI_1 i) (ih (fun j hj => ?_)))
    by_cases ej : j = i
    · rw [ej]; exact q
    · exact h j (by omega)
  · exact br_f q (h0 (fun z => q (z i hi)))
theorem bx_inS {post : Int32 → Prop} {t s : Nat} (ht : t < 12) (hs : s + 6 ≤ 2880) (h1 : (∀ j, j < 6 → SR (s + j) = NR (t * 6 + j)) → post 1) (h0 : ¬ (∀ j, j < 6 → SR (s + j) = NR (t * 6 + j)) → post 0) : wpX_isNowRecord__storeRecords post (T, B, E, C, K, Q, N, P, HL, LR, SC, SR, ST, OU, NR, NW, D) (nI t) (nI s) := by
  refine bg_lp0 (fun n i => wX_isNowRecord__storeRecords_3 post (nI t) (nI s) T B E C K Q N P HL LR SC SR ST OU NR NW D n (nI i)) (fun i => ∀ j, j < i → SR (s + j) = NR (t * 6 + j)) 6 0 (by omega) (fun j hj => by omega) (fun n h => br_t (Int32.le_refl 6) (h1 h)) (fun n i hi h ih => ?_)
  have e1 : nI s + nI i = nI (s + i) := nI_add s i
  have e2 : nI t * 6 + nI i = nI (t * 6 + i) := bg_a (bg_m6 t) rfl
  refine br_f (nI_ge (b := 6) hi (by decide)) ⟨pk_in (s + i) 2880 (by omega) e1, pk_in (t * 6 + i) 72 (by omega) e2, ?_⟩
  rw [e1, e2, nI_clamp (by omega), nI_clamp (by omega)]
  by_cases q : SR (s + i) = NR (t * 6 + i)
  · refine br_t q (nm_r (nI_1 i) (ih (fun j hj => ?_)))
    by_cases ej : j = i
    · rw [ej]; exact q
    · exact h j (by omega)
  · exact br_f q (h0 (fun z => q (z i hi)))
theorem bx_iL {post : Int32 → Prop} {t : Nat} {rc : Nat → Nat → Int32} (ht : t < 12) (hR : ∀ j, j < 6 → NR (t * 6 + j) = rc t j) (h1 : bg_lx HL LR rc t → post 1) (h0 : ¬ bg_lx HL LR rc t → post 0) : wpX_isLastRecord post (T, B, E, C, K, Q, N, P, HL, LR, SC, SR, ST, OU, NR, NW, D) (nI t) := by
  have ct : (nI t).toNatClampNeg = t := nI_clamp (by omega)
  have it : vp_in (nI t) 12 := vp_in_nI ht (by omega)
  have sw : (∀ j, j < 6 → LR (t * 6 + j) = NR (t * 6 + j)) ↔ ∀ j, j < 6 → LR (t * 6 + j) = rc t j := ⟨fun h j hj => (h j hj).trans (hR j hj), fun h j hj => (h j hj).trans (hR j hj).symm⟩
  refine nm_r (bg_m6 t) ⟨it, ?_⟩
  rw [ct]
  by_cases h : HL t = 0
  · exact br_t h (h0 (fun z => z.1 h))
  · refine br_f h (bx_inL ht (by omega) (fun z => ?_) (fun z => ?_))
    · exact br_f bg_10 (h1 ⟨h, sw.mp z⟩)
    · exact br_t rfl (h0 (fun w => z (sw.mpr w.2)))
theorem bx_iS {post : Int32 → Prop} {t s : Nat} {rc : Nat → Nat → Int32} (ht : t < 12) (hs : s ≤ 40) (hS : SC t = nI s) (hR : ∀ j, j < 6 → NR (t * 6 + j) = rc t j) (h1 : bg_sx SC SR rc t → post 1) (h0 : ¬ bg_sx SC SR rc t → post 0) : wpX_isInStore post (T, B, E, C, K, Q, N, P, HL, LR, SC, SR, ST, OU, NR, NW, D) (nI t) := by
  have ct : (nI t).toNatClampNeg = t := nI_clamp (by omega)
  have it : vp_in (nI t) 12 := vp_in_nI ht (by omega)
  have hc : (SC t).toNatClampNeg = s := by rw [hS, nI_clamp (by omega)]
  refine bg_lp0 (fun n i => wX_isInStore_2 post (nI t) T B E C K Q N P HL LR SC SR ST OU NR NW D n (nI i)) (fun i => ∀ r, r < i → ¬ ∀ j, j < 6 → SR (t * 240 + r * 6 + j) = rc t j) s 0 (by omega) (fun r hr => by omega) (fun n h => ⟨it, ?_⟩) (fun n i hi h ih => ⟨it, ?_⟩)
  · rw [ct, hS]
    refine br_t (Int32.le_refl _) (h0 (fun ⟨r, hr, hj⟩ => ?_))
    rw [hc] at hr
    exact h r hr hj
  · rw [ct, hS]
    refine br_f (nI_ge hi (by omega)) (nm_r (e' := nI (t * 240 + i * 6)) (bg_a (bg_m240 t) (bg_m6 i)) ?_)
    have sw : (∀ j, j < 6 → SR (t * 240 + i * 6 + j) = NR (t * 6 + j)) ↔ ∀ j, j < 6 → SR (t * 240 + i * 6 + j) = rc t j := ⟨fun h j hj => (h j hj).trans (hR j hj), fun h j hj => (h j hj).trans (hR j hj).symm⟩
    refine bx_inS ht (by omega) (fun z => ?_) (fun z => ?_)
    · exact br_f bg_10 (h1 ⟨i, by rw [hc]; exact hi, sw.mp z⟩)
    · refine br_t rfl (nm_r (nI_1 i) (ih (fun r hr => ?_)))
      by_cases er : r = i
      · rw [er]; exact fun w => z (sw.mpr w)
      · exact h r (by omega)
theorem bx_sn {post : Int32 → Prop} {t s : Nat} {rc : Nat → Nat → Int32} {l o : Bool} (ht : t < 12) (hs : s ≤ 40) (hS : SC t = nI s) (hR : ∀ j, j < 6 → NR (t * 6 + j) = rc t j) (hl : l = true ↔ bg_lx HL LR rc t) (ho : o = true ↔ bg_sx SC SR rc t) (hp : post (bg_sv l o)) : wpX_statusNow post (T, B, E, C, K, Q, N, P, HL, LR, SC, SR, ST, OU, NR, NW, D) (nI t) := by
  unfold wpX_statusNow
  refine bx_iL ht hR (fun z => ?_) (fun z => ?_)
  · rw [hl.mpr z] at hp
    exact br_f bg_10 hp
  · have l0 : l = false := by
      cases l with
      | false => rfl
      | true => exact absurd (hl.mp rfl) z
    rw [l0] at hp
    refine br_t rfl (bx_iS ht hs hS hR (fun y => ?_) (fun y => ?_))
    · rw [ho.mpr y] at hp
      exact br_f bg_10 hp
    · have o0 : o = false := by
        cases o with
        | false => rfl
        | true => exact absurd (ho.mp rfl) y
      rw [o0] at hp
      exact br_t rfl hp
theorem bx_cL {post : SX → Prop} {t s : Nat} (ht : t < 12) (hs : s + 6 ≤ 72) (hp : post (T, B, E, C, K, Q, N, P, HL, (bg_cp (fun j => NR (t * 6 + j)) s LR 6), SC, SR, ST, OU, NR, NW, D)) : wpX_copyNowRecord__lastRecords post (T, B, E, C, K, Q, N, P, HL, LR, SC, SR, ST, OU, NR, NW, D) (nI t) (nI s) := by
  refine bg_lq (fun n i => wX_copyNowRecord__lastRecords_3 post (nI t) (nI s) T B E n (nI i) C K Q N P HL (bg_cp (fun j => NR (t * 6 + j)) s LR i) SC SR ST OU NR NW D) 6 (fun n => br_t (Int32.le_refl 6) hp) (fun n i hi ih => ?_)
  have e1 : nI s + nI i = nI (s + i) := nI_add s i
  have e2 : nI t * 6 + nI i = nI (t * 6 + i) := bg_a (bg_m6 t) rfl
  refine br_f (nI_ge (b := 6) hi (by decide)) ⟨pk_in (t * 6 + i) 72 (by omega) e2, pk_in (s + i) 72 (by omega) e1, nm_r (e' := bg_cp (fun j => NR (t * 6 + j)) s LR (i + 1)) ?_ (nm_r (nI_1 i) ih)⟩
  rw [e1, e2, nI_clamp (by omega), nI_clamp (by omega)]
  rfl
theorem bx_cS {post : SX → Prop} {t s : Nat} (ht : t < 12) (hs : s + 6 ≤ 2880) (hp : post (T, B, E, C, K, Q, N, P, HL, LR, SC, (bg_cp (fun j => NR (t * 6 + j)) s SR 6), ST, OU, NR, NW, D)) : wpX_copyNowRecord__storeRecords post (T, B, E, C, K, Q, N, P, HL, LR, SC, SR, ST, OU, NR, NW, D) (nI t) (nI s) := by
  refine bg_lq (fun n i => wX_copyNowRecord__storeRecords_3 post (nI t) (nI s) T B E n (nI i) C K Q N P HL LR SC (bg_cp (fun j => NR (t * 6 + j)) s SR i) ST OU NR NW D) 6 (fun n => br_t (Int32.le_refl 6) hp) (fun n i hi ih => ?_)
  have e1 : nI s + nI i = nI (s + i) := nI_add s i
  have e2 : nI t * 6 + nI i = nI (t * 6 + i) := bg_a (bg_m6 t) rfl
  refine br_f (nI_ge (b := 6) hi (by decide)) ⟨pk_in (t * 6 + i) 72 (by omega) e2, pk_in (s + i) 2880 (by omega) e1, nm_r (e' := bg_cp (fun j => NR (t * 6 + j)) s SR (i + 1)) ?_ (nm_r (nI_1 i) ih)⟩
  rw [e1, e2, nI_clamp (by omega), nI_clamp (by omega)]
  rfl
theorem bx_ad {post : SX → Prop} {t s : Nat} (ht : t < 12) (hs : s < 40) (hS : SC t = nI s) (hp : post (T, B, E, C, K, Q, N, P, HL, LR, (upd SC t (SC t + 1)), (bg_cp (fun j => NR (t * 6 + j)) (t * 240 + (SC t).toNatClampNeg * 6) SR 6), ST, OU, NR, NW, D)) : wpX_addToStore post (T, B, E, C, K, Q, N, P, HL, LR, SC, SR, ST, OU, NR, NW, D) (nI t) := by
  have ct : (nI t).toNatClampNeg = t := nI_clamp (by omega)
  have it : vp_in (nI t) 12 := vp_in_nI ht (by omega)
  have hc : (SC t).toNatClampNeg = s := by rw [hS, nI_clamp (by omega)]
  have e1 : nI t * 240 + nI s * 6 = nI (t * 240 + s * 6) := bg_a (bg_m240 t) (bg_m6 s)
  rw [hc] at hp
  refine ⟨it, nm_r (e' := nI s) (by rw [ct, hS]) ?_⟩
  refine br_f (nI_ge (b := 40) hs (by decide)) ?_
  rw [e1]
  refine bx_cS ht (by omega) ?_
  refine ⟨it, nm_r (e' := upd SC t (SC t + 1)) (by rw [ct, hS]) hp⟩
theorem bx_ht {post : SX → Prop} {t : Nat} {rc : Nat → Nat → Int32} (ht : t < 12) (hR : ∀ j, j < 6 → NR (t * 6 + j) = rc t j) (hp : post (T, B, E, C, K, Q, N, P, (upd HL t 1), (bg_cp (rc t) (t * 6) LR 6), SC, SR, ST, (upd OU t (NW t)), NR, NW, D)) : wX_handle_26 post (nI t) T B E C K Q N P HL LR SC SR ST OU NR NW D := by
  have ct : (nI t).toNatClampNeg = t := nI_clamp (by omega)
  have it : vp_in (nI t) 12 := vp_in_nI ht (by omega)
  have hf : bg_cp (fun j => NR (t * 6 + j)) (t * 6) LR 6 = bg_cp (rc t) (t * 6) LR 6 := bg_cp_x 6 hR
  unfold wX_handle_26
  rw [bg_m6]
  refine bx_cL ht (by omega) ?_
  rw [hf]
  exact ⟨it, nm_r (e' := upd HL t 1) (by rw [ct, bg_vb1]) ⟨it, it, nm_r (e' := upd OU t (NW t)) (by rw [ct]) hp⟩⟩
theorem bx_h1 {post : SX → Prop} {t s : Nat} {rc : Nat → Nat → Int32} {l o : Bool} (ht : t < 12) (hs : s < 40) (hS : SC t = nI s) (hR : ∀ j, j < 6 → NR (t * 6 + j) = rc t j) (hl : l = true ↔ bg_lx HL LR rc t) (ho : o = true ↔ bg_sx SC SR rc t) (hx : bg_ex l o = true) (hp : post (T, B, E, C, K, Q, N, P, (upd HL t 1), (bg_cp (rc t) (t * 6) LR 6), (upd SC t (SC t + 1)), (bg_cp (rc t) (t * 240 + (SC t).toNatClampNeg * 6) SR 6), (upd ST t (bg_sv l o)), (upd OU t (NW t)), NR, NW, D)) : wpX_handle post (T, B, E, C, K, Q, N, P, HL, LR, SC, SR, ST, OU, NR, NW, D) (nI t) := by
  have ct : (nI t).toNatClampNeg = t := nI_clamp (by omega)
  have it : vp_in (nI t) 12 := vp_in_nI ht (by omega)
  have hg : bg_cp (fun j => NR (t * 6 + j)) (t * 240 + (SC t).toNatClampNeg * 6) SR 6 = bg_cp (rc t) (t * 240 + (SC t).toNatClampNeg * 6) SR 6 := bg_cp_x 6 hR
  unfold wpX_handle
  refine bx_sn ht (by omega) hS hR hl ho ?_
  refine ⟨it, nm_r (e' := upd ST t (bg_sv l o)) (by rw [ct]) ⟨it, ?_⟩⟩
  rw [ct, pk_us]
  refine br_t (bg_sv_3.mpr hx) (bx_ad ht hs hS ?_)
  rw [hg]
  exact bx_ht ht hR hp
theorem bx_h0 {post : SX → Prop} {t s : Nat} {rc : Nat → Nat → Int32} {l o : Bool} (ht : t < 12) (hs : s < 40) (hS : SC t = nI s) (hR : ∀ j, j < 6 → NR (t * 6 + j) = rc t j) (hl : l = true ↔ bg_lx HL LR rc t) (ho : o = true ↔ bg_sx SC SR rc t) (hx : ¬ bg_ex l o = true) (hp : post (T, B, E, C, K, Q, N, P, (upd HL t 1), (bg_cp (rc t) (t * 6) LR 6), SC, SR, (upd ST t (bg_sv l o)), (upd OU t (NW t)), NR, NW, D)) : wpX_handle post (T, B, E, C, K, Q, N, P, HL, LR, SC, SR, ST, OU, NR, NW, D) (nI t) := by
  have ct : (nI t).toNatClampNeg = t := nI_clamp (by omega)
  have it : vp_in (nI t) 12 := vp_in_nI ht (by omega)
  have hg : bg_cp (fun j => NR (t * 6 + j)) (t * 240 + (SC t).toNatClampNeg * 6) SR 6 = bg_cp (rc t) (t * 240 + (SC t).toNatClampNeg * 6) SR 6 := bg_cp_x 6 hR
  unfold wpX_handle
  refine bx_sn ht (by omega) hS hR hl ho ?_
  refine ⟨it, nm_r (e' := upd ST t (bg_sv l o)) (by rw [ct]) ⟨it, ?_⟩⟩
  rw [ct, pk_us]
  refine br_f (fun z => hx (bg_sv_3.mp z)) ?_
  exact bx_ht ht hR hp
/-! a build's loop -/
theorem bx_bl {post : Int32 → SX → Prop} {n : Nat} {dn l o : Nat → Bool} {rc : Nat → Nat → Int32} (hn : n ≤ 12) (hs : ∀ t, t < 12 → ∃ s, s < 40 ∧ SC t = nI s) (hR : ∀ j, j < n → ∀ i, i < 6 → NR (j * 6 + i) = rc j i) (hD : ∀ j, j < 12 → D j = bg_bi (dn j)) (hl : ∀ j, j < n → (l j = true ↔ bg_lx HL LR rc j)) (ho : ∀ j, j < n → (o j = true ↔ bg_sx SC SR rc j)) (hp : post (nI (bg_ct (bg_Ev dn l o) n)) ((nI n), (B + 1), (E + nI (bg_ct (bg_Ev dn l o) n)), C, K, Q, N, P, (bg_u1 dn (fun _ => 1) HL n), (bg_ur dn rc (fun t => t * 6) 6 LR n), (bg_u1 (bg_Ev dn l o) (fun t => SC t + 1) SC n), (bg_ur (bg_Ev dn l o) rc (fun t => t * 240 + (SC t).toNatClampNeg * 6) 6 SR n), (bg_st dn (fun j => bg_sv (l j) (o j)) ST n), (bg_u1 dn NW OU n), NR, NW, D)) : ∃ m, wX_build_35 post m 0 0 (nI n) B E C K Q N P HL LR SC SR ST OU NR NW D := by
  have hs' : ∀ t, t < 12 → (SC t).toNatClampNeg < 40 := fun t ht => by
    obtain ⟨s, h1, h2⟩ := hs t ht
    rw [h2, nI_clamp (by omega)]; exact h1
  refine bg_lq (fun m j => wX_build_35 post m (nI (bg_ct (bg_Ev dn l o) j)) (nI j) (nI n) B E C K Q N P (bg_u1 dn (fun _ => 1) HL j) (bg_ur dn rc (fun t => t * 6) 6 LR j) (bg_u1 (bg_Ev dn l o) (fun t => SC t + 1) SC j) (bg_ur (bg_Ev dn l o) rc (fun t => t * 240 + (SC t).toNatClampNeg * 6) 6 SR j) (bg_st dn (fun j => bg_sv (l j) (o j)) ST j) (bg_u1 dn NW OU j) NR NW D) n (fun m => br_t (Int32.le_refl _) (nm_e (nm_e hp))) (fun m j hj ih => ?_)
  have cj : (nI j).toNatClampNeg = j := nI_clamp (by omega)
  have ij : vp_in (nI j) 12 := vp_in_nI (by omega) (by omega)
  try dsimp only at ih
  refine br_f (nI_ge hj (by omega)) ⟨ij, nm_r (e' := upd (bg_st dn (fun j => bg_sv (l j) (o j)) ST j) j 0) (by rw [cj]) ⟨ij, ?_⟩⟩
  rw [cj, hD j (by omega)]
  by_cases hd : dn j = true
  · rw [bg_bi_t hd]
    rw [bg_st_t hd, bg_u1_t (f := fun _ => 1) hd, bg_u1_t (f := NW) hd, bg_ur_t (m := 6) (d := fun t => t * 6) hd] at ih
    obtain ⟨s, h1, h2⟩ := hs j (by omega)
    have hsc : bg_u1 (bg_Ev dn l o) (fun t => SC t + 1) SC j j = SC j := bg_u1_hi j (Nat.le_refl j)
    have hl' := (hl j hj).trans (bg_lx_t (D := dn) (f := fun _ => 1)).symm
    have ho' := (ho j hj).trans (bg_sx_t (D := bg_Ev dn l o) (f := fun t => SC t + 1) (by omega) hs').symm
    by_cases hx : bg_ex (l j) (o j) = true
    · have hE : bg_Ev dn l o j = true := (bg_Ev_t hd).trans hx
      rw [bg_u1_t hE, bg_ur_t hE, bg_ct_t hE] at ih
      refine br_f bg_10 (bx_h1 (s := s) (by omega) h1 (hsc.trans h2) (hR j hj) hl' ho' hx ?_)
      rw [hsc]
      refine ⟨ij, ?_⟩
      rw [cj, pk_us]
      exact br_t (bg_sv_3.mpr hx) (nm_r (nI_1 _) (nm_r (nI_1 j) ih))
    · have hE : ¬ bg_Ev dn l o j = true := by rw [bg_Ev_t hd]; exact hx
      rw [bg_u1_f hE, bg_ur_f hE, bg_ct_f hE] at ih
      refine br_f bg_10 (bx_h0 (s := s) (by omega) h1 (hsc.trans h2) (hR j hj) hl' ho' hx ?_)
      refine ⟨ij, ?_⟩
      rw [cj, pk_us]
      exact br_f (fun z => hx (bg_sv_3.mp z)) (nm_r (nI_1 j) ih)
  · have hE := bg_Ev_f (l := l) (o := o) hd
    rw [bg_st_f hd, bg_u1_f (f := fun _ => 1) hd, bg_u1_f (f := NW) hd, bg_ur_f (m := 6) (d := fun t => t * 6) hd, bg_u1_f hE, bg_ur_f hE, bg_ct_f hE] at ih
    rw [bg_bi_f hd]
    refine br_t rfl ⟨ij, ?_⟩
    rw [cj, pk_us]
    exact br_f (by decide) (nm_r (nI_1 j) ih)
end BGX
end
section
section BGY
variable {T B E : Int32} {C K Q N P HL L SC S ST OU NW : Nat → Int32}
/-! the reference -/
theorem by_T1 {post : Int32 → Prop} {v : Int32} (h : v < 0 ∨ T ≤ v) (hp : post 1) : wpY_bad post (T, B, E, C, K, Q, N, P, OU, ST, HL, L, SC, S, NW) v := by
  by_cases h0 : v < 0
  · exact br_t h0 hp
  · exact br_f h0 (br_f (Int32.not_lt.mpr (h.resolve_left h0)) hp)
theorem by_T0 {post : Int32 → Prop} {v : Int32} (h0 : ¬ v < 0) (h1 : ¬ T ≤ v) (hp : post 0) : wpY_bad post (T, B, E, C, K, Q, N, P, OU, ST, HL, L, SC, S, NW) v := br_f h0 (br_t (Int32.not_le.mp h1) hp)
theorem by_vl {post : Int32 → Prop} {t i : Nat} (ht : t < 12) (hi : i < 3) (hP : bg_PP P) (hp : post (bg_vl C N P NW t i)) : wpY_value post (T, B, E, C, K, Q, N, P, OU, ST, HL, L, SC, S, NW) (nI t) (nI i) := by
  obtain ⟨j, hj, e⟩ := hP t i ht hi
  have e1 : nI t * 3 + nI i = nI (t * 3 + i) := bg_a (bg_m3 t) rfl
  have ct : (nI t).toNatClampNeg = t := nI_clamp (by omega)
  unfold bg_vl bg_iv at hp
  rw [e] at hp
  refine ⟨vp_in_nI ht (by omega), ?_⟩
  rw [ct]
  by_cases hc : nI i < N t
  · rw [if_pos hc] at hp
    refine br_t hc ⟨pk_in (t * 3 + i) 36 (by omega) e1, nm_r (e' := nI j) (by rw [e1, nI_clamp (by omega), e]) ?_⟩
    by_cases h8 : nI j < 8
    · rw [if_pos h8] at hp
      have h8' : j < 8 := (nI_ltI (b := 8) (by omega) (by omega)).mp h8
      exact br_f (Int32.not_le.mpr h8) ⟨vp_in_nI h8' (by omega), hp⟩
    · rw [if_neg h8] at hp
      have h8' : ¬ j < 8 := fun z => h8 ((nI_ltI (b := 8) (by omega) (by omega)).mpr z)
      exact br_t (Int32.not_lt.mp h8) ⟨pk_in (j - 8) 12 (by omega) (bg_s8 (by omega)), hp⟩
  · rw [if_neg hc] at hp
    exact br_f hc hp
theorem by_wo {post : SY → Prop} {m : Nat} (hm : m ≤ 12) (hT : T = nI m) (hK : bg_KK K) (hP : bg_PP P) (hN : bg_NN N) (hp : post (T, B, E, C, K, Q, N, P, OU, ST, HL, L, SC, S, (bg_wo C K Q N P NW m))) : wpY_workOut post (T, B, E, C, K, Q, N, P, OU, ST, HL, L, SC, S, NW) := by
  subst hT
  refine bg_lq (fun n t => wY_workOut_2 post (nI m) B E n (nI t) C K Q N P OU ST HL L SC S (bg_wo C K Q N P NW t)) m (fun n => br_t (Int32.le_refl _) hp) (fun n t ht ih => ?_)
  have ct : (nI t).toNatClampNeg = t := nI_clamp (by omega)
  have it : vp_in (nI t) 12 := vp_in_nI (by omega) (by omega)
  obtain ⟨c, hc, e⟩ := hN t
  refine br_f (nI_ge ht (by omega)) ⟨it, ?_⟩
  rw [ct]
  have fin : ∀ z : Int32, z = bg_ou C K Q N P (bg_wo C K Q N P NW t) t → upd (bg_wo C K Q N P NW t) t z = bg_wo C K Q N P NW (t + 1) := fun z hz => by rw [hz]; rfl
  have ou : bg_ou C K Q N P (bg_wo C K Q N P NW t) t = bg_fo (K t) (Q t) (bg_vl C N P (bg_wo C K Q N P NW t) t) c := by
    unfold bg_ou; rw [e, nI_clamp (by omega)]
  have lp : ∀ x, x = bg_fs (K t) (Q t) (bg_vl C N P (bg_wo C K Q N P NW t) t) 0 → ∃ n2, wY_workOut_33 post (wY_workOut_2 post (nI m) B E n) (nI t) (nI m) B E C K Q N P OU ST HL L SC S (bg_wo C K Q N P NW t) n2 x 0 := by
    intro x hx
    rw [hx]
    refine bg_lq (fun n2 i => wY_workOut_33 post (wY_workOut_2 post (nI m) B E n) (nI t) (nI m) B E C K Q N P OU ST HL L SC S (bg_wo C K Q N P NW t) n2 (bg_fs (K t) (Q t) (bg_vl C N P (bg_wo C K Q N P NW t) t) i) (nI i)) c (fun n2 => ⟨it, ?_⟩) (fun n2 i hi ih2 => ⟨it, ?_⟩)
    · rw [ct, e]
      refine br_t (Int32.le_refl _) ⟨it, ?_⟩
      unfold bg_fo at ou
      by_cases h3 : K t = 3
      · rw [if_pos h3] at ou
        exact br_t h3 ⟨it, nm_r (fin _ ou.symm) (nm_r (nI_1 t) ih)⟩
      · rw [if_neg h3] at ou
        exact br_f h3 ⟨it, nm_r (fin _ ou.symm) (nm_r (nI_1 t) ih)⟩
    · rw [ct, e]
      try dsimp only at ih2
      refine br_f (nI_ge hi (by omega)) (by_vl (by omega) (by omega) hP ⟨it, ?_⟩)
      rcases hK t with k | k | k | k
      · rw [bg_fs_p (by rw [k]; decide) (by rw [k]; decide)] at ih2
        exact br_t k (nm_e (nm_r (nI_1 i) ih2))
      · rw [bg_fs_1 k] at ih2
        exact br_f (by rw [k]; decide) ⟨it, br_f (by rw [k]; decide) ⟨it, br_t k (nm_e (nm_r (nI_1 i) ih2))⟩⟩
      · rw [bg_fs_2 k] at ih2
        refine br_f (by rw [k]; decide) ⟨it, br_f (by rw [k]; decide) ⟨it, br_f (by rw [k]; decide) ?_⟩⟩
        by_cases k3 : bg_fs (K t) (Q t) (bg_vl C N P (bg_wo C K Q N P NW t) t) i < bg_vl C N P (bg_wo C K Q N P NW t) t i
        · rw [if_pos k3] at ih2
          exact br_f (Int32.not_le.mpr k3) (nm_r (nI_1 i) ih2)
        · rw [if_neg k3] at ih2
          exact br_t (Int32.not_lt.mp k3) (nm_r (nI_1 i) ih2)
      · rw [bg_fs_p (by rw [k]; decide) (by rw [k]; decide)] at ih2
        exact br_f (by rw [k]; decide) ⟨it, br_t k (nm_e (nm_r (nI_1 i) ih2))⟩
  by_cases h3 : K t = 3
  · exact br_t h3 (lp _ (if_pos h3).symm)
  · exact br_f h3 ⟨it, nm_e (lp _ (if_neg h3).symm)⟩
theorem by_pt {post : Int32 → Prop} {t j : Nat} (ht : t < 12) (hj : j < 5) (hP : bg_PP P) (hp : post (bg_rc C K Q N P NW t (j + 1))) : wpY_part post (T, B, E, C, K, Q, N, P, OU, ST, HL, L, SC, S, NW) (nI t) (nI j) := by
  have ct : (nI t).toNatClampNeg = t := nI_clamp (by omega)
  have it : vp_in (nI t) 12 := vp_in_nI ht (by omega)
  by_cases j0 : j = 0
  · subst j0
    exact br_t rfl ⟨it, by rw [ct]; exact hp⟩
  · refine br_f (nI_ne0 (by omega) (by omega)) ?_
    by_cases j1 : j = 1
    · subst j1
      exact br_t rfl ⟨it, by rw [ct]; exact hp⟩
    · refine br_f (fun z => j1 ((nI_eq (b := 1) (by omega) (by omega)).mp z)) ?_
      obtain ⟨i, rfl⟩ : ∃ i, j = i + 2 := ⟨j - 2, by omega⟩
      rw [bg_s2 (by omega)]
      exact by_vl ht (by omega) hP hp
theorem by_iL {post : Int32 → Prop} {t : Nat} (ht : t < 12) (hP : bg_PP P) (h1 : bg_ly HL L (bg_rc C K Q N P NW) t → post 1) (h0 : ¬ bg_ly HL L (bg_rc C K Q N P NW) t → post 0) : wpY_isLast post (T, B, E, C, K, Q, N, P, OU, ST, HL, L, SC, S, NW) (nI t) := by
  have ct : (nI t).toNatClampNeg = t := nI_clamp (by omega)
  have it : vp_in (nI t) 12 := vp_in_nI ht (by omega)
  refine ⟨it, ?_⟩
  rw [ct]
  by_cases h : HL t = 0
  · exact br_t h (h0 (fun z => z.1 h))
  · refine br_f h ?_
    refine bg_lp0 (fun n i => wY_isLast_13 post (nI t) T B E C K Q N P OU ST HL L SC S NW n (nI i)) (fun i => ∀ j, j < i → L (t * 5 + j) = bg_rc C K Q N P NW t (j + 1)) 5 0 (by omega) (fun j hj => by omega) (fun n h2 => br_t (Int32.le_refl 5) (h1 ⟨h, h2⟩)) (fun n i hi h2 ih => ?_)
    have e1 : nI t * 5 + nI i = nI (t * 5 + i) := bg_a (bg_m5 t) rfl
    refine br_f (nI_ge (b := 5) hi (by decide)) ⟨pk_in (t * 5 + i) 60 (by omega) e1, by_pt ht hi hP ?_⟩
    rw [e1, nI_clamp (by omega)]
    by_cases q : L (t * 5 + i) = bg_rc C K Q N P NW t (i + 1)
    · refine br_t q (nm_r (nI_1 i) (ih (fun j hj => ?_)))
      by_cases ej : j = i
      · rw [ej]; exact q
      · exact h2 j (by omega)
    · exact br_f q (h0 (fun z => q (z.2 i hi)))
theorem by_iR {post : Int32 → Prop} {t r : Nat} (ht : t < 12) (hr : r < 40) (hP : bg_PP P) (h1 : (∀ j, j < 5 → S ((t * 40 + r) * 5 + j) = bg_rc C K Q N P NW t (j + 1)) → post 1) (h0 : ¬ (∀ j, j < 5 → S ((t * 40 + r) * 5 + j) = bg_rc C K Q N P NW t (j + 1)) → post 0) : wpY_isRecord post (T, B, E, C, K, Q, N, P, OU, ST, HL, L, SC, S, NW) (nI t) (nI r) := by
  refine bg_lp0 (fun n i => wY_isRecord_2 post (nI t) (nI r) T B E C K Q N P OU ST HL L SC S NW n (nI i)) (fun i => ∀ j, j < i → S ((t * 40 + r) * 5 + j) = bg_rc C K Q N P NW t (j + 1)) 5 0 (by omega) (fun j hj => by omega) (fun n h2 => br_t (Int32.le_refl 5) (h1 h2)) (fun n i hi h2 ih => ?_)
  have e1 : (nI t * 40 + nI r) * 5 + nI i = nI ((t * 40 + r) * 5 + i) := bg_a (bg_m (bg_a (bg_m40 t) rfl) rfl) rfl
  refine br_f (nI_ge (b := 5) hi (by decide)) ⟨pk_in ((t * 40 + r) * 5 + i) 2400 (by omega) e1, by_pt ht hi hP ?_⟩
  rw [e1, nI_clamp (by omega)]
  by_cases q : S ((t * 40 + r) * 5 + i) = bg_rc C K Q N P NW t (i + 1)
  · refine br_t q (nm_r (nI_1 i) (ih (fun j hj => ?_)))
    by_cases ej : j = i
    · rw [ej]; exact q
    · exact h2 j (by omega)
  · exact br_f q (h0 (fun z => q (z i hi)))
theorem by_iS {post : Int32 → Prop} {t s : Nat} (ht : t < 12) (hs : s ≤ 40) (hS : SC t = nI s) (hP : bg_PP P) (h1 : bg_sy SC S (bg_rc C K Q N P NW) t → post 1) (h0 : ¬ bg_sy SC S (bg_rc C K Q N P NW) t → post 0) : wpY_isStored post (T, B, E, C, K, Q, N, P, OU, ST, HL, L, SC, S, NW) (nI t) := by
  have ct : (nI t).toNatClampNeg = t := nI_clamp (by omega)
  have it : vp_in (nI t) 12 := vp_in_nI ht (by omega)
  have hc : (SC t).toNatClampNeg = s := by rw [hS, nI_clamp (by omega)]
  refine bg_lp0 (fun n i => wY_isStored_2 post (nI t) T B E C K Q N P OU ST HL L SC S NW n (nI i)) (fun i => ∀ r, r < i → ¬ ∀ j, j < 5 → S ((t * 40 + r) * 5 + j) = bg_rc C K Q N P NW t (j + 1)) s 0 (by omega) (fun r hr => by omega) (fun n h => ⟨it, ?_⟩) (fun n i hi h ih => ⟨it, ?_⟩)
  · rw [ct, hS]
    refine br_t (Int32.le_refl _) (h0 (fun ⟨r, hr, hj⟩ => ?_))
    rw [hc] at hr
    exact h r hr hj
  · rw [ct, hS]
    refine br_f (nI_ge hi (by omega)) (by_iR ht (by omega) hP (fun z => ?_) (fun z => ?_))
    · exact br_f bg_10 (h1 ⟨i, by rw [hc]; exact hi, z⟩)
    · refine br_t rfl (nm_r (nI_1 i) (ih (fun r hr => ?_)))
      by_cases er : r = i
      · rw [er]; exact z
      · exact h r (by omega)
theorem by_nd {post : Int32 → Prop} {t : Nat} (ht : t < 12) (hP : bg_PP P) (hN : bg_NN N) (hp : ∀ q, q < 4096 → (∀ j, j < 12 → q.testBit j = bg_nd P N t j) → post (nI q)) : wpY_needs post (T, B, E, C, K, Q, N, P, OU, ST, HL, L, SC, S, NW) (nI t) := by
  refine nm_r (bg_shl ht) ?_
  obtain ⟨n, hn⟩ := bg_ld (fun n k => ∀ (q : Nat) (A : Nat → Bool), q < 4096 → (∀ j, j < 12 → q.testBit j = A j) → (∀ q2, q2 < 4096 → (∀ j, j < 12 → q2.testBit j = bg_pd P N k A j) → post (nI q2)) → wY_needs_6 post T B E C K Q N P OU ST HL L SC S NW n (nI q) (nI k + (-1))) (t + 1) (fun n q A hq h2 h3 => br_t (by decide) (h3 q hq h2)) (fun n k hk ih q A hq h2 h3 => by
    rw [pk_m1]
    refine br_f (nI_pos (by omega)) ?_
    obtain ⟨c, hc, e⟩ := hN k
    have ck : (nI k).toNatClampNeg = k := nI_clamp (by omega)
    have ik : vp_in (nI k) 12 := vp_in_nI (by omega) (by omega)
    obtain ⟨n2, hn2⟩ := bg_lq (fun n2 i => ∀ q, q < 4096 → (∀ j, j < 12 → q.testBit j = (if A k = true then bg_pi P k A i else A) j) → wY_needs_13 post (wY_needs_6 post T B E C K Q N P OU ST HL L SC S NW n) (nI k) T B E C K Q N P OU ST HL L SC S NW n2 (nI q) (nI i)) c (fun n2 q hq hb => ⟨ik, by
      rw [ck, e]
      refine br_t (Int32.le_refl _) (nm_e (ih q (bg_pb P N k A) hq (fun j hj => ?_) h3))
      rw [hb j hj]
      unfold bg_pb
      rw [e, nI_clamp (by omega)]⟩) (fun n2 i hi ih2 q hq hb => ⟨ik, by
      rw [ck, e]
      refine br_f (nI_ge hi (by omega)) ?_
      obtain ⟨x, hx, ex⟩ := hP k i (by omega) (by omega)
      have e1 : nI k * 3 + nI i = nI (k * 3 + i) := bg_a (bg_m3 k) rfl
      have pj : ∀ j, bg_pi P k A (i + 1) j = (bg_pi P k A i j || decide (x = j + 8)) := by
        intro j
        show (bg_pi P k A i j || decide ((P (k * 3 + i)).toNatClampNeg = j + 8)) = _
        rw [ex, nI_clamp (by omega)]
      rw [bg_bit' hq (by omega), hb k (by omega)]
      by_cases ha : A k = true
      · have b1 : (if A k = true then bg_pi P k A i else A) k = true := by rw [if_pos ha, bg_pi_t hP (by omega) A i (by omega) k (Nat.le_refl k)]; exact ha
        rw [b1]
        refine br_t rfl ⟨pk_in (k * 3 + i) 36 (by omega) e1, ?_⟩
        rw [e1, nI_clamp (by omega), ex]
        rw [if_pos ha] at hb
        by_cases h8 : x < 8
        · refine br_t (nI_lt (b := 8) h8 (by decide)) (nm_r (nI_1 i) (ih2 q hq (fun j hj => ?_)))
          rw [if_pos ha, pj j, decide_eq_false (by omega), Bool.or_false]
          exact hb j hj
        · refine br_f (nI_nlt (b := 8) (by omega) (by omega)) ⟨vp_in_nI (by omega) (by omega), ?_⟩
          refine nm_r (e' := nI (q ||| 2 ^ (x - 8))) (by rw [bg_s8 (by omega), bg_shl (by omega), bg_or]) (nm_r (nI_1 i) (ih2 _ (bg_orlt hq (by omega)) (fun j hj => ?_)))
          rw [if_pos ha, pj j, Nat.testBit_or, hb j hj, Nat.testBit_two_pow]
          exact congrArg _ (decide_eq_decide.mpr (by omega))
      · have b0 : (if A k = true then bg_pi P k A i else A) k = false := by rw [if_neg ha]; exact Bool.eq_false_iff.mpr ha
        rw [b0]
        refine br_f (by decide) (nm_r (nI_1 i) (ih2 q hq (fun j hj => ?_)))
        rw [if_neg ha] at hb ⊢
        exact hb j hj⟩)
    exact ⟨n2, hn2 q hq (fun j hj => by rw [h2 j hj]; by_cases ha : A k = true <;> simp [ha, bg_pi])⟩)
  have hq0 : 2 ^ t < 4096 := Nat.pow_lt_pow_right (a := 2) (by decide) ht
  have z := hn (2 ^ t) (fun j => decide (j = t)) hq0 (fun j hj => by rw [Nat.testBit_two_pow]; exact decide_eq_decide.mpr (by omega)) hp
  rw [pk_m1] at z
  exact ⟨n, z⟩
theorem by_hj {post : SY → Prop} {t : Nat} (ht : t < 12) (hP : bg_PP P) (hp : post (T, B, E, C, K, Q, N, P, (upd OU t (NW t)), ST, (upd HL t 1), (bg_cp (fun j => bg_rc C K Q N P NW t (j + 1)) (t * 5) L 5), SC, S, NW)) : ∃ n, wY_handle_108 post (nI t) T B E n 0 C K Q N P OU ST HL L SC S NW := by
  have ct : (nI t).toNatClampNeg = t := nI_clamp (by omega)
  have it : vp_in (nI t) 12 := vp_in_nI ht (by omega)
  refine bg_lq (fun n i => wY_handle_108 post (nI t) T B E n (nI i) C K Q N P OU ST HL (bg_cp (fun j => bg_rc C K Q N P NW t (j + 1)) (t * 5) L i) SC S NW) 5 (fun n => br_t (Int32.le_refl 5) ⟨it, nm_r (e' := upd HL t 1) (by rw [ct, bg_vb1]) ⟨it, it, nm_r (e' := upd OU t (NW t)) (by rw [ct]) hp⟩⟩) (fun n i hi ih => ?_)
  have e1 : nI t * 5 + nI i = nI (t * 5 + i) := bg_a (bg_m5 t) rfl
  exact br_f (nI_ge (b := 5) hi (by decide)) (by_pt ht hi hP ⟨pk_in (t * 5 + i) 60 (by omega) e1, nm_r (e' := bg_cp (fun j => bg_rc C K Q N P NW t (j + 1)) (t * 5) L (i + 1)) (by rw [e1, nI_clamp (by omega)]; rfl) (nm_r (nI_1 i) ih)⟩)
theorem by_h1 {post : SY → Prop} {t s : Nat} {l o : Bool} (ht : t < 12) (hs : s < 40) (hS : SC t = nI s) (hP : bg_PP P) (hl : l = true ↔ bg_ly HL L (bg_rc C K Q N P NW) t) (ho : o = true ↔ bg_sy SC S (bg_rc C K Q N P NW) t) (hx : bg_ex l o = true) (hp : post (T, B, (E + 1), C, K, Q, N, P, (upd OU t (NW t)), (upd ST t (bg_sv l o)), (upd HL t 1), (bg_cp (fun j => bg_rc C K Q N P NW t (j + 1)) (t * 5) L 5), (upd SC t (SC t + 1)), (bg_cp (fun j => bg_rc C K Q N P NW t (j + 1)) ((t * 40 + (SC t).toNatClampNeg) * 5) S 5), NW)) : wpY_handle post (T, B, E, C, K, Q, N, P, OU, ST, HL, L, SC, S, NW) (nI t) := by
  have ct : (nI t).toNatClampNeg = t := nI_clamp (by omega)
  have it : vp_in (nI t) 12 := vp_in_nI ht (by omega)
  have hc : (SC t).toNatClampNeg = s := by rw [hS, nI_clamp (by omega)]
  have l0 : l = false := by cases l <;> cases o <;> first | rfl | exact absurd hx (by decide)
  have o0 : o = false := by cases l <;> cases o <;> first | rfl | exact absurd hx (by decide)
  have s3 : bg_sv l o = 3 := bg_sv_3.mpr hx
  rw [s3] at hp
  unfold wpY_handle
  refine by_iL ht hP (fun z => absurd (hl.mpr z) (by rw [l0]; decide)) (fun z => br_t rfl (by_iS ht (by omega) hS hP (fun y => absurd (ho.mpr y) (by rw [o0]; decide)) (fun y => br_t rfl ⟨it, nm_r (e' := upd ST t 3) (by rw [ct]) ?_⟩)))
  refine bg_lq (fun n i => wY_handle_45 post (nI t) T B E n (nI i) C K Q N P OU (upd ST t 3) HL L SC (bg_cp (fun j => bg_rc C K Q N P NW t (j + 1)) ((t * 40 + (SC t).toNatClampNeg) * 5) S i) NW) 5 (fun n => br_t (Int32.le_refl 5) ⟨it, it, nm_r (e' := upd SC t (SC t + 1)) (by rw [ct]) (nm_e (by_hj ht hP hp))⟩) (fun n i hi ih => ?_)
  have e1 : (nI t * 40 + nI s) * 5 + nI i = nI ((t * 40 + s) * 5 + i) := bg_a (bg_m (bg_a (bg_m40 t) rfl) rfl) rfl
  exact br_f (nI_ge (b := 5) hi (by decide)) ⟨it, by_pt ht hi hP ⟨pk_in ((t * 40 + s) * 5 + i) 2400 (by omega) (by rw [ct, hS, e1]), nm_r (e' := bg_cp (fun j => bg_rc C K Q N P NW t (j + 1)) ((t * 40 + (SC t).toNatClampNeg) * 5) S (i + 1)) (by rw [ct, hc, hS, e1, nI_clamp (by omega)]; rfl) (nm_r (nI_1 i) ih)⟩⟩
theorem by_h0 {post : SY → Prop} {t s : Nat} {l o : Bool} (ht : t < 12) (hs : s < 40) (hS : SC t = nI s) (hP : bg_PP P) (hl : l = true ↔ bg_ly HL L (bg_rc C K Q N P NW) t) (ho : o = true ↔ bg_sy SC S (bg_rc C K Q N P NW) t) (hx : ¬ bg_ex l o = true) (hp : post (T, B, E, C, K, Q, N, P, (upd OU t (NW t)), (upd ST t (bg_sv l o)), (upd HL t 1), (bg_cp (fun j => bg_rc C K Q N P NW t (j + 1)) (t * 5) L 5), SC, S, NW)) : wpY_handle post (T, B, E, C, K, Q, N, P, OU, ST, HL, L, SC, S, NW) (nI t) := by
  have ct : (nI t).toNatClampNeg = t := nI_clamp (by omega)
  have it : vp_in (nI t) 12 := vp_in_nI ht (by omega)
  unfold wpY_handle
  refine by_iL ht hP (fun z => ?_) (fun z => ?_)
  · have s1 : bg_sv l o = 1 := by rw [hl.mpr z]; rfl
    rw [s1] at hp
    exact br_f bg_10 ⟨it, nm_r (e' := upd ST t 1) (by rw [ct]) (by_hj ht hP hp)⟩
  · have l0 : l = false := Bool.eq_false_iff.mpr (fun w => z (hl.mp w))
    have o1 : o = true := by
      rw [l0] at hx
      cases o with
      | true => rfl
      | false => exact absurd rfl hx
    have s2 : bg_sv l o = 2 := by rw [l0, o1]; rfl
    rw [s2] at hp
    refine br_t rfl (by_iS ht (by omega) hS hP (fun y => ?_) (fun y => absurd (ho.mp o1) y))
    exact br_f bg_10 ⟨it, nm_r (e' := upd ST t 2) (by rw [ct]) (by_hj ht hP hp)⟩
/-! a build's loop -/
theorem by_bl {post : Int32 → SY → Prop} {n q : Nat} {F : Int32} {dn l o : Nat → Bool} (hn : n ≤ 12) (hs : ∀ t, t < 12 → ∃ s, s < 40 ∧ SC t = nI s) (hP : bg_PP P) (hq : q < 4096) (hD : ∀ j, j < 12 → q.testBit j = dn j) (hl : ∀ j, j < n → (l j = true ↔ bg_ly HL L (bg_rc C K Q N P NW) j)) (ho : ∀ j, j < n → (o j = true ↔ bg_sy SC S (bg_rc C K Q N P NW) j)) (hp : post (E + nI (bg_ct (bg_Ev dn l o) n) - F) ((nI n), B, (E + nI (bg_ct (bg_Ev dn l o) n)), C, K, Q, N, P, (bg_u1 dn NW OU n), (bg_st dn (fun j => bg_sv (l j) (o j)) ST n), (bg_u1 dn (fun _ => 1) HL n), (bg_ur dn (fun t j => bg_rc C K Q N P NW t (j + 1)) (fun t => t * 5) 5 L n), (bg_u1 (bg_Ev dn l o) (fun t => SC t + 1) SC n), (bg_ur (bg_Ev dn l o) (fun t j => bg_rc C K Q N P NW t (j + 1)) (fun t => (t * 40 + (SC t).toNatClampNeg) * 5) 5 S n), NW)) : ∃ m, wY_build_50 post F (nI q) m 0 (nI n) B E C K Q N P OU ST HL L SC S NW := by
  have hs' : ∀ t, t < 12 → (SC t).toNatClampNeg < 40 := fun t ht => by
    obtain ⟨s, h1, h2⟩ := hs t ht
    rw [h2, nI_clamp (by omega)]; exact h1
  refine bg_lq (fun m j => wY_build_50 post F (nI q) m (nI j) (nI n) B (bg_en E (bg_Ev dn l o) j) C K Q N P (bg_u1 dn NW OU j) (bg_st dn (fun j => bg_sv (l j) (o j)) ST j) (bg_u1 dn (fun _ => 1) HL j) (bg_ur dn (fun t j => bg_rc C K Q N P NW t (j + 1)) (fun t => t * 5) 5 L j) (bg_u1 (bg_Ev dn l o) (fun t => SC t + 1) SC j) (bg_ur (bg_Ev dn l o) (fun t j => bg_rc C K Q N P NW t (j + 1)) (fun t => (t * 40 + (SC t).toNatClampNeg) * 5) 5 S j) NW) n (fun m => br_t (Int32.le_refl _) (by rw [bg_en_eq]; exact hp)) (fun m j hj ih => ?_)
  have cj : (nI j).toNatClampNeg = j := nI_clamp (by omega)
  have ij : vp_in (nI j) 12 := vp_in_nI (by omega) (by omega)
  try dsimp only at ih
  refine br_f (nI_ge hj (by omega)) ⟨ij, nm_r (e' := upd (bg_st dn (fun j => bg_sv (l j) (o j)) ST j) j 0) (by rw [cj]) ?_⟩
  rw [bg_bit' hq (by omega), hD j (by omega)]
  by_cases hd : dn j = true
  · rw [if_pos hd]
    rw [bg_st_t hd, bg_u1_t (f := fun _ => 1) hd, bg_u1_t (f := NW) hd, bg_ur_t (m := 5) (d := fun t => t * 5) hd] at ih
    obtain ⟨s, h1, h2⟩ := hs j (by omega)
    have hsc : bg_u1 (bg_Ev dn l o) (fun t => SC t + 1) SC j j = SC j := bg_u1_hi j (Nat.le_refl j)
    have hl' := (hl j hj).trans (bg_ly_t (D := dn) (f := fun _ => 1)).symm
    have ho' := (ho j hj).trans (bg_sy_t (D := bg_Ev dn l o) (f := fun t => SC t + 1) (by omega) hs').symm
    by_cases hx : bg_ex (l j) (o j) = true
    · have hE : bg_Ev dn l o j = true := (bg_Ev_t hd).trans hx
      rw [bg_u1_t hE, bg_ur_t hE, bg_en_t hE] at ih
      refine br_t rfl (by_h1 (s := s) (by omega) h1 (hsc.trans h2) hP hl' ho' hx ?_)
      rw [hsc]
      exact nm_r (nI_1 j) ih
    · have hE : ¬ bg_Ev dn l o j = true := by rw [bg_Ev_t hd]; exact hx
      rw [bg_u1_f hE, bg_ur_f hE, bg_en_f hE] at ih
      refine br_t rfl (by_h0 (s := s) (by omega) h1 (hsc.trans h2) hP hl' ho' hx ?_)
      exact nm_r (nI_1 j) ih
  · have hE := bg_Ev_f (l := l) (o := o) hd
    rw [bg_st_f hd, bg_u1_f (f := fun _ => 1) hd, bg_u1_f (f := NW) hd, bg_ur_f (m := 5) (d := fun t => t * 5) hd, bg_u1_f hE, bg_ur_f hE, bg_en_f hE] at ih
    rw [if_neg hd]
    exact br_f (by decide) (nm_r (nI_1 j) ih)
end BGY
end
section
section BGP
variable {T B E : Int32} {C K Q N P HL LR SC SR ST OU NR NW D L S : Nat → Int32}
/-! the calls that refuse a number that isn't a task's -/
theorem bx_input_b {post : Int32 → SX → Prop} {v w : Int32} (h : v < 0 ∨ T ≤ v) (hp : post (-1) (T, B, E, C, K, Q, N, P, HL, LR, SC, SR, ST, OU, NR, NW, D)) : wpX_input post (T, B, E, C, K, Q, N, P, HL, LR, SC, SR, ST, OU, NR, NW, D) v w := by
  unfold wpX_input
  exact bx_T0 h (br_t rfl hp)
theorem bx_constant_b {post : Int32 → SX → Prop} {v w : Int32} (h : v < 0 ∨ T ≤ v) (hp : post (-1) (T, B, E, C, K, Q, N, P, HL, LR, SC, SR, ST, OU, NR, NW, D)) : wpX_constant post (T, B, E, C, K, Q, N, P, HL, LR, SC, SR, ST, OU, NR, NW, D) v w := by
  unfold wpX_constant
  exact bx_T0 h (br_t rfl hp)
theorem bx_build_b {post : Int32 → SX → Prop} {v : Int32} (h : v < 0 ∨ T ≤ v) (hp : post (-1) (T, B, E, C, K, Q, N, P, HL, LR, SC, SR, ST, OU, NR, NW, D)) : wpX_build post (T, B, E, C, K, Q, N, P, HL, LR, SC, SR, ST, OU, NR, NW, D) v := by
  unfold wpX_build
  exact bx_T0 h (br_t rfl hp)
theorem bx_clean_b {post : Int32 → SX → Prop} {v : Int32} (h : v < 0 ∨ T ≤ v) (hp : post (-1) (T, B, E, C, K, Q, N, P, HL, LR, SC, SR, ST, OU, NR, NW, D)) : wpX_clean post (T, B, E, C, K, Q, N, P, HL, LR, SC, SR, ST, OU, NR, NW, D) v := by
  unfold wpX_clean
  exact bx_T0 h (br_t rfl hp)
theorem bx_fresh_b {post : Int32 → SX → Prop} {v : Int32} (h : v < 0 ∨ T ≤ v) (hp : post 0 (T, B, E, C, K, Q, N, P, HL, LR, SC, SR, ST, OU, NR, NW, D)) : wpX_fresh post (T, B, E, C, K, Q, N, P, HL, LR, SC, SR, ST, OU, NR, NW, D) v := by
  unfold wpX_fresh
  exact bx_T0 h (br_t rfl hp)
theorem bx_needed_b {post : Int32 → SX → Prop} {v : Int32} (h : v < 0 ∨ T ≤ v) (hp : post (-1) (T, B, E, C, K, Q, N, P, HL, LR, SC, SR, ST, OU, NR, NW, D)) : wpX_needed post (T, B, E, C, K, Q, N, P, HL, LR, SC, SR, ST, OU, NR, NW, D) v := by
  unfold wpX_needed
  exact bx_T0 h (br_t rfl hp)
theorem bx_work_b {post : Int32 → SX → Prop} {v : Int32} (h : v < 0 ∨ T ≤ v) (hp : post (-1) (T, B, E, C, K, Q, N, P, HL, LR, SC, SR, ST, OU, NR, NW, D)) : wpX_work post (T, B, E, C, K, Q, N, P, HL, LR, SC, SR, ST, OU, NR, NW, D) v := by
  unfold wpX_work
  exact bx_T0 h (br_t rfl hp)
theorem bx_status_b {post : Int32 → Prop} {v : Int32} (h : v < 0 ∨ T ≤ v) (hp : post (-1)) : wpX_status post (T, B, E, C, K, Q, N, P, HL, LR, SC, SR, ST, OU, NR, NW, D) v := by
  unfold wpX_status
  exact bx_T0 h (br_t rfl hp)
theorem bx_output_b {post : Int32 → Prop} {v : Int32} (h : v < 0 ∨ T ≤ v) (hp : post 0) : wpX_output post (T, B, E, C, K, Q, N, P, HL, LR, SC, SR, ST, OU, NR, NW, D) v := by
  unfold wpX_output
  exact bx_T0 h (br_t rfl hp)
theorem by_input_b {post : Int32 → SY → Prop} {v w : Int32} (h : v < 0 ∨ T ≤ v) (hp : post (-1) (T, B, E, C, K, Q, N, P, OU, ST, HL, L, SC, S, NW)) : wpY_input post (T, B, E, C, K, Q, N, P, OU, ST, HL, L, SC, S, NW) v w := by
  unfold wpY_input
  exact by_T1 h (br_f bg_10 hp)
theorem by_constant_b {post : Int32 → SY → Prop} {v w : Int32} (h : v < 0 ∨ T ≤ v) (hp : post (-1) (T, B, E, C, K, Q, N, P, OU, ST, HL, L, SC, S, NW)) : wpY_constant post (T, B, E, C, K, Q, N, P, OU, ST, HL, L, SC, S, NW) v w := by
  unfold wpY_constant
  exact by_T1 h (br_f bg_10 hp)
theorem by_build_b {post : Int32 → SY → Prop} {v : Int32} (h : v < 0 ∨ T ≤ v) (hp : post (-1) (T, B, E, C, K, Q, N, P, OU, ST, HL, L, SC, S, NW)) : wpY_build post (T, B, E, C, K, Q, N, P, OU, ST, HL, L, SC, S, NW) v := by
  unfold wpY_build
  exact by_T1 h (br_f bg_10 hp)
theorem by_clean_b {post : Int32 → SY → Prop} {v : Int32} (h : v < 0 ∨ T ≤ v) (hp : post (-1) (T, B, E, C, K, Q, N, P, OU, ST, HL, L, SC, S, NW)) : wpY_clean post (T, B, E, C, K, Q, N, P, OU, ST, HL, L, SC, S, NW) v := by
  unfold wpY_clean
  exact by_T1 h (br_f bg_10 hp)
theorem by_fresh_b {post : Int32 → SY → Prop} {v : Int32} (h : v < 0 ∨ T ≤ v) (hp : post 0 (T, B, E, C, K, Q, N, P, OU, ST, HL, L, SC, S, NW)) : wpY_fresh post (T, B, E, C, K, Q, N, P, OU, ST, HL, L, SC, S, NW) v := by
  unfold wpY_fresh
  exact by_T1 h (br_f bg_10 hp)
theorem by_needed_b {post : Int32 → Prop} {v : Int32} (h : v < 0 ∨ T ≤ v) (hp : post (-1)) : wpY_needed post (T, B, E, C, K, Q, N, P, OU, ST, HL, L, SC, S, NW) v := by
  unfold wpY_needed
  exact by_T1 h (br_f bg_10 hp)
theorem by_work_b {post : Int32 → SY → Prop} {v : Int32} (h : v < 0 ∨ T ≤ v) (hp : post (-1) (T, B, E, C, K, Q, N, P, OU, ST, HL, L, SC, S, NW)) : wpY_work post (T, B, E, C, K, Q, N, P, OU, ST, HL, L, SC, S, NW) v := by
  unfold wpY_work
  exact by_T1 h (br_f bg_10 hp)
theorem by_status_b {post : Int32 → Prop} {v : Int32} (h : v < 0 ∨ T ≤ v) (hp : post (-1)) : wpY_status post (T, B, E, C, K, Q, N, P, OU, ST, HL, L, SC, S, NW) v := by
  unfold wpY_status
  exact by_T1 h (br_f bg_10 hp)
theorem by_output_b {post : Int32 → Prop} {v : Int32} (h : v < 0 ∨ T ≤ v) (hp : post 0) : wpY_output post (T, B, E, C, K, Q, N, P, OU, ST, HL, L, SC, S, NW) v := by
  unfold wpY_output
  exact by_T1 h (br_f bg_10 hp)
/-! the calls that are carried out -/
theorem bx_Tg {post : Int32 → Prop} {n t : Nat} (hn : n ≤ 12) (ht : t < n) (hp : post 1) : wpX_isTask post ((nI n), B, E, C, K, Q, N, P, HL, LR, SC, SR, ST, OU, NR, NW, D) (nI t) := bx_T1 (nI_pos (by omega)) (nI_ge ht (by omega)) hp
theorem by_Tg {post : Int32 → Prop} {n t : Nat} (hn : n ≤ 12) (ht : t < n) (hp : post 0) : wpY_bad post ((nI n), B, E, C, K, Q, N, P, OU, ST, HL, L, SC, S, NW) (nI t) := by_T0 (nI_pos (by omega)) (nI_ge ht (by omega)) hp
theorem bx_content_b {post : Int32 → SX → Prop} {v w : Int32} (h : v < 0 ∨ 8 ≤ v) (hp : post (-2) (T, B, E, C, K, Q, N, P, HL, LR, SC, SR, ST, OU, NR, NW, D)) : wpX_content post (T, B, E, C, K, Q, N, P, HL, LR, SC, SR, ST, OU, NR, NW, D) v w := by
  unfold wpX_content
  exact bx_S0 h (br_t rfl hp)
theorem by_content_b {post : Int32 → SY → Prop} {v w : Int32} (h : v < 0 ∨ 8 ≤ v) (hp : post (-2) (T, B, E, C, K, Q, N, P, OU, ST, HL, L, SC, S, NW)) : wpY_content post (T, B, E, C, K, Q, N, P, OU, ST, HL, L, SC, S, NW) v w := by
  by_cases h0 : v < 0
  · exact br_t h0 hp
  · obtain ⟨j, hj, rfl⟩ := nI_of h0
    have h8 : ¬ j < 8 := fun z => (nI_ge (b := 8) z (by decide)) (h.resolve_left h0)
    exact br_f h0 (br_f (nI_ge (a := 7) (by omega) hj) hp)
theorem bx_content_g {post : Int32 → SX → Prop} {t : Nat} {w : Int32} (ht : t < 8) (hp : post (C t) (T, B, E, (upd C t w), K, Q, N, P, HL, LR, SC, SR, ST, OU, NR, NW, D)) : wpX_content post (T, B, E, C, K, Q, N, P, HL, LR, SC, SR, ST, OU, NR, NW, D) (nI t) w := by
  have ct : (nI t).toNatClampNeg = t := nI_clamp (by omega)
  have it : vp_in (nI t) 8 := vp_in_nI ht (by omega)
  unfold wpX_content
  exact bx_S1 (nI_pos (by omega)) (nI_ge (b := 8) ht (by decide)) (br_f bg_10 ⟨it, nm_r (e' := C t) (by rw [ct]) ⟨it, nm_r (e' := upd C t w) (by rw [ct]) hp⟩⟩)
theorem by_content_g {post : Int32 → SY → Prop} {t : Nat} {w : Int32} (ht : t < 8) (hp : post (C t) (T, B, E, (upd C t w), K, Q, N, P, OU, ST, HL, L, SC, S, NW)) : wpY_content post (T, B, E, C, K, Q, N, P, OU, ST, HL, L, SC, S, NW) (nI t) w := by
  have ct : (nI t).toNatClampNeg = t := nI_clamp (by omega)
  have it : vp_in (nI t) 8 := vp_in_nI ht (by omega)
  exact br_f (nI_pos (by omega)) (br_t (nI_le (b := 7) (by omega) (by decide)) ⟨it, nm_r (e' := C t) (by rw [ct]) ⟨it, nm_r (e' := upd C t w) (by rw [ct]) hp⟩⟩)
theorem bx_task_f {post : Int32 → SX → Prop} {v w : Int32} (hp : post (-4) ((nI 12), B, E, C, K, Q, N, P, HL, LR, SC, SR, ST, OU, NR, NW, D)) : wpX_task post ((nI 12), B, E, C, K, Q, N, P, HL, LR, SC, SR, ST, OU, NR, NW, D) v w := br_f (by decide) hp
theorem by_task_f {post : Int32 → SY → Prop} {v w : Int32} (hp : post (-4) ((nI 12), B, E, C, K, Q, N, P, OU, ST, HL, L, SC, S, NW)) : wpY_task post ((nI 12), B, E, C, K, Q, N, P, OU, ST, HL, L, SC, S, NW) v w := br_t rfl hp
theorem bx_task_g {post : Int32 → SX → Prop} {n : Nat} {v w : Int32} (hn : n < 12) (hp : post (nI n) ((nI (n + 1)), B, E, C, (upd K n (v &&& 3)), (upd Q n w), N, P, HL, LR, SC, SR, ST, OU, NR, NW, D)) : wpX_task post ((nI n), B, E, C, K, Q, N, P, HL, LR, SC, SR, ST, OU, NR, NW, D) v w := by
  have cn : (nI n).toNatClampNeg = n := nI_clamp (by omega)
  have it : vp_in (nI n) 12 := vp_in_nI hn (by omega)
  exact br_t (nI_lt (b := 12) hn (by decide)) ⟨it, nm_r (e' := upd K n (v &&& 3)) (by rw [cn]) ⟨it, nm_r (e' := upd Q n w) (by rw [cn]) (nm_r (nI_1 n) hp)⟩⟩
theorem by_task_g {post : Int32 → SY → Prop} {n : Nat} {v w : Int32} (hn : n < 12) (hp : post (nI n) ((nI (n + 1)), B, E, C, (upd K n (v &&& 3)), (upd Q n w), N, P, OU, ST, HL, L, SC, S, NW)) : wpY_task post ((nI n), B, E, C, K, Q, N, P, OU, ST, HL, L, SC, S, NW) v w := by
  have cn : (nI n).toNatClampNeg = n := nI_clamp (by omega)
  have it : vp_in (nI n) 12 := vp_in_nI hn (by omega)
  refine br_f (fun z => absurd ((nI_eq (b := 12) (by omega) (by omega)).mp z) (by omega)) ⟨it, nm_r (e' := upd K n (v &&& 3)) (by rw [cn]) ⟨it, nm_r (e' := upd Q n w) (by rw [cn]) (nm_r (nI_1 n) ?_)⟩⟩
  rw [nI_pred]
  exact hp
theorem bx_constant_g {post : Int32 → SX → Prop} {n t : Nat} {w : Int32} (hn : n ≤ 12) (ht : t < n) (hp : post (Q t) ((nI n), B, E, C, K, (upd Q t w), N, P, HL, LR, SC, SR, ST, OU, NR, NW, D)) : wpX_constant post ((nI n), B, E, C, K, Q, N, P, HL, LR, SC, SR, ST, OU, NR, NW, D) (nI t) w := by
  have ct : (nI t).toNatClampNeg = t := nI_clamp (by omega)
  have it : vp_in (nI t) 12 := vp_in_nI (by omega) (by omega)
  unfold wpX_constant
  exact bx_Tg hn ht (br_f bg_10 ⟨it, nm_r (e' := Q t) (by rw [ct]) ⟨it, nm_r (e' := upd Q t w) (by rw [ct]) hp⟩⟩)
theorem by_constant_g {post : Int32 → SY → Prop} {n t : Nat} {w : Int32} (hn : n ≤ 12) (ht : t < n) (hp : post (Q t) ((nI n), B, E, C, K, (upd Q t w), N, P, OU, ST, HL, L, SC, S, NW)) : wpY_constant post ((nI n), B, E, C, K, Q, N, P, OU, ST, HL, L, SC, S, NW) (nI t) w := by
  have ct : (nI t).toNatClampNeg = t := nI_clamp (by omega)
  have it : vp_in (nI t) 12 := vp_in_nI (by omega) (by omega)
  unfold wpY_constant
  exact by_Tg hn ht (br_t rfl ⟨it, nm_r (e' := Q t) (by rw [ct]) ⟨it, nm_r (e' := upd Q t w) (by rw [ct]) hp⟩⟩)
theorem bx_input_s {post : Int32 → SX → Prop} {n t : Nat} {w : Int32} (hn : n ≤ 12) (ht : t < n) (h : w < 0 ∨ nI (8 + t) ≤ w) (hp : post (-2) ((nI n), B, E, C, K, Q, N, P, HL, LR, SC, SR, ST, OU, NR, NW, D)) : wpX_input post ((nI n), B, E, C, K, Q, N, P, HL, LR, SC, SR, ST, OU, NR, NW, D) (nI t) w := by
  unfold wpX_input
  refine bx_Tg hn ht (br_f bg_10 ?_)
  rw [bg_p8]
  by_cases h0 : w < 0
  · exact br_t h0 hp
  · exact br_f h0 (br_f (Int32.not_lt.mpr (h.resolve_left h0)) hp)
theorem by_input_s {post : Int32 → SY → Prop} {n t : Nat} {w : Int32} (hn : n ≤ 12) (ht : t < n) (h : w < 0 ∨ nI (8 + t) ≤ w) (hp : post (-2) ((nI n), B, E, C, K, Q, N, P, OU, ST, HL, L, SC, S, NW)) : wpY_input post ((nI n), B, E, C, K, Q, N, P, OU, ST, HL, L, SC, S, NW) (nI t) w := by
  unfold wpY_input
  refine by_Tg hn ht (br_t rfl ?_)
  rw [bg_p8]
  by_cases h0 : w < 0
  · exact br_t h0 hp
  · exact br_f h0 (br_f (Int32.not_lt.mpr (h.resolve_left h0)) hp)
theorem bx_input_f {post : Int32 → SX → Prop} {n t j : Nat} (hn : n ≤ 12) (ht : t < n) (hj : j < 8 + t) (hc : N t = nI 3) (hp : post (-4) ((nI n), B, E, C, K, Q, N, P, HL, LR, SC, SR, ST, OU, NR, NW, D)) : wpX_input post ((nI n), B, E, C, K, Q, N, P, HL, LR, SC, SR, ST, OU, NR, NW, D) (nI t) (nI j) := by
  have ct : (nI t).toNatClampNeg = t := nI_clamp (by omega)
  have it : vp_in (nI t) 12 := vp_in_nI (by omega) (by omega)
  unfold wpX_input
  refine bx_Tg hn ht (br_f bg_10 ?_)
  rw [bg_p8]
  refine br_f (nI_pos (by omega)) (br_t (nI_lt hj (by omega)) ⟨it, nm_r (e' := nI 3) (by rw [ct, hc]) (br_f (by decide) hp)⟩)
theorem by_input_f {post : Int32 → SY → Prop} {n t j : Nat} (hn : n ≤ 12) (ht : t < n) (hj : j < 8 + t) (hc : N t = nI 3) (hp : post (-4) ((nI n), B, E, C, K, Q, N, P, OU, ST, HL, L, SC, S, NW)) : wpY_input post ((nI n), B, E, C, K, Q, N, P, OU, ST, HL, L, SC, S, NW) (nI t) (nI j) := by
  have ct : (nI t).toNatClampNeg = t := nI_clamp (by omega)
  have it : vp_in (nI t) 12 := vp_in_nI (by omega) (by omega)
  unfold wpY_input
  refine by_Tg hn ht (br_t rfl ?_)
  rw [bg_p8]
  refine br_f (nI_pos (by omega)) (br_t (nI_lt hj (by omega)) ⟨it, br_t (by rw [ct, hc]; rfl) hp⟩)
theorem bx_input_g {post : Int32 → SX → Prop} {n t j c : Nat} (hn : n ≤ 12) (ht : t < n) (hj : j < 8 + t) (hc : c < 3) (hN : N t = nI c) (hp : post (nI (c + 1)) ((nI n), B, E, C, K, Q, (upd N t (nI (c + 1))), (upd P (t * 3 + c) (nI j)), HL, LR, SC, SR, ST, OU, NR, NW, D)) : wpX_input post ((nI n), B, E, C, K, Q, N, P, HL, LR, SC, SR, ST, OU, NR, NW, D) (nI t) (nI j) := by
  have ct : (nI t).toNatClampNeg = t := nI_clamp (by omega)
  have it : vp_in (nI t) 12 := vp_in_nI (by omega) (by omega)
  have e1 : nI t * 3 + nI c = nI (t * 3 + c) := bg_a (bg_m3 t) rfl
  unfold wpX_input
  refine bx_Tg hn ht (br_f bg_10 ?_)
  rw [bg_p8]
  refine br_f (nI_pos (by omega)) (br_t (nI_lt hj (by omega)) ⟨it, nm_r (e' := nI c) (by rw [ct, hN]) (br_t (nI_lt (b := 3) hc (by decide)) ⟨pk_in (t * 3 + c) 36 (by omega) e1, nm_r (e' := upd P (t * 3 + c) (nI j)) (by rw [e1, nI_clamp (by omega)]) ⟨it, nm_r (e' := upd N t (nI (c + 1))) (by rw [ct, nI_1]) ?_⟩⟩)⟩)
  rw [nI_1]
  exact hp
theorem by_input_g {post : Int32 → SY → Prop} {n t j c : Nat} (hn : n ≤ 12) (ht : t < n) (hj : j < 8 + t) (hc : c < 3) (hN : N t = nI c) (hp : post (nI (c + 1)) ((nI n), B, E, C, K, Q, (upd N t (nI (c + 1))), (upd P (t * 3 + c) (nI j)), OU, ST, HL, L, SC, S, NW)) : wpY_input post ((nI n), B, E, C, K, Q, N, P, OU, ST, HL, L, SC, S, NW) (nI t) (nI j) := by
  have ct : (nI t).toNatClampNeg = t := nI_clamp (by omega)
  have it : vp_in (nI t) 12 := vp_in_nI (by omega) (by omega)
  have e1 : nI t * 3 + nI c = nI (t * 3 + c) := bg_a (bg_m3 t) rfl
  unfold wpY_input
  refine by_Tg hn ht (br_t rfl ?_)
  rw [bg_p8]
  refine br_f (nI_pos (by omega)) (br_t (nI_lt hj (by omega)) ⟨it, br_f (by rw [ct, hN]; exact fun z => absurd ((nI_eq (b := 3) (by omega) (by omega)).mp z) (by omega)) ⟨it, pk_in (t * 3 + c) 36 (by omega) (by rw [ct, hN, e1]), nm_r (e' := upd P (t * 3 + c) (nI j)) (by rw [ct, hN, e1, nI_clamp (by omega)]) ⟨it, it, nm_r (e' := upd N t (nI (c + 1))) (by rw [ct, hN, nI_1]) ⟨it, ?_⟩⟩⟩⟩)
  rw [ct, pk_us]
  exact hp
theorem bx_clean_g {post : Int32 → SX → Prop} {n t : Nat} (hn : n ≤ 12) (ht : t < n) (hp : post (if HL t = 0 then 0 else 1) ((nI n), B, E, C, K, Q, N, P, (upd HL t 0), LR, SC, SR, ST, OU, NR, NW, D)) : wpX_clean post ((nI n), B, E, C, K, Q, N, P, HL, LR, SC, SR, ST, OU, NR, NW, D) (nI t) := by
  have ct : (nI t).toNatClampNeg = t := nI_clamp (by omega)
  have it : vp_in (nI t) 12 := vp_in_nI (by omega) (by omega)
  unfold wpX_clean
  refine bx_Tg hn ht (br_f bg_10 ⟨it, ?_⟩)
  rw [ct]
  by_cases h : HL t = 0
  · rw [if_pos h] at hp
    exact br_t h ⟨it, nm_r (e' := upd HL t 0) (by rw [ct, bg_vb0]) hp⟩
  · rw [if_neg h] at hp
    exact br_f h ⟨it, nm_r (e' := upd HL t 0) (by rw [ct, bg_vb0]) hp⟩
theorem by_clean_g {post : Int32 → SY → Prop} {n t : Nat} (hn : n ≤ 12) (ht : t < n) (hp : post (if HL t = 0 then 0 else 1) ((nI n), B, E, C, K, Q, N, P, OU, ST, (upd HL t 0), L, SC, S, NW)) : wpY_clean post ((nI n), B, E, C, K, Q, N, P, OU, ST, HL, L, SC, S, NW) (nI t) := by
  have ct : (nI t).toNatClampNeg = t := nI_clamp (by omega)
  have it : vp_in (nI t) 12 := vp_in_nI (by omega) (by omega)
  unfold wpY_clean
  refine by_Tg hn ht (br_t rfl ⟨it, ?_⟩)
  rw [ct]
  by_cases h : HL t = 0
  · rw [if_pos h] at hp
    exact br_t h ⟨it, nm_r (e' := upd HL t 0) (by rw [ct, bg_vb0]) hp⟩
  · rw [if_neg h] at hp
    exact br_f h ⟨it, nm_r (e' := upd HL t 0) (by rw [ct, bg_vb0]) hp⟩
theorem bx_empty {post : SX → Prop} (hp : post (T, (nI 0), E, C, K, Q, N, P, HL, LR, (bg_z SC 12), SR, ST, OU, NR, NW, D)) : wpX_emptyStore post (T, B, E, C, K, Q, N, P, HL, LR, SC, SR, ST, OU, NR, NW, D) := by
  refine bg_lq (fun n i => wX_emptyStore_2 post T B E n (nI i) C K Q N P HL LR (bg_z SC i) SR ST OU NR NW D) 12 (fun n => br_t (Int32.le_refl 12) hp) (fun n i hi ih => ?_)
  exact br_f (nI_ge (b := 12) hi (by decide)) ⟨vp_in_nI hi (by omega), nm_r (e' := bg_z SC (i + 1)) (by rw [nI_clamp (by omega)]; rfl) (nm_r (nI_1 i) ih)⟩
theorem by_empty {post : SY → Prop} (hp : post (T, (nI 0), E, C, K, Q, N, P, OU, ST, HL, L, (bg_z SC 12), S, NW)) : wpY_emptyStore post (T, B, E, C, K, Q, N, P, OU, ST, HL, L, SC, S, NW) := by
  refine bg_lq (fun n i => wY_emptyStore_7 post T 0 E n (nI i) C K Q N P OU ST HL L (bg_z SC i) S NW) 12 (fun n => br_t (Int32.le_refl 12) hp) (fun n i hi ih => ?_)
  exact br_f (nI_ge (b := 12) hi (by decide)) ⟨vp_in_nI hi (by omega), nm_r (e' := bg_z SC (i + 1)) (by rw [nI_clamp (by omega)]; rfl) (nm_r (nI_1 i) ih)⟩
theorem bx_status_g {post : Int32 → Prop} {n t : Nat} (hn : n ≤ 12) (ht : t < n) (hp : post (ST t)) : wpX_status post ((nI n), B, E, C, K, Q, N, P, HL, LR, SC, SR, ST, OU, NR, NW, D) (nI t) := by
  unfold wpX_status
  refine bx_Tg hn ht (br_f bg_10 ⟨vp_in_nI (by omega) (by omega), ?_⟩)
  rw [nI_clamp (by omega)]; exact hp
theorem by_status_g {post : Int32 → Prop} {n t : Nat} (hn : n ≤ 12) (ht : t < n) (hp : post (ST t)) : wpY_status post ((nI n), B, E, C, K, Q, N, P, OU, ST, HL, L, SC, S, NW) (nI t) := by
  unfold wpY_status
  refine by_Tg hn ht (br_t rfl ⟨vp_in_nI (by omega) (by omega), ?_⟩)
  rw [nI_clamp (by omega)]; exact hp
theorem bx_output_g {post : Int32 → Prop} {n t : Nat} (hn : n ≤ 12) (ht : t < n) (hp : post (OU t)) : wpX_output post ((nI n), B, E, C, K, Q, N, P, HL, LR, SC, SR, ST, OU, NR, NW, D) (nI t) := by
  unfold wpX_output
  refine bx_Tg hn ht (br_f bg_10 ⟨vp_in_nI (by omega) (by omega), ?_⟩)
  rw [nI_clamp (by omega)]; exact hp
theorem by_output_g {post : Int32 → Prop} {n t : Nat} (hn : n ≤ 12) (ht : t < n) (hp : post (OU t)) : wpY_output post ((nI n), B, E, C, K, Q, N, P, OU, ST, HL, L, SC, S, NW) (nI t) := by
  unfold wpY_output
  refine by_Tg hn ht (br_t rfl ⟨vp_in_nI (by omega) (by omega), ?_⟩)
  rw [nI_clamp (by omega)]; exact hp
theorem bx_fresh_g {post : Int32 → SX → Prop} {n t : Nat} (hn : n ≤ 12) (ht : t < n) (hP : bg_PP P) (hN : bg_NN N) (hp : post (bg_wo C K Q N P NW n t) ((nI n), B, E, C, K, Q, N, P, HL, LR, SC, SR, ST, OU, (bg_nr C K Q N P NW NR n), (bg_wo C K Q N P NW n), D)) : wpX_fresh post ((nI n), B, E, C, K, Q, N, P, HL, LR, SC, SR, ST, OU, NR, NW, D) (nI t) := by
  unfold wpX_fresh
  refine bx_Tg hn ht (br_f bg_10 (bx_wo hn rfl hP hN ⟨vp_in_nI (by omega) (by omega), ?_⟩))
  rw [nI_clamp (by omega)]; exact hp
theorem by_fresh_g {post : Int32 → SY → Prop} {n t : Nat} (hn : n ≤ 12) (ht : t < n) (hK : bg_KK K) (hP : bg_PP P) (hN : bg_NN N) (hp : post (bg_wo C K Q N P NW n t) ((nI n), B, E, C, K, Q, N, P, OU, ST, HL, L, SC, S, (bg_wo C K Q N P NW n))) : wpY_fresh post ((nI n), B, E, C, K, Q, N, P, OU, ST, HL, L, SC, S, NW) (nI t) := by
  unfold wpY_fresh
  refine by_Tg hn ht (br_t rfl (by_wo hn rfl hK hP hN ⟨vp_in_nI (by omega) (by omega), ?_⟩))
  rw [nI_clamp (by omega)]; exact hp
theorem bx_needed_g {post : Int32 → SX → Prop} {n t : Nat} (hn : n ≤ 12) (ht : t < n) (hP : bg_PP P) (hN : bg_NN N) (hp : ∀ D' : Nat → Int32, post (nI (bg_ct (bg_nd P N t) (t + 1))) ((nI n), B, E, C, K, Q, N, P, HL, LR, SC, SR, ST, OU, NR, NW, D')) : wpX_needed post ((nI n), B, E, C, K, Q, N, P, HL, LR, SC, SR, ST, OU, NR, NW, D) (nI t) := by
  unfold wpX_needed
  refine bx_Tg hn ht (br_f bg_10 (bx_mn (by omega) hP hN (fun D' hD => ?_)))
  refine bg_lq (fun m i => wX_needed_19 post (nI t) (nI n) B E C K Q N P HL LR SC SR ST OU NR NW D' m (nI (bg_ct (bg_nd P N t) i)) (nI i)) (t + 1) (fun m => br_t (nI_lt (by omega) (by omega)) (hp D')) (fun m i hi ih => ?_)
  try dsimp only at ih
  refine br_f (nI_nlt (by omega) (by omega)) ⟨vp_in_nI (by omega) (by omega), ?_⟩
  rw [nI_clamp (by omega), hD i (by omega)]
  by_cases h : bg_nd P N t i = true
  · rw [bg_ct_t h] at ih
    rw [bg_bi_t h]
    exact br_f bg_10 (nm_r (nI_1 _) (nm_r (nI_1 i) ih))
  · rw [bg_ct_f h] at ih
    rw [bg_bi_f h]
    exact br_t rfl (nm_r (nI_1 i) ih)
theorem by_needed_g {post : Int32 → Prop} {n t : Nat} (hn : n ≤ 12) (ht : t < n) (hP : bg_PP P) (hN : bg_NN N) (hp : post (nI (bg_ct (bg_nd P N t) 12))) : wpY_needed post ((nI n), B, E, C, K, Q, N, P, OU, ST, HL, L, SC, S, NW) (nI t) := by
  unfold wpY_needed
  refine by_Tg hn ht (br_t rfl (by_nd (by omega) hP hN (fun q hq hb => ?_)))
  refine bg_lq (fun m i => wY_needed_21 post (nI q) (nI n) B E C K Q N P OU ST HL L SC S NW m (nI (bg_ct (bg_nd P N t) i)) (nI i)) 12 (fun m => br_t (Int32.le_refl 12) hp) (fun m i hi ih => ?_)
  try dsimp only at ih
  refine br_f (nI_ge (b := 12) hi (by decide)) (nm_r (e' := nI (bg_ct (bg_nd P N t) (i + 1))) ?_ (nm_r (nI_1 i) ih))
  rw [bg_bit' hq hi, hb i hi]
  by_cases h : bg_nd P N t i = true
  · rw [bg_ct_t h, if_pos h]; exact nI_1 _
  · rw [bg_ct_f h, if_neg h]; exact Int32.add_zero _
theorem bx_executed {post : Int32 → Prop} (hp : post E) : wpX_executed post (T, B, E, C, K, Q, N, P, HL, LR, SC, SR, ST, OU, NR, NW, D) := hp
theorem by_executed {post : Int32 → Prop} (hp : post E) : wpY_executed post (T, B, E, C, K, Q, N, P, OU, ST, HL, L, SC, S, NW) := hp
end BGP
end
section
section BGB
variable {T B E : Int32} {C K Q N P HL LR SC SR ST OU NR NW D L S : Nat → Int32}
/-! work, stale and build -/
theorem bx_work_g {post : Int32 → SX → Prop} {n b t : Nat} {l o : Nat → Bool} (h : bg_R n b K N P HL LR SC SR L S) (ht : t < n) (hl : ∀ j, j < n → (l j = true ↔ bg_lx HL LR (bg_rc C K Q N P (bg_wo C K Q N P NW n)) j)) (ho : ∀ j, j < n → (o j = true ↔ bg_sx SC SR (bg_rc C K Q N P (bg_wo C K Q N P NW n)) j)) (hp : ∀ NR' D' : Nat → Int32, post (nI (bg_ct (bg_Ev (bg_nd P N t) l o) (t + 1))) ((nI n), B, E, C, K, Q, N, P, HL, LR, SC, SR, ST, OU, NR', (bg_wo C K Q N P NW n), D')) : wpX_work post ((nI n), B, E, C, K, Q, N, P, HL, LR, SC, SR, ST, OU, NR, NW, D) (nI t) := by
  obtain ⟨hn, hb, hK, hN, hP, hL, hS⟩ := h
  have hR : ∀ j, j < n → ∀ i, i < 6 → bg_nr C K Q N P NW NR n (j * 6 + i) = bg_rc C K Q N P (bg_wo C K Q N P NW n) j i := fun j hj i hi => bg_nr_s hP hi n hj hn
  unfold wpX_work
  refine bx_Tg hn ht (br_f bg_10 (bx_wo hn rfl hP hN (bx_mn (by omega) hP hN (fun D' hD => ?_))))
  refine bg_lq (fun m i => wX_work_23 post (nI t) (nI n) B E C K Q N P HL LR SC SR ST OU (bg_nr C K Q N P NW NR n) (bg_wo C K Q N P NW n) D' m (nI (bg_ct (bg_Ev (bg_nd P N t) l o) i)) (nI i)) (t + 1) (fun m => br_t (nI_lt (by omega) (by omega)) (hp _ D')) (fun m i hi ih => ?_)
  try dsimp only at ih
  refine br_f (nI_nlt (by omega) (by omega)) ⟨vp_in_nI (by omega) (by omega), ?_⟩
  rw [nI_clamp (by omega), hD i (by omega)]
  by_cases hd : bg_nd P N t i = true
  · rw [bg_bi_t hd]
    obtain ⟨s, h1, h2, _⟩ := hS i (by omega)
    refine br_f bg_10 (bx_sn (s := s) (by omega) (by omega) h2 (hR i (by omega)) (hl i (by omega)) (ho i (by omega)) ?_)
    by_cases hx : bg_ex (l i) (o i) = true
    · rw [bg_ct_t ((bg_Ev_t hd).trans hx)] at ih
      exact br_t (bg_sv_3.mpr hx) (nm_r (nI_1 _) (nm_r (nI_1 i) ih))
    · rw [bg_ct_f (by rw [bg_Ev_t hd]; exact hx)] at ih
      exact br_f (fun z => hx (bg_sv_3.mp z)) (nm_r (nI_1 i) ih)
  · rw [bg_ct_f (bg_Ev_f hd)] at ih
    rw [bg_bi_f hd]
    exact br_t rfl (nm_r (nI_1 i) ih)
theorem by_work_g {post : Int32 → SY → Prop} {n b t : Nat} {l o : Nat → Bool} (h : bg_R n b K N P HL LR SC SR L S) (ht : t < n) (hl : ∀ j, j < n → (l j = true ↔ bg_ly HL L (bg_rc C K Q N P (bg_wo C K Q N P NW n)) j)) (ho : ∀ j, j < n → (o j = true ↔ bg_sy SC S (bg_rc C K Q N P (bg_wo C K Q N P NW n)) j)) (hp : post (nI (bg_ct (bg_Ev (bg_nd P N t) l o) n)) ((nI n), B, E, C, K, Q, N, P, OU, ST, HL, L, SC, S, (bg_wo C K Q N P NW n))) : wpY_work post ((nI n), B, E, C, K, Q, N, P, OU, ST, HL, L, SC, S, NW) (nI t) := by
  obtain ⟨hn, hb, hK, hN, hP, hL, hS⟩ := h
  unfold wpY_work
  refine by_Tg hn ht (br_t rfl (by_wo hn rfl hK hP hN (by_nd (by omega) hP hN (fun q hq hb2 => ?_))))
  refine bg_lq (fun m i => wY_work_25 post (nI q) (nI n) B E C K Q N P OU ST HL L SC S (bg_wo C K Q N P NW n) m (nI (bg_ct (bg_Ev (bg_nd P N t) l o) i)) (nI i)) n (fun m => br_t (Int32.le_refl _) hp) (fun m i hi ih => ?_)
  try dsimp only at ih
  refine br_f (nI_ge hi (by omega)) ?_
  rw [bg_bit' hq (by omega), hb2 i (by omega)]
  by_cases hd : bg_nd P N t i = true
  · rw [if_pos hd]
    obtain ⟨s, h1, h2, _⟩ := hS i (by omega)
    have lf : ∀ z : Bool, ¬ z = true → z = false := fun z hz => Bool.eq_false_iff.mpr hz
    refine br_t rfl (by_iL (by omega) hP (fun z => ?_) (fun z => ?_))
    · rw [bg_ct_f (by rw [bg_Ev_t hd, (hl i hi).mpr z]; exact fun w => Bool.noConfusion w)] at ih
      exact br_f bg_10 (nm_r (nI_1 i) ih)
    · refine br_t rfl (by_iS (s := s) (by omega) (by omega) h2 hP (fun y => ?_) (fun y => ?_))
      · rw [bg_ct_f (by rw [bg_Ev_t hd, (ho i hi).mpr y, lf _ (fun w => z ((hl i hi).mp w))]; exact fun w => Bool.noConfusion w)] at ih
        exact br_f bg_10 (nm_r (nI_1 i) ih)
      · rw [bg_ct_t (by rw [bg_Ev_t hd, lf _ (fun w => z ((hl i hi).mp w)), lf _ (fun w => y ((ho i hi).mp w))]; rfl)] at ih
        exact br_t rfl (nm_r (nI_1 _) (nm_r (nI_1 i) ih))
  · rw [bg_ct_f (bg_Ev_f hd)] at ih
    rw [if_neg hd]
    exact br_f (by decide) (nm_r (nI_1 i) ih)
theorem bx_stale {post : Int32 → SX → Prop} {n b : Nat} {l : Nat → Bool} (h : bg_R n b K N P HL LR SC SR L S) (hl : ∀ j, j < n → (l j = false ↔ bg_lx HL LR (bg_rc C K Q N P (bg_wo C K Q N P NW n)) j)) (hp : ∀ NR' : Nat → Int32, post (nI (bg_ct l n)) ((nI n), B, E, C, K, Q, N, P, HL, LR, SC, SR, ST, OU, NR', (bg_wo C K Q N P NW n), D)) : wpX_stale post ((nI n), B, E, C, K, Q, N, P, HL, LR, SC, SR, ST, OU, NR, NW, D) := by
  obtain ⟨hn, hb, hK, hN, hP, hL, hS⟩ := h
  have hR : ∀ j, j < n → ∀ i, i < 6 → bg_nr C K Q N P NW NR n (j * 6 + i) = bg_rc C K Q N P (bg_wo C K Q N P NW n) j i := fun j hj i hi => bg_nr_s hP hi n hj hn
  unfold wpX_stale
  refine bx_wo hn rfl hP hN ?_
  refine bg_lq (fun m i => wX_stale_8 post (nI n) B E C K Q N P HL LR SC SR ST OU (bg_nr C K Q N P NW NR n) (bg_wo C K Q N P NW n) D m (nI (bg_ct l i)) (nI i)) n (fun m => br_t (Int32.le_refl _) (hp _)) (fun m i hi ih => ?_)
  try dsimp only at ih
  refine br_f (nI_ge hi (by omega)) (bx_iL (by omega) (hR i hi) (fun z => ?_) (fun z => ?_))
  · rw [bg_ct_f (by rw [(hl i hi).mpr z]; exact fun w => Bool.noConfusion w)] at ih
    exact br_f bg_10 (nm_r (nI_1 i) ih)
  · rw [bg_ct_t ((Bool.not_eq_false _).mp (fun w => z ((hl i hi).mp w)))] at ih
    exact br_t rfl (nm_r (nI_1 _) (nm_r (nI_1 i) ih))
theorem by_stale {post : Int32 → SY → Prop} {n b : Nat} {l : Nat → Bool} (h : bg_R n b K N P HL LR SC SR L S) (hl : ∀ j, j < n → (l j = false ↔ bg_ly HL L (bg_rc C K Q N P (bg_wo C K Q N P NW n)) j)) (hp : post (nI (bg_ct l n)) ((nI n), B, E, C, K, Q, N, P, OU, ST, HL, L, SC, S, (bg_wo C K Q N P NW n))) : wpY_stale post ((nI n), B, E, C, K, Q, N, P, OU, ST, HL, L, SC, S, NW) := by
  obtain ⟨hn, hb, hK, hN, hP, hL, hS⟩ := h
  unfold wpY_stale
  refine by_wo hn rfl hK hP hN ?_
  refine bg_lq (fun m i => wY_stale_8 post (nI n) B E C K Q N P OU ST HL L SC S (bg_wo C K Q N P NW n) m (nI (bg_ct l i)) (nI i)) n (fun m => br_t (Int32.le_refl _) hp) (fun m i hi ih => ?_)
  try dsimp only at ih
  refine br_f (nI_ge hi (by omega)) (by_iL (by omega) hP (fun z => ?_) (fun z => ?_))
  · rw [bg_ct_f (by rw [(hl i hi).mpr z]; exact fun w => Bool.noConfusion w)] at ih
    exact br_f bg_10 (nm_r (nI_1 i) ih)
  · rw [bg_ct_t ((Bool.not_eq_false _).mp (fun w => z ((hl i hi).mp w)))] at ih
    exact br_t rfl (nm_r (nI_1 _) (nm_r (nI_1 i) ih))
theorem bx_build_f {post : Int32 → SX → Prop} {n t : Nat} (hn : n ≤ 12) (ht : t < n) (hp : post (-4) ((nI n), (nI 40), E, C, K, Q, N, P, HL, LR, SC, SR, ST, OU, NR, NW, D)) : wpX_build post ((nI n), (nI 40), E, C, K, Q, N, P, HL, LR, SC, SR, ST, OU, NR, NW, D) (nI t) := by
  unfold wpX_build
  exact bx_Tg hn ht (br_f bg_10 (br_f (by decide) hp))
theorem by_build_f {post : Int32 → SY → Prop} {n t : Nat} (hn : n ≤ 12) (ht : t < n) (hp : post (-4) ((nI n), (nI 40), E, C, K, Q, N, P, OU, ST, HL, L, SC, S, NW)) : wpY_build post ((nI n), (nI 40), E, C, K, Q, N, P, OU, ST, HL, L, SC, S, NW) (nI t) := by
  unfold wpY_build
  exact by_Tg hn ht (br_t rfl (br_t rfl hp))
theorem bx_build_g {post : Int32 → SX → Prop} {n b t : Nat} {l o : Nat → Bool} (h : bg_R n b K N P HL LR SC SR L S) (ht : t < n) (hb : b < 40) (hl : ∀ j, j < n → (l j = true ↔ bg_lx HL LR (bg_rc C K Q N P (bg_wo C K Q N P NW n)) j)) (ho : ∀ j, j < n → (o j = true ↔ bg_sx SC SR (bg_rc C K Q N P (bg_wo C K Q N P NW n)) j)) (hp : ∀ NR' D' : Nat → Int32, post (nI (bg_ct (bg_Ev (bg_nd P N t) l o) n)) ((nI n), (nI (b + 1)), (E + nI (bg_ct (bg_Ev (bg_nd P N t) l o) n)), C, K, Q, N, P, (bg_u1 (bg_nd P N t) (fun _ => 1) HL n), (bg_ur (bg_nd P N t) (bg_rc C K Q N P (bg_wo C K Q N P NW n)) (fun t => t * 6) 6 LR n), (bg_u1 (bg_Ev (bg_nd P N t) l o) (fun t => SC t + 1) SC n), (bg_ur (bg_Ev (bg_nd P N t) l o) (bg_rc C K Q N P (bg_wo C K Q N P NW n)) (fun t => t * 240 + (SC t).toNatClampNeg * 6) 6 SR n), (bg_st (bg_nd P N t) (fun j => bg_sv (l j) (o j)) ST n), (bg_u1 (bg_nd P N t) (bg_wo C K Q N P NW n) OU n), NR', (bg_wo C K Q N P NW n), D')) : wpX_build post ((nI n), (nI b), E, C, K, Q, N, P, HL, LR, SC, SR, ST, OU, NR, NW, D) (nI t) := by
  obtain ⟨hn, _, hK, hN, hP, hL, hS⟩ := h
  have hR : ∀ j, j < n → ∀ i, i < 6 → bg_nr C K Q N P NW NR n (j * 6 + i) = bg_rc C K Q N P (bg_wo C K Q N P NW n) j i := fun j hj i hi => bg_nr_s hP hi n hj hn
  unfold wpX_build
  refine bx_Tg hn ht (br_f bg_10 (br_t (nI_lt (b := 40) hb (by decide)) (bx_wo hn rfl hP hN (bx_mn (by omega) hP hN (fun D' hD => ?_)))))
  refine bx_bl hn (fun t ht => ?_) hR hD hl ho ?_
  · obtain ⟨s, h1, h2, _⟩ := hS t ht
    exact ⟨s, by omega, h2⟩
  · rw [nI_1]
    exact hp _ D'
theorem by_build_g {post : Int32 → SY → Prop} {n b t : Nat} {l o : Nat → Bool} (h : bg_R n b K N P HL LR SC SR L S) (ht : t < n) (hb : b < 40) (hl : ∀ j, j < n → (l j = true ↔ bg_ly HL L (bg_rc C K Q N P (bg_wo C K Q N P NW n)) j)) (ho : ∀ j, j < n → (o j = true ↔ bg_sy SC S (bg_rc C K Q N P (bg_wo C K Q N P NW n)) j)) (hp : post (nI (bg_ct (bg_Ev (bg_nd P N t) l o) n)) ((nI n), (nI (b + 1)), (E + nI (bg_ct (bg_Ev (bg_nd P N t) l o) n)), C, K, Q, N, P, (bg_u1 (bg_nd P N t) (bg_wo C K Q N P NW n) OU n), (bg_st (bg_nd P N t) (fun j => bg_sv (l j) (o j)) ST n), (bg_u1 (bg_nd P N t) (fun _ => 1) HL n), (bg_ur (bg_nd P N t) (fun t j => bg_rc C K Q N P (bg_wo C K Q N P NW n) t (j + 1)) (fun t => t * 5) 5 L n), (bg_u1 (bg_Ev (bg_nd P N t) l o) (fun t => SC t + 1) SC n), (bg_ur (bg_Ev (bg_nd P N t) l o) (fun t j => bg_rc C K Q N P (bg_wo C K Q N P NW n) t (j + 1)) (fun t => (t * 40 + (SC t).toNatClampNeg) * 5) 5 S n), (bg_wo C K Q N P NW n))) : wpY_build post ((nI n), (nI b), E, C, K, Q, N, P, OU, ST, HL, L, SC, S, NW) (nI t) := by
  obtain ⟨hn, _, hK, hN, hP, hL, hS⟩ := h
  unfold wpY_build
  refine by_Tg hn ht (br_t rfl (br_f (fun z => absurd ((nI_eq (b := 40) (by omega) (by omega)).mp z) (by omega)) (nm_r (nI_1 b) (by_wo hn rfl hK hP hN (by_nd (by omega) hP hN (fun q hq hb2 => ?_))))))
  refine by_bl hn (fun t ht => ?_) hP hq hb2 hl ho ?_
  · obtain ⟨s, h1, h2, _⟩ := hS t ht
    exact ⟨s, by omega, h2⟩
  · rw [show E + nI (bg_ct (bg_Ev (bg_nd P N t) l o) n) - E = nI (bg_ct (bg_Ev (bg_nd P N t) l o) n) from by rw [Int32.add_comm E, Int32.add_sub_cancel]]
    exact hp
end BGB
end
section
/-! the relation, and what is owed -/
def i_Rel (_ : Nat) (u : SX) (v : SY) : Prop := ∃ (n b : Nat) (E : Int32) (C K Q N P HL LR SC SR ST OU NR NW D L S : Nat → Int32), u = ((nI n), (nI b), E, C, K, Q, N, P, HL, LR, SC, SR, ST, OU, NR, NW, D) ∧ v = ((nI n), (nI b), E, C, K, Q, N, P, OU, ST, HL, L, SC, S, NW) ∧ bg_R n b K N P HL LR SC SR L S
theorem bg_I {k n b : Nat} {E : Int32} {C K Q N P HL LR SC SR ST OU NR NW D L S : Nat → Int32} (h : bg_R n b K N P HL LR SC SR L S) : i_Rel k ((nI n), (nI b), E, C, K, Q, N, P, HL, LR, SC, SR, ST, OU, NR, NW, D) ((nI n), (nI b), E, C, K, Q, N, P, OU, ST, HL, L, SC, S, NW) := ⟨n, b, E, C, K, Q, N, P, HL, LR, SC, SR, ST, OU, NR, NW, D, L, S, rfl, rfl, h⟩
theorem i_up {k : Nat} {u : SX} {v : SY} (h : i_Rel k u v) : i_Rel (k + 3) u v := h
theorem i_vc0 : wpX_init (fun u => wpY_init (fun v => i_Rel 0 u v)) := bg_I (k := 0) bg_R_0
theorem i_vc_content {k : Nat} {u : SX} {v : SY} (I : i_Rel k u v) (hk : k + 3 ≤ 1536) (v1 : Int32) (v2 : Int32) : wpX_content (fun r u' => wpY_content (fun r' v' => r' = r ∧ i_Rel (k + 3) u' v') v v1 v2) u v1 v2 := by
  obtain ⟨n, b, E, C, K, Q, N, P, HL, LR, SC, SR, ST, OU, NR, NW, D, L, S, rfl, rfl, h⟩ := I
  rcases pk_ix v1 (n := 8) (by omega) with hv | hv | ⟨t, ht, rfl⟩
  · exact bx_content_b (Or.inl hv) (by_content_b (Or.inl hv) ⟨rfl, bg_I h⟩)
  · exact bx_content_b (Or.inr hv) (by_content_b (Or.inr hv) ⟨rfl, bg_I h⟩)
  · exact bx_content_g ht (by_content_g ht ⟨rfl, bg_I h⟩)
theorem i_vc_task {k : Nat} {u : SX} {v : SY} (I : i_Rel k u v) (hk : k + 3 ≤ 1536) (v1 : Int32) (v2 : Int32) : wpX_task (fun r u' => wpY_task (fun r' v' => r' = r ∧ i_Rel (k + 3) u' v') v v1 v2) u v1 v2 := by
  obtain ⟨n, b, E, C, K, Q, N, P, HL, LR, SC, SR, ST, OU, NR, NW, D, L, S, rfl, rfl, h⟩ := I
  have hn := h.1
  by_cases h12 : n = 12
  · subst h12
    exact bx_task_f (by_task_f ⟨rfl, bg_I h⟩)
  · have hlt : n < 12 := by omega
    exact bx_task_g hlt (by_task_g hlt ⟨rfl, bg_I (bg_R_task h hlt v1)⟩)
theorem i_vc_input {k : Nat} {u : SX} {v : SY} (I : i_Rel k u v) (hk : k + 3 ≤ 1536) (v1 : Int32) (v2 : Int32) : wpX_input (fun r u' => wpY_input (fun r' v' => r' = r ∧ i_Rel (k + 3) u' v') v v1 v2) u v1 v2 := by
  obtain ⟨n, b, E, C, K, Q, N, P, HL, LR, SC, SR, ST, OU, NR, NW, D, L, S, rfl, rfl, h⟩ := I
  have hn := h.1
  rcases pk_ix v1 (n := n) (by omega) with hv | hv | ⟨t, ht, rfl⟩
  · exact bx_input_b (Or.inl hv) (by_input_b (Or.inl hv) ⟨rfl, bg_I h⟩)
  · exact bx_input_b (Or.inr hv) (by_input_b (Or.inr hv) ⟨rfl, bg_I h⟩)
  · rcases pk_ix v2 (n := 8 + t) (by omega) with hw | hw | ⟨j, hj, rfl⟩
    · exact bx_input_s hn ht (Or.inl hw) (by_input_s hn ht (Or.inl hw) ⟨rfl, bg_I h⟩)
    · exact bx_input_s hn ht (Or.inr hw) (by_input_s hn ht (Or.inr hw) ⟨rfl, bg_I h⟩)
    · obtain ⟨c, hc, e⟩ := h.2.2.2.1 t
      by_cases h3 : c = 3
      · subst h3
        exact bx_input_f hn ht hj e (by_input_f hn ht hj e ⟨rfl, bg_I h⟩)
      · have hc3 : c < 3 := by omega
        exact bx_input_g hn ht hj hc3 e (by_input_g hn ht hj hc3 e ⟨rfl, bg_I (bg_R_input h (by omega) hc3 hj)⟩)
theorem i_vc_constant {k : Nat} {u : SX} {v : SY} (I : i_Rel k u v) (hk : k + 3 ≤ 1536) (v1 : Int32) (v2 : Int32) : wpX_constant (fun r u' => wpY_constant (fun r' v' => r' = r ∧ i_Rel (k + 3) u' v') v v1 v2) u v1 v2 := by
  obtain ⟨n, b, E, C, K, Q, N, P, HL, LR, SC, SR, ST, OU, NR, NW, D, L, S, rfl, rfl, h⟩ := I
  have hn := h.1
  rcases pk_ix v1 (n := n) (by omega) with hv | hv | ⟨t, ht, rfl⟩
  · exact bx_constant_b (Or.inl hv) (by_constant_b (Or.inl hv) ⟨rfl, bg_I h⟩)
  · exact bx_constant_b (Or.inr hv) (by_constant_b (Or.inr hv) ⟨rfl, bg_I h⟩)
  · exact bx_constant_g hn ht (by_constant_g hn ht ⟨rfl, bg_I h⟩)
theorem i_vc_build {k : Nat} {u : SX} {v : SY} (I : i_Rel k u v) (hk : k + 3 ≤ 1536) (v1 : Int32) : wpX_build (fun r u' => wpY_build (fun r' v' => r' = r ∧ i_Rel (k + 3) u' v') v v1) u v1 := by
  obtain ⟨n, b, E, C, K, Q, N, P, HL, LR, SC, SR, ST, OU, NR, NW, D, L, S, rfl, rfl, h⟩ := I
  have hn := h.1
  have hb := h.2.1
  rcases pk_ix v1 (n := n) (by omega) with hv | hv | ⟨t, ht, rfl⟩
  · exact bx_build_b (Or.inl hv) (by_build_b (Or.inl hv) ⟨rfl, bg_I h⟩)
  · exact bx_build_b (Or.inr hv) (by_build_b (Or.inr hv) ⟨rfl, bg_I h⟩)
  · by_cases h40 : b = 40
    · subst h40
      exact bx_build_f hn ht (by_build_f hn ht ⟨rfl, bg_I h⟩)
    · have hlt : b < 40 := by omega
      refine bx_build_g (l := fun j => bg_dc (bg_lx HL LR (bg_rc C K Q N P (bg_wo C K Q N P NW n)) j)) (o := fun j => bg_dc (bg_sx SC SR (bg_rc C K Q N P (bg_wo C K Q N P NW n)) j)) h ht hlt (fun j hj => bg_dc_i) (fun j hj => bg_dc_i) (fun NR' D' => ?_)
      refine by_build_g (l := fun j => bg_dc (bg_lx HL LR (bg_rc C K Q N P (bg_wo C K Q N P NW n)) j)) (o := fun j => bg_dc (bg_sx SC SR (bg_rc C K Q N P (bg_wo C K Q N P NW n)) j)) h ht hlt (fun j hj => bg_dc_i.trans (bg_lxy h.2.2.2.2.2.1 (by omega) rfl)) (fun j hj => bg_dc_i.trans (bg_sxy h.2.2.2.2.2.2 hb (by omega) rfl)) ?_
      exact ⟨rfl, bg_I (bg_R_build h hlt (fun t => rfl))⟩
theorem i_vc_clean {k : Nat} {u : SX} {v : SY} (I : i_Rel k u v) (hk : k + 3 ≤ 1536) (v1 : Int32) : wpX_clean (fun r u' => wpY_clean (fun r' v' => r' = r ∧ i_Rel (k + 3) u' v') v v1) u v1 := by
  obtain ⟨n, b, E, C, K, Q, N, P, HL, LR, SC, SR, ST, OU, NR, NW, D, L, S, rfl, rfl, h⟩ := I
  have hn := h.1
  rcases pk_ix v1 (n := n) (by omega) with hv | hv | ⟨t, ht, rfl⟩
  · exact bx_clean_b (Or.inl hv) (by_clean_b (Or.inl hv) ⟨rfl, bg_I h⟩)
  · exact bx_clean_b (Or.inr hv) (by_clean_b (Or.inr hv) ⟨rfl, bg_I h⟩)
  · exact bx_clean_g hn ht (by_clean_g hn ht ⟨rfl, bg_I (bg_R_clean h t)⟩)
theorem i_vc_emptyStore {k : Nat} {u : SX} {v : SY} (I : i_Rel k u v) (hk : k + 3 ≤ 1536) : wpX_emptyStore (fun u' => wpY_emptyStore (fun v' => i_Rel (k + 3) u' v') v) u := by
  obtain ⟨n, b, E, C, K, Q, N, P, HL, LR, SC, SR, ST, OU, NR, NW, D, L, S, rfl, rfl, h⟩ := I
  exact bx_empty (by_empty (bg_I (bg_R_empty h)))
theorem i_vc_status {k : Nat} {u : SX} {v : SY} (I : i_Rel k u v) (hk : k + 3 ≤ 1536) (v1 : Int32) : wpX_status (fun r => wpY_status (fun r' => r' = r ∧ i_Rel (k + 3) u v) v v1) u v1 := by
  have J := i_up I
  obtain ⟨n, b, E, C, K, Q, N, P, HL, LR, SC, SR, ST, OU, NR, NW, D, L, S, rfl, rfl, h⟩ := I
  have hn := h.1
  rcases pk_ix v1 (n := n) (by omega) with hv | hv | ⟨t, ht, rfl⟩
  · exact bx_status_b (Or.inl hv) (by_status_b (Or.inl hv) ⟨rfl, J⟩)
  · exact bx_status_b (Or.inr hv) (by_status_b (Or.inr hv) ⟨rfl, J⟩)
  · exact bx_status_g hn ht (by_status_g hn ht ⟨rfl, J⟩)
theorem i_vc_output {k : Nat} {u : SX} {v : SY} (I : i_Rel k u v) (hk : k + 3 ≤ 1536) (v1 : Int32) : wpX_output (fun r => wpY_output (fun r' => r' = r ∧ i_Rel (k + 3) u v) v v1) u v1 := by
  have J := i_up I
  obtain ⟨n, b, E, C, K, Q, N, P, HL, LR, SC, SR, ST, OU, NR, NW, D, L, S, rfl, rfl, h⟩ := I
  have hn := h.1
  rcases pk_ix v1 (n := n) (by omega) with hv | hv | ⟨t, ht, rfl⟩
  · exact bx_output_b (Or.inl hv) (by_output_b (Or.inl hv) ⟨rfl, J⟩)
  · exact bx_output_b (Or.inr hv) (by_output_b (Or.inr hv) ⟨rfl, J⟩)
  · exact bx_output_g hn ht (by_output_g hn ht ⟨rfl, J⟩)
theorem i_vc_fresh {k : Nat} {u : SX} {v : SY} (I : i_Rel k u v) (hk : k + 3 ≤ 1536) (v1 : Int32) : wpX_fresh (fun r u' => wpY_fresh (fun r' v' => r' = r ∧ i_Rel (k + 3) u' v') v v1) u v1 := by
  obtain ⟨n, b, E, C, K, Q, N, P, HL, LR, SC, SR, ST, OU, NR, NW, D, L, S, rfl, rfl, h⟩ := I
  have hn := h.1
  rcases pk_ix v1 (n := n) (by omega) with hv | hv | ⟨t, ht, rfl⟩
  · exact bx_fresh_b (Or.inl hv) (by_fresh_b (Or.inl hv) ⟨rfl, bg_I h⟩)
  · exact bx_fresh_b (Or.inr hv) (by_fresh_b (Or.inr hv) ⟨rfl, bg_I h⟩)
  · exact bx_fresh_g hn ht h.2.2.2.2.1 h.2.2.2.1 (by_fresh_g hn ht h.2.2.1 h.2.2.2.2.1 h.2.2.2.1 ⟨rfl, bg_I h⟩)
theorem i_vc_needed {k : Nat} {u : SX} {v : SY} (I : i_Rel k u v) (hk : k + 3 ≤ 1536) (v1 : Int32) : wpX_needed (fun r u' => wpY_needed (fun r' => r' = r ∧ i_Rel (k + 3) u' v) v v1) u v1 := by
  obtain ⟨n, b, E, C, K, Q, N, P, HL, LR, SC, SR, ST, OU, NR, NW, D, L, S, rfl, rfl, h⟩ := I
  have hn := h.1
  have hN := h.2.2.2.1
  have hP := h.2.2.2.2.1
  rcases pk_ix v1 (n := n) (by omega) with hv | hv | ⟨t, ht, rfl⟩
  · exact bx_needed_b (Or.inl hv) (by_needed_b (Or.inl hv) ⟨rfl, bg_I h⟩)
  · exact bx_needed_b (Or.inr hv) (by_needed_b (Or.inr hv) ⟨rfl, bg_I h⟩)
  · refine bx_needed_g hn ht hP hN (fun D' => by_needed_g hn ht hP hN ⟨?_, bg_I h⟩)
    exact congrArg nI (bg_ct_m 12 (by omega) (fun j h1 h2 => bg_nd_lt hP hN (by omega) (by omega)))
theorem i_vc_work {k : Nat} {u : SX} {v : SY} (I : i_Rel k u v) (hk : k + 3 ≤ 1536) (v1 : Int32) : wpX_work (fun r u' => wpY_work (fun r' v' => r' = r ∧ i_Rel (k + 3) u' v') v v1) u v1 := by
  obtain ⟨n, b, E, C, K, Q, N, P, HL, LR, SC, SR, ST, OU, NR, NW, D, L, S, rfl, rfl, h⟩ := I
  have hn := h.1
  have hb := h.2.1
  have hN := h.2.2.2.1
  have hP := h.2.2.2.2.1
  rcases pk_ix v1 (n := n) (by omega) with hv | hv | ⟨t, ht, rfl⟩
  · exact bx_work_b (Or.inl hv) (by_work_b (Or.inl hv) ⟨rfl, bg_I h⟩)
  · exact bx_work_b (Or.inr hv) (by_work_b (Or.inr hv) ⟨rfl, bg_I h⟩)
  · refine bx_work_g (l := fun j => bg_dc (bg_lx HL LR (bg_rc C K Q N P (bg_wo C K Q N P NW n)) j)) (o := fun j => bg_dc (bg_sx SC SR (bg_rc C K Q N P (bg_wo C K Q N P NW n)) j)) h ht (fun j hj => bg_dc_i) (fun j hj => bg_dc_i) (fun NR' D' => ?_)
    refine by_work_g (l := fun j => bg_dc (bg_lx HL LR (bg_rc C K Q N P (bg_wo C K Q N P NW n)) j)) (o := fun j => bg_dc (bg_sx SC SR (bg_rc C K Q N P (bg_wo C K Q N P NW n)) j)) h ht (fun j hj => bg_dc_i.trans (bg_lxy h.2.2.2.2.2.1 (by omega) rfl)) (fun j hj => bg_dc_i.trans (bg_sxy h.2.2.2.2.2.2 hb (by omega) rfl)) ?_
    refine ⟨congrArg nI (bg_ct_m n (by omega) (fun j h1 h2 => ?_)), bg_I h⟩
    exact Bool.eq_false_iff.mpr (bg_Ev_f (by rw [bg_nd_lt hP hN (by omega) (by omega)]; decide))
theorem i_vc_executed {k : Nat} {u : SX} {v : SY} (I : i_Rel k u v) (hk : k + 3 ≤ 1536) : wpX_executed (fun r => wpY_executed (fun r' => r' = r ∧ i_Rel (k + 3) u v) v) u := by
  have J := i_up I
  obtain ⟨n, b, E, C, K, Q, N, P, HL, LR, SC, SR, ST, OU, NR, NW, D, L, S, rfl, rfl, h⟩ := I
  exact bx_executed (by_executed ⟨rfl, J⟩)
theorem i_vc_stale {k : Nat} {u : SX} {v : SY} (I : i_Rel k u v) (hk : k + 3 ≤ 1536) : wpX_stale (fun r u' => wpY_stale (fun r' v' => r' = r ∧ i_Rel (k + 3) u' v') v) u := by
  obtain ⟨n, b, E, C, K, Q, N, P, HL, LR, SC, SR, ST, OU, NR, NW, D, L, S, rfl, rfl, h⟩ := I
  have hn := h.1
  have nf : ∀ p : Prop, (!bg_dc p) = false ↔ p := fun p => by rw [Bool.not_eq_false']; exact bg_dc_i
  refine bx_stale (l := fun j => !bg_dc (bg_lx HL LR (bg_rc C K Q N P (bg_wo C K Q N P NW n)) j)) h (fun j hj => nf _) (fun NR' => ?_)
  exact by_stale (l := fun j => !bg_dc (bg_lx HL LR (bg_rc C K Q N P (bg_wo C K Q N P NW n)) j)) h (fun j hj => (nf _).trans (bg_lxy h.2.2.2.2.2.1 (by omega) rfl)) ⟨rfl, bg_I h⟩
end
