/-! numbers: rows of the kit to paste, and a few of my own -/
theorem pk_us {f : Nat → Int32} {k : Nat} {x : Int32} : upd f k x k = x := if_pos rfl
theorem pk_un {f : Nat → Int32} {k j : Nat} {x : Int32} (h : j ≠ k) : upd f k x j = f j := if_neg h
theorem pk_sub {a b : Nat} (h : b ≤ a) : nI a - nI b = nI (a - b) := by
  obtain ⟨c, rfl⟩ : ∃ c, a = c + b := ⟨a - b, by omega⟩
  rw [← nI_add, Int32.add_sub_cancel, Nat.add_sub_cancel]
theorem pk_m1 (n : Nat) : nI (n + 1) + (-1) = nI n := by
  rw [← nI_1, Int32.add_assoc, show (1 : Int32) + (-1) = 0 from rfl, Int32.add_zero]
theorem pk_mul (a b : Nat) : nI a * nI b = nI (a * b) := (Int32.ofNat_mul a b).symm
theorem pk_ix (x : Int32) {n : Nat} (hn : n < 2 ^ 31) : x < 0 ∨ nI n ≤ x ∨ ∃ j : Nat, j < n ∧ x = nI j := by
  by_cases h : x < 0
  · exact Or.inl h
  · obtain ⟨j, hj, rfl⟩ := nI_of h
    by_cases h2 : j < n
    · exact Or.inr (Or.inr ⟨j, h2, rfl⟩)
    · exact Or.inr (Or.inl (nI_le (by omega) hj))
theorem pk_le {x y : Int32} {A B : Prop} (a b : Nat) (f : a ≤ b → A) (g : b < a → B) (hx : x = nI a := by rfl) (hy : y = nI b := by rfl) (ha : a < 2 ^ 31 := by omega) (hb : b < 2 ^ 31 := by omega) : (x ≤ y → A) ∧ (¬ x ≤ y → B) := by
  subst hx hy
  rw [nI_leI ha hb]
  exact ⟨f, fun z => g (by omega)⟩
theorem pk_lt {x y : Int32} {A B : Prop} (a b : Nat) (f : a < b → A) (g : b ≤ a → B) (hx : x = nI a := by rfl) (hy : y = nI b := by rfl) (ha : a < 2 ^ 31 := by omega) (hb : b < 2 ^ 31 := by omega) : (x < y → A) ∧ (¬ x < y → B) := by
  subst hx hy
  rw [nI_ltI ha hb]
  exact ⟨f, fun z => g (by omega)⟩
theorem pk_eq {x y : Int32} {A B : Prop} (a b : Nat) (f : a = b → A) (g : a ≠ b → B) (hx : x = nI a := by rfl) (hy : y = nI b := by rfl) (ha : a < 2 ^ 31 := by omega) (hb : b < 2 ^ 31 := by omega) : (x = y → A) ∧ (¬ x = y → B) := by
  subst hx hy
  rw [nI_eq ha hb]
  exact ⟨f, g⟩
theorem pk_in {x : Int32} (n N : Nat) (h : n < N) (hx : x = nI n := by rfl) (hN : N < 2 ^ 31 := by omega) : vp_in x N := by
  subst hx
  exact vp_in_nI h hN
theorem pk_cl {x : Int32} (n : Nat) (hx : x = nI n := by rfl) (h : n < 2 ^ 31 := by omega) : x.toNatClampNeg = n := by
  subst hx
  exact nI_clamp h
theorem pk_tn {n : Nat} (h : n < 2 ^ 32) : (nI n).toBitVec.toNat = n := Nat.mod_eq_of_lt h
theorem pk_and (x : Int32) {m : Int32} (k : Nat) (hm : m.toBitVec.toNat = 2 ^ k - 1) : x &&& m = nI (x.toBitVec.toNat % 2 ^ k) := by
  apply Int32.toBitVec_inj.mp
  apply BitVec.eq_of_toNat_eq
  rw [Int32.toBitVec_and, BitVec.toNat_and, hm, Nat.and_two_pow_sub_one_eq_mod]
  show _ = (BitVec.ofNat 32 _).toNat
  rw [BitVec.toNat_ofNat]
  exact (Nat.mod_eq_of_lt (Nat.lt_of_le_of_lt (Nat.mod_le _ _) x.toBitVec.isLt)).symm
theorem pk_andN {n : Nat} (h : n < 2 ^ 32) {m : Int32} (k : Nat) (hm : m.toBitVec.toNat = 2 ^ k - 1) : nI n &&& m = nI (n % 2 ^ k) := by
  rw [pk_and _ k hm, pk_tn h]
theorem pk_andE (x : Int32) {m : Int32} (k : Nat) (hm : m.toBitVec.toNat = 2 ^ k - 1) : ∃ j : Nat, j < 2 ^ k ∧ x &&& m = nI j := ⟨_, Nat.mod_lt _ (Nat.two_pow_pos k), pk_and x k hm⟩
theorem pk_shl (a s : Int32) (k : Nat) (hs : (s.toBitVec.smod 32).toNat = k) : (a <<< s).toBitVec.toNat = a.toBitVec.toNat * 2 ^ k % 2 ^ 32 := by
  show (a.toBitVec <<< (s.toBitVec.smod 32).toNat).toNat = _
  rw [hs, BitVec.toNat_shiftLeft, Nat.shiftLeft_eq]
theorem pk_shlN {n : Nat} (s : Int32) (k : Nat) (hs : (s.toBitVec.smod 32).toNat = k) (h : n * 2 ^ k < 2 ^ 32) : nI n <<< s = nI (n * 2 ^ k) := by
  apply Int32.toBitVec_inj.mp
  apply BitVec.eq_of_toNat_eq
  have hn : n < 2 ^ 32 := Nat.lt_of_le_of_lt (Nat.le_mul_of_pos_right n (Nat.two_pow_pos k)) h
  rw [pk_shl _ _ k hs, pk_tn hn, pk_tn h, Nat.mod_eq_of_lt h]
theorem pk_shr (a s : Int32) (k : Nat) (hs : (s.toBitVec.smod 32).toNat = k) : (a >>> s).toInt = a.toInt >>> k := by
  show (a.toBitVec.sshiftRight (s.toBitVec.smod 32).toNat).toInt = _
  rw [hs, BitVec.toInt_sshiftRight]
  rfl
theorem pk_shrN {n : Nat} (h : n < 2 ^ 31) (s : Int32) (k : Nat) (hs : (s.toBitVec.smod 32).toNat = k) : nI n >>> s = nI (n / 2 ^ k) := by
  apply Int32.toInt_inj.mp
  have h2 : n / 2 ^ k ≤ n := Nat.div_le_self _ _
  rw [pk_shr _ _ k hs, nI_toInt h, nI_toInt (by omega), Int.shiftRight_eq_div_pow]
  rfl
theorem s_l : ∀ n, n < 32 → ((nI n &&& 31).toBitVec.smod 32).toNat = n := by decide +kernel
theorem bg_or (a b : Nat) : nI a ||| nI b = nI (a ||| b) := by
  apply Int32.toBitVec_inj.1
  show BitVec.ofNat 32 a ||| BitVec.ofNat 32 b = BitVec.ofNat 32 (a ||| b)
  apply BitVec.eq_of_getLsbD_eq
  intro i hi
  simp [hi]
/-- bit t of a mask, as the reference looks at it -/
theorem bg_bit {q t : Nat} (hq : q < 4096) (ht : t < 12) : (nI q >>> (nI t &&& 31)) &&& 1 = nI (q / 2 ^ t % 2) := by
  rw [pk_shrN (by omega) (nI t &&& 31) t (s_l t (by omega))]
  exact pk_andN (Nat.lt_of_le_of_lt (Nat.div_le_self _ _) (by omega)) 1 (by decide)
theorem bg_bit' {q t : Nat} (hq : q < 4096) (ht : t < 12) : (nI q >>> (nI t &&& 31)) &&& 1 = if q.testBit t then 1 else 0 := by
  rw [bg_bit hq ht]
  have e : q.testBit t = decide (q / 2 ^ t % 2 = 1) := Nat.testBit_eq_decide_div_mod_eq
  rw [e]
  have h : q / 2 ^ t % 2 = 0 ∨ q / 2 ^ t % 2 = 1 := by omega
  rcases h with h | h
  · rw [h]; rfl
  · rw [h]; rfl
theorem bg_shl {k : Nat} (hk : k < 12) : (1 : Int32) <<< (nI k &&& 31) = nI (2 ^ k) := by
  have h : 2 ^ k < 4096 := Nat.pow_lt_pow_right (a := 2) (by decide) hk
  have e := pk_shlN (n := 1) (nI k &&& 31) k (s_l k (by omega)) (by omega)
  rw [Nat.one_mul] at e
  exact e
theorem bg_orlt {q k : Nat} (hq : q < 4096) (hk : k < 12) : q ||| 2 ^ k < 4096 :=
  Nat.or_lt_two_pow (n := 12) hq (Nat.pow_lt_pow_right (a := 2) (by decide) hk)
theorem bg_vb0 : vp_nar .boolean 0 = 0 := by decide
theorem bg_vb1 : vp_nar .boolean 1 = 1 := by decide
theorem bg_a {x y : Int32} {a b : Nat} (hx : x = nI a) (hy : y = nI b) : x + y = nI (a + b) := by rw [hx, hy, nI_add]
theorem bg_m {x y : Int32} {a b : Nat} (hx : x = nI a) (hy : y = nI b) : x * y = nI (a * b) := by rw [hx, hy, pk_mul]
theorem bg_s {x y : Int32} {a b : Nat} (hx : x = nI a) (hy : y = nI b) (h : b ≤ a) : x - y = nI (a - b) := by rw [hx, hy, pk_sub h]
theorem bg_m3 (a : Nat) : nI a * 3 = nI (a * 3) := pk_mul a 3
theorem bg_m5 (a : Nat) : nI a * 5 = nI (a * 5) := pk_mul a 5
theorem bg_m6 (a : Nat) : nI a * 6 = nI (a * 6) := pk_mul a 6
theorem bg_m40 (a : Nat) : nI a * 40 = nI (a * 40) := pk_mul a 40
theorem bg_m240 (a : Nat) : nI a * 240 = nI (a * 240) := pk_mul a 240
theorem bg_p0 (a : Nat) : nI a + 0 = nI (a + 0) := nI_add a 0
theorem bg_p2 (a : Nat) : nI a + 2 = nI (a + 2) := nI_add a 2
theorem bg_p3 (a : Nat) : nI a + 3 = nI (a + 3) := nI_add a 3
theorem bg_p8 (a : Nat) : 8 + nI a = nI (8 + a) := nI_add 8 a
theorem bg_s8 {a : Nat} (h : 8 ≤ a) : nI a - 8 = nI (a - 8) := pk_sub (b := 8) h
theorem bg_s2 {a : Nat} (h : 2 ≤ a) : nI a - 2 = nI (a - 2) := pk_sub (b := 2) h
/-! loops -/
theorem bg_lp (W : Nat → Nat → Prop) (H : Nat → Prop) (e : Nat) (hx : ∀ n, H e → W (n + 1) e) (hs : ∀ n i, i < e → H i → (H (i + 1) → W n (i + 1)) → W (n + 1) i) : ∀ d i, i + d = e → H i → W (d + 1) i := by
  intro d
  induction d with
  | zero =>
    intro i hi h
    have e1 : i = e := by omega
    rw [e1] at h ⊢
    exact hx 0 h
  | succ d ih =>
    intro i hi h
    exact hs (d + 1) i (by omega) h (fun h' => ih (i + 1) (by omega) h')
theorem bg_lp0 (W : Nat → Nat → Prop) (H : Nat → Prop) (e : Nat) (i : Nat) (hi : i ≤ e) (h : H i) (hx : ∀ n, H e → W (n + 1) e) (hs : ∀ n i, i < e → H i → (H (i + 1) → W n (i + 1)) → W (n + 1) i) : ∃ n, W n i :=
  ⟨e - i + 1, bg_lp W H e hx hs (e - i) i (by omega) h⟩
theorem bg_lq (W : Nat → Nat → Prop) (e : Nat) (hx : ∀ n, W (n + 1) e) (hs : ∀ n i, i < e → W n (i + 1) → W (n + 1) i) : ∃ n, W n 0 :=
  bg_lp0 W (fun _ => True) e 0 (Nat.zero_le e) trivial (fun n _ => hx n) (fun n i hi _ h => hs n i hi (h trivial))
theorem bg_ld (W : Nat → Nat → Prop) (e : Nat) (hx : ∀ n, W (n + 1) 0) (hs : ∀ n i, i < e → W n i → W (n + 1) (i + 1)) : ∃ n, W n e := by
  have h : ∀ i, i ≤ e → W (i + 1) i := by
    intro i
    induction i with
    | zero => intro _; exact hx 0
    | succ i ih => intro hi; exact hs (i + 1) i (by omega) (ih (by omega))
  exact ⟨e + 1, h e (Nat.le_refl e)⟩
