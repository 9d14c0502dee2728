theorem pk_us {f : Nat → Int32} {k : Nat} {x : Int32} : upd f k x k = x := if_pos rfl
theorem pk_un {f : Nat → Int32} {k j : Nat} {x : Int32} (h : j ≠ k) : upd f k x j = f j := if_neg h
theorem pk_sub {a b : Nat} (h : b ≤ a) : nI a - nI b = nI (a - b) := by
  obtain ⟨c, rfl⟩ : ∃ c, a = c + b := ⟨a - b, by omega⟩
  rw [← nI_add, Int32.add_sub_cancel, Nat.add_sub_cancel]
theorem pk_m1 (n : Nat) : nI (n + 1) + (-1) = nI n := by
  rw [← nI_1, Int32.add_assoc, show (1 : Int32) + (-1) = 0 from rfl, Int32.add_zero]
theorem pk_mul (a b : Nat) : nI a * nI b = nI (a * b) := (Int32.ofNat_mul a b).symm
theorem pk_div {a d : Nat} (ha : a < 2 ^ 31) (h0 : 0 < d) (hd : d < 2 ^ 31) : nI a / nI d = nI (a / d) := by
  apply Int32.toInt_inj.mp
  rw [lg_idiv_nonneg (by rw [nI_toInt ha]; omega) (by rw [nI_toInt hd]; omega), nI_toInt ha, nI_toInt hd, nI_toInt (Nat.lt_of_le_of_lt (Nat.div_le_self a d) ha)]
  first | rfl | exact (Int.natCast_ediv _ _).symm
theorem pk_rem {a d : Nat} (ha : a < 2 ^ 31) (h0 : 0 < d) (hd : d < 2 ^ 31) : nI a - nI a / nI d * nI d = nI (a % d) := by
  rw [pk_div ha h0 hd, pk_mul, pk_sub (Nat.div_mul_le_self a d)]
  exact congrArg nI (by have := Nat.div_add_mod' a d; omega)
theorem pk_sub_toInt {a b : Nat} (ha : a < 2 ^ 30) (hb : b < 2 ^ 30) : (nI a - nI b).toInt = (a : Int) - b := by
  rw [Int32.toInt_sub, nI_toInt (by omega), nI_toInt (by omega)]
  exact Int.bmod_eq_of_le (by omega) (by omega)
theorem pk_sneg {a b : Nat} (hb : b < 2 ^ 30) (h : a < b) : nI a - nI b < 0 := by
  rw [Int32.lt_iff_toInt_lt, pk_sub_toInt (by omega) hb, show (0 : Int32).toInt = 0 from by decide]
  omega
theorem pk_ix (x : Int32) {n : Nat} (hn : n < 2 ^ 31) : x < 0 ∨ nI n ≤ x ∨ ∃ j : Nat, j < n ∧ x = nI j := by
  by_cases h : x < 0
  · exact Or.inl h
  · obtain ⟨j, hj, rfl⟩ := nI_of h
    by_cases h2 : j < n
    · exact Or.inr (Or.inr ⟨j, h2, rfl⟩)
    · exact Or.inr (Or.inl (nI_le (by omega) hj))
theorem pk_le {x y : Int32} {A B : Prop} (a b : Nat) (f : a ≤ b → A) (g : b < a → B) (hx : x = nI a := by rfl) (hy : y = nI b := by rfl) (ha : a < 2 ^ 31 := by omega) (hb : b < 2 ^ 31 := by omega) : (x ≤ y → A) ∧ (¬ x ≤ y → B) := by
  subst hx hy
  rw [nI_leI ha hb]
  exact ⟨f, fun z => g (by omega)⟩
theorem pk_lt {x y : Int32} {A B : Prop} (a b : Nat) (f : a < b → A) (g : b ≤ a → B) (hx : x = nI a := by rfl) (hy : y = nI b := by rfl) (ha : a < 2 ^ 31 := by omega) (hb : b < 2 ^ 31 := by omega) : (x < y → A) ∧ (¬ x < y → B) := by
  subst hx hy
  rw [nI_ltI ha hb]
  exact ⟨f, fun z => g (by omega)⟩
theorem pk_eq {x y : Int32} {A B : Prop} (a b : Nat) (f : a = b → A) (g : a ≠ b → B) (hx : x = nI a := by rfl) (hy : y = nI b := by rfl) (ha : a < 2 ^ 31 := by omega) (hb : b < 2 ^ 31 := by omega) : (x = y → A) ∧ (¬ x = y → B) := by
  subst hx hy
  rw [nI_eq ha hb]
  exact ⟨f, g⟩
theorem pk_in {x : Int32} (n N : Nat) (h : n < N) (hx : x = nI n := by rfl) (hN : N < 2 ^ 31 := by omega) : vp_in x N := by
  subst hx
  exact vp_in_nI h hN
theorem pk_cl {x : Int32} (n : Nat) (hx : x = nI n := by rfl) (h : n < 2 ^ 31 := by omega) : x.toNatClampNeg = n := by
  subst hx
  exact nI_clamp h
theorem pk_tn {n : Nat} (h : n < 2 ^ 32) : (nI n).toBitVec.toNat = n := Nat.mod_eq_of_lt h
theorem pk_and (x : Int32) {m : Int32} (k : Nat) (hm : m.toBitVec.toNat = 2 ^ k - 1) : x &&& m = nI (x.toBitVec.toNat % 2 ^ k) := by
  apply Int32.toBitVec_inj.mp
  apply BitVec.eq_of_toNat_eq
  rw [Int32.toBitVec_and, BitVec.toNat_and, hm, Nat.and_two_pow_sub_one_eq_mod]
  show _ = (BitVec.ofNat 32 _).toNat
  rw [BitVec.toNat_ofNat]
  exact (Nat.mod_eq_of_lt (Nat.lt_of_le_of_lt (Nat.mod_le _ _) x.toBitVec.isLt)).symm
theorem pk_andN {n : Nat} (h : n < 2 ^ 32) {m : Int32} (k : Nat) (hm : m.toBitVec.toNat = 2 ^ k - 1) : nI n &&& m = nI (n % 2 ^ k) := by
  rw [pk_and _ k hm, pk_tn h]
theorem pk_shl (a s : Int32) (k : Nat) (hs : (s.toBitVec.smod 32).toNat = k) : (a <<< s).toBitVec.toNat = a.toBitVec.toNat * 2 ^ k % 2 ^ 32 := by
  show (a.toBitVec <<< (s.toBitVec.smod 32).toNat).toNat = _
  rw [hs, BitVec.toNat_shiftLeft, Nat.shiftLeft_eq]
theorem pk_shlN {n : Nat} (s : Int32) (k : Nat) (hs : (s.toBitVec.smod 32).toNat = k) (h : n * 2 ^ k < 2 ^ 32) : nI n <<< s = nI (n * 2 ^ k) := by
  apply Int32.toBitVec_inj.mp
  apply BitVec.eq_of_toNat_eq
  have hn : n < 2 ^ 32 := Nat.lt_of_le_of_lt (Nat.le_mul_of_pos_right n (Nat.two_pow_pos k)) h
  rw [pk_shl _ _ k hs, pk_tn hn, pk_tn h, Nat.mod_eq_of_lt h]
theorem pk_shr (a s : Int32) (k : Nat) (hs : (s.toBitVec.smod 32).toNat = k) : (a >>> s).toInt = a.toInt >>> k := by
  show (a.toBitVec.sshiftRight (s.toBitVec.smod 32).toNat).toInt = _
  rw [hs, BitVec.toInt_sshiftRight]
  rfl
theorem pk_shrN {n : Nat} (h : n < 2 ^ 31) (s : Int32) (k : Nat) (hs : (s.toBitVec.smod 32).toNat = k) : nI n >>> s = nI (n / 2 ^ k) := by
  apply Int32.toInt_inj.mp
  have h2 : n / 2 ^ k ≤ n := Nat.div_le_self _ _
  rw [pk_shr _ _ k hs, nI_toInt h, nI_toInt (by omega), Int.shiftRight_eq_div_pow]
  rfl
theorem pk_least (P : Nat → Prop) (h : ∃ k, P k) : ∃ k, P k ∧ ∀ j, j < k → ¬ P j := by
  obtain ⟨k, hk⟩ := h
  induction k using Nat.strongRecOn with
  | ind k ih =>
    by_cases e : ∃ j, j < k ∧ P j
    · obtain ⟨j, hj, pj⟩ := e
      exact ih j hj pj
    · exact ⟨k, hk, fun j hj pj => e ⟨j, hj, pj⟩⟩
theorem s_l : ∀ n, n < 32 → ((nI n &&& 31).toBitVec.smod 32).toNat = n := by decide +kernel
theorem nx_and (a b : Nat) : nI a &&& nI b = nI (a &&& b) := by
  apply Int32.toBitVec_inj.1
  show BitVec.ofNat 32 a &&& BitVec.ofNat 32 b = BitVec.ofNat 32 (a &&& b)
  apply BitVec.eq_of_getLsbD_eq
  intro i hi
  simp [hi]
theorem nx_xor (a b : Nat) : nI a ^^^ nI b = nI (a ^^^ b) := by
  apply Int32.toBitVec_inj.1
  show BitVec.ofNat 32 a ^^^ BitVec.ofNat 32 b = BitVec.ofNat 32 (a ^^^ b)
  apply BitVec.eq_of_getLsbD_eq
  intro i hi
  simp [hi]
/-! arrays of naturals, masks -/
def na (f : Nat → Nat) : Nat → Int32 := fun q => nI (f q)
def un (f : Nat → Nat) (k v : Nat) : Nat → Nat := fun j => if j = k then v else f j
theorem un_s {f : Nat → Nat} {k v : Nat} : un f k v k = v := if_pos rfl
theorem un_n {f : Nat → Nat} {k v j : Nat} (h : j ≠ k) : un f k v j = f j := if_neg h
theorem na_upd {f : Nat → Nat} {x y : Int32} (k v : Nat) (hx : x = nI k := by rfl) (hy : y = nI v := by rfl) (hk : k < 2 ^ 31 := by omega) : upd (na f) x.toNatClampNeg y = na (un f k v) := by
  subst hx hy
  rw [nI_clamp hk]
  funext j
  unfold upd na un
  by_cases h : j = k
  · rw [if_pos h, if_pos h]
  · rw [if_neg h, if_neg h]
theorem na_at {f : Nat → Nat} {x : Int32} (i : Nat) (hx : x = nI i := by rfl) (h : i < 2 ^ 31 := by omega) : na f x.toNatClampNeg = nI (f i) := by
  subst hx
  rw [nI_clamp h]
  rfl
theorem na_i {f : Nat → Nat} (i : Nat) (h : i < 2 ^ 31 := by omega) : na f (nI i).toNatClampNeg = nI (f i) := na_at i rfl h
theorem kj_or (a b : Nat) : nI a ||| nI b = nI (a ||| b) := by
  apply Int32.toBitVec_inj.1
  show BitVec.ofNat 32 a ||| BitVec.ofNat 32 b = BitVec.ofNat 32 (a ||| b)
  apply BitVec.eq_of_getLsbD_eq
  intro i hi
  simp [hi]
theorem kj_shl {n j : Nat} (hj : j < 31) (h : n * 2 ^ j < 2 ^ 32) : nI n <<< (nI j &&& 31) = nI (n * 2 ^ j) := pk_shlN _ j (s_l j (by omega)) h
theorem kj_one {j : Nat} (hj : j < 31) : (1 : Int32) <<< (nI j &&& 31) = nI (2 ^ j) := by
  have h := kj_shl (n := 1) hj (by rw [Nat.one_mul]; exact Nat.pow_lt_pow_right (by omega) (by omega))
  rw [Nat.one_mul] at h
  exact h
theorem kj_bit {m j : Nat} (hm : m < 2 ^ 31) (hj : j < 32) : (nI m >>> (nI j &&& 31)) &&& 1 = nI (m / 2 ^ j % 2) := by
  rw [pk_shrN hm _ j (s_l j hj), pk_andN (Nat.lt_of_le_of_lt (Nat.div_le_self _ _) (by omega)) 1 (by decide)]
theorem kj_tb (m j : Nat) : m / 2 ^ j % 2 = if m.testBit j = true then 1 else 0 := by
  rw [Nat.testBit_eq_decide_div_mod_eq]
  by_cases h : m / 2 ^ j % 2 = 1
  · simp [h]
  · have : m / 2 ^ j % 2 = 0 := by omega
    simp [this]
theorem kj_bit1 {m j : Nat} (hm : m < 2 ^ 31) (hj : j < 32) (h : m.testBit j = true) : (nI m >>> (nI j &&& 31)) &&& 1 = 1 := by
  rw [kj_bit hm hj, kj_tb, if_pos h]; rfl
theorem kj_bit0 {m j : Nat} (hm : m < 2 ^ 31) (hj : j < 32) (h : ¬ m.testBit j = true) : (nI m >>> (nI j &&& 31)) &&& 1 = 0 := by
  rw [kj_bit hm hj, kj_tb, if_neg h]; rfl
/-- a branch by a bit, three prints -/
theorem bi_0 {m j : Nat} {x y : Int32} {A B : Prop} (hm : m < 2 ^ 31) (hj : j < 32) (f : m.testBit j = true → B) (g : ¬ m.testBit j = true → A) (hx : x = nI m := by rfl) (hy : y = nI j := by rfl) : (((x >>> (y &&& 31)) &&& 1) = 0 → A) ∧ (¬ ((x >>> (y &&& 31)) &&& 1) = 0 → B) := by
  subst hx hy
  by_cases h : m.testBit j = true
  · exact br_f (by rw [kj_bit1 hm hj h]; decide) (f h)
  · exact br_t (kj_bit0 hm hj h) (g h)
theorem bi_1 {m j : Nat} {x y : Int32} {A B : Prop} (hm : m < 2 ^ 31) (hj : j < 32) (f : m.testBit j = true → A) (g : ¬ m.testBit j = true → B) (hx : x = nI m := by rfl) (hy : y = nI j := by rfl) : (((x >>> (y &&& 31)) &&& 1) = 1 → A) ∧ (¬ ((x >>> (y &&& 31)) &&& 1) = 1 → B) := by
  subst hx hy
  by_cases h : m.testBit j = true
  · exact br_t (kj_bit1 hm hj h) (f h)
  · exact br_f (by rw [kj_bit0 hm hj h]; decide) (g h)
/-- set difference below 16 -/
def sb (a b : Nat) : Nat := a &&& (15 ^^^ b)
theorem kj_sub : ∀ a, a < 16 → ∀ b, b < 16 → nI a &&& (nI b ^^^ (-1)) = nI (sb a b) ∧ sb a b < 16 := by decide +kernel
theorem sb_bit {a : Nat} (ha : a < 16) (b j : Nat) : (sb a b).testBit j = (a.testBit j && !b.testBit j) := by
  unfold sb
  rw [Nat.testBit_and, Nat.testBit_xor]
  by_cases h : j < 4
  · have : Nat.testBit 15 j = true := (by decide +kernel : ∀ j, j < 4 → Nat.testBit 15 j = true) j h
    rw [this]; simp
  · have : a.testBit j = false := Nat.testBit_lt_two_pow (Nat.lt_of_lt_of_le ha (Nat.pow_le_pow_right (n := 2) (i := 4) (by omega) (by omega)))
    rw [this]; simp
theorem m_hi {a j : Nat} (ha : a < 16) (h : a.testBit j = true) : j < 4 := by
  rcases Nat.lt_or_ge j 4 with h4 | h4
  · exact h4
  · have : a.testBit j = false := Nat.testBit_lt_two_pow (Nat.lt_of_lt_of_le ha (Nat.pow_le_pow_right (n := 2) (i := 4) (by omega) h4))
    rw [this] at h; cases h
theorem m_or {a b : Nat} (ha : a < 16) (hb : b < 16) : a ||| b < 16 := Nat.or_lt_two_pow (n := 4) ha hb
theorem m_pow {j : Nat} (h : j < 4) : 2 ^ j < 16 := Nat.pow_lt_pow_right (n := 4) (by omega) h
theorem m_eq {a b : Nat} (ha : a < 16) (hb : b < 16) (h : ∀ j, j < 4 → (a.testBit j = true ↔ b.testBit j = true)) : a = b := by
  apply Nat.eq_of_testBit_eq
  intro j
  by_cases hj : j < 4
  · have := h j hj
    cases h1 : a.testBit j <;> cases h2 : b.testBit j <;> simp_all
  · have h1 : ¬ a.testBit j = true := fun z => hj (m_hi ha z)
    have h2 : ¬ b.testBit j = true := fun z => hj (m_hi hb z)
    cases h3 : a.testBit j <;> cases h4 : b.testBit j <;> simp_all
theorem or_bit (a b j : Nat) : (a ||| b).testBit j = true ↔ a.testBit j = true ∨ b.testBit j = true := by
  rw [Nat.testBit_or]; simp
theorem pw_bit (i j : Nat) : (2 ^ i).testBit j = true ↔ i = j := by
  rw [Nat.testBit_two_pow]; simp
/-- the difference is empty: all of a is in b -/
theorem sb_0 {a b : Nat} (ha : a < 16) : sb a b = 0 ↔ ∀ j, j < 4 → a.testBit j = true → b.testBit j = true := by
  constructor
  · intro h j hj h1
    have := sb_bit ha b j
    rw [h, h1, Nat.zero_testBit] at this
    cases h2 : b.testBit j
    · rw [h2] at this; cases this
    · rfl
  · intro h
    apply Nat.eq_of_testBit_eq
    intro j
    rw [sb_bit ha, Nat.zero_testBit]
    cases h1 : a.testBit j
    · rfl
    · rw [h j (m_hi ha h1) h1]; rfl
theorem nar_0 : vp_nar .boolean 0 = 0 := by rfl
theorem nar_1 : vp_nar .boolean 1 = 1 := by rfl
theorem nb_0 : narrow .boolean (.int 0) = .int 0 := by rfl
theorem nb_1 : narrow .boolean (.int 1) = .int 1 := by rfl
theorem kj_ix20 (i k : Nat) : nI i * 20 + nI k = nI (i * 20 + k) := by
  rw [show (20 : Int32) = nI 20 from rfl, pk_mul, nI_add]
theorem kj_ix20' (i k : Nat) : 20 * nI i + nI k = nI (i * 20 + k) := by
  rw [show (20 : Int32) = nI 20 from rfl, pk_mul, nI_add, Nat.mul_comm]
theorem kj_ix2 (i k : Nat) : nI i * 2 + nI k = nI (i * 2 + k) := by
  rw [show (2 : Int32) = nI 2 from rfl, pk_mul, nI_add]
theorem kj_ix2' (i k : Nat) : 2 * nI i + nI k = nI (i * 2 + k) := by
  rw [show (2 : Int32) = nI 2 from rfl, pk_mul, nI_add, Nat.mul_comm]
theorem kj_d2 (i : Nat) : 2 * nI i = nI (i * 2) := by
  rw [show (2 : Int32) = nI 2 from rfl, pk_mul, Nat.mul_comm]
theorem kj_mm (i : Nat) : nI i - 1 = nI i + (-1) := by
  rw [Int32.sub_eq_add_neg]
theorem kj_m1 : nI 0 + (-1) < 0 := by decide
