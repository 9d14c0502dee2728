section
theorem pk_us {f : Nat → Int32} {k : Nat} {x : Int32} : upd f k x k = x := if_pos rfl
theorem pk_un {f : Nat → Int32} {k j : Nat} {x : Int32} (h : j ≠ k) : upd f k x j = f j := if_neg h
theorem pk_sub {a b : Nat} (h : b ≤ a) : nI a - nI b = nI (a - b) := by
  obtain ⟨c, rfl⟩ : ∃ c, a = c + b := ⟨a - b, by omega⟩
  rw [← nI_add, Int32.add_sub_cancel, Nat.add_sub_cancel]
theorem pk_m1 (n : Nat) : nI (n + 1) + (-1) = nI n := by
  rw [← nI_1, Int32.add_assoc, show (1 : Int32) + (-1) = 0 from rfl, Int32.add_zero]
theorem pk_mul (a b : Nat) : nI a * nI b = nI (a * b) := (Int32.ofNat_mul a b).symm
theorem pk_div {a d : Nat} (ha : a < 2 ^ 31) (h0 : 0 < d) (hd : d < 2 ^ 31) : nI a / nI d = nI (a / d) := by
  apply Int32.toInt_inj.mp
  rw [lg_idiv_nonneg (by rw [nI_toInt ha]; omega) (by rw [nI_toInt hd]; omega), nI_toInt ha, nI_toInt hd, nI_toInt (Nat.lt_of_le_of_lt (Nat.div_le_self a d) ha)]
  first | rfl | exact (Int.natCast_ediv _ _).symm
theorem pk_rem {a d : Nat} (ha : a < 2 ^ 31) (h0 : 0 < d) (hd : d < 2 ^ 31) : nI a - nI a / nI d * nI d = nI (a % d) := by
  rw [pk_div ha h0 hd, pk_mul, pk_sub (Nat.div_mul_le_self a d)]
  exact congrArg nI (by have := Nat.div_add_mod' a d; omega)
theorem pk_sub_toInt {a b : Nat} (ha : a < 2 ^ 30) (hb : b < 2 ^ 30) : (nI a - nI b).toInt = (a : Int) - b := by
  rw [Int32.toInt_sub, nI_toInt (by omega), nI_toInt (by omega)]
  exact Int.bmod_eq_of_le (by omega) (by omega)
theorem pk_sneg {a b : Nat} (hb : b < 2 ^ 30) (h : a < b) : nI a - nI b < 0 := by
  rw [Int32.lt_iff_toInt_lt, pk_sub_toInt (by omega) hb, show (0 : Int32).toInt = 0 from by decide]
  omega
theorem pk_ix (x : Int32) {n : Nat} (hn : n < 2 ^ 31) : x < 0 ∨ nI n ≤ x ∨ ∃ j : Nat, j < n ∧ x = nI j := by
  by_cases h : x < 0
  · exact Or.inl h
  · obtain ⟨j, hj, rfl⟩ := nI_of h
    by_cases h2 : j < n
    · exact Or.inr (Or.inr ⟨j, h2, rfl⟩)
    · exact Or.inr (Or.inl (nI_le (by omega) hj))
theorem pk_le {x y : Int32} {A B : Prop} (a b : Nat) (f : a ≤ b → A) (g : b < a → B) (hx : x = nI a := by rfl) (hy : y = nI b := by rfl) (ha : a < 2 ^ 31 := by omega) (hb : b < 2 ^ 31 := by omega) : (x ≤ y → A) ∧ (¬ x ≤ y → B) := by
  subst hx hy
  rw [nI_leI ha hb]
  exact ⟨f, fun z => g (by omega)⟩
theorem pk_lt {x y : Int32} {A B : Prop} (a b : Nat) (f : a < b → A) (g : b ≤ a → B) (hx : x = nI a := by rfl) (hy : y = nI b := by rfl) (ha : a < 2 ^ 31 := by omega) (hb : b < 2 ^ 31 := by omega) : (x < y → A) ∧ (¬ x < y → B) := by
  subst hx hy
  rw [nI_ltI ha hb]
  exact ⟨f, fun z => g (by omega)⟩
theorem pk_eq {x y : Int32} {A B : Prop} (a b : Nat) (f : a = b → A) (g : a ≠ b → B) (hx : x = nI a := by rfl) (hy : y = nI b := by rfl) (ha : a < 2 ^ 31 := by omega) (hb : b < 2 ^ 31 := by omega) : (x = y → A) ∧ (¬ x = y → B) := by
  subst hx hy
  rw [nI_eq ha hb]
  exact ⟨f, g⟩
theorem pk_in {x : Int32} (n N : Nat) (h : n < N) (hx : x = nI n := by rfl) (hN : N < 2 ^ 31 := by omega) : vp_in x N := by
  subst hx
  exact vp_in_nI h hN
theorem pk_cl {x : Int32} (n : Nat) (hx : x = nI n := by rfl) (h : n < 2 ^ 31 := by omega) : x.toNatClampNeg = n := by
  subst hx
  exact nI_clamp h
theorem pk_tn {n : Nat} (h : n < 2 ^ 32) : (nI n).toBitVec.toNat = n := Nat.mod_eq_of_lt h
theorem pk_and (x : Int32) {m : Int32} (k : Nat) (hm : m.toBitVec.toNat = 2 ^ k - 1) : x &&& m = nI (x.toBitVec.toNat % 2 ^ k) := by
  apply Int32.toBitVec_inj.mp
  apply BitVec.eq_of_toNat_eq
  rw [Int32.toBitVec_and, BitVec.toNat_and, hm, Nat.and_two_pow_sub_one_eq_mod]
  show _ = (BitVec.ofNat 32 _).toNat
  rw [BitVec.toNat_ofNat]
  exact (Nat.mod_eq_of_lt (Nat.lt_of_le_of_lt (Nat.mod_le _ _) x.toBitVec.isLt)).symm
theorem pk_andN {n : Nat} (h : n < 2 ^ 32) {m : Int32} (k : Nat) (hm : m.toBitVec.toNat = 2 ^ k - 1) : nI n &&& m = nI (n % 2 ^ k) := by
  rw [pk_and _ k hm, pk_tn h]
theorem pk_shl (a s : Int32) (k : Nat) (hs : (s.toBitVec.smod 32).toNat = k) : (a <<< s).toBitVec.toNat = a.toBitVec.toNat * 2 ^ k % 2 ^ 32 := by
  show (a.toBitVec <<< (s.toBitVec.smod 32).toNat).toNat = _
  rw [hs, BitVec.toNat_shiftLeft, Nat.shiftLeft_eq]
theorem pk_shlN {n : Nat} (s : Int32) (k : Nat) (hs : (s.toBitVec.smod 32).toNat = k) (h : n * 2 ^ k < 2 ^ 32) : nI n <<< s = nI (n * 2 ^ k) := by
  apply Int32.toBitVec_inj.mp
  apply BitVec.eq_of_toNat_eq
  have hn : n < 2 ^ 32 := Nat.lt_of_le_of_lt (Nat.le_mul_of_pos_right n (Nat.two_pow_pos k)) h
  rw [pk_shl _ _ k hs, pk_tn hn, pk_tn h, Nat.mod_eq_of_lt h]
theorem pk_shr (a s : Int32) (k : Nat) (hs : (s.toBitVec.smod 32).toNat = k) : (a >>> s).toInt = a.toInt >>> k := by
  show (a.toBitVec.sshiftRight (s.toBitVec.smod 32).toNat).toInt = _
  rw [hs, BitVec.toInt_sshiftRight]
  rfl
theorem pk_shrN {n : Nat} (h : n < 2 ^ 31) (s : Int32) (k : Nat) (hs : (s.toBitVec.smod 32).toNat = k) : nI n >>> s = nI (n / 2 ^ k) := by
  apply Int32.toInt_inj.mp
  have h2 : n / 2 ^ k ≤ n := Nat.div_le_self _ _
  rw [pk_shr _ _ k hs, nI_toInt h, nI_toInt (by omega), Int.shiftRight_eq_div_pow]
  rfl
theorem pk_least (P : Nat → Prop) (h : ∃ k, P k) : ∃ k, P k ∧ ∀ j, j < k → ¬ P j := by
  obtain ⟨k, hk⟩ := h
  induction k using Nat.strongRecOn with
  | ind k ih =>
    by_cases e : ∃ j, j < k ∧ P j
    · obtain ⟨j, hj, pj⟩ := e
      exact ih j hj pj
    · exact ⟨k, hk, fun j hj pj => e ⟨j, hj, pj⟩⟩
theorem s_l : ∀ n, n < 32 → ((nI n &&& 31).toBitVec.smod 32).toNat = n := by decide +kernel
theorem nx_and (a b : Nat) : nI a &&& nI b = nI (a &&& b) := by
  apply Int32.toBitVec_inj.1
  show BitVec.ofNat 32 a &&& BitVec.ofNat 32 b = BitVec.ofNat 32 (a &&& b)
  apply BitVec.eq_of_getLsbD_eq
  intro i hi
  simp [hi]
theorem nx_xor (a b : Nat) : nI a ^^^ nI b = nI (a ^^^ b) := by
  apply Int32.toBitVec_inj.1
  show BitVec.ofNat 32 a ^^^ BitVec.ofNat 32 b = BitVec.ofNat 32 (a ^^^ b)
  apply BitVec.eq_of_getLsbD_eq
  intro i hi
  simp [hi]
/-! arrays of naturals, masks -/
def na (f : Nat → Nat) : Nat → Int32 := fun q => nI (f q)
def un (f : Nat → Nat) (k v : Nat) : Nat → Nat := fun j => if j = k then v else f j
theorem un_s {f : Nat → Nat} {k v : Nat} : un f k v k = v := if_pos rfl
theorem un_n {f : Nat → Nat} {k v j : Nat} (h : j ≠ k) : un f k v j = f j := if_neg h
theorem na_upd {f : Nat → Nat} {x y : Int32} (k v : Nat) (hx : x = nI k := by rfl) (hy : y = nI v := by rfl) (hk : k < 2 ^ 31 := by omega) : upd (na f) x.toNatClampNeg y = na (un f k v) := by
  subst hx hy
  rw [nI_clamp hk]
  funext j
  unfold upd na un
  by_cases h : j = k
  · rw [if_pos h, if_pos h]
  · rw [if_neg h, if_neg h]
theorem na_at {f : Nat → Nat} {x : Int32} (i : Nat) (hx : x = nI i := by rfl) (h : i < 2 ^ 31 := by omega) : na f x.toNatClampNeg = nI (f i) := by
  subst hx
  rw [nI_clamp h]
  rfl
theorem na_i {f : Nat → Nat} (i : Nat) (h : i < 2 ^ 31 := by omega) : na f (nI i).toNatClampNeg = nI (f i) := na_at i rfl h
theorem kj_or (a b : Nat) : nI a ||| nI b = nI (a ||| b) := by
  apply Int32.toBitVec_inj.1
  show BitVec.ofNat 32 a ||| BitVec.ofNat 32 b = BitVec.ofNat 32 (a ||| b)
  apply BitVec.eq_of_getLsbD_eq
  intro i hi
  simp [hi]
theorem kj_shl {n j : Nat} (hj : j < 31) (h : n * 2 ^ j < 2 ^ 32) : nI n <<< (nI j &&& 31) = nI (n * 2 ^ j) := pk_shlN _ j (s_l j (by omega)) h
theorem kj_one {j : Nat} (hj : j < 31) : (1 : Int32) <<< (nI j &&& 31) = nI (2 ^ j) := by
  have h := kj_shl (n := 1) hj (by rw [Nat.one_mul]; exact Nat.pow_lt_pow_right (by omega) (by omega))
  rw [Nat.one_mul] at h
  exact h
theorem kj_bit {m j : Nat} (hm : m < 2 ^ 31) (hj : j < 32) : (nI m >>> (nI j &&& 31)) &&& 1 = nI (m / 2 ^ j % 2) := by
  rw [pk_shrN hm _ j (s_l j hj), pk_andN (Nat.lt_of_le_of_lt (Nat.div_le_self _ _) (by omega)) 1 (by decide)]
theorem kj_tb (m j : Nat) : m / 2 ^ j % 2 = if m.testBit j = true then 1 else 0 := by
  rw [Nat.testBit_eq_decide_div_mod_eq]
  by_cases h : m / 2 ^ j % 2 = 1
  · simp [h]
  · have : m / 2 ^ j % 2 = 0 := by omega
    simp [this]
theorem kj_bit1 {m j : Nat} (hm : m < 2 ^ 31) (hj : j < 32) (h : m.testBit j = true) : (nI m >>> (nI j &&& 31)) &&& 1 = 1 := by
  rw [kj_bit hm hj, kj_tb, if_pos h]; rfl
theorem kj_bit0 {m j : Nat} (hm : m < 2 ^ 31) (hj : j < 32) (h : ¬ m.testBit j = true) : (nI m >>> (nI j &&& 31)) &&& 1 = 0 := by
  rw [kj_bit hm hj, kj_tb, if_neg h]; rfl
/-- a branch by a bit, three prints -/
theorem bi_0 {m j : Nat} {x y : Int32} {A B : Prop} (hm : m < 2 ^ 31) (hj : j < 32) (f : m.testBit j = true → B) (g : ¬ m.testBit j = true → A) (hx : x = nI m := by rfl) (hy : y = nI j := by rfl) : (((x >>> (y &&& 31)) &&& 1) = 0 → A) ∧ (¬ ((x >>> (y &&& 31)) &&& 1) = 0 → B) := by
  subst hx hy
  by_cases h : m.testBit j = true
  · exact br_f (by rw [kj_bit1 hm hj h]; decide) (f h)
  · exact br_t (kj_bit0 hm hj h) (g h)
theorem bi_1 {m j : Nat} {x y : Int32} {A B : Prop} (hm : m < 2 ^ 31) (hj : j < 32) (f : m.testBit j = true → A) (g : ¬ m.testBit j = true → B) (hx : x = nI m := by rfl) (hy : y = nI j := by rfl) : (((x >>> (y &&& 31)) &&& 1) = 1 → A) ∧ (¬ ((x >>> (y &&& 31)) &&& 1) = 1 → B) := by
  subst hx hy
  by_cases h : m.testBit j = true
  · exact br_t (kj_bit1 hm hj h) (f h)
  · exact br_f (by rw [kj_bit0 hm hj h]; decide) (g h)
/-- set difference below 16 -/
def sb (a b : Nat) : Nat := a &&& (15 ^^^ b)
theorem kj_sub : ∀ a, a < 16 → ∀ b, b < 16 → nI a &&& (nI b ^^^ (-1)) = nI (sb a b) ∧ sb a b < 16 := by decide +kernel
theorem sb_bit {a : Nat} (ha : a < 16) (b j : Nat) : (sb a b).testBit j = (a.testBit j && !b.testBit j) := by
  unfold sb
  rw [Nat.testBit_and, Nat.testBit_xor]
  by_cases h : j < 4
  · have : Nat.testBit 15 j = true := (by decide +kernel : ∀ j, j < 4 → Nat.testBit 15 j = true) j h
    rw [this]; simp
  · have : a.testBit j = false := Nat.testBit_lt_two_pow (Nat.lt_of_lt_of_le ha (Nat.pow_le_pow_right (n := 2) (i := 4) (by omega) (by omega)))
    rw [this]; simp
theorem m_hi {a j : Nat} (ha : a < 16) (h : a.testBit j = true) : j < 4 := by
  rcases Nat.lt_or_ge j 4 with h4 | h4
  · exact h4
  · have : a.testBit j = false := Nat.testBit_lt_two_pow (Nat.lt_of_lt_of_le ha (Nat.pow_le_pow_right (n := 2) (i := 4) (by omega) h4))
    rw [this] at h; cases h
theorem m_or {a b : Nat} (ha : a < 16) (hb : b < 16) : a ||| b < 16 := Nat.or_lt_two_pow (n := 4) ha hb
theorem m_pow {j : Nat} (h : j < 4) : 2 ^ j < 16 := Nat.pow_lt_pow_right (n := 4) (by omega) h
theorem m_eq {a b : Nat} (ha : a < 16) (hb : b < 16) (h : ∀ j, j < 4 → (a.testBit j = true ↔ b.testBit j = true)) : a = b := by
  apply Nat.eq_of_testBit_eq
  intro j
  by_cases hj : j < 4
  · have := h j hj
    cases h1 : a.testBit j <;> cases h2 : b.testBit j <;> simp_all
  · have h1 : ¬ a.testBit j = true := fun z => hj (m_hi ha z)
    have h2 : ¬ b.testBit j = true := fun z => hj (m_hi hb z)
    cases h3 : a.testBit j <;> cases h4 : b.testBit j <;> simp_all
theorem or_bit (a b j : Nat) : (a ||| b).testBit j = true ↔ a.testBit j = true ∨ b.testBit j = true := by
  rw [Nat.testBit_or]; simp
theorem pw_bit (i j : Nat) : (2 ^ i).testBit j = true ↔ i = j := by
  rw [Nat.testBit_two_pow]; simp
/-- the difference is empty: all of a is in b -/
theorem sb_0 {a b : Nat} (ha : a < 16) : sb a b = 0 ↔ ∀ j, j < 4 → a.testBit j = true → b.testBit j = true := by
  constructor
  · intro h j hj h1
    have := sb_bit ha b j
    rw [h, h1, Nat.zero_testBit] at this
    cases h2 : b.testBit j
    · rw [h2] at this; cases this
    · rfl
  · intro h
    apply Nat.eq_of_testBit_eq
    intro j
    rw [sb_bit ha, Nat.zero_testBit]
    cases h1 : a.testBit j
    · rfl
    · rw [h j (m_hi ha h1) h1]; rfl
theorem nar_0 : vp_nar .boolean 0 = 0 := by rfl
theorem nar_1 : vp_nar .boolean 1 = 1 := by rfl
theorem nb_0 : narrow .boolean (.int 0) = .int 0 := by rfl
theorem nb_1 : narrow .boolean (.int 1) = .int 1 := by rfl
theorem kj_ix20 (i k : Nat) : nI i * 20 + nI k = nI (i * 20 + k) := by
  rw [show (20 : Int32) = nI 20 from rfl, pk_mul, nI_add]
theorem kj_ix20' (i k : Nat) : 20 * nI i + nI k = nI (i * 20 + k) := by
  rw [show (20 : Int32) = nI 20 from rfl, pk_mul, nI_add, Nat.mul_comm]
theorem kj_ix2 (i k : Nat) : nI i * 2 + nI k = nI (i * 2 + k) := by
  rw [show (2 : Int32) = nI 2 from rfl, pk_mul, nI_add]
theorem kj_ix2' (i k : Nat) : 2 * nI i + nI k = nI (i * 2 + k) := by
  rw [show (2 : Int32) = nI 2 from rfl, pk_mul, nI_add, Nat.mul_comm]
theorem kj_d2 (i : Nat) : 2 * nI i = nI (i * 2) := by
  rw [show (2 : Int32) = nI 2 from rfl, pk_mul, Nat.mul_comm]
theorem kj_mm (i : Nat) : nI i - 1 = nI i + (-1) := by
  rw [Int32.sub_eq_add_neg]
theorem kj_m1 : nI 0 + (-1) < 0 := by decide
end
section
/-! reading the fields of a row of tokens -/
def rO (t : Nat → Nat) : Nat → Nat
  | 0 => 1
  | k + 1 => if t k = 0 then rO t k + 1 else if rO t k = 1 then 1 else rO t k - 1
def rF (t : Nat → Nat) : Nat → Nat
  | 0 => 0
  | k + 1 => if t k = 0 then rF t k else if rO t k = 1 then rF t k + 1 else rF t k
def rE (t : Nat → Nat) : Nat → Nat
  | 0 => 0
  | k + 1 => if t k = 0 then rE t k else if rO t k = 1 then k + 1 else rE t k
theorem rO_pos (t : Nat → Nat) (k : Nat) : 1 ≤ rO t k := by
  induction k with
  | zero => exact Nat.le_refl 1
  | succ k ih => unfold rO; split <;> (try split) <;> omega
theorem rO_le (t : Nat → Nat) (k : Nat) : rO t k ≤ k + 1 := by
  induction k with
  | zero => exact Nat.le_refl 1
  | succ k ih => unfold rO; split <;> (try split) <;> omega
theorem rF_le (t : Nat → Nat) (k : Nat) : rF t k ≤ k := by
  induction k with
  | zero => exact Nat.le_refl 0
  | succ k ih => unfold rF; split <;> (try split) <;> omega
theorem rE_le (t : Nat → Nat) (k : Nat) : rE t k ≤ k := by
  induction k with
  | zero => exact Nat.le_refl 0
  | succ k ih => unfold rE; split <;> (try split) <;> omega
theorem rE_sp (t : Nat → Nat) (n : Nat) : rO t (rE t n) = 1 ∧ rF t (rE t n) = rF t n := by
  induction n with
  | zero => exact ⟨rfl, rfl⟩
  | succ n ih =>
    by_cases h : t n = 0
    · have h1 : rE t (n + 1) = rE t n := by show (if _ then _ else _) = _; rw [if_pos h]
      have h2 : rF t (n + 1) = rF t n := by show (if _ then _ else _) = _; rw [if_pos h]
      rw [h1, h2]; exact ih
    · by_cases h' : rO t n = 1
      · have h1 : rE t (n + 1) = n + 1 := by show (if _ then _ else _) = _; rw [if_neg h, if_pos h']
        have h2 : rO t (n + 1) = 1 := by show (if _ then _ else _) = _; rw [if_neg h, if_pos h']
        rw [h1, h2]; exact ⟨rfl, rfl⟩
      · have h1 : rE t (n + 1) = rE t n := by show (if _ then _ else _) = _; rw [if_neg h, if_neg h']
        have h2 : rF t (n + 1) = rF t n := by show (if _ then _ else _) = _; rw [if_neg h, if_neg h']
        rw [h1, h2]; exact ih
theorem rF_mo (t : Nat → Nat) {k n : Nat} (h : k ≤ n) : rF t k ≤ rF t n := by
  induction n with
  | zero => cases Nat.le_zero.mp h; exact Nat.le_refl _
  | succ n ih =>
    rcases Nat.lt_or_ge k (n + 1) with h1 | h1
    · have := ih (by omega)
      have h2 : rF t n ≤ rF t (n + 1) := by
        rw [show rF t (n + 1) = (if t n = 0 then rF t n else if rO t n = 1 then rF t n + 1 else rF t n) from rfl]
        split <;> (try split) <;> omega
      omega
    · have : k = n + 1 := by omega
      rw [this]; exact Nat.le_refl _
theorem rF_lt (t : Nat → Nat) (n k : Nat) (h : k < rE t n) : rF t k < rF t n := by
  induction n with
  | zero => exact absurd h (Nat.not_lt_zero _)
  | succ n ih =>
    by_cases h0 : t n = 0
    · have h1 : rE t (n + 1) = rE t n := by show (if _ then _ else _) = _; rw [if_pos h0]
      have h2 : rF t (n + 1) = rF t n := by show (if _ then _ else _) = _; rw [if_pos h0]
      rw [h1] at h; rw [h2]; exact ih h
    · by_cases h' : rO t n = 1
      · have h2 : rF t (n + 1) = rF t n + 1 := by show (if _ then _ else _) = _; rw [if_neg h0, if_pos h']
        have h1 := rE_le t (n + 1)
        have := rF_mo t (show k ≤ n by omega)
        omega
      · have h1 : rE t (n + 1) = rE t n := by show (if _ then _ else _) = _; rw [if_neg h0, if_neg h']
        have h2 : rF t (n + 1) = rF t n := by show (if _ then _ else _) = _; rw [if_neg h0, if_neg h']
        rw [h1] at h; rw [h2]; exact ih h
theorem r_cg {t t' : Nat → Nat} {n : Nat} (h : ∀ k, k < n → t k = t' k) : rO t n = rO t' n ∧ rF t n = rF t' n ∧ rE t n = rE t' n := by
  induction n with
  | zero => exact ⟨rfl, rfl, rfl⟩
  | succ n ih =>
    obtain ⟨h1, h2, h3⟩ := ih (fun k hk => h k (by omega))
    unfold rO rF rE
    rw [h n (by omega), h1, h2, h3]
    exact ⟨rfl, rfl, rfl⟩
def tp (tk : Nat → Nat) (i : Nat) : Nat → Nat := fun k => tk (i * 20 + k)
/-! the types named -/
def nM (t : Nat → Nat) : Nat → Nat
  | 0 => 0
  | k + 1 => if t k < 7 then nM t k else nM t k ||| 2 ^ (t k - 7)
theorem nM_bit (t : Nat → Nat) (e j : Nat) : (nM t e).testBit j = true ↔ ∃ k, k < e ∧ 7 ≤ t k ∧ t k - 7 = j := by
  induction e with
  | zero =>
    show Nat.testBit 0 j = true ↔ _
    rw [Nat.zero_testBit]
    exact ⟨fun h => (nomatch h), fun ⟨k, hk, _⟩ => absurd hk (Nat.not_lt_zero _)⟩
  | succ e ih =>
    by_cases h : t e < 7
    · have h1 : nM t (e + 1) = nM t e := by show (if _ then _ else _) = _; rw [if_pos h]
      rw [h1, ih]
      constructor
      · rintro ⟨k, hk, h2⟩; exact ⟨k, by omega, h2⟩
      · rintro ⟨k, hk, h2, h3⟩
        have : k ≠ e := fun z => by rw [z] at h2; omega
        exact ⟨k, by omega, h2, h3⟩
    · have h1 : nM t (e + 1) = nM t e ||| 2 ^ (t e - 7) := by show (if _ then _ else _) = _; rw [if_neg h]
      rw [h1, or_bit, ih, pw_bit]
      constructor
      · rintro (⟨k, hk, h2⟩ | h2)
        · exact ⟨k, by omega, h2⟩
        · exact ⟨e, by omega, by omega, h2⟩
      · rintro ⟨k, hk, h2, h3⟩
        by_cases hz : k = e
        · right; rw [hz] at h3; exact h3
        · left; exact ⟨k, by omega, h2, h3⟩
theorem nM_lt (t : Nat → Nat) (e : Nat) (h : ∀ k, k < e → t k ≤ 10) : nM t e < 16 := by
  induction e with
  | zero => show 0 < 16; decide
  | succ e ih =>
    have := ih (fun k hk => h k (by omega))
    unfold nM
    split
    · exact this
    · exact m_or this (m_pow (by have := h e (by omega); omega))
/-! needs: Warshall (the class), four passes (the reference) -/
def wI (via : Nat) : Nat → (Nat → Nat) → (Nat → Nat)
  | 0, f => f
  | m + 1, f => if ((wI via m f) m).testBit via = true then un (wI via m f) m ((wI via m f) m ||| (wI via m f) via) else wI via m f
def wO (c : Nat) : Nat → (Nat → Nat) → (Nat → Nat)
  | 0, f => f
  | v + 1, f => wI v c (wO c v f)
theorem wI_sp (via m : Nat) (f : Nat → Nat) (i : Nat) : wI via m f i = if i < m ∧ (f i).testBit via = true then f i ||| f via else f i := by
  induction m generalizing i with
  | zero => rw [if_neg (fun z => Nat.not_lt_zero _ z.1)]; rfl
  | succ m ih =>
    have hm : wI via m f m = f m := by rw [ih, if_neg (fun z => Nat.lt_irrefl _ z.1)]
    have hv : wI via m f via = f via := by rw [ih]; split <;> (try rfl); exact Nat.or_self _
    unfold wI
    rw [hm, hv]
    by_cases h : (f m).testBit via = true
    · rw [if_pos h]
      by_cases hi : i = m
      · subst hi; rw [un_s, if_pos ⟨by omega, h⟩]
      · rw [un_n hi, ih]
        by_cases h2 : i < m ∧ (f i).testBit via = true
        · rw [if_pos h2, if_pos ⟨by omega, h2.2⟩]
        · rw [if_neg h2, if_neg (fun z => h2 ⟨by omega, z.2⟩)]
    · rw [if_neg h, ih]
      by_cases h2 : i < m ∧ (f i).testBit via = true
      · rw [if_pos h2, if_pos ⟨by omega, h2.2⟩]
      · rw [if_neg h2, if_neg]
        rintro ⟨z1, z2⟩
        by_cases hi : i = m
        · subst hi; exact h z2
        · exact h2 ⟨by omega, z2⟩
theorem wI_bit (via c : Nat) (f : Nat → Nat) (i j : Nat) : (wI via c f i).testBit j = true ↔ (f i).testBit j = true ∨ (i < c ∧ (f i).testBit via = true ∧ (f via).testBit j = true) := by
  rw [wI_sp]
  by_cases h : i < c ∧ (f i).testBit via = true
  · rw [if_pos h, or_bit]
    exact ⟨fun z => z.elim Or.inl (fun y => Or.inr ⟨h.1, h.2, y⟩), fun z => z.elim Or.inl (fun y => Or.inr y.2.2)⟩
  · rw [if_neg h]
    exact ⟨Or.inl, fun z => z.elim id (fun y => absurd ⟨y.1, y.2.1⟩ h)⟩
theorem wO_tr (c : Nat) (f : Nat → Nat) (k : Nat) (hk : k ≤ c) : ∀ i m j, i < c → m < k → (wO c k f i).testBit m = true → (wO c k f m).testBit j = true → (wO c k f i).testBit j = true := by
  induction k with
  | zero => intro i m j _ h; exact absurd h (Nat.not_lt_zero _)
  | succ k ih =>
    have T := ih (by omega)
    intro i m j hi hm h1 h2
    have e : wO c (k + 1) f = wI k c (wO c k f) := rfl
    rw [e, wI_bit] at h1 h2 ⊢
    by_cases hmk : m = k
    · subst hmk
      have h1' : (wO c m f i).testBit m = true := h1.elim id (fun z => z.2.1)
      have h2' : (wO c m f m).testBit j = true := h2.elim id (fun z => z.2.2)
      exact Or.inr ⟨hi, h1', h2'⟩
    · have hm' : m < k := by omega
      rcases h1 with h1 | ⟨_, h1, h1'⟩ <;> rcases h2 with h2 | ⟨_, h2, h2'⟩
      · exact Or.inl (T i m j hi hm' h1 h2)
      · exact Or.inr ⟨hi, T i m k hi hm' h1 h2, h2'⟩
      · exact Or.inr ⟨hi, h1, T k m j (by omega) hm' h1' h2⟩
      · exact Or.inr ⟨hi, h1, h2'⟩
theorem wO_in (c : Nat) (f : Nat → Nat) (k i j : Nat) (h : (f i).testBit j = true) : (wO c k f i).testBit j = true := by
  induction k with
  | zero => exact h
  | succ k ih => show (wI k c (wO c k f) i).testBit j = true; rw [wI_bit]; exact Or.inl ih
theorem wO_hi (c : Nat) (f : Nat → Nat) (k i j : Nat) (hf : ∀ i j, (f i).testBit j = true → i < c ∧ j < c) (h : (wO c k f i).testBit j = true) : i < c ∧ j < c := by
  induction k generalizing i j with
  | zero => exact hf i j h
  | succ k ih =>
    rw [show wO c (k + 1) f = wI k c (wO c k f) from rfl, wI_bit] at h
    rcases h with h | ⟨h1, h2, h3⟩
    · exact ih i j h
    · exact ⟨h1, (ih k j h3).2⟩
theorem wO_lt (c : Nat) (f : Nat → Nat) (k : Nat) (hf : ∀ i, f i < 16) (i : Nat) : wO c k f i < 16 := by
  induction k generalizing i with
  | zero => exact hf i
  | succ k ih =>
    rw [show wO c (k + 1) f = wI k c (wO c k f) from rfl, wI_sp]
    split
    · exact m_or (ih i) (ih k)
    · exact ih i
theorem un_self (f : Nat → Nat) (i : Nat) : un f i (f i) = f := by
  funext j
  unfold un
  split
  · next h => rw [h]
  · rfl
def yP : Nat → (Nat → Nat) → (Nat → Nat)
  | 0, f => f
  | m + 1, f => if ((yP m f) (m / 4)).testBit (m % 4) = true then un (yP m f) (m / 4) ((yP m f) (m / 4) ||| (yP m f) (m % 4)) else yP m f
def yO : Nat → (Nat → Nat) → (Nat → Nat)
  | 0, f => f
  | m + 1, f => yP 16 (yO m f)
theorem yP_up (m : Nat) (f : Nat → Nat) (i j : Nat) (h : (yP m f i).testBit j = true) : (yP (m + 1) f i).testBit j = true := by
  unfold yP
  split
  · by_cases hi : i = m / 4
    · subst hi; rw [un_s, or_bit]; exact Or.inl h
    · rw [un_n hi]; exact h
  · exact h
theorem yP_in (m : Nat) (f : Nat → Nat) (i j : Nat) (h : (f i).testBit j = true) : (yP m f i).testBit j = true := by
  induction m with
  | zero => exact h
  | succ m ih => exact yP_up m f i j ih
theorem yP_st (m : Nat) (f : Nat → Nat) (i j x : Nat) (hj : j < 4) (hm : 4 * i + j < m) (h1 : (f i).testBit j = true) (h2 : (f j).testBit x = true) : (yP m f i).testBit x = true := by
  induction m with
  | zero => exact absurd hm (Nat.not_lt_zero _)
  | succ m ih =>
    by_cases h : 4 * i + j < m
    · exact yP_up m f i x (ih h)
    · have e : m = 4 * i + j := by omega
      have e1 : m / 4 = i := by omega
      have e2 : m % 4 = j := by omega
      unfold yP
      rw [e1, e2, if_pos (yP_in m f i j h1), un_s, or_bit]
      exact Or.inr (yP_in m f j x h2)
theorem yP_so (m : Nat) (f : Nat → Nat) (Q : Nat → Nat → Prop) (hQ : ∀ i j x, Q i j → Q j x → Q i x) (hf : ∀ i j, (f i).testBit j = true → Q i j) (i j : Nat) (h : (yP m f i).testBit j = true) : Q i j := by
  induction m generalizing i j with
  | zero => exact hf i j h
  | succ m ih =>
    unfold yP at h
    split at h
    · next hb =>
      by_cases hi : i = m / 4
      · rw [hi, un_s, or_bit] at h
        rw [hi]
        rcases h with h | h
        · exact ih _ _ h
        · exact hQ _ _ _ (ih _ _ hb) (ih _ _ h)
      · rw [un_n hi] at h; exact ih _ _ h
    · exact ih _ _ h
theorem yP_lt (m : Nat) (f : Nat → Nat) (hf : ∀ i, f i < 16) (i : Nat) : yP m f i < 16 := by
  induction m generalizing i with
  | zero => exact hf i
  | succ m ih =>
    unfold yP
    split
    · by_cases hi : i = m / 4
      · subst hi; rw [un_s]; exact m_or (ih _) (ih _)
      · rw [un_n hi]; exact ih _
    · exact ih _
theorem yO_so (m : Nat) (f : Nat → Nat) (Q : Nat → Nat → Prop) (hQ : ∀ i j x, Q i j → Q j x → Q i x) (hf : ∀ i j, (f i).testBit j = true → Q i j) (i j : Nat) (h : (yO m f i).testBit j = true) : Q i j := by
  induction m generalizing i j with
  | zero => exact hf i j h
  | succ m ih => exact yP_so 16 (yO m f) Q hQ ih i j h
theorem yO_lt (m : Nat) (f : Nat → Nat) (hf : ∀ i, f i < 16) (i : Nat) : yO m f i < 16 := by
  induction m generalizing i with
  | zero => exact hf i
  | succ m ih => exact yP_lt 16 _ ih i
theorem yO_up (m d : Nat) (f : Nat → Nat) (i j : Nat) (h : (yO m f i).testBit j = true) : (yO (m + d) f i).testBit j = true := by
  induction d with
  | zero => exact h
  | succ d ih => exact yP_in 16 _ i j ih
theorem yO_w (c : Nat) (hc : c ≤ 4) (f : Nat → Nat) (k : Nat) (hk : k ≤ c) (i j : Nat) (h : (wO c k f i).testBit j = true) : (yO k f i).testBit j = true := by
  induction k generalizing i j with
  | zero => exact h
  | succ k ih =>
    rw [show wO c (k + 1) f = wI k c (wO c k f) from rfl, wI_bit] at h
    rcases h with h | ⟨h1, h2, h3⟩
    · exact yP_in 16 _ i j (ih (by omega) i j h)
    · exact yP_st 16 _ i k j (by omega) (by omega) (ih (by omega) i k h2) (ih (by omega) k j h3)
theorem yO_eq (c : Nat) (hc : c ≤ 4) (f : Nat → Nat) (hf : ∀ i, f i < 16) (hh : ∀ i j, (f i).testBit j = true → i < c ∧ j < c) : yO 4 f = wO c c f := by
  funext i
  apply m_eq (yO_lt 4 f hf i) (wO_lt c f c hf i)
  intro j _
  constructor
  · intro h
    refine yO_so 4 f (fun i j => (wO c c f i).testBit j = true) ?_ (fun i j => wO_in c f c i j) i j h
    intro i m j h1 h2
    have a := wO_hi c f c i m hh h1
    exact wO_tr c f c (Nat.le_refl c) i m j a.1 a.2 h1 h2
  · intro h
    have := yO_up c (4 - c) f i j (yO_w c hc f c (Nat.le_refl c) i j h)
    rw [show c + (4 - c) = 4 by omega] at this
    exact this
def N0 (c : Nat) (tk en : Nat → Nat) : Nat → Nat := fun i => if i < c then nM (tp tk i) (en i) else 0
def NN (c : Nat) (tk en : Nat → Nat) : Nat → Nat := wO c c (N0 c tk en)
/-! groups -/
def gM (N : Nat → Nat) (i : Nat) : Nat → Nat
  | 0 => 2 ^ i
  | j + 1 => if (N i).testBit j = true ∧ (N j).testBit i = true then gM N i j ||| 2 ^ j else gM N i j
def gS (N : Nat → Nat) (i : Nat) : Nat := gM N i 4
theorem gM_bit (N : Nat → Nat) (i m x : Nat) : (gM N i m).testBit x = true ↔ x = i ∨ (x < m ∧ (N i).testBit x = true ∧ (N x).testBit i = true) := by
  induction m with
  | zero =>
    show (2 ^ i).testBit x = true ↔ _
    rw [pw_bit]
    exact ⟨fun h => Or.inl h.symm, fun h => h.elim Eq.symm (fun z => absurd z.1 (Nat.not_lt_zero _))⟩
  | succ m ih =>
    unfold gM
    split
    · next h =>
      rw [or_bit, ih, pw_bit]
      constructor
      · rintro ((h1 | h1) | h1)
        · exact Or.inl h1
        · exact Or.inr ⟨by omega, h1.2⟩
        · subst h1; exact Or.inr ⟨by omega, h⟩
      · rintro (h1 | h1)
        · exact Or.inl (Or.inl h1)
        · by_cases hx : m = x
          · exact Or.inr hx
          · exact Or.inl (Or.inr ⟨by omega, h1.2⟩)
    · next h =>
      rw [ih]
      constructor
      · rintro (h1 | h1)
        · exact Or.inl h1
        · exact Or.inr ⟨by omega, h1.2⟩
      · rintro (h1 | h1)
        · exact Or.inl h1
        · by_cases hx : m = x
          · subst hx; exact absurd h1.2 h
          · exact Or.inr ⟨by omega, h1.2⟩
theorem gM_lt (N : Nat → Nat) (i m : Nat) (hi : i < 4) (hm : m ≤ 4) : gM N i m < 16 := by
  induction m with
  | zero => exact m_pow hi
  | succ m ih =>
    have := ih (by omega)
    unfold gM
    split
    · exact m_or this (m_pow (by omega))
    · exact this
theorem gM_c (N : Nat → Nat) (i c : Nat) (hN : ∀ j, (N i).testBit j = true → j < c) (d : Nat) : gM N i (c + d) = gM N i c := by
  induction d with
  | zero => rfl
  | succ d ih =>
    rw [show gM N i (c + (d + 1)) = (if (N i).testBit (c + d) = true ∧ (N (c + d)).testBit i = true then gM N i (c + d) ||| 2 ^ (c + d) else gM N i (c + d)) from rfl]
    rw [if_neg (fun z => absurd (hN _ z.1) (by omega)), ih]
end
section
/-! what the needs promise: NQ c tk en N -/
def NQ (c : Nat) (tk en : Nat → Nat) (N : Nat → Nat) : Prop :=
  (∀ i, N i < 16) ∧ (∀ i j, (N i).testBit j = true → i < c ∧ j < c) ∧ (∀ i m j, (N i).testBit m = true → (N m).testBit j = true → (N i).testBit j = true) ∧ (∀ i k, i < c → k < en i → 7 ≤ tp tk i k → (N i).testBit (tp tk i k - 7) = true)
/-- the tokens of the declared types, as far as their fields go -/
def TQ (c : Nat) (pc tk en : Nat → Nat) : Prop := ∀ i k, i < c → k < en i → tp tk i k ≤ 10 ∧ (tp tk i k = 1 ∨ tp tk i k = 2 → tp tk i k ≤ pc i) ∧ (7 ≤ tp tk i k → tp tk i k - 7 < c)
theorem N0_lt {c : Nat} {pc tk en : Nat → Nat} (h : TQ c pc tk en) (i : Nat) : N0 c tk en i < 16 := by
  unfold N0
  split
  · next hi => exact nM_lt _ _ (fun k hk => (h i k hi hk).1)
  · decide
theorem N0_hi {c : Nat} {pc tk en : Nat → Nat} (h : TQ c pc tk en) (i j : Nat) (hb : (N0 c tk en i).testBit j = true) : i < c ∧ j < c := by
  unfold N0 at hb
  split at hb
  · next hi =>
    obtain ⟨k, hk, h7, e⟩ := (nM_bit _ _ _).mp hb
    exact ⟨hi, e ▸ (h i k hi hk).2.2 h7⟩
  · rw [Nat.zero_testBit] at hb; cases hb
theorem NN_q {c : Nat} {pc tk en : Nat → Nat} (h : TQ c pc tk en) : NQ c tk en (NN c tk en) := by
  have hh := fun i j => N0_hi h i j
  refine ⟨wO_lt c _ c (N0_lt h), fun i j => wO_hi c _ c i j hh, ?_, ?_⟩
  · intro i m j h1 h2
    have a := wO_hi c _ c i m hh h1
    exact wO_tr c _ c (Nat.le_refl c) i m j a.1 a.2 h1 h2
  · intro i k hi hk h7
    apply wO_in
    unfold N0
    rw [if_pos hi, nM_bit]
    exact ⟨k, hk, h7, rfl⟩
theorem NN_y {c : Nat} (hc : c ≤ 4) {pc tk en : Nat → Nat} (h : TQ c pc tk en) : yO 4 (N0 c tk en) = NN c tk en := yO_eq c hc _ (N0_lt h) (N0_hi h)
theorem gS_bit (N : Nat → Nat) (hN : ∀ i, N i < 16) (i x : Nat) : (gS N i).testBit x = true ↔ x = i ∨ ((N i).testBit x = true ∧ (N x).testBit i = true) := by
  unfold gS
  rw [gM_bit]
  exact ⟨fun h => h.elim Or.inl (fun z => Or.inr z.2), fun h => h.elim Or.inl (fun z => Or.inr ⟨m_hi (hN i) z.1, z⟩)⟩
theorem gS_lt (N : Nat → Nat) (i : Nat) (hi : i < 4) : gS N i < 16 := gM_lt N i 4 hi (by omega)
theorem gS_self (N : Nat → Nat) (hN : ∀ i, N i < 16) (i : Nat) : (gS N i).testBit i = true := (gS_bit N hN i i).mpr (Or.inl rfl)
theorem gS_sym {N : Nat → Nat} (hN : ∀ i, N i < 16) {i j : Nat} (h : (gS N i).testBit j = true) : (gS N j).testBit i = true := by
  rw [gS_bit N hN] at h ⊢
  rcases h with h | h
  · exact Or.inl h.symm
  · exact Or.inr ⟨h.2, h.1⟩
theorem gS_tr {N : Nat → Nat} (hN : ∀ i, N i < 16) (hT : ∀ i m j, (N i).testBit m = true → (N m).testBit j = true → (N i).testBit j = true) {i j x : Nat} (h : (gS N i).testBit j = true) (h2 : (gS N j).testBit x = true) : (gS N i).testBit x = true := by
  rw [gS_bit N hN] at h h2 ⊢
  rcases h with h | h
  · subst h; exact h2
  · rcases h2 with h2 | h2
    · subst h2; exact Or.inr h
    · exact Or.inr ⟨hT _ _ _ h.1 h2.1, hT _ _ _ h2.2 h.2⟩
theorem gS_eq {c : Nat} (hc : c ≤ 4) {tk en N : Nat → Nat} (q : NQ c tk en N) {i j : Nat} (hi : i < c) (h : (gS N i).testBit j = true) : gS N j = gS N i := by
  have hj : j < c := by
    rcases (gS_bit N q.1 i j).mp h with h | h
    · rw [h]; exact hi
    · exact (q.2.1 i j h.1).2
  apply m_eq (gS_lt N j (by omega)) (gS_lt N i (by omega))
  intro x _
  exact ⟨fun z => gS_tr q.1 q.2.2.1 h z, fun z => gS_tr q.1 q.2.2.1 (gS_sym q.1 h) z⟩
theorem gS_c {c : Nat} {tk en N : Nat → Nat} (q : NQ c tk en N) {i j : Nat} (hi : i < c) (h : (gS N i).testBit j = true) : j < c := by
  rcases (gS_bit N q.1 i j).mp h with h | h
  · rw [h]; exact hi
  · exact (q.2.1 i j h.1).2
/-! slots of a group, choices -/
def iG (S : Nat) (pc : Nat → Nat) (q : Nat) : Bool := S.testBit (q / 2) && decide (q % 2 < pc (q / 2))
def cb (S : Nat) (pc : Nat → Nat) : Nat → Nat
  | 0 => 0
  | m + 1 => if iG S pc m = true then cb S pc m + 1 else cb S pc m
def tG (S : Nat) (pc : Nat → Nat) (ch : Nat) (g : Nat → Nat) : Nat → Nat := fun q => if q < 8 ∧ iG S pc q = true then ch / 4 ^ (cb S pc 8 - cb S pc (q + 1)) % 4 else g q
theorem iG_iff (S : Nat) (pc : Nat → Nat) (q : Nat) : iG S pc q = true ↔ S.testBit (q / 2) = true ∧ q % 2 < pc (q / 2) := by
  unfold iG
  rw [Bool.and_eq_true, decide_eq_true_iff]
theorem iG_ix (S : Nat) (pc : Nat → Nat) (j a : Nat) (ha : a < 2) : iG S pc (j * 2 + a) = true ↔ S.testBit j = true ∧ a < pc j := by
  rw [iG_iff, show (j * 2 + a) / 2 = j by omega, show (j * 2 + a) % 2 = a by omega]
theorem cb_y {S : Nat} {pc : Nat → Nat} {m : Nat} (h : iG S pc m = true) : cb S pc (m + 1) = cb S pc m + 1 := by
  show (if _ then _ else _) = _
  rw [if_pos h]
theorem cb_n {S : Nat} {pc : Nat → Nat} {m : Nat} (h : ¬ iG S pc m = true) : cb S pc (m + 1) = cb S pc m := by
  rw [show cb S pc (m + 1) = (if iG S pc m = true then cb S pc m + 1 else cb S pc m) from rfl, if_neg h]
theorem cb_mo (S : Nat) (pc : Nat → Nat) (m d : Nat) : cb S pc m ≤ cb S pc (m + d) := by
  induction d with
  | zero => exact Nat.le_refl _
  | succ d ih =>
    by_cases h : iG S pc (m + d) = true
    · have := cb_y h; rw [show m + (d + 1) = m + d + 1 from rfl]; omega
    · have := cb_n h; rw [show m + (d + 1) = m + d + 1 from rfl]; omega
theorem cb_le (S : Nat) (pc : Nat → Nat) {m n : Nat} (h : m ≤ n) : cb S pc m ≤ cb S pc n := by
  have := cb_mo S pc m (n - m)
  rw [show m + (n - m) = n by omega] at this
  exact this
def sP (pc : Nat → Nat) : Nat → Nat
  | 0 => 0
  | m + 1 => sP pc m + pc m
theorem cb_sP (S : Nat) (pc : Nat → Nat) (m : Nat) : cb S pc (m * 2) ≤ sP pc m := by
  induction m with
  | zero => exact Nat.le_refl _
  | succ m ih =>
    have e : (m + 1) * 2 = m * 2 + 1 + 1 := by omega
    rw [e]
    show _ ≤ sP pc m + pc m
    by_cases h0 : iG S pc (m * 2) = true <;> by_cases h1 : iG S pc (m * 2 + 1) = true
    · rw [cb_y h1, cb_y h0]
      have := (iG_ix S pc m 1 (by omega)).mp h1
      omega
    · rw [cb_n h1, cb_y h0]
      have := (iG_ix S pc m 0 (by omega)).mp h0
      omega
    · rw [cb_y h1, cb_n h0]
      have := (iG_ix S pc m 1 (by omega)).mp h1
      omega
    · rw [cb_n h1, cb_n h0]
      omega
/-- the group's types are below c -/
theorem cb_c {S c : Nat} (pc : Nat → Nat) (h : ∀ j, S.testBit j = true → j < c) (d : Nat) : cb S pc (c * 2 + d) = cb S pc (c * 2) := by
  induction d with
  | zero => rfl
  | succ d ih =>
    have : ¬ iG S pc (c * 2 + d) = true := by
      rw [iG_iff]
      rintro ⟨h1, _⟩
      have := h _ h1
      omega
    rw [show c * 2 + (d + 1) = c * 2 + d + 1 from rfl, cb_n this, ih]
theorem cb_6 {S c : Nat} {pc : Nat → Nat} (hc : c ≤ 4) (h : ∀ j, S.testBit j = true → j < c) (h6 : sP pc c ≤ 6) : cb S pc 8 ≤ 6 := by
  have e := cb_c pc h (8 - c * 2)
  rw [show c * 2 + (8 - c * 2) = 8 by omega] at e
  have := cb_sP S pc c
  omega
theorem tG_lt {S : Nat} {pc : Nat → Nat} {ch : Nat} {g : Nat → Nat} (hg : ∀ q, g q < 4) (q : Nat) : tG S pc ch g q < 4 := by
  unfold tG
  split
  · exact Nat.mod_lt _ (by omega)
  · exact hg q
theorem tG_out {S : Nat} {pc : Nat → Nat} {ch : Nat} {g : Nat → Nat} {q : Nat} (h : ¬ iG S pc q = true) : tG S pc ch g q = g q := if_neg (fun z => h z.2)
theorem tG_in {S : Nat} {pc : Nat → Nat} {ch : Nat} {g g' : Nat → Nat} {q : Nat} (h8 : q < 8) (h : iG S pc q = true) : tG S pc ch g q = tG S pc ch g' q := by
  unfold tG
  rw [if_pos ⟨h8, h⟩, if_pos ⟨h8, h⟩]
theorem tG_tG {S : Nat} {pc : Nat → Nat} {ch : Nat} {g g' : Nat → Nat} (h : ∀ q, q < 8 ∧ iG S pc q = true ∨ g q = g' q) : tG S pc ch g = tG S pc ch g' := by
  funext q
  unfold tG
  rcases h q with z | z
  · rw [if_pos z, if_pos z]
  · rw [z]
/-! codes of kinds -/
def nc (k : Nat) : Nat := if k = 0 then 1 else if k = 1 then 4 else if k = 2 then 16 else 5
def co (pc g : Nat → Nat) (j : Nat) : Nat := if pc j = 0 then 1 else if pc j = 1 then 4 + g (j * 2) else 16 + 4 * g (j * 2 + 1) + g (j * 2)
def lf (pc g : Nat → Nat) (i tok : Nat) : Nat := if tok < 3 then nc (g (i * 2 + tok - 1)) else if tok < 7 then nc (tok - 3) else co pc g (tok - 7)
def ap (f a : Nat) : Nat := if f = 0 ∨ f = 1 then 0 else if nc (f % 4) = a then f / 4 else 0
def VC (f : Nat) : Prop := f < 32 ∧ (f = 0 ∨ f = 1 ∨ (4 ≤ f ∧ f < 8) ∨ 16 ≤ f)
theorem nc_vc (k : Nat) : VC (nc k) := by
  unfold nc VC
  split <;> (try split) <;> (try split) <;> omega
theorem co_vc {pc g : Nat → Nat} (hg : ∀ q, g q < 4) (j : Nat) : VC (co pc g j) := by
  have h0 := hg (j * 2)
  have h1 := hg (j * 2 + 1)
  unfold co VC
  split <;> (try split) <;> omega
theorem lf_vc {pc g : Nat → Nat} (hg : ∀ q, g q < 4) (i tok : Nat) : VC (lf pc g i tok) := by
  unfold lf
  split
  · exact nc_vc _
  · split
    · exact nc_vc _
    · exact co_vc hg _
theorem ap_vc {f : Nat} (a : Nat) (h : VC f) : VC (ap f a) := by
  unfold ap VC at *
  split
  · omega
  · split <;> omega
/-! evaluation on a stack, from the end of the fields -/
def eH (t : Nat → Nat) (e : Nat) : Nat → Nat
  | 0 => 0
  | m + 1 => if t (e - 1 - m) = 0 then eH t e m - 1 else eH t e m + 1
def eS (t L : Nat → Nat) (e : Nat) : Nat → (Nat → Nat)
  | 0 => fun _ => 0
  | m + 1 => if t (e - 1 - m) = 0 then un (eS t L e m) (eH t e m - 2) (ap (eS t L e m (eH t e m - 1)) (eS t L e m (eH t e m - 2))) else un (eS t L e m) (eH t e m) (L (e - 1 - m))
theorem eH_0 {t : Nat → Nat} {e m : Nat} (h : t (e - 1 - m) = 0) : eH t e (m + 1) = eH t e m - 1 := if_pos h
theorem eH_1 {t : Nat → Nat} {e m : Nat} (h : ¬ t (e - 1 - m) = 0) : eH t e (m + 1) = eH t e m + 1 := if_neg h
theorem eS_0 {t L : Nat → Nat} {e m : Nat} (h : t (e - 1 - m) = 0) : eS t L e (m + 1) = un (eS t L e m) (eH t e m - 2) (ap (eS t L e m (eH t e m - 1)) (eS t L e m (eH t e m - 2))) := if_pos h
theorem eS_1 {t L : Nat → Nat} {e m : Nat} (h : ¬ t (e - 1 - m) = 0) : eS t L e (m + 1) = un (eS t L e m) (eH t e m) (L (e - 1 - m)) := if_neg h
theorem eH_le (t : Nat → Nat) (e m : Nat) : eH t e m ≤ m := by
  induction m with
  | zero => exact Nat.le_refl 0
  | succ m ih =>
    by_cases h : t (e - 1 - m) = 0
    · rw [eH_0 h]; omega
    · rw [eH_1 h]; omega
theorem eH_sp (t : Nat → Nat) (n e m : Nat) (he : e = rE t n) (hm : m ≤ e) : eH t e m + 1 + rF t (e - m) = rF t e + rO t (e - m) := by
  have hs := rE_sp t n
  rw [← he] at hs
  induction m with
  | zero => rw [show e - 0 = e from rfl, hs.1]; show 0 + 1 + _ = _; omega
  | succ m ih =>
    have ih := ih (by omega)
    have hl := rF_lt t n (e - 1 - m) (by omega)
    have hp := rO_pos t (e - 1 - m)
    rw [show e - m = (e - 1 - m) + 1 by omega] at ih
    rw [show e - (m + 1) = e - 1 - m by omega]
    generalize hk : e - 1 - m = k at *
    by_cases h : t k = 0
    · rw [eH_0 (by rw [hk]; exact h)]
      rw [show rF t (k + 1) = rF t k from if_pos h, show rO t (k + 1) = rO t k + 1 from if_pos h] at ih
      omega
    · rw [eH_1 (by rw [hk]; exact h)]
      by_cases h1 : rO t k = 1
      · rw [show rF t (k + 1) = rF t k + 1 from (if_neg h).trans (if_pos h1), show rO t (k + 1) = 1 from (if_neg h).trans (if_pos h1)] at ih
        omega
      · rw [show rF t (k + 1) = rF t k from (if_neg h).trans (if_neg h1), show rO t (k + 1) = rO t k - 1 from (if_neg h).trans (if_neg h1)] at ih
        omega
theorem eH_2 (t : Nat → Nat) (n e m : Nat) (he : e = rE t n) (hm : m < e) (h : t (e - 1 - m) = 0) : 2 ≤ eH t e m := by
  have := eH_sp t n e m he (by omega)
  have hs := rE_sp t n
  have hl := rF_lt t n (e - 1 - m) (by omega)
  have hp := rO_pos t (e - 1 - m)
  rw [← he] at hs
  rw [show e - m = (e - 1 - m) + 1 by omega] at this
  generalize e - 1 - m = k at *
  rw [show rF t (k + 1) = rF t k from if_pos h, show rO t (k + 1) = rO t k + 1 from if_pos h] at this
  omega
theorem eS_vc {t L : Nat → Nat} {e : Nat} (hL : ∀ k, VC (L k)) (m q : Nat) : VC (eS t L e m q) := by
  induction m generalizing q with
  | zero => show VC 0; unfold VC; omega
  | succ m ih =>
    by_cases h : t (e - 1 - m) = 0
    · rw [eS_0 h]
      unfold un
      split
      · exact ap_vc _ (ih _)
      · exact ih q
    · rw [eS_1 h]
      unfold un
      split
      · exact hL _
      · exact ih q
theorem eS_cg {t L L' : Nat → Nat} {e : Nat} (hL : ∀ k, k < e → t k ≠ 0 → L k = L' k) (m : Nat) (hm : m ≤ e) : eS t L e m = eS t L' e m := by
  induction m with
  | zero => rfl
  | succ m ih =>
    have ih := ih (by omega)
    by_cases h : t (e - 1 - m) = 0
    · rw [eS_0 h, eS_0 h, ih]
    · rw [eS_1 h, eS_1 h, ih, hL _ (by omega) h]
def FI (t L : Nat → Nat) (e : Nat) : Prop := ∀ q, q < eH t e e → eS t L e e q = 1
def Ft (pc tk en : Nat → Nat) (S : Nat) (g : Nat → Nat) : Prop := ∀ i, i < 4 → S.testBit i = true → FI (tp tk i) (fun k => lf pc g i (tp tk i k)) (en i)
/-- what fits depends on the group's own slots and on those of what it needs -/
theorem lf_cg {c : Nat} (hc : c ≤ 4) {pc tk en N : Nat → Nat} (hp : ∀ i, pc i ≤ 2) (q : NQ c tk en N) (tq : TQ c pc tk en) {i W : Nat} (hi : i < c) (hW : ∀ j, j < 4 → (sb (N i) (gS N i)).testBit j = true → W.testBit j = true) {g G : Nat → Nat} (hg : ∀ j a, W.testBit j = true → a < pc j → g (j * 2 + a) = G (j * 2 + a)) (ch : Nat) {m k : Nat} (hm : (gS N i).testBit m = true) (hk : k < en m) (h0 : tp tk m k ≠ 0) : lf pc (tG (gS N i) pc ch g) m (tp tk m k) = lf pc (tG (gS N i) pc ch G) m (tp tk m k) := by
  have hmc := gS_c q hi hm
  obtain ⟨t1, t2, t3⟩ := tq m k hmc hk
  have slot : ∀ j a, ((gS N i).testBit j = true ∨ W.testBit j = true) → j < c → a < pc j → tG (gS N i) pc ch g (j * 2 + a) = tG (gS N i) pc ch G (j * 2 + a) := by
    intro j a hj hjc ha
    have hp2 := hp j
    by_cases hin : iG (gS N i) pc (j * 2 + a) = true
    · exact tG_in (by omega) hin
    · rw [tG_out hin, tG_out hin]
      rcases hj with hj | hj
      · exact absurd ((iG_ix _ _ _ _ (by omega)).mpr ⟨hj, ha⟩) hin
      · exact hg j a hj ha
  unfold lf
  split
  · next h3 =>
    rw [show m * 2 + tp tk m k - 1 = m * 2 + (tp tk m k - 1) by omega]
    rw [slot m (tp tk m k - 1) (Or.inl hm) hmc (by have := t2 (by omega); omega)]
  · split
    · rfl
    · next h3 h7 =>
      have hj : (N m).testBit (tp tk m k - 7) = true := q.2.2.2 m k hmc hk (by omega)
      have hij : (N i).testBit (tp tk m k - 7) = true := by
        rcases (gS_bit N q.1 i m).mp hm with z | z
        · rw [← z]; exact hj
        · exact q.2.2.1 _ _ _ z.1 hj
      have hjc := t3 (by omega)
      generalize tp tk m k - 7 = j at *
      have hor : (gS N i).testBit j = true ∨ W.testBit j = true := by
        by_cases z : (gS N i).testBit j = true
        · exact Or.inl z
        · refine Or.inr (hW j (by omega) ?_)
          rw [sb_bit (q.1 i), hij]
          simp [z]
      unfold co
      split
      · rfl
      · next hp0 =>
        have e0 := slot j 0 hor hjc (by omega)
        rw [Nat.add_zero] at e0
        split
        · rw [e0]
        · next hp1 => rw [e0, slot j 1 hor hjc (by omega)]
theorem Ft_cg {c : Nat} (hc : c ≤ 4) {pc tk en N : Nat → Nat} (hp : ∀ i, pc i ≤ 2) (q : NQ c tk en N) (tq : TQ c pc tk en) {i W : Nat} (hi : i < c) (hW : ∀ j, j < 4 → (sb (N i) (gS N i)).testBit j = true → W.testBit j = true) {g G : Nat → Nat} (hg : ∀ j a, W.testBit j = true → a < pc j → g (j * 2 + a) = G (j * 2 + a)) (ch : Nat) : Ft pc tk en (gS N i) (tG (gS N i) pc ch g) ↔ Ft pc tk en (gS N i) (tG (gS N i) pc ch G) := by
  have key : ∀ m, (gS N i).testBit m = true → ∀ n, n ≤ en m → eS (tp tk m) (fun k => lf pc (tG (gS N i) pc ch g) m (tp tk m k)) (en m) n = eS (tp tk m) (fun k => lf pc (tG (gS N i) pc ch G) m (tp tk m k)) (en m) n := fun m hm n hn => eS_cg (fun k hk h0 => lf_cg hc hp q tq hi hW hg ch hm hk h0) n hn
  constructor
  · intro h m h4 hm x hx
    rw [← key m hm _ (Nat.le_refl _)]
    exact h m h4 hm x hx
  · intro h m h4 hm x hx
    rw [key m hm _ (Nat.le_refl _)]
    exact h m h4 hm x hx
end
section
/-! the settling, pure -/
noncomputable def bD (p : Prop) : Bool := @decide p (Classical.propDecidable p)
theorem bD_iff (p : Prop) : bD p = true ↔ p := @decide_eq_true_iff p (Classical.propDecidable p)
def ls (b : Nat → Bool) : Nat → Nat
  | 0 => 0
  | n + 1 => if ls b n < n then ls b n else if b n = true then n else n + 1
theorem ls_sp (b : Nat → Bool) (n : Nat) : ls b n ≤ n ∧ (ls b n < n → b (ls b n) = true) ∧ (∀ k, k < ls b n → ¬ b k = true) := by
  induction n with
  | zero => exact ⟨Nat.le_refl 0, fun h => absurd h (Nat.lt_irrefl _), fun k h => absurd h (Nat.not_lt_zero _)⟩
  | succ n ih =>
    obtain ⟨h1, h2, h3⟩ := ih
    rw [show ls b (n + 1) = (if ls b n < n then ls b n else if b n = true then n else n + 1) from rfl]
    split
    · next h => exact ⟨by omega, fun _ => h2 h, h3⟩
    · next h =>
      have e : ls b n = n := by omega
      rw [e] at h3
      split
      · next hb => exact ⟨by omega, fun _ => hb, h3⟩
      · next hb =>
        refine ⟨Nat.le_refl _, fun z => absurd z (Nat.lt_irrefl _), fun k hk => ?_⟩
        by_cases hkn : k = n
        · subst hkn; exact hb
        · exact h3 k (by omega)
theorem ls_y {b : Nat → Bool} {n : Nat} (k : Nat) (hk : k < n) (hb : b k = true) (hl : ∀ j, j < k → ¬ b j = true) : ls b n = k := by
  obtain ⟨h1, h2, h3⟩ := ls_sp b n
  rcases Nat.lt_trichotomy (ls b n) k with h | h | h
  · exact absurd (h2 (by omega)) (hl _ h)
  · exact h
  · exact absurd hb (h3 k h)
theorem ls_n {b : Nat → Bool} {n : Nat} (hl : ∀ j, j < n → ¬ b j = true) : ¬ ls b n < n := by
  intro h
  obtain ⟨h1, h2, h3⟩ := ls_sp b n
  exact hl _ h (h2 h)
/-- choice ch is one of the group's, and fits -/
noncomputable def bb (pc tk en : Nat → Nat) (S : Nat) (G : Nat → Nat) (ch : Nat) : Bool := bD (ch < 4 ^ cb S pc 8 ∧ Ft pc tk en S (tG S pc ch G))
theorem bb_iff (pc tk en : Nat → Nat) (S : Nat) (G : Nat → Nat) (ch : Nat) : bb pc tk en S G ch = true ↔ ch < 4 ^ cb S pc 8 ∧ Ft pc tk en S (tG S pc ch G) := bD_iff _
noncomputable def pS (N pc tk en : Nat → Nat) (i : Nat) (s : Nat × Nat × (Nat → Nat)) : Nat × Nat × (Nat → Nat) :=
  if s.1.testBit i = true then s
  else if ¬ sb (sb (N i) (gS N i)) s.1 = 0 then s
  else if ¬ sb (sb (N i) (gS N i)) s.2.1 = 0 then (s.1 ||| gS N i, s.2.1, s.2.2)
  else if ls (bb pc tk en (gS N i) s.2.2) 4096 < 4096 then (s.1 ||| gS N i, s.2.1 ||| gS N i, tG (gS N i) pc (ls (bb pc tk en (gS N i) s.2.2) 4096) s.2.2)
  else (s.1 ||| gS N i, s.2.1, s.2.2)
noncomputable def pI (N pc tk en : Nat → Nat) (s : Nat × Nat × (Nat → Nat)) : Nat → Nat × Nat × (Nat → Nat)
  | 0 => s
  | m + 1 => pS N pc tk en m (pI N pc tk en s m)
noncomputable def pR (c : Nat) (N pc tk en : Nat → Nat) : Nat → Nat × Nat × (Nat → Nat)
  | 0 => (0, 0, fun _ => 0)
  | r + 1 => pI N pc tk en (pR c N pc tk en r) c
def PI (c : Nat) (N : Nat → Nat) (s : Nat × Nat × (Nat → Nat)) : Prop :=
  s.1 < 16 ∧ s.2.1 < 16 ∧ (∀ q, s.2.2 q < 4) ∧ (∀ j, s.2.1.testBit j = true → s.1.testBit j = true) ∧ (∀ i j, s.1.testBit i = true → (gS N i).testBit j = true → s.1.testBit j = true) ∧ (∀ i j, s.2.1.testBit i = true → (N i).testBit j = true → s.2.1.testBit j = true) ∧ (∀ j, s.1.testBit j = true → j < c)
theorem PI_D {c : Nat} (hc : c ≤ 4) {tk en N : Nat → Nat} (q : NQ c tk en N) {i : Nat} (hi : i < c) {s : Nat × Nat × (Nat → Nat)} (h : PI c N s) : PI c N (s.1 ||| gS N i, s.2.1, s.2.2) := by
  obtain ⟨h1, h2, h3, h4, h5, h6, h7⟩ := h
  refine ⟨m_or h1 (gS_lt N i (by omega)), h2, h3, fun j hj => (or_bit _ _ _).mpr (Or.inl (h4 j hj)), ?_, h6, ?_⟩
  · intro a b ha hb
    dsimp only at ha ⊢
    rw [or_bit] at ha ⊢
    rcases ha with ha | ha
    · exact Or.inl (h5 a b ha hb)
    · exact Or.inr (gS_tr q.1 q.2.2.1 ha hb)
  · intro j hj
    dsimp only at hj
    rw [or_bit] at hj
    rcases hj with hj | hj
    · exact h7 j hj
    · exact gS_c q hi hj
theorem PI_S {c : Nat} (hc : c ≤ 4) {pc tk en N : Nat → Nat} (q : NQ c tk en N) {i : Nat} (hi : i < c) {s : Nat × Nat × (Nat → Nat)} (h : PI c N s) : PI c N (pS N pc tk en i s) := by
  unfold pS
  split
  · exact h
  · split
    · exact h
    · split
      · exact PI_D hc q hi h
      · next hD h1 h2 =>
        split
        · next hl =>
          have hw : sb (sb (N i) (gS N i)) s.2.1 = 0 := Classical.byContradiction h2
          obtain ⟨p1, p2, p3, p4, p5, p6, p7⟩ := h
          obtain ⟨d1, d2, d3, d4, d5, d6, d7⟩ := PI_D hc q hi ⟨p1, p2, p3, p4, p5, p6, p7⟩
          have hsb : sb (N i) (gS N i) < 16 := (kj_sub _ (q.1 i) _ (gS_lt N i (by omega))).2
          have hW := (sb_0 hsb).mp hw
          refine ⟨d1, m_or p2 (gS_lt N i (by omega)), fun x => tG_lt p3 x, ?_, d5, ?_, d7⟩
          · intro j hj
            dsimp only at hj ⊢
            rw [or_bit] at hj ⊢
            exact hj.elim (fun z => Or.inl (p4 j z)) Or.inr
          · intro a b ha hb
            dsimp only at ha ⊢
            rw [or_bit] at ha ⊢
            rcases ha with ha | ha
            · exact Or.inl (p6 a b ha hb)
            · have hib : (N i).testBit b = true := by
                rcases (gS_bit N q.1 i a).mp ha with z | z
                · rw [← z]; exact hb
                · exact q.2.2.1 _ _ _ z.1 hb
              by_cases z : (gS N i).testBit b = true
              · exact Or.inr z
              · refine Or.inl (hW b (m_hi (q.1 i) hib) ?_)
                rw [sb_bit (q.1 i), hib]
                simp [z]
        · exact PI_D hc q hi h
theorem PI_I {c : Nat} (hc : c ≤ 4) {pc tk en N : Nat → Nat} (q : NQ c tk en N) {s : Nat × Nat × (Nat → Nat)} (h : PI c N s) (m : Nat) (hm : m ≤ c) : PI c N (pI N pc tk en s m) := by
  induction m with
  | zero => exact h
  | succ m ih => exact PI_S hc q (by omega) (ih (by omega))
theorem PI_R {c : Nat} (hc : c ≤ 4) {pc tk en N : Nat → Nat} (q : NQ c tk en N) (r : Nat) : PI c N (pR c N pc tk en r) := by
  induction r with
  | zero =>
    refine ⟨(by decide : 0 < 16), (by decide : 0 < 16), fun _ => (by decide : 0 < 4), ?_, ?_, ?_, ?_⟩
    · intro j h; exact h
    · intro i j h; rw [show (pR c N pc tk en 0).1 = 0 from rfl, Nat.zero_testBit] at h; cases h
    · intro i j h; rw [show (pR c N pc tk en 0).2.1 = 0 from rfl, Nat.zero_testBit] at h; cases h
    · intro j h; rw [show (pR c N pc tk en 0).1 = 0 from rfl, Nat.zero_testBit] at h; cases h
  | succ r ih => exact PI_I hc q ih c (Nat.le_refl c)
/-- could: some choice of the group fits and gives slot x the kind k -/
def Cd (pc tk en : Nat → Nat) (S : Nat) (G : Nat → Nat) (x k : Nat) : Prop := ∃ ch, ch < 4 ^ cb S pc 8 ∧ Ft pc tk en S (tG S pc ch G) ∧ tG S pc ch G x = k
end
section
section
variable {c pt w : Nat} {st : Int32} {pc tc tk fc fe nt sk sc cc gs stk : Nat → Nat}
/-! the class: declared, parameters -/
theorem x_dy {post : Int32 → Prop} {i : Nat} (hc : c ≤ 4) (hi : i < c) (hp : post 1) : wpX_isDeclared post ((nI c), (nI pt), st, (nI w), (na pc), (na tc), (na tk), (na fc), (na fe), (na nt), (na sk), (na sc), (na cc), (na gs), (na stk)) (nI i) :=
  br_f (nI_pos (by omega)) (br_f (nI_ge hi (by omega)) hp)
theorem x_dn {post : Int32 → Prop} {v : Int32} (h : v < 0 ∨ nI c ≤ v) (hp : post 0) : wpX_isDeclared post ((nI c), (nI pt), st, (nI w), (na pc), (na tc), (na tk), (na fc), (na fe), (na nt), (na sk), (na sc), (na cc), (na gs), (na stk)) v := by
  by_cases h0 : v < 0
  · exact br_t h0 hp
  · exact br_f h0 (br_t (h.resolve_left h0) hp)
theorem x_hpy {post : Int32 → Prop} {i a : Nat} (hc : c ≤ 4) (hi : i < c) (h2 : ∀ i, pc i ≤ 2) (ha : a < pc i) (hp : post 1) : wpX_hasParameter post ((nI c), (nI pt), st, (nI w), (na pc), (na tc), (na tk), (na fc), (na fe), (na nt), (na sk), (na sc), (na cc), (na gs), (na stk)) (nI i) (nI a) := by
  have := h2 i
  unfold wpX_hasParameter
  exact x_dy hc hi (br_f (by decide) (br_f (nI_pos (by omega)) ⟨pk_in i 4 (by omega), by rw [na_i i]; exact br_f (nI_ge ha (by omega)) hp⟩))
theorem x_hpn {post : Int32 → Prop} {i : Nat} {v : Int32} (hc : c ≤ 4) (hi : i < c) (h : v < 0 ∨ nI (pc i) ≤ v) (hp : post 0) : wpX_hasParameter post ((nI c), (nI pt), st, (nI w), (na pc), (na tc), (na tk), (na fc), (na fe), (na nt), (na sk), (na sc), (na cc), (na gs), (na stk)) (nI i) v := by
  unfold wpX_hasParameter
  refine x_dy hc hi (br_f (by decide) ?_)
  by_cases h0 : v < 0
  · exact br_t h0 hp
  · exact br_f h0 ⟨pk_in i 4 (by omega), by rw [na_i i]; exact br_t (h.resolve_left h0) hp⟩
theorem x_hpu {post : Int32 → Prop} {v v2 : Int32} (h : v < 0 ∨ nI c ≤ v) (hp : post 0) : wpX_hasParameter post ((nI c), (nI pt), st, (nI w), (na pc), (na tc), (na tk), (na fc), (na fe), (na nt), (na sk), (na sc), (na cc), (na gs), (na stk)) v v2 := by
  unfold wpX_hasParameter
  exact x_dn h (br_t rfl hp)
/-- may token v stand in type i -/
def mS (c : Nat) (pc : Nat → Nat) (i t : Nat) : Prop := t ≤ 10 ∧ (t = 1 ∨ t = 2 → t ≤ pc i) ∧ (7 ≤ t → t - 7 < c)
theorem kj_t7 : ∀ t, t < 11 → (7 ≤ t → (nI t - 3) - 4 = nI (t - 7) ∧ ¬ nI t - 3 < 4 ∧ nI t - 7 = nI (t - 7)) ∧ (t < 7 → (nI t - 3) - 4 < 0) ∧ (3 ≤ t → t < 7 → nI t - 3 < 4) ∧ (3 ≤ t → nI t - 3 = nI (t - 3)) ∧ (1 ≤ t → nI t - 1 = nI (t - 1)) := by decide +kernel
theorem x_may {post : Int32 → Prop} {i t : Nat} (hc : c ≤ 4) (hi : i < c) (h2 : ∀ i, pc i ≤ 2) (hy : mS c pc i t → post 1) (hn : ¬ mS c pc i t → post 0) (ht : t < 2 ^ 31) : wpX_mayStandIn post ((nI c), (nI pt), st, (nI w), (na pc), (na tc), (na tk), (na fc), (na fe), (na nt), (na sk), (na sc), (na cc), (na gs), (na stk)) (nI i) (nI t) := by
  have := h2 i
  unfold wpX_mayStandIn
  refine br_f (nI_pos ht) (pk_le t 10 (fun h10 => ?_) (fun h10 => hn (fun z => by have := z.1; omega)))
  obtain ⟨k1, k2, k3, k4, k5⟩ := kj_t7 t (by omega)
  refine pk_eq t 0 (fun h0 => hy ⟨by omega, by omega, by omega⟩) (fun h0 => pk_le 3 t (fun h3 => nm_e ?_) (fun h3 => ?_))
  · by_cases h7 : t < 7
    · exact br_t (k3 h3 h7) (hy ⟨by omega, by omega, by omega⟩)
    · obtain ⟨e1, e2, e3⟩ := k1 (by omega)
      refine br_f e2 ?_
      rw [e1]
      by_cases hd : t - 7 < c
      · exact x_dy hc hd (br_f (by decide) (hy ⟨by omega, by omega, fun _ => hd⟩))
      · exact x_dn (Or.inr (nI_le (by omega) (by omega))) (br_t rfl (hn (fun z => hd (z.2.2 (by omega)))))
  · rw [k5 (by omega)]
    by_cases hd : t - 1 < pc i
    · exact x_hpy hc hi h2 hd ⟨nb_1, hy ⟨by omega, fun _ => by omega, by omega⟩⟩
    · exact x_hpn hc hi (Or.inr (nI_le (by omega) (by omega))) ⟨nb_0, hn (fun z => hd (by have := z.2.1 (by omega); omega))⟩
theorem x_mayb {post : Int32 → Prop} {i : Nat} {v : Int32} (h : v < 0) (hp : post 0) : wpX_mayStandIn post ((nI c), (nI pt), st, (nI w), (na pc), (na tc), (na tk), (na fc), (na fe), (na nt), (na sk), (na sc), (na cc), (na gs), (na stk)) (nI i) v := by
  unfold wpX_mayStandIn
  exact br_t h hp
/-! findFields -/
theorem x_ff27 {post : SX → Prop} {J : Int32 → Int32 → Int32 → Int32 → Prop} {i k o : Nat} (ho : o = rO (tp tk i) k) (hi : i < 4) (hk : k < 20) (ht : ∀ q, tk q ≤ 10) (H : ∀ aw, (aw = rO (tp tk i) (k + 1) ∨ aw = 0 ∧ rO (tp tk i) (k + 1) = 1) → J (nI aw) (nI (rF (tp tk i) (k + 1))) (nI (rE (tp tk i) (k + 1))) (nI (k + 1))) : wX_findFields_27 post J (nI i) (nI o) (nI (rF (tp tk i) k)) (nI (rE (tp tk i) k)) (nI k) (nI c) (nI pt) st (nI w) (na pc) (na tc) (na tk) (na fc) (na fe) (na nt) (na sk) (na sc) (na cc) (na gs) (na stk) := by
  subst ho
  have h1 := ht (i * 20 + k)
  have h2 := rO_pos (tp tk i) k
  have h3 := rO_le (tp tk i) k
  have e : tp tk i k = tk (i * 20 + k) := rfl
  refine ⟨pk_in (i * 20 + k) 80 (by omega) (kj_ix20 i k), pk_eq (tk (i * 20 + k)) 0 (fun h0 => ?_) (fun h0 => ?_) (na_at _ (kj_ix20 i k))⟩
  · refine nm_r (nI_1 _) (br_f (nI_ne0 (by omega) (by omega)) (nm_r (nI_1 _) ?_))
    have f1 : rO (tp tk i) (k + 1) = rO (tp tk i) k + 1 := if_pos h0
    have f2 : rF (tp tk i) (k + 1) = rF (tp tk i) k := if_pos h0
    have f3 : rE (tp tk i) (k + 1) = rE (tp tk i) k := if_pos h0
    have := H _ (Or.inl rfl)
    rw [f1, f2, f3] at this
    exact this
  · obtain ⟨d, hd⟩ : ∃ d, rO (tp tk i) k = d + 1 := ⟨rO (tp tk i) k - 1, by omega⟩
    rw [hd]
    refine nm_r (pk_m1 d) ?_
    by_cases hd0 : d = 0
    · subst hd0
      refine br_t rfl (nm_r (nI_1 _) (nm_r (nI_1 _) (nm_r (nI_1 _) ?_)))
      have f1 : rO (tp tk i) (k + 1) = 1 := (if_neg h0).trans (if_pos hd)
      have f2 : rF (tp tk i) (k + 1) = rF (tp tk i) k + 1 := (if_neg h0).trans (if_pos hd)
      have f3 : rE (tp tk i) (k + 1) = k + 1 := (if_neg h0).trans (if_pos hd)
      have := H 0 (Or.inr ⟨rfl, f1⟩)
      rw [f2, f3] at this
      exact this
    · refine br_f (nI_ne0 (by omega) (by omega)) (nm_r (nI_1 _) ?_)
      have hd1 : ¬ rO (tp tk i) k = 1 := by omega
      have f1 : rO (tp tk i) (k + 1) = rO (tp tk i) k - 1 := (if_neg h0).trans (if_neg hd1)
      have f2 : rF (tp tk i) (k + 1) = rF (tp tk i) k := (if_neg h0).trans (if_neg hd1)
      have f3 : rE (tp tk i) (k + 1) = rE (tp tk i) k := (if_neg h0).trans (if_neg hd1)
      have := H _ (Or.inl rfl)
      rw [f1, f2, f3, hd] at this
      exact this
theorem x_ff10 {post : SX → Prop} {i : Nat} (hi : i < 4) (ht : ∀ q, tk q ≤ 10) (hs : tc i ≤ 20) (hp : post ((nI c), (nI pt), st, (nI w), (na pc), (na tc), (na tk), (na (un fc i (rF (tp tk i) (tc i)))), (na (un fe i (rE (tp tk i) (tc i)))), (na nt), (na sk), (na sc), (na cc), (na gs), (na stk))) : ∀ m k aw, k + m = tc i → (aw = rO (tp tk i) k ∨ aw = 0 ∧ rO (tp tk i) k = 1) → wX_findFields_10 post (nI i) (nI c) (nI pt) st (nI w) (na pc) (na tc) (na tk) (na fc) (na fe) (na nt) (na sk) (na sc) (na cc) (na gs) (na stk) (m + 1) (nI aw) (nI (rF (tp tk i) k)) (nI (rE (tp tk i) k)) (nI k) := by
  intro m
  induction m with
  | zero =>
    intro k aw hk ha
    have hk : k = tc i := by omega
    subst hk
    refine ⟨pk_in i 4 hi, br_t (by rw [na_i i]; exact nI_le (Nat.le_refl _) (by omega)) ⟨pk_in i 4 hi, nm_r (na_upd i _) ⟨pk_in i 4 hi, nm_r (na_upd i _) hp⟩⟩⟩
  | succ m ih =>
    intro k aw hk ha
    have h3 := rO_le (tp tk i) k
    refine ⟨pk_in i 4 hi, br_f (by rw [na_i i]; exact nI_ge (by omega) (by omega)) (pk_eq aw 0 (fun h0 => ?_) (fun h0 => ?_))⟩
    · have h1 : rO (tp tk i) k = 1 := by
        have := rO_pos (tp tk i) k
        omega
      exact x_ff27 (o := 1) h1.symm hi (by omega) ht (fun aw' ha' => ih (k + 1) aw' (by omega) ha')
    · have h1 : aw = rO (tp tk i) k := ha.resolve_right (fun z => h0 z.1)
      exact x_ff27 h1 hi (by omega) ht (fun aw' ha' => ih (k + 1) aw' (by omega) ha')
theorem x_ff {post : SX → Prop} {i : Nat} (hi : i < 4) (ht : ∀ q, tk q ≤ 10) (hs : tc i ≤ 20) (hp : post ((nI c), (nI pt), st, (nI w), (na pc), (na tc), (na tk), (na (un fc i (rF (tp tk i) (tc i)))), (na (un fe i (rE (tp tk i) (tc i)))), (na nt), (na sk), (na sc), (na cc), (na gs), (na stk))) : wpX_findFields post ((nI c), (nI pt), st, (nI w), (na pc), (na tc), (na tk), (na fc), (na fe), (na nt), (na sk), (na sc), (na cc), (na gs), (na stk)) (nI i) :=
  ⟨tc i + 1, x_ff10 hi ht hs hp (tc i) 0 0 (by omega) (Or.inr ⟨rfl, rfl⟩)⟩
/-! needs -/
theorem x_tn4 {post : Int32 → Prop} {i : Nat} (hi : i < 4) (ht : ∀ q, tk q ≤ 10) (he : fe i ≤ 20) (hp : post (nI (nM (tp tk i) (fe i)))) : ∀ m k, k + m = fe i → wX_typesNamedIn_4 post (nI i) (nI c) (nI pt) st (nI w) (na pc) (na tc) (na tk) (na fc) (na fe) (na nt) (na sk) (na sc) (na cc) (na gs) (na stk) (m + 1) (nI (nM (tp tk i) k)) (nI k) := by
  intro m
  induction m with
  | zero =>
    intro k hk
    have hk : k = fe i := by omega
    subst hk
    exact ⟨pk_in i 4 hi, br_t (by rw [na_i i]; exact nI_le (Nat.le_refl _) (by omega)) hp⟩
  | succ m ih =>
    intro k hk
    have h1 := ht (i * 20 + k)
    obtain ⟨k1, k2, k3, k4, k5⟩ := kj_t7 (tk (i * 20 + k)) (by omega)
    refine ⟨pk_in i 4 hi, br_f (by rw [na_i i]; exact nI_ge (by omega) (by omega)) ⟨pk_in (i * 20 + k) 80 (by omega) (kj_ix20 i k), ?_⟩⟩
    rw [na_at (i * 20 + k) (kj_ix20 i k)]
    have := ih (k + 1) (by omega)
    by_cases h7 : tk (i * 20 + k) < 7
    · refine nm_e (br_t (k2 h7) (nm_r (nI_1 _) ?_))
      rw [show nM (tp tk i) (k + 1) = nM (tp tk i) k from if_pos h7] at this
      exact this
    · refine nm_r (k1 (by omega)).1 (br_f (nI_pos (by omega)) (nm_r ?_ (nm_r (nI_1 _) this)))
      rw [kj_one (by omega), kj_or, show nM (tp tk i) (k + 1) = nM (tp tk i) k ||| 2 ^ (tk (i * 20 + k) - 7) from if_neg h7]
theorem x_tn {post : Int32 → Prop} {i : Nat} (hi : i < 4) (ht : ∀ q, tk q ≤ 10) (he : fe i ≤ 20) (hp : post (nI (nM (tp tk i) (fe i)))) : wpX_typesNamedIn post ((nI c), (nI pt), st, (nI w), (na pc), (na tc), (na tk), (na fc), (na fe), (na nt), (na sk), (na sc), (na cc), (na gs), (na stk)) (nI i) :=
  ⟨fe i + 1, x_tn4 hi ht he hp (fe i) 0 (by omega)⟩
theorem x_ho {post : Int32 → Prop} {m j : Nat} (hm : m < 2 ^ 31) (hj : j < 32) (hy : m.testBit j = true → post 1) (hn : ¬ m.testBit j = true → post 0) : wpX_holds post (nI m) (nI j) := bi_0 hm hj hy hn
theorem x_fn39 {post : SX → Prop} {J : Int32 → (Nat → Int32) → (Nat → Int32) → (Nat → Int32) → (Nat → Int32) → (Nat → Int32) → (Nat → Int32) → (Nat → Int32) → (Nat → Int32) → (Nat → Int32) → (Nat → Int32) → (Nat → Int32) → Prop} {via : Nat} (hc : c ≤ 4) (hv : via < c) (hf : ∀ i, i < c → nt i < 16) (hp : J (nI (via + 1)) (na pc) (na tc) (na tk) (na fc) (na fe) (na (wI via c nt)) (na sk) (na sc) (na cc) (na gs) (na stk)) : ∀ m i, i + m = c → wX_findNeeds_39 post J (nI via) (nI c) (nI pt) st (nI w) (m + 1) (nI i) (na pc) (na tc) (na tk) (na fc) (na fe) (na (wI via i nt)) (na sk) (na sc) (na cc) (na gs) (na stk) := by
  have hw : ∀ i x, x < c → wI via i nt x < 16 := by
    intro i x hx
    rw [wI_sp]
    split
    · exact m_or (hf x hx) (hf via hv)
    · exact hf x hx
  intro m
  induction m with
  | zero =>
    intro i hi
    have hi : i = c := by omega
    subst hi
    exact br_t (nI_le (Nat.le_refl _) (by omega)) (nm_r (nI_1 _) hp)
  | succ m ih =>
    intro i hi
    have := ih (i + 1) (by omega)
    refine br_f (nI_ge (by omega) (by omega)) ⟨pk_in i 4 (by omega), ?_⟩
    rw [na_i i]
    have hb := hw i i (by omega)
    refine x_ho (by omega) (by omega) (fun h => br_f (by decide) ⟨pk_in i 4 (by omega), pk_in via 4 (by omega), pk_in i 4 (by omega), nm_r (na_upd i (wI via i nt i ||| wI via i nt via) rfl ?_) (nm_r (nI_1 _) ?_)⟩) (fun h => br_t rfl (nm_r (nI_1 _) ?_))
    · rw [na_i via, kj_or]
    · rw [show wI via (i + 1) nt = un (wI via i nt) i (wI via i nt i ||| wI via i nt via) from if_pos h] at this
      exact this
    · rw [show wI via (i + 1) nt = wI via i nt from if_neg h] at this
      exact this
theorem x_fn29 {post : SX → Prop} (hc : c ≤ 4) (hf : ∀ i, i < c → nt i < 16) (hp : post ((nI c), (nI pt), st, (nI w), (na pc), (na tc), (na tk), (na fc), (na fe), (na (wO c c nt)), (na sk), (na sc), (na cc), (na gs), (na stk))) : ∀ m v, v + m = c → wX_findNeeds_29 post (nI c) (nI pt) st (nI w) (m + 1) (nI v) (na pc) (na tc) (na tk) (na fc) (na fe) (na (wO c v nt)) (na sk) (na sc) (na cc) (na gs) (na stk) := by
  have hw : ∀ v, v ≤ c → ∀ i, i < c → wO c v nt i < 16 := by
    intro v
    induction v with
    | zero => intro _ i hi; exact hf i hi
    | succ v ih =>
      intro hv i hi
      rw [show wO c (v + 1) nt = wI v c (wO c v nt) from rfl, wI_sp]
      split
      · exact m_or (ih (by omega) i hi) (ih (by omega) v (by omega))
      · exact ih (by omega) i hi
  intro m
  induction m with
  | zero =>
    intro v hv
    have hv : v = c := by omega
    subst hv
    exact br_t (nI_le (Nat.le_refl _) (by omega)) hp
  | succ m ih =>
    intro v hv
    exact br_f (nI_ge (by omega) (by omega)) ⟨c + 1, x_fn39 (nt := wO c v nt) hc (by omega) (hw v (by omega)) (ih (v + 1) (by omega)) c 0 (by omega)⟩
theorem wO_cg {c : Nat} {f g : Nat → Nat} (h : ∀ i, i < c → f i = g i) (v : Nat) (hv : v ≤ c) : ∀ i, i < c → wO c v f i = wO c v g i := by
  induction v with
  | zero => exact h
  | succ v ih =>
    intro i hi
    rw [show wO c (v + 1) f = wI v c (wO c v f) from rfl, show wO c (v + 1) g = wI v c (wO c v g) from rfl, wI_sp, wI_sp, ih (by omega) i hi, ih (by omega) v (by omega)]
theorem x_fn2 {post : SX → Prop} (hc : c ≤ 4) (ht : ∀ q, tk q ≤ 10) (he : ∀ i, i < c → fe i ≤ 20) (hp : ∀ nt', (∀ i, i < c → nt' i = NN c tk fe i) → post ((nI c), (nI pt), st, (nI w), (na pc), (na tc), (na tk), (na fc), (na fe), (na nt'), (na sk), (na sc), (na cc), (na gs), (na stk))) : ∀ m i f, i + m = c → (∀ x, x < i → f x = nM (tp tk x) (fe x)) → wX_findNeeds_2 post (nI c) (nI pt) st (nI w) (m + 1) (nI i) (na pc) (na tc) (na tk) (na fc) (na fe) (na f) (na sk) (na sc) (na cc) (na gs) (na stk) := by
  intro m
  induction m with
  | zero =>
    intro i f hi hf
    have hi : i = c := by omega
    subst hi
    have hz : ∀ x, x < i → f x = N0 i tk fe x := fun x hx => by rw [hf x hx]; unfold N0; rw [if_pos hx]
    refine br_t (nI_le (Nat.le_refl _) (by omega)) ⟨i + 1, x_fn29 (nt := f) hc (fun x hx => ?_) (hp _ (fun x hx => wO_cg hz i (Nat.le_refl _) x hx)) i 0 (by omega)⟩
    rw [hf x hx]
    exact nM_lt _ _ (fun k _ => ht _)
  | succ m ih =>
    intro i f hi hf
    refine br_f (nI_ge (by omega) (by omega)) (x_tn (by omega) ht (he i (by omega)) ⟨pk_in i 4 (by omega), nm_r (na_upd i _) (nm_r (nI_1 _) (ih (i + 1) _ (by omega) ?_))⟩)
    intro x hx
    by_cases hxi : x = i
    · subst hxi; exact un_s
    · rw [un_n hxi]; exact hf x (by omega)
theorem x_fn {post : SX → Prop} (hc : c ≤ 4) (ht : ∀ q, tk q ≤ 10) (he : ∀ i, i < c → fe i ≤ 20) (hp : ∀ nt', (∀ i, i < c → nt' i = NN c tk fe i) → post ((nI c), (nI pt), st, (nI w), (na pc), (na tc), (na tk), (na fc), (na fe), (na nt'), (na sk), (na sc), (na cc), (na gs), (na stk))) : wpX_findNeeds post ((nI c), (nI pt), st, (nI w), (na pc), (na tc), (na tk), (na fc), (na fe), (na nt), (na sk), (na sc), (na cc), (na gs), (na stk)) :=
  ⟨c + 1, x_fn2 hc ht he hp c 0 nt (by omega) (fun x hx => absurd hx (Nat.not_lt_zero _))⟩
/-! groups -/
theorem x_mw6 {post : Int32 → Prop} {N : Nat → Nat} {i : Nat} (hc : c ≤ 4) (hi : i < c) (hN : ∀ i, N i < 16) (hn : ∀ i, i < c → nt i = N i) (hp : post (nI (gM N i c))) : ∀ m j, j + m = c → wX_membersWith_6 post (nI i) (nI c) (nI pt) st (nI w) (na pc) (na tc) (na tk) (na fc) (na fe) (na nt) (na sk) (na sc) (na cc) (na gs) (na stk) (m + 1) (nI (gM N i j)) (nI j) := by
  intro m
  induction m with
  | zero =>
    intro j hj
    have hj : j = c := by omega
    subst hj
    exact br_t (nI_le (Nat.le_refl _) (by omega)) hp
  | succ m ih =>
    intro j hj
    have := ih (j + 1) (by omega)
    have b1 := hN i
    have b2 := hN j
    refine br_f (nI_ge (by omega) (by omega)) ⟨pk_in i 4 (by omega), ?_⟩
    rw [na_i i, hn i hi]
    refine x_ho (by omega) (by omega) (fun h1 => br_f (by decide) ⟨pk_in j 4 (by omega), ?_⟩) (fun h1 => br_t rfl (nm_r (nI_1 _) ?_))
    · rw [na_i j, hn j (by omega)]
      refine x_ho (by omega) (by omega) (fun h2 => br_f (by decide) (nm_r ?_ (nm_r (nI_1 _) this))) (fun h2 => br_t rfl (nm_r (nI_1 _) ?_))
      · rw [kj_one (by omega), kj_or, show gM N i (j + 1) = gM N i j ||| 2 ^ j from if_pos ⟨h1, h2⟩]
      · rw [show gM N i (j + 1) = gM N i j from if_neg (fun z => h2 z.2)] at this
        exact this
    · rw [show gM N i (j + 1) = gM N i j from if_neg (fun z => h1 z.1)] at this
      exact this
theorem x_mw {post : Int32 → Prop} {tk en N : Nat → Nat} {i : Nat} (hc : c ≤ 4) (hi : i < c) (q : NQ c tk en N) (hn : ∀ i, i < c → nt i = N i) (hp : post (nI (gS N i))) : wpX_membersWith post ((nI c), (nI pt), st, (nI w), (na pc), (na tc), (na tk), (na fc), (na fe), (na nt), (na sk), (na sc), (na cc), (na gs), (na stk)) (nI i) := by
  have e : gM N i c = gS N i := by
    have := gM_c N i c (fun j hj => (q.2.1 i j hj).2) (4 - c)
    rw [show c + (4 - c) = 4 by omega] at this
    exact this.symm
  refine nm_r (kj_one (by omega)) ⟨c + 1, x_mw6 hc hi q.1 hn ?_ c 0 (by omega)⟩
  rw [e]
  exact hp
end
end
section
section
variable {c pt w : Nat} {st : Int32} {pc tc tk fc fe nt sk sc cc gs stk : Nat → Nat}
/-! listSlots -/
theorem cb_m (S : Nat) (pc : Nat → Nat) (m : Nat) : cb S pc m ≤ m := by
  induction m with
  | zero => exact Nat.le_refl 0
  | succ m ih =>
    by_cases h : iG S pc m = true
    · rw [cb_y h]; omega
    · rw [cb_n h]; omega
theorem cb_sk {S : Nat} {pc : Nat → Nat} (q d : Nat) (h : ∀ x, q ≤ x → x < q + d → ¬ iG S pc x = true) : cb S pc (q + d) = cb S pc q := by
  induction d with
  | zero => rfl
  | succ d ih =>
    rw [show q + (d + 1) = q + d + 1 from rfl, cb_n (h (q + d) (by omega) (by omega)), ih (fun x h1 h2 => h x h1 (by omega))]
def sz (S : Nat) (pc sc : Nat → Nat) (q : Nat) : Nat → Nat := fun x => if x < q ∧ iG S pc x = true then 0 else sc x
theorem sz_sk {S : Nat} {pc sc : Nat → Nat} (q d : Nat) (h : ∀ x, q ≤ x → x < q + d → ¬ iG S pc x = true) : sz S pc sc (q + d) = sz S pc sc q := by
  funext x
  unfold sz
  by_cases h1 : x < q ∧ iG S pc x = true
  · rw [if_pos h1, if_pos ⟨by omega, h1.2⟩]
  · rw [if_neg h1, if_neg]
    rintro ⟨z1, z2⟩
    by_cases h2 : x < q
    · exact h1 ⟨h2, z2⟩
    · exact h x (by omega) z1 z2
theorem sz_st {S : Nat} {pc sc : Nat → Nat} (q : Nat) (h : iG S pc q = true) : un (sz S pc sc q) q 0 = sz S pc sc (q + 1) := by
  funext x
  unfold un sz
  by_cases hx : x = q
  · subst hx; rw [if_pos rfl, if_pos ⟨by omega, h⟩]
  · rw [if_neg hx]
    by_cases h1 : x < q ∧ iG S pc x = true
    · rw [if_pos h1, if_pos ⟨by omega, h1.2⟩]
    · rw [if_neg h1, if_neg (fun z => h1 ⟨by omega, z.2⟩)]
/-- the list of the group's slots, as far as q -/
def gL (S : Nat) (pc : Nat → Nat) (q : Nat) (gs : Nat → Nat) : Prop := ∀ x, x < q → iG S pc x = true → gs (cb S pc x) = x
theorem gL_st {S : Nat} {pc : Nat → Nat} {q : Nat} {gs : Nat → Nat} (h : gL S pc q gs) : gL S pc (q + 1) (un gs (cb S pc q) q) := by
  intro x hx hg
  by_cases e : x = q
  · subst e; exact un_s
  · have h1 := cb_y hg
    have h2 := cb_le S pc (show x + 1 ≤ q by omega)
    rw [un_n (by omega)]
    exact h x (by omega) hg
theorem gL_sk {S : Nat} {pc : Nat → Nat} (q d : Nat) {gs : Nat → Nat} (hn : ∀ x, q ≤ x → x < q + d → ¬ iG S pc x = true) (h : gL S pc q gs) : gL S pc (q + d) gs := by
  intro x hx hg
  by_cases e : x < q
  · exact h x e hg
  · exact absurd hg (hn x (by omega) hx)
theorem x_ls15 {post : Int32 → SX → Prop} {J : Int32 → Int32 → (Nat → Int32) → (Nat → Int32) → (Nat → Int32) → (Nat → Int32) → (Nat → Int32) → (Nat → Int32) → (Nat → Int32) → (Nat → Int32) → (Nat → Int32) → (Nat → Int32) → (Nat → Int32) → Prop} {S i : Nat} (hi : i < 4) (hS : S < 16) (h2 : ∀ i, pc i ≤ 2) (HJ : ∀ gs', gL S pc (i * 2 + 2) gs' → J (nI (cb S pc (i * 2 + 2))) (nI (i + 1)) (na pc) (na tc) (na tk) (na fc) (na fe) (na nt) (na sk) (na (sz S pc sc (i * 2 + 2))) (na cc) (na gs') (na stk)) : ∀ m a gs', a + m = pc i → gL S pc (i * 2 + a) gs' → wX_listSlots_15 post J (nI S) (nI i) (nI c) (nI pt) st (nI w) (m + 1) (nI (cb S pc (i * 2 + a))) (nI a) (na pc) (na tc) (na tk) (na fc) (na fe) (na nt) (na sk) (na (sz S pc sc (i * 2 + a))) (na cc) (na gs') (na stk) := by
  have hp2 := h2 i
  have ex : ∀ a gs', a ≤ 2 → (∀ x, i * 2 + a ≤ x → x < i * 2 + a + (2 - a) → ¬ iG S pc x = true) → gL S pc (i * 2 + a) gs' → J (nI (cb S pc (i * 2 + a))) (nI (i + 1)) (na pc) (na tc) (na tk) (na fc) (na fe) (na nt) (na sk) (na (sz S pc sc (i * 2 + a))) (na cc) (na gs') (na stk) := by
    intro a gs' ha hn hg
    have := HJ gs' (by have := gL_sk (i * 2 + a) (2 - a) hn hg; rw [show i * 2 + a + (2 - a) = i * 2 + 2 by omega] at this; exact this)
    have e1 := cb_sk (i * 2 + a) (2 - a) hn
    have e2 := sz_sk (sc := sc) (i * 2 + a) (2 - a) hn
    rw [show i * 2 + a + (2 - a) = i * 2 + 2 by omega] at e1 e2
    rw [e1, e2] at this
    exact this
  intro m
  induction m with
  | zero =>
    intro a gs' ha hg
    refine ⟨pk_in i 4 hi, br_t (by rw [na_i i]; exact nI_le (by omega) (by omega)) (nm_r (nI_1 _) (ex a gs' (by omega) (fun x h1 h3 hx => ?_) hg))⟩
    have := (iG_iff _ _ _).mp hx
    rw [show x / 2 = i by omega] at this
    omega
  | succ m ih =>
    intro a gs' ha hg
    have hq : cb S pc (i * 2 + a) ≤ i * 2 + a := cb_m _ _ _
    refine ⟨pk_in i 4 hi, br_f (by rw [na_i i]; exact nI_ge (by omega) (by omega)) (x_ho (by omega) (by omega) (fun hb => br_f (by decide) ⟨vp_in_nI (by omega) (by omega), ?_⟩) (fun hb => br_t rfl (nm_r (nI_1 _) (ex a gs' (by omega) (fun x h1 h3 hx => ?_) hg))))⟩
    · have hin : iG S pc (i * 2 + a) = true := (iG_ix S pc i a (by omega)).mpr ⟨hb, by omega⟩
      refine nm_r (na_upd (cb S pc (i * 2 + a)) (i * 2 + a) rfl (kj_ix2 i a)) ⟨vp_in_nI (by omega) (by omega), ?_⟩
      have e : na (un gs' (cb S pc (i * 2 + a)) (i * 2 + a)) (nI (cb S pc (i * 2 + a))).toNatClampNeg = nI (i * 2 + a) := by rw [na_i _ (by omega), un_s]
      refine ⟨pk_in (i * 2 + a) 8 (by omega) e, nm_r (na_upd (i * 2 + a) 0 e rfl) (nm_r (nI_1 _) (nm_r (nI_1 _) ?_))⟩
      have := ih (a + 1) (un gs' (cb S pc (i * 2 + a)) (i * 2 + a)) (by omega) (gL_st hg)
      rw [show i * 2 + (a + 1) = i * 2 + a + 1 from rfl, cb_y hin, ← sz_st _ hin] at this
      exact this
    · have := (iG_iff _ _ _).mp hx
      rw [show x / 2 = i by omega] at this
      exact hb this.1
theorem x_ls4 {post : Int32 → SX → Prop} {S : Nat} (hc : c ≤ 4) (hS : S < 16) (h2 : ∀ i, pc i ≤ 2) (hp : ∀ gs', gL S pc (c * 2) gs' → post (nI (cb S pc (c * 2))) ((nI c), (nI pt), st, (nI w), (na pc), (na tc), (na tk), (na fc), (na fe), (na nt), (na sk), (na (sz S pc sc (c * 2))), (na cc), (na gs'), (na stk))) : ∀ m i gs', i + m = c → gL S pc (i * 2) gs' → wX_listSlots_4 post (nI S) (nI c) (nI pt) st (nI w) (m + 1) (nI (cb S pc (i * 2))) (nI i) (na pc) (na tc) (na tk) (na fc) (na fe) (na nt) (na sk) (na (sz S pc sc (i * 2))) (na cc) (na gs') (na stk) := by
  intro m
  induction m with
  | zero =>
    intro i gs' hi hg
    have hi : i = c := by omega
    subst hi
    exact br_t (nI_le (Nat.le_refl _) (by omega)) (hp gs' hg)
  | succ m ih =>
    intro i gs' hi hg
    refine br_f (nI_ge (by omega) (by omega)) ⟨pc i + 1, x_ls15 (by omega) hS h2 (fun g hg' => ?_) (pc i) 0 gs' (by omega) hg⟩
    have := ih (i + 1) g (by omega) (by rw [show (i + 1) * 2 = i * 2 + 2 by omega]; exact hg')
    rw [show (i + 1) * 2 = i * 2 + 2 by omega] at this
    exact this
theorem x_ls {post : Int32 → SX → Prop} {S : Nat} (hc : c ≤ 4) (hS : S < 16) (hSc : ∀ j, S.testBit j = true → j < c) (h2 : ∀ i, pc i ≤ 2) (hp : ∀ gs', gL S pc 8 gs' → post (nI (cb S pc 8)) ((nI c), (nI pt), st, (nI w), (na pc), (na tc), (na tk), (na fc), (na fe), (na nt), (na sk), (na (sz S pc sc 8)), (na cc), (na gs'), (na stk))) : wpX_listSlots post ((nI c), (nI pt), st, (nI w), (na pc), (na tc), (na tk), (na fc), (na fe), (na nt), (na sk), (na sc), (na cc), (na gs), (na stk)) (nI S) := by
  have hn : ∀ x, c * 2 ≤ x → x < c * 2 + (8 - c * 2) → ¬ iG S pc x = true := by
    intro x h1 _ h3
    have := hSc _ ((iG_iff _ _ _).mp h3).1
    omega
  have e1 := cb_sk (c * 2) (8 - c * 2) hn
  have e2 := sz_sk (sc := sc) (c * 2) (8 - c * 2) hn
  rw [show c * 2 + (8 - c * 2) = 8 by omega] at e1 e2
  have := x_ls4 (post := post) (pt := pt) (w := w) (st := st) (tc := tc) (tk := tk) (fc := fc) (fe := fe) (nt := nt) (sk := sk) (sc := sc) (cc := cc) (stk := stk) hc hS h2 (fun gs' hg => by
    have h := hp gs' (by have := gL_sk (c * 2) (8 - c * 2) hn hg; rw [show c * 2 + (8 - c * 2) = 8 by omega] at this; exact this)
    rw [e1, e2] at h
    exact h) c 0 gs (by omega) (fun x hx => absurd hx (Nat.not_lt_zero _))
  have e3 : sz S pc sc (0 * 2) = sc := by
    funext x
    unfold sz
    rw [if_neg (fun z => absurd z.1 (by omega))]
  rw [e3] at this
  exact ⟨c + 1, this⟩
/-! the code of a type -/
theorem kj_co : ∀ v, v < 8 → ∀ s, s < 4 → (nI v <<< ((2 : Int32) &&& 31)) ||| nI s = nI (v * 4 + s) := by decide +kernel
theorem x_ct1 {post : Int32 → Prop} {i p v n : Nat} (hi : i < 4) (hp : p < 2) (hv : v < 8) (hk : ∀ q, sk q < 4) (h : wX_codeOfType_11 post (nI i) (nI c) (nI pt) st (nI w) (na pc) (na tc) (na tk) (na fc) (na fe) (na nt) (na sk) (na sc) (na cc) (na gs) (na stk) n (nI (v * 4 + sk (i * 2 + p))) (nI p + (-1))) : wX_codeOfType_11 post (nI i) (nI c) (nI pt) st (nI w) (na pc) (na tc) (na tk) (na fc) (na fe) (na nt) (na sk) (na sc) (na cc) (na gs) (na stk) (n + 1) (nI v) (nI p) := by
  refine br_f (nI_pos (by omega)) ⟨pk_in (i * 2 + p) 8 (by omega) (kj_ix2 i p), nm_r ?_ (nm_e h)⟩
  rw [na_at (i * 2 + p) (kj_ix2 i p)]
  exact kj_co v hv _ (hk _)
theorem x_ct0 {post : Int32 → Prop} {i v n : Nat} (h : post (nI v)) : wX_codeOfType_11 post (nI i) (nI c) (nI pt) st (nI w) (na pc) (na tc) (na tk) (na fc) (na fe) (na nt) (na sk) (na sc) (na cc) (na gs) (na stk) (n + 1) (nI v) (nI 0 + (-1)) := br_t kj_m1 h
theorem x_ct {post : Int32 → Prop} {i : Nat} (hi : i < 4) (h2 : ∀ i, pc i ≤ 2) (hk : ∀ q, sk q < 4) (hp : post (nI (co pc sk i))) : wpX_codeOfType post ((nI c), (nI pt), st, (nI w), (na pc), (na tc), (na tk), (na fc), (na fe), (na nt), (na sk), (na sc), (na cc), (na gs), (na stk)) (nI i) := by
  have := h2 i
  have k0 := hk (i * 2)
  have k1 := hk (i * 2 + 1)
  refine ⟨pk_in i 4 hi, ?_⟩
  rw [na_i i]
  unfold co at hp
  rcases (by omega : pc i = 0 ∨ pc i = 1 ∨ pc i = 2) with h | h | h
  · rw [h] at hp ⊢
    exact nm_r (kj_mm 0) ⟨1, x_ct0 hp⟩
  · rw [h] at hp ⊢
    refine nm_r (nI_pred 0) ⟨2, x_ct1 (v := 1) hi (by omega) (by omega) hk (x_ct0 ?_)⟩
    rw [if_neg (by omega), if_pos rfl] at hp
    exact hp
  · rw [h] at hp ⊢
    refine nm_r (nI_pred 1) ⟨3, x_ct1 (v := 1) hi (by omega) (by omega) hk ?_⟩
    rw [show nI 1 + (-1) = nI 0 from pk_m1 0]
    refine x_ct1 hi (by omega) (by omega) hk (x_ct0 ?_)
    rw [if_neg (by omega), if_neg (by omega)] at hp
    have ez : (1 * 4 + sk (i * 2 + 1)) * 4 + sk (i * 2 + 0) = 16 + 4 * sk (i * 2 + 1) + sk (i * 2) := by
      show (1 * 4 + sk (i * 2 + 1)) * 4 + sk (i * 2) = _
      omega
    rw [ez]
    exact hp
/-! take -/
def cT (S c : Nat) (pc g cc : Nat → Nat) : Nat → Nat := fun q => if 4 ≤ q ∧ q < 4 + c ∧ S.testBit (q - 4) = true then co pc g (q - 4) else cc q
theorem cT_y {S m : Nat} {pc g cc : Nat → Nat} (h : S.testBit m = true) : un (cT S m pc g cc) (4 + m) (co pc g m) = cT S (m + 1) pc g cc := by
  funext q
  unfold un cT
  by_cases e : q = 4 + m
  · subst e
    rw [if_pos rfl, if_pos ⟨by omega, by omega, by rw [show 4 + m - 4 = m by omega]; exact h⟩, show 4 + m - 4 = m by omega]
  · rw [if_neg e]
    by_cases h1 : 4 ≤ q ∧ q < 4 + m ∧ S.testBit (q - 4) = true
    · rw [if_pos h1, if_pos ⟨h1.1, by omega, h1.2.2⟩]
    · rw [if_neg h1, if_neg (fun z => h1 ⟨z.1, by omega, z.2.2⟩)]
theorem cT_n {S m : Nat} {pc g cc : Nat → Nat} (h : ¬ S.testBit m = true) : cT S m pc g cc = cT S (m + 1) pc g cc := by
  funext q
  unfold cT
  by_cases h1 : 4 ≤ q ∧ q < 4 + m ∧ S.testBit (q - 4) = true
  · rw [if_pos h1, if_pos ⟨h1.1, by omega, h1.2.2⟩]
  · rw [if_neg h1, if_neg]
    rintro ⟨z1, z2, z3⟩
    by_cases e : q = 4 + m
    · subst e; rw [show 4 + m - 4 = m by omega] at z3; exact h z3
    · exact h1 ⟨z1, by omega, z3⟩
theorem kj_4 (i : Nat) : 4 + nI i = nI (4 + i) := nI_add 4 i
theorem x_tk44 {post : SX → Prop} {S : Nat} (hc : c ≤ 4) (hS : S < 16) (h2 : ∀ i, pc i ≤ 2) (hk : ∀ q, sk q < 4) (hp : post ((nI c), (nI pt), st, (nI w), (na pc), (na tc), (na tk), (na fc), (na fe), (na nt), (na sk), (na sc), (na (cT S c pc sk cc)), (na gs), (na stk))) : ∀ m i, i + m = c → wX_take_44 post (nI S) (nI c) (nI pt) st (nI w) (m + 1) (nI i) (na pc) (na tc) (na tk) (na fc) (na fe) (na nt) (na sk) (na sc) (na (cT S i pc sk cc)) (na gs) (na stk) := by
  intro m
  induction m with
  | zero =>
    intro i hi
    have hi : i = c := by omega
    subst hi
    exact br_t (nI_le (Nat.le_refl _) (by omega)) hp
  | succ m ih =>
    intro i hi
    have := ih (i + 1) (by omega)
    refine br_f (nI_ge (by omega) (by omega)) (x_ho (by omega) (by omega) (fun hb => br_f (by decide) (x_ct (by omega) h2 hk ⟨pk_in (4 + i) 8 (by omega) (kj_4 i), nm_r (na_upd (4 + i) _ (kj_4 i) rfl) (nm_r (nI_1 _) ?_)⟩)) (fun hb => br_t rfl (nm_r (nI_1 _) ?_)))
    · rw [cT_y hb]; exact this
    · rw [cT_n hb]; exact this
def tm (S : Nat) (pc : Nat → Nat) (ch : Nat) (g : Nat → Nat) (m : Nat) : Nat → Nat := fun q => if m ≤ q ∧ q < 8 ∧ iG S pc q = true then ch / 4 ^ (cb S pc 8 - cb S pc (q + 1)) % 4 else g q
theorem tm_0 {S : Nat} {pc : Nat → Nat} {ch : Nat} {g : Nat → Nat} : tm S pc ch g 0 = tG S pc ch g := by
  funext q
  unfold tm tG
  by_cases h : q < 8 ∧ iG S pc q = true
  · rw [if_pos h, if_pos ⟨by omega, h⟩]
  · rw [if_neg h, if_neg (fun z => h z.2)]
theorem tm_8 {S : Nat} {pc : Nat → Nat} {ch : Nat} {g : Nat → Nat} : tm S pc ch g 8 = g := by
  funext q
  unfold tm
  rw [if_neg (fun z => absurd z.1 (by omega))]
theorem tm_n {S : Nat} {pc : Nat → Nat} {ch : Nat} {g : Nat → Nat} {m : Nat} (h : ¬ iG S pc m = true) : tm S pc ch g (m + 1) = tm S pc ch g m := by
  funext q
  unfold tm
  by_cases h1 : m + 1 ≤ q ∧ q < 8 ∧ iG S pc q = true
  · rw [if_pos h1, if_pos ⟨by omega, h1.2⟩]
  · rw [if_neg h1, if_neg]
    rintro ⟨z1, z2, z3⟩
    by_cases e : q = m
    · subst e; exact h z3
    · exact h1 ⟨by omega, z2, z3⟩
theorem tm_y {S : Nat} {pc : Nat → Nat} {ch : Nat} {g : Nat → Nat} {m : Nat} (hm : m < 8) (h : iG S pc m = true) : un (tm S pc ch g (m + 1)) m (ch / 4 ^ (cb S pc 8 - cb S pc (m + 1)) % 4) = tm S pc ch g m := by
  funext q
  unfold un tm
  by_cases e : q = m
  · subst e; rw [if_pos rfl, if_pos ⟨Nat.le_refl _, hm, h⟩]
  · rw [if_neg e]
    by_cases h1 : m + 1 ≤ q ∧ q < 8 ∧ iG S pc q = true
    · rw [if_pos h1, if_pos ⟨by omega, h1.2⟩]
    · rw [if_neg h1, if_neg (fun z => h1 ⟨by omega, z.2⟩)]
theorem tm_lt {S : Nat} {pc : Nat → Nat} {ch : Nat} {g : Nat → Nat} {m : Nat} (hg : ∀ q, g q < 4) (q : Nat) : tm S pc ch g m q < 4 := by
  unfold tm
  split
  · exact Nat.mod_lt _ (by omega)
  · exact hg q
theorem rs_y {S : Nat} {pc : Nat → Nat} (ch : Nat) {m : Nat} (hm : m < 8) (h : iG S pc m = true) : ch / 4 ^ (cb S pc 8 - cb S pc (m + 1)) / 4 = ch / 4 ^ (cb S pc 8 - cb S pc m) := by
  have h1 := cb_y h
  have h2 := cb_le S pc (show m + 1 ≤ 8 by omega)
  rw [show cb S pc 8 - cb S pc m = cb S pc 8 - cb S pc (m + 1) + 1 by omega, Nat.pow_succ, Nat.div_div_eq_div_mul]
theorem kj_a3 {r : Nat} (h : r < 2 ^ 31) : nI r &&& 3 = nI (r % 4) ∧ nI r >>> ((2 : Int32) &&& 31) = nI (r / 4) := ⟨pk_andN (by omega) 2 (by decide), pk_shrN h _ 2 (by decide)⟩
theorem x_tk8 {post : SX → Prop} {S ch : Nat} (hc : c ≤ 4) (hS : S < 16) (h2 : ∀ i, pc i ≤ 2) (hk : ∀ q, sk q < 4) (hch : ch < 2 ^ 31) (hg : gL S pc 8 gs) (hp : post ((nI c), (nI pt), st, (nI w), (na pc), (na tc), (na tk), (na fc), (na fe), (na nt), (na (tG S pc ch sk)), (na sc), (na (cT S c pc (tG S pc ch sk) cc)), (na gs), (na stk))) : ∀ m n, m ≤ 8 → m < n → wX_take_8 post (nI S) (nI c) (nI pt) st (nI w) n (nI (ch / 4 ^ (cb S pc 8 - cb S pc m))) (nI (cb S pc m) + (-1)) (na pc) (na tc) (na tk) (na fc) (na fe) (na nt) (na (tm S pc ch sk m)) (na sc) (na cc) (na gs) (na stk) := by
  intro m
  induction m with
  | zero =>
    intro n _ hn
    obtain ⟨n, rfl⟩ : ∃ k, n = k + 1 := ⟨n - 1, by omega⟩
    refine br_t kj_m1 ⟨c + 1, ?_⟩
    rw [tm_0]
    have := x_tk44 (sk := tG S pc ch sk) hc hS h2 (tG_lt hk) hp c 0 (by omega)
    have e : cT S 0 pc (tG S pc ch sk) cc = cc := by
      funext q
      unfold cT
      rw [if_neg (fun z => absurd z.2.1 (by have := z.1; omega))]
    rw [e] at this
    exact this
  | succ m ih =>
    intro n hm hn
    by_cases h : iG S pc m = true
    · obtain ⟨n, rfl⟩ : ∃ k, n = k + 1 := ⟨n - 1, by omega⟩
      have hy := cb_y h
      have h8 := cb_m S pc m
      have hr : ch / 4 ^ (cb S pc 8 - cb S pc (m + 1)) < 2 ^ 31 := Nat.lt_of_le_of_lt (Nat.div_le_self _ _) hch
      rw [hy, pk_m1, ← hy]
      have e : na gs (nI (cb S pc m)).toNatClampNeg = nI m := by rw [na_i _ (by omega), hg m (by omega) h]
      refine br_f (nI_pos (by omega)) ⟨vp_in_nI (by omega) (by omega), pk_in m 8 (by omega) e, nm_r (na_upd m _ e (kj_a3 hr).1) (nm_r (kj_a3 hr).2 (nm_e ?_))⟩
      rw [tm_y (by omega) h, rs_y ch (by omega) h]
      exact ih n (by omega) (by omega)
    · rw [cb_n h, tm_n h]
      exact ih n (by omega) (by omega)
theorem x_tk {post : SX → Prop} {S ch : Nat} (hc : c ≤ 4) (hS : S < 16) (h2 : ∀ i, pc i ≤ 2) (hk : ∀ q, sk q < 4) (hch : ch < 2 ^ 31) (hg : gL S pc 8 gs) (hp : post ((nI c), (nI pt), st, (nI w), (na pc), (na tc), (na tk), (na fc), (na fe), (na nt), (na (tG S pc ch sk)), (na sc), (na (cT S c pc (tG S pc ch sk) cc)), (na gs), (na stk))) : wpX_take post ((nI c), (nI pt), st, (nI w), (na pc), (na tc), (na tk), (na fc), (na fe), (na nt), (na sk), (na sc), (na cc), (na gs), (na stk)) (nI ch) (nI (cb S pc 8)) (nI S) := by
  have := x_tk8 hc hS h2 hk hch hg hp 8 9 (by omega) (by omega)
  rw [tm_8, Nat.sub_self, Nat.pow_zero, Nat.div_one] at this
  exact nm_r (kj_mm _) ⟨9, this⟩
/-! noteCould -/
def sn (S : Nat) (pc sk sc : Nat → Nat) (m : Nat) : Nat → Nat := fun q => if q < m ∧ iG S pc q = true then sc q ||| 2 ^ sk q else sc q
theorem sn_n {S : Nat} {pc sk sc : Nat → Nat} {m : Nat} (h : ¬ iG S pc m = true) : sn S pc sk sc (m + 1) = sn S pc sk sc m := by
  funext q
  unfold sn
  by_cases h1 : q < m ∧ iG S pc q = true
  · rw [if_pos h1, if_pos ⟨by omega, h1.2⟩]
  · rw [if_neg h1, if_neg]
    rintro ⟨z1, z3⟩
    by_cases e : q = m
    · subst e; exact h z3
    · exact h1 ⟨by omega, z3⟩
theorem sn_y {S : Nat} {pc sk sc : Nat → Nat} {m : Nat} (h : iG S pc m = true) : un (sn S pc sk sc m) m (sn S pc sk sc m m ||| 2 ^ sk m) = sn S pc sk sc (m + 1) := by
  have e0 : sn S pc sk sc m m = sc m := if_neg (fun z => Nat.lt_irrefl _ z.1)
  rw [e0]
  funext q
  unfold un sn
  by_cases e : q = m
  · subst e; rw [if_pos rfl, if_pos ⟨by omega, h⟩]
  · rw [if_neg e]
    by_cases h1 : q < m ∧ iG S pc q = true
    · rw [if_pos h1, if_pos ⟨by omega, h1.2⟩]
    · rw [if_neg h1, if_neg (fun z => h1 ⟨by omega, z.2⟩)]
theorem x_nc2 {post : SX → Prop} {S : Nat} (hk : ∀ q, sk q < 4) (hg : gL S pc 8 gs) (hp : post ((nI c), (nI pt), st, (nI w), (na pc), (na tc), (na tk), (na fc), (na fe), (na nt), (na sk), (na (sn S pc sk sc 8)), (na cc), (na gs), (na stk))) : ∀ d m n, m + d = 8 → d < n → wX_noteCould_2 post (nI (cb S pc 8)) (nI c) (nI pt) st (nI w) n (nI (cb S pc m)) (na pc) (na tc) (na tk) (na fc) (na fe) (na nt) (na sk) (na (sn S pc sk sc m)) (na cc) (na gs) (na stk) := by
  have h8 := cb_m S pc 8
  intro d
  induction d with
  | zero =>
    intro m n hm hn
    have hm : m = 8 := by omega
    subst hm
    obtain ⟨n, rfl⟩ : ∃ k, n = k + 1 := ⟨n - 1, by omega⟩
    exact br_t (nI_le (Nat.le_refl _) (by omega)) hp
  | succ d ih =>
    intro m n hm hn
    by_cases h : iG S pc m = true
    · obtain ⟨n, rfl⟩ : ∃ k, n = k + 1 := ⟨n - 1, by omega⟩
      have hy := cb_y h
      have hl := cb_le S pc (show m + 1 ≤ 8 by omega)
      have e : na gs (nI (cb S pc m)).toNatClampNeg = nI m := by rw [na_i _ (by omega), hg m (by omega) h]
      have hkm := hk m
      refine br_f (nI_ge (by omega) (by omega)) ⟨vp_in_nI (by omega) (by omega), nm_r e ⟨pk_in m 8 (by omega), pk_in m 8 (by omega), pk_in m 8 (by omega), nm_r (na_upd m (sn S pc sk sc m m ||| 2 ^ sk m) rfl ?_) (nm_r (nI_1 _) ?_)⟩⟩
      · rw [na_i m, na_i m, kj_one (by omega), kj_or]
      · rw [sn_y h, ← hy]
        exact ih (m + 1) n (by omega) (by omega)
    · have := ih (m + 1) n (by omega) (by omega)
      rw [cb_n h, sn_n h] at this
      exact this
theorem x_nc {post : SX → Prop} {S : Nat} (hk : ∀ q, sk q < 4) (hg : gL S pc 8 gs) (hp : post ((nI c), (nI pt), st, (nI w), (na pc), (na tc), (na tk), (na fc), (na fe), (na nt), (na sk), (na (sn S pc sk sc 8)), (na cc), (na gs), (na stk))) : wpX_noteCould post ((nI c), (nI pt), st, (nI w), (na pc), (na tc), (na tk), (na fc), (na fe), (na nt), (na sk), (na sc), (na cc), (na gs), (na stk)) (nI (cb S pc 8)) := by
  have := x_nc2 hk hg hp 8 0 9 (by omega) (by omega)
  have e : sn S pc sk sc 0 = sc := by
    funext q
    unfold sn
    rw [if_neg (fun z => absurd z.1 (by omega))]
  rw [e] at this
  exact ⟨9, this⟩
/-! the stack -/
theorem x_ap {post : Int32 → Prop} {f a : Nat} (hf : VC f) (ha : a < 2 ^ 31) (hcc : ∀ q, q < 4 → cc q = nc q) (hp : post (nI (ap f a))) : wpX_codeOfApplying post ((nI c), (nI pt), st, (nI w), (na pc), (na tc), (na tk), (na fc), (na fe), (na nt), (na sk), (na sc), (na cc), (na gs), (na stk)) (nI f) (nI a) := by
  have h32 := hf.1
  unfold ap at hp
  unfold wpX_codeOfApplying
  refine pk_eq f 0 (fun h => ?_) (fun h0 => pk_eq f 1 (fun h => ?_) (fun h1 => ?_))
  · rw [if_pos (Or.inl h)] at hp; exact hp
  · rw [if_pos (Or.inr h)] at hp; exact hp
  · rw [if_neg (by omega)] at hp
    have e := kj_a3 (show f < 2 ^ 31 by omega)
    have hm : f % 4 < 4 := Nat.mod_lt _ (by omega)
    have hb : nc (f % 4) < 32 := (nc_vc _).1
    refine ⟨pk_in (f % 4) 8 (by omega) e.1, ?_⟩
    rw [na_at (f % 4) e.1, hcc _ hm]
    refine pk_eq (nc (f % 4)) a (fun h => ?_) (fun h => ?_)
    · rw [if_pos h] at hp; rw [e.2]; exact hp
    · rw [if_neg h] at hp; exact hp
def xl (sk cc : Nat → Nat) (i tok : Nat) : Nat := if tok < 3 then cc (sk (i * 2 + tok - 1)) else cc (tok - 3)
theorem x_lf {post : Int32 → Prop} {i tok : Nat} (hi : i < 4) (h1 : 1 ≤ tok) (h10 : tok ≤ 10) (hk : ∀ q, sk q < 4) (hp : post (nI (xl sk cc i tok))) : wpX_codeOfLeaf post ((nI c), (nI pt), st, (nI w), (na pc), (na tc), (na tk), (na fc), (na fe), (na nt), (na sk), (na sc), (na cc), (na gs), (na stk)) (nI i) (nI tok) := by
  obtain ⟨k1, k2, k3, k4, k5⟩ := kj_t7 tok (by omega)
  unfold xl at hp
  unfold wpX_codeOfLeaf
  refine pk_lt tok 3 (fun h => ?_) (fun h => ?_)
  · have e : nI i * 2 + nI tok - 1 = nI (i * 2 + tok - 1) := by
      rw [kj_ix2, show i * 2 + tok = (i * 2 + tok - 1) + 1 by omega, nI_pred]; rfl
    have := hk (i * 2 + tok - 1)
    rw [if_pos h] at hp
    refine ⟨pk_in (i * 2 + tok - 1) 8 (by omega) e, nm_r (na_at _ e) ⟨vp_in_nI (by omega) (by omega), ?_⟩⟩
    rw [na_i _ (by omega)]
    exact hp
  · rw [if_neg (by omega)] at hp
    refine ⟨pk_in (tok - 3) 8 (by omega) (k4 h), ?_⟩
    rw [na_at (tok - 3) (k4 h)]
    exact hp
theorem x_as89 {post : Int32 → SX → Prop} {H : Nat} (hH : H ≤ 20) (hb : ∀ q, q < H → stk q < 2 ^ 31) (hy : (∀ q, q < H → stk q = 1) → post 1 ((nI c), (nI pt), st, (nI w), (na pc), (na tc), (na tk), (na fc), (na fe), (na nt), (na sk), (na sc), (na cc), (na gs), (na stk))) (hn : ¬ (∀ q, q < H → stk q = 1) → post 0 ((nI c), (nI pt), st, (nI w), (na pc), (na tc), (na tk), (na fc), (na fe), (na nt), (na sk), (na sc), (na cc), (na gs), (na stk))) : ∀ m k, k + m = H → (∀ q, q < k → stk q = 1) → wX_allFieldsAreStar_89 post (nI H) (nI c) (nI pt) st (nI w) (na pc) (na tc) (na tk) (na fc) (na fe) (na nt) (na sk) (na sc) (na cc) (na gs) (na stk) (m + 1) (nI k) := by
  intro m
  induction m with
  | zero =>
    intro k hk h
    have hk : k = H := by omega
    subst hk
    exact br_t (nI_le (Nat.le_refl _) (by omega)) (hy h)
  | succ m ih =>
    intro k hk h
    refine br_f (nI_ge (by omega) (by omega)) ⟨pk_in k 20 (by omega), ?_⟩
    rw [na_i k]
    have := hb k (by omega)
    refine pk_eq (stk k) 1 (fun h1 => nm_r (nI_1 _) (ih (k + 1) (by omega) (fun q hq => ?_))) (fun h1 => hn (fun z => h1 (z k (by omega))))
    by_cases e : q = k
    · rw [e]; exact h1
    · exact h q (by omega)
theorem x_as11 {post : Int32 → SX → Prop} {i n e : Nat} {L : Nat → Nat} (hi : i < 4) (he : e = rE (tp tk i) n) (he2 : e ≤ 20) (ht : ∀ q, tk q ≤ 10) (hk : ∀ q, sk q < 4) (hcc : ∀ q, q < 4 → cc q = nc q) (hV : ∀ k, VC (L k)) (hL : ∀ k, k < e → tp tk i k ≠ 0 → xl sk cc i (tp tk i k) = L k) (hp : ∀ s, (FI (tp tk i) L e → post 1 ((nI c), (nI pt), st, (nI w), (na pc), (na tc), (na tk), (na fc), (na fe), (na nt), (na sk), (na sc), (na cc), (na gs), (na s))) ∧ (¬ FI (tp tk i) L e → post 0 ((nI c), (nI pt), st, (nI w), (na pc), (na tc), (na tk), (na fc), (na fe), (na nt), (na sk), (na sc), (na cc), (na gs), (na s)))) : ∀ d m s, m + d = e → (∀ q, q < eH (tp tk i) e m → s q = eS (tp tk i) L e m q) → wX_allFieldsAreStar_11 post (nI i) (nI c) (nI pt) st (nI w) (d + 1) (nI (eH (tp tk i) e m)) (nI d + (-1)) (na pc) (na tc) (na tk) (na fc) (na fe) (na nt) (na sk) (na sc) (na cc) (na gs) (na s) := by
  intro d
  induction d with
  | zero =>
    intro m s hm hs
    have hm : m = e := by omega
    have hl := eH_le (tp tk i) e m
    refine br_t kj_m1 ⟨eH (tp tk i) e m + 1, x_as89 (stk := s) (by omega) (fun q hq => ?_) (fun h => (hp s).1 ?_) (fun h => (hp s).2 ?_) (eH (tp tk i) e m) 0 (by omega) (fun q hq => absurd hq (Nat.not_lt_zero _))⟩
    · have := (eS_vc (t := tp tk i) (e := e) hV m q).1
      rw [hs q hq]; omega
    · intro q hq
      have hq' : q < eH (tp tk i) e m := by rw [hm]; exact hq
      have h1 := h q hq'
      rw [hs q hq', hm] at h1
      exact h1
    · intro z
      apply h
      intro q hq
      rw [hs q hq]
      rw [hm] at hq ⊢
      exact z q hq
  | succ d ih =>
    intro m s hm hs
    have hl := eH_le (tp tk i) e m
    have h10 := ht (i * 20 + d)
    have ed : e - 1 - m = d := by omega
    have et : tp tk i d = tk (i * 20 + d) := rfl
    rw [pk_m1]
    refine br_f (nI_pos (by omega)) ⟨pk_in (i * 20 + d) 80 (by omega) (kj_ix20 i d), nm_r (na_at _ (kj_ix20 i d)) (pk_eq (tk (i * 20 + d)) 0 (fun h0 => ?_) (fun h0 => ?_))⟩
    · have h2 := eH_2 (tp tk i) n e m he (by omega) (by rw [ed]; exact h0)
      obtain ⟨h, hh⟩ : ∃ h, eH (tp tk i) e m = h + 2 := ⟨eH (tp tk i) e m - 2, by omega⟩
      have f1 := eH_0 (t := tp tk i) (e := e) (m := m) (by rw [ed]; exact h0)
      have f2 := eS_0 (t := tp tk i) (L := L) (e := e) (m := m) (by rw [ed]; exact h0)
      have s1 := hs (h + 1) (by omega)
      have s0 := hs h (by omega)
      have v1 := eS_vc (t := tp tk i) (e := e) hV m (h + 1)
      have v0 := eS_vc (t := tp tk i) (e := e) hV m h
      have b0 := v0.1
      rw [hh]
      refine nm_r (pk_m1 (h + 1)) ⟨pk_in (h + 1) 20 (by omega), pk_in h 20 (by omega) (nI_pred h), ?_⟩
      rw [nI_pred, na_i (h + 1), na_i h]
      refine x_ap (by rw [s1]; exact v1) (by rw [s0]; omega) hcc ⟨pk_in h 20 (by omega), nm_r (na_upd h _) (nm_e ?_)⟩
      have := ih (m + 1) (un s h (ap (s (h + 1)) (s h))) (by omega) (fun q hq => ?_)
      · rw [f1, hh] at this; exact this
      · rw [f2, hh, show h + 2 - 2 = h by omega, show h + 2 - 1 = h + 1 by omega, s1, s0]
        rw [f1, hh] at hq
        unfold un
        by_cases e : q = h
        · rw [if_pos e, if_pos e]
        · rw [if_neg e, if_neg e]; exact hs q (by omega)
    · have f1 := eH_1 (t := tp tk i) (e := e) (m := m) (by rw [ed]; exact h0)
      have f2 := eS_1 (t := tp tk i) (L := L) (e := e) (m := m) (by rw [ed]; exact h0)
      have hx := hL d (by omega) h0
      refine x_lf hi (by omega) h10 hk ⟨vp_in_nI (by omega) (by omega), nm_r (na_upd _ _) (nm_r (nI_1 _) (nm_e ?_))⟩
      have := ih (m + 1) (un s (eH (tp tk i) e m) (xl sk cc i (tk (i * 20 + d)))) (by omega) (fun q hq => ?_)
      · rw [f1] at this; exact this
      · rw [f2, ed, ← hx]
        rw [f1] at hq
        unfold un
        by_cases e : q = eH (tp tk i) e m
        · rw [if_pos e, if_pos e]; rfl
        · rw [if_neg e, if_neg e]; exact hs q (by omega)
theorem x_as {post : Int32 → SX → Prop} {i n : Nat} {L : Nat → Nat} (hi : i < 4) (he : fe i = rE (tp tk i) n) (he2 : fe i ≤ 20) (ht : ∀ q, tk q ≤ 10) (hk : ∀ q, sk q < 4) (hcc : ∀ q, q < 4 → cc q = nc q) (hV : ∀ k, VC (L k)) (hL : ∀ k, k < fe i → tp tk i k ≠ 0 → xl sk cc i (tp tk i k) = L k) (hp : ∀ s, (FI (tp tk i) L (fe i) → post 1 ((nI c), (nI pt), st, (nI w), (na pc), (na tc), (na tk), (na fc), (na fe), (na nt), (na sk), (na sc), (na cc), (na gs), (na s))) ∧ (¬ FI (tp tk i) L (fe i) → post 0 ((nI c), (nI pt), st, (nI w), (na pc), (na tc), (na tk), (na fc), (na fe), (na nt), (na sk), (na sc), (na cc), (na gs), (na s)))) : wpX_allFieldsAreStar post ((nI c), (nI pt), st, (nI w), (na pc), (na tc), (na tk), (na fc), (na fe), (na nt), (na sk), (na sc), (na cc), (na gs), (na stk)) (nI i) := by
  refine ⟨pk_in i 4 hi, ?_⟩
  rw [na_i i]
  exact nm_r (kj_mm _) ⟨fe i + 1, x_as11 hi he he2 ht hk hcc hV hL hp (fe i) 0 stk (by omega) (fun q hq => absurd hq (Nat.not_lt_zero _))⟩
end
end
section
section
variable {c pt w : Nat} {st : Int32} {pc tc tk fc fe nt sk sc cc gs stk : Nat → Nat}
/-- the declarations -/
def DQ (c : Nat) (pc tc tk fe : Nat → Nat) : Prop := c ≤ 4 ∧ (∀ i, pc i ≤ 2) ∧ (∀ q, tk q ≤ 10) ∧ sP pc c ≤ 6 ∧ (∀ i, tc i ≤ 20) ∧ (∀ i, i < c → fe i = rE (tp tk i) (tc i)) ∧ TQ c pc tk fe
theorem DQ_e (D : DQ c pc tc tk fe) {i : Nat} (hi : i < c) : fe i ≤ 20 := by
  obtain ⟨h1, h2, h3, h4, h5, h6, h7⟩ := D
  have := rE_le (tp tk i) (tc i)
  have := h5 i
  rw [h6 i hi]
  omega
theorem x_ft2 {post : Int32 → SX → Prop} {S : Nat} (D : DQ c pc tc tk fe) (hS : S < 16) (hSc : ∀ j, S.testBit j = true → j < c) (hk : ∀ q, sk q < 4) (hcc : ∀ q, q < 4 → cc q = nc q) (hC : ∀ i k, S.testBit i = true → k < fe i → 7 ≤ tp tk i k → cc (4 + (tp tk i k - 7)) = co pc sk (tp tk i k - 7)) (hp : ∀ s, (Ft pc tk fe S sk → post 1 ((nI c), (nI pt), st, (nI w), (na pc), (na tc), (na tk), (na fc), (na fe), (na nt), (na sk), (na sc), (na cc), (na gs), (na s))) ∧ (¬ Ft pc tk fe S sk → post 0 ((nI c), (nI pt), st, (nI w), (na pc), (na tc), (na tk), (na fc), (na fe), (na nt), (na sk), (na sc), (na cc), (na gs), (na s)))) : ∀ m i s, i + m = c → (∀ x, x < i → S.testBit x = true → FI (tp tk x) (fun k => lf pc sk x (tp tk x k)) (fe x)) → wX_fits_2 post (nI S) (m + 1) (nI i) (nI c) (nI pt) st (nI w) (na pc) (na tc) (na tk) (na fc) (na fe) (na nt) (na sk) (na sc) (na cc) (na gs) (na s) := by
  have hc4 := D.1
  intro m
  induction m with
  | zero =>
    intro i s hi h
    have hi : i = c := by omega
    subst hi
    exact br_t (nI_le (Nat.le_refl _) (by omega)) ((hp s).1 (fun x _ hx => h x (hSc x hx) hx))
  | succ m ih =>
    intro i s hi h
    refine br_f (nI_ge (by omega) (by omega)) (x_ho (by omega) (by omega) (fun hb => br_f (by decide) ?_) (fun hb => br_t rfl (nm_r (nI_1 _) (ih (i + 1) s (by omega) (fun x hx hxb => ?_)))))
    · refine x_as (L := fun k => lf pc sk i (tp tk i k)) (by omega) (D.2.2.2.2.2.1 i (by omega)) (DQ_e D (by omega)) D.2.2.1 hk hcc (fun k => lf_vc hk _ _) (fun k hk' h0 => ?_) (fun s' => ⟨fun hf => ?_, fun hf => ?_⟩)
      · have ht := D.2.2.1 (i * 20 + k)
        have et : tp tk i k = tk (i * 20 + k) := rfl
        unfold xl lf
        split
        · exact hcc _ (hk _)
        · split
          · exact hcc _ (by omega)
          · rw [← hC i k hb hk' (by omega)]
            congr 1
            omega
      · refine br_f (by decide) (nm_r (nI_1 _) (ih (i + 1) s' (by omega) (fun x hx hxb => ?_)))
        by_cases e : x = i
        · rw [e]; exact hf
        · exact h x (by omega) hxb
      · exact br_t rfl ((hp s').2 (fun z => hf (z i (by omega) hb)))
    · by_cases e : x = i
      · rw [e] at hxb; exact absurd hxb hb
      · exact h x (by omega) hxb
theorem x_ft {post : Int32 → SX → Prop} {S : Nat} (D : DQ c pc tc tk fe) (hS : S < 16) (hSc : ∀ j, S.testBit j = true → j < c) (hk : ∀ q, sk q < 4) (hcc : ∀ q, q < 4 → cc q = nc q) (hC : ∀ i k, S.testBit i = true → k < fe i → 7 ≤ tp tk i k → cc (4 + (tp tk i k - 7)) = co pc sk (tp tk i k - 7)) (hp : ∀ s, (Ft pc tk fe S sk → post 1 ((nI c), (nI pt), st, (nI w), (na pc), (na tc), (na tk), (na fc), (na fe), (na nt), (na sk), (na sc), (na cc), (na gs), (na s))) ∧ (¬ Ft pc tk fe S sk → post 0 ((nI c), (nI pt), st, (nI w), (na pc), (na tc), (na tk), (na fc), (na fe), (na nt), (na sk), (na sc), (na cc), (na gs), (na s)))) : wpX_fits post ((nI c), (nI pt), st, (nI w), (na pc), (na tc), (na tk), (na fc), (na fe), (na nt), (na sk), (na sc), (na cc), (na gs), (na stk)) (nI S) :=
  ⟨c + 1, x_ft2 D hS hSc hk hcc hC hp c 0 stk (by omega) (fun x hx => absurd hx (Nat.not_lt_zero _))⟩
/-! settleChoice -/
def SO (pc tk fe : Nat → Nat) (S : Nat) (sk sc : Nat → Nat) (m : Nat) (sc' : Nat → Nat) : Prop := ∀ q, (q < 8 ∧ iG S pc q = true → sc' q < 16 ∧ ∀ k, k < 4 → ((sc' q).testBit k = true ↔ ∃ ch, ch < m ∧ Ft pc tk fe S (tG S pc ch sk) ∧ tG S pc ch sk q = k)) ∧ (¬ (q < 8 ∧ iG S pc q = true) → sc' q = sc q)
theorem SO_n {S m : Nat} {sc' : Nat → Nat} (h : SO pc tk fe S sk sc m sc') (hf : ¬ Ft pc tk fe S (tG S pc m sk)) : SO pc tk fe S sk sc (m + 1) sc' := by
  intro q
  refine ⟨fun hq => ⟨((h q).1 hq).1, fun k hk => ?_⟩, (h q).2⟩
  rw [((h q).1 hq).2 k hk]
  constructor
  · rintro ⟨ch, h1, h2⟩; exact ⟨ch, by omega, h2⟩
  · rintro ⟨ch, h1, h2⟩
    by_cases e : ch = m
    · rw [e] at h2; exact absurd h2.1 hf
    · exact ⟨ch, by omega, h2⟩
theorem SO_y {S m : Nat} {sc' : Nat → Nat} (hk : ∀ q, sk q < 4) (h : SO pc tk fe S sk sc m sc') (hf : Ft pc tk fe S (tG S pc m sk)) : SO pc tk fe S sk sc (m + 1) (sn S pc (tG S pc m sk) sc' 8) := by
  intro q
  refine ⟨fun hq => ?_, fun hq => ?_⟩
  · rw [show sn S pc (tG S pc m sk) sc' 8 q = sc' q ||| 2 ^ tG S pc m sk q from if_pos hq]
    refine ⟨m_or ((h q).1 hq).1 (m_pow (tG_lt hk q)), fun k hk' => ?_⟩
    rw [or_bit, ((h q).1 hq).2 k hk', pw_bit]
    constructor
    · rintro (⟨ch, h1, h2⟩ | h2)
      · exact ⟨ch, by omega, h2⟩
      · exact ⟨m, by omega, hf, h2⟩
    · rintro ⟨ch, h1, h2⟩
      by_cases e : ch = m
      · rw [e] at h2; exact Or.inr h2.2
      · exact Or.inl ⟨ch, by omega, h2⟩
  · rw [show sn S pc (tG S pc m sk) sc' 8 q = sc' q from if_neg hq]
    exact (h q).2 hq
theorem cT_cg {S c : Nat} {pc g cc cc' : Nat → Nat} (h : ∀ q, (4 ≤ q ∧ q < 4 + c ∧ S.testBit (q - 4) = true) ∨ cc' q = cc q) : cT S c pc g cc' = cT S c pc g cc := by
  funext q
  unfold cT
  rcases h q with z | z
  · rw [if_pos z, if_pos z]
  · rw [z]
theorem cT_o {S c : Nat} {pc g cc : Nat → Nat} (q : Nat) : (4 ≤ q ∧ q < 4 + c ∧ S.testBit (q - 4) = true) ∨ cT S c pc g cc q = cc q := by
  by_cases h : 4 ≤ q ∧ q < 4 + c ∧ S.testBit (q - 4) = true
  · exact Or.inl h
  · exact Or.inr (if_neg h)
theorem tG_o {S : Nat} {pc g : Nat → Nat} {ch : Nat} (q : Nat) : (q < 8 ∧ iG S pc q = true) ∨ tG S pc ch g q = g q := by
  by_cases h : q < 8 ∧ iG S pc q = true
  · exact Or.inl h
  · exact Or.inr (if_neg h)
theorem co_o {S c : Nat} {pc g : Nat → Nat} {ch j : Nat} (h2 : ∀ i, pc i ≤ 2) (h : ¬ S.testBit j = true) : co pc (tG S pc ch g) j = co pc g j := by
  have e : ∀ a, a < 2 → tG S pc ch g (j * 2 + a) = g (j * 2 + a) := fun a ha => tG_out (fun z => h ((iG_ix S pc j a ha).mp z).1)
  unfold co
  rw [e 1 (by omega), show tG S pc ch g (j * 2) = g (j * 2) from e 0 (by omega)]
theorem x_sc18 {post : Int32 → SX → Prop} {S : Nat} (D : DQ c pc tc tk fe) (hS : S < 16) (hSc : ∀ j, S.testBit j = true → j < c) (hk : ∀ q, sk q < 4) (hcc : ∀ q, q < 4 → cc q = nc q) (hg : gL S pc 8 gs)
    (hC : ∀ i k, S.testBit i = true → k < fe i → 7 ≤ tp tk i k → S.testBit (tp tk i k - 7) = true ∨ (¬ S.testBit (tp tk i k - 7) = true ∧ cc (4 + (tp tk i k - 7)) = co pc sk (tp tk i k - 7)))
    (hy : ∀ sc' s, ls (bb pc tk fe S sk) (4 ^ cb S pc 8) < 4 ^ cb S pc 8 → SO pc tk fe S sk sc (4 ^ cb S pc 8) sc' → post 1 ((nI c), (nI pt), st, (nI w), (na pc), (na tc), (na tk), (na fc), (na fe), (na nt), (na (tG S pc (ls (bb pc tk fe S sk) (4 ^ cb S pc 8)) sk)), (na sc'), (na (cT S c pc (tG S pc (ls (bb pc tk fe S sk) (4 ^ cb S pc 8)) sk) cc)), (na gs), (na s)))
    (hn : ∀ sk' cc' sc' s, ¬ ls (bb pc tk fe S sk) (4 ^ cb S pc 8) < 4 ^ cb S pc 8 → (∀ q, (q < 8 ∧ iG S pc q = true) ∨ sk' q = sk q) → (∀ q, sk' q < 4) → (∀ q, (4 ≤ q ∧ q < 4 + c ∧ S.testBit (q - 4) = true) ∨ cc' q = cc q) → SO pc tk fe S sk sc (4 ^ cb S pc 8) sc' → post 0 ((nI c), (nI pt), st, (nI w), (na pc), (na tc), (na tk), (na fc), (na fe), (na nt), (na sk'), (na sc'), (na cc'), (na gs), (na s))) :
    ∀ d m sk' cc' sc' s l, m + d = 4 ^ cb S pc 8 → (∀ q, (q < 8 ∧ iG S pc q = true) ∨ sk' q = sk q) → (∀ q, sk' q < 4) → (∀ q, (4 ≤ q ∧ q < 4 + c ∧ S.testBit (q - 4) = true) ∨ cc' q = cc q) → SO pc tk fe S sk sc m sc' → l = (if ls (bb pc tk fe S sk) m < m then ls (bb pc tk fe S sk) m else 4 ^ cb S pc 8) → wX_settleChoice_18 post (nI S) (nI (cb S pc 8)) (nI (4 ^ cb S pc 8)) (d + 1) (nI l) (nI m) (nI c) (nI pt) st (nI w) (na pc) (na tc) (na tk) (na fc) (na fe) (na nt) (na sk') (na sc') (na cc') (na gs) (na s) := by
  have hc4 := D.1
  have h6 := cb_6 hc4 hSc D.2.2.2.1
  have hC6 : 4 ^ cb S pc 8 ≤ 4096 := Nat.pow_le_pow_right (n := 4) (j := 6) (by omega) h6
  generalize hCe : 4 ^ cb S pc 8 = C at *
  intro d
  induction d with
  | zero =>
    intro m sk' cc' sc' s l hm i1 i2 i3 i4 hl
    have hm : m = C := by omega
    subst hm
    refine br_t (nI_le (Nat.le_refl _) (by omega)) ?_
    by_cases hls : ls (bb pc tk fe S sk) m < m
    · rw [if_pos hls] at hl
      subst hl
      refine br_f (fun z => by rw [nI_eq (by omega) (by omega)] at z; omega) (x_tk hc4 hS D.2.1 i2 (by omega) hg ?_)
      rw [tG_tG i1, cT_cg i3]
      exact hy sc' s hls i4
    · rw [if_neg hls] at hl
      subst hl
      exact br_t rfl (hn sk' cc' sc' s hls i1 i2 i3 i4)
  | succ d ih =>
    intro m sk' cc' sc' s l hm i1 i2 i3 i4 hl
    have hb := bb_iff pc tk fe S sk m
    rw [hCe] at hb
    have hls := ls_sp (bb pc tk fe S sk) m
    refine br_f (nI_ge (by omega) (by omega)) (x_tk hc4 hS D.2.1 i2 (by omega) hg ?_)
    rw [tG_tG i1, cT_cg i3]
    have j2 : ∀ q, tG S pc m sk q < 4 := tG_lt hk
    have lse : ls (bb pc tk fe S sk) (m + 1) = (if ls (bb pc tk fe S sk) m < m then ls (bb pc tk fe S sk) m else if bb pc tk fe S sk m = true then m else m + 1) := rfl
    refine x_ft D hS hSc j2 (fun q hq => ?_) (fun i k hi hk' h7 => ?_) (fun s' => ⟨fun hf => br_f (by decide) (x_nc j2 hg ?_), fun hf => br_t rfl (nm_r (nI_1 _) (ih (m + 1) _ _ sc' s' l (by omega) tG_o j2 cT_o (SO_n i4 hf) ?_))⟩)
    · rcases cT_o (S := S) (c := c) (pc := pc) (g := tG S pc m sk) (cc := cc) q with z | z
      · omega
      · rw [z]; exact hcc q hq
    · have hjc := (D.2.2.2.2.2.2 i k (hSc i hi) hk').2.2 h7
      unfold cT
      rcases hC i k hi hk' h7 with z | ⟨z, z'⟩
      · rw [if_pos ⟨by omega, by omega, by rw [show 4 + (tp tk i k - 7) - 4 = tp tk i k - 7 by omega]; exact z⟩, show 4 + (tp tk i k - 7) - 4 = tp tk i k - 7 by omega]
      · rw [if_neg (fun y => z (by have := y.2.2; rw [show 4 + (tp tk i k - 7) - 4 = tp tk i k - 7 by omega] at this; exact this)), z', co_o (c := c) D.2.1 z]
    · have hbm : bb pc tk fe S sk m = true := hb.mpr ⟨by omega, hf⟩
      rw [if_pos hbm] at lse
      refine pk_eq l C (fun e => nm_r (nI_1 _) (ih (m + 1) _ _ _ s' m (by omega) tG_o j2 cT_o (SO_y hk i4 hf) ?_)) (fun e => nm_r (nI_1 _) (ih (m + 1) _ _ _ s' l (by omega) tG_o j2 cT_o (SO_y hk i4 hf) ?_)) rfl rfl ?_ (by omega)
      · have h1 : ¬ ls (bb pc tk fe S sk) m < m := fun z => by rw [if_pos z] at hl; omega
        rw [if_neg h1] at lse
        rw [lse, if_pos (by omega)]
      · have h1 : ls (bb pc tk fe S sk) m < m := Classical.byContradiction (fun z => by rw [if_neg z] at hl; omega)
        rw [if_pos h1] at lse hl
        rw [lse, if_pos (by omega), hl]
      · rw [hl]; split <;> omega
    · have hbm : ¬ bb pc tk fe S sk m = true := fun z => hf (hb.mp z).2
      rw [if_neg hbm] at lse
      rw [hl]
      by_cases h1 : ls (bb pc tk fe S sk) m < m
      · rw [if_pos h1] at lse ⊢
        rw [lse, if_pos (by omega)]
      · rw [if_neg h1] at lse ⊢
        rw [lse, if_neg (by omega)]
theorem x_sch {post : Int32 → SX → Prop} {S : Nat} (D : DQ c pc tc tk fe) (hS : S < 16) (hSc : ∀ j, S.testBit j = true → j < c) (hk : ∀ q, sk q < 4) (hcc : ∀ q, q < 4 → cc q = nc q)
    (hC : ∀ i k, S.testBit i = true → k < fe i → 7 ≤ tp tk i k → S.testBit (tp tk i k - 7) = true ∨ (¬ S.testBit (tp tk i k - 7) = true ∧ cc (4 + (tp tk i k - 7)) = co pc sk (tp tk i k - 7)))
    (hy : ∀ sc' gs' s, ls (bb pc tk fe S sk) (4 ^ cb S pc 8) < 4 ^ cb S pc 8 → SO pc tk fe S sk sc (4 ^ cb S pc 8) sc' → post 1 ((nI c), (nI pt), st, (nI w), (na pc), (na tc), (na tk), (na fc), (na fe), (na nt), (na (tG S pc (ls (bb pc tk fe S sk) (4 ^ cb S pc 8)) sk)), (na sc'), (na (cT S c pc (tG S pc (ls (bb pc tk fe S sk) (4 ^ cb S pc 8)) sk) cc)), (na gs'), (na s)))
    (hn : ∀ sk' cc' sc' gs' s, ¬ ls (bb pc tk fe S sk) (4 ^ cb S pc 8) < 4 ^ cb S pc 8 → (∀ q, (q < 8 ∧ iG S pc q = true) ∨ sk' q = sk q) → (∀ q, sk' q < 4) → (∀ q, (4 ≤ q ∧ q < 4 + c ∧ S.testBit (q - 4) = true) ∨ cc' q = cc q) → SO pc tk fe S sk sc (4 ^ cb S pc 8) sc' → post 0 ((nI c), (nI pt), st, (nI w), (na pc), (na tc), (na tk), (na fc), (na fe), (na nt), (na sk'), (na sc'), (na cc'), (na gs'), (na s))) :
    wpX_settleChoice post ((nI c), (nI pt), st, (nI w), (na pc), (na tc), (na tk), (na fc), (na fe), (na nt), (na sk), (na sc), (na cc), (na gs), (na stk)) (nI S) := by
  have hc4 := D.1
  have h6 := cb_6 hc4 hSc D.2.2.2.1
  unfold wpX_settleChoice
  refine x_ls hc4 hS hSc D.2.1 (fun gs' hg => ?_)
  refine nm_r (e' := nI (4 ^ cb S pc 8)) ?_ ⟨4 ^ cb S pc 8 + 1, ?_⟩
  · rw [kj_d2, kj_one (by omega), Nat.mul_comm, Nat.pow_mul]
  · refine x_sc18 (sc := sz S pc sc 8) D hS hSc hk hcc hg hC (fun sc' s h1 h2 => hy sc' gs' s h1 ?_) (fun sk' cc' sc' s h1 h2 h3 h4 h5 => hn sk' cc' sc' gs' s h1 h2 h3 h4 ?_) (4 ^ cb S pc 8) 0 sk cc (sz S pc sc 8) stk (4 ^ cb S pc 8) (by omega) (fun q => Or.inr rfl) hk (fun q => Or.inr rfl) (fun q => ⟨fun hq => ?_, fun _ => rfl⟩) (by rw [if_neg (by omega)])
    · intro q
      refine ⟨(h2 q).1, fun hq => ?_⟩
      rw [(h2 q).2 hq]
      exact if_neg hq
    · intro q
      refine ⟨(h5 q).1, fun hq => ?_⟩
      rw [(h5 q).2 hq]
      exact if_neg hq
    · rw [show sz S pc sc 8 q = 0 from if_pos hq]
      refine ⟨by decide, fun k hk' => ?_⟩
      rw [Nat.zero_testBit]
      exact ⟨fun z => (nomatch z), fun ⟨ch, z, _⟩ => absurd z (Nat.not_lt_zero _)⟩
end
end
section
section
variable {c pt w : Nat} {st : Int32} {pc tc tk fc fe nt sk sc cc gs stk : Nat → Nat}
/-- what the class's derived arrays hold, when the settling stands at s -/
def XI (pc tk fe N : Nat → Nat) (s : Nat × Nat × (Nat → Nat)) (sk sc cc : Nat → Nat) : Prop :=
  (∀ q, sk q < 4) ∧ (∀ q, q < 4 → cc q = nc q) ∧ (∀ j a, s.2.1.testBit j = true → a < pc j → sk (j * 2 + a) = s.2.2 (j * 2 + a)) ∧ (∀ j, s.2.1.testBit j = true → cc (4 + j) = co pc sk j) ∧ (∀ j a, s.2.1.testBit j = true → a < pc j → sc (j * 2 + a) < 16 ∧ ∀ k, k < 4 → ((sc (j * 2 + a)).testBit k = true ↔ Cd pc tk fe (gS N j) s.2.2 (j * 2 + a) k))
theorem XI_keep {N : Nat → Nat} {S W D' : Nat} {s : Nat × Nat × (Nat → Nat)} {sk' sc' cc' : Nat → Nat} (h2 : ∀ i, pc i ≤ 2) (h : XI pc tk fe N s sk sc cc) (hd : ∀ j, s.2.1.testBit j = true → ¬ S.testBit j = true) (i1 : ∀ q, (q < 8 ∧ iG S pc q = true) ∨ sk' q = sk q) (i2 : ∀ q, sk' q < 4) (i3 : ∀ q, (4 ≤ q ∧ q < 4 + c ∧ S.testBit (q - 4) = true) ∨ cc' q = cc q) (i4 : ∀ q, ¬ (q < 8 ∧ iG S pc q = true) → sc' q = sc q) : XI pc tk fe N (D', s.2.1, s.2.2) sk' sc' cc' := by
  obtain ⟨h1, h3, h4, h5, h6⟩ := h
  have ns : ∀ j a, s.2.1.testBit j = true → a < 2 → ¬ (j * 2 + a < 8 ∧ iG S pc (j * 2 + a) = true) := fun j a hj ha z => hd j hj ((iG_ix S pc j a ha).mp z.2).1
  have e1 : ∀ j a, s.2.1.testBit j = true → a < 2 → sk' (j * 2 + a) = sk (j * 2 + a) := fun j a hj ha => (i1 _).resolve_left (ns j a hj ha)
  refine ⟨i2, fun q hq => ?_, fun j a hj ha => ?_, fun j hj => ?_, fun j a hj ha => ?_⟩
  · rw [(i3 q).resolve_left (by omega)]; exact h3 q hq
  · have := h2 j
    rw [e1 j a hj (by omega)]; exact h4 j a hj ha
  · rw [(i3 (4 + j)).resolve_left (fun z => hd j hj (by have := z.2.2; rw [show 4 + j - 4 = j by omega] at this; exact this)), h5 j hj]
    unfold co
    rw [e1 j 1 hj (by omega), show sk' (j * 2) = sk (j * 2) from e1 j 0 hj (by omega)]
  · have := h2 j
    rw [i4 _ (ns j a hj (by omega))]
    exact h6 j a hj ha
theorem Cd_cg {c : Nat} (hc : c ≤ 4) {pc tk en N : Nat → Nat} (hp : ∀ i, pc i ≤ 2) (q : NQ c tk en N) (tq : TQ c pc tk en) {j W : Nat} (hj : j < c) (hW : ∀ x, x < 4 → (sb (N j) (gS N j)).testBit x = true → W.testBit x = true) {g G : Nat → Nat} (hg : ∀ j a, W.testBit j = true → a < pc j → g (j * 2 + a) = G (j * 2 + a)) {a k : Nat} (ha : a < pc j) : Cd pc tk en (gS N j) g (j * 2 + a) k ↔ Cd pc tk en (gS N j) G (j * 2 + a) k := by
  have hpj := hp j
  have hin : iG (gS N j) pc (j * 2 + a) = true := (iG_ix _ _ _ _ (by omega)).mpr ⟨gS_self N q.1 j, ha⟩
  constructor
  · rintro ⟨ch, h1, h2, h3⟩
    exact ⟨ch, h1, (Ft_cg hc hp q tq hj hW hg ch).mp h2, by rw [← h3]; exact tG_in (by omega) hin⟩
  · rintro ⟨ch, h1, h2, h3⟩
    exact ⟨ch, h1, (Ft_cg hc hp q tq hj hW hg ch).mpr h2, by rw [← h3]; exact tG_in (by omega) hin⟩
/-- the least choice, by the class's slots and by the pure ones -/
theorem bb_cg {c : Nat} (hc : c ≤ 4) {pc tk en N : Nat → Nat} (hp : ∀ i, pc i ≤ 2) (q : NQ c tk en N) (tq : TQ c pc tk en) {i W : Nat} (hi : i < c) (hW : ∀ x, x < 4 → (sb (N i) (gS N i)).testBit x = true → W.testBit x = true) {g G : Nat → Nat} (hg : ∀ j a, W.testBit j = true → a < pc j → g (j * 2 + a) = G (j * 2 + a)) : bb pc tk en (gS N i) g = bb pc tk en (gS N i) G := by
  funext ch
  have h1 := bb_iff pc tk en (gS N i) g ch
  have h2 := bb_iff pc tk en (gS N i) G ch
  rw [Ft_cg hc hp q tq hi hW hg ch, ← h2] at h1
  cases e1 : bb pc tk en (gS N i) g ch <;> cases e2 : bb pc tk en (gS N i) G ch <;> simp_all
theorem ls_C {pc tk en : Nat → Nat} {S : Nat} {G : Nat → Nat} (h6 : cb S pc 8 ≤ 6) : (ls (bb pc tk en S G) (4 ^ cb S pc 8) < 4 ^ cb S pc 8 ↔ ls (bb pc tk en S G) 4096 < 4096) ∧ (ls (bb pc tk en S G) 4096 < 4096 → ls (bb pc tk en S G) (4 ^ cb S pc 8) = ls (bb pc tk en S G) 4096) := by
  have hC6 : 4 ^ cb S pc 8 ≤ 4096 := Nat.pow_le_pow_right (n := 4) (j := 6) (by omega) h6
  obtain ⟨a1, a2, a3⟩ := ls_sp (bb pc tk en S G) 4096
  obtain ⟨b1, b2, b3⟩ := ls_sp (bb pc tk en S G) (4 ^ cb S pc 8)
  have k1 : ls (bb pc tk en S G) 4096 < 4096 → ls (bb pc tk en S G) (4 ^ cb S pc 8) = ls (bb pc tk en S G) 4096 := fun h => ls_y _ ((bb_iff _ _ _ _ _ _).mp (a2 h)).1 (a2 h) a3
  refine ⟨⟨fun h => ?_, fun h => ?_⟩, k1⟩
  · rw [ls_y (n := 4096) _ (by omega) (b2 h) b3]; omega
  · rw [k1 h]; exact ((bb_iff _ _ _ _ _ _).mp (a2 h)).1
theorem x_s28s {post : SX → Prop} {J : Int32 → Int32 → Int32 → Int32 → Int32 → Int32 → (Nat → Int32) → (Nat → Int32) → (Nat → Int32) → (Nat → Int32) → (Nat → Int32) → (Nat → Int32) → (Nat → Int32) → (Nat → Int32) → (Nat → Int32) → (Nat → Int32) → (Nat → Int32) → Prop} {r : Int32} {i n : Nat} {N : Nat → Nat} {s : Nat × Nat × (Nat → Nat)} (D : DQ c pc tc tk fe) (q : NQ c tk fe N) (hi : i < c) (hn : ∀ i, i < c → nt i = N i) (P : PI c N s) (X : XI pc tk fe N s sk sc cc)
    (K : ∀ sk' sc' cc' gs' stk', XI pc tk fe N (pS N pc tk fe i s) sk' sc' cc' → wX_settle_28 post J r n (nI (pS N pc tk fe i s).1) (nI (i + 1)) (nI c) (nI pt) st (nI ((pS N pc tk fe i s).2.1)) (na pc) (na tc) (na tk) (na fc) (na fe) (na nt) (na sk') (na sc') (na cc') (na gs') (na stk')) :
    wX_settle_28 post J r (n + 1) (nI s.1) (nI i) (nI c) (nI pt) st (nI s.2.1) (na pc) (na tc) (na tk) (na fc) (na fe) (na nt) (na sk) (na sc) (na cc) (na gs) (na stk) := by
  have hc4 := D.1
  obtain ⟨p1, p2, p3, p4, p5, p6, p7⟩ := P
  obtain ⟨x1, x2, x3, x4, x5⟩ := X
  have hgS := gS_lt N i (by omega)
  have hSc : ∀ j, (gS N i).testBit j = true → j < c := fun j hj => gS_c q hi hj
  obtain ⟨o1, o2⟩ := kj_sub _ (q.1 i) _ hgS
  obtain ⟨d1, d2⟩ := kj_sub _ o2 _ p1
  obtain ⟨w1, w2⟩ := kj_sub _ o2 _ p2
  have o3 : na nt (nI i).toNatClampNeg &&& (nI (gS N i) ^^^ (-1)) = nI (sb (N i) (gS N i)) := by rw [na_i i, hn i hi]; exact o1
  refine br_f (nI_ge hi (by omega)) (x_mw hc4 hi q hn ⟨pk_in i 4 (by omega), nm_r o3 (x_ho (by omega) (by omega) (fun hD => br_f (by decide) (nm_r (nI_1 _) ?_)) (fun hD => br_t rfl ?_))⟩)
  · have e : pS N pc tk fe i s = s := if_pos hD
    rw [e] at K
    exact K _ _ _ _ _ ⟨x1, x2, x3, x4, x5⟩
  · rw [d1, w1]
    refine pk_eq (sb (sb (N i) (gS N i)) s.1) 0 (fun hd0 => pk_eq (sb (sb (N i) (gS N i)) s.2.1) 0 (fun hw0 => ?_) (fun hw0 => nm_r (kj_or _ _) (nm_r (nI_1 _) ?_))) (fun hd0 => nm_r (nI_1 _) ?_)
    · have hW := (sb_0 o2).mp hw0
      have disj : ∀ j, s.2.1.testBit j = true → ¬ (gS N i).testBit j = true := fun j hj hS => hD (p5 j i (p4 j hj) (gS_sym q.1 hS))
      have h6 := cb_6 hc4 hSc D.2.2.2.1
      have ebb := bb_cg hc4 D.2.1 q D.2.2.2.2.2.2 hi hW x3
      have hls := ls_C (pc := pc) (tk := tk) (en := fe) (S := gS N i) (G := s.2.2) h6
      refine x_sch D hgS hSc x1 x2 (fun m k hm hk h7 => ?_) (fun sc' gs' s' h1 h2 => br_f (by decide) (nm_r (kj_or _ _) (nm_r (kj_or _ _) (nm_r (nI_1 _) ?_)))) (fun sk' cc' sc' gs' s' h1 i1 i2 i3 i4 => br_t rfl (nm_r (kj_or _ _) (nm_r (nI_1 _) ?_)))
      · by_cases z : (gS N i).testBit (tp tk m k - 7) = true
        · exact Or.inl z
        · refine Or.inr ⟨z, x4 _ (hW _ ?_ ?_)⟩
          · have := (D.2.2.2.2.2.2 m k (hSc m hm) hk).2.2 h7; omega
          · have hj : (N m).testBit (tp tk m k - 7) = true := q.2.2.2 m k (hSc m hm) hk h7
            have hij : (N i).testBit (tp tk m k - 7) = true := by
              rcases (gS_bit N q.1 i m).mp hm with y | y
              · rw [← y]; exact hj
              · exact q.2.2.1 _ _ _ y.1 hj
            rw [sb_bit (q.1 i), hij]
            simp [z]
      · rw [ebb] at h1 ⊢
        have hl := hls.1.mp h1
        rw [hls.2 hl]
        have e : pS N pc tk fe i s = (s.1 ||| gS N i, s.2.1 ||| gS N i, tG (gS N i) pc (ls (bb pc tk fe (gS N i) s.2.2) 4096) s.2.2) := by
          unfold pS
          rw [if_neg hD, if_neg (fun z => z hd0), if_neg (fun z => z hw0), if_pos hl]
        rw [e] at K
        refine K _ _ _ _ _ ?_
        generalize ls (bb pc tk fe (gS N i) s.2.2) 4096 = l
        have hp2 := D.2.1
        have oldG : ∀ j a, s.2.1.testBit j = true → a < pc j → s.2.2 (j * 2 + a) = tG (gS N i) pc l s.2.2 (j * 2 + a) := by
          intro j a hj ha
          have := hp2 j
          rw [tG_out (fun z => disj j hj ((iG_ix _ _ _ _ (by omega)).mp z).1)]
        refine ⟨tG_lt x1, fun y hy => ?_, fun j a hj ha => ?_, fun j hj => ?_, fun j a hj ha => ?_⟩
        · rcases cT_o (S := gS N i) (c := c) (pc := pc) (g := tG (gS N i) pc l sk) (cc := cc) y with z | z
          · omega
          · rw [z]; exact x2 y hy
        · dsimp only at hj ⊢
          have := hp2 j
          rw [or_bit] at hj
          by_cases z : (gS N i).testBit j = true
          · have := hSc j z
            exact tG_in (by omega) ((iG_ix _ _ _ _ (by omega)).mpr ⟨z, ha⟩)
          · have hj := hj.resolve_right z
            rw [tG_out (fun y => z ((iG_ix _ _ _ _ (by omega)).mp y).1), tG_out (fun y => z ((iG_ix _ _ _ _ (by omega)).mp y).1)]
            exact x3 j a hj ha
        · dsimp only at hj
          rw [or_bit] at hj
          unfold cT
          by_cases z : (gS N i).testBit j = true
          · have := hSc j z
            rw [if_pos ⟨by omega, by omega, by rw [show 4 + j - 4 = j by omega]; exact z⟩, show 4 + j - 4 = j by omega]
          · have hj := hj.resolve_right z
            rw [if_neg (fun y => z (by have := y.2.2; rw [show 4 + j - 4 = j by omega] at this; exact this)), x4 j hj, co_o (c := c) hp2 z]
        · dsimp only at hj ⊢
          have hpj := hp2 j
          rw [or_bit] at hj
          by_cases z : (gS N i).testBit j = true
          · have hjc := hSc j z
            have hin : iG (gS N i) pc (j * 2 + a) = true := (iG_ix _ _ _ _ (by omega)).mpr ⟨z, ha⟩
            obtain ⟨b1, b2⟩ := (h2 (j * 2 + a)).1 ⟨by omega, hin⟩
            refine ⟨b1, fun k hk => ?_⟩
            rw [b2 k hk, gS_eq hc4 q hi z]
            have et : ∀ ch, tG (gS N i) pc ch (tG (gS N i) pc l s.2.2) = tG (gS N i) pc ch s.2.2 := fun ch => tG_tG tG_o
            constructor
            · rintro ⟨ch, y1, y2, y3⟩
              refine ⟨ch, y1, ?_, ?_⟩
              · rw [et]; exact (Ft_cg hc4 hp2 q D.2.2.2.2.2.2 hi hW x3 ch).mp y2
              · rw [et, ← y3]; exact tG_in (by omega) hin
            · rintro ⟨ch, y1, y2, y3⟩
              rw [et] at y2 y3
              refine ⟨ch, y1, (Ft_cg hc4 hp2 q D.2.2.2.2.2.2 hi hW x3 ch).mpr y2, ?_⟩
              rw [← y3]; exact tG_in (by omega) hin
          · have hj := hj.resolve_right z
            have hnin : ¬ (j * 2 + a < 8 ∧ iG (gS N i) pc (j * 2 + a) = true) := fun y => z ((iG_ix _ _ _ _ (by omega)).mp y.2).1
            rw [(h2 (j * 2 + a)).2 hnin]
            obtain ⟨b1, b2⟩ := x5 j a hj ha
            refine ⟨b1, fun k hk => ?_⟩
            rw [b2 k hk]
            refine Cd_cg hc4 hp2 q D.2.2.2.2.2.2 (p7 j (p4 j hj)) (W := s.2.1) (fun x hx hb => ?_) oldG ha
            rw [sb_bit (q.1 j), Bool.and_eq_true] at hb
            exact p6 j x hj hb.1
      · have hl : ¬ ls (bb pc tk fe (gS N i) s.2.2) 4096 < 4096 := fun z => h1 (by rw [ebb]; exact hls.1.mpr z)
        have e : pS N pc tk fe i s = (s.1 ||| gS N i, s.2.1, s.2.2) := by
          unfold pS
          rw [if_neg hD, if_neg (fun z => z hd0), if_neg (fun z => z hw0), if_neg hl]
        rw [e] at K
        exact K _ _ _ _ _ (XI_keep (c := c) (W := 0) D.2.1 ⟨x1, x2, x3, x4, x5⟩ disj i1 i2 i3 (fun y hy => (i4 y).2 hy))
    · have e : pS N pc tk fe i s = (s.1 ||| gS N i, s.2.1, s.2.2) := by
        unfold pS
        rw [if_neg hD, if_neg (fun z => z hd0), if_pos hw0]
      rw [e] at K
      exact K _ _ _ _ _ ⟨x1, x2, x3, x4, x5⟩
    · have e : pS N pc tk fe i s = s := by
        unfold pS
        rw [if_neg hD, if_pos hd0]
      rw [e] at K
      exact K _ _ _ _ _ ⟨x1, x2, x3, x4, x5⟩
theorem x_s28 {post : SX → Prop} {J : Int32 → Int32 → Int32 → Int32 → Int32 → Int32 → (Nat → Int32) → (Nat → Int32) → (Nat → Int32) → (Nat → Int32) → (Nat → Int32) → (Nat → Int32) → (Nat → Int32) → (Nat → Int32) → (Nat → Int32) → (Nat → Int32) → (Nat → Int32) → Prop} {r : Nat} {N : Nat → Nat} {s : Nat × Nat × (Nat → Nat)} (D : DQ c pc tc tk fe) (q : NQ c tk fe N) (hn : ∀ i, i < c → nt i = N i) (P : PI c N s)
    (HJ : ∀ sk' sc' cc' gs' stk', XI pc tk fe N (pI N pc tk fe s c) sk' sc' cc' → J (nI (pI N pc tk fe s c).1) (nI (r + 1)) (nI c) (nI pt) st (nI ((pI N pc tk fe s c).2.1)) (na pc) (na tc) (na tk) (na fc) (na fe) (na nt) (na sk') (na sc') (na cc') (na gs') (na stk')) :
    ∀ m i sk sc cc gs stk, i + m = c → XI pc tk fe N (pI N pc tk fe s i) sk sc cc → wX_settle_28 post J (nI r) (m + 1) (nI (pI N pc tk fe s i).1) (nI i) (nI c) (nI pt) st (nI ((pI N pc tk fe s i).2.1)) (na pc) (na tc) (na tk) (na fc) (na fe) (na nt) (na sk) (na sc) (na cc) (na gs) (na stk) := by
  have hc4 := D.1
  intro m
  induction m with
  | zero =>
    intro i sk sc cc gs stk hi hx
    have hi : i = c := by omega
    subst hi
    exact br_t (nI_le (Nat.le_refl _) (by omega)) (nm_r (nI_1 _) (HJ _ _ _ _ _ hx))
  | succ m ih =>
    intro i sk sc cc gs stk hi hx
    exact x_s28s D q (by omega) hn (PI_I hc4 q P i (by omega)) hx (fun sk' sc' cc' gs' stk' hx' => ih (i + 1) sk' sc' cc' gs' stk' (by omega) hx')
theorem x_s21 {post : SX → Prop} {N : Nat → Nat} (D : DQ c pc tc tk fe) (q : NQ c tk fe N) (hn : ∀ i, i < c → nt i = N i)
    (hp : ∀ sk' sc' cc' gs' stk', XI pc tk fe N (pR c N pc tk fe 4) sk' sc' cc' → post ((nI c), (nI pt), 0, (nI ((pR c N pc tk fe 4).2.1)), (na pc), (na tc), (na tk), (na fc), (na fe), (na nt), (na sk'), (na sc'), (na cc'), (na gs'), (na stk'))) :
    ∀ m r sk sc cc gs stk, r + m = 4 → XI pc tk fe N (pR c N pc tk fe r) sk sc cc → wX_settle_21 post (m + 1) (nI (pR c N pc tk fe r).1) (nI r) (nI c) (nI pt) st (nI ((pR c N pc tk fe r).2.1)) (na pc) (na tc) (na tk) (na fc) (na fe) (na nt) (na sk) (na sc) (na cc) (na gs) (na stk) := by
  have hc4 := D.1
  intro m
  induction m with
  | zero =>
    intro r sk sc cc gs stk hr hx
    have hr : r = 4 := by omega
    subst hr
    exact br_t (nI_le (Nat.le_refl _) (by omega)) (hp _ _ _ _ _ hx)
  | succ m ih =>
    intro r sk sc cc gs stk hr hx
    exact br_f (nI_ge (b := 4) (by omega) (by omega)) ⟨c + 1, x_s28 D q hn (PI_R hc4 q r) (fun sk' sc' cc' gs' stk' hx' => ih (r + 1) sk' sc' cc' gs' stk' (by omega) hx') c 0 sk sc cc gs stk (by omega) hx⟩
/-- what a settled class holds -/
def XD (c : Nat) (pc tk fe : Nat → Nat) (w : Nat) (nt sk sc cc : Nat → Nat) : Prop := (∀ i, i < c → nt i = NN c tk fe i) ∧ w = (pR c (NN c tk fe) pc tk fe 4).2.1 ∧ XI pc tk fe (NN c tk fe) (pR c (NN c tk fe) pc tk fe 4) sk sc cc
theorem x_st {post : SX → Prop} (D : DQ c pc tc tk fe) (hk : ∀ q, sk q < 4) (hcc : ∀ q, q < 4 → cc q = nc q) (hs : st = 1 ∨ st = 0 ∧ XD c pc tk fe w nt sk sc cc) (hp : ∀ w' nt' sk' sc' cc' gs' stk', XD c pc tk fe w' nt' sk' sc' cc' → post ((nI c), (nI pt), 0, (nI w'), (na pc), (na tc), (na tk), (na fc), (na fe), (na nt'), (na sk'), (na sc'), (na cc'), (na gs'), (na stk'))) : wpX_settle post ((nI c), (nI pt), st, (nI w), (na pc), (na tc), (na tk), (na fc), (na fe), (na nt), (na sk), (na sc), (na cc), (na gs), (na stk)) := by
  have hc4 := D.1
  rcases hs with hs | ⟨hs, hx⟩
  · subst hs
    have q : NQ c tk fe (NN c tk fe) := NN_q D.2.2.2.2.2.2
    refine br_f (by decide) (x_fn hc4 D.2.2.1 (fun i hi => DQ_e D hi) (fun nt' hnt => ⟨5, x_s21 D q hnt (fun sk' sc' cc' gs' stk' hx => hp _ nt' sk' sc' cc' gs' stk' ⟨hnt, rfl, hx⟩) 4 0 sk sc cc gs stk (by omega) ⟨hk, hcc, ?_, ?_, ?_⟩⟩))
    · intro j a h; rw [show (pR c (NN c tk fe) pc tk fe 0).2.1 = 0 from rfl, Nat.zero_testBit] at h; cases h
    · intro j h; rw [show (pR c (NN c tk fe) pc tk fe 0).2.1 = 0 from rfl, Nat.zero_testBit] at h; cases h
    · intro j a h; rw [show (pR c (NN c tk fe) pc tk fe 0).2.1 = 0 from rfl, Nat.zero_testBit] at h; cases h
  · subst hs
    exact br_t rfl (hp w nt sk sc cc gs stk hx)
end
end
section
/-! the reference -/
def cY (f : Nat) : Int32 := if f = 0 then -1 else if f = 1 then 0 else if f < 8 then nI (f - 3) else nI (5 + 4 * (f % 4) + (f - 16) / 4)
def ny (s : Nat → Nat) : Nat → Int32 := fun q => cY (s q)
theorem ny_upd {f : Nat → Nat} {x y : Int32} (k v : Nat) (hx : x = nI k := by rfl) (hy : y = cY v := by rfl) (hk : k < 2 ^ 31 := by omega) : upd (ny f) x.toNatClampNeg y = ny (un f k v) := by
  subst hx hy
  rw [nI_clamp hk]
  funext j
  unfold upd ny un
  by_cases h : j = k
  · rw [if_pos h, if_pos h]
  · rw [if_neg h, if_neg h]
theorem ny_i {f : Nat → Nat} (i : Nat) (h : i < 2 ^ 31 := by omega) : ny f (nI i).toNatClampNeg = cY (f i) := by
  rw [nI_clamp h]; rfl
theorem bj_0 {m j : Nat} {A B : Prop} (hm : m < 2 ^ 31) (hj : j < 32) (f : m.testBit j = true → B) (g : ¬ m.testBit j = true → A) : (((nI m >>> (nI j &&& 31)) &&& 1) = 0 → A) ∧ (¬ ((nI m >>> (nI j &&& 31)) &&& 1) = 0 → B) := bi_0 hm hj f g
theorem bj_1 {m j : Nat} {A B : Prop} (hm : m < 2 ^ 31) (hj : j < 32) (f : m.testBit j = true → A) (g : ¬ m.testBit j = true → B) : (((nI m >>> (nI j &&& 31)) &&& 1) = 1 → A) ∧ (¬ ((nI m >>> (nI j &&& 31)) &&& 1) = 1 → B) := bi_1 hm hj f g
section
variable {c : Nat} {pc tc tk yn dn gd nb ys : Nat → Nat}
theorem y_dy {post : Int32 → Prop} {i : Nat} (hc : c ≤ 4) (hi : i < c) (hp : post 1) : wpY_declared post ((nI c), (na pc), (na tc), (na tk), (na yn), (na dn), (na gd), (na nb), (ny ys)) (nI i) :=
  br_f (nI_pos (by omega)) (br_f (nI_ge hi (by omega)) hp)
theorem y_dn {post : Int32 → Prop} {v : Int32} (h : v < 0 ∨ nI c ≤ v) (hp : post 0) : wpY_declared post ((nI c), (na pc), (na tc), (na tk), (na yn), (na dn), (na gd), (na nb), (ny ys)) v := by
  by_cases h0 : v < 0
  · exact br_t h0 hp
  · exact br_f h0 (br_t (h.resolve_left h0) hp)
/-! declare: the sum -/
theorem sP_le (pc : Nat → Nat) (h2 : ∀ i, pc i ≤ 2) (k : Nat) : sP pc k ≤ 2 * k := by
  induction k with
  | zero => exact Nat.le_refl 0
  | succ k ih => have := h2 k; show sP pc k + pc k ≤ _; omega
theorem y_dc15 {post : Int32 → SY → Prop} {p : Nat} (hc : c ≤ 4) (h2 : ∀ i, pc i ≤ 2) (hp2 : p ≤ 2) (hf : (4 ≤ c ∨ 6 < p + sP pc c) → post (-2) ((nI c), (na pc), (na tc), (na tk), (na yn), (na dn), (na gd), (na nb), (ny ys))) (hy : c < 4 → p + sP pc c ≤ 6 → post (nI c) ((nI (c + 1)), (na (un pc c p)), (na (un tc c 0)), (na tk), (na yn), (na dn), (na gd), (na nb), (ny ys))) : ∀ m k, k + m = c → wY_declare_15 post (nI p) (nI c) (na pc) (na tc) (na tk) (na yn) (na dn) (na gd) (na nb) (ny ys) (m + 1) (nI (p + sP pc k)) (nI k) := by
  intro m
  induction m with
  | zero =>
    intro k hk
    have hk : k = c := by omega
    subst hk
    have := sP_le pc h2 k
    refine br_t (nI_le (Nat.le_refl _) (by omega)) (pk_le 4 k (fun h => hf (Or.inl h)) (fun h => pk_le (p + sP pc k) 6 (fun h6 => ⟨pk_in k 4 h, nm_r (na_upd k p) ⟨pk_in k 4 h, nm_r (na_upd k 0) (nm_r (nI_1 _) ?_)⟩⟩) (fun h6 => hf (Or.inr h6))))
    rw [nI_pred]
    exact hy h h6
  | succ m ih =>
    intro k hk
    have := sP_le pc h2 k
    refine br_f (nI_ge (by omega) (by omega)) ⟨pk_in k 4 (by omega), ?_⟩
    rw [na_i k, nI_add]
    exact nm_r (congrArg nI (Nat.add_assoc p (sP pc k) (pc k))) (nm_r (nI_1 _) (ih (k + 1) (by omega)))
/-! read -/
theorem y_rd53 {post : Int32 → Prop} {J : Int32 → Int32 → Int32 → Int32 → Prop} {x1 x2 : Int32} {t : Nat → Nat} {k : Nat} (hk : k < 20) {z : Int32} (hz : t k = 0 ∧ z = nI (rO t k) + 1 ∨ ¬ t k = 0 ∧ z = nI (rO t k) - 1) (H : J (nI (rO t (k + 1))) (nI (rF t (k + 1))) (nI (rE t (k + 1))) (nI (k + 1))) : wY_read_53 post J x1 x2 (nI (rF t k)) (nI (rE t k)) (nI k) z (nI c) (na pc) (na tc) (na tk) (na yn) (na dn) (na gd) (na nb) (ny ys) := by
  have h2 := rO_pos t k
  have h3 := rO_le t k
  unfold wY_read_53
  rcases hz with ⟨h0, rfl⟩ | ⟨h0, rfl⟩
  · rw [nI_1]
    refine br_f (nI_ne0 (by omega) (by omega)) (nm_r (nI_1 _) ?_)
    rw [show rO t (k + 1) = rO t k + 1 from if_pos h0, show rF t (k + 1) = rF t k from if_pos h0, show rE t (k + 1) = rE t k from if_pos h0] at H
    exact H
  · obtain ⟨d, hd⟩ : ∃ d, rO t k = d + 1 := ⟨rO t k - 1, by omega⟩
    rw [hd, nI_pred]
    by_cases hd0 : d = 0
    · subst hd0
      rw [show rO t (k + 1) = 1 from (if_neg h0).trans (if_pos hd), show rF t (k + 1) = rF t k + 1 from (if_neg h0).trans (if_pos hd), show rE t (k + 1) = k + 1 from (if_neg h0).trans (if_pos hd)] at H
      exact br_t rfl (nm_r (nI_1 _) (nm_r (nI_1 _) (nm_r (nI_1 _) H)))
    · have hd1 : ¬ rO t k = 1 := by omega
      rw [show rO t (k + 1) = rO t k - 1 from (if_neg h0).trans (if_neg hd1), show rF t (k + 1) = rF t k from (if_neg h0).trans (if_neg hd1), show rE t (k + 1) = rE t k from (if_neg h0).trans (if_neg hd1), hd] at H
      exact br_f (nI_ne0 (by omega) (by omega)) (nm_r (nI_1 _) H)
theorem y_rd11 {post : Int32 → Prop} {i : Nat} {x2 : Int32} (hi : i < 4) (ht : ∀ q, tk q ≤ 10) (hs : tc i ≤ 20) (H : wY_read_75 post x2 (nI (rF (tp tk i) (tc i))) (nI (rE (tp tk i) (tc i))) (nI c) (na pc) (na tc) (na tk) (na yn) (na dn) (na gd) (na nb) (ny ys)) : ∀ m k, k + m = tc i → wY_read_11 post (nI i) x2 (nI c) (na pc) (na tc) (na tk) (na yn) (na dn) (na gd) (na nb) (ny ys) (m + 1) (nI (rO (tp tk i) k)) (nI (rF (tp tk i) k)) (nI (rE (tp tk i) k)) (nI k) := by
  intro m
  induction m with
  | zero =>
    intro k hk
    have hk : k = tc i := by omega
    subst hk
    exact ⟨pk_in i 4 hi, br_t (by rw [na_i i]; exact nI_le (Nat.le_refl _) (by omega)) H⟩
  | succ m ih =>
    intro k hk
    have h10 := ht (i * 20 + k)
    have e := kj_ix20' i k
    refine ⟨pk_in i 4 hi, br_f (by rw [na_i i]; exact nI_ge (by omega) (by omega)) (br_f (nI_ge (b := 20) (by omega) (by omega)) ⟨pk_in (i * 20 + k) 80 (by omega) e, pk_eq (tk (i * 20 + k)) 0 (fun h0 => ?_) (fun h0 => ?_) (na_at _ e)⟩)⟩
    · exact y_rd53 (by omega) (Or.inl ⟨h0, rfl⟩) (ih (k + 1) (by omega))
    · exact y_rd53 (by omega) (Or.inr ⟨h0, rfl⟩) (ih (k + 1) (by omega))
theorem y_rd0 {post : Int32 → Prop} {i : Nat} (hi : i < 4) (ht : ∀ q, tk q ≤ 10) (hs : tc i ≤ 20) (hp : post (nI (rF (tp tk i) (tc i)))) : wpY_read post ((nI c), (na pc), (na tc), (na tk), (na yn), (na dn), (na gd), (na nb), (ny ys)) (nI i) 0 :=
  ⟨tc i + 1, y_rd11 hi ht hs (br_t rfl hp) (tc i) 0 (by omega)⟩
theorem y_rd1 {post : Int32 → Prop} {i : Nat} (hi : i < 4) (ht : ∀ q, tk q ≤ 10) (hs : tc i ≤ 20) (hp : post (nI (rE (tp tk i) (tc i)))) : wpY_read post ((nI c), (na pc), (na tc), (na tk), (na yn), (na dn), (na gd), (na nb), (ny ys)) (nI i) 1 :=
  ⟨tc i + 1, y_rd11 hi ht hs (br_f (by decide) hp) (tc i) 0 (by omega)⟩
theorem y_fl {post : Int32 → Prop} {i : Nat} (hc : c ≤ 4) (hi : i < c) (ht : ∀ q, tk q ≤ 10) (hs : tc i ≤ 20) (hp : post (nI (rF (tp tk i) (tc i)))) : wpY_fields post ((nI c), (na pc), (na tc), (na tk), (na yn), (na dn), (na gd), (na nb), (ny ys)) (nI i) := by
  unfold wpY_fields
  exact y_dy hc hi (br_f (by decide) (y_rd0 (by omega) ht hs hp))
/-! findNeeds -/
theorem y_fn35 {post : SY → Prop} {J : Int32 → (Nat → Int32) → (Nat → Int32) → (Nat → Int32) → (Nat → Int32) → (Nat → Int32) → (Nat → Int32) → (Nat → Int32) → (Nat → Int32) → Prop} {i e : Nat} (hi : i < 4) (he : e ≤ 20) (ht : ∀ q, tk q ≤ 10) (HJ : J (nI (i + 1)) (na pc) (na tc) (na tk) (na (un yn i (nM (tp tk i) e))) (na dn) (na gd) (na nb) (ny ys)) : ∀ m k, k + m = e → wY_findNeeds_35 post J (nI i) (nI e) (nI c) (m + 1) (nI k) (na pc) (na tc) (na tk) (na (un yn i (nM (tp tk i) k))) (na dn) (na gd) (na nb) (ny ys) := by
  intro m
  induction m with
  | zero =>
    intro k hk
    have hk : k = e := by omega
    subst hk
    exact br_t (nI_le (Nat.le_refl _) (by omega)) (nm_r (nI_1 _) HJ)
  | succ m ih =>
    intro k hk
    have h10 := ht (i * 20 + k)
    have ex := kj_ix20' i k
    have := ih (k + 1) (by omega)
    have uu : ∀ v v', un (un yn i v) i v' = un yn i v' := by
      intro v v'
      funext x
      unfold un
      split <;> rfl
    refine br_f (nI_ge (by omega) (by omega)) (br_f (nI_ge (b := 20) (by omega) (by omega)) ⟨pk_in (i * 20 + k) 80 (by omega) ex, nm_r (na_at _ ex) (pk_lt (tk (i * 20 + k)) 7 (fun h7 => ⟨pk_in i 4 hi, pk_in i 4 hi, nm_r (na_upd i (nM (tp tk i) k) rfl ?_) (nm_r (nI_1 _) ?_)⟩) (fun h7 => ⟨pk_in i 4 hi, pk_in i 4 hi, nm_r (na_upd i (nM (tp tk i) k ||| 2 ^ (tk (i * 20 + k) - 7)) rfl ?_) (nm_r (nI_1 _) ?_)⟩))⟩)
    · rw [na_i i, un_s]
    · rw [uu]
      rw [show nM (tp tk i) (k + 1) = nM (tp tk i) k from if_pos h7] at this
      exact this
    · rw [na_i i, un_s, ((kj_t7 _ (by omega)).1 h7).2.2, kj_one (by omega), kj_or]
    · rw [uu]
      rw [show nM (tp tk i) (k + 1) = nM (tp tk i) k ||| 2 ^ (tk (i * 20 + k) - 7) from if_neg (show ¬ tp tk i k < 7 by show ¬ tk (i * 20 + k) < 7; omega)] at this
      exact this
theorem yP_lt4 (m : Nat) (hm : m ≤ 16) (f : Nat → Nat) (hf : ∀ i, i < 4 → f i < 16) (i : Nat) (hi : i < 4) : yP m f i < 16 := by
  induction m generalizing i with
  | zero => exact hf i hi
  | succ m ih =>
    unfold yP
    split
    · by_cases e : i = m / 4
      · subst e; rw [un_s]; exact m_or (ih (by omega) _ hi) (ih (by omega) _ (by omega))
      · rw [un_n e]; exact ih (by omega) _ hi
    · exact ih (by omega) _ hi
theorem yP_cg (m : Nat) (hm : m ≤ 16) (f g : Nat → Nat) (h : ∀ i, i < 4 → f i = g i) (i : Nat) (hi : i < 4) : yP m f i = yP m g i := by
  induction m generalizing i with
  | zero => exact h i hi
  | succ m ih =>
    have e1 := ih (by omega) (m / 4) (by omega)
    have e2 := ih (by omega) (m % 4) (by omega)
    unfold yP
    rw [e1, e2]
    split
    · unfold un
      split
      · rfl
      · exact ih (by omega) i hi
    · exact ih (by omega) i hi
theorem y_fn116 {post : SY → Prop} {J : Int32 → (Nat → Int32) → (Nat → Int32) → (Nat → Int32) → (Nat → Int32) → (Nat → Int32) → (Nat → Int32) → (Nat → Int32) → (Nat → Int32) → Prop} {r : Nat} (hf : ∀ i, i < 4 → yn i < 16) (HJ : J (nI (r + 1)) (na pc) (na tc) (na tk) (na (yP 16 yn)) (na dn) (na gd) (na nb) (ny ys)) : ∀ d m, m + d = 16 → wY_findNeeds_116 post J (nI r) (nI c) (d + 1) (nI m) (na pc) (na tc) (na tk) (na (yP m yn)) (na dn) (na gd) (na nb) (ny ys) := by
  intro d
  induction d with
  | zero =>
    intro m hm
    have hm : m = 16 := by omega
    subst hm
    exact br_t (nI_le (Nat.le_refl _) (by omega)) (nm_r (nI_1 _) HJ)
  | succ d ih =>
    intro m hm
    have := ih (m + 1) (by omega)
    have b := yP_lt4 m (by omega) yn hf (m / 4) (by omega)
    refine br_f (nI_ge (b := 16) (by omega) (by omega)) ⟨by decide, nm_r (pk_div (a := m) (d := 4) (by omega) (by omega) (by omega)) ⟨by decide, nm_r (pk_rem (a := m) (d := 4) (by omega) (by omega) (by omega)) ⟨pk_in (m / 4) 4 (by omega), ?_⟩⟩⟩
    rw [na_i (m / 4), na_i (m % 4)]
    refine bj_1 (by omega) (by omega) (fun h => ⟨pk_in (m / 4) 4 (by omega), pk_in (m % 4) 4 (by omega), pk_in (m / 4) 4 (by omega), nm_r (na_upd (m / 4) _ rfl (kj_or _ _)) (nm_r (nI_1 _) ?_)⟩) (fun h => ⟨pk_in (m / 4) 4 (by omega), pk_in (m / 4) 4 (by omega), nm_r (na_upd (m / 4) _) (nm_r (nI_1 _) ?_)⟩)
    · rw [show yP (m + 1) yn = un (yP m yn) (m / 4) ((yP m yn) (m / 4) ||| (yP m yn) (m % 4)) from if_pos h] at this
      exact this
    · rw [un_self]
      rw [show yP (m + 1) yn = yP m yn from if_neg h] at this
      exact this
theorem y_fn109 {post : SY → Prop} (hf : ∀ i, i < 4 → yn i < 16) (hp : post ((nI c), (na pc), (na tc), (na tk), (na (yO 4 yn)), (na dn), (na gd), (na nb), (ny ys))) : ∀ d r, r + d = 4 → wY_findNeeds_109 post (nI c) (d + 1) (nI r) (na pc) (na tc) (na tk) (na (yO r yn)) (na dn) (na gd) (na nb) (ny ys) := by
  have hw : ∀ r i, i < 4 → yO r yn i < 16 := by
    intro r
    induction r with
    | zero => exact hf
    | succ r ih => exact fun i hi => yP_lt4 16 (by omega) _ ih i hi
  intro d
  induction d with
  | zero =>
    intro r hr
    have hr : r = 4 := by omega
    subst hr
    exact br_t (nI_le (Nat.le_refl _) (by omega)) hp
  | succ d ih =>
    intro r hr
    exact br_f (nI_ge (b := 4) (by omega) (by omega)) ⟨17, y_fn116 (yn := yO r yn) (hw r) (ih (r + 1) (by omega)) 16 0 (by omega)⟩
theorem yO_cg (r : Nat) (f g : Nat → Nat) (h : ∀ i, i < 4 → f i = g i) (i : Nat) (hi : i < 4) : yO r f i = yO r g i := by
  induction r generalizing i with
  | zero => exact h i hi
  | succ r ih => exact yP_cg 16 (by omega) _ _ ih i hi
theorem y_fn2 {post : SY → Prop} {fe : Nat → Nat} (D : DQ c pc tc tk fe) (hp : ∀ yn', (∀ i, i < 4 → yn' i = NN c tk fe i) → post ((nI c), (na pc), (na tc), (na tk), (na yn'), (na dn), (na gd), (na nb), (ny ys))) : ∀ d i f, i + d = 4 → (∀ x, x < i → f x = N0 c tk fe x) → wY_findNeeds_2 post (nI c) (d + 1) (nI i) (na pc) (na tc) (na tk) (na f) (na dn) (na gd) (na nb) (ny ys) := by
  have hc4 := D.1
  intro d
  induction d with
  | zero =>
    intro i f hi hf
    have hi : i = 4 := by omega
    subst hi
    refine br_t (nI_le (Nat.le_refl _) (by omega)) ⟨5, y_fn109 (yn := f) (fun i hi => ?_) (hp _ (fun i hi => ?_)) 4 0 (by omega)⟩
    · rw [hf i hi]; exact N0_lt D.2.2.2.2.2.2 i
    · rw [yO_cg 4 f (N0 c tk fe) hf i hi, NN_y hc4 D.2.2.2.2.2.2]
  | succ d ih =>
    intro i f hi hf
    have fin : ∀ v, v = N0 c tk fe i → wY_findNeeds_2 post (nI c) (d + 1) (nI (i + 1)) (na pc) (na tc) (na tk) (na (un f i v)) (na dn) (na gd) (na nb) (ny ys) := by
      intro v hv
      refine ih (i + 1) _ (by omega) (fun x hx => ?_)
      by_cases e : x = i
      · rw [e, un_s, hv]
      · rw [un_n e]; exact hf x (by omega)
    refine br_f (nI_ge (b := 4) (by omega) (by omega)) ⟨pk_in i 4 (by omega), nm_r (na_upd i 0) (pk_le c i (fun h => ?_) (fun h => ?_))⟩
    · refine ⟨1, y_fn35 (e := 0) (by omega) (by omega) D.2.2.1 (fin _ ?_) 0 0 (by omega)⟩
      unfold N0
      rw [if_neg (by omega)]
      rfl
    · have e := D.2.2.2.2.2.1 i h
      have e20 := DQ_e D h
      refine y_rd1 (by omega) D.2.2.1 (D.2.2.2.2.1 i) ⟨fe i + 1, ?_⟩
      rw [← e]
      refine y_fn35 (by omega) e20 D.2.2.1 (fin _ ?_) (fe i) 0 (by omega)
      unfold N0
      rw [if_pos h]
theorem y_fn {post : SY → Prop} {fe : Nat → Nat} (D : DQ c pc tc tk fe) (hp : ∀ yn', (∀ i, i < 4 → yn' i = NN c tk fe i) → post ((nI c), (na pc), (na tc), (na tk), (na yn'), (na dn), (na gd), (na nb), (ny ys))) : wpY_findNeeds post ((nI c), (na pc), (na tc), (na tk), (na yn), (na dn), (na gd), (na nb), (ny ys)) :=
  ⟨5, y_fn2 D hp 4 0 yn (by omega) (fun x hx => absurd hx (Nat.not_lt_zero _))⟩
theorem y_go6 {post : Int32 → Prop} {N : Nat → Nat} {i : Nat} (hi : i < 4) (hN : ∀ i, N i < 16) (hn : ∀ i, i < 4 → yn i = N i) (hp : post (nI (gS N i))) : ∀ m j, j + m = 4 → wY_groupOf_6 post (nI i) (nI c) (na pc) (na tc) (na tk) (na yn) (na dn) (na gd) (na nb) (ny ys) (m + 1) (nI (gM N i j)) (nI j) := by
  intro m
  induction m with
  | zero =>
    intro j hj
    have hj : j = 4 := by omega
    subst hj
    exact br_t (nI_le (Nat.le_refl _) (by omega)) hp
  | succ m ih =>
    intro j hj
    have := ih (j + 1) (by omega)
    have b1 := hN i
    have b2 := hN j
    refine br_f (nI_ge (b := 4) (by omega) (by omega)) ⟨pk_in i 4 (by omega), ?_⟩
    rw [na_i i, hn i hi]
    refine bj_1 (by omega) (by omega) (fun h1 => ⟨pk_in j 4 (by omega), ?_⟩) (fun h1 => nm_r (nI_1 _) ?_)
    · rw [na_i j, hn j (by omega)]
      refine bj_1 (by omega) (by omega) (fun h2 => nm_r ?_ (nm_r (nI_1 _) this)) (fun h2 => nm_r (nI_1 _) ?_)
      · rw [kj_one (by omega), kj_or, show gM N i (j + 1) = gM N i j ||| 2 ^ j from if_pos ⟨h1, h2⟩]
      · rw [show gM N i (j + 1) = gM N i j from if_neg (fun z => h2 z.2)] at this
        exact this
    · rw [show gM N i (j + 1) = gM N i j from if_neg (fun z => h1 z.1)] at this
      exact this
theorem y_go {post : Int32 → Prop} {N : Nat → Nat} {i : Nat} (hi : i < 4) (hN : ∀ i, N i < 16) (hn : ∀ i, i < 4 → yn i = N i) (hp : post (nI (gS N i))) : wpY_groupOf post ((nI c), (na pc), (na tc), (na tk), (na yn), (na dn), (na gd), (na nb), (ny ys)) (nI i) :=
  nm_r (kj_one (by omega)) ⟨5, y_go6 hi hN hn hp 4 0 (by omega)⟩
end
end
section
section
variable {c : Nat} {pc tc tk yn dn gd nb ys : Nat → Nat}
/-! codes -/
def cI (k : Int32) : Int32 := if k = 2 then 5 else if k = 3 then 2 else k
theorem cI_ok : ∀ k, k < 4 → cI (nI k) = cY (nc k) := by decide +kernel
theorem y_co0 {post : Int32 → Prop} {k : Int32} (hp : post (cI k)) : wpY_codeOf post ((nI c), (na pc), (na tc), (na tk), (na yn), (na dn), (na gd), (na nb), (ny ys)) k := by
  unfold cI at hp
  unfold wpY_codeOf
  by_cases h : k = 2
  · rw [if_pos h] at hp; exact br_t h hp
  · rw [if_neg h] at hp
    refine br_f h ?_
    by_cases h3 : k = 3
    · rw [if_pos h3] at hp; exact br_t h3 hp
    · rw [if_neg h3] at hp; exact br_f h3 hp
theorem y_co {post : Int32 → Prop} {k : Nat} (hk : k < 4) (hp : post (cY (nc k))) : wpY_codeOf post ((nI c), (na pc), (na tc), (na tk), (na yn), (na dn), (na gd), (na nb), (ny ys)) (nI k) := y_co0 (by rw [cI_ok k hk]; exact hp)
theorem kj_cn1 : ∀ g, g < 4 → 1 + nI g = cY (4 + g) := by decide +kernel
theorem kj_cn2 : ∀ g, g < 4 → ∀ h, h < 4 → (5 + 4 * nI g) + nI h = cY (16 + 4 * h + g) := by decide +kernel
theorem y_cn4 {post : Int32 → Prop} {k : Nat} (hk : k < 4) (hp : post (cY (nc k))) : wpY_constructor post ((nI c), (na pc), (na tc), (na tk), (na yn), (na dn), (na gd), (na nb), (ny ys)) (nI k) := by
  unfold wpY_constructor
  exact br_f (nI_ge (b := 4) hk (by omega)) (y_co hk hp)
theorem y_cn {post : Int32 → Prop} {j : Nat} (hj : j < 4) (h2 : ∀ i, pc i ≤ 2) (hn : ∀ q, nb q < 4) (hp : post (cY (co pc nb j))) : wpY_constructor post ((nI c), (na pc), (na tc), (na tk), (na yn), (na dn), (na gd), (na nb), (ny ys)) (nI (4 + j)) := by
  have hpj := h2 j
  have e : nI (4 + j) - 4 = nI j := by
    have := pk_sub (a := 4 + j) (b := 4) (by omega)
    rw [show 4 + j - 4 = j by omega] at this
    exact this
  unfold co at hp
  unfold wpY_constructor
  refine br_t (nI_le (a := 4) (by omega) (by omega)) (nm_r e ⟨pk_in j 4 hj, ?_⟩)
  rw [na_i j]
  refine pk_eq (pc j) 0 (fun h => ?_) (fun h => ⟨pk_in j 4 hj, pk_eq (pc j) 1 (fun h1 => ⟨pk_in (j * 2) 8 (by omega) (kj_d2 j), ?_⟩) (fun h1 => ⟨pk_in (j * 2) 8 (by omega) (kj_d2 j), pk_in (j * 2 + 1) 8 (by omega) (by rw [kj_d2, nI_1]), ?_⟩)⟩)
  · rw [if_pos h] at hp; exact hp
  · rw [if_neg h, if_pos h1] at hp
    rw [na_at (j * 2) (kj_d2 j), kj_cn1 _ (hn _)]
    exact hp
  · rw [if_neg h, if_neg h1] at hp
    rw [na_at (j * 2) (kj_d2 j), na_at (j * 2 + 1) (by rw [kj_d2, nI_1]), kj_cn2 _ (hn _) _ (hn _)]
    exact hp
def apI (f a : Int32) : Int32 := if f ≤ 0 then -1 else if 0 ≤ a then (if a = cI (if 5 ≤ f then (f - 5) / 4 else f - 1) then (if 5 ≤ f then 1 + ((f - 5) - (f - 5) / 4 * 4) else 0) else -1) else -1
theorem apI_ok : ∀ f, f < 32 → (f = 0 ∨ f = 1 ∨ (4 ≤ f ∧ f < 8) ∨ 16 ≤ f) → ∀ a, a < 32 → (a = 0 ∨ a = 1 ∨ (4 ≤ a ∧ a < 8) ∨ 16 ≤ a) → apI (cY f) (cY a) = cY (ap f a) := by decide +kernel
theorem y_ap0 {post : Int32 → Prop} {f a : Int32} (hp : post (apI f a)) : wpY_apply post ((nI c), (na pc), (na tc), (na tk), (na yn), (na dn), (na gd), (na nb), (ny ys)) f a := by
  unfold apI at hp
  unfold wpY_apply
  by_cases h0 : f ≤ 0
  · rw [if_pos h0] at hp; exact br_t h0 hp
  · rw [if_neg h0] at hp
    refine br_f h0 ?_
    by_cases ha : 0 ≤ a
    · rw [if_pos ha] at hp
      refine br_t ha ?_
      by_cases h5 : 5 ≤ f
      · rw [if_pos h5, if_pos h5] at hp
        refine br_t h5 ⟨by decide, y_co0 ?_⟩
        by_cases hc : a = cI ((f - 5) / 4)
        · rw [if_pos hc] at hp; exact br_t hc (br_t h5 ⟨by decide, hp⟩)
        · rw [if_neg hc] at hp; exact br_f hc hp
      · rw [if_neg h5, if_neg h5] at hp
        refine br_f h5 (y_co0 ?_)
        by_cases hc : a = cI (f - 1)
        · rw [if_pos hc] at hp; exact br_t hc (br_f h5 hp)
        · rw [if_neg hc] at hp; exact br_f hc hp
    · rw [if_neg ha] at hp; exact br_f ha hp
theorem y_ap {post : Int32 → Prop} {f a : Nat} (hf : VC f) (ha : VC a) (hp : post (cY (ap f a))) : wpY_apply post ((nI c), (na pc), (na tc), (na tk), (na yn), (na dn), (na gd), (na nb), (ny ys)) (cY f) (cY a) := y_ap0 (by rw [apI_ok f hf.1 hf.2 a ha.1 ha.2]; exact hp)
theorem cY_0 : ∀ v, v < 32 → (v = 0 ∨ v = 1 ∨ (4 ≤ v ∧ v < 8) ∨ 16 ≤ v) → (cY v = 0 ↔ v = 1) := by decide +kernel
/-! fieldsFit -/
theorem y_ff0 {post : Int32 → SY → Prop} {H : Nat} (hH : H ≤ 20) (hp : post 0 ((nI c), (na pc), (na tc), (na tk), (na yn), (na dn), (na gd), (na nb), (ny ys))) : ∀ m k, k + m = H → wY_fieldsFit_148 post (nI H) (nI c) (na pc) (na tc) (na tk) (na yn) (na dn) (na gd) (na nb) (ny ys) (m + 1) 0 (nI k) := by
  intro m
  induction m with
  | zero => intro k hk; exact br_t (nI_le (by omega) (by omega)) ⟨nb_0, hp⟩
  | succ m ih => intro k hk; exact br_f (nI_ge (by omega) (by omega)) (br_t rfl (nm_r (nI_1 _) (ih (k + 1) (by omega))))
theorem y_ff1 {post : Int32 → SY → Prop} {H : Nat} (hH : H ≤ 20) (hv : ∀ q, q < H → VC (ys q)) (hy : (∀ q, q < H → ys q = 1) → post 1 ((nI c), (na pc), (na tc), (na tk), (na yn), (na dn), (na gd), (na nb), (ny ys))) (hn : ¬ (∀ q, q < H → ys q = 1) → post 0 ((nI c), (na pc), (na tc), (na tk), (na yn), (na dn), (na gd), (na nb), (ny ys))) : ∀ m k, k + m = H → (∀ q, q < k → ys q = 1) → wY_fieldsFit_148 post (nI H) (nI c) (na pc) (na tc) (na tk) (na yn) (na dn) (na gd) (na nb) (ny ys) (m + 1) 1 (nI k) := by
  intro m
  induction m with
  | zero =>
    intro k hk h
    have hk : k = H := by omega
    subst hk
    exact br_t (nI_le (Nat.le_refl _) (by omega)) ⟨nb_1, hy h⟩
  | succ m ih =>
    intro k hk h
    have hvk := hv k (by omega)
    have hc := cY_0 _ hvk.1 hvk.2
    refine br_f (nI_ge (by omega) (by omega)) (br_f (by decide) ⟨pk_in k 24 (by omega), ?_⟩)
    rw [ny_i k]
    by_cases h1 : ys k = 1
    · refine br_t (hc.mpr h1) (nm_r (nI_1 _) (ih (k + 1) (by omega) (fun q hq => ?_)))
      by_cases e : q = k
      · rw [e]; exact h1
      · exact h q (by omega)
    · exact br_f (fun z => h1 (hc.mp z)) (nm_r (nI_1 _) (y_ff0 hH (hn (fun z => h1 (z k (by omega)))) m (k + 1) (by omega)))
theorem y_ff77 {post : Int32 → SY → Prop} {J : Int32 → Int32 → (Nat → Int32) → (Nat → Int32) → (Nat → Int32) → (Nat → Int32) → (Nat → Int32) → (Nat → Int32) → (Nat → Int32) → (Nat → Int32) → Prop} {i h tok d : Nat} (hi : i < 4) (hh : h < 20) (h1 : 1 ≤ tok) (h10 : tok ≤ 10) (h2 : ∀ i, pc i ≤ 2) (hn : ∀ q, nb q < 4) (HJ : J (nI (h + 1)) (nI d + (-1)) (na pc) (na tc) (na tk) (na yn) (na dn) (na gd) (na nb) (ny (un ys h (lf pc nb i tok)))) : wY_fieldsFit_77 post J (nI i) (nI h) (nI d) (nI tok) (nI c) (na pc) (na tc) (na tk) (na yn) (na dn) (na gd) (na nb) (ny ys) := by
  obtain ⟨k1, k2, k3, k4, k5⟩ := kj_t7 tok (by omega)
  refine br_f (nI_ge (b := 24) (by omega) (by omega)) (pk_lt tok 3 (fun h3 => br_f (nI_nlt (b := 1) h1 (by omega)) ?_) (fun h3 => ?_))
  · have e : 2 * nI i + nI tok - 1 = nI (i * 2 + tok - 1) := by
      rw [kj_ix2', show i * 2 + tok = (i * 2 + tok - 1) + 1 by omega, nI_pred]; rfl
    refine ⟨pk_in (i * 2 + tok - 1) 8 (by omega) e, ?_⟩
    rw [na_at (i * 2 + tok - 1) e]
    refine y_co (hn _) ⟨pk_in h 24 (by omega), nm_r (ny_upd h (lf pc nb i tok) rfl ?_) (nm_r (nI_1 _) (nm_e HJ))⟩
    rw [show lf pc nb i tok = nc (nb (i * 2 + tok - 1)) from if_pos h3]
  · rw [k4 h3]
    by_cases h7 : tok < 7
    · refine y_cn4 (by omega) ⟨pk_in h 24 (by omega), nm_r (ny_upd h (lf pc nb i tok) rfl ?_) (nm_r (nI_1 _) (nm_e HJ))⟩
      rw [show lf pc nb i tok = nc (tok - 3) from (if_neg (by omega)).trans (if_pos h7)]
    · rw [show tok - 3 = 4 + (tok - 7) by omega]
      refine y_cn (by omega) h2 hn ⟨pk_in h 24 (by omega), nm_r (ny_upd h (lf pc nb i tok) rfl ?_) (nm_r (nI_1 _) (nm_e HJ))⟩
      rw [show lf pc nb i tok = co pc nb (tok - 7) from (if_neg (by omega)).trans (if_neg h7)]
theorem y_ff14 {post : Int32 → SY → Prop} {i n e : Nat} (hi : i < 4) (he : e = rE (tp tk i) n) (he2 : e ≤ 20) (ht : ∀ q, tk q ≤ 10) (h2 : ∀ i, pc i ≤ 2) (hk : ∀ q, nb q < 4) (hp : ∀ s, (FI (tp tk i) (fun k => lf pc nb i (tp tk i k)) e → post 1 ((nI c), (na pc), (na tc), (na tk), (na yn), (na dn), (na gd), (na nb), (ny s))) ∧ (¬ FI (tp tk i) (fun k => lf pc nb i (tp tk i k)) e → post 0 ((nI c), (na pc), (na tc), (na tk), (na yn), (na dn), (na gd), (na nb), (ny s)))) : ∀ d m s, m + d = e → (∀ q, q < eH (tp tk i) e m → s q = eS (tp tk i) (fun k => lf pc nb i (tp tk i k)) e m q) → wY_fieldsFit_14 post (nI i) (nI c) (d + 1) (nI (eH (tp tk i) e m)) (nI d + (-1)) (na pc) (na tc) (na tk) (na yn) (na dn) (na gd) (na nb) (ny s) := by
  have hV : ∀ k, VC ((fun k => lf pc nb i (tp tk i k)) k) := fun k => lf_vc hk _ _
  generalize hL : (fun k => lf pc nb i (tp tk i k)) = L at *
  intro d
  induction d with
  | zero =>
    intro m s hm hs
    have hm : m = e := by omega
    have hl := eH_le (tp tk i) e m
    refine br_t kj_m1 ⟨eH (tp tk i) e m + 1, y_ff1 (ys := s) (by omega) (fun q hq => ?_) (fun h => (hp s).1 ?_) (fun h => (hp s).2 ?_) (eH (tp tk i) e m) 0 (by omega) (fun q hq => absurd hq (Nat.not_lt_zero _))⟩
    · rw [hs q hq]; exact eS_vc hV m q
    · intro q hq
      have hq' : q < eH (tp tk i) e m := by rw [hm]; exact hq
      have h1 := h q hq'
      rw [hs q hq', hm] at h1
      exact h1
    · intro z
      apply h
      intro q hq
      rw [hs q hq]
      rw [hm] at hq ⊢
      exact z q hq
  | succ d ih =>
    intro m s hm hs
    have hl := eH_le (tp tk i) e m
    have h10 := ht (i * 20 + d)
    have ed : e - 1 - m = d := by omega
    have et : tp tk i d = tk (i * 20 + d) := rfl
    have ex := kj_ix20' i d
    rw [pk_m1]
    refine br_f (nI_pos (by omega)) ⟨pk_in (i * 20 + d) 80 (by omega) ex, nm_r (na_at _ ex) (pk_eq (tk (i * 20 + d)) 0 (fun h0 => ?_) (fun h0 => ?_))⟩
    · have h2 := eH_2 (tp tk i) n e m he (by omega) (by rw [ed]; exact h0)
      obtain ⟨h, hh⟩ : ∃ h, eH (tp tk i) e m = h + 2 := ⟨eH (tp tk i) e m - 2, by omega⟩
      have f1 := eH_0 (t := tp tk i) (e := e) (m := m) (by rw [ed]; exact h0)
      have f2 := eS_0 (t := tp tk i) (L := L) (e := e) (m := m) (by rw [ed]; exact h0)
      have s1 := hs (h + 1) (by omega)
      have s0 := hs h (by omega)
      have v1 := eS_vc (t := tp tk i) (e := e) hV m (h + 1)
      have v0 := eS_vc (t := tp tk i) (e := e) hV m h
      rw [hh]
      have e2 : nI (h + 2) - 2 = nI h := pk_sub (a := h + 2) (b := 2) (by omega)
      refine br_f (nI_nlt (b := 2) (by omega) (by omega)) ⟨pk_in (h + 1) 24 (by omega) (nI_pred (h + 1)), pk_in h 24 (by omega) e2, ?_⟩
      rw [nI_pred (h + 1), e2, ny_i (h + 1), ny_i h]
      refine y_ap (by rw [s1]; exact v1) (by rw [s0]; exact v0) ⟨pk_in h 24 (by omega), nm_r (ny_upd h _) (nm_r (pk_m1 (h + 1)) (nm_e ?_))⟩
      have := ih (m + 1) (un s h (ap (s (h + 1)) (s h))) (by omega) (fun q hq => ?_)
      · rw [f1, hh] at this; exact this
      · rw [f2, hh, show h + 2 - 2 = h by omega, show h + 2 - 1 = h + 1 by omega, s1, s0]
        rw [f1, hh] at hq
        unfold un
        by_cases e : q = h
        · rw [if_pos e, if_pos e]
        · rw [if_neg e, if_neg e]; exact hs q (by omega)
    · have f1 := eH_1 (t := tp tk i) (e := e) (m := m) (by rw [ed]; exact h0)
      have f2 := eS_1 (t := tp tk i) (L := L) (e := e) (m := m) (by rw [ed]; exact h0)
      refine y_ff77 hi (by omega) (by omega) h10 h2 hk ?_
      have := ih (m + 1) (un s (eH (tp tk i) e m) (lf pc nb i (tk (i * 20 + d)))) (by omega) (fun q hq => ?_)
      · rw [f1] at this; exact this
      · rw [f2, ed, ← hL]
        rw [f1] at hq
        unfold un
        by_cases e : q = eH (tp tk i) e m
        · rw [if_pos e, if_pos e]; rfl
        · rw [if_neg e, if_neg e, hL]; exact hs q (by omega)
theorem y_ff {post : Int32 → SY → Prop} {i : Nat} (hi : i < 4) (ht : ∀ q, tk q ≤ 10) (hs : tc i ≤ 20) (h2 : ∀ i, pc i ≤ 2) (hk : ∀ q, nb q < 4) (hp : ∀ s, (FI (tp tk i) (fun k => lf pc nb i (tp tk i k)) (rE (tp tk i) (tc i)) → post 1 ((nI c), (na pc), (na tc), (na tk), (na yn), (na dn), (na gd), (na nb), (ny s))) ∧ (¬ FI (tp tk i) (fun k => lf pc nb i (tp tk i k)) (rE (tp tk i) (tc i)) → post 0 ((nI c), (na pc), (na tc), (na tk), (na yn), (na dn), (na gd), (na nb), (ny s)))) : wpY_fieldsFit post ((nI c), (na pc), (na tc), (na tk), (na yn), (na dn), (na gd), (na nb), (ny ys)) (nI i) := by
  have := rE_le (tp tk i) (tc i)
  unfold wpY_fieldsFit
  exact y_rd1 hi ht hs (nm_r (kj_mm _) ⟨rE (tp tk i) (tc i) + 1, y_ff14 hi rfl (by omega) ht h2 hk hp (rE (tp tk i) (tc i)) 0 ys (by omega) (fun q hq => absurd hq (Nat.not_lt_zero _))⟩)
/-! fits -/
theorem y_ft0 {post : Int32 → SY → Prop} {x1 : Int32} (hp : post 0 ((nI c), (na pc), (na tc), (na tk), (na yn), (na dn), (na gd), (na nb), (ny ys))) : ∀ m i, i + m = 4 → wY_fits_4 post x1 (m + 1) 0 (nI i) (nI c) (na pc) (na tc) (na tk) (na yn) (na dn) (na gd) (na nb) (ny ys) := by
  intro m
  induction m with
  | zero => intro k hk; exact br_t (nI_le (a := 4) (by omega) (by omega)) ⟨nb_0, hp⟩
  | succ m ih => intro k hk; exact br_f (nI_ge (b := 4) (by omega) (by omega)) (br_t rfl (nm_r (nI_1 _) (ih (k + 1) (by omega))))
theorem y_ft1 {post : Int32 → SY → Prop} {S : Nat} {fe : Nat → Nat} (D : DQ c pc tc tk fe) (hS : S < 16) (hSc : ∀ j, S.testBit j = true → j < c) (hk : ∀ q, nb q < 4) (hp : ∀ s, (Ft pc tk fe S nb → post 1 ((nI c), (na pc), (na tc), (na tk), (na yn), (na dn), (na gd), (na nb), (ny s))) ∧ (¬ Ft pc tk fe S nb → post 0 ((nI c), (na pc), (na tc), (na tk), (na yn), (na dn), (na gd), (na nb), (ny s)))) : ∀ m i s, i + m = 4 → (∀ x, x < i → S.testBit x = true → FI (tp tk x) (fun k => lf pc nb x (tp tk x k)) (fe x)) → wY_fits_4 post (nI S) (m + 1) 1 (nI i) (nI c) (na pc) (na tc) (na tk) (na yn) (na dn) (na gd) (na nb) (ny s) := by
  intro m
  induction m with
  | zero =>
    intro i s hi h
    have hi : i = 4 := by omega
    subst hi
    exact br_t (nI_le (Nat.le_refl _) (by omega)) ⟨nb_1, (hp s).1 (fun x hx hb => h x hx hb)⟩
  | succ m ih =>
    intro i s hi h
    refine br_f (nI_ge (b := 4) (by omega) (by omega)) (br_f (by decide) (bj_0 (by omega) (by omega) (fun hb => ?_) (fun hb => nm_r (nI_1 _) (ih (i + 1) s (by omega) (fun x hx hxb => ?_)))))
    · have e := D.2.2.2.2.2.1 i (hSc i hb)
      refine y_ff (by omega) D.2.2.1 (D.2.2.2.2.1 i) D.2.1 hk (fun s' => ⟨fun hf => ?_, fun hf => ?_⟩)
      · refine br_f (by decide) (nm_r (nI_1 _) (ih (i + 1) s' (by omega) (fun x hx hxb => ?_)))
        by_cases e' : x = i
        · rw [e', e]; exact hf
        · exact h x (by omega) hxb
      · refine br_t rfl (nm_r (nI_1 _) (y_ft0 ((hp s').2 (fun z => hf ?_)) m (i + 1) (by omega)))
        have := z i (by omega) hb
        rw [e] at this
        exact this
    · by_cases e : x = i
      · rw [e] at hxb; exact absurd hxb hb
      · exact h x (by omega) hxb
theorem y_ft {post : Int32 → SY → Prop} {S : Nat} {fe : Nat → Nat} (D : DQ c pc tc tk fe) (hS : S < 16) (hSc : ∀ j, S.testBit j = true → j < c) (hk : ∀ q, nb q < 4) (hp : ∀ s, (Ft pc tk fe S nb → post 1 ((nI c), (na pc), (na tc), (na tk), (na yn), (na dn), (na gd), (na nb), (ny s))) ∧ (¬ Ft pc tk fe S nb → post 0 ((nI c), (na pc), (na tc), (na tk), (na yn), (na dn), (na gd), (na nb), (ny s)))) : wpY_fits post ((nI c), (na pc), (na tc), (na tk), (na yn), (na dn), (na gd), (na nb), (ny ys)) (nI S) :=
  ⟨5, y_ft1 D hS hSc hk hp 4 0 ys (by omega) (fun x hx => absurd hx (Nat.not_lt_zero _))⟩
/-! choose -/
theorem y_ch6 {post : Int32 → SY → Prop} {S ch : Nat} (hS : S < 16) (h2 : ∀ i, pc i ≤ 2) (hch : ch < 2 ^ 31) (hy : ch < 4 ^ cb S pc 8 → post 1 ((nI c), (na pc), (na tc), (na tk), (na yn), (na dn), (na gd), (na (tG S pc ch nb)), (ny ys))) (hn : ¬ ch < 4 ^ cb S pc 8 → post 0 ((nI c), (na pc), (na tc), (na tk), (na yn), (na dn), (na gd), (na (tG S pc ch nb)), (ny ys))) : ∀ m, m ≤ 8 → wY_choose_6 post (nI S) (nI c) (m + 1) (nI (ch / 4 ^ (cb S pc 8 - cb S pc m))) (nI m + (-1)) (na pc) (na tc) (na tk) (na yn) (na dn) (na gd) (na (tm S pc ch nb m)) (ny ys) := by
  intro m
  induction m with
  | zero =>
    intro _
    rw [tm_0]
    have hd := Nat.div_eq_zero_iff (a := ch) (b := 4 ^ (cb S pc 8 - cb S pc 0))
    have hpos : 0 < 4 ^ cb S pc 8 := Nat.pow_pos (by omega)
    rw [show cb S pc 8 - cb S pc 0 = cb S pc 8 from rfl] at hd ⊢
    have hb : ch / 4 ^ cb S pc 8 < 2 ^ 31 := Nat.lt_of_le_of_lt (Nat.div_le_self _ _) hch
    exact br_t kj_m1 (pk_eq (ch / 4 ^ cb S pc 8) 0 (fun h => hy ((hd.mp h).resolve_left (by omega))) (fun h => hn (fun z => h (hd.mpr (Or.inr z)))))
  | succ m ih =>
    intro hm
    have ih := ih (by omega)
    have e1 : nI m / 2 = nI (m / 2) := pk_div (a := m) (d := 2) (by omega) (by omega) (by omega)
    have e2 : nI m - nI m / 2 * 2 = nI (m % 2) := pk_rem (a := m) (d := 2) (by omega) (by omega) (by omega)
    have hr : ch / 4 ^ (cb S pc 8 - cb S pc (m + 1)) < 2 ^ 31 := Nat.lt_of_le_of_lt (Nat.div_le_self _ _) hch
    have hp := h2 (m / 2)
    rw [pk_m1]
    refine br_f (nI_pos (by omega)) ⟨by decide, ?_⟩
    rw [e2, e1]
    refine bj_1 (by omega) (by omega) (fun hb => ⟨by decide, by decide, pk_in (m / 2) 4 (by omega), ?_⟩) (fun hb => nm_e ?_)
    · rw [na_i (m / 2)]
      refine pk_le (pc (m / 2)) (m % 2) (fun h => nm_e ?_) (fun h => ⟨pk_in m 8 (by omega), nm_r (na_upd m _ rfl (kj_a3 hr).1) (nm_r (kj_a3 hr).2 (nm_e ?_))⟩)
      · have hin : ¬ iG S pc m = true := fun z => by have := ((iG_iff _ _ _).mp z).2; omega
        rw [cb_n hin, tm_n hin]
        exact ih
      · have hin : iG S pc m = true := (iG_iff _ _ _).mpr ⟨hb, h⟩
        rw [tm_y (by omega) hin, rs_y ch (by omega) hin]
        exact ih
    · have hin : ¬ iG S pc m = true := fun z => hb ((iG_iff _ _ _).mp z).1
      rw [cb_n hin, tm_n hin]
      exact ih
theorem y_ch {post : Int32 → SY → Prop} {S ch : Nat} (hS : S < 16) (h2 : ∀ i, pc i ≤ 2) (hch : ch < 2 ^ 31) (hy : ch < 4 ^ cb S pc 8 → post 1 ((nI c), (na pc), (na tc), (na tk), (na yn), (na dn), (na gd), (na (tG S pc ch nb)), (ny ys))) (hn : ¬ ch < 4 ^ cb S pc 8 → post 0 ((nI c), (na pc), (na tc), (na tk), (na yn), (na dn), (na gd), (na (tG S pc ch nb)), (ny ys))) : wpY_choose post ((nI c), (na pc), (na tc), (na tk), (na yn), (na dn), (na gd), (na nb), (ny ys)) (nI S) (nI ch) := by
  have := y_ch6 hS h2 hch hy hn 8 (by omega)
  rw [tm_8, Nat.sub_self, Nat.pow_zero, Nat.div_one, show nI 8 + (-1) = 7 from pk_m1 7] at this
  exact ⟨9, this⟩
/-! others -/
theorem y_ot0 {post : Int32 → Prop} {x1 x2 : Int32} (hp : post 0) : ∀ m i, i + m = 4 → wY_others_5 post x1 x2 (nI c) (na pc) (na tc) (na tk) (na yn) (na dn) (na gd) (na nb) (ny ys) (m + 1) 0 (nI i) := by
  intro m
  induction m with
  | zero => intro k hk; exact br_t (nI_le (a := 4) (by omega) (by omega)) ⟨nb_0, hp⟩
  | succ m ih => intro k hk; exact br_f (nI_ge (b := 4) (by omega) (by omega)) (br_t rfl (nm_r (nI_1 _) (ih (k + 1) (by omega))))
theorem y_ot1 {post : Int32 → Prop} {M : Nat} {x2 : Int32} {B : Nat → Nat} (hM : M < 16) (hx : x2 = 0 ∧ B = dn ∨ x2 = 1 ∧ B = gd) (hB : ∀ j, j < 4 → B j = 0 ∨ B j = 1) (hy : (∀ j, j < 4 → M.testBit j = true → B j = 1) → post 1) (hn : ¬ (∀ j, j < 4 → M.testBit j = true → B j = 1) → post 0) : ∀ m i, i + m = 4 → (∀ j, j < i → M.testBit j = true → B j = 1) → wY_others_5 post (nI M) x2 (nI c) (na pc) (na tc) (na tk) (na yn) (na dn) (na gd) (na nb) (ny ys) (m + 1) 1 (nI i) := by
  intro m
  induction m with
  | zero =>
    intro i hi h
    have hi : i = 4 := by omega
    subst hi
    exact br_t (nI_le (Nat.le_refl _) (by omega)) ⟨nb_1, hy h⟩
  | succ m ih =>
    intro i hi h
    have hb1 := hB i (by omega)
    have go : B i = 1 → ∀ j, j < i + 1 → M.testBit j = true → B j = 1 := by
      intro z j hj hjb
      by_cases e : j = i
      · rw [e]; exact z
      · exact h j (by omega) hjb
    refine br_f (nI_ge (b := 4) (by omega) (by omega)) (br_f (by decide) (bj_0 (by omega) (by omega) (fun hb => ?_) (fun hb => nm_r (nI_1 _) (ih (i + 1) (by omega) (fun x hx hxb => ?_)))))
    · rcases hx with ⟨rfl, rfl⟩ | ⟨rfl, rfl⟩
      · refine br_t rfl ⟨pk_in i 4 (by omega), ?_⟩
        rw [na_i i]
        exact pk_eq (B i) 0 (fun z => nm_r (nI_1 _) (y_ot0 (hn (fun y => by have := y i (by omega) hb; omega)) m (i + 1) (by omega))) (fun z => nm_r (nI_1 _) (ih (i + 1) (by omega) (go (by omega))))
      · refine br_f (by decide) ⟨pk_in i 4 (by omega), ?_⟩
        rw [na_i i]
        exact pk_eq (B i) 0 (fun z => nm_r (nI_1 _) (y_ot0 (hn (fun y => by have := y i (by omega) hb; omega)) m (i + 1) (by omega))) (fun z => nm_r (nI_1 _) (ih (i + 1) (by omega) (go (by omega))))
    · by_cases e : x = i
      · rw [e] at hxb; exact absurd hxb hb
      · exact h x (by omega) hxb
theorem y_ot {post : Int32 → Prop} {M : Nat} {x2 : Int32} {B : Nat → Nat} (hM : M < 16) (hx : x2 = 0 ∧ B = dn ∨ x2 = 1 ∧ B = gd) (hB : ∀ j, j < 4 → B j = 0 ∨ B j = 1) (hy : (∀ j, j < 4 → M.testBit j = true → B j = 1) → post 1) (hn : ¬ (∀ j, j < 4 → M.testBit j = true → B j = 1) → post 0) : wpY_others post ((nI c), (na pc), (na tc), (na tk), (na yn), (na dn), (na gd), (na nb), (ny ys)) (nI M) x2 :=
  ⟨5, y_ot1 hM hx hB hy hn 4 0 (by omega) (fun x hx => absurd hx (Nat.not_lt_zero _))⟩
end
end
section
section
variable {c : Nat} {pc tc tk yn dn gd nb ys : Nat → Nat}
def mk (S v : Nat) (f : Nat → Nat) (m : Nat) : Nat → Nat := fun x => if x < m ∧ S.testBit x = true then v else f x
theorem mk_y {S v m : Nat} {f : Nat → Nat} (h : S.testBit m = true) : un (mk S v f m) m v = mk S v f (m + 1) := by
  funext x
  unfold un mk
  by_cases e : x = m
  · subst e; rw [if_pos rfl, if_pos ⟨by omega, h⟩]
  · rw [if_neg e]
    by_cases h1 : x < m ∧ S.testBit x = true
    · rw [if_pos h1, if_pos ⟨by omega, h1.2⟩]
    · rw [if_neg h1, if_neg (fun z => h1 ⟨by omega, z.2⟩)]
theorem mk_n {S v m : Nat} {f : Nat → Nat} (h : ¬ S.testBit m = true) : mk S v f m = mk S v f (m + 1) := by
  funext x
  unfold mk
  by_cases h1 : x < m ∧ S.testBit x = true
  · rw [if_pos h1, if_pos ⟨by omega, h1.2⟩]
  · rw [if_neg h1, if_neg]
    rintro ⟨z1, z2⟩
    by_cases e : x = m
    · subst e; exact h z2
    · exact h1 ⟨by omega, z2⟩
theorem mk_0 {S v : Nat} {f : Nat → Nat} : mk S v f 0 = f := by
  funext x
  unfold mk
  rw [if_neg (fun z => absurd z.1 (by omega))]
theorem y_s72 {post : SY → Prop} {S v : Nat} (hS : S < 16) (hv : v = 0 ∨ v = 1) (hp : post ((nI c), (na pc), (na tc), (na tk), (na yn), (na (mk S 1 dn 4)), (na (mk S v gd 4)), (na nb), (ny ys))) : ∀ d m, m + d = 4 → wY_settle_72 post (nI S) (nI v) (nI c) (d + 1) (nI m) (na pc) (na tc) (na tk) (na yn) (na (mk S 1 dn m)) (na (mk S v gd m)) (na nb) (ny ys) := by
  have hnar : vp_nar .boolean (nI v) = nI v := by
    rcases hv with rfl | rfl
    · exact nar_0
    · exact nar_1
  intro d
  induction d with
  | zero =>
    intro m hm
    have hm : m = 4 := by omega
    subst hm
    exact br_t (nI_le (Nat.le_refl _) (by omega)) hp
  | succ d ih =>
    intro m hm
    have := ih (m + 1) (by omega)
    refine br_f (nI_ge (b := 4) (by omega) (by omega)) (bj_1 (by omega) (by omega) (fun hb => ⟨pk_in m 4 (by omega), nm_r (na_upd m 1 rfl nar_1) ⟨pk_in m 4 (by omega), nm_r (na_upd m v rfl hnar) (nm_r (nI_1 _) ?_)⟩⟩) (fun hb => nm_r (nI_1 _) ?_))
    · rw [mk_y hb, mk_y hb]; exact this
    · rw [mk_n hb, mk_n (v := v) hb]; exact this
theorem y_s72e {post : SY → Prop} {S v : Nat} (hS : S < 16) (hv : v = 0 ∨ v = 1) (hp : post ((nI c), (na pc), (na tc), (na tk), (na yn), (na (mk S 1 dn 4)), (na (mk S v gd 4)), (na nb), (ny ys))) : ∃ n72, wY_settle_72 post (nI S) (nI v) (nI c) n72 0 (na pc) (na tc) (na tk) (na yn) (na dn) (na gd) (na nb) (ny ys) := by
  have := y_s72 hS hv hp 4 0 (by omega)
  rw [mk_0, mk_0] at this
  exact ⟨5, this⟩
theorem y_s22 {post : SY → Prop} {S : Nat} {fe : Nat → Nat} (D : DQ c pc tc tk fe) (hS : S < 16) (hSc : ∀ j, S.testBit j = true → j < c) (hk : ∀ q, nb q < 4)
    (hy : ∀ s, ls (bb pc tk fe S nb) 4096 < 4096 → post ((nI c), (na pc), (na tc), (na tk), (na yn), (na (mk S 1 dn 4)), (na (mk S 1 gd 4)), (na (tG S pc (ls (bb pc tk fe S nb) 4096) nb)), (ny s)))
    (hn : ∀ nb' s, ¬ ls (bb pc tk fe S nb) 4096 < 4096 → (∀ q, (q < 8 ∧ iG S pc q = true) ∨ nb' q = nb q) → (∀ q, nb' q < 4) → post ((nI c), (na pc), (na tc), (na tk), (na yn), (na (mk S 1 dn 4)), (na (mk S 0 gd 4)), (na nb'), (ny s))) :
    ∀ d m nb' s, m + d = 4096 → (∀ q, (q < 8 ∧ iG S pc q = true) ∨ nb' q = nb q) → (∀ q, nb' q < 4) → (∀ j, j < m → ¬ bb pc tk fe S nb j = true) → wY_settle_22 post (nI S) 1 (d + 1) 0 (nI m) (nI c) (na pc) (na tc) (na tk) (na yn) (na dn) (na gd) (na nb') (ny s) := by
  intro d
  induction d with
  | zero =>
    intro m nb' s hm i1 i2 hl
    have hm : m = 4096 := by omega
    subst hm
    exact br_t (nI_le (Nat.le_refl _) (by omega)) (y_s72e (v := 0) hS (Or.inl rfl) (hn nb' s (ls_n hl) i1 i2))
  | succ d ih =>
    intro m nb' s hm i1 i2 hl
    have hb := bb_iff pc tk fe S nb m
    have nx : ¬ bb pc tk fe S nb m = true → ∀ j, j < m + 1 → ¬ bb pc tk fe S nb j = true := by
      intro z j hj
      by_cases e : j = m
      · rw [e]; exact z
      · exact hl j (by omega)
    refine br_f (nI_ge (b := 4096) (by omega) (by omega)) (br_f (by decide) (br_t rfl (y_ch hS D.2.1 (by omega) (fun hC => br_f (by decide) ?_) (fun hC => br_t rfl (nm_r (nI_1 _) ?_)))))
    · rw [tG_tG i1]
      refine y_ft D hS hSc (tG_lt hk) (fun s' => ⟨fun hf => br_f (by decide) (nm_r (nI_1 _) ?_), fun hf => br_t rfl (nm_r (nI_1 _) (ih (m + 1) _ s' (by omega) tG_o (tG_lt hk) (nx (fun z => hf (hb.mp z).2))))⟩)
      have hbm : bb pc tk fe S nb m = true := hb.mpr ⟨hC, hf⟩
      have el := ls_y (n := 4096) m (by omega) hbm hl
      have fin := hy s' (by rw [el]; omega)
      rw [el] at fin
      exact pk_le 4096 (m + 1) (fun _ => y_s72e (v := 1) hS (Or.inr rfl) fin) (fun _ => br_f (by decide) (br_f (by decide) (y_s72e (v := 1) hS (Or.inr rfl) fin)))
    · rw [tG_tG i1]
      exact ih (m + 1) _ s (by omega) tG_o (tG_lt hk) (nx (fun z => hC (hb.mp z).1))
/-- what the reference holds, when the settling stands at s -/
def YI (c : Nat) (pc : Nat → Nat) (s : Nat × Nat × (Nat → Nat)) (dn gd nb : Nat → Nat) : Prop :=
  (∀ j, j < 4 → dn j = if c ≤ j ∨ s.1.testBit j = true then 1 else 0) ∧ (∀ j, j < 4 → gd j = if s.2.1.testBit j = true then 1 else 0) ∧ (∀ q, nb q < 4) ∧ (∀ j a, s.2.1.testBit j = true → a < pc j → nb (j * 2 + a) = s.2.2 (j * 2 + a))
theorem mk_dn {c S D : Nat} {dn : Nat → Nat} (h : ∀ j, j < 4 → dn j = if c ≤ j ∨ D.testBit j = true then 1 else 0) : ∀ j, j < 4 → mk S 1 dn 4 j = if c ≤ j ∨ (D ||| S).testBit j = true then 1 else 0 := by
  intro j hj
  unfold mk
  by_cases hb : S.testBit j = true
  · rw [if_pos ⟨hj, hb⟩, if_pos (Or.inr ((or_bit _ _ _).mpr (Or.inr hb)))]
  · rw [if_neg (fun z => hb z.2), h j hj]
    by_cases hd : c ≤ j ∨ D.testBit j = true
    · rw [if_pos hd, if_pos (hd.imp_right (fun z => (or_bit _ _ _).mpr (Or.inl z)))]
    · rw [if_neg hd, if_neg (fun z => hd (z.imp_right (fun y => ((or_bit _ _ _).mp y).resolve_right hb)))]
theorem mk_g1 {S W : Nat} {gd : Nat → Nat} (h : ∀ j, j < 4 → gd j = if W.testBit j = true then 1 else 0) : ∀ j, j < 4 → mk S 1 gd 4 j = if (W ||| S).testBit j = true then 1 else 0 := by
  intro j hj
  unfold mk
  by_cases hb : S.testBit j = true
  · rw [if_pos ⟨hj, hb⟩, if_pos ((or_bit _ _ _).mpr (Or.inr hb))]
  · rw [if_neg (fun z => hb z.2), h j hj]
    by_cases hd : W.testBit j = true
    · rw [if_pos hd, if_pos ((or_bit _ _ _).mpr (Or.inl hd))]
    · rw [if_neg hd, if_neg (fun z => hd (((or_bit _ _ _).mp z).resolve_right hb))]
theorem mk_g0 {S W : Nat} {gd : Nat → Nat} (hd : ∀ j, W.testBit j = true → ¬ S.testBit j = true) (h : ∀ j, j < 4 → gd j = if W.testBit j = true then 1 else 0) : ∀ j, j < 4 → mk S 0 gd 4 j = if W.testBit j = true then 1 else 0 := by
  intro j hj
  unfold mk
  by_cases hb : S.testBit j = true
  · rw [if_pos ⟨hj, hb⟩, if_neg (fun z => hd j z hb)]
  · rw [if_neg (fun z => hb z.2), h j hj]
theorem y_sa52s {post : SY → Prop} {J : Int32 → Int32 → (Nat → Int32) → (Nat → Int32) → (Nat → Int32) → (Nat → Int32) → (Nat → Int32) → (Nat → Int32) → (Nat → Int32) → (Nat → Int32) → Prop} {r : Int32} {i n : Nat} {N fe : Nat → Nat} {s : Nat × Nat × (Nat → Nat)} (D : DQ c pc tc tk fe) (q : NQ c tk fe N) (hi : i < c) (hn : ∀ i, i < 4 → yn i = N i) (P : PI c N s) (Y : YI c pc s dn gd nb)
    (K : ∀ dn' gd' nb' ys', YI c pc (pS N pc tk fe i s) dn' gd' nb' → wY_settleAll_52 post J r n (nI (i + 1)) (nI c) (na pc) (na tc) (na tk) (na yn) (na dn') (na gd') (na nb') (ny ys')) :
    wY_settleAll_52 post J r (n + 1) (nI i) (nI c) (na pc) (na tc) (na tk) (na yn) (na dn) (na gd) (na nb) (ny ys) := by
  have hc4 := D.1
  obtain ⟨p1, p2, p3, p4, p5, p6, p7⟩ := P
  obtain ⟨y1, y2, y3, y4⟩ := Y
  have hgS := gS_lt N i (by omega)
  have hSc : ∀ j, (gS N i).testBit j = true → j < c := fun j hj => gS_c q hi hj
  obtain ⟨o1, o2⟩ := kj_sub _ (q.1 i) _ hgS
  have o3 : na yn (nI i).toNatClampNeg &&& (nI (gS N i) ^^^ (-1)) = nI (sb (N i) (gS N i)) := by rw [na_i i, hn i (by omega)]; exact o1
  have dn01 : ∀ j, j < 4 → dn j = 0 ∨ dn j = 1 := fun j hj => by rw [y1 j hj]; split <;> omega
  have gd01 : ∀ j, j < 4 → gd j = 0 ∨ gd j = 1 := fun j hj => by rw [y2 j hj]; split <;> omega
  have oc : ∀ j, (sb (N i) (gS N i)).testBit j = true → j < c := fun j hj => by
    rw [sb_bit (q.1 i), Bool.and_eq_true] at hj
    exact (q.2.1 i j hj.1).2
  have dn1 : ∀ j, j < c → (dn j = 1 ↔ s.1.testBit j = true) := by
    intro j hj
    rw [y1 j (by omega)]
    by_cases z : s.1.testBit j = true
    · rw [if_pos (Or.inr z)]; exact ⟨fun _ => z, fun _ => rfl⟩
    · rw [if_neg (fun y => y.elim (fun h => by omega) z)]; exact ⟨fun y => (nomatch y), fun y => absurd y z⟩
  have gd1 : ∀ j, j < c → (gd j = 1 ↔ s.2.1.testBit j = true) := by
    intro j hj
    rw [y2 j (by omega)]
    by_cases z : s.2.1.testBit j = true
    · rw [if_pos z]; exact ⟨fun _ => z, fun _ => rfl⟩
    · rw [if_neg z]; exact ⟨fun y => (nomatch y), fun y => absurd y z⟩
  refine br_f (nI_ge hi (by omega)) (y_go (by omega) q.1 hn ⟨pk_in i 4 (by omega), ?_⟩)
  rw [o3]
  have di := dn01 i (by omega)
  refine pk_eq (dn i) 0 (fun hd => ⟨pk_in i 4 (by omega), ?_⟩) (fun hd => nm_r (nI_1 _) ?_) (na_i i)
  · have hD : ¬ s.1.testBit i = true := fun z => by have := (dn1 i hi).mpr z; omega
    have disj : ∀ j, s.2.1.testBit j = true → ¬ (gS N i).testBit j = true := fun j hj hS => hD (p5 j i (p4 j hj) (gS_sym q.1 hS))
    refine y_ot o2 (Or.inl ⟨rfl, rfl⟩) dn01 (fun hr => br_f (by decide) ?_) (fun hr => br_t rfl (nm_r (nI_1 _) ?_))
    · have hd0 : sb (sb (N i) (gS N i)) s.1 = 0 := (sb_0 o2).mpr (fun j hj hb => (dn1 j (oc j hb)).mp (hr j hj hb))
      refine ⟨pk_in i 4 (by omega), ?_⟩
      rw [o3]
      refine y_ot o2 (Or.inr ⟨rfl, rfl⟩) gd01 (fun hr2 => ⟨4097, ?_⟩) (fun hr2 => ⟨1, br_f (nI_ge (a := 0) (b := 4096) (by omega) (by omega)) (br_t rfl (y_s72e (v := 0) hgS (Or.inl rfl) (nm_r (nI_1 _) ?_)))⟩)
      · have hW : ∀ j, j < 4 → (sb (N i) (gS N i)).testBit j = true → s.2.1.testBit j = true := fun j hj hb => (gd1 j (oc j hb)).mp (hr2 j hj hb)
        have hw0 : sb (sb (N i) (gS N i)) s.2.1 = 0 := (sb_0 o2).mpr hW
        have ebb := bb_cg hc4 D.2.1 q D.2.2.2.2.2.2 hi hW y4
        refine y_s22 D hgS hSc y3 (fun s' hl => nm_r (nI_1 _) ?_) (fun nb' s' hl i1 i2 => nm_r (nI_1 _) ?_) 4096 0 nb ys (by omega) (fun q => Or.inr rfl) y3 (fun j hj => absurd hj (Nat.not_lt_zero _))
        · rw [ebb] at hl ⊢
          have e : pS N pc tk fe i s = (s.1 ||| gS N i, s.2.1 ||| gS N i, tG (gS N i) pc (ls (bb pc tk fe (gS N i) s.2.2) 4096) s.2.2) := by
            unfold pS
            rw [if_neg hD, if_neg (fun z => z hd0), if_neg (fun z => z hw0), if_pos hl]
          rw [e] at K
          refine K _ _ _ _ ⟨mk_dn y1, mk_g1 y2, tG_lt y3, fun j a hj ha => ?_⟩
          dsimp only at hj ⊢
          have hpj := D.2.1 j
          rw [or_bit] at hj
          by_cases z : (gS N i).testBit j = true
          · have := hSc j z
            exact tG_in (by omega) ((iG_ix _ _ _ _ (by omega)).mpr ⟨z, ha⟩)
          · have hj := hj.resolve_right z
            rw [tG_out (fun y => z ((iG_ix _ _ _ _ (by omega)).mp y).1), tG_out (fun y => z ((iG_ix _ _ _ _ (by omega)).mp y).1)]
            exact y4 j a hj ha
        · rw [ebb] at hl
          have e : pS N pc tk fe i s = (s.1 ||| gS N i, s.2.1, s.2.2) := by
            unfold pS
            rw [if_neg hD, if_neg (fun z => z hd0), if_neg (fun z => z hw0), if_neg hl]
          rw [e] at K
          refine K _ _ _ _ ⟨mk_dn y1, mk_g0 disj y2, i2, fun j a hj ha => ?_⟩
          have hpj := D.2.1 j
          rw [(i1 _).resolve_left (fun y => disj j hj ((iG_ix _ _ _ _ (by omega)).mp y.2).1)]
          exact y4 j a hj ha
      · have hw0 : ¬ sb (sb (N i) (gS N i)) s.2.1 = 0 := fun z => hr2 (fun j hj hb => (gd1 j (oc j hb)).mpr ((sb_0 o2).mp z j hj hb))
        have e : pS N pc tk fe i s = (s.1 ||| gS N i, s.2.1, s.2.2) := by
          unfold pS
          rw [if_neg hD, if_neg (fun z => z hd0), if_pos hw0]
        rw [e] at K
        exact K _ _ _ _ ⟨mk_dn y1, mk_g0 disj y2, y3, y4⟩
    · have hd0 : ¬ sb (sb (N i) (gS N i)) s.1 = 0 := fun z => hr (fun j hj hb => (dn1 j (oc j hb)).mpr ((sb_0 o2).mp z j hj hb))
      have e : pS N pc tk fe i s = s := by
        unfold pS
        rw [if_neg hD, if_pos hd0]
      rw [e] at K
      exact K _ _ _ _ ⟨y1, y2, y3, y4⟩
  · have hD : s.1.testBit i = true := (dn1 i hi).mp (by omega)
    have e : pS N pc tk fe i s = s := if_pos hD
    rw [e] at K
    exact K _ _ _ _ ⟨y1, y2, y3, y4⟩
theorem y_sa52 {post : SY → Prop} {J : Int32 → Int32 → (Nat → Int32) → (Nat → Int32) → (Nat → Int32) → (Nat → Int32) → (Nat → Int32) → (Nat → Int32) → (Nat → Int32) → (Nat → Int32) → Prop} {r : Nat} {N fe : Nat → Nat} {s : Nat × Nat × (Nat → Nat)} (D : DQ c pc tc tk fe) (q : NQ c tk fe N) (hn : ∀ i, i < 4 → yn i = N i) (P : PI c N s)
    (HJ : ∀ dn' gd' nb' ys', YI c pc (pI N pc tk fe s c) dn' gd' nb' → J (nI (r + 1)) (nI c) (na pc) (na tc) (na tk) (na yn) (na dn') (na gd') (na nb') (ny ys')) :
    ∀ m i dn gd nb ys, i + m = c → YI c pc (pI N pc tk fe s i) dn gd nb → wY_settleAll_52 post J (nI r) (m + 1) (nI i) (nI c) (na pc) (na tc) (na tk) (na yn) (na dn) (na gd) (na nb) (ny ys) := by
  have hc4 := D.1
  intro m
  induction m with
  | zero =>
    intro i dn gd nb ys hi hx
    have hi : i = c := by omega
    subst hi
    exact br_t (nI_le (Nat.le_refl _) (by omega)) (nm_r (nI_1 _) (HJ _ _ _ _ hx))
  | succ m ih =>
    intro i dn gd nb ys hi hx
    exact y_sa52s D q (by omega) hn (PI_I hc4 q P i (by omega)) hx (fun dn' gd' nb' ys' hx' => ih (i + 1) dn' gd' nb' ys' (by omega) hx')
theorem y_sa45 {post : SY → Prop} {N fe : Nat → Nat} (D : DQ c pc tc tk fe) (q : NQ c tk fe N) (hn : ∀ i, i < 4 → yn i = N i)
    (hp : ∀ dn' gd' nb' ys', YI c pc (pR c N pc tk fe 4) dn' gd' nb' → post ((nI c), (na pc), (na tc), (na tk), (na yn), (na dn'), (na gd'), (na nb'), (ny ys'))) :
    ∀ m r dn gd nb ys, r + m = 4 → YI c pc (pR c N pc tk fe r) dn gd nb → wY_settleAll_45 post (m + 1) (nI r) (nI c) (na pc) (na tc) (na tk) (na yn) (na dn) (na gd) (na nb) (ny ys) := by
  have hc4 := D.1
  intro m
  induction m with
  | zero =>
    intro r dn gd nb ys hr hx
    have hr : r = 4 := by omega
    subst hr
    exact br_t (nI_le (Nat.le_refl _) (by omega)) (hp _ _ _ _ hx)
  | succ m ih =>
    intro r dn gd nb ys hr hx
    exact br_f (nI_ge (b := 4) (by omega) (by omega)) ⟨c + 1, y_sa52 D q hn (PI_R hc4 q r) (fun dn' gd' nb' ys' hx' => ih (r + 1) dn' gd' nb' ys' (by omega) hx') c 0 dn gd nb ys (by omega) hx⟩
theorem y_sa6 {post : SY → Prop} {N fe : Nat → Nat} (D : DQ c pc tc tk fe) (q : NQ c tk fe N) (hn : ∀ i, i < 4 → yn i = N i) (hk : ∀ q, nb q < 4)
    (hp : ∀ dn' gd' nb' ys', YI c pc (pR c N pc tk fe 4) dn' gd' nb' → post ((nI c), (na pc), (na tc), (na tk), (na yn), (na dn'), (na gd'), (na nb'), (ny ys'))) :
    ∀ m i dn gd, i + m = 4 → (∀ j, j < i → dn j = (if c ≤ j then 1 else 0) ∧ gd j = 0) → wY_settleAll_6 post (nI c) (m + 1) (nI i) (na pc) (na tc) (na tk) (na yn) (na dn) (na gd) (na nb) (ny ys) := by
  have hc4 := D.1
  intro m
  induction m with
  | zero =>
    intro i dn gd hi h
    have hi : i = 4 := by omega
    subst hi
    refine br_t (nI_le (Nat.le_refl _) (by omega)) ⟨5, y_sa45 D q hn hp 4 0 dn gd nb ys (by omega) ⟨fun j hj => ?_, fun j hj => ?_, hk, fun j a h => ?_⟩⟩
    · rw [(h j hj).1, show (pR c N pc tk fe 0).1 = 0 from rfl, Nat.zero_testBit]
      by_cases z : c ≤ j
      · rw [if_pos z, if_pos (Or.inl z)]
      · rw [if_neg z, if_neg (fun y => y.elim z (fun x => (nomatch x)))]
    · rw [(h j hj).2, show (pR c N pc tk fe 0).2.1 = 0 from rfl, Nat.zero_testBit]; rfl
    · rw [show (pR c N pc tk fe 0).2.1 = 0 from rfl, Nat.zero_testBit] at h; cases h
  | succ m ih =>
    intro i dn gd hi h
    have fin : ∀ v, v = (if c ≤ i then 1 else 0) → wY_settleAll_6 post (nI c) (m + 1) (nI (i + 1)) (na pc) (na tc) (na tk) (na yn) (na (un dn i v)) (na (un gd i 0)) (na nb) (ny ys) := by
      intro v hv
      refine ih (i + 1) _ _ (by omega) (fun j hj => ?_)
      by_cases e : j = i
      · rw [e, un_s, un_s]; exact ⟨hv, rfl⟩
      · rw [un_n e, un_n e]; exact h j (by omega)
    refine br_f (nI_ge (b := 4) (by omega) (by omega)) (pk_lt i c (fun hic => ⟨pk_in i 4 (by omega), nm_r (na_upd i 0 rfl nar_0) ⟨pk_in i 4 (by omega), nm_r (na_upd i 0 rfl nar_0) (nm_r (nI_1 _) (fin 0 ?_))⟩⟩) (fun hic => ⟨pk_in i 4 (by omega), nm_r (na_upd i 1 rfl nar_1) ⟨pk_in i 4 (by omega), nm_r (na_upd i 0 rfl nar_0) (nm_r (nI_1 _) (fin 1 ?_))⟩⟩))
    · rw [if_neg (by omega)]
    · rw [if_pos hic]
theorem y_sa {post : SY → Prop} {fe : Nat → Nat} (D : DQ c pc tc tk fe) (hk : ∀ q, nb q < 4)
    (hp : ∀ yn' dn' gd' nb' ys', (∀ i, i < 4 → yn' i = NN c tk fe i) → YI c pc (pR c (NN c tk fe) pc tk fe 4) dn' gd' nb' → post ((nI c), (na pc), (na tc), (na tk), (na yn'), (na dn'), (na gd'), (na nb'), (ny ys'))) : wpY_settleAll post ((nI c), (na pc), (na tc), (na tk), (na yn), (na dn), (na gd), (na nb), (ny ys)) := by
  unfold wpY_settleAll
  exact y_fn D (fun yn' hyn => ⟨5, y_sa6 D (NN_q D.2.2.2.2.2.2) hyn hk (fun dn' gd' nb' ys' hY => hp yn' dn' gd' nb' ys' hyn hY) 4 0 dn gd (by omega) (fun j hj => absurd hj (Nat.not_lt_zero _))⟩)
end
end
section
/-! the relation -/
def RQ (c : Nat) (pc tc tk fc fe : Nat → Nat) : Prop := c ≤ 4 ∧ (∀ i, pc i ≤ 2) ∧ (∀ q, tk q ≤ 10) ∧ sP pc c ≤ 6 ∧ (∀ i, tc i ≤ 20) ∧ (∀ i, i < c → fe i = rE (tp tk i) (tc i) ∧ fc i = rF (tp tk i) (tc i)) ∧ (∀ i k, i < c → k < tc i → mS c pc i (tp tk i k))
theorem RQ_D {c : Nat} {pc tc tk fc fe : Nat → Nat} (h : RQ c pc tc tk fc fe) : DQ c pc tc tk fe := by
  obtain ⟨h1, h2, h3, h4, h5, h6, h7⟩ := h
  refine ⟨h1, h2, h3, h4, h5, fun i hi => (h6 i hi).1, fun i k hi hk => h7 i k hi ?_⟩
  rw [(h6 i hi).1] at hk
  have := rE_le (tp tk i) (tc i)
  omega
def i_Rel (_ : Nat) (u : SX) (v : SY) : Prop :=
  ∃ (c w : Nat) (st : Int32) (pc tc tk fc fe nt sk sc cc gs stk yn dn gd nb ys : Nat → Nat), u = ((nI c), (nI (sP pc c)), st, (nI w), (na pc), (na tc), (na tk), (na fc), (na fe), (na nt), (na sk), (na sc), (na cc), (na gs), (na stk)) ∧ v = ((nI c), (na pc), (na tc), (na tk), (na yn), (na dn), (na gd), (na nb), (ny ys)) ∧ RQ c pc tc tk fc fe ∧ (∀ q, sk q < 4) ∧ (∀ q, q < 4 → cc q = nc q) ∧ (∀ q, nb q < 4) ∧ (st = 1 ∨ st = 0 ∧ XD c pc tk fe w nt sk sc cc)
theorem r_mk {k c w : Nat} {st : Int32} {pc tc tk fc fe nt sk sc cc gs stk yn dn gd nb ys : Nat → Nat} (h1 : RQ c pc tc tk fc fe) (h2 : ∀ q, sk q < 4) (h3 : ∀ q, q < 4 → cc q = nc q) (h4 : ∀ q, nb q < 4) (h5 : st = 1 ∨ st = 0 ∧ XD c pc tk fe w nt sk sc cc) : i_Rel k ((nI c), (nI (sP pc c)), st, (nI w), (na pc), (na tc), (na tk), (na fc), (na fe), (na nt), (na sk), (na sc), (na cc), (na gs), (na stk)) ((nI c), (na pc), (na tc), (na tk), (na yn), (na dn), (na gd), (na nb), (ny ys)) :=
  ⟨c, w, st, pc, tc, tk, fc, fe, nt, sk, sc, cc, gs, stk, yn, dn, gd, nb, ys, rfl, rfl, h1, h2, h3, h4, h5⟩
theorem i_up {k : Nat} {u : SX} {v : SY} (h : i_Rel k u v) : i_Rel (k + 4) u v := h
theorem na_k {f : Nat → Nat} (k v : Nat) : upd (na f) k (nI v) = na (un f k v) := by
  funext j
  unfold upd na un
  by_cases h : j = k
  · rw [if_pos h, if_pos h]
  · rw [if_neg h, if_neg h]
theorem i_vc0 : wpX_init (fun u => wpY_init (fun v => i_Rel 0 u v)) := by
  refine nm_r (na_k (f := fun _ => 0) 0 1) (nm_r (na_k 1 4) (nm_r (na_k 2 16) (nm_r (na_k 3 5) ?_)))
  refine ⟨0, 0, 1, fun _ => 0, fun _ => 0, fun _ => 0, fun _ => 0, fun _ => 0, fun _ => 0, fun _ => 0, fun _ => 0, _, fun _ => 0, fun _ => 0, fun _ => 0, fun _ => 0, fun _ => 0, fun _ => 0, fun _ => 1, rfl, rfl, ⟨by decide, fun _ => (by decide : 0 ≤ 2), fun _ => (by decide : 0 ≤ 10), by decide, fun _ => (by decide : 0 ≤ 20), fun i h => absurd h (Nat.not_lt_zero _), fun i k h => absurd h (Nat.not_lt_zero _)⟩, fun _ => (by decide : 0 < 4), ?_, fun _ => (by decide : 0 < 4), Or.inl rfl⟩
  decide
theorem sP_cg {p p' : Nat → Nat} (n : Nat) (h : ∀ i, i < n → p i = p' i) : sP p n = sP p' n := by
  induction n with
  | zero => rfl
  | succ n ih => show sP p n + p n = sP p' n + p' n; rw [ih (fun i hi => h i (by omega)), h n (by omega)]
section
variable {k c w : Nat} {st : Int32} {pc tc tk fc fe nt sk sc cc gs stk yn dn gd nb ys : Nat → Nat}
theorem RQ_dec {p : Nat} (R : RQ c pc tc tk fc fe) (hc : c < 4) (hp : p ≤ 2) (h6 : p + sP pc c ≤ 6) : RQ (c + 1) (un pc c p) (un tc c 0) tk (un fc c 0) (un fe c 0) ∧ sP (un pc c p) (c + 1) = sP pc c + p := by
  obtain ⟨h1, h2, h3, h4, h5, h7, h8⟩ := R
  have e : sP (un pc c p) (c + 1) = sP pc c + p := by
    show sP (un pc c p) c + un pc c p c = _
    rw [un_s, sP_cg c (fun i hi => un_n (by omega))]
  refine ⟨⟨by omega, fun i => ?_, h3, by omega, fun i => ?_, fun i hi => ?_, fun i k hi hk => ?_⟩, e⟩
  · unfold un; split
    · exact hp
    · exact h2 i
  · unfold un; split
    · omega
    · exact h5 i
  · by_cases e : i = c
    · rw [e, un_s, un_s, un_s]; exact ⟨rfl, rfl⟩
    · rw [un_n e, un_n e, un_n e]; exact h7 i (by omega)
  · by_cases e : i = c
    · rw [e, un_s] at hk; omega
    · rw [un_n e] at hk
      obtain ⟨m1, m2, m3⟩ := h8 i k (by omega) hk
      refine ⟨m1, ?_, fun z => ?_⟩
      · rw [un_n e]; exact m2
      · have := m3 z; omega
end
theorem i_vc_declare {k : Nat} {u : SX} {v : SY} (I : i_Rel k u v) (hk : k + 4 ≤ 2048) (v1 : Int32) : wpX_declare (fun r u' => wpY_declare (fun r' v' => r' = r ∧ i_Rel (k + 4) u' v') v v1) u v1 := by
  obtain ⟨c, w, st, pc, tc, tk, fc, fe, nt, sk, sc, cc, gs, stk, yn, dn, gd, nb, ys, rfl, rfl, R, h2, h3, h4, h5⟩ := I
  have hc := R.1
  have hs := R.2.2.2.1
  by_cases h0 : v1 < 0
  · exact br_t h0 (br_t h0 ⟨rfl, r_mk R h2 h3 h4 h5⟩)
  · obtain ⟨p, hp, rfl⟩ := nI_of h0
    refine br_f h0 (pk_le p 2 (fun hp2 => ?_) (fun hp2 => br_f h0 (br_f (nI_ge (a := 2) hp2 hp) ⟨rfl, r_mk R h2 h3 h4 h5⟩)))
    have yw : ∀ {post : Int32 → SY → Prop}, ((4 ≤ c ∨ 6 < p + sP pc c) → post (-2) ((nI c), (na pc), (na tc), (na tk), (na yn), (na dn), (na gd), (na nb), (ny ys))) → (c < 4 → p + sP pc c ≤ 6 → post (nI c) ((nI (c + 1)), (na (un pc c p)), (na (un tc c 0)), (na tk), (na yn), (na dn), (na gd), (na nb), (ny ys))) → wpY_declare post ((nI c), (na pc), (na tc), (na tk), (na yn), (na dn), (na gd), (na nb), (ny ys)) (nI p) := fun hf hy => br_f h0 (br_t (nI_le (b := 2) hp2 (by omega)) ⟨c + 1, y_dc15 hc R.2.1 hp2 hf hy c 0 (by omega)⟩)
    refine pk_le 4 c (fun h4c => yw (fun _ => ⟨rfl, r_mk R h2 h3 h4 h5⟩) (fun z => absurd z (by omega))) (fun h4c => ?_)
    rw [nI_add]
    refine pk_le (sP pc c + p) 6 (fun h6 => ⟨pk_in c 4 h4c, nm_r (na_upd c p) ⟨pk_in c 4 h4c, nm_r (na_upd c 0) ⟨pk_in c 4 h4c, nm_r (na_upd c 0) ⟨pk_in c 4 h4c, nm_r (na_upd c 0) (nm_r (nI_1 _) (nm_e ?_))⟩⟩⟩⟩) (fun h6 => yw (fun _ => ⟨rfl, r_mk R h2 h3 h4 h5⟩) (fun _ z => absurd z (by omega)))
    refine yw (fun z => absurd z (by omega)) (fun _ h6' => ⟨rfl, ?_⟩)
    obtain ⟨R', e⟩ := RQ_dec R h4c hp2 h6'
    rw [← e]
    exact r_mk R' h2 h3 h4 (Or.inl rfl)
theorem i_vc_types {k : Nat} {u : SX} {v : SY} (I : i_Rel k u v) (hk : k + 4 ≤ 2048) : wpX_types (fun r => wpY_types (fun r' => r' = r ∧ i_Rel (k + 4) u v) v) u := by
  obtain ⟨c, w, st, pc, tc, tk, fc, fe, nt, sk, sc, cc, gs, stk, yn, dn, gd, nb, ys, rfl, rfl, R, h2, h3, h4, h5⟩ := I
  exact ⟨rfl, r_mk R h2 h3 h4 h5⟩
theorem i_vc_clear {k : Nat} {u : SX} {v : SY} (I : i_Rel k u v) (hk : k + 4 ≤ 2048) : wpX_clear (fun u' => wpY_clear (fun v' => i_Rel (k + 4) u' v') v) u := by
  obtain ⟨c, w, st, pc, tc, tk, fc, fe, nt, sk, sc, cc, gs, stk, yn, dn, gd, nb, ys, rfl, rfl, R, h2, h3, h4, h5⟩ := I
  obtain ⟨r1, r2, r3, r4, r5, r6, r7⟩ := R
  exact ⟨0, w, 1, pc, tc, tk, fc, fe, nt, sk, sc, cc, gs, stk, yn, dn, gd, nb, ys, rfl, rfl, ⟨by omega, r2, r3, by show 0 ≤ 6; omega, r5, fun i h => absurd h (Nat.not_lt_zero _), fun i k h => absurd h (Nat.not_lt_zero _)⟩, h2, h3, h4, Or.inl rfl⟩
theorem i_vc_parameters {k : Nat} {u : SX} {v : SY} (I : i_Rel k u v) (hk : k + 4 ≤ 2048) (v1 : Int32) : wpX_parameters (fun r => wpY_parameters (fun r' => r' = r ∧ i_Rel (k + 4) u v) v v1) u v1 := by
  obtain ⟨c, w, st, pc, tc, tk, fc, fe, nt, sk, sc, cc, gs, stk, yn, dn, gd, nb, ys, rfl, rfl, R, h2, h3, h4, h5⟩ := I
  have hc := R.1
  unfold wpX_parameters wpY_parameters
  rcases pk_ix v1 (n := c) (by omega) with h | h | ⟨i, hi, rfl⟩
  · exact x_dn (Or.inl h) (br_t rfl (y_dn (Or.inl h) (br_t rfl ⟨rfl, r_mk R h2 h3 h4 h5⟩)))
  · exact x_dn (Or.inr h) (br_t rfl (y_dn (Or.inr h) (br_t rfl ⟨rfl, r_mk R h2 h3 h4 h5⟩)))
  · exact x_dy hc hi (br_f (by decide) ⟨pk_in i 4 (by omega), y_dy hc hi (br_f (by decide) ⟨pk_in i 4 (by omega), rfl, r_mk R h2 h3 h4 h5⟩)⟩)
theorem i_vc_fields {k : Nat} {u : SX} {v : SY} (I : i_Rel k u v) (hk : k + 4 ≤ 2048) (v1 : Int32) : wpX_fields (fun r => wpY_fields (fun r' => r' = r ∧ i_Rel (k + 4) u v) v v1) u v1 := by
  obtain ⟨c, w, st, pc, tc, tk, fc, fe, nt, sk, sc, cc, gs, stk, yn, dn, gd, nb, ys, rfl, rfl, R, h2, h3, h4, h5⟩ := I
  have hc := R.1
  unfold wpX_fields
  rcases pk_ix v1 (n := c) (by omega) with h | h | ⟨i, hi, rfl⟩
  · refine x_dn (Or.inl h) (br_t rfl ?_)
    unfold wpY_fields
    exact y_dn (Or.inl h) (br_t rfl ⟨rfl, r_mk R h2 h3 h4 h5⟩)
  · refine x_dn (Or.inr h) (br_t rfl ?_)
    unfold wpY_fields
    exact y_dn (Or.inr h) (br_t rfl ⟨rfl, r_mk R h2 h3 h4 h5⟩)
  · refine x_dy hc hi (br_f (by decide) ⟨pk_in i 4 (by omega), y_fl hc hi R.2.2.1 (R.2.2.2.2.1 i) ⟨?_, r_mk R h2 h3 h4 h5⟩⟩)
    rw [na_i i, (R.2.2.2.2.2.1 i hi).2]
section
variable {k c w : Nat} {st : Int32} {pc tc tk fc fe nt sk sc cc gs stk yn dn gd nb ys : Nat → Nat}
theorem tp_un {tk : Nat → Nat} {i j k n t : Nat} (hk : k < 20) (hn : n < 20) (h : j ≠ i ∨ k ≠ n) : tp (un tk (i * 20 + n) t) j k = tp tk j k := by
  unfold tp
  exact un_n (by omega)
theorem RQ_tok {i t : Nat} (R : RQ c pc tc tk fc fe) (hi : i < c) (h20 : tc i < 20) (ht : mS c pc i t) : RQ c pc (un tc i (tc i + 1)) (un tk (i * 20 + tc i) t) (un fc i (rF (tp (un tk (i * 20 + tc i) t) i) (un tc i (tc i + 1) i))) (un fe i (rE (tp (un tk (i * 20 + tc i) t) i) (un tc i (tc i + 1) i))) := by
  obtain ⟨h1, h2, h3, h4, h5, h7, h8⟩ := R
  refine ⟨h1, h2, fun q => ?_, h4, fun j => ?_, fun j hj => ?_, fun j k hj hk => ?_⟩
  · unfold un; split
    · exact ht.1
    · exact h3 q
  · unfold un; split
    · omega
    · exact h5 j
  · by_cases e : j = i
    · rw [e, un_s, un_s, un_s]; exact ⟨rfl, rfl⟩
    · rw [un_n e, un_n e, un_n e, (h7 j hj).1, (h7 j hj).2]
      have := h5 j
      obtain ⟨g1, g2, g3⟩ := r_cg (t := tp tk j) (t' := tp (un tk (i * 20 + tc i) t) j) (n := tc j) (fun k hk => (tp_un (by omega) h20 (Or.inl e)).symm)
      exact ⟨g3, g2⟩
  · have := h5 j
    by_cases e : j = i
    · subst e
      rw [un_s] at hk
      by_cases ek : k = tc j
      · rw [ek, show tp (un tk (j * 20 + tc j) t) j (tc j) = t from un_s]; exact ht
      · rw [tp_un (by omega) h20 (Or.inr ek)]; exact h8 j k hj (by omega)
    · rw [un_n e] at hk
      rw [tp_un (by omega) h20 (Or.inl e)]
      exact h8 j k hj hk
theorem RQ_back {i : Nat} (R : RQ c pc tc tk fc fe) (hi : i < c) : RQ c pc (un tc i (tc i - 1)) tk (un fc i (rF (tp tk i) (un tc i (tc i - 1) i))) (un fe i (rE (tp tk i) (un tc i (tc i - 1) i))) := by
  obtain ⟨h1, h2, h3, h4, h5, h7, h8⟩ := R
  refine ⟨h1, h2, h3, h4, fun j => ?_, fun j hj => ?_, fun j k hj hk => ?_⟩
  · unfold un; split
    · have := h5 i; omega
    · exact h5 j
  · by_cases e : j = i
    · rw [e, un_s, un_s, un_s]; exact ⟨rfl, rfl⟩
    · rw [un_n e, un_n e, un_n e]; exact h7 j hj
  · by_cases e : j = i
    · subst e
      rw [un_s] at hk
      exact h8 j k hj (by omega)
    · rw [un_n e] at hk
      exact h8 j k hj hk
theorem y_tk40 {post : Int32 → SY → Prop} {i t : Nat} (hc : c ≤ 4) (h10 : t ≤ 10) (h12 : t = 1 ∨ t = 2 → t ≤ pc i) (hy : mS c pc i t → wY_token_59 post (nI i) (nI t) (nI c) (na pc) (na tc) (na tk) (na yn) (na dn) (na gd) (na nb) (ny ys)) (hn : ¬ mS c pc i t → post (-1) ((nI c), (na pc), (na tc), (na tk), (na yn), (na dn), (na gd), (na nb), (ny ys))) : wY_token_40 post (nI i) (nI t) (nI c) (na pc) (na tc) (na tk) (na yn) (na dn) (na gd) (na nb) (ny ys) := by
  refine pk_lt t 7 (fun h => hy ⟨h10, h12, by omega⟩) (fun h => ?_)
  rw [((kj_t7 t (by omega)).1 h).2.2]
  exact pk_lt (t - 7) c (fun z => hy ⟨h10, h12, fun _ => z⟩) (fun z => hn (fun y => by have := y.2.2 h; omega))
theorem y_tok {post : Int32 → SY → Prop} {i t : Nat} (hc : c ≤ 4) (hi : i < c) (h2 : ∀ i, pc i ≤ 2) (ht : t < 2 ^ 31) (hy : mS c pc i t → wY_token_59 post (nI i) (nI t) (nI c) (na pc) (na tc) (na tk) (na yn) (na dn) (na gd) (na nb) (ny ys)) (hn : ¬ mS c pc i t → post (-1) ((nI c), (na pc), (na tc), (na tk), (na yn), (na dn), (na gd), (na nb), (ny ys))) : wpY_token post ((nI c), (na pc), (na tc), (na tk), (na yn), (na dn), (na gd), (na nb), (ny ys)) (nI i) (nI t) := by
  have := h2 i
  unfold wpY_token
  have t30 : t = 1 ∨ t = 2 → t ≤ 10 → wY_token_30 post (nI i) (nI t) (nI c) (na pc) (na tc) (na tk) (na yn) (na dn) (na gd) (na nb) (ny ys) := by
    intro h12 h10
    refine ⟨pk_in i 4 (by omega), ?_⟩
    rw [na_i i]
    exact pk_lt (pc i) t (fun z => hn (fun y => by have := y.2.1 h12; omega)) (fun z => y_tk40 hc h10 (fun _ => z) hy hn)
  refine y_dy hc hi (br_f (by decide) (br_f (nI_pos ht) (pk_le t 10 (fun h10 => ?_) (fun h10 => hn (fun y => by have := y.1; omega)))))
  exact pk_eq t 1 (fun h1 => t30 (Or.inl h1) h10) (fun h1 => pk_eq t 2 (fun h2' => t30 (Or.inr h2') h10) (fun h2' => y_tk40 hc h10 (by omega) hy hn))
theorem y_tokb {post : Int32 → SY → Prop} {i : Nat} {v2 : Int32} (hc : c ≤ 4) (hi : i < c) (h : v2 < 0) (hp : post (-1) ((nI c), (na pc), (na tc), (na tk), (na yn), (na dn), (na gd), (na nb), (ny ys))) : wpY_token post ((nI c), (na pc), (na tc), (na tk), (na yn), (na dn), (na gd), (na nb), (ny ys)) (nI i) v2 := by
  unfold wpY_token
  exact y_dy hc hi (br_f (by decide) (br_t h hp))
theorem y_toku {post : Int32 → SY → Prop} {v1 v2 : Int32} (h : v1 < 0 ∨ nI c ≤ v1) (hp : post (-1) ((nI c), (na pc), (na tc), (na tk), (na yn), (na dn), (na gd), (na nb), (ny ys))) : wpY_token post ((nI c), (na pc), (na tc), (na tk), (na yn), (na dn), (na gd), (na nb), (ny ys)) v1 v2 := by
  unfold wpY_token
  exact y_dn h (br_t rfl hp)
end
theorem i_vc_token {k : Nat} {u : SX} {v : SY} (I : i_Rel k u v) (hk : k + 4 ≤ 2048) (v1 : Int32) (v2 : Int32) : wpX_token (fun r u' => wpY_token (fun r' v' => r' = r ∧ i_Rel (k + 4) u' v') v v1 v2) u v1 v2 := by
  obtain ⟨c, w, st, pc, tc, tk, fc, fe, nt, sk, sc, cc, gs, stk, yn, dn, gd, nb, ys, rfl, rfl, R, h2, h3, h4, h5⟩ := I
  have hc := R.1
  unfold wpX_token
  rcases pk_ix v1 (n := c) (by omega) with h | h | ⟨i, hi, rfl⟩
  · exact x_dn (Or.inl h) (br_t rfl (y_toku (Or.inl h) ⟨rfl, r_mk R h2 h3 h4 h5⟩))
  · exact x_dn (Or.inr h) (br_t rfl (y_toku (Or.inr h) ⟨rfl, r_mk R h2 h3 h4 h5⟩))
  · refine x_dy hc hi (br_f (by decide) ?_)
    have hs := R.2.2.2.2.1 i
    by_cases h0 : v2 < 0
    · exact x_mayb h0 (br_t rfl (y_tokb hc hi h0 ⟨rfl, r_mk R h2 h3 h4 h5⟩))
    · obtain ⟨t, ht, rfl⟩ := nI_of h0
      refine x_may hc hi R.2.1 (fun hm => br_f (by decide) ⟨pk_in i 4 (by omega), ?_⟩) (fun hm => br_t rfl (y_tok hc hi R.2.1 ht (fun z => absurd z hm) (fun _ => ⟨rfl, r_mk R h2 h3 h4 h5⟩))) ht
      rw [na_i i]
      refine pk_lt (tc i) 20 (fun h20 => ⟨pk_in i 4 (by omega), pk_in (i * 20 + tc i) 80 (by omega) (kj_ix20 i _), nm_r (na_upd (i * 20 + tc i) t (kj_ix20 i _) rfl) ⟨pk_in i 4 (by omega), pk_in i 4 (by omega), nm_r (na_upd i (tc i + 1) rfl (nI_1 _)) ?_⟩⟩) (fun h20 => y_tok hc hi R.2.1 ht (fun _ => ⟨pk_in i 4 (by omega), ?_⟩) (fun z => absurd hm z))
      · have R' := RQ_tok R hi h20 hm
        refine x_ff (by omega) R'.2.2.1 (R'.2.2.2.2.1 i) ⟨pk_in i 4 (by omega), y_tok hc hi R.2.1 ht (fun _ => ⟨pk_in i 4 (by omega), ?_⟩) (fun z => absurd hm z)⟩
        rw [na_i i, na_i i, un_s]
        refine br_t (nI_lt (b := 20) h20 (by omega)) ⟨pk_in i 4 (by omega), pk_in (i * 20 + tc i) 80 (by omega) (kj_ix20' i _), nm_r (na_upd (i * 20 + tc i) t (kj_ix20' i _) rfl) ⟨pk_in i 4 (by omega), pk_in i 4 (by omega), nm_r (na_upd i (tc i + 1) rfl (nI_1 _)) (y_fl hc hi R'.2.2.1 (R'.2.2.2.2.1 i) ⟨rfl, r_mk R' h2 h3 h4 (Or.inl rfl)⟩)⟩⟩
      · rw [na_i i]
        exact br_f (nI_nlt (b := 20) h20 (by omega)) ⟨rfl, r_mk R h2 h3 h4 h5⟩
section
variable {k c w : Nat} {st : Int32} {pc tc tk fc fe nt sk sc cc gs stk yn dn gd nb ys : Nat → Nat}
theorem y_bku {post : Int32 → SY → Prop} {v1 : Int32} (h : v1 < 0 ∨ nI c ≤ v1) (hp : post (-1) ((nI c), (na pc), (na tc), (na tk), (na yn), (na dn), (na gd), (na nb), (ny ys))) : wpY_back post ((nI c), (na pc), (na tc), (na tk), (na yn), (na dn), (na gd), (na nb), (ny ys)) v1 := by
  unfold wpY_back
  exact y_dn h (br_t rfl hp)
theorem y_bk0 {post : Int32 → SY → Prop} {i : Nat} (hc : c ≤ 4) (hi : i < c) (h0 : tc i = 0) (hp : post (-1) ((nI c), (na pc), (na tc), (na tk), (na yn), (na dn), (na gd), (na nb), (ny ys))) : wpY_back post ((nI c), (na pc), (na tc), (na tk), (na yn), (na dn), (na gd), (na nb), (ny ys)) (nI i) := by
  unfold wpY_back
  exact y_dy hc hi (br_f (by decide) ⟨pk_in i 4 (by omega), br_t (by rw [na_i i, h0]; rfl) hp⟩)
theorem y_bk1 {post : Int32 → SY → Prop} {i : Nat} (hc : c ≤ 4) (hi : i < c) (hs : tc i ≤ 20) (h0 : ¬ tc i = 0) (hp : post (nI (tk (i * 20 + (tc i - 1)))) ((nI c), (na pc), (na (un tc i (tc i - 1))), (na tk), (na yn), (na dn), (na gd), (na nb), (ny ys))) : wpY_back post ((nI c), (na pc), (na tc), (na tk), (na yn), (na dn), (na gd), (na nb), (ny ys)) (nI i) := by
  have em : na tc (nI i).toNatClampNeg - 1 = nI (tc i - 1) := by rw [na_i i]; exact pk_sub (a := tc i) (b := 1) (by omega)
  have ex : 20 * nI i + na (un tc i (tc i - 1)) (nI i).toNatClampNeg = nI (i * 20 + (tc i - 1)) := by rw [na_i i, un_s, kj_ix20']
  unfold wpY_back
  refine y_dy hc hi (br_f (by decide) ⟨pk_in i 4 (by omega), br_f (by rw [na_i i]; exact nI_ne0 (by omega) (by omega)) ⟨pk_in i 4 (by omega), pk_in i 4 (by omega), nm_r (na_upd i (tc i - 1) rfl em) ⟨pk_in i 4 (by omega), pk_in _ 80 (by omega) ex, ?_⟩⟩⟩)
  rw [na_at _ ex]
  exact hp
end
theorem i_vc_back {k : Nat} {u : SX} {v : SY} (I : i_Rel k u v) (hk : k + 4 ≤ 2048) (v1 : Int32) : wpX_back (fun r u' => wpY_back (fun r' v' => r' = r ∧ i_Rel (k + 4) u' v') v v1) u v1 := by
  obtain ⟨c, w, st, pc, tc, tk, fc, fe, nt, sk, sc, cc, gs, stk, yn, dn, gd, nb, ys, rfl, rfl, R, h2, h3, h4, h5⟩ := I
  have hc := R.1
  unfold wpX_back
  rcases pk_ix v1 (n := c) (by omega) with h | h | ⟨i, hi, rfl⟩
  · exact x_dn (Or.inl h) (br_t rfl (y_bku (Or.inl h) ⟨rfl, r_mk R h2 h3 h4 h5⟩))
  · exact x_dn (Or.inr h) (br_t rfl (y_bku (Or.inr h) ⟨rfl, r_mk R h2 h3 h4 h5⟩))
  · have hs := R.2.2.2.2.1 i
    refine x_dy hc hi (br_f (by decide) ⟨pk_in i 4 (by omega), ?_⟩)
    rw [na_i i]
    refine pk_eq (tc i) 0 (fun h0 => y_bk0 hc hi h0 ⟨rfl, r_mk R h2 h3 h4 h5⟩) (fun h0 => ?_)
    have em : nI (tc i) - 1 = nI (tc i - 1) := pk_sub (a := tc i) (b := 1) (by omega)
    have ex : nI i * 20 + na (un tc i (tc i - 1)) (nI i).toNatClampNeg = nI (i * 20 + (tc i - 1)) := by rw [na_i i, un_s, kj_ix20]
    have R' := RQ_back R hi
    refine ⟨pk_in i 4 (by omega), pk_in i 4 (by omega), nm_r (na_upd i (tc i - 1) rfl em) (x_ff (by omega) R.2.2.1 (R'.2.2.2.2.1 i) ⟨pk_in i 4 (by omega), pk_in _ 80 (by omega) ex, y_bk1 hc hi hs h0 ⟨?_, r_mk R' h2 h3 h4 (Or.inl rfl)⟩⟩)⟩
    rw [na_at _ ex]
end
section
section
variable {k c w : Nat} {st : Int32} {pc tc tk fc fe nt sk sc cc gs stk yn dn gd nb ys : Nat → Nat}
/-! needs, group -/
def gl (S : Nat) : Nat → Nat → Nat
  | 0, j => j
  | d + 1, j => if S.testBit j = true then j else gl S d (j + 1)
theorem x_gs {post : Int32 → SX → Prop} {S i pt : Nat} (hS : S < 16) (hi : i < 4) : ∀ d j, j + d = i → post (nI (gl S d j)) ((nI c), (nI pt), st, (nI w), (na pc), (na tc), (na tk), (na fc), (na fe), (na nt), (na sk), (na sc), (na cc), (na gs), (na stk)) → wX_group_22 post (nI i) (nI S) (nI c) (nI pt) st (nI w) (na pc) (na tc) (na tk) (na fc) (na fe) (na nt) (na sk) (na sc) (na cc) (na gs) (na stk) (d + 1) (nI j) := by
  intro d
  induction d with
  | zero =>
    intro j hj hp
    have hj : j = i := by omega
    subst hj
    exact br_t (nI_le (Nat.le_refl _) (by omega)) hp
  | succ d ih =>
    intro j hj hp
    refine br_f (nI_ge (by omega) (by omega)) (x_ho (by omega) (by omega) (fun h => br_f (by decide) ?_) (fun h => br_t rfl (nm_r (nI_1 _) (ih (j + 1) (by omega) ?_))))
    · rw [show gl S (d + 1) j = j from if_pos h] at hp; exact hp
    · rw [show gl S (d + 1) j = gl S d (j + 1) from if_neg h] at hp; exact hp
theorem y_gs {post : Int32 → SY → Prop} {S i : Nat} (hS : S < 16) (hi : i < 4) (hb : S.testBit i = true) : ∀ d j, j + d = i → post (nI (gl S d j)) ((nI c), (na pc), (na tc), (na tk), (na yn), (na dn), (na gd), (na nb), (ny ys)) → wY_group_22 post (nI S) (nI c) (na pc) (na tc) (na tk) (na yn) (na dn) (na gd) (na nb) (ny ys) (d + 1) (nI j) := by
  intro d
  induction d with
  | zero =>
    intro j hj hp
    have hj : j = i := by omega
    subst hj
    exact br_f (nI_ge (b := 4) (by omega) (by omega)) (br_t (kj_bit1 (by omega) (by omega) hb) hp)
  | succ d ih =>
    intro j hj hp
    refine br_f (nI_ge (b := 4) (by omega) (by omega)) (bj_1 (by omega) (by omega) (fun h => ?_) (fun h => nm_r (nI_1 _) (ih (j + 1) (by omega) ?_)))
    · rw [show gl S (d + 1) j = j from if_pos h] at hp; exact hp
    · rw [show gl S (d + 1) j = gl S d (j + 1) from if_neg h] at hp; exact hp
/-! well -/
theorem y_wu {post : Int32 → SY → Prop} {v1 : Int32} (D : DQ c pc tc tk fe) (hk : ∀ q, nb q < 4) (h : v1 < 0 ∨ nI c ≤ v1) (hp : ∀ yn' dn' gd' nb' ys', (∀ q, nb' q < 4) → post 0 ((nI c), (na pc), (na tc), (na tk), (na yn'), (na dn'), (na gd'), (na nb'), (ny ys'))) : wpY_well post ((nI c), (na pc), (na tc), (na tk), (na yn), (na dn), (na gd), (na nb), (ny ys)) v1 := by
  unfold wpY_well
  exact y_sa D hk (fun yn' dn' gd' nb' ys' _ hY => y_dn h (br_t rfl (hp yn' dn' gd' nb' ys' hY.2.2.1)))
theorem y_w {post : Int32 → SY → Prop} {i : Nat} (D : DQ c pc tc tk fe) (hk : ∀ q, nb q < 4) (hi : i < c) (hp : ∀ yn' dn' gd' nb' ys', (∀ i, i < 4 → yn' i = NN c tk fe i) → YI c pc (pR c (NN c tk fe) pc tk fe 4) dn' gd' nb' → ((pR c (NN c tk fe) pc tk fe 4).2.1.testBit i = true → post 1 ((nI c), (na pc), (na tc), (na tk), (na yn'), (na dn'), (na gd'), (na nb'), (ny ys'))) ∧ (¬ (pR c (NN c tk fe) pc tk fe 4).2.1.testBit i = true → post 0 ((nI c), (na pc), (na tc), (na tk), (na yn'), (na dn'), (na gd'), (na nb'), (ny ys')))) : wpY_well post ((nI c), (na pc), (na tc), (na tk), (na yn), (na dn), (na gd), (na nb), (ny ys)) (nI i) := by
  have hc := D.1
  unfold wpY_well
  refine y_sa D hk (fun yn' dn' gd' nb' ys' hN hY => y_dy hc hi (br_f (by decide) ⟨pk_in i 4 (by omega), ?_⟩))
  have hg := hY.2.1 i (by omega)
  rw [na_i i]
  obtain ⟨a, b⟩ := hp yn' dn' gd' nb' ys' hN hY
  by_cases z : (pR c (NN c tk fe) pc tk fe 4).2.1.testBit i = true
  · rw [if_pos z] at hg
    exact pk_eq (gd' i) 0 (fun y => by omega) (fun _ => a z) rfl rfl (by omega) (by omega)
  · rw [if_neg z] at hg
    exact pk_eq (gd' i) 0 (fun _ => b z) (fun y => by omega) rfl rfl (by omega) (by omega)
/-! could -/
theorem y_cd46 {post : Int32 → SY → Prop} {S i a kk : Nat} (D : DQ c pc tc tk fe) (hS : S < 16) (hSc : ∀ j, S.testBit j = true → j < c) (hk : ∀ q, nb q < 4) (hi : i < 4) (ha : a < 2) (hkk : kk < 4)
    (hy : ∀ nb' s, (∀ q, nb' q < 4) → Cd pc tk fe S nb (i * 2 + a) kk → post 1 ((nI c), (na pc), (na tc), (na tk), (na yn), (na dn), (na gd), (na nb'), (ny s)))
    (hn : ∀ nb' s, (∀ q, nb' q < 4) → ¬ Cd pc tk fe S nb (i * 2 + a) kk → post 0 ((nI c), (na pc), (na tc), (na tk), (na yn), (na dn), (na gd), (na nb'), (ny s))) :
    ∀ d m nb' s, m + d = 4096 → (∀ q, (q < 8 ∧ iG S pc q = true) ∨ nb' q = nb q) → (∀ q, nb' q < 4) → (∀ ch, ch < m → ¬ (ch < 4 ^ cb S pc 8 ∧ Ft pc tk fe S (tG S pc ch nb) ∧ tG S pc ch nb (i * 2 + a) = kk)) → wY_could_46 post (nI i) (nI a) (nI kk) (nI S) (d + 1) 0 (nI m) (nI c) (na pc) (na tc) (na tk) (na yn) (na dn) (na gd) (na nb') (ny s) := by
  have h6 := cb_6 D.1 hSc D.2.2.2.1
  have hC6 : 4 ^ cb S pc 8 ≤ 4096 := Nat.pow_le_pow_right (n := 4) (j := 6) (by omega) h6
  intro d
  induction d with
  | zero =>
    intro m nb' s hm i1 i2 hl
    have hm : m = 4096 := by omega
    subst hm
    refine br_t (nI_le (Nat.le_refl _) (by omega)) ⟨nb_0, hn nb' s i2 ?_⟩
    rintro ⟨ch, z⟩
    exact hl ch (by omega) z
  | succ d ih =>
    intro m nb' s hm i1 i2 hl
    have ex := kj_ix2' i a
    have nx : ¬ (m < 4 ^ cb S pc 8 ∧ Ft pc tk fe S (tG S pc m nb) ∧ tG S pc m nb (i * 2 + a) = kk) → ∀ ch, ch < m + 1 → ¬ (ch < 4 ^ cb S pc 8 ∧ Ft pc tk fe S (tG S pc ch nb) ∧ tG S pc ch nb (i * 2 + a) = kk) := by
      intro z j hj
      by_cases e : j = m
      · rw [e]; exact z
      · exact hl j (by omega)
    refine br_f (nI_ge (b := 4096) (by omega) (by omega)) (br_t rfl (y_ch hS D.2.1 (by omega) (fun hC => br_f (by decide) ⟨pk_in (i * 2 + a) 8 (by omega) ex, ?_⟩) (fun hC => br_t rfl (nm_r (nI_1 _) ?_))))
    · rw [tG_tG i1, na_at _ ex]
      have hlt := tG_lt (S := S) (pc := pc) (ch := m) hk (i * 2 + a)
      refine pk_eq (tG S pc m nb (i * 2 + a)) kk (fun he => ?_) (fun he => nm_r (nI_1 _) (ih (m + 1) _ s (by omega) tG_o (tG_lt hk) (nx (fun z => he z.2.2))))
      refine y_ft D hS hSc (tG_lt hk) (fun s' => ⟨fun hf => br_f (by decide) (nm_r (nI_1 _) ?_), fun hf => br_t rfl (nm_r (nI_1 _) (ih (m + 1) _ s' (by omega) tG_o (tG_lt hk) (nx (fun z => hf z.2.1))))⟩)
      have fin := hy (tG S pc m nb) s' (tG_lt hk) ⟨m, hC, hf, he⟩
      obtain ⟨d', hd'⟩ : ∃ d', d + 1 = d' + 1 := ⟨d, rfl⟩
      exact pk_le 4096 (m + 1) (fun _ => ⟨nb_1, fin⟩) (fun _ => br_f (by decide) ⟨nb_1, fin⟩)
    · rw [tG_tG i1]
      exact ih (m + 1) _ s (by omega) tG_o (tG_lt hk) (nx (fun z => hC z.1))
/-! applied -/
def HV (W : Nat) (v : Int32) : Prop := ∃ t, t < 8 ∧ v = nI t ∧ (t < 4 ∨ W.testBit (t - 4) = true)
theorem kj_s4 {t : Nat} (h : 4 ≤ t) : nI t - 4 = nI (t - 4) := pk_sub (a := t) (b := 4) h
theorem x_hk {post : Int32 → Prop} {v : Int32} {pt : Nat} (hw : w < 16) (hy : HV w v → post 1) (hn : ¬ HV w v → post 0) : wpX_hasKind post ((nI c), (nI pt), st, (nI w), (na pc), (na tc), (na tk), (na fc), (na fe), (na nt), (na sk), (na sc), (na cc), (na gs), (na stk)) v := by
  unfold wpX_hasKind
  by_cases h0 : v < 0
  · refine br_t h0 (hn ?_)
    rintro ⟨t, h8, rfl, _⟩
    exact nI_pos (by omega) h0
  · obtain ⟨t, ht, rfl⟩ := nI_of h0
    have inj : HV w (nI t) → t < 8 ∧ (t < 4 ∨ w.testBit (t - 4) = true) := by
      rintro ⟨t', h8, e, h⟩
      rw [nI_eq ht (by omega)] at e
      rw [e]; exact ⟨h8, h⟩
    refine br_f h0 (pk_lt t 8 (fun h8 => pk_lt t 4 (fun h4 => hy ⟨t, h8, rfl, Or.inl h4⟩) (fun h4 => ?_)) (fun h8 => hn (fun z => by have := (inj z).1; omega)))
    rw [kj_s4 h4]
    exact x_ho (by omega) (by omega) (fun hb => br_f (by decide) (hy ⟨t, h8, rfl, Or.inr hb⟩)) (fun hb => br_t rfl (hn (fun z => (inj z).2.elim (fun y => by omega) hb)))
def nuX (v : Nat) : Int32 := if v = 1 then 0 else if v = 4 then 1 else if v = 16 then 2 else if v = 5 then 3 else -1
theorem x_al {post : Int32 → SX → Prop} {v pt : Nat} (hv : v < 32) (hcc : ∀ q, q < 4 → cc q = nc q) (hp : post (nuX v) ((nI c), (nI pt), st, (nI w), (na pc), (na tc), (na tk), (na fc), (na fe), (na nt), (na sk), (na sc), (na cc), (na gs), (na stk))) : ∃ n, wX_applied_42 post (nI v) (nI c) (nI pt) st (nI w) (na pc) (na tc) (na tk) (na fc) (na fe) (na nt) (na sk) (na sc) (na cc) (na gs) (na stk) n 0 := by
  have stp : ∀ x n, x < 4 → (nc x = v → post (nI x) ((nI c), (nI pt), st, (nI w), (na pc), (na tc), (na tk), (na fc), (na fe), (na nt), (na sk), (na sc), (na cc), (na gs), (na stk))) → (nc x ≠ v → wX_applied_42 post (nI v) (nI c) (nI pt) st (nI w) (na pc) (na tc) (na tk) (na fc) (na fe) (na nt) (na sk) (na sc) (na cc) (na gs) (na stk) n (nI (x + 1))) → wX_applied_42 post (nI v) (nI c) (nI pt) st (nI w) (na pc) (na tc) (na tk) (na fc) (na fe) (na nt) (na sk) (na sc) (na cc) (na gs) (na stk) (n + 1) (nI x) := by
    intro x n hx h1 h2
    have := (nc_vc x).1
    refine br_f (nI_ge (b := 4) hx (by omega)) ⟨pk_in x 8 (by omega), ?_⟩
    rw [na_i x, hcc x hx]
    exact pk_eq (nc x) v h1 (fun z => nm_r (nI_1 _) (h2 z))
  unfold nuX at hp
  refine ⟨5, stp 0 4 (by omega) (fun e => ?_) (fun e0 => stp 1 3 (by omega) (fun e => ?_) (fun e1 => stp 2 2 (by omega) (fun e => ?_) (fun e2 => stp 3 1 (by omega) (fun e => ?_) (fun e3 => br_t (nI_le (Nat.le_refl _) (by omega)) ?_))))⟩
  · rw [show nc 0 = 1 from rfl] at e
    rw [if_pos e.symm] at hp; exact hp
  · rw [show nc 0 = 1 from rfl] at e0
    rw [show nc 1 = 4 from rfl] at e
    rw [if_neg (Ne.symm e0), if_pos e.symm] at hp; exact hp
  · rw [show nc 0 = 1 from rfl] at e0
    rw [show nc 1 = 4 from rfl] at e1
    rw [show nc 2 = 16 from rfl] at e
    rw [if_neg (Ne.symm e0), if_neg (Ne.symm e1), if_pos e.symm] at hp; exact hp
  · rw [show nc 0 = 1 from rfl] at e0
    rw [show nc 1 = 4 from rfl] at e1
    rw [show nc 2 = 16 from rfl] at e2
    rw [show nc 3 = 5 from rfl] at e
    rw [if_neg (Ne.symm e0), if_neg (Ne.symm e1), if_neg (Ne.symm e2), if_pos e.symm] at hp; exact hp
  · rw [show nc 0 = 1 from rfl] at e0
    rw [show nc 1 = 4 from rfl] at e1
    rw [show nc 2 = 16 from rfl] at e2
    rw [show nc 3 = 5 from rfl] at e3
    rw [if_neg (Ne.symm e0), if_neg (Ne.symm e1), if_neg (Ne.symm e2), if_neg (Ne.symm e3)] at hp; exact hp
def noI (f : Int32) : Int32 := if f = 5 then 2 else if f = 2 then 3 else if f = 0 then f else if f = 1 then f else -1
theorem noI_ok : ∀ v, v < 32 → (v = 0 ∨ v = 1 ∨ (4 ≤ v ∧ v < 8) ∨ 16 ≤ v) → noI (cY v) = nuX v := by decide +kernel
theorem y_no {post : Int32 → Prop} {f : Int32} (hp : post (noI f)) : wpY_numberOf post ((nI c), (na pc), (na tc), (na tk), (na yn), (na dn), (na gd), (na nb), (ny ys)) f := by
  unfold noI at hp
  unfold wpY_numberOf
  by_cases h5 : f = 5
  · rw [if_pos h5] at hp; exact br_t h5 hp
  · rw [if_neg h5] at hp
    refine br_f h5 ?_
    by_cases h2 : f = 2
    · rw [if_pos h2] at hp; exact br_t h2 hp
    · rw [if_neg h2] at hp
      refine br_f h2 ?_
      by_cases h0 : f = 0
      · rw [if_pos h0] at hp; exact br_t h0 hp
      · rw [if_neg h0] at hp
        refine br_f h0 ?_
        by_cases h1 : f = 1
        · rw [if_pos h1] at hp; exact br_t h1 hp
        · rw [if_neg h1] at hp; exact br_f h1 hp
def kc (pc g : Nat → Nat) (t : Nat) : Nat := if t < 4 then nc t else co pc g (t - 4)
theorem kc_vc {g : Nat → Nat} (hg : ∀ q, g q < 4) (t : Nat) : VC (kc pc g t) := by
  unfold kc
  split
  · exact nc_vc _
  · exact co_vc hg _
theorem y_kc {post : Int32 → Prop} {t : Nat} (ht : t < 8) (h2 : ∀ i, pc i ≤ 2) (hk : ∀ q, nb q < 4) (hp : post (cY (kc pc nb t))) : wpY_constructor post ((nI c), (na pc), (na tc), (na tk), (na yn), (na dn), (na gd), (na nb), (ny ys)) (nI t) := by
  unfold kc at hp
  by_cases h : t < 4
  · rw [if_pos h] at hp; exact y_cn4 h hp
  · rw [if_neg h] at hp
    rw [show t = 4 + (t - 4) by omega]
    exact y_cn (by omega) h2 hk hp
theorem y_a58 {post : Int32 → SY → Prop} {t s : Nat} (ht : t < 8) (hs : s < 8) (h2 : ∀ i, pc i ≤ 2) (hk : ∀ q, nb q < 4) (hp : post (nuX (ap (kc pc nb t) (kc pc nb s))) ((nI c), (na pc), (na tc), (na tk), (na yn), (na dn), (na gd), (na nb), (ny ys))) : wY_applied_58 post (nI t) (nI s) (nI c) (na pc) (na tc) (na tk) (na yn) (na dn) (na gd) (na nb) (ny ys) := by
  have v1 := kc_vc (pc := pc) hk t
  have v2 := kc_vc (pc := pc) hk s
  have v3 := ap_vc (kc pc nb s) v1
  refine y_kc ht h2 hk (y_kc hs h2 hk (y_ap v1 v2 (y_no ?_)))
  rw [noI_ok _ v3.1 v3.2]
  exact hp
theorem y_a40 {post : Int32 → SY → Prop} {W t s : Nat} (ht : t < 8) (hs : s < 8) (hgd : ∀ j, j < 4 → gd j = if W.testBit j = true then 1 else 0) (hy : (s < 4 ∨ W.testBit (s - 4) = true) → wY_applied_58 post (nI t) (nI s) (nI c) (na pc) (na tc) (na tk) (na yn) (na dn) (na gd) (na nb) (ny ys)) (hn : ¬ (s < 4 ∨ W.testBit (s - 4) = true) → post (-1) ((nI c), (na pc), (na tc), (na tk), (na yn), (na dn), (na gd), (na nb), (ny ys))) : wY_applied_40 post (nI t) (nI s) (nI c) (na pc) (na tc) (na tk) (na yn) (na dn) (na gd) (na nb) (ny ys) := by
  refine pk_le s 3 (fun h => hy (Or.inl (by omega))) (fun h => ⟨pk_in (s - 4) 4 (by omega) (kj_s4 h), ?_⟩)
  have hg := hgd (s - 4) (by omega)
  rw [na_at (s - 4) (kj_s4 h)]
  by_cases z : W.testBit (s - 4) = true
  · rw [if_pos z] at hg
    exact pk_eq (gd (s - 4)) 0 (fun y => by omega) (fun _ => hy (Or.inr z))
  · rw [if_neg z] at hg
    exact pk_eq (gd (s - 4)) 0 (fun _ => hn (fun y => y.elim (fun x => by omega) z)) (fun y => by omega)
/-- the reference's applied, behind the settling -/
theorem y_al {post : Int32 → SY → Prop} {W : Nat} {v1 v2 : Int32} (D : DQ c pc tc tk fe) (hk : ∀ q, nb q < 4) (hW : W = (pR c (NN c tk fe) pc tk fe 4).2.1)
    (hy : ∀ t s yn' dn' gd' nb' ys', t < 8 → s < 8 → v1 = nI t → v2 = nI s → (t < 4 ∨ W.testBit (t - 4) = true) → (s < 4 ∨ W.testBit (s - 4) = true) → YI c pc (pR c (NN c tk fe) pc tk fe 4) dn' gd' nb' → post (nuX (ap (kc pc nb' t) (kc pc nb' s))) ((nI c), (na pc), (na tc), (na tk), (na yn'), (na dn'), (na gd'), (na nb'), (ny ys')))
    (hn : ∀ yn' dn' gd' nb' ys', (∀ q, nb' q < 4) → ¬ (HV W v1 ∧ HV W v2) → post (-1) ((nI c), (na pc), (na tc), (na tk), (na yn'), (na dn'), (na gd'), (na nb'), (ny ys'))) : wpY_applied post ((nI c), (na pc), (na tc), (na tk), (na yn), (na dn), (na gd), (na nb), (ny ys)) v1 v2 := by
  unfold wpY_applied
  refine y_sa D hk (fun yn' dn' gd' nb' ys' _ hY => ?_)
  have hn' := hn yn' dn' gd' nb' ys' hY.2.2.1
  have hgd := hY.2.1
  rw [← hW] at hgd
  by_cases h0 : v1 < 0
  · refine br_t h0 (hn' ?_)
    rintro ⟨⟨t, h8, rfl, _⟩, _⟩
    exact nI_pos (by omega) h0
  · obtain ⟨t, ht, rfl⟩ := nI_of h0
    refine br_f h0 (pk_lt 7 t (fun h7 => hn' ?_) (fun h7 => ?_))
    · rintro ⟨⟨t', h8, e, _⟩, _⟩
      rw [nI_eq ht (by omega)] at e
      omega
    · by_cases h0' : v2 < 0
      · refine br_t h0' (hn' ?_)
        rintro ⟨_, ⟨t, h8, rfl, _⟩⟩
        exact nI_pos (by omega) h0'
      · obtain ⟨s, hs, rfl⟩ := nI_of h0'
        refine br_f h0' (pk_lt 7 s (fun h7' => hn' ?_) (fun h7' => ?_))
        · rintro ⟨_, ⟨t', h8, e, _⟩⟩
          rw [nI_eq hs (by omega)] at e
          omega
        · have nt1 : ¬ (t < 4 ∨ W.testBit (t - 4) = true) → ¬ (HV W (nI t) ∧ HV W (nI s)) := by
            rintro z ⟨⟨t', h8, e, h⟩, _⟩
            rw [nI_eq ht (by omega)] at e
            rw [e] at z; exact z h
          have nt2 : ¬ (s < 4 ∨ W.testBit (s - 4) = true) → ¬ (HV W (nI t) ∧ HV W (nI s)) := by
            rintro z ⟨_, ⟨t', h8, e, h⟩⟩
            rw [nI_eq hs (by omega)] at e
            rw [e] at z; exact z h
          have w40 : (t < 4 ∨ W.testBit (t - 4) = true) → wY_applied_40 post (nI t) (nI s) (nI c) (na pc) (na tc) (na tk) (na yn') (na dn') (na gd') (na nb') (ny ys') := fun ft => y_a40 (post := post) (c := c) (pc := pc) (tc := tc) (tk := tk) (yn := yn') (dn := dn') (nb := nb') (ys := ys') (t := t) (s := s) (by omega) (by omega) hgd (fun fs => y_a58 (by omega) (by omega) D.2.1 hY.2.2.1 (hy t s yn' dn' gd' nb' ys' (by omega) (by omega) rfl rfl ft fs hY)) (fun z => hn' (nt2 z))
          refine pk_le t 3 (fun h => w40 (Or.inl (by omega))) (fun h => ⟨pk_in (t - 4) 4 (by omega) (kj_s4 h), ?_⟩)
          have hg := hgd (t - 4) (by omega)
          rw [na_at (t - 4) (kj_s4 h)]
          by_cases z : W.testBit (t - 4) = true
          · rw [if_pos z] at hg
            exact pk_eq (gd' (t - 4)) 0 (fun y => by omega) (fun _ => w40 (Or.inr z))
          · rw [if_neg z] at hg
            exact pk_eq (gd' (t - 4)) 0 (fun _ => hn' (nt1 (fun y => y.elim (fun x => by omega) z))) (fun y => by omega)
end
end
section
theorem i_vc_needs {k : Nat} {u : SX} {v : SY} (I : i_Rel k u v) (hk : k + 4 ≤ 2048) (v1 : Int32) (v2 : Int32) : wpX_needs (fun r u' => wpY_needs (fun r' v' => r' = r ∧ i_Rel (k + 4) u' v') v v1 v2) u v1 v2 := by
  obtain ⟨c, w, st, pc, tc, tk, fc, fe, nt, sk, sc, cc, gs, stk, yn, dn, gd, nb, ys, rfl, rfl, R, h2, h3, h4, h5⟩ := I
  have hc := R.1
  have D := RQ_D R
  have yu : ∀ {post : Int32 → SY → Prop}, (v1 < 0 ∨ nI c ≤ v1) → post 0 ((nI c), (na pc), (na tc), (na tk), (na yn), (na dn), (na gd), (na nb), (ny ys)) → wpY_needs post ((nI c), (na pc), (na tc), (na tk), (na yn), (na dn), (na gd), (na nb), (ny ys)) v1 v2 := fun h hp => by
    unfold wpY_needs
    exact y_dn h (br_t rfl hp)
  have yu2 : ∀ {post : Int32 → SY → Prop} {i : Nat}, i < c → (v2 < 0 ∨ nI c ≤ v2) → post 0 ((nI c), (na pc), (na tc), (na tk), (na yn), (na dn), (na gd), (na nb), (ny ys)) → wpY_needs post ((nI c), (na pc), (na tc), (na tk), (na yn), (na dn), (na gd), (na nb), (ny ys)) (nI i) v2 := fun hi h hp => by
    unfold wpY_needs
    exact y_dy hc hi (br_f (by decide) (y_dn h (br_t rfl hp)))
  unfold wpX_needs
  rcases (show (v1 < 0 ∨ nI c ≤ v1) ∨ ∃ j : Nat, j < c ∧ v1 = nI j by rcases pk_ix v1 (n := c) (by omega) with h | h | h; exact Or.inl (Or.inl h); exact Or.inl (Or.inr h); exact Or.inr h) with h | ⟨i, hi, rfl⟩
  · exact x_dn h (br_t rfl (yu h ⟨rfl, r_mk R h2 h3 h4 h5⟩))
  · refine x_dy hc hi (br_f (by decide) ?_)
    rcases (show (v2 < 0 ∨ nI c ≤ v2) ∨ ∃ j : Nat, j < c ∧ v2 = nI j by rcases pk_ix v2 (n := c) (by omega) with h | h | h; exact Or.inl (Or.inl h); exact Or.inl (Or.inr h); exact Or.inr h) with h | ⟨j, hj, rfl⟩
    · exact x_dn h (br_t rfl (yu2 hi h ⟨rfl, r_mk R h2 h3 h4 h5⟩))
    · refine x_dy hc hj (br_f (by decide) (x_st D h2 h3 h5 (fun w' nt' sk' sc' cc' gs' stk' hX => ⟨pk_in i 4 (by omega), ?_⟩)))
      have q := NN_q D.2.2.2.2.2.2
      have hb := q.1 i
      rw [na_i i, hX.1 i hi]
      have yw : ∀ {post : Int32 → SY → Prop}, (∀ yn', ((NN c tk fe i).testBit j = true → post 1 ((nI c), (na pc), (na tc), (na tk), (na yn'), (na dn), (na gd), (na nb), (ny ys))) ∧ (¬ (NN c tk fe i).testBit j = true → post 0 ((nI c), (na pc), (na tc), (na tk), (na yn'), (na dn), (na gd), (na nb), (ny ys)))) → wpY_needs post ((nI c), (na pc), (na tc), (na tk), (na yn), (na dn), (na gd), (na nb), (ny ys)) (nI i) (nI j) := fun hp => by
        unfold wpY_needs
        refine y_dy hc hi (br_f (by decide) (y_dy hc hj (br_f (by decide) (y_fn D (fun yn' hyn => ⟨pk_in i 4 (by omega), ?_⟩)))))
        rw [na_i i, hyn i (by omega)]
        exact bj_1 (by omega) (by omega) (hp yn').1 (hp yn').2
      refine x_ho (by omega) (by omega) (fun hbt => ⟨nb_1, yw (fun yn' => ⟨fun _ => ⟨rfl, ?_⟩, fun z => absurd hbt z⟩)⟩) (fun hbt => ⟨nb_0, yw (fun yn' => ⟨fun z => absurd z hbt, fun _ => ⟨rfl, ?_⟩⟩)⟩)
      · exact r_mk R hX.2.2.1 hX.2.2.2.1 h4 (Or.inr ⟨rfl, hX⟩)
      · exact r_mk R hX.2.2.1 hX.2.2.2.1 h4 (Or.inr ⟨rfl, hX⟩)
theorem i_vc_group {k : Nat} {u : SX} {v : SY} (I : i_Rel k u v) (hk : k + 4 ≤ 2048) (v1 : Int32) : wpX_group (fun r u' => wpY_group (fun r' v' => r' = r ∧ i_Rel (k + 4) u' v') v v1) u v1 := by
  obtain ⟨c, w, st, pc, tc, tk, fc, fe, nt, sk, sc, cc, gs, stk, yn, dn, gd, nb, ys, rfl, rfl, R, h2, h3, h4, h5⟩ := I
  have hc := R.1
  have D := RQ_D R
  have yu : ∀ {post : Int32 → SY → Prop}, (v1 < 0 ∨ nI c ≤ v1) → post (-1) ((nI c), (na pc), (na tc), (na tk), (na yn), (na dn), (na gd), (na nb), (ny ys)) → wpY_group post ((nI c), (na pc), (na tc), (na tk), (na yn), (na dn), (na gd), (na nb), (ny ys)) v1 := fun h hp => by
    unfold wpY_group
    exact y_dn h (br_t rfl hp)
  unfold wpX_group
  rcases (show (v1 < 0 ∨ nI c ≤ v1) ∨ ∃ j : Nat, j < c ∧ v1 = nI j by rcases pk_ix v1 (n := c) (by omega) with h | h | h; exact Or.inl (Or.inl h); exact Or.inl (Or.inr h); exact Or.inr h) with h | ⟨i, hi, rfl⟩
  · exact x_dn h (br_t rfl (yu h ⟨rfl, r_mk R h2 h3 h4 h5⟩))
  · have q := NN_q D.2.2.2.2.2.2
    refine x_dy hc hi (br_f (by decide) (x_st D h2 h3 h5 (fun w' nt' sk' sc' cc' gs' stk' hX => x_mw hc hi q hX.1 ⟨i + 1, ?_⟩)))
    refine x_gs (gS_lt _ i (by omega)) (by omega) i 0 (by omega) ?_
    unfold wpY_group
    exact y_dy hc hi (br_f (by decide) (y_fn D (fun yn' hyn => y_go (by omega) q.1 hyn ⟨i + 1, y_gs (gS_lt _ i (by omega)) (by omega) (gS_self _ q.1 i) i 0 (by omega) ⟨rfl, r_mk R hX.2.2.1 hX.2.2.2.1 h4 (Or.inr ⟨rfl, hX⟩)⟩⟩)))
theorem ix_c (v : Int32) {n : Nat} (hn : n < 2 ^ 31) : (v < 0 ∨ nI n ≤ v) ∨ ∃ j : Nat, j < n ∧ v = nI j := by
  rcases pk_ix v hn with h | h | h
  · exact Or.inl (Or.inl h)
  · exact Or.inl (Or.inr h)
  · exact Or.inr h
theorem XD_w {c : Nat} {pc tc tk fe nt sk sc cc : Nat → Nat} {w : Nat} (D : DQ c pc tc tk fe) (h : XD c pc tk fe w nt sk sc cc) : w < 16 := by
  rw [h.2.1]
  exact (PI_R D.1 (NN_q D.2.2.2.2.2.2) 4).2.1
theorem i_vc_well {k : Nat} {u : SX} {v : SY} (I : i_Rel k u v) (hk : k + 4 ≤ 2048) (v1 : Int32) : wpX_well (fun r u' => wpY_well (fun r' v' => r' = r ∧ i_Rel (k + 4) u' v') v v1) u v1 := by
  obtain ⟨c, w, st, pc, tc, tk, fc, fe, nt, sk, sc, cc, gs, stk, yn, dn, gd, nb, ys, rfl, rfl, R, h2, h3, h4, h5⟩ := I
  have hc := R.1
  have D := RQ_D R
  unfold wpX_well
  rcases ix_c v1 (n := c) (by omega) with h | ⟨i, hi, rfl⟩
  · exact x_dn h (br_t rfl (y_wu D h4 h (fun yn' dn' gd' nb' ys' hnb => ⟨rfl, r_mk R h2 h3 hnb h5⟩)))
  · refine x_dy hc hi (br_f (by decide) (x_st D h2 h3 h5 (fun w' nt' sk' sc' cc' gs' stk' hX => ?_)))
    have hw := XD_w D hX
    refine x_ho (by omega) (by omega) (fun hb => ⟨nb_1, y_w D h4 hi (fun yn' dn' gd' nb' ys' _ hY => ⟨fun _ => ⟨rfl, ?_⟩, fun z => absurd (hX.2.1 ▸ hb) z⟩)⟩) (fun hb => ⟨nb_0, y_w D h4 hi (fun yn' dn' gd' nb' ys' _ hY => ⟨fun z => absurd (hX.2.1.symm ▸ z) hb, fun _ => ⟨rfl, ?_⟩⟩)⟩)
    · exact r_mk R hX.2.2.1 hX.2.2.2.1 hY.2.2.1 (Or.inr ⟨rfl, hX⟩)
    · exact r_mk R hX.2.2.1 hX.2.2.2.1 hY.2.2.1 (Or.inr ⟨rfl, hX⟩)
theorem i_vc_kind {k : Nat} {u : SX} {v : SY} (I : i_Rel k u v) (hk : k + 4 ≤ 2048) (v1 : Int32) (v2 : Int32) : wpX_kind (fun r u' => wpY_kind (fun r' v' => r' = r ∧ i_Rel (k + 4) u' v') v v1 v2) u v1 v2 := by
  obtain ⟨c, w, st, pc, tc, tk, fc, fe, nt, sk, sc, cc, gs, stk, yn, dn, gd, nb, ys, rfl, rfl, R, h2, h3, h4, h5⟩ := I
  have hc := R.1
  have D := RQ_D R
  unfold wpX_kind
  rcases ix_c v1 (n := c) (by omega) with h | ⟨i, hi, rfl⟩
  · refine x_hpu h (br_t rfl ?_)
    unfold wpY_kind
    exact y_wu D h4 h (fun yn' dn' gd' nb' ys' hnb => br_t rfl ⟨rfl, r_mk R h2 h3 hnb h5⟩)
  · have hp2 := R.2.1 i
    rcases ix_c v2 (n := pc i) (by omega) with h | ⟨a, ha, rfl⟩
    · refine x_hpn hc hi h (br_t rfl ?_)
      unfold wpY_kind
      refine y_w D h4 hi (fun yn' dn' gd' nb' ys' _ hY => ⟨fun _ => br_f (by decide) ?_, fun _ => br_t rfl ⟨rfl, r_mk R h2 h3 hY.2.2.1 h5⟩⟩)
      by_cases h0 : v2 < 0
      · exact br_t h0 ⟨rfl, r_mk R h2 h3 hY.2.2.1 h5⟩
      · refine br_f h0 ⟨pk_in i 4 (by omega), ?_⟩
        rw [na_i i]
        exact br_f (Int32.not_lt.mpr (h.resolve_left h0)) ⟨rfl, r_mk R h2 h3 hY.2.2.1 h5⟩
    · refine x_hpy hc hi R.2.1 ha (br_f (by decide) (x_st D h2 h3 h5 (fun w' nt' sk' sc' cc' gs' stk' hX => ?_)))
      have hw := XD_w D hX
      have e1 := kj_ix2 i a
      have e2 := kj_ix2' i a
      have rr : ∀ {yn' dn' gd' nb' ys' : Nat → Nat}, (∀ q, nb' q < 4) → i_Rel (k + 4) ((nI c), (nI (sP pc c)), 0, (nI w'), (na pc), (na tc), (na tk), (na fc), (na fe), (na nt'), (na sk'), (na sc'), (na cc'), (na gs'), (na stk')) ((nI c), (na pc), (na tc), (na tk), (na yn'), (na dn'), (na gd'), (na nb'), (ny ys')) := fun hnb => r_mk R hX.2.2.1 hX.2.2.2.1 hnb (Or.inr ⟨rfl, hX⟩)
      refine x_ho (by omega) (by omega) (fun hb => br_f (by decide) ⟨pk_in (i * 2 + a) 8 (by omega) e1, ?_⟩) (fun hb => br_t rfl ?_)
      · rw [na_at _ e1]
        unfold wpY_kind
        have hbW := hb
        rw [hX.2.1] at hbW
        refine y_w D h4 hi (fun yn' dn' gd' nb' ys' _ hY => ⟨fun _ => br_f (by decide) (br_f (nI_pos (by omega)) ⟨pk_in i 4 (by omega), ?_⟩), fun z => absurd hbW z⟩)
        rw [na_i i]
        refine br_t (nI_lt ha (by omega)) ⟨pk_in (i * 2 + a) 8 (by omega) e2, ?_, rr hY.2.2.1⟩
        rw [na_at _ e2, hY.2.2.2 i a hbW ha, hX.2.2.2.2.1 i a hbW ha]
      · unfold wpY_kind
        exact y_w D h4 hi (fun yn' dn' gd' nb' ys' _ hY => ⟨fun z => absurd (hX.2.1.symm ▸ z) hb, fun _ => br_t rfl ⟨rfl, rr hY.2.2.1⟩⟩)
theorem i_vc_could {k : Nat} {u : SX} {v : SY} (I : i_Rel k u v) (hk : k + 4 ≤ 2048) (v1 : Int32) (v2 : Int32) (v3 : Int32) : wpX_could (fun r u' => wpY_could (fun r' v' => r' = r ∧ i_Rel (k + 4) u' v') v v1 v2 v3) u v1 v2 v3 := by
  obtain ⟨c, w, st, pc, tc, tk, fc, fe, nt, sk, sc, cc, gs, stk, yn, dn, gd, nb, ys, rfl, rfl, R, h2, h3, h4, h5⟩ := I
  have hc := R.1
  have D := RQ_D R
  have q := NN_q D.2.2.2.2.2.2
  unfold wpX_could
  rcases ix_c v1 (n := c) (by omega) with h | ⟨i, hi, rfl⟩
  · refine x_hpu h (br_t rfl ?_)
    unfold wpY_could
    exact y_wu D h4 h (fun yn' dn' gd' nb' ys' hnb => br_t rfl ⟨rfl, r_mk R h2 h3 hnb h5⟩)
  · have hp2 := R.2.1 i
    rcases ix_c v2 (n := pc i) (by omega) with h | ⟨a, ha, rfl⟩
    · refine x_hpn hc hi h (br_t rfl ?_)
      unfold wpY_could
      refine y_w D h4 hi (fun yn' dn' gd' nb' ys' _ hY => ⟨fun _ => br_f (by decide) ?_, fun _ => br_t rfl ⟨rfl, r_mk R h2 h3 hY.2.2.1 h5⟩⟩)
      by_cases h0 : v2 < 0
      · exact br_t h0 ⟨rfl, r_mk R h2 h3 hY.2.2.1 h5⟩
      · refine br_f h0 ⟨pk_in i 4 (by omega), ?_⟩
        rw [na_i i]
        exact br_t (h.resolve_left h0) ⟨rfl, r_mk R h2 h3 hY.2.2.1 h5⟩
    · refine x_hpy hc hi R.2.1 ha (br_f (by decide) ?_)
      have yout : ∀ {post : Int32 → SY → Prop} {W : Prop}, (v3 < 0 ∨ ¬ v3 ≤ 3) → (∀ yn' dn' gd' nb' ys', (∀ q, nb' q < 4) → post 0 ((nI c), (na pc), (na tc), (na tk), (na yn'), (na dn'), (na gd'), (na nb'), (ny ys'))) → wpY_could post ((nI c), (na pc), (na tc), (na tk), (na yn), (na dn), (na gd), (na nb), (ny ys)) (nI i) (nI a) v3 := fun h3' hp => by
        unfold wpY_could
        refine y_w D h4 hi (fun yn' dn' gd' nb' ys' _ hY => ⟨fun _ => br_f (by decide) (br_f (nI_pos (by omega)) ⟨pk_in i 4 (by omega), ?_⟩), fun _ => br_t rfl (hp _ _ _ _ _ hY.2.2.1)⟩)
        rw [na_i i]
        refine br_f (nI_ge ha (by omega)) ?_
        by_cases h0 : v3 < 0
        · exact br_t h0 (hp _ _ _ _ _ hY.2.2.1)
        · exact br_f h0 (br_f (h3'.resolve_left h0) (hp _ _ _ _ _ hY.2.2.1))
      by_cases h0 : v3 < 0
      · exact br_t h0 (yout (W := True) (Or.inl h0) (fun yn' dn' gd' nb' ys' hnb => ⟨rfl, r_mk R h2 h3 hnb h5⟩))
      · obtain ⟨kk, hkk, rfl⟩ := nI_of h0
        refine br_f h0 (pk_lt kk 4 (fun h4k => x_st D h2 h3 h5 (fun w' nt' sk' sc' cc' gs' stk' hX => ?_)) (fun h4k => yout (W := True) (Or.inr (nI_ge (a := 3) h4k hkk)) (fun yn' dn' gd' nb' ys' hnb => ⟨rfl, r_mk R h2 h3 hnb h5⟩)))
        have hw := XD_w D hX
        have e1 := kj_ix2 i a
        have rr : ∀ {yn' dn' gd' nb' ys' : Nat → Nat}, (∀ q, nb' q < 4) → i_Rel (k + 4) ((nI c), (nI (sP pc c)), 0, (nI w'), (na pc), (na tc), (na tk), (na fc), (na fe), (na nt'), (na sk'), (na sc'), (na cc'), (na gs'), (na stk')) ((nI c), (na pc), (na tc), (na tk), (na yn'), (na dn'), (na gd'), (na nb'), (ny ys')) := fun hnb => r_mk R hX.2.2.1 hX.2.2.2.1 hnb (Or.inr ⟨rfl, hX⟩)
        refine x_ho (by omega) (by omega) (fun hb => br_f (by decide) ⟨pk_in (i * 2 + a) 8 (by omega) e1, ?_⟩) (fun hb => br_t rfl ?_)
        · rw [na_at _ e1]
          have hbW := hb
          rw [hX.2.1] at hbW
          have P := PI_R hc q (pc := pc) 4
          obtain ⟨s1, s2⟩ := hX.2.2.2.2.2.2 i a hbW ha
          have s3 := s2 kk h4k
          have hgS := gS_lt (NN c tk fe) i (by omega)
          have yw : ∀ {post : Int32 → SY → Prop}, (∀ yn' dn' gd' nb' ys', (∀ q, nb' q < 4) → ((sc' (i * 2 + a)).testBit kk = true → post 1 ((nI c), (na pc), (na tc), (na tk), (na yn'), (na dn'), (na gd'), (na nb'), (ny ys'))) ∧ (¬ (sc' (i * 2 + a)).testBit kk = true → post 0 ((nI c), (na pc), (na tc), (na tk), (na yn'), (na dn'), (na gd'), (na nb'), (ny ys')))) → wpY_could post ((nI c), (na pc), (na tc), (na tk), (na yn), (na dn), (na gd), (na nb), (ny ys)) (nI i) (nI a) (nI kk) := fun hp => by
            unfold wpY_could
            refine y_w D h4 hi (fun yn' dn' gd' nb' ys' hyn hY => ⟨fun _ => br_f (by decide) (br_f (nI_pos (by omega)) ⟨pk_in i 4 (by omega), ?_⟩), fun z => absurd hbW z⟩)
            rw [na_i i]
            have cg : Cd pc tk fe (gS (NN c tk fe) i) nb' (i * 2 + a) kk ↔ (sc' (i * 2 + a)).testBit kk = true := by
              rw [s3]
              refine Cd_cg hc D.2.1 q D.2.2.2.2.2.2 hi (W := (pR c (NN c tk fe) pc tk fe 4).2.1) (fun x hx hb' => ?_) hY.2.2.2 ha
              rw [sb_bit (q.1 i), Bool.and_eq_true] at hb'
              exact P.2.2.2.2.2.1 i x hbW hb'.1
            refine br_f (nI_ge ha (by omega)) (br_f h0 (br_t (nI_le (b := 3) (by omega) (by omega)) (y_go (by omega) q.1 hyn ⟨4097, y_cd46 D hgS (fun j hj => gS_c q hi hj) hY.2.2.1 (by omega) (by omega) h4k (fun nb2 s hnb hC => (hp yn' dn' gd' nb2 s hnb).1 (cg.mp hC)) (fun nb2 s hnb hC => (hp yn' dn' gd' nb2 s hnb).2 (fun z => hC (cg.mpr z))) 4096 0 nb' ys' (by omega) (fun q => Or.inr rfl) hY.2.2.1 (fun j hj => absurd hj (Nat.not_lt_zero _))⟩)))
          refine x_ho (by omega) (by omega) (fun hbt => br_f (by decide) (yw (fun yn' dn' gd' nb' ys' hnb => ⟨fun _ => ⟨rfl, rr hnb⟩, fun z => absurd hbt z⟩))) (fun hbt => br_t rfl (yw (fun yn' dn' gd' nb' ys' hnb => ⟨fun z => absurd z hbt, fun _ => ⟨rfl, rr hnb⟩⟩)))
        · unfold wpY_could
          exact y_w D h4 hi (fun yn' dn' gd' nb' ys' _ hY => ⟨fun z => absurd (hX.2.1.symm ▸ z) hb, fun _ => br_t rfl ⟨rfl, rr hY.2.2.1⟩⟩)
theorem i_vc_applied {k : Nat} {u : SX} {v : SY} (I : i_Rel k u v) (hk : k + 4 ≤ 2048) (v1 : Int32) (v2 : Int32) : wpX_applied (fun r u' => wpY_applied (fun r' v' => r' = r ∧ i_Rel (k + 4) u' v') v v1 v2) u v1 v2 := by
  obtain ⟨c, w, st, pc, tc, tk, fc, fe, nt, sk, sc, cc, gs, stk, yn, dn, gd, nb, ys, rfl, rfl, R, h2, h3, h4, h5⟩ := I
  have hc := R.1
  have D := RQ_D R
  unfold wpX_applied
  refine x_st D h2 h3 h5 (fun w' nt' sk' sc' cc' gs' stk' hX => ?_)
  have hw := XD_w D hX
  have rr : ∀ {yn' dn' gd' nb' ys' : Nat → Nat}, (∀ q, nb' q < 4) → i_Rel (k + 4) ((nI c), (nI (sP pc c)), 0, (nI w'), (na pc), (na tc), (na tk), (na fc), (na fe), (na nt'), (na sk'), (na sc'), (na cc'), (na gs'), (na stk')) ((nI c), (na pc), (na tc), (na tk), (na yn'), (na dn'), (na gd'), (na nb'), (ny ys')) := fun hnb => r_mk R hX.2.2.1 hX.2.2.2.1 hnb (Or.inr ⟨rfl, hX⟩)
  obtain ⟨x1, x2, x3, x4, x5⟩ := hX.2.2
  rw [← hX.2.1] at x3 x4
  have bad : ∀ {x : Int32}, x = -1 → ¬ (HV w' v1 ∧ HV w' v2) → wpY_applied (fun r' v' => r' = x ∧ i_Rel (k + 4) ((nI c), (nI (sP pc c)), 0, (nI w'), (na pc), (na tc), (na tk), (na fc), (na fe), (na nt'), (na sk'), (na sc'), (na cc'), (na gs'), (na stk')) v') ((nI c), (na pc), (na tc), (na tk), (na yn), (na dn), (na gd), (na nb), (ny ys)) v1 v2 := fun hx hno => by
    exact y_al D h4 hX.2.1 (fun t s yn' dn' gd' nb' ys' ht hs e1 e2 ft fs hY => absurd ⟨⟨t, ht, e1, ft⟩, ⟨s, hs, e2, fs⟩⟩ hno) (fun yn' dn' gd' nb' ys' hnb _ => ⟨hx.symm, rr hnb⟩)
  refine x_hk hw (fun hv1 => br_f (by decide) (x_hk hw (fun hv2 => br_f (by decide) ?_) (fun hv2 => br_t rfl (bad rfl (fun z => hv2 z.2))))) (fun hv1 => br_t rfl (bad rfl (fun z => hv1 z.1)))
  have hpc := D.2.1
  have ckc : ∀ t, t < 8 → (t < 4 ∨ w'.testBit (t - 4) = true) → cc' t = kc pc sk' t := by
    intro t ht ft
    unfold kc
    by_cases h : t < 4
    · rw [if_pos h]; exact x2 t h
    · rw [if_neg h, ← x4 (t - 4) (ft.resolve_left h), show 4 + (t - 4) = t by omega]
  have kkc : ∀ {nb' dn' gd' : Nat → Nat}, YI c pc (pR c (NN c tk fe) pc tk fe 4) dn' gd' nb' → ∀ t, t < 8 → (t < 4 ∨ w'.testBit (t - 4) = true) → kc pc nb' t = kc pc sk' t := by
    intro nb' dn' gd' hY t ht ft
    unfold kc
    by_cases h : t < 4
    · rw [if_pos h, if_pos h]
    · rw [if_neg h, if_neg h]
      have hb := ft.resolve_left h
      have hb' := hb
      rw [hX.2.1] at hb'
      generalize t - 4 = j at *
      have eq : ∀ a, a < pc j → nb' (j * 2 + a) = sk' (j * 2 + a) := fun a ha => by rw [hY.2.2.2 j a hb' ha, x3 j a hb ha]
      have := hpc j
      unfold co
      split
      · rfl
      · next h0 =>
        have e0 : nb' (j * 2) = sk' (j * 2) := eq 0 (by omega)
        split
        · rw [e0]
        · next h1 => rw [e0, eq 1 (by omega)]
  obtain ⟨t, ht, rfl, ft⟩ := hv1
  obtain ⟨s, hs, rfl, fs⟩ := hv2
  have v1 := kc_vc (pc := pc) x1 t
  have v2 := kc_vc (pc := pc) x1 s
  have b2 := v2.1
  have v3 := ap_vc (kc pc sk' s) v1
  refine ⟨pk_in t 8 ht, pk_in s 8 hs, ?_⟩
  rw [na_i t, na_i s, ckc t ht ft, ckc s hs fs]
  refine x_ap v1 (by omega) x2 (x_al v3.1 x2 (y_al D h4 hX.2.1 (fun t' s' yn' dn' gd' nb' ys' ht' hs' e1 e2 ft' fs' hY => ⟨?_, rr hY.2.2.1⟩) (fun yn' dn' gd' nb' ys' hnb hno => absurd ⟨⟨t, ht, rfl, ft⟩, ⟨s, hs, rfl, fs⟩⟩ hno)))
  rw [nI_eq (by omega) (by omega)] at e1 e2
  subst e1 e2
  rw [kkc hY t ht ft, kkc hY s hs fs]
end
