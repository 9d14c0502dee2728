/-! reading the fields of a row of tokens -/
def rO (t : Nat → Nat) : Nat → Nat
  | 0 => 1
  | k + 1 => if t k = 0 then rO t k + 1 else if rO t k = 1 then 1 else rO t k - 1
def rF (t : Nat → Nat) : Nat → Nat
  | 0 => 0
  | k + 1 => if t k = 0 then rF t k else if rO t k = 1 then rF t k + 1 else rF t k
def rE (t : Nat → Nat) : Nat → Nat
  | 0 => 0
  | k + 1 => if t k = 0 then rE t k else if rO t k = 1 then k + 1 else rE t k
theorem rO_pos (t : Nat → Nat) (k : Nat) : 1 ≤ rO t k := by
  induction k with
  | zero => exact Nat.le_refl 1
  | succ k ih => unfold rO; split <;> (try split) <;> omega
theorem rO_le (t : Nat → Nat) (k : Nat) : rO t k ≤ k + 1 := by
  induction k with
  | zero => exact Nat.le_refl 1
  | succ k ih => unfold rO; split <;> (try split) <;> omega
theorem rF_le (t : Nat → Nat) (k : Nat) : rF t k ≤ k := by
  induction k with
  | zero => exact Nat.le_refl 0
  | succ k ih => unfold rF; split <;> (try split) <;> omega
theorem rE_le (t : Nat → Nat) (k : Nat) : rE t k ≤ k := by
  induction k with
  | zero => exact Nat.le_refl 0
  | succ k ih => unfold rE; split <;> (try split) <;> omega
theorem rE_sp (t : Nat → Nat) (n : Nat) : rO t (rE t n) = 1 ∧ rF t (rE t n) = rF t n := by
  induction n with
  | zero => exact ⟨rfl, rfl⟩
  | succ n ih =>
    by_cases h : t n = 0
    · have h1 : rE t (n + 1) = rE t n := by show (if _ then _ else _) = _; rw [if_pos h]
      have h2 : rF t (n + 1) = rF t n := by show (if _ then _ else _) = _; rw [if_pos h]
      rw [h1, h2]; exact ih
    · by_cases h' : rO t n = 1
      · have h1 : rE t (n + 1) = n + 1 := by show (if _ then _ else _) = _; rw [if_neg h, if_pos h']
        have h2 : rO t (n + 1) = 1 := by show (if _ then _ else _) = _; rw [if_neg h, if_pos h']
        rw [h1, h2]; exact ⟨rfl, rfl⟩
      · have h1 : rE t (n + 1) = rE t n := by show (if _ then _ else _) = _; rw [if_neg h, if_neg h']
        have h2 : rF t (n + 1) = rF t n := by show (if _ then _ else _) = _; rw [if_neg h, if_neg h']
        rw [h1, h2]; exact ih
theorem rF_mo (t : Nat → Nat) {k n : Nat} (h : k ≤ n) : rF t k ≤ rF t n := by
  induction n with
  | zero => cases Nat.le_zero.mp h; exact Nat.le_refl _
  | succ n ih =>
    rcases Nat.lt_or_ge k (n + 1) with h1 | h1
    · have := ih (by omega)
      have h2 : rF t n ≤ rF t (n + 1) := by
        rw [show rF t (n + 1) = (if t n = 0 then rF t n else if rO t n = 1 then rF t n + 1 else rF t n) from rfl]
        split <;> (try split) <;> omega
      omega
    · have : k = n + 1 := by omega
      rw [this]; exact Nat.le_refl _
theorem rF_lt (t : Nat → Nat) (n k : Nat) (h : k < rE t n) : rF t k < rF t n := by
  induction n with
  | zero => exact absurd h (Nat.not_lt_zero _)
  | succ n ih =>
    by_cases h0 : t n = 0
    · have h1 : rE t (n + 1) = rE t n := by show (if _ then _ else _) = _; rw [if_pos h0]
      have h2 : rF t (n + 1) = rF t n := by show (if _ then _ else _) = _; rw [if_pos h0]
      rw [h1] at h; rw [h2]; exact ih h
    · by_cases h' : rO t n = 1
      · have h2 : rF t (n + 1) = rF t n + 1 := by show (if _ then _ else _) = _; rw [if_neg h0, if_pos h']
        have h1 := rE_le t (n + 1)
        have := rF_mo t (show k ≤ n by omega)
        omega
      · have h1 : rE t (n + 1) = rE t n := by show (if _ then _ else _) = _; rw [if_neg h0, if_neg h']
        have h2 : rF t (n + 1) = rF t n := by show (if _ then _ else _) = _; rw [if_neg h0, if_neg h']
        rw [h1] at h; rw [h2]; exact ih h
theorem r_cg {t t' : Nat → Nat} {n : Nat} (h : ∀ k, k < n → t k = t' k) : rO t n = rO t' n ∧ rF t n = rF t' n ∧ rE t n = rE t' n := by
  induction n with
  | zero => exact ⟨rfl, rfl, rfl⟩
  | succ n ih =>
    obtain ⟨h1, h2, h3⟩ := ih (fun k hk => h k (by omega))
    unfold rO rF rE
    rw [h n (by omega), h1, h2, h3]
    exact ⟨rfl, rfl, rfl⟩
def tp (tk : Nat → Nat) (i : Nat) : Nat → Nat := fun k => tk (i * 20 + k)
/-! the types named -/
def nM (t : Nat → Nat) : Nat → Nat
  | 0 => 0
  | k + 1 => if t k < 7 then nM t k else nM t k ||| 2 ^ (t k - 7)
theorem nM_bit (t : Nat → Nat) (e j : Nat) : (nM t e).testBit j = true ↔ ∃ k, k < e ∧ 7 ≤ t k ∧ t k - 7 = j := by
  induction e with
  | zero =>
    show Nat.testBit 0 j = true ↔ _
    rw [Nat.zero_testBit]
    exact ⟨fun h => (nomatch h), fun ⟨k, hk, _⟩ => absurd hk (Nat.not_lt_zero _)⟩
  | succ e ih =>
    by_cases h : t e < 7
    · have h1 : nM t (e + 1) = nM t e := by show (if _ then _ else _) = _; rw [if_pos h]
      rw [h1, ih]
      constructor
      · rintro ⟨k, hk, h2⟩; exact ⟨k, by omega, h2⟩
      · rintro ⟨k, hk, h2, h3⟩
        have : k ≠ e := fun z => by rw [z] at h2; omega
        exact ⟨k, by omega, h2, h3⟩
    · have h1 : nM t (e + 1) = nM t e ||| 2 ^ (t e - 7) := by show (if _ then _ else _) = _; rw [if_neg h]
      rw [h1, or_bit, ih, pw_bit]
      constructor
      · rintro (⟨k, hk, h2⟩ | h2)
        · exact ⟨k, by omega, h2⟩
        · exact ⟨e, by omega, by omega, h2⟩
      · rintro ⟨k, hk, h2, h3⟩
        by_cases hz : k = e
        · right; rw [hz] at h3; exact h3
        · left; exact ⟨k, by omega, h2, h3⟩
theorem nM_lt (t : Nat → Nat) (e : Nat) (h : ∀ k, k < e → t k ≤ 10) : nM t e < 16 := by
  induction e with
  | zero => show 0 < 16; decide
  | succ e ih =>
    have := ih (fun k hk => h k (by omega))
    unfold nM
    split
    · exact this
    · exact m_or this (m_pow (by have := h e (by omega); omega))
/-! needs: Warshall (the class), four passes (the reference) -/
def wI (via : Nat) : Nat → (Nat → Nat) → (Nat → Nat)
  | 0, f => f
  | m + 1, f => if ((wI via m f) m).testBit via = true then un (wI via m f) m ((wI via m f) m ||| (wI via m f) via) else wI via m f
def wO (c : Nat) : Nat → (Nat → Nat) → (Nat → Nat)
  | 0, f => f
  | v + 1, f => wI v c (wO c v f)
theorem wI_sp (via m : Nat) (f : Nat → Nat) (i : Nat) : wI via m f i = if i < m ∧ (f i).testBit via = true then f i ||| f via else f i := by
  induction m generalizing i with
  | zero => rw [if_neg (fun z => Nat.not_lt_zero _ z.1)]; rfl
  | succ m ih =>
    have hm : wI via m f m = f m := by rw [ih, if_neg (fun z => Nat.lt_irrefl _ z.1)]
    have hv : wI via m f via = f via := by rw [ih]; split <;> (try rfl); exact Nat.or_self _
    unfold wI
    rw [hm, hv]
    by_cases h : (f m).testBit via = true
    · rw [if_pos h]
      by_cases hi : i = m
      · subst hi; rw [un_s, if_pos ⟨by omega, h⟩]
      · rw [un_n hi, ih]
        by_cases h2 : i < m ∧ (f i).testBit via = true
        · rw [if_pos h2, if_pos ⟨by omega, h2.2⟩]
        · rw [if_neg h2, if_neg (fun z => h2 ⟨by omega, z.2⟩)]
    · rw [if_neg h, ih]
      by_cases h2 : i < m ∧ (f i).testBit via = true
      · rw [if_pos h2, if_pos ⟨by omega, h2.2⟩]
      · rw [if_neg h2, if_neg]
        rintro ⟨z1, z2⟩
        by_cases hi : i = m
        · subst hi; exact h z2
        · exact h2 ⟨by omega, z2⟩
theorem wI_bit (via c : Nat) (f : Nat → Nat) (i j : Nat) : (wI via c f i).testBit j = true ↔ (f i).testBit j = true ∨ (i < c ∧ (f i).testBit via = true ∧ (f via).testBit j = true) := by
  rw [wI_sp]
  by_cases h : i < c ∧ (f i).testBit via = true
  · rw [if_pos h, or_bit]
    exact ⟨fun z => z.elim Or.inl (fun y => Or.inr ⟨h.1, h.2, y⟩), fun z => z.elim Or.inl (fun y => Or.inr y.2.2)⟩
  · rw [if_neg h]
    exact ⟨Or.inl, fun z => z.elim id (fun y => absurd ⟨y.1, y.2.1⟩ h)⟩
theorem wO_tr (c : Nat) (f : Nat → Nat) (k : Nat) (hk : k ≤ c) : ∀ i m j, i < c → m < k → (wO c k f i).testBit m = true → (wO c k f m).testBit j = true → (wO c k f i).testBit j = true := by
  induction k with
  | zero => intro i m j _ h; exact absurd h (Nat.not_lt_zero _)
  | succ k ih =>
    have T := ih (by omega)
    intro i m j hi hm h1 h2
    have e : wO c (k + 1) f = wI k c (wO c k f) := rfl
    rw [e, wI_bit] at h1 h2 ⊢
    by_cases hmk : m = k
    · subst hmk
      have h1' : (wO c m f i).testBit m = true := h1.elim id (fun z => z.2.1)
      have h2' : (wO c m f m).testBit j = true := h2.elim id (fun z => z.2.2)
      exact Or.inr ⟨hi, h1', h2'⟩
    · have hm' : m < k := by omega
      rcases h1 with h1 | ⟨_, h1, h1'⟩ <;> rcases h2 with h2 | ⟨_, h2, h2'⟩
      · exact Or.inl (T i m j hi hm' h1 h2)
      · exact Or.inr ⟨hi, T i m k hi hm' h1 h2, h2'⟩
      · exact Or.inr ⟨hi, h1, T k m j (by omega) hm' h1' h2⟩
      · exact Or.inr ⟨hi, h1, h2'⟩
theorem wO_in (c : Nat) (f : Nat → Nat) (k i j : Nat) (h : (f i).testBit j = true) : (wO c k f i).testBit j = true := by
  induction k with
  | zero => exact h
  | succ k ih => show (wI k c (wO c k f) i).testBit j = true; rw [wI_bit]; exact Or.inl ih
theorem wO_hi (c : Nat) (f : Nat → Nat) (k i j : Nat) (hf : ∀ i j, (f i).testBit j = true → i < c ∧ j < c) (h : (wO c k f i).testBit j = true) : i < c ∧ j < c := by
  induction k generalizing i j with
  | zero => exact hf i j h
  | succ k ih =>
    rw [show wO c (k + 1) f = wI k c (wO c k f) from rfl, wI_bit] at h
    rcases h with h | ⟨h1, h2, h3⟩
    · exact ih i j h
    · exact ⟨h1, (ih k j h3).2⟩
theorem wO_lt (c : Nat) (f : Nat → Nat) (k : Nat) (hf : ∀ i, f i < 16) (i : Nat) : wO c k f i < 16 := by
  induction k generalizing i with
  | zero => exact hf i
  | succ k ih =>
    rw [show wO c (k + 1) f = wI k c (wO c k f) from rfl, wI_sp]
    split
    · exact m_or (ih i) (ih k)
    · exact ih i
theorem un_self (f : Nat → Nat) (i : Nat) : un f i (f i) = f := by
  funext j
  unfold un
  split
  · next h => rw [h]
  · rfl
def yP : Nat → (Nat → Nat) → (Nat → Nat)
  | 0, f => f
  | m + 1, f => if ((yP m f) (m / 4)).testBit (m % 4) = true then un (yP m f) (m / 4) ((yP m f) (m / 4) ||| (yP m f) (m % 4)) else yP m f
def yO : Nat → (Nat → Nat) → (Nat → Nat)
  | 0, f => f
  | m + 1, f => yP 16 (yO m f)
theorem yP_up (m : Nat) (f : Nat → Nat) (i j : Nat) (h : (yP m f i).testBit j = true) : (yP (m + 1) f i).testBit j = true := by
  unfold yP
  split
  · by_cases hi : i = m / 4
    · subst hi; rw [un_s, or_bit]; exact Or.inl h
    · rw [un_n hi]; exact h
  · exact h
theorem yP_in (m : Nat) (f : Nat → Nat) (i j : Nat) (h : (f i).testBit j = true) : (yP m f i).testBit j = true := by
  induction m with
  | zero => exact h
  | succ m ih => exact yP_up m f i j ih
theorem yP_st (m : Nat) (f : Nat → Nat) (i j x : Nat) (hj : j < 4) (hm : 4 * i + j < m) (h1 : (f i).testBit j = true) (h2 : (f j).testBit x = true) : (yP m f i).testBit x = true := by
  induction m with
  | zero => exact absurd hm (Nat.not_lt_zero _)
  | succ m ih =>
    by_cases h : 4 * i + j < m
    · exact yP_up m f i x (ih h)
    · have e : m = 4 * i + j := by omega
      have e1 : m / 4 = i := by omega
      have e2 : m % 4 = j := by omega
      unfold yP
      rw [e1, e2, if_pos (yP_in m f i j h1), un_s, or_bit]
      exact Or.inr (yP_in m f j x h2)
theorem yP_so (m : Nat) (f : Nat → Nat) (Q : Nat → Nat → Prop) (hQ : ∀ i j x, Q i j → Q j x → Q i x) (hf : ∀ i j, (f i).testBit j = true → Q i j) (i j : Nat) (h : (yP m f i).testBit j = true) : Q i j := by
  induction m generalizing i j with
  | zero => exact hf i j h
  | succ m ih =>
    unfold yP at h
    split at h
    · next hb =>
      by_cases hi : i = m / 4
      · rw [hi, un_s, or_bit] at h
        rw [hi]
        rcases h with h | h
        · exact ih _ _ h
        · exact hQ _ _ _ (ih _ _ hb) (ih _ _ h)
      · rw [un_n hi] at h; exact ih _ _ h
    · exact ih _ _ h
theorem yP_lt (m : Nat) (f : Nat → Nat) (hf : ∀ i, f i < 16) (i : Nat) : yP m f i < 16 := by
  induction m generalizing i with
  | zero => exact hf i
  | succ m ih =>
    unfold yP
    split
    · by_cases hi : i = m / 4
      · subst hi; rw [un_s]; exact m_or (ih _) (ih _)
      · rw [un_n hi]; exact ih _
    · exact ih _
theorem yO_so (m : Nat) (f : Nat → Nat) (Q : Nat → Nat → Prop) (hQ : ∀ i j x, Q i j → Q j x → Q i x) (hf : ∀ i j, (f i).testBit j = true → Q i j) (i j : Nat) (h : (yO m f i).testBit j = true) : Q i j := by
  induction m generalizing i j with
  | zero => exact hf i j h
  | succ m ih => exact yP_so 16 (yO m f) Q hQ ih i j h
theorem yO_lt (m : Nat) (f : Nat → Nat) (hf : ∀ i, f i < 16) (i : Nat) : yO m f i < 16 := by
  induction m generalizing i with
  | zero => exact hf i
  | succ m ih => exact yP_lt 16 _ ih i
theorem yO_up (m d : Nat) (f : Nat → Nat) (i j : Nat) (h : (yO m f i).testBit j = true) : (yO (m + d) f i).testBit j = true := by
  induction d with
  | zero => exact h
  | succ d ih => exact yP_in 16 _ i j ih
theorem yO_w (c : Nat) (hc : c ≤ 4) (f : Nat → Nat) (k : Nat) (hk : k ≤ c) (i j : Nat) (h : (wO c k f i).testBit j = true) : (yO k f i).testBit j = true := by
  induction k generalizing i j with
  | zero => exact h
  | succ k ih =>
    rw [show wO c (k + 1) f = wI k c (wO c k f) from rfl, wI_bit] at h
    rcases h with h | ⟨h1, h2, h3⟩
    · exact yP_in 16 _ i j (ih (by omega) i j h)
    · exact yP_st 16 _ i k j (by omega) (by omega) (ih (by omega) i k h2) (ih (by omega) k j h3)
theorem yO_eq (c : Nat) (hc : c ≤ 4) (f : Nat → Nat) (hf : ∀ i, f i < 16) (hh : ∀ i j, (f i).testBit j = true → i < c ∧ j < c) : yO 4 f = wO c c f := by
  funext i
  apply m_eq (yO_lt 4 f hf i) (wO_lt c f c hf i)
  intro j _
  constructor
  · intro h
    refine yO_so 4 f (fun i j => (wO c c f i).testBit j = true) ?_ (fun i j => wO_in c f c i j) i j h
    intro i m j h1 h2
    have a := wO_hi c f c i m hh h1
    exact wO_tr c f c (Nat.le_refl c) i m j a.1 a.2 h1 h2
  · intro h
    have := yO_up c (4 - c) f i j (yO_w c hc f c (Nat.le_refl c) i j h)
    rw [show c + (4 - c) = 4 by omega] at this
    exact this
def N0 (c : Nat) (tk en : Nat → Nat) : Nat → Nat := fun i => if i < c then nM (tp tk i) (en i) else 0
def NN (c : Nat) (tk en : Nat → Nat) : Nat → Nat := wO c c (N0 c tk en)
/-! groups -/
def gM (N : Nat → Nat) (i : Nat) : Nat → Nat
  | 0 => 2 ^ i
  | j + 1 => if (N i).testBit j = true ∧ (N j).testBit i = true then gM N i j ||| 2 ^ j else gM N i j
def gS (N : Nat → Nat) (i : Nat) : Nat := gM N i 4
theorem gM_bit (N : Nat → Nat) (i m x : Nat) : (gM N i m).testBit x = true ↔ x = i ∨ (x < m ∧ (N i).testBit x = true ∧ (N x).testBit i = true) := by
  induction m with
  | zero =>
    show (2 ^ i).testBit x = true ↔ _
    rw [pw_bit]
    exact ⟨fun h => Or.inl h.symm, fun h => h.elim Eq.symm (fun z => absurd z.1 (Nat.not_lt_zero _))⟩
  | succ m ih =>
    unfold gM
    split
    · next h =>
      rw [or_bit, ih, pw_bit]
      constructor
      · rintro ((h1 | h1) | h1)
        · exact Or.inl h1
        · exact Or.inr ⟨by omega, h1.2⟩
        · subst h1; exact Or.inr ⟨by omega, h⟩
      · rintro (h1 | h1)
        · exact Or.inl (Or.inl h1)
        · by_cases hx : m = x
          · exact Or.inr hx
          · exact Or.inl (Or.inr ⟨by omega, h1.2⟩)
    · next h =>
      rw [ih]
      constructor
      · rintro (h1 | h1)
        · exact Or.inl h1
        · exact Or.inr ⟨by omega, h1.2⟩
      · rintro (h1 | h1)
        · exact Or.inl h1
        · by_cases hx : m = x
          · subst hx; exact absurd h1.2 h
          · exact Or.inr ⟨by omega, h1.2⟩
theorem gM_lt (N : Nat → Nat) (i m : Nat) (hi : i < 4) (hm : m ≤ 4) : gM N i m < 16 := by
  induction m with
  | zero => exact m_pow hi
  | succ m ih =>
    have := ih (by omega)
    unfold gM
    split
    · exact m_or this (m_pow (by omega))
    · exact this
theorem gM_c (N : Nat → Nat) (i c : Nat) (hN : ∀ j, (N i).testBit j = true → j < c) (d : Nat) : gM N i (c + d) = gM N i c := by
  induction d with
  | zero => rfl
  | succ d ih =>
    rw [show gM N i (c + (d + 1)) = (if (N i).testBit (c + d) = true ∧ (N (c + d)).testBit i = true then gM N i (c + d) ||| 2 ^ (c + d) else gM N i (c + d)) from rfl]
    rw [if_neg (fun z => absurd (hN _ z.1) (by omega)), ih]
