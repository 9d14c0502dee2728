/-! the settling, pure -/
noncomputable def bD (p : Prop) : Bool := @decide p (Classical.propDecidable p)
theorem bD_iff (p : Prop) : bD p = true ↔ p := @decide_eq_true_iff p (Classical.propDecidable p)
def ls (b : Nat → Bool) : Nat → Nat
  | 0 => 0
  | n + 1 => if ls b n < n then ls b n else if b n = true then n else n + 1
theorem ls_sp (b : Nat → Bool) (n : Nat) : ls b n ≤ n ∧ (ls b n < n → b (ls b n) = true) ∧ (∀ k, k < ls b n → ¬ b k = true) := by
  induction n with
  | zero => exact ⟨Nat.le_refl 0, fun h => absurd h (Nat.lt_irrefl _), fun k h => absurd h (Nat.not_lt_zero _)⟩
  | succ n ih =>
    obtain ⟨h1, h2, h3⟩ := ih
    rw [show ls b (n + 1) = (if ls b n < n then ls b n else if b n = true then n else n + 1) from rfl]
    split
    · next h => exact ⟨by omega, fun _ => h2 h, h3⟩
    · next h =>
      have e : ls b n = n := by omega
      rw [e] at h3
      split
      · next hb => exact ⟨by omega, fun _ => hb, h3⟩
      · next hb =>
        refine ⟨Nat.le_refl _, fun z => absurd z (Nat.lt_irrefl _), fun k hk => ?_⟩
        by_cases hkn : k = n
        · subst hkn; exact hb
        · exact h3 k (by omega)
theorem ls_y {b : Nat → Bool} {n : Nat} (k : Nat) (hk : k < n) (hb : b k = true) (hl : ∀ j, j < k → ¬ b j = true) : ls b n = k := by
  obtain ⟨h1, h2, h3⟩ := ls_sp b n
  rcases Nat.lt_trichotomy (ls b n) k with h | h | h
  · exact absurd (h2 (by omega)) (hl _ h)
  · exact h
  · exact absurd hb (h3 k h)
theorem ls_n {b : Nat → Bool} {n : Nat} (hl : ∀ j, j < n → ¬ b j = true) : ¬ ls b n < n := by
  intro h
  obtain ⟨h1, h2, h3⟩ := ls_sp b n
  exact hl _ h (h2 h)
/-- choice ch is one of the group's, and fits -/
noncomputable def bb (pc tk en : Nat → Nat) (S : Nat) (G : Nat → Nat) (ch : Nat) : Bool := bD (ch < 4 ^ cb S pc 8 ∧ Ft pc tk en S (tG S pc ch G))
theorem bb_iff (pc tk en : Nat → Nat) (S : Nat) (G : Nat → Nat) (ch : Nat) : bb pc tk en S G ch = true ↔ ch < 4 ^ cb S pc 8 ∧ Ft pc tk en S (tG S pc ch G) := bD_iff _
noncomputable def pS (N pc tk en : Nat → Nat) (i : Nat) (s : Nat × Nat × (Nat → Nat)) : Nat × Nat × (Nat → Nat) :=
  if s.1.testBit i = true then s
  else if ¬ sb (sb (N i) (gS N i)) s.1 = 0 then s
  else if ¬ sb (sb (N i) (gS N i)) s.2.1 = 0 then (s.1 ||| gS N i, s.2.1, s.2.2)
  else if ls (bb pc tk en (gS N i) s.2.2) 4096 < 4096 then (s.1 ||| gS N i, s.2.1 ||| gS N i, tG (gS N i) pc (ls (bb pc tk en (gS N i) s.2.2) 4096) s.2.2)
  else (s.1 ||| gS N i, s.2.1, s.2.2)
noncomputable def pI (N pc tk en : Nat → Nat) (s : Nat × Nat × (Nat → Nat)) : Nat → Nat × Nat × (Nat → Nat)
  | 0 => s
  | m + 1 => pS N pc tk en m (pI N pc tk en s m)
noncomputable def pR (c : Nat) (N pc tk en : Nat → Nat) : Nat → Nat × Nat × (Nat → Nat)
  | 0 => (0, 0, fun _ => 0)
  | r + 1 => pI N pc tk en (pR c N pc tk en r) c
def PI (c : Nat) (N : Nat → Nat) (s : Nat × Nat × (Nat → Nat)) : Prop :=
  s.1 < 16 ∧ s.2.1 < 16 ∧ (∀ q, s.2.2 q < 4) ∧ (∀ j, s.2.1.testBit j = true → s.1.testBit j = true) ∧ (∀ i j, s.1.testBit i = true → (gS N i).testBit j = true → s.1.testBit j = true) ∧ (∀ i j, s.2.1.testBit i = true → (N i).testBit j = true → s.2.1.testBit j = true) ∧ (∀ j, s.1.testBit j = true → j < c)
theorem PI_D {c : Nat} (hc : c ≤ 4) {tk en N : Nat → Nat} (q : NQ c tk en N) {i : Nat} (hi : i < c) {s : Nat × Nat × (Nat → Nat)} (h : PI c N s) : PI c N (s.1 ||| gS N i, s.2.1, s.2.2) := by
  obtain ⟨h1, h2, h3, h4, h5, h6, h7⟩ := h
  refine ⟨m_or h1 (gS_lt N i (by omega)), h2, h3, fun j hj => (or_bit _ _ _).mpr (Or.inl (h4 j hj)), ?_, h6, ?_⟩
  · intro a b ha hb
    dsimp only at ha ⊢
    rw [or_bit] at ha ⊢
    rcases ha with ha | ha
    · exact Or.inl (h5 a b ha hb)
    · exact Or.inr (gS_tr q.1 q.2.2.1 ha hb)
  · intro j hj
    dsimp only at hj
    rw [or_bit] at hj
    rcases hj with hj | hj
    · exact h7 j hj
    · exact gS_c q hi hj
theorem PI_S {c : Nat} (hc : c ≤ 4) {pc tk en N : Nat → Nat} (q : NQ c tk en N) {i : Nat} (hi : i < c) {s : Nat × Nat × (Nat → Nat)} (h : PI c N s) : PI c N (pS N pc tk en i s) := by
  unfold pS
  split
  · exact h
  · split
    · exact h
    · split
      · exact PI_D hc q hi h
      · next hD h1 h2 =>
        split
        · next hl =>
          have hw : sb (sb (N i) (gS N i)) s.2.1 = 0 := Classical.byContradiction h2
          obtain ⟨p1, p2, p3, p4, p5, p6, p7⟩ := h
          obtain ⟨d1, d2, d3, d4, d5, d6, d7⟩ := PI_D hc q hi ⟨p1, p2, p3, p4, p5, p6, p7⟩
          have hsb : sb (N i) (gS N i) < 16 := (kj_sub _ (q.1 i) _ (gS_lt N i (by omega))).2
          have hW := (sb_0 hsb).mp hw
          refine ⟨d1, m_or p2 (gS_lt N i (by omega)), fun x => tG_lt p3 x, ?_, d5, ?_, d7⟩
          · intro j hj
            dsimp only at hj ⊢
            rw [or_bit] at hj ⊢
            exact hj.elim (fun z => Or.inl (p4 j z)) Or.inr
          · intro a b ha hb
            dsimp only at ha ⊢
            rw [or_bit] at ha ⊢
            rcases ha with ha | ha
            · exact Or.inl (p6 a b ha hb)
            · have hib : (N i).testBit b = true := by
                rcases (gS_bit N q.1 i a).mp ha with z | z
                · rw [← z]; exact hb
                · exact q.2.2.1 _ _ _ z.1 hb
              by_cases z : (gS N i).testBit b = true
              · exact Or.inr z
              · refine Or.inl (hW b (m_hi (q.1 i) hib) ?_)
                rw [sb_bit (q.1 i), hib]
                simp [z]
        · exact PI_D hc q hi h
theorem PI_I {c : Nat} (hc : c ≤ 4) {pc tk en N : Nat → Nat} (q : NQ c tk en N) {s : Nat × Nat × (Nat → Nat)} (h : PI c N s) (m : Nat) (hm : m ≤ c) : PI c N (pI N pc tk en s m) := by
  induction m with
  | zero => exact h
  | succ m ih => exact PI_S hc q (by omega) (ih (by omega))
theorem PI_R {c : Nat} (hc : c ≤ 4) {pc tk en N : Nat → Nat} (q : NQ c tk en N) (r : Nat) : PI c N (pR c N pc tk en r) := by
  induction r with
  | zero =>
    refine ⟨(by decide : 0 < 16), (by decide : 0 < 16), fun _ => (by decide : 0 < 4), ?_, ?_, ?_, ?_⟩
    · intro j h; exact h
    · intro i j h; rw [show (pR c N pc tk en 0).1 = 0 from rfl, Nat.zero_testBit] at h; cases h
    · intro i j h; rw [show (pR c N pc tk en 0).2.1 = 0 from rfl, Nat.zero_testBit] at h; cases h
    · intro j h; rw [show (pR c N pc tk en 0).1 = 0 from rfl, Nat.zero_testBit] at h; cases h
  | succ r ih => exact PI_I hc q ih c (Nat.le_refl c)
/-- could: some choice of the group fits and gives slot x the kind k -/
def Cd (pc tk en : Nat → Nat) (S : Nat) (G : Nat → Nat) (x k : Nat) : Prop := ∃ ch, ch < 4 ^ cb S pc 8 ∧ Ft pc tk en S (tG S pc ch G) ∧ tG S pc ch G x = k
