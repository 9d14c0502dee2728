section
variable {c pt w : Nat} {st : Int32} {pc tc tk fc fe nt sk sc cc gs stk : Nat → Nat}
/-- the declarations -/
def DQ (c : Nat) (pc tc tk fe : Nat → Nat) : Prop := c ≤ 4 ∧ (∀ i, pc i ≤ 2) ∧ (∀ q, tk q ≤ 10) ∧ sP pc c ≤ 6 ∧ (∀ i, tc i ≤ 20) ∧ (∀ i, i < c → fe i = rE (tp tk i) (tc i)) ∧ TQ c pc tk fe
theorem DQ_e (D : DQ c pc tc tk fe) {i : Nat} (hi : i < c) : fe i ≤ 20 := by
  obtain ⟨h1, h2, h3, h4, h5, h6, h7⟩ := D
  have := rE_le (tp tk i) (tc i)
  have := h5 i
  rw [h6 i hi]
  omega
theorem x_ft2 {post : Int32 → SX → Prop} {S : Nat} (D : DQ c pc tc tk fe) (hS : S < 16) (hSc : ∀ j, S.testBit j = true → j < c) (hk : ∀ q, sk q < 4) (hcc : ∀ q, q < 4 → cc q = nc q) (hC : ∀ i k, S.testBit i = true → k < fe i → 7 ≤ tp tk i k → cc (4 + (tp tk i k - 7)) = co pc sk (tp tk i k - 7)) (hp : ∀ s, (Ft pc tk fe S sk → post 1 ((nI c), (nI pt), st, (nI w), (na pc), (na tc), (na tk), (na fc), (na fe), (na nt), (na sk), (na sc), (na cc), (na gs), (na s))) ∧ (¬ Ft pc tk fe S sk → post 0 ((nI c), (nI pt), st, (nI w), (na pc), (na tc), (na tk), (na fc), (na fe), (na nt), (na sk), (na sc), (na cc), (na gs), (na s)))) : ∀ m i s, i + m = c → (∀ x, x < i → S.testBit x = true → FI (tp tk x) (fun k => lf pc sk x (tp tk x k)) (fe x)) → wX_fits_2 post (nI S) (m + 1) (nI i) (nI c) (nI pt) st (nI w) (na pc) (na tc) (na tk) (na fc) (na fe) (na nt) (na sk) (na sc) (na cc) (na gs) (na s) := by
  have hc4 := D.1
  intro m
  induction m with
  | zero =>
    intro i s hi h
    have hi : i = c := by omega
    subst hi
    exact br_t (nI_le (Nat.le_refl _) (by omega)) ((hp s).1 (fun x _ hx => h x (hSc x hx) hx))
  | succ m ih =>
    intro i s hi h
    refine br_f (nI_ge (by omega) (by omega)) (x_ho (by omega) (by omega) (fun hb => br_f (by decide) ?_) (fun hb => br_t rfl (nm_r (nI_1 _) (ih (i + 1) s (by omega) (fun x hx hxb => ?_)))))
    · refine x_as (L := fun k => lf pc sk i (tp tk i k)) (by omega) (D.2.2.2.2.2.1 i (by omega)) (DQ_e D (by omega)) D.2.2.1 hk hcc (fun k => lf_vc hk _ _) (fun k hk' h0 => ?_) (fun s' => ⟨fun hf => ?_, fun hf => ?_⟩)
      · have ht := D.2.2.1 (i * 20 + k)
        have et : tp tk i k = tk (i * 20 + k) := rfl
        unfold xl lf
        split
        · exact hcc _ (hk _)
        · split
          · exact hcc _ (by omega)
          · rw [← hC i k hb hk' (by omega)]
            congr 1
            omega
      · refine br_f (by decide) (nm_r (nI_1 _) (ih (i + 1) s' (by omega) (fun x hx hxb => ?_)))
        by_cases e : x = i
        · rw [e]; exact hf
        · exact h x (by omega) hxb
      · exact br_t rfl ((hp s').2 (fun z => hf (z i (by omega) hb)))
    · by_cases e : x = i
      · rw [e] at hxb; exact absurd hxb hb
      · exact h x (by omega) hxb
theorem x_ft {post : Int32 → SX → Prop} {S : Nat} (D : DQ c pc tc tk fe) (hS : S < 16) (hSc : ∀ j, S.testBit j = true → j < c) (hk : ∀ q, sk q < 4) (hcc : ∀ q, q < 4 → cc q = nc q) (hC : ∀ i k, S.testBit i = true → k < fe i → 7 ≤ tp tk i k → cc (4 + (tp tk i k - 7)) = co pc sk (tp tk i k - 7)) (hp : ∀ s, (Ft pc tk fe S sk → post 1 ((nI c), (nI pt), st, (nI w), (na pc), (na tc), (na tk), (na fc), (na fe), (na nt), (na sk), (na sc), (na cc), (na gs), (na s))) ∧ (¬ Ft pc tk fe S sk → post 0 ((nI c), (nI pt), st, (nI w), (na pc), (na tc), (na tk), (na fc), (na fe), (na nt), (na sk), (na sc), (na cc), (na gs), (na s)))) : wpX_fits post ((nI c), (nI pt), st, (nI w), (na pc), (na tc), (na tk), (na fc), (na fe), (na nt), (na sk), (na sc), (na cc), (na gs), (na stk)) (nI S) :=
  ⟨c + 1, x_ft2 D hS hSc hk hcc hC hp c 0 stk (by omega) (fun x hx => absurd hx (Nat.not_lt_zero _))⟩
/-! settleChoice -/
def SO (pc tk fe : Nat → Nat) (S : Nat) (sk sc : Nat → Nat) (m : Nat) (sc' : Nat → Nat) : Prop := ∀ q, (q < 8 ∧ iG S pc q = true → sc' q < 16 ∧ ∀ k, k < 4 → ((sc' q).testBit k = true ↔ ∃ ch, ch < m ∧ Ft pc tk fe S (tG S pc ch sk) ∧ tG S pc ch sk q = k)) ∧ (¬ (q < 8 ∧ iG S pc q = true) → sc' q = sc q)
theorem SO_n {S m : Nat} {sc' : Nat → Nat} (h : SO pc tk fe S sk sc m sc') (hf : ¬ Ft pc tk fe S (tG S pc m sk)) : SO pc tk fe S sk sc (m + 1) sc' := by
  intro q
  refine ⟨fun hq => ⟨((h q).1 hq).1, fun k hk => ?_⟩, (h q).2⟩
  rw [((h q).1 hq).2 k hk]
  constructor
  · rintro ⟨ch, h1, h2⟩; exact ⟨ch, by omega, h2⟩
  · rintro ⟨ch, h1, h2⟩
    by_cases e : ch = m
    · rw [e] at h2; exact absurd h2.1 hf
    · exact ⟨ch, by omega, h2⟩
theorem SO_y {S m : Nat} {sc' : Nat → Nat} (hk : ∀ q, sk q < 4) (h : SO pc tk fe S sk sc m sc') (hf : Ft pc tk fe S (tG S pc m sk)) : SO pc tk fe S sk sc (m + 1) (sn S pc (tG S pc m sk) sc' 8) := by
  intro q
  refine ⟨fun hq => ?_, fun hq => ?_⟩
  · rw [show sn S pc (tG S pc m sk) sc' 8 q = sc' q ||| 2 ^ tG S pc m sk q from if_pos hq]
    refine ⟨m_or ((h q).1 hq).1 (m_pow (tG_lt hk q)), fun k hk' => ?_⟩
    rw [or_bit, ((h q).1 hq).2 k hk', pw_bit]
    constructor
    · rintro (⟨ch, h1, h2⟩ | h2)
      · exact ⟨ch, by omega, h2⟩
      · exact ⟨m, by omega, hf, h2⟩
    · rintro ⟨ch, h1, h2⟩
      by_cases e : ch = m
      · rw [e] at h2; exact Or.inr h2.2
      · exact Or.inl ⟨ch, by omega, h2⟩
  · rw [show sn S pc (tG S pc m sk) sc' 8 q = sc' q from if_neg hq]
    exact (h q).2 hq
theorem cT_cg {S c : Nat} {pc g cc cc' : Nat → Nat} (h : ∀ q, (4 ≤ q ∧ q < 4 + c ∧ S.testBit (q - 4) = true) ∨ cc' q = cc q) : cT S c pc g cc' = cT S c pc g cc := by
  funext q
  unfold cT
  rcases h q with z | z
  · rw [if_pos z, if_pos z]
  · rw [z]
theorem cT_o {S c : Nat} {pc g cc : Nat → Nat} (q : Nat) : (4 ≤ q ∧ q < 4 + c ∧ S.testBit (q - 4) = true) ∨ cT S c pc g cc q = cc q := by
  by_cases h : 4 ≤ q ∧ q < 4 + c ∧ S.testBit (q - 4) = true
  · exact Or.inl h
  · exact Or.inr (if_neg h)
theorem tG_o {S : Nat} {pc g : Nat → Nat} {ch : Nat} (q : Nat) : (q < 8 ∧ iG S pc q = true) ∨ tG S pc ch g q = g q := by
  by_cases h : q < 8 ∧ iG S pc q = true
  · exact Or.inl h
  · exact Or.inr (if_neg h)
theorem co_o {S c : Nat} {pc g : Nat → Nat} {ch j : Nat} (h2 : ∀ i, pc i ≤ 2) (h : ¬ S.testBit j = true) : co pc (tG S pc ch g) j = co pc g j := by
  have e : ∀ a, a < 2 → tG S pc ch g (j * 2 + a) = g (j * 2 + a) := fun a ha => tG_out (fun z => h ((iG_ix S pc j a ha).mp z).1)
  unfold co
  rw [e 1 (by omega), show tG S pc ch g (j * 2) = g (j * 2) from e 0 (by omega)]
theorem x_sc18 {post : Int32 → SX → Prop} {S : Nat} (D : DQ c pc tc tk fe) (hS : S < 16) (hSc : ∀ j, S.testBit j = true → j < c) (hk : ∀ q, sk q < 4) (hcc : ∀ q, q < 4 → cc q = nc q) (hg : gL S pc 8 gs)
    (hC : ∀ i k, S.testBit i = true → k < fe i → 7 ≤ tp tk i k → S.testBit (tp tk i k - 7) = true ∨ (¬ S.testBit (tp tk i k - 7) = true ∧ cc (4 + (tp tk i k - 7)) = co pc sk (tp tk i k - 7)))
    (hy : ∀ sc' s, ls (bb pc tk fe S sk) (4 ^ cb S pc 8) < 4 ^ cb S pc 8 → SO pc tk fe S sk sc (4 ^ cb S pc 8) sc' → post 1 ((nI c), (nI pt), st, (nI w), (na pc), (na tc), (na tk), (na fc), (na fe), (na nt), (na (tG S pc (ls (bb pc tk fe S sk) (4 ^ cb S pc 8)) sk)), (na sc'), (na (cT S c pc (tG S pc (ls (bb pc tk fe S sk) (4 ^ cb S pc 8)) sk) cc)), (na gs), (na s)))
    (hn : ∀ sk' cc' sc' s, ¬ ls (bb pc tk fe S sk) (4 ^ cb S pc 8) < 4 ^ cb S pc 8 → (∀ q, (q < 8 ∧ iG S pc q = true) ∨ sk' q = sk q) → (∀ q, sk' q < 4) → (∀ q, (4 ≤ q ∧ q < 4 + c ∧ S.testBit (q - 4) = true) ∨ cc' q = cc q) → SO pc tk fe S sk sc (4 ^ cb S pc 8) sc' → post 0 ((nI c), (nI pt), st, (nI w), (na pc), (na tc), (na tk), (na fc), (na fe), (na nt), (na sk'), (na sc'), (na cc'), (na gs), (na s))) :
    ∀ d m sk' cc' sc' s l, m + d = 4 ^ cb S pc 8 → (∀ q, (q < 8 ∧ iG S pc q = true) ∨ sk' q = sk q) → (∀ q, sk' q < 4) → (∀ q, (4 ≤ q ∧ q < 4 + c ∧ S.testBit (q - 4) = true) ∨ cc' q = cc q) → SO pc tk fe S sk sc m sc' → l = (if ls (bb pc tk fe S sk) m < m then ls (bb pc tk fe S sk) m else 4 ^ cb S pc 8) → wX_settleChoice_18 post (nI S) (nI (cb S pc 8)) (nI (4 ^ cb S pc 8)) (d + 1) (nI l) (nI m) (nI c) (nI pt) st (nI w) (na pc) (na tc) (na tk) (na fc) (na fe) (na nt) (na sk') (na sc') (na cc') (na gs) (na s) := by
  have hc4 := D.1
  have h6 := cb_6 hc4 hSc D.2.2.2.1
  have hC6 : 4 ^ cb S pc 8 ≤ 4096 := Nat.pow_le_pow_right (n := 4) (j := 6) (by omega) h6
  generalize hCe : 4 ^ cb S pc 8 = C at *
  intro d
  induction d with
  | zero =>
    intro m sk' cc' sc' s l hm i1 i2 i3 i4 hl
    have hm : m = C := by omega
    subst hm
    refine br_t (nI_le (Nat.le_refl _) (by omega)) ?_
    by_cases hls : ls (bb pc tk fe S sk) m < m
    · rw [if_pos hls] at hl
      subst hl
      refine br_f (fun z => by rw [nI_eq (by omega) (by omega)] at z; omega) (x_tk hc4 hS D.2.1 i2 (by omega) hg ?_)
      rw [tG_tG i1, cT_cg i3]
      exact hy sc' s hls i4
    · rw [if_neg hls] at hl
      subst hl
      exact br_t rfl (hn sk' cc' sc' s hls i1 i2 i3 i4)
  | succ d ih =>
    intro m sk' cc' sc' s l hm i1 i2 i3 i4 hl
    have hb := bb_iff pc tk fe S sk m
    rw [hCe] at hb
    have hls := ls_sp (bb pc tk fe S sk) m
    refine br_f (nI_ge (by omega) (by omega)) (x_tk hc4 hS D.2.1 i2 (by omega) hg ?_)
    rw [tG_tG i1, cT_cg i3]
    have j2 : ∀ q, tG S pc m sk q < 4 := tG_lt hk
    have lse : ls (bb pc tk fe S sk) (m + 1) = (if ls (bb pc tk fe S sk) m < m then ls (bb pc tk fe S sk) m else if bb pc tk fe S sk m = true then m else m + 1) := rfl
    refine x_ft D hS hSc j2 (fun q hq => ?_) (fun i k hi hk' h7 => ?_) (fun s' => ⟨fun hf => br_f (by decide) (x_nc j2 hg ?_), fun hf => br_t rfl (nm_r (nI_1 _) (ih (m + 1) _ _ sc' s' l (by omega) tG_o j2 cT_o (SO_n i4 hf) ?_))⟩)
    · rcases cT_o (S := S) (c := c) (pc := pc) (g := tG S pc m sk) (cc := cc) q with z | z
      · omega
      · rw [z]; exact hcc q hq
    · have hjc := (D.2.2.2.2.2.2 i k (hSc i hi) hk').2.2 h7
      unfold cT
      rcases hC i k hi hk' h7 with z | ⟨z, z'⟩
      · rw [if_pos ⟨by omega, by omega, by rw [show 4 + (tp tk i k - 7) - 4 = tp tk i k - 7 by omega]; exact z⟩, show 4 + (tp tk i k - 7) - 4 = tp tk i k - 7 by omega]
      · rw [if_neg (fun y => z (by have := y.2.2; rw [show 4 + (tp tk i k - 7) - 4 = tp tk i k - 7 by omega] at this; exact this)), z', co_o (c := c) D.2.1 z]
    · have hbm : bb pc tk fe S sk m = true := hb.mpr ⟨by omega, hf⟩
      rw [if_pos hbm] at lse
      refine pk_eq l C (fun e => nm_r (nI_1 _) (ih (m + 1) _ _ _ s' m (by omega) tG_o j2 cT_o (SO_y hk i4 hf) ?_)) (fun e => nm_r (nI_1 _) (ih (m + 1) _ _ _ s' l (by omega) tG_o j2 cT_o (SO_y hk i4 hf) ?_)) rfl rfl ?_ (by omega)
      · have h1 : ¬ ls (bb pc tk fe S sk) m < m := fun z => by rw [if_pos z] at hl; omega
        rw [if_neg h1] at lse
        rw [lse, if_pos (by omega)]
      · have h1 : ls (bb pc tk fe S sk) m < m := Classical.byContradiction (fun z => by rw [if_neg z] at hl; omega)
        rw [if_pos h1] at lse hl
        rw [lse, if_pos (by omega), hl]
      · rw [hl]; split <;> omega
    · have hbm : ¬ bb pc tk fe S sk m = true := fun z => hf (hb.mp z).2
      rw [if_neg hbm] at lse
      rw [hl]
      by_cases h1 : ls (bb pc tk fe S sk) m < m
      · rw [if_pos h1] at lse ⊢
        rw [lse, if_pos (by omega)]
      · rw [if_neg h1] at lse ⊢
        rw [lse, if_neg (by omega)]
theorem x_sch {post : Int32 → SX → Prop} {S : Nat} (D : DQ c pc tc tk fe) (hS : S < 16) (hSc : ∀ j, S.testBit j = true → j < c) (hk : ∀ q, sk q < 4) (hcc : ∀ q, q < 4 → cc q = nc q)
    (hC : ∀ i k, S.testBit i = true → k < fe i → 7 ≤ tp tk i k → S.testBit (tp tk i k - 7) = true ∨ (¬ S.testBit (tp tk i k - 7) = true ∧ cc (4 + (tp tk i k - 7)) = co pc sk (tp tk i k - 7)))
    (hy : ∀ sc' gs' s, ls (bb pc tk fe S sk) (4 ^ cb S pc 8) < 4 ^ cb S pc 8 → SO pc tk fe S sk sc (4 ^ cb S pc 8) sc' → post 1 ((nI c), (nI pt), st, (nI w), (na pc), (na tc), (na tk), (na fc), (na fe), (na nt), (na (tG S pc (ls (bb pc tk fe S sk) (4 ^ cb S pc 8)) sk)), (na sc'), (na (cT S c pc (tG S pc (ls (bb pc tk fe S sk) (4 ^ cb S pc 8)) sk) cc)), (na gs'), (na s)))
    (hn : ∀ sk' cc' sc' gs' s, ¬ ls (bb pc tk fe S sk) (4 ^ cb S pc 8) < 4 ^ cb S pc 8 → (∀ q, (q < 8 ∧ iG S pc q = true) ∨ sk' q = sk q) → (∀ q, sk' q < 4) → (∀ q, (4 ≤ q ∧ q < 4 + c ∧ S.testBit (q - 4) = true) ∨ cc' q = cc q) → SO pc tk fe S sk sc (4 ^ cb S pc 8) sc' → post 0 ((nI c), (nI pt), st, (nI w), (na pc), (na tc), (na tk), (na fc), (na fe), (na nt), (na sk'), (na sc'), (na cc'), (na gs'), (na s))) :
    wpX_settleChoice post ((nI c), (nI pt), st, (nI w), (na pc), (na tc), (na tk), (na fc), (na fe), (na nt), (na sk), (na sc), (na cc), (na gs), (na stk)) (nI S) := by
  have hc4 := D.1
  have h6 := cb_6 hc4 hSc D.2.2.2.1
  unfold wpX_settleChoice
  refine x_ls hc4 hS hSc D.2.1 (fun gs' hg => ?_)
  refine nm_r (e' := nI (4 ^ cb S pc 8)) ?_ ⟨4 ^ cb S pc 8 + 1, ?_⟩
  · rw [kj_d2, kj_one (by omega), Nat.mul_comm, Nat.pow_mul]
  · refine x_sc18 (sc := sz S pc sc 8) D hS hSc hk hcc hg hC (fun sc' s h1 h2 => hy sc' gs' s h1 ?_) (fun sk' cc' sc' s h1 h2 h3 h4 h5 => hn sk' cc' sc' gs' s h1 h2 h3 h4 ?_) (4 ^ cb S pc 8) 0 sk cc (sz S pc sc 8) stk (4 ^ cb S pc 8) (by omega) (fun q => Or.inr rfl) hk (fun q => Or.inr rfl) (fun q => ⟨fun hq => ?_, fun _ => rfl⟩) (by rw [if_neg (by omega)])
    · intro q
      refine ⟨(h2 q).1, fun hq => ?_⟩
      rw [(h2 q).2 hq]
      exact if_neg hq
    · intro q
      refine ⟨(h5 q).1, fun hq => ?_⟩
      rw [(h5 q).2 hq]
      exact if_neg hq
    · rw [show sz S pc sc 8 q = 0 from if_pos hq]
      refine ⟨by decide, fun k hk' => ?_⟩
      rw [Nat.zero_testBit]
      exact ⟨fun z => (nomatch z), fun ⟨ch, z, _⟩ => absurd z (Nat.not_lt_zero _)⟩
end
