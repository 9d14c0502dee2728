section
variable {c pt w : Nat} {st : Int32} {pc tc tk fc fe nt sk sc cc gs stk : Nat → Nat}
/-! the class: declared, parameters -/
theorem x_dy {post : Int32 → Prop} {i : Nat} (hc : c ≤ 4) (hi : i < c) (hp : post 1) : wpX_isDeclared post ((nI c), (nI pt), st, (nI w), (na pc), (na tc), (na tk), (na fc), (na fe), (na nt), (na sk), (na sc), (na cc), (na gs), (na stk)) (nI i) :=
  br_f (nI_pos (by omega)) (br_f (nI_ge hi (by omega)) hp)
theorem x_dn {post : Int32 → Prop} {v : Int32} (h : v < 0 ∨ nI c ≤ v) (hp : post 0) : wpX_isDeclared post ((nI c), (nI pt), st, (nI w), (na pc), (na tc), (na tk), (na fc), (na fe), (na nt), (na sk), (na sc), (na cc), (na gs), (na stk)) v := by
  by_cases h0 : v < 0
  · exact br_t h0 hp
  · exact br_f h0 (br_t (h.resolve_left h0) hp)
theorem x_hpy {post : Int32 → Prop} {i a : Nat} (hc : c ≤ 4) (hi : i < c) (h2 : ∀ i, pc i ≤ 2) (ha : a < pc i) (hp : post 1) : wpX_hasParameter post ((nI c), (nI pt), st, (nI w), (na pc), (na tc), (na tk), (na fc), (na fe), (na nt), (na sk), (na sc), (na cc), (na gs), (na stk)) (nI i) (nI a) := by
  have := h2 i
  unfold wpX_hasParameter
  exact x_dy hc hi (br_f (by decide) (br_f (nI_pos (by omega)) ⟨pk_in i 4 (by omega), by rw [na_i i]; exact br_f (nI_ge ha (by omega)) hp⟩))
theorem x_hpn {post : Int32 → Prop} {i : Nat} {v : Int32} (hc : c ≤ 4) (hi : i < c) (h : v < 0 ∨ nI (pc i) ≤ v) (hp : post 0) : wpX_hasParameter post ((nI c), (nI pt), st, (nI w), (na pc), (na tc), (na tk), (na fc), (na fe), (na nt), (na sk), (na sc), (na cc), (na gs), (na stk)) (nI i) v := by
  unfold wpX_hasParameter
  refine x_dy hc hi (br_f (by decide) ?_)
  by_cases h0 : v < 0
  · exact br_t h0 hp
  · exact br_f h0 ⟨pk_in i 4 (by omega), by rw [na_i i]; exact br_t (h.resolve_left h0) hp⟩
theorem x_hpu {post : Int32 → Prop} {v v2 : Int32} (h : v < 0 ∨ nI c ≤ v) (hp : post 0) : wpX_hasParameter post ((nI c), (nI pt), st, (nI w), (na pc), (na tc), (na tk), (na fc), (na fe), (na nt), (na sk), (na sc), (na cc), (na gs), (na stk)) v v2 := by
  unfold wpX_hasParameter
  exact x_dn h (br_t rfl hp)
/-- may token v stand in type i -/
def mS (c : Nat) (pc : Nat → Nat) (i t : Nat) : Prop := t ≤ 10 ∧ (t = 1 ∨ t = 2 → t ≤ pc i) ∧ (7 ≤ t → t - 7 < c)
theorem kj_t7 : ∀ t, t < 11 → (7 ≤ t → (nI t - 3) - 4 = nI (t - 7) ∧ ¬ nI t - 3 < 4 ∧ nI t - 7 = nI (t - 7)) ∧ (t < 7 → (nI t - 3) - 4 < 0) ∧ (3 ≤ t → t < 7 → nI t - 3 < 4) ∧ (3 ≤ t → nI t - 3 = nI (t - 3)) ∧ (1 ≤ t → nI t - 1 = nI (t - 1)) := by decide +kernel
theorem x_may {post : Int32 → Prop} {i t : Nat} (hc : c ≤ 4) (hi : i < c) (h2 : ∀ i, pc i ≤ 2) (hy : mS c pc i t → post 1) (hn : ¬ mS c pc i t → post 0) (ht : t < 2 ^ 31) : wpX_mayStandIn post ((nI c), (nI pt), st, (nI w), (na pc), (na tc), (na tk), (na fc), (na fe), (na nt), (na sk), (na sc), (na cc), (na gs), (na stk)) (nI i) (nI t) := by
  have := h2 i
  unfold wpX_mayStandIn
  refine br_f (nI_pos ht) (pk_le t 10 (fun h10 => ?_) (fun h10 => hn (fun z => by have := z.1; omega)))
  obtain ⟨k1, k2, k3, k4, k5⟩ := kj_t7 t (by omega)
  refine pk_eq t 0 (fun h0 => hy ⟨by omega, by omega, by omega⟩) (fun h0 => pk_le 3 t (fun h3 => nm_e ?_) (fun h3 => ?_))
  · by_cases h7 : t < 7
    · exact br_t (k3 h3 h7) (hy ⟨by omega, by omega, by omega⟩)
    · obtain ⟨e1, e2, e3⟩ := k1 (by omega)
      refine br_f e2 ?_
      rw [e1]
      by_cases hd : t - 7 < c
      · exact x_dy hc hd (br_f (by decide) (hy ⟨by omega, by omega, fun _ => hd⟩))
      · exact x_dn (Or.inr (nI_le (by omega) (by omega))) (br_t rfl (hn (fun z => hd (z.2.2 (by omega)))))
  · rw [k5 (by omega)]
    by_cases hd : t - 1 < pc i
    · exact x_hpy hc hi h2 hd ⟨nb_1, hy ⟨by omega, fun _ => by omega, by omega⟩⟩
    · exact x_hpn hc hi (Or.inr (nI_le (by omega) (by omega))) ⟨nb_0, hn (fun z => hd (by have := z.2.1 (by omega); omega))⟩
theorem x_mayb {post : Int32 → Prop} {i : Nat} {v : Int32} (h : v < 0) (hp : post 0) : wpX_mayStandIn post ((nI c), (nI pt), st, (nI w), (na pc), (na tc), (na tk), (na fc), (na fe), (na nt), (na sk), (na sc), (na cc), (na gs), (na stk)) (nI i) v := by
  unfold wpX_mayStandIn
  exact br_t h hp
/-! findFields -/
theorem x_ff27 {post : SX → Prop} {J : Int32 → Int32 → Int32 → Int32 → Prop} {i k o : Nat} (ho : o = rO (tp tk i) k) (hi : i < 4) (hk : k < 20) (ht : ∀ q, tk q ≤ 10) (H : ∀ aw, (aw = rO (tp tk i) (k + 1) ∨ aw = 0 ∧ rO (tp tk i) (k + 1) = 1) → J (nI aw) (nI (rF (tp tk i) (k + 1))) (nI (rE (tp tk i) (k + 1))) (nI (k + 1))) : wX_findFields_27 post J (nI i) (nI o) (nI (rF (tp tk i) k)) (nI (rE (tp tk i) k)) (nI k) (nI c) (nI pt) st (nI w) (na pc) (na tc) (na tk) (na fc) (na fe) (na nt) (na sk) (na sc) (na cc) (na gs) (na stk) := by
  subst ho
  have h1 := ht (i * 20 + k)
  have h2 := rO_pos (tp tk i) k
  have h3 := rO_le (tp tk i) k
  have e : tp tk i k = tk (i * 20 + k) := rfl
  refine ⟨pk_in (i * 20 + k) 80 (by omega) (kj_ix20 i k), pk_eq (tk (i * 20 + k)) 0 (fun h0 => ?_) (fun h0 => ?_) (na_at _ (kj_ix20 i k))⟩
  · refine nm_r (nI_1 _) (br_f (nI_ne0 (by omega) (by omega)) (nm_r (nI_1 _) ?_))
    have f1 : rO (tp tk i) (k + 1) = rO (tp tk i) k + 1 := if_pos h0
    have f2 : rF (tp tk i) (k + 1) = rF (tp tk i) k := if_pos h0
    have f3 : rE (tp tk i) (k + 1) = rE (tp tk i) k := if_pos h0
    have := H _ (Or.inl rfl)
    rw [f1, f2, f3] at this
    exact this
  · obtain ⟨d, hd⟩ : ∃ d, rO (tp tk i) k = d + 1 := ⟨rO (tp tk i) k - 1, by omega⟩
    rw [hd]
    refine nm_r (pk_m1 d) ?_
    by_cases hd0 : d = 0
    · subst hd0
      refine br_t rfl (nm_r (nI_1 _) (nm_r (nI_1 _) (nm_r (nI_1 _) ?_)))
      have f1 : rO (tp tk i) (k + 1) = 1 := (if_neg h0).trans (if_pos hd)
      have f2 : rF (tp tk i) (k + 1) = rF (tp tk i) k + 1 := (if_neg h0).trans (if_pos hd)
      have f3 : rE (tp tk i) (k + 1) = k + 1 := (if_neg h0).trans (if_pos hd)
      have := H 0 (Or.inr ⟨rfl, f1⟩)
      rw [f2, f3] at this
      exact this
    · refine br_f (nI_ne0 (by omega) (by omega)) (nm_r (nI_1 _) ?_)
      have hd1 : ¬ rO (tp tk i) k = 1 := by omega
      have f1 : rO (tp tk i) (k + 1) = rO (tp tk i) k - 1 := (if_neg h0).trans (if_neg hd1)
      have f2 : rF (tp tk i) (k + 1) = rF (tp tk i) k := (if_neg h0).trans (if_neg hd1)
      have f3 : rE (tp tk i) (k + 1) = rE (tp tk i) k := (if_neg h0).trans (if_neg hd1)
      have := H _ (Or.inl rfl)
      rw [f1, f2, f3, hd] at this
      exact this
theorem x_ff10 {post : SX → Prop} {i : Nat} (hi : i < 4) (ht : ∀ q, tk q ≤ 10) (hs : tc i ≤ 20) (hp : post ((nI c), (nI pt), st, (nI w), (na pc), (na tc), (na tk), (na (un fc i (rF (tp tk i) (tc i)))), (na (un fe i (rE (tp tk i) (tc i)))), (na nt), (na sk), (na sc), (na cc), (na gs), (na stk))) : ∀ m k aw, k + m = tc i → (aw = rO (tp tk i) k ∨ aw = 0 ∧ rO (tp tk i) k = 1) → wX_findFields_10 post (nI i) (nI c) (nI pt) st (nI w) (na pc) (na tc) (na tk) (na fc) (na fe) (na nt) (na sk) (na sc) (na cc) (na gs) (na stk) (m + 1) (nI aw) (nI (rF (tp tk i) k)) (nI (rE (tp tk i) k)) (nI k) := by
  intro m
  induction m with
  | zero =>
    intro k aw hk ha
    have hk : k = tc i := by omega
    subst hk
    refine ⟨pk_in i 4 hi, br_t (by rw [na_i i]; exact nI_le (Nat.le_refl _) (by omega)) ⟨pk_in i 4 hi, nm_r (na_upd i _) ⟨pk_in i 4 hi, nm_r (na_upd i _) hp⟩⟩⟩
  | succ m ih =>
    intro k aw hk ha
    have h3 := rO_le (tp tk i) k
    refine ⟨pk_in i 4 hi, br_f (by rw [na_i i]; exact nI_ge (by omega) (by omega)) (pk_eq aw 0 (fun h0 => ?_) (fun h0 => ?_))⟩
    · have h1 : rO (tp tk i) k = 1 := by
        have := rO_pos (tp tk i) k
        omega
      exact x_ff27 (o := 1) h1.symm hi (by omega) ht (fun aw' ha' => ih (k + 1) aw' (by omega) ha')
    · have h1 : aw = rO (tp tk i) k := ha.resolve_right (fun z => h0 z.1)
      exact x_ff27 h1 hi (by omega) ht (fun aw' ha' => ih (k + 1) aw' (by omega) ha')
theorem x_ff {post : SX → Prop} {i : Nat} (hi : i < 4) (ht : ∀ q, tk q ≤ 10) (hs : tc i ≤ 20) (hp : post ((nI c), (nI pt), st, (nI w), (na pc), (na tc), (na tk), (na (un fc i (rF (tp tk i) (tc i)))), (na (un fe i (rE (tp tk i) (tc i)))), (na nt), (na sk), (na sc), (na cc), (na gs), (na stk))) : wpX_findFields post ((nI c), (nI pt), st, (nI w), (na pc), (na tc), (na tk), (na fc), (na fe), (na nt), (na sk), (na sc), (na cc), (na gs), (na stk)) (nI i) :=
  ⟨tc i + 1, x_ff10 hi ht hs hp (tc i) 0 0 (by omega) (Or.inr ⟨rfl, rfl⟩)⟩
/-! needs -/
theorem x_tn4 {post : Int32 → Prop} {i : Nat} (hi : i < 4) (ht : ∀ q, tk q ≤ 10) (he : fe i ≤ 20) (hp : post (nI (nM (tp tk i) (fe i)))) : ∀ m k, k + m = fe i → wX_typesNamedIn_4 post (nI i) (nI c) (nI pt) st (nI w) (na pc) (na tc) (na tk) (na fc) (na fe) (na nt) (na sk) (na sc) (na cc) (na gs) (na stk) (m + 1) (nI (nM (tp tk i) k)) (nI k) := by
  intro m
  induction m with
  | zero =>
    intro k hk
    have hk : k = fe i := by omega
    subst hk
    exact ⟨pk_in i 4 hi, br_t (by rw [na_i i]; exact nI_le (Nat.le_refl _) (by omega)) hp⟩
  | succ m ih =>
    intro k hk
    have h1 := ht (i * 20 + k)
    obtain ⟨k1, k2, k3, k4, k5⟩ := kj_t7 (tk (i * 20 + k)) (by omega)
    refine ⟨pk_in i 4 hi, br_f (by rw [na_i i]; exact nI_ge (by omega) (by omega)) ⟨pk_in (i * 20 + k) 80 (by omega) (kj_ix20 i k), ?_⟩⟩
    rw [na_at (i * 20 + k) (kj_ix20 i k)]
    have := ih (k + 1) (by omega)
    by_cases h7 : tk (i * 20 + k) < 7
    · refine nm_e (br_t (k2 h7) (nm_r (nI_1 _) ?_))
      rw [show nM (tp tk i) (k + 1) = nM (tp tk i) k from if_pos h7] at this
      exact this
    · refine nm_r (k1 (by omega)).1 (br_f (nI_pos (by omega)) (nm_r ?_ (nm_r (nI_1 _) this)))
      rw [kj_one (by omega), kj_or, show nM (tp tk i) (k + 1) = nM (tp tk i) k ||| 2 ^ (tk (i * 20 + k) - 7) from if_neg h7]
theorem x_tn {post : Int32 → Prop} {i : Nat} (hi : i < 4) (ht : ∀ q, tk q ≤ 10) (he : fe i ≤ 20) (hp : post (nI (nM (tp tk i) (fe i)))) : wpX_typesNamedIn post ((nI c), (nI pt), st, (nI w), (na pc), (na tc), (na tk), (na fc), (na fe), (na nt), (na sk), (na sc), (na cc), (na gs), (na stk)) (nI i) :=
  ⟨fe i + 1, x_tn4 hi ht he hp (fe i) 0 (by omega)⟩
theorem x_ho {post : Int32 → Prop} {m j : Nat} (hm : m < 2 ^ 31) (hj : j < 32) (hy : m.testBit j = true → post 1) (hn : ¬ m.testBit j = true → post 0) : wpX_holds post (nI m) (nI j) := bi_0 hm hj hy hn
theorem x_fn39 {post : SX → Prop} {J : Int32 → (Nat → Int32) → (Nat → Int32) → (Nat → Int32) → (Nat → Int32) → (Nat → Int32) → (Nat → Int32) → (Nat → Int32) → (Nat → Int32) → (Nat → Int32) → (Nat → Int32) → (Nat → Int32) → Prop} {via : Nat} (hc : c ≤ 4) (hv : via < c) (hf : ∀ i, i < c → nt i < 16) (hp : J (nI (via + 1)) (na pc) (na tc) (na tk) (na fc) (na fe) (na (wI via c nt)) (na sk) (na sc) (na cc) (na gs) (na stk)) : ∀ m i, i + m = c → wX_findNeeds_39 post J (nI via) (nI c) (nI pt) st (nI w) (m + 1) (nI i) (na pc) (na tc) (na tk) (na fc) (na fe) (na (wI via i nt)) (na sk) (na sc) (na cc) (na gs) (na stk) := by
  have hw : ∀ i x, x < c → wI via i nt x < 16 := by
    intro i x hx
    rw [wI_sp]
    split
    · exact m_or (hf x hx) (hf via hv)
    · exact hf x hx
  intro m
  induction m with
  | zero =>
    intro i hi
    have hi : i = c := by omega
    subst hi
    exact br_t (nI_le (Nat.le_refl _) (by omega)) (nm_r (nI_1 _) hp)
  | succ m ih =>
    intro i hi
    have := ih (i + 1) (by omega)
    refine br_f (nI_ge (by omega) (by omega)) ⟨pk_in i 4 (by omega), ?_⟩
    rw [na_i i]
    have hb := hw i i (by omega)
    refine x_ho (by omega) (by omega) (fun h => br_f (by decide) ⟨pk_in i 4 (by omega), pk_in via 4 (by omega), pk_in i 4 (by omega), nm_r (na_upd i (wI via i nt i ||| wI via i nt via) rfl ?_) (nm_r (nI_1 _) ?_)⟩) (fun h => br_t rfl (nm_r (nI_1 _) ?_))
    · rw [na_i via, kj_or]
    · rw [show wI via (i + 1) nt = un (wI via i nt) i (wI via i nt i ||| wI via i nt via) from if_pos h] at this
      exact this
    · rw [show wI via (i + 1) nt = wI via i nt from if_neg h] at this
      exact this
theorem x_fn29 {post : SX → Prop} (hc : c ≤ 4) (hf : ∀ i, i < c → nt i < 16) (hp : post ((nI c), (nI pt), st, (nI w), (na pc), (na tc), (na tk), (na fc), (na fe), (na (wO c c nt)), (na sk), (na sc), (na cc), (na gs), (na stk))) : ∀ m v, v + m = c → wX_findNeeds_29 post (nI c) (nI pt) st (nI w) (m + 1) (nI v) (na pc) (na tc) (na tk) (na fc) (na fe) (na (wO c v nt)) (na sk) (na sc) (na cc) (na gs) (na stk) := by
  have hw : ∀ v, v ≤ c → ∀ i, i < c → wO c v nt i < 16 := by
    intro v
    induction v with
    | zero => intro _ i hi; exact hf i hi
    | succ v ih =>
      intro hv i hi
      rw [show wO c (v + 1) nt = wI v c (wO c v nt) from rfl, wI_sp]
      split
      · exact m_or (ih (by omega) i hi) (ih (by omega) v (by omega))
      · exact ih (by omega) i hi
  intro m
  induction m with
  | zero =>
    intro v hv
    have hv : v = c := by omega
    subst hv
    exact br_t (nI_le (Nat.le_refl _) (by omega)) hp
  | succ m ih =>
    intro v hv
    exact br_f (nI_ge (by omega) (by omega)) ⟨c + 1, x_fn39 (nt := wO c v nt) hc (by omega) (hw v (by omega)) (ih (v + 1) (by omega)) c 0 (by omega)⟩
theorem wO_cg {c : Nat} {f g : Nat → Nat} (h : ∀ i, i < c → f i = g i) (v : Nat) (hv : v ≤ c) : ∀ i, i < c → wO c v f i = wO c v g i := by
  induction v with
  | zero => exact h
  | succ v ih =>
    intro i hi
    rw [show wO c (v + 1) f = wI v c (wO c v f) from rfl, show wO c (v + 1) g = wI v c (wO c v g) from rfl, wI_sp, wI_sp, ih (by omega) i hi, ih (by omega) v (by omega)]
theorem x_fn2 {post : SX → Prop} (hc : c ≤ 4) (ht : ∀ q, tk q ≤ 10) (he : ∀ i, i < c → fe i ≤ 20) (hp : ∀ nt', (∀ i, i < c → nt' i = NN c tk fe i) → post ((nI c), (nI pt), st, (nI w), (na pc), (na tc), (na tk), (na fc), (na fe), (na nt'), (na sk), (na sc), (na cc), (na gs), (na stk))) : ∀ m i f, i + m = c → (∀ x, x < i → f x = nM (tp tk x) (fe x)) → wX_findNeeds_2 post (nI c) (nI pt) st (nI w) (m + 1) (nI i) (na pc) (na tc) (na tk) (na fc) (na fe) (na f) (na sk) (na sc) (na cc) (na gs) (na stk) := by
  intro m
  induction m with
  | zero =>
    intro i f hi hf
    have hi : i = c := by omega
    subst hi
    have hz : ∀ x, x < i → f x = N0 i tk fe x := fun x hx => by rw [hf x hx]; unfold N0; rw [if_pos hx]
    refine br_t (nI_le (Nat.le_refl _) (by omega)) ⟨i + 1, x_fn29 (nt := f) hc (fun x hx => ?_) (hp _ (fun x hx => wO_cg hz i (Nat.le_refl _) x hx)) i 0 (by omega)⟩
    rw [hf x hx]
    exact nM_lt _ _ (fun k _ => ht _)
  | succ m ih =>
    intro i f hi hf
    refine br_f (nI_ge (by omega) (by omega)) (x_tn (by omega) ht (he i (by omega)) ⟨pk_in i 4 (by omega), nm_r (na_upd i _) (nm_r (nI_1 _) (ih (i + 1) _ (by omega) ?_))⟩)
    intro x hx
    by_cases hxi : x = i
    · subst hxi; exact un_s
    · rw [un_n hxi]; exact hf x (by omega)
theorem x_fn {post : SX → Prop} (hc : c ≤ 4) (ht : ∀ q, tk q ≤ 10) (he : ∀ i, i < c → fe i ≤ 20) (hp : ∀ nt', (∀ i, i < c → nt' i = NN c tk fe i) → post ((nI c), (nI pt), st, (nI w), (na pc), (na tc), (na tk), (na fc), (na fe), (na nt'), (na sk), (na sc), (na cc), (na gs), (na stk))) : wpX_findNeeds post ((nI c), (nI pt), st, (nI w), (na pc), (na tc), (na tk), (na fc), (na fe), (na nt), (na sk), (na sc), (na cc), (na gs), (na stk)) :=
  ⟨c + 1, x_fn2 hc ht he hp c 0 nt (by omega) (fun x hx => absurd hx (Nat.not_lt_zero _))⟩
/-! groups -/
theorem x_mw6 {post : Int32 → Prop} {N : Nat → Nat} {i : Nat} (hc : c ≤ 4) (hi : i < c) (hN : ∀ i, N i < 16) (hn : ∀ i, i < c → nt i = N i) (hp : post (nI (gM N i c))) : ∀ m j, j + m = c → wX_membersWith_6 post (nI i) (nI c) (nI pt) st (nI w) (na pc) (na tc) (na tk) (na fc) (na fe) (na nt) (na sk) (na sc) (na cc) (na gs) (na stk) (m + 1) (nI (gM N i j)) (nI j) := by
  intro m
  induction m with
  | zero =>
    intro j hj
    have hj : j = c := by omega
    subst hj
    exact br_t (nI_le (Nat.le_refl _) (by omega)) hp
  | succ m ih =>
    intro j hj
    have := ih (j + 1) (by omega)
    have b1 := hN i
    have b2 := hN j
    refine br_f (nI_ge (by omega) (by omega)) ⟨pk_in i 4 (by omega), ?_⟩
    rw [na_i i, hn i hi]
    refine x_ho (by omega) (by omega) (fun h1 => br_f (by decide) ⟨pk_in j 4 (by omega), ?_⟩) (fun h1 => br_t rfl (nm_r (nI_1 _) ?_))
    · rw [na_i j, hn j (by omega)]
      refine x_ho (by omega) (by omega) (fun h2 => br_f (by decide) (nm_r ?_ (nm_r (nI_1 _) this))) (fun h2 => br_t rfl (nm_r (nI_1 _) ?_))
      · rw [kj_one (by omega), kj_or, show gM N i (j + 1) = gM N i j ||| 2 ^ j from if_pos ⟨h1, h2⟩]
      · rw [show gM N i (j + 1) = gM N i j from if_neg (fun z => h2 z.2)] at this
        exact this
    · rw [show gM N i (j + 1) = gM N i j from if_neg (fun z => h1 z.1)] at this
      exact this
theorem x_mw {post : Int32 → Prop} {tk en N : Nat → Nat} {i : Nat} (hc : c ≤ 4) (hi : i < c) (q : NQ c tk en N) (hn : ∀ i, i < c → nt i = N i) (hp : post (nI (gS N i))) : wpX_membersWith post ((nI c), (nI pt), st, (nI w), (na pc), (na tc), (na tk), (na fc), (na fe), (na nt), (na sk), (na sc), (na cc), (na gs), (na stk)) (nI i) := by
  have e : gM N i c = gS N i := by
    have := gM_c N i c (fun j hj => (q.2.1 i j hj).2) (4 - c)
    rw [show c + (4 - c) = 4 by omega] at this
    exact this.symm
  refine nm_r (kj_one (by omega)) ⟨c + 1, x_mw6 hc hi q.1 hn ?_ c 0 (by omega)⟩
  rw [e]
  exact hp
end
