section
variable {c : Nat} {pc tc tk yn dn gd nb ys : Nat → Nat}
/-! codes -/
def cI (k : Int32) : Int32 := if k = 2 then 5 else if k = 3 then 2 else k
theorem cI_ok : ∀ k, k < 4 → cI (nI k) = cY (nc k) := by decide +kernel
theorem y_co0 {post : Int32 → Prop} {k : Int32} (hp : post (cI k)) : wpY_codeOf post ((nI c), (na pc), (na tc), (na tk), (na yn), (na dn), (na gd), (na nb), (ny ys)) k := by
  unfold cI at hp
  unfold wpY_codeOf
  by_cases h : k = 2
  · rw [if_pos h] at hp; exact br_t h hp
  · rw [if_neg h] at hp
    refine br_f h ?_
    by_cases h3 : k = 3
    · rw [if_pos h3] at hp; exact br_t h3 hp
    · rw [if_neg h3] at hp; exact br_f h3 hp
theorem y_co {post : Int32 → Prop} {k : Nat} (hk : k < 4) (hp : post (cY (nc k))) : wpY_codeOf post ((nI c), (na pc), (na tc), (na tk), (na yn), (na dn), (na gd), (na nb), (ny ys)) (nI k) := y_co0 (by rw [cI_ok k hk]; exact hp)
theorem kj_cn1 : ∀ g, g < 4 → 1 + nI g = cY (4 + g) := by decide +kernel
theorem kj_cn2 : ∀ g, g < 4 → ∀ h, h < 4 → (5 + 4 * nI g) + nI h = cY (16 + 4 * h + g) := by decide +kernel
theorem y_cn4 {post : Int32 → Prop} {k : Nat} (hk : k < 4) (hp : post (cY (nc k))) : wpY_constructor post ((nI c), (na pc), (na tc), (na tk), (na yn), (na dn), (na gd), (na nb), (ny ys)) (nI k) := by
  unfold wpY_constructor
  exact br_f (nI_ge (b := 4) hk (by omega)) (y_co hk hp)
theorem y_cn {post : Int32 → Prop} {j : Nat} (hj : j < 4) (h2 : ∀ i, pc i ≤ 2) (hn : ∀ q, nb q < 4) (hp : post (cY (co pc nb j))) : wpY_constructor post ((nI c), (na pc), (na tc), (na tk), (na yn), (na dn), (na gd), (na nb), (ny ys)) (nI (4 + j)) := by
  have hpj := h2 j
  have e : nI (4 + j) - 4 = nI j := by
    have := pk_sub (a := 4 + j) (b := 4) (by omega)
    rw [show 4 + j - 4 = j by omega] at this
    exact this
  unfold co at hp
  unfold wpY_constructor
  refine br_t (nI_le (a := 4) (by omega) (by omega)) (nm_r e ⟨pk_in j 4 hj, ?_⟩)
  rw [na_i j]
  refine pk_eq (pc j) 0 (fun h => ?_) (fun h => ⟨pk_in j 4 hj, pk_eq (pc j) 1 (fun h1 => ⟨pk_in (j * 2) 8 (by omega) (kj_d2 j), ?_⟩) (fun h1 => ⟨pk_in (j * 2) 8 (by omega) (kj_d2 j), pk_in (j * 2 + 1) 8 (by omega) (by rw [kj_d2, nI_1]), ?_⟩)⟩)
  · rw [if_pos h] at hp; exact hp
  · rw [if_neg h, if_pos h1] at hp
    rw [na_at (j * 2) (kj_d2 j), kj_cn1 _ (hn _)]
    exact hp
  · rw [if_neg h, if_neg h1] at hp
    rw [na_at (j * 2) (kj_d2 j), na_at (j * 2 + 1) (by rw [kj_d2, nI_1]), kj_cn2 _ (hn _) _ (hn _)]
    exact hp
def apI (f a : Int32) : Int32 := if f ≤ 0 then -1 else if 0 ≤ a then (if a = cI (if 5 ≤ f then (f - 5) / 4 else f - 1) then (if 5 ≤ f then 1 + ((f - 5) - (f - 5) / 4 * 4) else 0) else -1) else -1
theorem apI_ok : ∀ f, f < 32 → (f = 0 ∨ f = 1 ∨ (4 ≤ f ∧ f < 8) ∨ 16 ≤ f) → ∀ a, a < 32 → (a = 0 ∨ a = 1 ∨ (4 ≤ a ∧ a < 8) ∨ 16 ≤ a) → apI (cY f) (cY a) = cY (ap f a) := by decide +kernel
theorem y_ap0 {post : Int32 → Prop} {f a : Int32} (hp : post (apI f a)) : wpY_apply post ((nI c), (na pc), (na tc), (na tk), (na yn), (na dn), (na gd), (na nb), (ny ys)) f a := by
  unfold apI at hp
  unfold wpY_apply
  by_cases h0 : f ≤ 0
  · rw [if_pos h0] at hp; exact br_t h0 hp
  · rw [if_neg h0] at hp
    refine br_f h0 ?_
    by_cases ha : 0 ≤ a
    · rw [if_pos ha] at hp
      refine br_t ha ?_
      by_cases h5 : 5 ≤ f
      · rw [if_pos h5, if_pos h5] at hp
        refine br_t h5 ⟨by decide, y_co0 ?_⟩
        by_cases hc : a = cI ((f - 5) / 4)
        · rw [if_pos hc] at hp; exact br_t hc (br_t h5 ⟨by decide, hp⟩)
        · rw [if_neg hc] at hp; exact br_f hc hp
      · rw [if_neg h5, if_neg h5] at hp
        refine br_f h5 (y_co0 ?_)
        by_cases hc : a = cI (f - 1)
        · rw [if_pos hc] at hp; exact br_t hc (br_f h5 hp)
        · rw [if_neg hc] at hp; exact br_f hc hp
    · rw [if_neg ha] at hp; exact br_f ha hp
theorem y_ap {post : Int32 → Prop} {f a : Nat} (hf : VC f) (ha : VC a) (hp : post (cY (ap f a))) : wpY_apply post ((nI c), (na pc), (na tc), (na tk), (na yn), (na dn), (na gd), (na nb), (ny ys)) (cY f) (cY a) := y_ap0 (by rw [apI_ok f hf.1 hf.2 a ha.1 ha.2]; exact hp)
theorem cY_0 : ∀ v, v < 32 → (v = 0 ∨ v = 1 ∨ (4 ≤ v ∧ v < 8) ∨ 16 ≤ v) → (cY v = 0 ↔ v = 1) := by decide +kernel
/-! fieldsFit -/
theorem y_ff0 {post : Int32 → SY → Prop} {H : Nat} (hH : H ≤ 20) (hp : post 0 ((nI c), (na pc), (na tc), (na tk), (na yn), (na dn), (na gd), (na nb), (ny ys))) : ∀ m k, k + m = H → wY_fieldsFit_148 post (nI H) (nI c) (na pc) (na tc) (na tk) (na yn) (na dn) (na gd) (na nb) (ny ys) (m + 1) 0 (nI k) := by
  intro m
  induction m with
  | zero => intro k hk; exact br_t (nI_le (by omega) (by omega)) ⟨nb_0, hp⟩
  | succ m ih => intro k hk; exact br_f (nI_ge (by omega) (by omega)) (br_t rfl (nm_r (nI_1 _) (ih (k + 1) (by omega))))
theorem y_ff1 {post : Int32 → SY → Prop} {H : Nat} (hH : H ≤ 20) (hv : ∀ q, q < H → VC (ys q)) (hy : (∀ q, q < H → ys q = 1) → post 1 ((nI c), (na pc), (na tc), (na tk), (na yn), (na dn), (na gd), (na nb), (ny ys))) (hn : ¬ (∀ q, q < H → ys q = 1) → post 0 ((nI c), (na pc), (na tc), (na tk), (na yn), (na dn), (na gd), (na nb), (ny ys))) : ∀ m k, k + m = H → (∀ q, q < k → ys q = 1) → wY_fieldsFit_148 post (nI H) (nI c) (na pc) (na tc) (na tk) (na yn) (na dn) (na gd) (na nb) (ny ys) (m + 1) 1 (nI k) := by
  intro m
  induction m with
  | zero =>
    intro k hk h
    have hk : k = H := by omega
    subst hk
    exact br_t (nI_le (Nat.le_refl _) (by omega)) ⟨nb_1, hy h⟩
  | succ m ih =>
    intro k hk h
    have hvk := hv k (by omega)
    have hc := cY_0 _ hvk.1 hvk.2
    refine br_f (nI_ge (by omega) (by omega)) (br_f (by decide) ⟨pk_in k 24 (by omega), ?_⟩)
    rw [ny_i k]
    by_cases h1 : ys k = 1
    · refine br_t (hc.mpr h1) (nm_r (nI_1 _) (ih (k + 1) (by omega) (fun q hq => ?_)))
      by_cases e : q = k
      · rw [e]; exact h1
      · exact h q (by omega)
    · exact br_f (fun z => h1 (hc.mp z)) (nm_r (nI_1 _) (y_ff0 hH (hn (fun z => h1 (z k (by omega)))) m (k + 1) (by omega)))
theorem y_ff77 {post : Int32 → SY → Prop} {J : Int32 → Int32 → (Nat → Int32) → (Nat → Int32) → (Nat → Int32) → (Nat → Int32) → (Nat → Int32) → (Nat → Int32) → (Nat → Int32) → (Nat → Int32) → Prop} {i h tok d : Nat} (hi : i < 4) (hh : h < 20) (h1 : 1 ≤ tok) (h10 : tok ≤ 10) (h2 : ∀ i, pc i ≤ 2) (hn : ∀ q, nb q < 4) (HJ : J (nI (h + 1)) (nI d + (-1)) (na pc) (na tc) (na tk) (na yn) (na dn) (na gd) (na nb) (ny (un ys h (lf pc nb i tok)))) : wY_fieldsFit_77 post J (nI i) (nI h) (nI d) (nI tok) (nI c) (na pc) (na tc) (na tk) (na yn) (na dn) (na gd) (na nb) (ny ys) := by
  obtain ⟨k1, k2, k3, k4, k5⟩ := kj_t7 tok (by omega)
  refine br_f (nI_ge (b := 24) (by omega) (by omega)) (pk_lt tok 3 (fun h3 => br_f (nI_nlt (b := 1) h1 (by omega)) ?_) (fun h3 => ?_))
  · have e : 2 * nI i + nI tok - 1 = nI (i * 2 + tok - 1) := by
      rw [kj_ix2', show i * 2 + tok = (i * 2 + tok - 1) + 1 by omega, nI_pred]; rfl
    refine ⟨pk_in (i * 2 + tok - 1) 8 (by omega) e, ?_⟩
    rw [na_at (i * 2 + tok - 1) e]
    refine y_co (hn _) ⟨pk_in h 24 (by omega), nm_r (ny_upd h (lf pc nb i tok) rfl ?_) (nm_r (nI_1 _) (nm_e HJ))⟩
    rw [show lf pc nb i tok = nc (nb (i * 2 + tok - 1)) from if_pos h3]
  · rw [k4 h3]
    by_cases h7 : tok < 7
    · refine y_cn4 (by omega) ⟨pk_in h 24 (by omega), nm_r (ny_upd h (lf pc nb i tok) rfl ?_) (nm_r (nI_1 _) (nm_e HJ))⟩
      rw [show lf pc nb i tok = nc (tok - 3) from (if_neg (by omega)).trans (if_pos h7)]
    · rw [show tok - 3 = 4 + (tok - 7) by omega]
      refine y_cn (by omega) h2 hn ⟨pk_in h 24 (by omega), nm_r (ny_upd h (lf pc nb i tok) rfl ?_) (nm_r (nI_1 _) (nm_e HJ))⟩
      rw [show lf pc nb i tok = co pc nb (tok - 7) from (if_neg (by omega)).trans (if_neg h7)]
theorem y_ff14 {post : Int32 → SY → Prop} {i n e : Nat} (hi : i < 4) (he : e = rE (tp tk i) n) (he2 : e ≤ 20) (ht : ∀ q, tk q ≤ 10) (h2 : ∀ i, pc i ≤ 2) (hk : ∀ q, nb q < 4) (hp : ∀ s, (FI (tp tk i) (fun k => lf pc nb i (tp tk i k)) e → post 1 ((nI c), (na pc), (na tc), (na tk), (na yn), (na dn), (na gd), (na nb), (ny s))) ∧ (¬ FI (tp tk i) (fun k => lf pc nb i (tp tk i k)) e → post 0 ((nI c), (na pc), (na tc), (na tk), (na yn), (na dn), (na gd), (na nb), (ny s)))) : ∀ d m s, m + d = e → (∀ q, q < eH (tp tk i) e m → s q = eS (tp tk i) (fun k => lf pc nb i (tp tk i k)) e m q) → wY_fieldsFit_14 post (nI i) (nI c) (d + 1) (nI (eH (tp tk i) e m)) (nI d + (-1)) (na pc) (na tc) (na tk) (na yn) (na dn) (na gd) (na nb) (ny s) := by
  have hV : ∀ k, VC ((fun k => lf pc nb i (tp tk i k)) k) := fun k => lf_vc hk _ _
  generalize hL : (fun k => lf pc nb i (tp tk i k)) = L at *
  intro d
  induction d with
  | zero =>
    intro m s hm hs
    have hm : m = e := by omega
    have hl := eH_le (tp tk i) e m
    refine br_t kj_m1 ⟨eH (tp tk i) e m + 1, y_ff1 (ys := s) (by omega) (fun q hq => ?_) (fun h => (hp s).1 ?_) (fun h => (hp s).2 ?_) (eH (tp tk i) e m) 0 (by omega) (fun q hq => absurd hq (Nat.not_lt_zero _))⟩
    · rw [hs q hq]; exact eS_vc hV m q
    · intro q hq
      have hq' : q < eH (tp tk i) e m := by rw [hm]; exact hq
      have h1 := h q hq'
      rw [hs q hq', hm] at h1
      exact h1
    · intro z
      apply h
      intro q hq
      rw [hs q hq]
      rw [hm] at hq ⊢
      exact z q hq
  | succ d ih =>
    intro m s hm hs
    have hl := eH_le (tp tk i) e m
    have h10 := ht (i * 20 + d)
    have ed : e - 1 - m = d := by omega
    have et : tp tk i d = tk (i * 20 + d) := rfl
    have ex := kj_ix20' i d
    rw [pk_m1]
    refine br_f (nI_pos (by omega)) ⟨pk_in (i * 20 + d) 80 (by omega) ex, nm_r (na_at _ ex) (pk_eq (tk (i * 20 + d)) 0 (fun h0 => ?_) (fun h0 => ?_))⟩
    · have h2 := eH_2 (tp tk i) n e m he (by omega) (by rw [ed]; exact h0)
      obtain ⟨h, hh⟩ : ∃ h, eH (tp tk i) e m = h + 2 := ⟨eH (tp tk i) e m - 2, by omega⟩
      have f1 := eH_0 (t := tp tk i) (e := e) (m := m) (by rw [ed]; exact h0)
      have f2 := eS_0 (t := tp tk i) (L := L) (e := e) (m := m) (by rw [ed]; exact h0)
      have s1 := hs (h + 1) (by omega)
      have s0 := hs h (by omega)
      have v1 := eS_vc (t := tp tk i) (e := e) hV m (h + 1)
      have v0 := eS_vc (t := tp tk i) (e := e) hV m h
      rw [hh]
      have e2 : nI (h + 2) - 2 = nI h := pk_sub (a := h + 2) (b := 2) (by omega)
      refine br_f (nI_nlt (b := 2) (by omega) (by omega)) ⟨pk_in (h + 1) 24 (by omega) (nI_pred (h + 1)), pk_in h 24 (by omega) e2, ?_⟩
      rw [nI_pred (h + 1), e2, ny_i (h + 1), ny_i h]
      refine y_ap (by rw [s1]; exact v1) (by rw [s0]; exact v0) ⟨pk_in h 24 (by omega), nm_r (ny_upd h _) (nm_r (pk_m1 (h + 1)) (nm_e ?_))⟩
      have := ih (m + 1) (un s h (ap (s (h + 1)) (s h))) (by omega) (fun q hq => ?_)
      · rw [f1, hh] at this; exact this
      · rw [f2, hh, show h + 2 - 2 = h by omega, show h + 2 - 1 = h + 1 by omega, s1, s0]
        rw [f1, hh] at hq
        unfold un
        by_cases e : q = h
        · rw [if_pos e, if_pos e]
        · rw [if_neg e, if_neg e]; exact hs q (by omega)
    · have f1 := eH_1 (t := tp tk i) (e := e) (m := m) (by rw [ed]; exact h0)
      have f2 := eS_1 (t := tp tk i) (L := L) (e := e) (m := m) (by rw [ed]; exact h0)
      refine y_ff77 hi (by omega) (by omega) h10 h2 hk ?_
      have := ih (m + 1) (un s (eH (tp tk i) e m) (lf pc nb i (tk (i * 20 + d)))) (by omega) (fun q hq => ?_)
      · rw [f1] at this; exact this
      · rw [f2, ed, ← hL]
        rw [f1] at hq
        unfold un
        by_cases e : q = eH (tp tk i) e m
        · rw [if_pos e, if_pos e]; rfl
        · rw [if_neg e, if_neg e, hL]; exact hs q (by omega)
theorem y_ff {post : Int32 → SY → Prop} {i : Nat} (hi : i < 4) (ht : ∀ q, tk q ≤ 10) (hs : tc i ≤ 20) (h2 : ∀ i, pc i ≤ 2) (hk : ∀ q, nb q < 4) (hp : ∀ s, (FI (tp tk i) (fun k => lf pc nb i (tp tk i k)) (rE (tp tk i) (tc i)) → post 1 ((nI c), (na pc), (na tc), (na tk), (na yn), (na dn), (na gd), (na nb), (ny s))) ∧ (¬ FI (tp tk i) (fun k => lf pc nb i (tp tk i k)) (rE (tp tk i) (tc i)) → post 0 ((nI c), (na pc), (na tc), (na tk), (na yn), (na dn), (na gd), (na nb), (ny s)))) : wpY_fieldsFit post ((nI c), (na pc), (na tc), (na tk), (na yn), (na dn), (na gd), (na nb), (ny ys)) (nI i) := by
  have := rE_le (tp tk i) (tc i)
  unfold wpY_fieldsFit
  exact y_rd1 hi ht hs (nm_r (kj_mm _) ⟨rE (tp tk i) (tc i) + 1, y_ff14 hi rfl (by omega) ht h2 hk hp (rE (tp tk i) (tc i)) 0 ys (by omega) (fun q hq => absurd hq (Nat.not_lt_zero _))⟩)
/-! fits -/
theorem y_ft0 {post : Int32 → SY → Prop} {x1 : Int32} (hp : post 0 ((nI c), (na pc), (na tc), (na tk), (na yn), (na dn), (na gd), (na nb), (ny ys))) : ∀ m i, i + m = 4 → wY_fits_4 post x1 (m + 1) 0 (nI i) (nI c) (na pc) (na tc) (na tk) (na yn) (na dn) (na gd) (na nb) (ny ys) := by
  intro m
  induction m with
  | zero => intro k hk; exact br_t (nI_le (a := 4) (by omega) (by omega)) ⟨nb_0, hp⟩
  | succ m ih => intro k hk; exact br_f (nI_ge (b := 4) (by omega) (by omega)) (br_t rfl (nm_r (nI_1 _) (ih (k + 1) (by omega))))
theorem y_ft1 {post : Int32 → SY → Prop} {S : Nat} {fe : Nat → Nat} (D : DQ c pc tc tk fe) (hS : S < 16) (hSc : ∀ j, S.testBit j = true → j < c) (hk : ∀ q, nb q < 4) (hp : ∀ s, (Ft pc tk fe S nb → post 1 ((nI c), (na pc), (na tc), (na tk), (na yn), (na dn), (na gd), (na nb), (ny s))) ∧ (¬ Ft pc tk fe S nb → post 0 ((nI c), (na pc), (na tc), (na tk), (na yn), (na dn), (na gd), (na nb), (ny s)))) : ∀ m i s, i + m = 4 → (∀ x, x < i → S.testBit x = true → FI (tp tk x) (fun k => lf pc nb x (tp tk x k)) (fe x)) → wY_fits_4 post (nI S) (m + 1) 1 (nI i) (nI c) (na pc) (na tc) (na tk) (na yn) (na dn) (na gd) (na nb) (ny s) := by
  intro m
  induction m with
  | zero =>
    intro i s hi h
    have hi : i = 4 := by omega
    subst hi
    exact br_t (nI_le (Nat.le_refl _) (by omega)) ⟨nb_1, (hp s).1 (fun x hx hb => h x hx hb)⟩
  | succ m ih =>
    intro i s hi h
    refine br_f (nI_ge (b := 4) (by omega) (by omega)) (br_f (by decide) (bj_0 (by omega) (by omega) (fun hb => ?_) (fun hb => nm_r (nI_1 _) (ih (i + 1) s (by omega) (fun x hx hxb => ?_)))))
    · have e := D.2.2.2.2.2.1 i (hSc i hb)
      refine y_ff (by omega) D.2.2.1 (D.2.2.2.2.1 i) D.2.1 hk (fun s' => ⟨fun hf => ?_, fun hf => ?_⟩)
      · refine br_f (by decide) (nm_r (nI_1 _) (ih (i + 1) s' (by omega) (fun x hx hxb => ?_)))
        by_cases e' : x = i
        · rw [e', e]; exact hf
        · exact h x (by omega) hxb
      · refine br_t rfl (nm_r (nI_1 _) (y_ft0 ((hp s').2 (fun z => hf ?_)) m (i + 1) (by omega)))
        have := z i (by omega) hb
        rw [e] at this
        exact this
    · by_cases e : x = i
      · rw [e] at hxb; exact absurd hxb hb
      · exact h x (by omega) hxb
theorem y_ft {post : Int32 → SY → Prop} {S : Nat} {fe : Nat → Nat} (D : DQ c pc tc tk fe) (hS : S < 16) (hSc : ∀ j, S.testBit j = true → j < c) (hk : ∀ q, nb q < 4) (hp : ∀ s, (Ft pc tk fe S nb → post 1 ((nI c), (na pc), (na tc), (na tk), (na yn), (na dn), (na gd), (na nb), (ny s))) ∧ (¬ Ft pc tk fe S nb → post 0 ((nI c), (na pc), (na tc), (na tk), (na yn), (na dn), (na gd), (na nb), (ny s)))) : wpY_fits post ((nI c), (na pc), (na tc), (na tk), (na yn), (na dn), (na gd), (na nb), (ny ys)) (nI S) :=
  ⟨5, y_ft1 D hS hSc hk hp 4 0 ys (by omega) (fun x hx => absurd hx (Nat.not_lt_zero _))⟩
/-! choose -/
theorem y_ch6 {post : Int32 → SY → Prop} {S ch : Nat} (hS : S < 16) (h2 : ∀ i, pc i ≤ 2) (hch : ch < 2 ^ 31) (hy : ch < 4 ^ cb S pc 8 → post 1 ((nI c), (na pc), (na tc), (na tk), (na yn), (na dn), (na gd), (na (tG S pc ch nb)), (ny ys))) (hn : ¬ ch < 4 ^ cb S pc 8 → post 0 ((nI c), (na pc), (na tc), (na tk), (na yn), (na dn), (na gd), (na (tG S pc ch nb)), (ny ys))) : ∀ m, m ≤ 8 → wY_choose_6 post (nI S) (nI c) (m + 1) (nI (ch / 4 ^ (cb S pc 8 - cb S pc m))) (nI m + (-1)) (na pc) (na tc) (na tk) (na yn) (na dn) (na gd) (na (tm S pc ch nb m)) (ny ys) := by
  intro m
  induction m with
  | zero =>
    intro _
    rw [tm_0]
    have hd := Nat.div_eq_zero_iff (a := ch) (b := 4 ^ (cb S pc 8 - cb S pc 0))
    have hpos : 0 < 4 ^ cb S pc 8 := Nat.pow_pos (by omega)
    rw [show cb S pc 8 - cb S pc 0 = cb S pc 8 from rfl] at hd ⊢
    have hb : ch / 4 ^ cb S pc 8 < 2 ^ 31 := Nat.lt_of_le_of_lt (Nat.div_le_self _ _) hch
    exact br_t kj_m1 (pk_eq (ch / 4 ^ cb S pc 8) 0 (fun h => hy ((hd.mp h).resolve_left (by omega))) (fun h => hn (fun z => h (hd.mpr (Or.inr z)))))
  | succ m ih =>
    intro hm
    have ih := ih (by omega)
    have e1 : nI m / 2 = nI (m / 2) := pk_div (a := m) (d := 2) (by omega) (by omega) (by omega)
    have e2 : nI m - nI m / 2 * 2 = nI (m % 2) := pk_rem (a := m) (d := 2) (by omega) (by omega) (by omega)
    have hr : ch / 4 ^ (cb S pc 8 - cb S pc (m + 1)) < 2 ^ 31 := Nat.lt_of_le_of_lt (Nat.div_le_self _ _) hch
    have hp := h2 (m / 2)
    rw [pk_m1]
    refine br_f (nI_pos (by omega)) ⟨by decide, ?_⟩
    rw [e2, e1]
    refine bj_1 (by omega) (by omega) (fun hb => ⟨by decide, by decide, pk_in (m / 2) 4 (by omega), ?_⟩) (fun hb => nm_e ?_)
    · rw [na_i (m / 2)]
      refine pk_le (pc (m / 2)) (m % 2) (fun h => nm_e ?_) (fun h => ⟨pk_in m 8 (by omega), nm_r (na_upd m _ rfl (kj_a3 hr).1) (nm_r (kj_a3 hr).2 (nm_e ?_))⟩)
      · have hin : ¬ iG S pc m = true := fun z => by have := ((iG_iff _ _ _).mp z).2; omega
        rw [cb_n hin, tm_n hin]
        exact ih
      · have hin : iG S pc m = true := (iG_iff _ _ _).mpr ⟨hb, h⟩
        rw [tm_y (by omega) hin, rs_y ch (by omega) hin]
        exact ih
    · have hin : ¬ iG S pc m = true := fun z => hb ((iG_iff _ _ _).mp z).1
      rw [cb_n hin, tm_n hin]
      exact ih
theorem y_ch {post : Int32 → SY → Prop} {S ch : Nat} (hS : S < 16) (h2 : ∀ i, pc i ≤ 2) (hch : ch < 2 ^ 31) (hy : ch < 4 ^ cb S pc 8 → post 1 ((nI c), (na pc), (na tc), (na tk), (na yn), (na dn), (na gd), (na (tG S pc ch nb)), (ny ys))) (hn : ¬ ch < 4 ^ cb S pc 8 → post 0 ((nI c), (na pc), (na tc), (na tk), (na yn), (na dn), (na gd), (na (tG S pc ch nb)), (ny ys))) : wpY_choose post ((nI c), (na pc), (na tc), (na tk), (na yn), (na dn), (na gd), (na nb), (ny ys)) (nI S) (nI ch) := by
  have := y_ch6 hS h2 hch hy hn 8 (by omega)
  rw [tm_8, Nat.sub_self, Nat.pow_zero, Nat.div_one, show nI 8 + (-1) = 7 from pk_m1 7] at this
  exact ⟨9, this⟩
/-! others -/
theorem y_ot0 {post : Int32 → Prop} {x1 x2 : Int32} (hp : post 0) : ∀ m i, i + m = 4 → wY_others_5 post x1 x2 (nI c) (na pc) (na tc) (na tk) (na yn) (na dn) (na gd) (na nb) (ny ys) (m + 1) 0 (nI i) := by
  intro m
  induction m with
  | zero => intro k hk; exact br_t (nI_le (a := 4) (by omega) (by omega)) ⟨nb_0, hp⟩
  | succ m ih => intro k hk; exact br_f (nI_ge (b := 4) (by omega) (by omega)) (br_t rfl (nm_r (nI_1 _) (ih (k + 1) (by omega))))
theorem y_ot1 {post : Int32 → Prop} {M : Nat} {x2 : Int32} {B : Nat → Nat} (hM : M < 16) (hx : x2 = 0 ∧ B = dn ∨ x2 = 1 ∧ B = gd) (hB : ∀ j, j < 4 → B j = 0 ∨ B j = 1) (hy : (∀ j, j < 4 → M.testBit j = true → B j = 1) → post 1) (hn : ¬ (∀ j, j < 4 → M.testBit j = true → B j = 1) → post 0) : ∀ m i, i + m = 4 → (∀ j, j < i → M.testBit j = true → B j = 1) → wY_others_5 post (nI M) x2 (nI c) (na pc) (na tc) (na tk) (na yn) (na dn) (na gd) (na nb) (ny ys) (m + 1) 1 (nI i) := by
  intro m
  induction m with
  | zero =>
    intro i hi h
    have hi : i = 4 := by omega
    subst hi
    exact br_t (nI_le (Nat.le_refl _) (by omega)) ⟨nb_1, hy h⟩
  | succ m ih =>
    intro i hi h
    have hb1 := hB i (by omega)
    have go : B i = 1 → ∀ j, j < i + 1 → M.testBit j = true → B j = 1 := by
      intro z j hj hjb
      by_cases e : j = i
      · rw [e]; exact z
      · exact h j (by omega) hjb
    refine br_f (nI_ge (b := 4) (by omega) (by omega)) (br_f (by decide) (bj_0 (by omega) (by omega) (fun hb => ?_) (fun hb => nm_r (nI_1 _) (ih (i + 1) (by omega) (fun x hx hxb => ?_)))))
    · rcases hx with ⟨rfl, rfl⟩ | ⟨rfl, rfl⟩
      · refine br_t rfl ⟨pk_in i 4 (by omega), ?_⟩
        rw [na_i i]
        exact pk_eq (B i) 0 (fun z => nm_r (nI_1 _) (y_ot0 (hn (fun y => by have := y i (by omega) hb; omega)) m (i + 1) (by omega))) (fun z => nm_r (nI_1 _) (ih (i + 1) (by omega) (go (by omega))))
      · refine br_f (by decide) ⟨pk_in i 4 (by omega), ?_⟩
        rw [na_i i]
        exact pk_eq (B i) 0 (fun z => nm_r (nI_1 _) (y_ot0 (hn (fun y => by have := y i (by omega) hb; omega)) m (i + 1) (by omega))) (fun z => nm_r (nI_1 _) (ih (i + 1) (by omega) (go (by omega))))
    · by_cases e : x = i
      · rw [e] at hxb; exact absurd hxb hb
      · exact h x (by omega) hxb
theorem y_ot {post : Int32 → Prop} {M : Nat} {x2 : Int32} {B : Nat → Nat} (hM : M < 16) (hx : x2 = 0 ∧ B = dn ∨ x2 = 1 ∧ B = gd) (hB : ∀ j, j < 4 → B j = 0 ∨ B j = 1) (hy : (∀ j, j < 4 → M.testBit j = true → B j = 1) → post 1) (hn : ¬ (∀ j, j < 4 → M.testBit j = true → B j = 1) → post 0) : wpY_others post ((nI c), (na pc), (na tc), (na tk), (na yn), (na dn), (na gd), (na nb), (ny ys)) (nI M) x2 :=
  ⟨5, y_ot1 hM hx hB hy hn 4 0 (by omega) (fun x hx => absurd hx (Nat.not_lt_zero _))⟩
end
