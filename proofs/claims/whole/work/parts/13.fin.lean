section
variable {k c w : Nat} {st : Int32} {pc tc tk fc fe nt sk sc cc gs stk yn dn gd nb ys : Nat → Nat}
/-! needs, group -/
def gl (S : Nat) : Nat → Nat → Nat
  | 0, j => j
  | d + 1, j => if S.testBit j = true then j else gl S d (j + 1)
theorem x_gs {post : Int32 → SX → Prop} {S i pt : Nat} (hS : S < 16) (hi : i < 4) : ∀ d j, j + d = i → post (nI (gl S d j)) ((nI c), (nI pt), st, (nI w), (na pc), (na tc), (na tk), (na fc), (na fe), (na nt), (na sk), (na sc), (na cc), (na gs), (na stk)) → wX_group_22 post (nI i) (nI S) (nI c) (nI pt) st (nI w) (na pc) (na tc) (na tk) (na fc) (na fe) (na nt) (na sk) (na sc) (na cc) (na gs) (na stk) (d + 1) (nI j) := by
  intro d
  induction d with
  | zero =>
    intro j hj hp
    have hj : j = i := by omega
    subst hj
    exact br_t (nI_le (Nat.le_refl _) (by omega)) hp
  | succ d ih =>
    intro j hj hp
    refine br_f (nI_ge (by omega) (by omega)) (x_ho (by omega) (by omega) (fun h => br_f (by decide) ?_) (fun h => br_t rfl (nm_r (nI_1 _) (ih (j + 1) (by omega) ?_))))
    · rw [show gl S (d + 1) j = j from if_pos h] at hp; exact hp
    · rw [show gl S (d + 1) j = gl S d (j + 1) from if_neg h] at hp; exact hp
theorem y_gs {post : Int32 → SY → Prop} {S i : Nat} (hS : S < 16) (hi : i < 4) (hb : S.testBit i = true) : ∀ d j, j + d = i → post (nI (gl S d j)) ((nI c), (na pc), (na tc), (na tk), (na yn), (na dn), (na gd), (na nb), (ny ys)) → wY_group_22 post (nI S) (nI c) (na pc) (na tc) (na tk) (na yn) (na dn) (na gd) (na nb) (ny ys) (d + 1) (nI j) := by
  intro d
  induction d with
  | zero =>
    intro j hj hp
    have hj : j = i := by omega
    subst hj
    exact br_f (nI_ge (b := 4) (by omega) (by omega)) (br_t (kj_bit1 (by omega) (by omega) hb) hp)
  | succ d ih =>
    intro j hj hp
    refine br_f (nI_ge (b := 4) (by omega) (by omega)) (bj_1 (by omega) (by omega) (fun h => ?_) (fun h => nm_r (nI_1 _) (ih (j + 1) (by omega) ?_)))
    · rw [show gl S (d + 1) j = j from if_pos h] at hp; exact hp
    · rw [show gl S (d + 1) j = gl S d (j + 1) from if_neg h] at hp; exact hp
/-! well -/
theorem y_wu {post : Int32 → SY → Prop} {v1 : Int32} (D : DQ c pc tc tk fe) (hk : ∀ q, nb q < 4) (h : v1 < 0 ∨ nI c ≤ v1) (hp : ∀ yn' dn' gd' nb' ys', (∀ q, nb' q < 4) → post 0 ((nI c), (na pc), (na tc), (na tk), (na yn'), (na dn'), (na gd'), (na nb'), (ny ys'))) : wpY_well post ((nI c), (na pc), (na tc), (na tk), (na yn), (na dn), (na gd), (na nb), (ny ys)) v1 := by
  unfold wpY_well
  exact y_sa D hk (fun yn' dn' gd' nb' ys' _ hY => y_dn h (br_t rfl (hp yn' dn' gd' nb' ys' hY.2.2.1)))
theorem y_w {post : Int32 → SY → Prop} {i : Nat} (D : DQ c pc tc tk fe) (hk : ∀ q, nb q < 4) (hi : i < c) (hp : ∀ yn' dn' gd' nb' ys', (∀ i, i < 4 → yn' i = NN c tk fe i) → YI c pc (pR c (NN c tk fe) pc tk fe 4) dn' gd' nb' → ((pR c (NN c tk fe) pc tk fe 4).2.1.testBit i = true → post 1 ((nI c), (na pc), (na tc), (na tk), (na yn'), (na dn'), (na gd'), (na nb'), (ny ys'))) ∧ (¬ (pR c (NN c tk fe) pc tk fe 4).2.1.testBit i = true → post 0 ((nI c), (na pc), (na tc), (na tk), (na yn'), (na dn'), (na gd'), (na nb'), (ny ys')))) : wpY_well post ((nI c), (na pc), (na tc), (na tk), (na yn), (na dn), (na gd), (na nb), (ny ys)) (nI i) := by
  have hc := D.1
  unfold wpY_well
  refine y_sa D hk (fun yn' dn' gd' nb' ys' hN hY => y_dy hc hi (br_f (by decide) ⟨pk_in i 4 (by omega), ?_⟩))
  have hg := hY.2.1 i (by omega)
  rw [na_i i]
  obtain ⟨a, b⟩ := hp yn' dn' gd' nb' ys' hN hY
  by_cases z : (pR c (NN c tk fe) pc tk fe 4).2.1.testBit i = true
  · rw [if_pos z] at hg
    exact pk_eq (gd' i) 0 (fun y => by omega) (fun _ => a z) rfl rfl (by omega) (by omega)
  · rw [if_neg z] at hg
    exact pk_eq (gd' i) 0 (fun _ => b z) (fun y => by omega) rfl rfl (by omega) (by omega)
/-! could -/
theorem y_cd46 {post : Int32 → SY → Prop} {S i a kk : Nat} (D : DQ c pc tc tk fe) (hS : S < 16) (hSc : ∀ j, S.testBit j = true → j < c) (hk : ∀ q, nb q < 4) (hi : i < 4) (ha : a < 2) (hkk : kk < 4)
    (hy : ∀ nb' s, (∀ q, nb' q < 4) → Cd pc tk fe S nb (i * 2 + a) kk → post 1 ((nI c), (na pc), (na tc), (na tk), (na yn), (na dn), (na gd), (na nb'), (ny s)))
    (hn : ∀ nb' s, (∀ q, nb' q < 4) → ¬ Cd pc tk fe S nb (i * 2 + a) kk → post 0 ((nI c), (na pc), (na tc), (na tk), (na yn), (na dn), (na gd), (na nb'), (ny s))) :
    ∀ d m nb' s, m + d = 4096 → (∀ q, (q < 8 ∧ iG S pc q = true) ∨ nb' q = nb q) → (∀ q, nb' q < 4) → (∀ ch, ch < m → ¬ (ch < 4 ^ cb S pc 8 ∧ Ft pc tk fe S (tG S pc ch nb) ∧ tG S pc ch nb (i * 2 + a) = kk)) → wY_could_46 post (nI i) (nI a) (nI kk) (nI S) (d + 1) 0 (nI m) (nI c) (na pc) (na tc) (na tk) (na yn) (na dn) (na gd) (na nb') (ny s) := by
  have h6 := cb_6 D.1 hSc D.2.2.2.1
  have hC6 : 4 ^ cb S pc 8 ≤ 4096 := Nat.pow_le_pow_right (n := 4) (j := 6) (by omega) h6
  intro d
  induction d with
  | zero =>
    intro m nb' s hm i1 i2 hl
    have hm : m = 4096 := by omega
    subst hm
    refine br_t (nI_le (Nat.le_refl _) (by omega)) ⟨nb_0, hn nb' s i2 ?_⟩
    rintro ⟨ch, z⟩
    exact hl ch (by omega) z
  | succ d ih =>
    intro m nb' s hm i1 i2 hl
    have ex := kj_ix2' i a
    have nx : ¬ (m < 4 ^ cb S pc 8 ∧ Ft pc tk fe S (tG S pc m nb) ∧ tG S pc m nb (i * 2 + a) = kk) → ∀ ch, ch < m + 1 → ¬ (ch < 4 ^ cb S pc 8 ∧ Ft pc tk fe S (tG S pc ch nb) ∧ tG S pc ch nb (i * 2 + a) = kk) := by
      intro z j hj
      by_cases e : j = m
      · rw [e]; exact z
      · exact hl j (by omega)
    refine br_f (nI_ge (b := 4096) (by omega) (by omega)) (br_t rfl (y_ch hS D.2.1 (by omega) (fun hC => br_f (by decide) ⟨pk_in (i * 2 + a) 8 (by omega) ex, ?_⟩) (fun hC => br_t rfl (nm_r (nI_1 _) ?_))))
    · rw [tG_tG i1, na_at _ ex]
      have hlt := tG_lt (S := S) (pc := pc) (ch := m) hk (i * 2 + a)
      refine pk_eq (tG S pc m nb (i * 2 + a)) kk (fun he => ?_) (fun he => nm_r (nI_1 _) (ih (m + 1) _ s (by omega) tG_o (tG_lt hk) (nx (fun z => he z.2.2))))
      refine y_ft D hS hSc (tG_lt hk) (fun s' => ⟨fun hf => br_f (by decide) (nm_r (nI_1 _) ?_), fun hf => br_t rfl (nm_r (nI_1 _) (ih (m + 1) _ s' (by omega) tG_o (tG_lt hk) (nx (fun z => hf z.2.1))))⟩)
      have fin := hy (tG S pc m nb) s' (tG_lt hk) ⟨m, hC, hf, he⟩
      obtain ⟨d', hd'⟩ : ∃ d', d + 1 = d' + 1 := ⟨d, rfl⟩
      exact pk_le 4096 (m + 1) (fun _ => ⟨nb_1, fin⟩) (fun _ => br_f (by decide) ⟨nb_1, fin⟩)
    · rw [tG_tG i1]
      exact ih (m + 1) _ s (by omega) tG_o (tG_lt hk) (nx (fun z => hC z.1))
/-! applied -/
def HV (W : Nat) (v : Int32) : Prop := ∃ t, t < 8 ∧ v = nI t ∧ (t < 4 ∨ W.testBit (t - 4) = true)
theorem kj_s4 {t : Nat} (h : 4 ≤ t) : nI t - 4 = nI (t - 4) := pk_sub (a := t) (b := 4) h
theorem x_hk {post : Int32 → Prop} {v : Int32} {pt : Nat} (hw : w < 16) (hy : HV w v → post 1) (hn : ¬ HV w v → post 0) : wpX_hasKind post ((nI c), (nI pt), st, (nI w), (na pc), (na tc), (na tk), (na fc), (na fe), (na nt), (na sk), (na sc), (na cc), (na gs), (na stk)) v := by
  unfold wpX_hasKind
  by_cases h0 : v < 0
  · refine br_t h0 (hn ?_)
    rintro ⟨t, h8, rfl, _⟩
    exact nI_pos (by omega) h0
  · obtain ⟨t, ht, rfl⟩ := nI_of h0
    have inj : HV w (nI t) → t < 8 ∧ (t < 4 ∨ w.testBit (t - 4) = true) := by
      rintro ⟨t', h8, e, h⟩
      rw [nI_eq ht (by omega)] at e
      rw [e]; exact ⟨h8, h⟩
    refine br_f h0 (pk_lt t 8 (fun h8 => pk_lt t 4 (fun h4 => hy ⟨t, h8, rfl, Or.inl h4⟩) (fun h4 => ?_)) (fun h8 => hn (fun z => by have := (inj z).1; omega)))
    rw [kj_s4 h4]
    exact x_ho (by omega) (by omega) (fun hb => br_f (by decide) (hy ⟨t, h8, rfl, Or.inr hb⟩)) (fun hb => br_t rfl (hn (fun z => (inj z).2.elim (fun y => by omega) hb)))
def nuX (v : Nat) : Int32 := if v = 1 then 0 else if v = 4 then 1 else if v = 16 then 2 else if v = 5 then 3 else -1
theorem x_al {post : Int32 → SX → Prop} {v pt : Nat} (hv : v < 32) (hcc : ∀ q, q < 4 → cc q = nc q) (hp : post (nuX v) ((nI c), (nI pt), st, (nI w), (na pc), (na tc), (na tk), (na fc), (na fe), (na nt), (na sk), (na sc), (na cc), (na gs), (na stk))) : ∃ n, wX_applied_42 post (nI v) (nI c) (nI pt) st (nI w) (na pc) (na tc) (na tk) (na fc) (na fe) (na nt) (na sk) (na sc) (na cc) (na gs) (na stk) n 0 := by
  have stp : ∀ x n, x < 4 → (nc x = v → post (nI x) ((nI c), (nI pt), st, (nI w), (na pc), (na tc), (na tk), (na fc), (na fe), (na nt), (na sk), (na sc), (na cc), (na gs), (na stk))) → (nc x ≠ v → wX_applied_42 post (nI v) (nI c) (nI pt) st (nI w) (na pc) (na tc) (na tk) (na fc) (na fe) (na nt) (na sk) (na sc) (na cc) (na gs) (na stk) n (nI (x + 1))) → wX_applied_42 post (nI v) (nI c) (nI pt) st (nI w) (na pc) (na tc) (na tk) (na fc) (na fe) (na nt) (na sk) (na sc) (na cc) (na gs) (na stk) (n + 1) (nI x) := by
    intro x n hx h1 h2
    have := (nc_vc x).1
    refine br_f (nI_ge (b := 4) hx (by omega)) ⟨pk_in x 8 (by omega), ?_⟩
    rw [na_i x, hcc x hx]
    exact pk_eq (nc x) v h1 (fun z => nm_r (nI_1 _) (h2 z))
  unfold nuX at hp
  refine ⟨5, stp 0 4 (by omega) (fun e => ?_) (fun e0 => stp 1 3 (by omega) (fun e => ?_) (fun e1 => stp 2 2 (by omega) (fun e => ?_) (fun e2 => stp 3 1 (by omega) (fun e => ?_) (fun e3 => br_t (nI_le (Nat.le_refl _) (by omega)) ?_))))⟩
  · rw [show nc 0 = 1 from rfl] at e
    rw [if_pos e.symm] at hp; exact hp
  · rw [show nc 0 = 1 from rfl] at e0
    rw [show nc 1 = 4 from rfl] at e
    rw [if_neg (Ne.symm e0), if_pos e.symm] at hp; exact hp
  · rw [show nc 0 = 1 from rfl] at e0
    rw [show nc 1 = 4 from rfl] at e1
    rw [show nc 2 = 16 from rfl] at e
    rw [if_neg (Ne.symm e0), if_neg (Ne.symm e1), if_pos e.symm] at hp; exact hp
  · rw [show nc 0 = 1 from rfl] at e0
    rw [show nc 1 = 4 from rfl] at e1
    rw [show nc 2 = 16 from rfl] at e2
    rw [show nc 3 = 5 from rfl] at e
    rw [if_neg (Ne.symm e0), if_neg (Ne.symm e1), if_neg (Ne.symm e2), if_pos e.symm] at hp; exact hp
  · rw [show nc 0 = 1 from rfl] at e0
    rw [show nc 1 = 4 from rfl] at e1
    rw [show nc 2 = 16 from rfl] at e2
    rw [show nc 3 = 5 from rfl] at e3
    rw [if_neg (Ne.symm e0), if_neg (Ne.symm e1), if_neg (Ne.symm e2), if_neg (Ne.symm e3)] at hp; exact hp
def noI (f : Int32) : Int32 := if f = 5 then 2 else if f = 2 then 3 else if f = 0 then f else if f = 1 then f else -1
theorem noI_ok : ∀ v, v < 32 → (v = 0 ∨ v = 1 ∨ (4 ≤ v ∧ v < 8) ∨ 16 ≤ v) → noI (cY v) = nuX v := by decide +kernel
theorem y_no {post : Int32 → Prop} {f : Int32} (hp : post (noI f)) : wpY_numberOf post ((nI c), (na pc), (na tc), (na tk), (na yn), (na dn), (na gd), (na nb), (ny ys)) f := by
  unfold noI at hp
  unfold wpY_numberOf
  by_cases h5 : f = 5
  · rw [if_pos h5] at hp; exact br_t h5 hp
  · rw [if_neg h5] at hp
    refine br_f h5 ?_
    by_cases h2 : f = 2
    · rw [if_pos h2] at hp; exact br_t h2 hp
    · rw [if_neg h2] at hp
      refine br_f h2 ?_
      by_cases h0 : f = 0
      · rw [if_pos h0] at hp; exact br_t h0 hp
      · rw [if_neg h0] at hp
        refine br_f h0 ?_
        by_cases h1 : f = 1
        · rw [if_pos h1] at hp; exact br_t h1 hp
        · rw [if_neg h1] at hp; exact br_f h1 hp
def kc (pc g : Nat → Nat) (t : Nat) : Nat := if t < 4 then nc t else co pc g (t - 4)
theorem kc_vc {g : Nat → Nat} (hg : ∀ q, g q < 4) (t : Nat) : VC (kc pc g t) := by
  unfold kc
  split
  · exact nc_vc _
  · exact co_vc hg _
theorem y_kc {post : Int32 → Prop} {t : Nat} (ht : t < 8) (h2 : ∀ i, pc i ≤ 2) (hk : ∀ q, nb q < 4) (hp : post (cY (kc pc nb t))) : wpY_constructor post ((nI c), (na pc), (na tc), (na tk), (na yn), (na dn), (na gd), (na nb), (ny ys)) (nI t) := by
  unfold kc at hp
  by_cases h : t < 4
  · rw [if_pos h] at hp; exact y_cn4 h hp
  · rw [if_neg h] at hp
    rw [show t = 4 + (t - 4) by omega]
    exact y_cn (by omega) h2 hk hp
theorem y_a58 {post : Int32 → SY → Prop} {t s : Nat} (ht : t < 8) (hs : s < 8) (h2 : ∀ i, pc i ≤ 2) (hk : ∀ q, nb q < 4) (hp : post (nuX (ap (kc pc nb t) (kc pc nb s))) ((nI c), (na pc), (na tc), (na tk), (na yn), (na dn), (na gd), (na nb), (ny ys))) : wY_applied_58 post (nI t) (nI s) (nI c) (na pc) (na tc) (na tk) (na yn) (na dn) (na gd) (na nb) (ny ys) := by
  have v1 := kc_vc (pc := pc) hk t
  have v2 := kc_vc (pc := pc) hk s
  have v3 := ap_vc (kc pc nb s) v1
  refine y_kc ht h2 hk (y_kc hs h2 hk (y_ap v1 v2 (y_no ?_)))
  rw [noI_ok _ v3.1 v3.2]
  exact hp
theorem y_a40 {post : Int32 → SY → Prop} {W t s : Nat} (ht : t < 8) (hs : s < 8) (hgd : ∀ j, j < 4 → gd j = if W.testBit j = true then 1 else 0) (hy : (s < 4 ∨ W.testBit (s - 4) = true) → wY_applied_58 post (nI t) (nI s) (nI c) (na pc) (na tc) (na tk) (na yn) (na dn) (na gd) (na nb) (ny ys)) (hn : ¬ (s < 4 ∨ W.testBit (s - 4) = true) → post (-1) ((nI c), (na pc), (na tc), (na tk), (na yn), (na dn), (na gd), (na nb), (ny ys))) : wY_applied_40 post (nI t) (nI s) (nI c) (na pc) (na tc) (na tk) (na yn) (na dn) (na gd) (na nb) (ny ys) := by
  refine pk_le s 3 (fun h => hy (Or.inl (by omega))) (fun h => ⟨pk_in (s - 4) 4 (by omega) (kj_s4 h), ?_⟩)
  have hg := hgd (s - 4) (by omega)
  rw [na_at (s - 4) (kj_s4 h)]
  by_cases z : W.testBit (s - 4) = true
  · rw [if_pos z] at hg
    exact pk_eq (gd (s - 4)) 0 (fun y => by omega) (fun _ => hy (Or.inr z))
  · rw [if_neg z] at hg
    exact pk_eq (gd (s - 4)) 0 (fun _ => hn (fun y => y.elim (fun x => by omega) z)) (fun y => by omega)
/-- the reference's applied, behind the settling -/
theorem y_al {post : Int32 → SY → Prop} {W : Nat} {v1 v2 : Int32} (D : DQ c pc tc tk fe) (hk : ∀ q, nb q < 4) (hW : W = (pR c (NN c tk fe) pc tk fe 4).2.1)
    (hy : ∀ t s yn' dn' gd' nb' ys', t < 8 → s < 8 → v1 = nI t → v2 = nI s → (t < 4 ∨ W.testBit (t - 4) = true) → (s < 4 ∨ W.testBit (s - 4) = true) → YI c pc (pR c (NN c tk fe) pc tk fe 4) dn' gd' nb' → post (nuX (ap (kc pc nb' t) (kc pc nb' s))) ((nI c), (na pc), (na tc), (na tk), (na yn'), (na dn'), (na gd'), (na nb'), (ny ys')))
    (hn : ∀ yn' dn' gd' nb' ys', (∀ q, nb' q < 4) → ¬ (HV W v1 ∧ HV W v2) → post (-1) ((nI c), (na pc), (na tc), (na tk), (na yn'), (na dn'), (na gd'), (na nb'), (ny ys'))) : wpY_applied post ((nI c), (na pc), (na tc), (na tk), (na yn), (na dn), (na gd), (na nb), (ny ys)) v1 v2 := by
  unfold wpY_applied
  refine y_sa D hk (fun yn' dn' gd' nb' ys' _ hY => ?_)
  have hn' := hn yn' dn' gd' nb' ys' hY.2.2.1
  have hgd := hY.2.1
  rw [← hW] at hgd
  by_cases h0 : v1 < 0
  · refine br_t h0 (hn' ?_)
    rintro ⟨⟨t, h8, rfl, _⟩, _⟩
    exact nI_pos (by omega) h0
  · obtain ⟨t, ht, rfl⟩ := nI_of h0
    refine br_f h0 (pk_lt 7 t (fun h7 => hn' ?_) (fun h7 => ?_))
    · rintro ⟨⟨t', h8, e, _⟩, _⟩
      rw [nI_eq ht (by omega)] at e
      omega
    · by_cases h0' : v2 < 0
      · refine br_t h0' (hn' ?_)
        rintro ⟨_, ⟨t, h8, rfl, _⟩⟩
        exact nI_pos (by omega) h0'
      · obtain ⟨s, hs, rfl⟩ := nI_of h0'
        refine br_f h0' (pk_lt 7 s (fun h7' => hn' ?_) (fun h7' => ?_))
        · rintro ⟨_, ⟨t', h8, e, _⟩⟩
          rw [nI_eq hs (by omega)] at e
          omega
        · have nt1 : ¬ (t < 4 ∨ W.testBit (t - 4) = true) → ¬ (HV W (nI t) ∧ HV W (nI s)) := by
            rintro z ⟨⟨t', h8, e, h⟩, _⟩
            rw [nI_eq ht (by omega)] at e
            rw [e] at z; exact z h
          have nt2 : ¬ (s < 4 ∨ W.testBit (s - 4) = true) → ¬ (HV W (nI t) ∧ HV W (nI s)) := by
            rintro z ⟨_, ⟨t', h8, e, h⟩⟩
            rw [nI_eq hs (by omega)] at e
            rw [e] at z; exact z h
          have w40 : (t < 4 ∨ W.testBit (t - 4) = true) → wY_applied_40 post (nI t) (nI s) (nI c) (na pc) (na tc) (na tk) (na yn') (na dn') (na gd') (na nb') (ny ys') := fun ft => y_a40 (post := post) (c := c) (pc := pc) (tc := tc) (tk := tk) (yn := yn') (dn := dn') (nb := nb') (ys := ys') (t := t) (s := s) (by omega) (by omega) hgd (fun fs => y_a58 (by omega) (by omega) D.2.1 hY.2.2.1 (hy t s yn' dn' gd' nb' ys' (by omega) (by omega) rfl rfl ft fs hY)) (fun z => hn' (nt2 z))
          refine pk_le t 3 (fun h => w40 (Or.inl (by omega))) (fun h => ⟨pk_in (t - 4) 4 (by omega) (kj_s4 h), ?_⟩)
          have hg := hgd (t - 4) (by omega)
          rw [na_at (t - 4) (kj_s4 h)]
          by_cases z : W.testBit (t - 4) = true
          · rw [if_pos z] at hg
            exact pk_eq (gd' (t - 4)) 0 (fun y => by omega) (fun _ => w40 (Or.inr z))
          · rw [if_neg z] at hg
            exact pk_eq (gd' (t - 4)) 0 (fun _ => hn' (nt1 (fun y => y.elim (fun x => by omega) z))) (fun y => by omega)
end
