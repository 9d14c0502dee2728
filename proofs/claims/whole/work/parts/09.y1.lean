/-! the reference -/
def cY (f : Nat) : Int32 := if f = 0 then -1 else if f = 1 then 0 else if f < 8 then nI (f - 3) else nI (5 + 4 * (f % 4) + (f - 16) / 4)
def ny (s : Nat → Nat) : Nat → Int32 := fun q => cY (s q)
theorem ny_upd {f : Nat → Nat} {x y : Int32} (k v : Nat) (hx : x = nI k := by rfl) (hy : y = cY v := by rfl) (hk : k < 2 ^ 31 := by omega) : upd (ny f) x.toNatClampNeg y = ny (un f k v) := by
  subst hx hy
  rw [nI_clamp hk]
  funext j
  unfold upd ny un
  by_cases h : j = k
  · rw [if_pos h, if_pos h]
  · rw [if_neg h, if_neg h]
theorem ny_i {f : Nat → Nat} (i : Nat) (h : i < 2 ^ 31 := by omega) : ny f (nI i).toNatClampNeg = cY (f i) := by
  rw [nI_clamp h]; rfl
theorem bj_0 {m j : Nat} {A B : Prop} (hm : m < 2 ^ 31) (hj : j < 32) (f : m.testBit j = true → B) (g : ¬ m.testBit j = true → A) : (((nI m >>> (nI j &&& 31)) &&& 1) = 0 → A) ∧ (¬ ((nI m >>> (nI j &&& 31)) &&& 1) = 0 → B) := bi_0 hm hj f g
theorem bj_1 {m j : Nat} {A B : Prop} (hm : m < 2 ^ 31) (hj : j < 32) (f : m.testBit j = true → A) (g : ¬ m.testBit j = true → B) : (((nI m >>> (nI j &&& 31)) &&& 1) = 1 → A) ∧ (¬ ((nI m >>> (nI j &&& 31)) &&& 1) = 1 → B) := bi_1 hm hj f g
section
variable {c : Nat} {pc tc tk yn dn gd nb ys : Nat → Nat}
theorem y_dy {post : Int32 → Prop} {i : Nat} (hc : c ≤ 4) (hi : i < c) (hp : post 1) : wpY_declared post ((nI c), (na pc), (na tc), (na tk), (na yn), (na dn), (na gd), (na nb), (ny ys)) (nI i) :=
  br_f (nI_pos (by omega)) (br_f (nI_ge hi (by omega)) hp)
theorem y_dn {post : Int32 → Prop} {v : Int32} (h : v < 0 ∨ nI c ≤ v) (hp : post 0) : wpY_declared post ((nI c), (na pc), (na tc), (na tk), (na yn), (na dn), (na gd), (na nb), (ny ys)) v := by
  by_cases h0 : v < 0
  · exact br_t h0 hp
  · exact br_f h0 (br_t (h.resolve_left h0) hp)
/-! declare: the sum -/
theorem sP_le (pc : Nat → Nat) (h2 : ∀ i, pc i ≤ 2) (k : Nat) : sP pc k ≤ 2 * k := by
  induction k with
  | zero => exact Nat.le_refl 0
  | succ k ih => have := h2 k; show sP pc k + pc k ≤ _; omega
theorem y_dc15 {post : Int32 → SY → Prop} {p : Nat} (hc : c ≤ 4) (h2 : ∀ i, pc i ≤ 2) (hp2 : p ≤ 2) (hf : (4 ≤ c ∨ 6 < p + sP pc c) → post (-2) ((nI c), (na pc), (na tc), (na tk), (na yn), (na dn), (na gd), (na nb), (ny ys))) (hy : c < 4 → p + sP pc c ≤ 6 → post (nI c) ((nI (c + 1)), (na (un pc c p)), (na (un tc c 0)), (na tk), (na yn), (na dn), (na gd), (na nb), (ny ys))) : ∀ m k, k + m = c → wY_declare_15 post (nI p) (nI c) (na pc) (na tc) (na tk) (na yn) (na dn) (na gd) (na nb) (ny ys) (m + 1) (nI (p + sP pc k)) (nI k) := by
  intro m
  induction m with
  | zero =>
    intro k hk
    have hk : k = c := by omega
    subst hk
    have := sP_le pc h2 k
    refine br_t (nI_le (Nat.le_refl _) (by omega)) (pk_le 4 k (fun h => hf (Or.inl h)) (fun h => pk_le (p + sP pc k) 6 (fun h6 => ⟨pk_in k 4 h, nm_r (na_upd k p) ⟨pk_in k 4 h, nm_r (na_upd k 0) (nm_r (nI_1 _) ?_)⟩⟩) (fun h6 => hf (Or.inr h6))))
    rw [nI_pred]
    exact hy h h6
  | succ m ih =>
    intro k hk
    have := sP_le pc h2 k
    refine br_f (nI_ge (by omega) (by omega)) ⟨pk_in k 4 (by omega), ?_⟩
    rw [na_i k, nI_add]
    exact nm_r (congrArg nI (Nat.add_assoc p (sP pc k) (pc k))) (nm_r (nI_1 _) (ih (k + 1) (by omega)))
/-! read -/
theorem y_rd53 {post : Int32 → Prop} {J : Int32 → Int32 → Int32 → Int32 → Prop} {x1 x2 : Int32} {t : Nat → Nat} {k : Nat} (hk : k < 20) {z : Int32} (hz : t k = 0 ∧ z = nI (rO t k) + 1 ∨ ¬ t k = 0 ∧ z = nI (rO t k) - 1) (H : J (nI (rO t (k + 1))) (nI (rF t (k + 1))) (nI (rE t (k + 1))) (nI (k + 1))) : wY_read_53 post J x1 x2 (nI (rF t k)) (nI (rE t k)) (nI k) z (nI c) (na pc) (na tc) (na tk) (na yn) (na dn) (na gd) (na nb) (ny ys) := by
  have h2 := rO_pos t k
  have h3 := rO_le t k
  unfold wY_read_53
  rcases hz with ⟨h0, rfl⟩ | ⟨h0, rfl⟩
  · rw [nI_1]
    refine br_f (nI_ne0 (by omega) (by omega)) (nm_r (nI_1 _) ?_)
    rw [show rO t (k + 1) = rO t k + 1 from if_pos h0, show rF t (k + 1) = rF t k from if_pos h0, show rE t (k + 1) = rE t k from if_pos h0] at H
    exact H
  · obtain ⟨d, hd⟩ : ∃ d, rO t k = d + 1 := ⟨rO t k - 1, by omega⟩
    rw [hd, nI_pred]
    by_cases hd0 : d = 0
    · subst hd0
      rw [show rO t (k + 1) = 1 from (if_neg h0).trans (if_pos hd), show rF t (k + 1) = rF t k + 1 from (if_neg h0).trans (if_pos hd), show rE t (k + 1) = k + 1 from (if_neg h0).trans (if_pos hd)] at H
      exact br_t rfl (nm_r (nI_1 _) (nm_r (nI_1 _) (nm_r (nI_1 _) H)))
    · have hd1 : ¬ rO t k = 1 := by omega
      rw [show rO t (k + 1) = rO t k - 1 from (if_neg h0).trans (if_neg hd1), show rF t (k + 1) = rF t k from (if_neg h0).trans (if_neg hd1), show rE t (k + 1) = rE t k from (if_neg h0).trans (if_neg hd1), hd] at H
      exact br_f (nI_ne0 (by omega) (by omega)) (nm_r (nI_1 _) H)
theorem y_rd11 {post : Int32 → Prop} {i : Nat} {x2 : Int32} (hi : i < 4) (ht : ∀ q, tk q ≤ 10) (hs : tc i ≤ 20) (H : wY_read_75 post x2 (nI (rF (tp tk i) (tc i))) (nI (rE (tp tk i) (tc i))) (nI c) (na pc) (na tc) (na tk) (na yn) (na dn) (na gd) (na nb) (ny ys)) : ∀ m k, k + m = tc i → wY_read_11 post (nI i) x2 (nI c) (na pc) (na tc) (na tk) (na yn) (na dn) (na gd) (na nb) (ny ys) (m + 1) (nI (rO (tp tk i) k)) (nI (rF (tp tk i) k)) (nI (rE (tp tk i) k)) (nI k) := by
  intro m
  induction m with
  | zero =>
    intro k hk
    have hk : k = tc i := by omega
    subst hk
    exact ⟨pk_in i 4 hi, br_t (by rw [na_i i]; exact nI_le (Nat.le_refl _) (by omega)) H⟩
  | succ m ih =>
    intro k hk
    have h10 := ht (i * 20 + k)
    have e := kj_ix20' i k
    refine ⟨pk_in i 4 hi, br_f (by rw [na_i i]; exact nI_ge (by omega) (by omega)) (br_f (nI_ge (b := 20) (by omega) (by omega)) ⟨pk_in (i * 20 + k) 80 (by omega) e, pk_eq (tk (i * 20 + k)) 0 (fun h0 => ?_) (fun h0 => ?_) (na_at _ e)⟩)⟩
    · exact y_rd53 (by omega) (Or.inl ⟨h0, rfl⟩) (ih (k + 1) (by omega))
    · exact y_rd53 (by omega) (Or.inr ⟨h0, rfl⟩) (ih (k + 1) (by omega))
theorem y_rd0 {post : Int32 → Prop} {i : Nat} (hi : i < 4) (ht : ∀ q, tk q ≤ 10) (hs : tc i ≤ 20) (hp : post (nI (rF (tp tk i) (tc i)))) : wpY_read post ((nI c), (na pc), (na tc), (na tk), (na yn), (na dn), (na gd), (na nb), (ny ys)) (nI i) 0 :=
  ⟨tc i + 1, y_rd11 hi ht hs (br_t rfl hp) (tc i) 0 (by omega)⟩
theorem y_rd1 {post : Int32 → Prop} {i : Nat} (hi : i < 4) (ht : ∀ q, tk q ≤ 10) (hs : tc i ≤ 20) (hp : post (nI (rE (tp tk i) (tc i)))) : wpY_read post ((nI c), (na pc), (na tc), (na tk), (na yn), (na dn), (na gd), (na nb), (ny ys)) (nI i) 1 :=
  ⟨tc i + 1, y_rd11 hi ht hs (br_f (by decide) hp) (tc i) 0 (by omega)⟩
theorem y_fl {post : Int32 → Prop} {i : Nat} (hc : c ≤ 4) (hi : i < c) (ht : ∀ q, tk q ≤ 10) (hs : tc i ≤ 20) (hp : post (nI (rF (tp tk i) (tc i)))) : wpY_fields post ((nI c), (na pc), (na tc), (na tk), (na yn), (na dn), (na gd), (na nb), (ny ys)) (nI i) := by
  unfold wpY_fields
  exact y_dy hc hi (br_f (by decide) (y_rd0 (by omega) ht hs hp))
/-! findNeeds -/
theorem y_fn35 {post : SY → Prop} {J : Int32 → (Nat → Int32) → (Nat → Int32) → (Nat → Int32) → (Nat → Int32) → (Nat → Int32) → (Nat → Int32) → (Nat → Int32) → (Nat → Int32) → Prop} {i e : Nat} (hi : i < 4) (he : e ≤ 20) (ht : ∀ q, tk q ≤ 10) (HJ : J (nI (i + 1)) (na pc) (na tc) (na tk) (na (un yn i (nM (tp tk i) e))) (na dn) (na gd) (na nb) (ny ys)) : ∀ m k, k + m = e → wY_findNeeds_35 post J (nI i) (nI e) (nI c) (m + 1) (nI k) (na pc) (na tc) (na tk) (na (un yn i (nM (tp tk i) k))) (na dn) (na gd) (na nb) (ny ys) := by
  intro m
  induction m with
  | zero =>
    intro k hk
    have hk : k = e := by omega
    subst hk
    exact br_t (nI_le (Nat.le_refl _) (by omega)) (nm_r (nI_1 _) HJ)
  | succ m ih =>
    intro k hk
    have h10 := ht (i * 20 + k)
    have ex := kj_ix20' i k
    have := ih (k + 1) (by omega)
    have uu : ∀ v v', un (un yn i v) i v' = un yn i v' := by
      intro v v'
      funext x
      unfold un
      split <;> rfl
    refine br_f (nI_ge (by omega) (by omega)) (br_f (nI_ge (b := 20) (by omega) (by omega)) ⟨pk_in (i * 20 + k) 80 (by omega) ex, nm_r (na_at _ ex) (pk_lt (tk (i * 20 + k)) 7 (fun h7 => ⟨pk_in i 4 hi, pk_in i 4 hi, nm_r (na_upd i (nM (tp tk i) k) rfl ?_) (nm_r (nI_1 _) ?_)⟩) (fun h7 => ⟨pk_in i 4 hi, pk_in i 4 hi, nm_r (na_upd i (nM (tp tk i) k ||| 2 ^ (tk (i * 20 + k) - 7)) rfl ?_) (nm_r (nI_1 _) ?_)⟩))⟩)
    · rw [na_i i, un_s]
    · rw [uu]
      rw [show nM (tp tk i) (k + 1) = nM (tp tk i) k from if_pos h7] at this
      exact this
    · rw [na_i i, un_s, ((kj_t7 _ (by omega)).1 h7).2.2, kj_one (by omega), kj_or]
    · rw [uu]
      rw [show nM (tp tk i) (k + 1) = nM (tp tk i) k ||| 2 ^ (tk (i * 20 + k) - 7) from if_neg (show ¬ tp tk i k < 7 by show ¬ tk (i * 20 + k) < 7; omega)] at this
      exact this
theorem yP_lt4 (m : Nat) (hm : m ≤ 16) (f : Nat → Nat) (hf : ∀ i, i < 4 → f i < 16) (i : Nat) (hi : i < 4) : yP m f i < 16 := by
  induction m generalizing i with
  | zero => exact hf i hi
  | succ m ih =>
    unfold yP
    split
    · by_cases e : i = m / 4
      · subst e; rw [un_s]; exact m_or (ih (by omega) _ hi) (ih (by omega) _ (by omega))
      · rw [un_n e]; exact ih (by omega) _ hi
    · exact ih (by omega) _ hi
theorem yP_cg (m : Nat) (hm : m ≤ 16) (f g : Nat → Nat) (h : ∀ i, i < 4 → f i = g i) (i : Nat) (hi : i < 4) : yP m f i = yP m g i := by
  induction m generalizing i with
  | zero => exact h i hi
  | succ m ih =>
    have e1 := ih (by omega) (m / 4) (by omega)
    have e2 := ih (by omega) (m % 4) (by omega)
    unfold yP
    rw [e1, e2]
    split
    · unfold un
      split
      · rfl
      · exact ih (by omega) i hi
    · exact ih (by omega) i hi
theorem y_fn116 {post : SY → Prop} {J : Int32 → (Nat → Int32) → (Nat → Int32) → (Nat → Int32) → (Nat → Int32) → (Nat → Int32) → (Nat → Int32) → (Nat → Int32) → (Nat → Int32) → Prop} {r : Nat} (hf : ∀ i, i < 4 → yn i < 16) (HJ : J (nI (r + 1)) (na pc) (na tc) (na tk) (na (yP 16 yn)) (na dn) (na gd) (na nb) (ny ys)) : ∀ d m, m + d = 16 → wY_findNeeds_116 post J (nI r) (nI c) (d + 1) (nI m) (na pc) (na tc) (na tk) (na (yP m yn)) (na dn) (na gd) (na nb) (ny ys) := by
  intro d
  induction d with
  | zero =>
    intro m hm
    have hm : m = 16 := by omega
    subst hm
    exact br_t (nI_le (Nat.le_refl _) (by omega)) (nm_r (nI_1 _) HJ)
  | succ d ih =>
    intro m hm
    have := ih (m + 1) (by omega)
    have b := yP_lt4 m (by omega) yn hf (m / 4) (by omega)
    refine br_f (nI_ge (b := 16) (by omega) (by omega)) ⟨by decide, nm_r (pk_div (a := m) (d := 4) (by omega) (by omega) (by omega)) ⟨by decide, nm_r (pk_rem (a := m) (d := 4) (by omega) (by omega) (by omega)) ⟨pk_in (m / 4) 4 (by omega), ?_⟩⟩⟩
    rw [na_i (m / 4), na_i (m % 4)]
    refine bj_1 (by omega) (by omega) (fun h => ⟨pk_in (m / 4) 4 (by omega), pk_in (m % 4) 4 (by omega), pk_in (m / 4) 4 (by omega), nm_r (na_upd (m / 4) _ rfl (kj_or _ _)) (nm_r (nI_1 _) ?_)⟩) (fun h => ⟨pk_in (m / 4) 4 (by omega), pk_in (m / 4) 4 (by omega), nm_r (na_upd (m / 4) _) (nm_r (nI_1 _) ?_)⟩)
    · rw [show yP (m + 1) yn = un (yP m yn) (m / 4) ((yP m yn) (m / 4) ||| (yP m yn) (m % 4)) from if_pos h] at this
      exact this
    · rw [un_self]
      rw [show yP (m + 1) yn = yP m yn from if_neg h] at this
      exact this
theorem y_fn109 {post : SY → Prop} (hf : ∀ i, i < 4 → yn i < 16) (hp : post ((nI c), (na pc), (na tc), (na tk), (na (yO 4 yn)), (na dn), (na gd), (na nb), (ny ys))) : ∀ d r, r + d = 4 → wY_findNeeds_109 post (nI c) (d + 1) (nI r) (na pc) (na tc) (na tk) (na (yO r yn)) (na dn) (na gd) (na nb) (ny ys) := by
  have hw : ∀ r i, i < 4 → yO r yn i < 16 := by
    intro r
    induction r with
    | zero => exact hf
    | succ r ih => exact fun i hi => yP_lt4 16 (by omega) _ ih i hi
  intro d
  induction d with
  | zero =>
    intro r hr
    have hr : r = 4 := by omega
    subst hr
    exact br_t (nI_le (Nat.le_refl _) (by omega)) hp
  | succ d ih =>
    intro r hr
    exact br_f (nI_ge (b := 4) (by omega) (by omega)) ⟨17, y_fn116 (yn := yO r yn) (hw r) (ih (r + 1) (by omega)) 16 0 (by omega)⟩
theorem yO_cg (r : Nat) (f g : Nat → Nat) (h : ∀ i, i < 4 → f i = g i) (i : Nat) (hi : i < 4) : yO r f i = yO r g i := by
  induction r generalizing i with
  | zero => exact h i hi
  | succ r ih => exact yP_cg 16 (by omega) _ _ ih i hi
theorem y_fn2 {post : SY → Prop} {fe : Nat → Nat} (D : DQ c pc tc tk fe) (hp : ∀ yn', (∀ i, i < 4 → yn' i = NN c tk fe i) → post ((nI c), (na pc), (na tc), (na tk), (na yn'), (na dn), (na gd), (na nb), (ny ys))) : ∀ d i f, i + d = 4 → (∀ x, x < i → f x = N0 c tk fe x) → wY_findNeeds_2 post (nI c) (d + 1) (nI i) (na pc) (na tc) (na tk) (na f) (na dn) (na gd) (na nb) (ny ys) := by
  have hc4 := D.1
  intro d
  induction d with
  | zero =>
    intro i f hi hf
    have hi : i = 4 := by omega
    subst hi
    refine br_t (nI_le (Nat.le_refl _) (by omega)) ⟨5, y_fn109 (yn := f) (fun i hi => ?_) (hp _ (fun i hi => ?_)) 4 0 (by omega)⟩
    · rw [hf i hi]; exact N0_lt D.2.2.2.2.2.2 i
    · rw [yO_cg 4 f (N0 c tk fe) hf i hi, NN_y hc4 D.2.2.2.2.2.2]
  | succ d ih =>
    intro i f hi hf
    have fin : ∀ v, v = N0 c tk fe i → wY_findNeeds_2 post (nI c) (d + 1) (nI (i + 1)) (na pc) (na tc) (na tk) (na (un f i v)) (na dn) (na gd) (na nb) (ny ys) := by
      intro v hv
      refine ih (i + 1) _ (by omega) (fun x hx => ?_)
      by_cases e : x = i
      · rw [e, un_s, hv]
      · rw [un_n e]; exact hf x (by omega)
    refine br_f (nI_ge (b := 4) (by omega) (by omega)) ⟨pk_in i 4 (by omega), nm_r (na_upd i 0) (pk_le c i (fun h => ?_) (fun h => ?_))⟩
    · refine ⟨1, y_fn35 (e := 0) (by omega) (by omega) D.2.2.1 (fin _ ?_) 0 0 (by omega)⟩
      unfold N0
      rw [if_neg (by omega)]
      rfl
    · have e := D.2.2.2.2.2.1 i h
      have e20 := DQ_e D h
      refine y_rd1 (by omega) D.2.2.1 (D.2.2.2.2.1 i) ⟨fe i + 1, ?_⟩
      rw [← e]
      refine y_fn35 (by omega) e20 D.2.2.1 (fin _ ?_) (fe i) 0 (by omega)
      unfold N0
      rw [if_pos h]
theorem y_fn {post : SY → Prop} {fe : Nat → Nat} (D : DQ c pc tc tk fe) (hp : ∀ yn', (∀ i, i < 4 → yn' i = NN c tk fe i) → post ((nI c), (na pc), (na tc), (na tk), (na yn'), (na dn), (na gd), (na nb), (ny ys))) : wpY_findNeeds post ((nI c), (na pc), (na tc), (na tk), (na yn), (na dn), (na gd), (na nb), (ny ys)) :=
  ⟨5, y_fn2 D hp 4 0 yn (by omega) (fun x hx => absurd hx (Nat.not_lt_zero _))⟩
theorem y_go6 {post : Int32 → Prop} {N : Nat → Nat} {i : Nat} (hi : i < 4) (hN : ∀ i, N i < 16) (hn : ∀ i, i < 4 → yn i = N i) (hp : post (nI (gS N i))) : ∀ m j, j + m = 4 → wY_groupOf_6 post (nI i) (nI c) (na pc) (na tc) (na tk) (na yn) (na dn) (na gd) (na nb) (ny ys) (m + 1) (nI (gM N i j)) (nI j) := by
  intro m
  induction m with
  | zero =>
    intro j hj
    have hj : j = 4 := by omega
    subst hj
    exact br_t (nI_le (Nat.le_refl _) (by omega)) hp
  | succ m ih =>
    intro j hj
    have := ih (j + 1) (by omega)
    have b1 := hN i
    have b2 := hN j
    refine br_f (nI_ge (b := 4) (by omega) (by omega)) ⟨pk_in i 4 (by omega), ?_⟩
    rw [na_i i, hn i hi]
    refine bj_1 (by omega) (by omega) (fun h1 => ⟨pk_in j 4 (by omega), ?_⟩) (fun h1 => nm_r (nI_1 _) ?_)
    · rw [na_i j, hn j (by omega)]
      refine bj_1 (by omega) (by omega) (fun h2 => nm_r ?_ (nm_r (nI_1 _) this)) (fun h2 => nm_r (nI_1 _) ?_)
      · rw [kj_one (by omega), kj_or, show gM N i (j + 1) = gM N i j ||| 2 ^ j from if_pos ⟨h1, h2⟩]
      · rw [show gM N i (j + 1) = gM N i j from if_neg (fun z => h2 z.2)] at this
        exact this
    · rw [show gM N i (j + 1) = gM N i j from if_neg (fun z => h1 z.1)] at this
      exact this
theorem y_go {post : Int32 → Prop} {N : Nat → Nat} {i : Nat} (hi : i < 4) (hN : ∀ i, N i < 16) (hn : ∀ i, i < 4 → yn i = N i) (hp : post (nI (gS N i))) : wpY_groupOf post ((nI c), (na pc), (na tc), (na tk), (na yn), (na dn), (na gd), (na nb), (ny ys)) (nI i) :=
  nm_r (kj_one (by omega)) ⟨5, y_go6 hi hN hn hp 4 0 (by omega)⟩
end
