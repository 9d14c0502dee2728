/-! the relation -/
def RQ (c : Nat) (pc tc tk fc fe : Nat → Nat) : Prop := c ≤ 4 ∧ (∀ i, pc i ≤ 2) ∧ (∀ q, tk q ≤ 10) ∧ sP pc c ≤ 6 ∧ (∀ i, tc i ≤ 20) ∧ (∀ i, i < c → fe i = rE (tp tk i) (tc i) ∧ fc i = rF (tp tk i) (tc i)) ∧ (∀ i k, i < c → k < tc i → mS c pc i (tp tk i k))
theorem RQ_D {c : Nat} {pc tc tk fc fe : Nat → Nat} (h : RQ c pc tc tk fc fe) : DQ c pc tc tk fe := by
  obtain ⟨h1, h2, h3, h4, h5, h6, h7⟩ := h
  refine ⟨h1, h2, h3, h4, h5, fun i hi => (h6 i hi).1, fun i k hi hk => h7 i k hi ?_⟩
  rw [(h6 i hi).1] at hk
  have := rE_le (tp tk i) (tc i)
  omega
def i_Rel (_ : Nat) (u : SX) (v : SY) : Prop :=
  ∃ (c w : Nat) (st : Int32) (pc tc tk fc fe nt sk sc cc gs stk yn dn gd nb ys : Nat → Nat), u = ((nI c), (nI (sP pc c)), st, (nI w), (na pc), (na tc), (na tk), (na fc), (na fe), (na nt), (na sk), (na sc), (na cc), (na gs), (na stk)) ∧ v = ((nI c), (na pc), (na tc), (na tk), (na yn), (na dn), (na gd), (na nb), (ny ys)) ∧ RQ c pc tc tk fc fe ∧ (∀ q, sk q < 4) ∧ (∀ q, q < 4 → cc q = nc q) ∧ (∀ q, nb q < 4) ∧ (st = 1 ∨ st = 0 ∧ XD c pc tk fe w nt sk sc cc)
theorem r_mk {k c w : Nat} {st : Int32} {pc tc tk fc fe nt sk sc cc gs stk yn dn gd nb ys : Nat → Nat} (h1 : RQ c pc tc tk fc fe) (h2 : ∀ q, sk q < 4) (h3 : ∀ q, q < 4 → cc q = nc q) (h4 : ∀ q, nb q < 4) (h5 : st = 1 ∨ st = 0 ∧ XD c pc tk fe w nt sk sc cc) : i_Rel k ((nI c), (nI (sP pc c)), st, (nI w), (na pc), (na tc), (na tk), (na fc), (na fe), (na nt), (na sk), (na sc), (na cc), (na gs), (na stk)) ((nI c), (na pc), (na tc), (na tk), (na yn), (na dn), (na gd), (na nb), (ny ys)) :=
  ⟨c, w, st, pc, tc, tk, fc, fe, nt, sk, sc, cc, gs, stk, yn, dn, gd, nb, ys, rfl, rfl, h1, h2, h3, h4, h5⟩
theorem i_up {k : Nat} {u : SX} {v : SY} (h : i_Rel k u v) : i_Rel (k + 4) u v := h
theorem na_k {f : Nat → Nat} (k v : Nat) : upd (na f) k (nI v) = na (un f k v) := by
  funext j
  unfold upd na un
  by_cases h : j = k
  · rw [if_pos h, if_pos h]
  · rw [if_neg h, if_neg h]
theorem i_vc0 : wpX_init (fun u => wpY_init (fun v => i_Rel 0 u v)) := by
  refine nm_r (na_k (f := fun _ => 0) 0 1) (nm_r (na_k 1 4) (nm_r (na_k 2 16) (nm_r (na_k 3 5) ?_)))
  refine ⟨0, 0, 1, fun _ => 0, fun _ => 0, fun _ => 0, fun _ => 0, fun _ => 0, fun _ => 0, fun _ => 0, fun _ => 0, _, fun _ => 0, fun _ => 0, fun _ => 0, fun _ => 0, fun _ => 0, fun _ => 0, fun _ => 1, rfl, rfl, ⟨by decide, fun _ => (by decide : 0 ≤ 2), fun _ => (by decide : 0 ≤ 10), by decide, fun _ => (by decide : 0 ≤ 20), fun i h => absurd h (Nat.not_lt_zero _), fun i k h => absurd h (Nat.not_lt_zero _)⟩, fun _ => (by decide : 0 < 4), ?_, fun _ => (by decide : 0 < 4), Or.inl rfl⟩
  decide
theorem sP_cg {p p' : Nat → Nat} (n : Nat) (h : ∀ i, i < n → p i = p' i) : sP p n = sP p' n := by
  induction n with
  | zero => rfl
  | succ n ih => show sP p n + p n = sP p' n + p' n; rw [ih (fun i hi => h i (by omega)), h n (by omega)]
section
variable {k c w : Nat} {st : Int32} {pc tc tk fc fe nt sk sc cc gs stk yn dn gd nb ys : Nat → Nat}
theorem RQ_dec {p : Nat} (R : RQ c pc tc tk fc fe) (hc : c < 4) (hp : p ≤ 2) (h6 : p + sP pc c ≤ 6) : RQ (c + 1) (un pc c p) (un tc c 0) tk (un fc c 0) (un fe c 0) ∧ sP (un pc c p) (c + 1) = sP pc c + p := by
  obtain ⟨h1, h2, h3, h4, h5, h7, h8⟩ := R
  have e : sP (un pc c p) (c + 1) = sP pc c + p := by
    show sP (un pc c p) c + un pc c p c = _
    rw [un_s, sP_cg c (fun i hi => un_n (by omega))]
  refine ⟨⟨by omega, fun i => ?_, h3, by omega, fun i => ?_, fun i hi => ?_, fun i k hi hk => ?_⟩, e⟩
  · unfold un; split
    · exact hp
    · exact h2 i
  · unfold un; split
    · omega
    · exact h5 i
  · by_cases e : i = c
    · rw [e, un_s, un_s, un_s]; exact ⟨rfl, rfl⟩
    · rw [un_n e, un_n e, un_n e]; exact h7 i (by omega)
  · by_cases e : i = c
    · rw [e, un_s] at hk; omega
    · rw [un_n e] at hk
      obtain ⟨m1, m2, m3⟩ := h8 i k (by omega) hk
      refine ⟨m1, ?_, fun z => ?_⟩
      · rw [un_n e]; exact m2
      · have := m3 z; omega
end
theorem i_vc_declare {k : Nat} {u : SX} {v : SY} (I : i_Rel k u v) (hk : k + 4 ≤ 2048) (v1 : Int32) : wpX_declare (fun r u' => wpY_declare (fun r' v' => r' = r ∧ i_Rel (k + 4) u' v') v v1) u v1 := by
  obtain ⟨c, w, st, pc, tc, tk, fc, fe, nt, sk, sc, cc, gs, stk, yn, dn, gd, nb, ys, rfl, rfl, R, h2, h3, h4, h5⟩ := I
  have hc := R.1
  have hs := R.2.2.2.1
  by_cases h0 : v1 < 0
  · exact br_t h0 (br_t h0 ⟨rfl, r_mk R h2 h3 h4 h5⟩)
  · obtain ⟨p, hp, rfl⟩ := nI_of h0
    refine br_f h0 (pk_le p 2 (fun hp2 => ?_) (fun hp2 => br_f h0 (br_f (nI_ge (a := 2) hp2 hp) ⟨rfl, r_mk R h2 h3 h4 h5⟩)))
    have yw : ∀ {post : Int32 → SY → Prop}, ((4 ≤ c ∨ 6 < p + sP pc c) → post (-2) ((nI c), (na pc), (na tc), (na tk), (na yn), (na dn), (na gd), (na nb), (ny ys))) → (c < 4 → p + sP pc c ≤ 6 → post (nI c) ((nI (c + 1)), (na (un pc c p)), (na (un tc c 0)), (na tk), (na yn), (na dn), (na gd), (na nb), (ny ys))) → wpY_declare post ((nI c), (na pc), (na tc), (na tk), (na yn), (na dn), (na gd), (na nb), (ny ys)) (nI p) := fun hf hy => br_f h0 (br_t (nI_le (b := 2) hp2 (by omega)) ⟨c + 1, y_dc15 hc R.2.1 hp2 hf hy c 0 (by omega)⟩)
    refine pk_le 4 c (fun h4c => yw (fun _ => ⟨rfl, r_mk R h2 h3 h4 h5⟩) (fun z => absurd z (by omega))) (fun h4c => ?_)
    rw [nI_add]
    refine pk_le (sP pc c + p) 6 (fun h6 => ⟨pk_in c 4 h4c, nm_r (na_upd c p) ⟨pk_in c 4 h4c, nm_r (na_upd c 0) ⟨pk_in c 4 h4c, nm_r (na_upd c 0) ⟨pk_in c 4 h4c, nm_r (na_upd c 0) (nm_r (nI_1 _) (nm_e ?_))⟩⟩⟩⟩) (fun h6 => yw (fun _ => ⟨rfl, r_mk R h2 h3 h4 h5⟩) (fun _ z => absurd z (by omega)))
    refine yw (fun z => absurd z (by omega)) (fun _ h6' => ⟨rfl, ?_⟩)
    obtain ⟨R', e⟩ := RQ_dec R h4c hp2 h6'
    rw [← e]
    exact r_mk R' h2 h3 h4 (Or.inl rfl)
theorem i_vc_types {k : Nat} {u : SX} {v : SY} (I : i_Rel k u v) (hk : k + 4 ≤ 2048) : wpX_types (fun r => wpY_types (fun r' => r' = r ∧ i_Rel (k + 4) u v) v) u := by
  obtain ⟨c, w, st, pc, tc, tk, fc, fe, nt, sk, sc, cc, gs, stk, yn, dn, gd, nb, ys, rfl, rfl, R, h2, h3, h4, h5⟩ := I
  exact ⟨rfl, r_mk R h2 h3 h4 h5⟩
theorem i_vc_clear {k : Nat} {u : SX} {v : SY} (I : i_Rel k u v) (hk : k + 4 ≤ 2048) : wpX_clear (fun u' => wpY_clear (fun v' => i_Rel (k + 4) u' v') v) u := by
  obtain ⟨c, w, st, pc, tc, tk, fc, fe, nt, sk, sc, cc, gs, stk, yn, dn, gd, nb, ys, rfl, rfl, R, h2, h3, h4, h5⟩ := I
  obtain ⟨r1, r2, r3, r4, r5, r6, r7⟩ := R
  exact ⟨0, w, 1, pc, tc, tk, fc, fe, nt, sk, sc, cc, gs, stk, yn, dn, gd, nb, ys, rfl, rfl, ⟨by omega, r2, r3, by show 0 ≤ 6; omega, r5, fun i h => absurd h (Nat.not_lt_zero _), fun i k h => absurd h (Nat.not_lt_zero _)⟩, h2, h3, h4, Or.inl rfl⟩
theorem i_vc_parameters {k : Nat} {u : SX} {v : SY} (I : i_Rel k u v) (hk : k + 4 ≤ 2048) (v1 : Int32) : wpX_parameters (fun r => wpY_parameters (fun r' => r' = r ∧ i_Rel (k + 4) u v) v v1) u v1 := by
  obtain ⟨c, w, st, pc, tc, tk, fc, fe, nt, sk, sc, cc, gs, stk, yn, dn, gd, nb, ys, rfl, rfl, R, h2, h3, h4, h5⟩ := I
  have hc := R.1
  unfold wpX_parameters wpY_parameters
  rcases pk_ix v1 (n := c) (by omega) with h | h | ⟨i, hi, rfl⟩
  · exact x_dn (Or.inl h) (br_t rfl (y_dn (Or.inl h) (br_t rfl ⟨rfl, r_mk R h2 h3 h4 h5⟩)))
  · exact x_dn (Or.inr h) (br_t rfl (y_dn (Or.inr h) (br_t rfl ⟨rfl, r_mk R h2 h3 h4 h5⟩)))
  · exact x_dy hc hi (br_f (by decide) ⟨pk_in i 4 (by omega), y_dy hc hi (br_f (by decide) ⟨pk_in i 4 (by omega), rfl, r_mk R h2 h3 h4 h5⟩)⟩)
theorem i_vc_fields {k : Nat} {u : SX} {v : SY} (I : i_Rel k u v) (hk : k + 4 ≤ 2048) (v1 : Int32) : wpX_fields (fun r => wpY_fields (fun r' => r' = r ∧ i_Rel (k + 4) u v) v v1) u v1 := by
  obtain ⟨c, w, st, pc, tc, tk, fc, fe, nt, sk, sc, cc, gs, stk, yn, dn, gd, nb, ys, rfl, rfl, R, h2, h3, h4, h5⟩ := I
  have hc := R.1
  unfold wpX_fields
  rcases pk_ix v1 (n := c) (by omega) with h | h | ⟨i, hi, rfl⟩
  · refine x_dn (Or.inl h) (br_t rfl ?_)
    unfold wpY_fields
    exact y_dn (Or.inl h) (br_t rfl ⟨rfl, r_mk R h2 h3 h4 h5⟩)
  · refine x_dn (Or.inr h) (br_t rfl ?_)
    unfold wpY_fields
    exact y_dn (Or.inr h) (br_t rfl ⟨rfl, r_mk R h2 h3 h4 h5⟩)
  · refine x_dy hc hi (br_f (by decide) ⟨pk_in i 4 (by omega), y_fl hc hi R.2.2.1 (R.2.2.2.2.1 i) ⟨?_, r_mk R h2 h3 h4 h5⟩⟩)
    rw [na_i i, (R.2.2.2.2.2.1 i hi).2]
section
variable {k c w : Nat} {st : Int32} {pc tc tk fc fe nt sk sc cc gs stk yn dn gd nb ys : Nat → Nat}
theorem tp_un {tk : Nat → Nat} {i j k n t : Nat} (hk : k < 20) (hn : n < 20) (h : j ≠ i ∨ k ≠ n) : tp (un tk (i * 20 + n) t) j k = tp tk j k := by
  unfold tp
  exact un_n (by omega)
theorem RQ_tok {i t : Nat} (R : RQ c pc tc tk fc fe) (hi : i < c) (h20 : tc i < 20) (ht : mS c pc i t) : RQ c pc (un tc i (tc i + 1)) (un tk (i * 20 + tc i) t) (un fc i (rF (tp (un tk (i * 20 + tc i) t) i) (un tc i (tc i + 1) i))) (un fe i (rE (tp (un tk (i * 20 + tc i) t) i) (un tc i (tc i + 1) i))) := by
  obtain ⟨h1, h2, h3, h4, h5, h7, h8⟩ := R
  refine ⟨h1, h2, fun q => ?_, h4, fun j => ?_, fun j hj => ?_, fun j k hj hk => ?_⟩
  · unfold un; split
    · exact ht.1
    · exact h3 q
  · unfold un; split
    · omega
    · exact h5 j
  · by_cases e : j = i
    · rw [e, un_s, un_s, un_s]; exact ⟨rfl, rfl⟩
    · rw [un_n e, un_n e, un_n e, (h7 j hj).1, (h7 j hj).2]
      have := h5 j
      obtain ⟨g1, g2, g3⟩ := r_cg (t := tp tk j) (t' := tp (un tk (i * 20 + tc i) t) j) (n := tc j) (fun k hk => (tp_un (by omega) h20 (Or.inl e)).symm)
      exact ⟨g3, g2⟩
  · have := h5 j
    by_cases e : j = i
    · subst e
      rw [un_s] at hk
      by_cases ek : k = tc j
      · rw [ek, show tp (un tk (j * 20 + tc j) t) j (tc j) = t from un_s]; exact ht
      · rw [tp_un (by omega) h20 (Or.inr ek)]; exact h8 j k hj (by omega)
    · rw [un_n e] at hk
      rw [tp_un (by omega) h20 (Or.inl e)]
      exact h8 j k hj hk
theorem RQ_back {i : Nat} (R : RQ c pc tc tk fc fe) (hi : i < c) : RQ c pc (un tc i (tc i - 1)) tk (un fc i (rF (tp tk i) (un tc i (tc i - 1) i))) (un fe i (rE (tp tk i) (un tc i (tc i - 1) i))) := by
  obtain ⟨h1, h2, h3, h4, h5, h7, h8⟩ := R
  refine ⟨h1, h2, h3, h4, fun j => ?_, fun j hj => ?_, fun j k hj hk => ?_⟩
  · unfold un; split
    · have := h5 i; omega
    · exact h5 j
  · by_cases e : j = i
    · rw [e, un_s, un_s, un_s]; exact ⟨rfl, rfl⟩
    · rw [un_n e, un_n e, un_n e]; exact h7 j hj
  · by_cases e : j = i
    · subst e
      rw [un_s] at hk
      exact h8 j k hj (by omega)
    · rw [un_n e] at hk
      exact h8 j k hj hk
theorem y_tk40 {post : Int32 → SY → Prop} {i t : Nat} (hc : c ≤ 4) (h10 : t ≤ 10) (h12 : t = 1 ∨ t = 2 → t ≤ pc i) (hy : mS c pc i t → wY_token_59 post (nI i) (nI t) (nI c) (na pc) (na tc) (na tk) (na yn) (na dn) (na gd) (na nb) (ny ys)) (hn : ¬ mS c pc i t → post (-1) ((nI c), (na pc), (na tc), (na tk), (na yn), (na dn), (na gd), (na nb), (ny ys))) : wY_token_40 post (nI i) (nI t) (nI c) (na pc) (na tc) (na tk) (na yn) (na dn) (na gd) (na nb) (ny ys) := by
  refine pk_lt t 7 (fun h => hy ⟨h10, h12, by omega⟩) (fun h => ?_)
  rw [((kj_t7 t (by omega)).1 h).2.2]
  exact pk_lt (t - 7) c (fun z => hy ⟨h10, h12, fun _ => z⟩) (fun z => hn (fun y => by have := y.2.2 h; omega))
theorem y_tok {post : Int32 → SY → Prop} {i t : Nat} (hc : c ≤ 4) (hi : i < c) (h2 : ∀ i, pc i ≤ 2) (ht : t < 2 ^ 31) (hy : mS c pc i t → wY_token_59 post (nI i) (nI t) (nI c) (na pc) (na tc) (na tk) (na yn) (na dn) (na gd) (na nb) (ny ys)) (hn : ¬ mS c pc i t → post (-1) ((nI c), (na pc), (na tc), (na tk), (na yn), (na dn), (na gd), (na nb), (ny ys))) : wpY_token post ((nI c), (na pc), (na tc), (na tk), (na yn), (na dn), (na gd), (na nb), (ny ys)) (nI i) (nI t) := by
  have := h2 i
  unfold wpY_token
  have t30 : t = 1 ∨ t = 2 → t ≤ 10 → wY_token_30 post (nI i) (nI t) (nI c) (na pc) (na tc) (na tk) (na yn) (na dn) (na gd) (na nb) (ny ys) := by
    intro h12 h10
    refine ⟨pk_in i 4 (by omega), ?_⟩
    rw [na_i i]
    exact pk_lt (pc i) t (fun z => hn (fun y => by have := y.2.1 h12; omega)) (fun z => y_tk40 hc h10 (fun _ => z) hy hn)
  refine y_dy hc hi (br_f (by decide) (br_f (nI_pos ht) (pk_le t 10 (fun h10 => ?_) (fun h10 => hn (fun y => by have := y.1; omega)))))
  exact pk_eq t 1 (fun h1 => t30 (Or.inl h1) h10) (fun h1 => pk_eq t 2 (fun h2' => t30 (Or.inr h2') h10) (fun h2' => y_tk40 hc h10 (by omega) hy hn))
theorem y_tokb {post : Int32 → SY → Prop} {i : Nat} {v2 : Int32} (hc : c ≤ 4) (hi : i < c) (h : v2 < 0) (hp : post (-1) ((nI c), (na pc), (na tc), (na tk), (na yn), (na dn), (na gd), (na nb), (ny ys))) : wpY_token post ((nI c), (na pc), (na tc), (na tk), (na yn), (na dn), (na gd), (na nb), (ny ys)) (nI i) v2 := by
  unfold wpY_token
  exact y_dy hc hi (br_f (by decide) (br_t h hp))
theorem y_toku {post : Int32 → SY → Prop} {v1 v2 : Int32} (h : v1 < 0 ∨ nI c ≤ v1) (hp : post (-1) ((nI c), (na pc), (na tc), (na tk), (na yn), (na dn), (na gd), (na nb), (ny ys))) : wpY_token post ((nI c), (na pc), (na tc), (na tk), (na yn), (na dn), (na gd), (na nb), (ny ys)) v1 v2 := by
  unfold wpY_token
  exact y_dn h (br_t rfl hp)
end
theorem i_vc_token {k : Nat} {u : SX} {v : SY} (I : i_Rel k u v) (hk : k + 4 ≤ 2048) (v1 : Int32) (v2 : Int32) : wpX_token (fun r u' => wpY_token (fun r' v' => r' = r ∧ i_Rel (k + 4) u' v') v v1 v2) u v1 v2 := by
  obtain ⟨c, w, st, pc, tc, tk, fc, fe, nt, sk, sc, cc, gs, stk, yn, dn, gd, nb, ys, rfl, rfl, R, h2, h3, h4, h5⟩ := I
  have hc := R.1
  unfold wpX_token
  rcases pk_ix v1 (n := c) (by omega) with h | h | ⟨i, hi, rfl⟩
  · exact x_dn (Or.inl h) (br_t rfl (y_toku (Or.inl h) ⟨rfl, r_mk R h2 h3 h4 h5⟩))
  · exact x_dn (Or.inr h) (br_t rfl (y_toku (Or.inr h) ⟨rfl, r_mk R h2 h3 h4 h5⟩))
  · refine x_dy hc hi (br_f (by decide) ?_)
    have hs := R.2.2.2.2.1 i
    by_cases h0 : v2 < 0
    · exact x_mayb h0 (br_t rfl (y_tokb hc hi h0 ⟨rfl, r_mk R h2 h3 h4 h5⟩))
    · obtain ⟨t, ht, rfl⟩ := nI_of h0
      refine x_may hc hi R.2.1 (fun hm => br_f (by decide) ⟨pk_in i 4 (by omega), ?_⟩) (fun hm => br_t rfl (y_tok hc hi R.2.1 ht (fun z => absurd z hm) (fun _ => ⟨rfl, r_mk R h2 h3 h4 h5⟩))) ht
      rw [na_i i]
      refine pk_lt (tc i) 20 (fun h20 => ⟨pk_in i 4 (by omega), pk_in (i * 20 + tc i) 80 (by omega) (kj_ix20 i _), nm_r (na_upd (i * 20 + tc i) t (kj_ix20 i _) rfl) ⟨pk_in i 4 (by omega), pk_in i 4 (by omega), nm_r (na_upd i (tc i + 1) rfl (nI_1 _)) ?_⟩⟩) (fun h20 => y_tok hc hi R.2.1 ht (fun _ => ⟨pk_in i 4 (by omega), ?_⟩) (fun z => absurd hm z))
      · have R' := RQ_tok R hi h20 hm
        refine x_ff (by omega) R'.2.2.1 (R'.2.2.2.2.1 i) ⟨pk_in i 4 (by omega), y_tok hc hi R.2.1 ht (fun _ => ⟨pk_in i 4 (by omega), ?_⟩) (fun z => absurd hm z)⟩
        rw [na_i i, na_i i, un_s]
        refine br_t (nI_lt (b := 20) h20 (by omega)) ⟨pk_in i 4 (by omega), pk_in (i * 20 + tc i) 80 (by omega) (kj_ix20' i _), nm_r (na_upd (i * 20 + tc i) t (kj_ix20' i _) rfl) ⟨pk_in i 4 (by omega), pk_in i 4 (by omega), nm_r (na_upd i (tc i + 1) rfl (nI_1 _)) (y_fl hc hi R'.2.2.1 (R'.2.2.2.2.1 i) ⟨rfl, r_mk R' h2 h3 h4 (Or.inl rfl)⟩)⟩⟩
      · rw [na_i i]
        exact br_f (nI_nlt (b := 20) h20 (by omega)) ⟨rfl, r_mk R h2 h3 h4 h5⟩
section
variable {k c w : Nat} {st : Int32} {pc tc tk fc fe nt sk sc cc gs stk yn dn gd nb ys : Nat → Nat}
theorem y_bku {post : Int32 → SY → Prop} {v1 : Int32} (h : v1 < 0 ∨ nI c ≤ v1) (hp : post (-1) ((nI c), (na pc), (na tc), (na tk), (na yn), (na dn), (na gd), (na nb), (ny ys))) : wpY_back post ((nI c), (na pc), (na tc), (na tk), (na yn), (na dn), (na gd), (na nb), (ny ys)) v1 := by
  unfold wpY_back
  exact y_dn h (br_t rfl hp)
theorem y_bk0 {post : Int32 → SY → Prop} {i : Nat} (hc : c ≤ 4) (hi : i < c) (h0 : tc i = 0) (hp : post (-1) ((nI c), (na pc), (na tc), (na tk), (na yn), (na dn), (na gd), (na nb), (ny ys))) : wpY_back post ((nI c), (na pc), (na tc), (na tk), (na yn), (na dn), (na gd), (na nb), (ny ys)) (nI i) := by
  unfold wpY_back
  exact y_dy hc hi (br_f (by decide) ⟨pk_in i 4 (by omega), br_t (by rw [na_i i, h0]; rfl) hp⟩)
theorem y_bk1 {post : Int32 → SY → Prop} {i : Nat} (hc : c ≤ 4) (hi : i < c) (hs : tc i ≤ 20) (h0 : ¬ tc i = 0) (hp : post (nI (tk (i * 20 + (tc i - 1)))) ((nI c), (na pc), (na (un tc i (tc i - 1))), (na tk), (na yn), (na dn), (na gd), (na nb), (ny ys))) : wpY_back post ((nI c), (na pc), (na tc), (na tk), (na yn), (na dn), (na gd), (na nb), (ny ys)) (nI i) := by
  have em : na tc (nI i).toNatClampNeg - 1 = nI (tc i - 1) := by rw [na_i i]; exact pk_sub (a := tc i) (b := 1) (by omega)
  have ex : 20 * nI i + na (un tc i (tc i - 1)) (nI i).toNatClampNeg = nI (i * 20 + (tc i - 1)) := by rw [na_i i, un_s, kj_ix20']
  unfold wpY_back
  refine y_dy hc hi (br_f (by decide) ⟨pk_in i 4 (by omega), br_f (by rw [na_i i]; exact nI_ne0 (by omega) (by omega)) ⟨pk_in i 4 (by omega), pk_in i 4 (by omega), nm_r (na_upd i (tc i - 1) rfl em) ⟨pk_in i 4 (by omega), pk_in _ 80 (by omega) ex, ?_⟩⟩⟩)
  rw [na_at _ ex]
  exact hp
end
theorem i_vc_back {k : Nat} {u : SX} {v : SY} (I : i_Rel k u v) (hk : k + 4 ≤ 2048) (v1 : Int32) : wpX_back (fun r u' => wpY_back (fun r' v' => r' = r ∧ i_Rel (k + 4) u' v') v v1) u v1 := by
  obtain ⟨c, w, st, pc, tc, tk, fc, fe, nt, sk, sc, cc, gs, stk, yn, dn, gd, nb, ys, rfl, rfl, R, h2, h3, h4, h5⟩ := I
  have hc := R.1
  unfold wpX_back
  rcases pk_ix v1 (n := c) (by omega) with h | h | ⟨i, hi, rfl⟩
  · exact x_dn (Or.inl h) (br_t rfl (y_bku (Or.inl h) ⟨rfl, r_mk R h2 h3 h4 h5⟩))
  · exact x_dn (Or.inr h) (br_t rfl (y_bku (Or.inr h) ⟨rfl, r_mk R h2 h3 h4 h5⟩))
  · have hs := R.2.2.2.2.1 i
    refine x_dy hc hi (br_f (by decide) ⟨pk_in i 4 (by omega), ?_⟩)
    rw [na_i i]
    refine pk_eq (tc i) 0 (fun h0 => y_bk0 hc hi h0 ⟨rfl, r_mk R h2 h3 h4 h5⟩) (fun h0 => ?_)
    have em : nI (tc i) - 1 = nI (tc i - 1) := pk_sub (a := tc i) (b := 1) (by omega)
    have ex : nI i * 20 + na (un tc i (tc i - 1)) (nI i).toNatClampNeg = nI (i * 20 + (tc i - 1)) := by rw [na_i i, un_s, kj_ix20]
    have R' := RQ_back R hi
    refine ⟨pk_in i 4 (by omega), pk_in i 4 (by omega), nm_r (na_upd i (tc i - 1) rfl em) (x_ff (by omega) R.2.2.1 (R'.2.2.2.2.1 i) ⟨pk_in i 4 (by omega), pk_in _ 80 (by omega) ex, y_bk1 hc hi hs h0 ⟨?_, r_mk R' h2 h3 h4 (Or.inl rfl)⟩⟩)⟩
    rw [na_at _ ex]
