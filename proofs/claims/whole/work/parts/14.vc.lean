theorem i_vc_needs {k : Nat} {u : SX} {v : SY} (I : i_Rel k u v) (hk : k + 4 ≤ 2048) (v1 : Int32) (v2 : Int32) : wpX_needs (fun r u' => wpY_needs (fun r' v' => r' = r ∧ i_Rel (k + 4) u' v') v v1 v2) u v1 v2 := by
  obtain ⟨c, w, st, pc, tc, tk, fc, fe, nt, sk, sc, cc, gs, stk, yn, dn, gd, nb, ys, rfl, rfl, R, h2, h3, h4, h5⟩ := I
  have hc := R.1
  have D := RQ_D R
  have yu : ∀ {post : Int32 → SY → Prop}, (v1 < 0 ∨ nI c ≤ v1) → post 0 ((nI c), (na pc), (na tc), (na tk), (na yn), (na dn), (na gd), (na nb), (ny ys)) → wpY_needs post ((nI c), (na pc), (na tc), (na tk), (na yn), (na dn), (na gd), (na nb), (ny ys)) v1 v2 := fun h hp => by
    unfold wpY_needs
    exact y_dn h (br_t rfl hp)
  have yu2 : ∀ {post : Int32 → SY → Prop} {i : Nat}, i < c → (v2 < 0 ∨ nI c ≤ v2) → post 0 ((nI c), (na pc), (na tc), (na tk), (na yn), (na dn), (na gd), (na nb), (ny ys)) → wpY_needs post ((nI c), (na pc), (na tc), (na tk), (na yn), (na dn), (na gd), (na nb), (ny ys)) (nI i) v2 := fun hi h hp => by
    unfold wpY_needs
    exact y_dy hc hi (br_f (by decide) (y_dn h (br_t rfl hp)))
  unfold wpX_needs
  rcases (show (v1 < 0 ∨ nI c ≤ v1) ∨ ∃ j : Nat, j < c ∧ v1 = nI j by rcases pk_ix v1 (n := c) (by omega) with h | h | h; exact Or.inl (Or.inl h); exact Or.inl (Or.inr h); exact Or.inr h) with h | ⟨i, hi, rfl⟩
  · exact x_dn h (br_t rfl (yu h ⟨rfl, r_mk R h2 h3 h4 h5⟩))
  · refine x_dy hc hi (br_f (by decide) ?_)
    rcases (show (v2 < 0 ∨ nI c ≤ v2) ∨ ∃ j : Nat, j < c ∧ v2 = nI j by rcases pk_ix v2 (n := c) (by omega) with h | h | h; exact Or.inl (Or.inl h); exact Or.inl (Or.inr h); exact Or.inr h) with h | ⟨j, hj, rfl⟩
    · exact x_dn h (br_t rfl (yu2 hi h ⟨rfl, r_mk R h2 h3 h4 h5⟩))
    · refine x_dy hc hj (br_f (by decide) (x_st D h2 h3 h5 (fun w' nt' sk' sc' cc' gs' stk' hX => ⟨pk_in i 4 (by omega), ?_⟩)))
      have q := NN_q D.2.2.2.2.2.2
      have hb := q.1 i
      rw [na_i i, hX.1 i hi]
      have yw : ∀ {post : Int32 → SY → Prop}, (∀ yn', ((NN c tk fe i).testBit j = true → post 1 ((nI c), (na pc), (na tc), (na tk), (na yn'), (na dn), (na gd), (na nb), (ny ys))) ∧ (¬ (NN c tk fe i).testBit j = true → post 0 ((nI c), (na pc), (na tc), (na tk), (na yn'), (na dn), (na gd), (na nb), (ny ys)))) → wpY_needs post ((nI c), (na pc), (na tc), (na tk), (na yn), (na dn), (na gd), (na nb), (ny ys)) (nI i) (nI j) := fun hp => by
        unfold wpY_needs
        refine y_dy hc hi (br_f (by decide) (y_dy hc hj (br_f (by decide) (y_fn D (fun yn' hyn => ⟨pk_in i 4 (by omega), ?_⟩)))))
        rw [na_i i, hyn i (by omega)]
        exact bj_1 (by omega) (by omega) (hp yn').1 (hp yn').2
      refine x_ho (by omega) (by omega) (fun hbt => ⟨nb_1, yw (fun yn' => ⟨fun _ => ⟨rfl, ?_⟩, fun z => absurd hbt z⟩)⟩) (fun hbt => ⟨nb_0, yw (fun yn' => ⟨fun z => absurd z hbt, fun _ => ⟨rfl, ?_⟩⟩)⟩)
      · exact r_mk R hX.2.2.1 hX.2.2.2.1 h4 (Or.inr ⟨rfl, hX⟩)
      · exact r_mk R hX.2.2.1 hX.2.2.2.1 h4 (Or.inr ⟨rfl, hX⟩)
theorem i_vc_group {k : Nat} {u : SX} {v : SY} (I : i_Rel k u v) (hk : k + 4 ≤ 2048) (v1 : Int32) : wpX_group (fun r u' => wpY_group (fun r' v' => r' = r ∧ i_Rel (k + 4) u' v') v v1) u v1 := by
  obtain ⟨c, w, st, pc, tc, tk, fc, fe, nt, sk, sc, cc, gs, stk, yn, dn, gd, nb, ys, rfl, rfl, R, h2, h3, h4, h5⟩ := I
  have hc := R.1
  have D := RQ_D R
  have yu : ∀ {post : Int32 → SY → Prop}, (v1 < 0 ∨ nI c ≤ v1) → post (-1) ((nI c), (na pc), (na tc), (na tk), (na yn), (na dn), (na gd), (na nb), (ny ys)) → wpY_group post ((nI c), (na pc), (na tc), (na tk), (na yn), (na dn), (na gd), (na nb), (ny ys)) v1 := fun h hp => by
    unfold wpY_group
    exact y_dn h (br_t rfl hp)
  unfold wpX_group
  rcases (show (v1 < 0 ∨ nI c ≤ v1) ∨ ∃ j : Nat, j < c ∧ v1 = nI j by rcases pk_ix v1 (n := c) (by omega) with h | h | h; exact Or.inl (Or.inl h); exact Or.inl (Or.inr h); exact Or.inr h) with h | ⟨i, hi, rfl⟩
  · exact x_dn h (br_t rfl (yu h ⟨rfl, r_mk R h2 h3 h4 h5⟩))
  · have q := NN_q D.2.2.2.2.2.2
    refine x_dy hc hi (br_f (by decide) (x_st D h2 h3 h5 (fun w' nt' sk' sc' cc' gs' stk' hX => x_mw hc hi q hX.1 ⟨i + 1, ?_⟩)))
    refine x_gs (gS_lt _ i (by omega)) (by omega) i 0 (by omega) ?_
    unfold wpY_group
    exact y_dy hc hi (br_f (by decide) (y_fn D (fun yn' hyn => y_go (by omega) q.1 hyn ⟨i + 1, y_gs (gS_lt _ i (by omega)) (by omega) (gS_self _ q.1 i) i 0 (by omega) ⟨rfl, r_mk R hX.2.2.1 hX.2.2.2.1 h4 (Or.inr ⟨rfl, hX⟩)⟩⟩)))
theorem ix_c (v : Int32) {n : Nat} (hn : n < 2 ^ 31) : (v < 0 ∨ nI n ≤ v) ∨ ∃ j : Nat, j < n ∧ v = nI j := by
  rcases pk_ix v hn with h | h | h
  · exact Or.inl (Or.inl h)
  · exact Or.inl (Or.inr h)
  · exact Or.inr h
theorem XD_w {c : Nat} {pc tc tk fe nt sk sc cc : Nat → Nat} {w : Nat} (D : DQ c pc tc tk fe) (h : XD c pc tk fe w nt sk sc cc) : w < 16 := by
  rw [h.2.1]
  exact (PI_R D.1 (NN_q D.2.2.2.2.2.2) 4).2.1
theorem i_vc_well {k : Nat} {u : SX} {v : SY} (I : i_Rel k u v) (hk : k + 4 ≤ 2048) (v1 : Int32) : wpX_well (fun r u' => wpY_well (fun r' v' => r' = r ∧ i_Rel (k + 4) u' v') v v1) u v1 := by
  obtain ⟨c, w, st, pc, tc, tk, fc, fe, nt, sk, sc, cc, gs, stk, yn, dn, gd, nb, ys, rfl, rfl, R, h2, h3, h4, h5⟩ := I
  have hc := R.1
  have D := RQ_D R
  unfold wpX_well
  rcases ix_c v1 (n := c) (by omega) with h | ⟨i, hi, rfl⟩
  · exact x_dn h (br_t rfl (y_wu D h4 h (fun yn' dn' gd' nb' ys' hnb => ⟨rfl, r_mk R h2 h3 hnb h5⟩)))
  · refine x_dy hc hi (br_f (by decide) (x_st D h2 h3 h5 (fun w' nt' sk' sc' cc' gs' stk' hX => ?_)))
    have hw := XD_w D hX
    refine x_ho (by omega) (by omega) (fun hb => ⟨nb_1, y_w D h4 hi (fun yn' dn' gd' nb' ys' _ hY => ⟨fun _ => ⟨rfl, ?_⟩, fun z => absurd (hX.2.1 ▸ hb) z⟩)⟩) (fun hb => ⟨nb_0, y_w D h4 hi (fun yn' dn' gd' nb' ys' _ hY => ⟨fun z => absurd (hX.2.1.symm ▸ z) hb, fun _ => ⟨rfl, ?_⟩⟩)⟩)
    · exact r_mk R hX.2.2.1 hX.2.2.2.1 hY.2.2.1 (Or.inr ⟨rfl, hX⟩)
    · exact r_mk R hX.2.2.1 hX.2.2.2.1 hY.2.2.1 (Or.inr ⟨rfl, hX⟩)
theorem i_vc_kind {k : Nat} {u : SX} {v : SY} (I : i_Rel k u v) (hk : k + 4 ≤ 2048) (v1 : Int32) (v2 : Int32) : wpX_kind (fun r u' => wpY_kind (fun r' v' => r' = r ∧ i_Rel (k + 4) u' v') v v1 v2) u v1 v2 := by
  obtain ⟨c, w, st, pc, tc, tk, fc, fe, nt, sk, sc, cc, gs, stk, yn, dn, gd, nb, ys, rfl, rfl, R, h2, h3, h4, h5⟩ := I
  have hc := R.1
  have D := RQ_D R
  unfold wpX_kind
  rcases ix_c v1 (n := c) (by omega) with h | ⟨i, hi, rfl⟩
  · refine x_hpu h (br_t rfl ?_)
    unfold wpY_kind
    exact y_wu D h4 h (fun yn' dn' gd' nb' ys' hnb => br_t rfl ⟨rfl, r_mk R h2 h3 hnb h5⟩)
  · have hp2 := R.2.1 i
    rcases ix_c v2 (n := pc i) (by omega) with h | ⟨a, ha, rfl⟩
    · refine x_hpn hc hi h (br_t rfl ?_)
      unfold wpY_kind
      refine y_w D h4 hi (fun yn' dn' gd' nb' ys' _ hY => ⟨fun _ => br_f (by decide) ?_, fun _ => br_t rfl ⟨rfl, r_mk R h2 h3 hY.2.2.1 h5⟩⟩)
      by_cases h0 : v2 < 0
      · exact br_t h0 ⟨rfl, r_mk R h2 h3 hY.2.2.1 h5⟩
      · refine br_f h0 ⟨pk_in i 4 (by omega), ?_⟩
        rw [na_i i]
        exact br_f (Int32.not_lt.mpr (h.resolve_left h0)) ⟨rfl, r_mk R h2 h3 hY.2.2.1 h5⟩
    · refine x_hpy hc hi R.2.1 ha (br_f (by decide) (x_st D h2 h3 h5 (fun w' nt' sk' sc' cc' gs' stk' hX => ?_)))
      have hw := XD_w D hX
      have e1 := kj_ix2 i a
      have e2 := kj_ix2' i a
      have rr : ∀ {yn' dn' gd' nb' ys' : Nat → Nat}, (∀ q, nb' q < 4) → i_Rel (k + 4) ((nI c), (nI (sP pc c)), 0, (nI w'), (na pc), (na tc), (na tk), (na fc), (na fe), (na nt'), (na sk'), (na sc'), (na cc'), (na gs'), (na stk')) ((nI c), (na pc), (na tc), (na tk), (na yn'), (na dn'), (na gd'), (na nb'), (ny ys')) := fun hnb => r_mk R hX.2.2.1 hX.2.2.2.1 hnb (Or.inr ⟨rfl, hX⟩)
      refine x_ho (by omega) (by omega) (fun hb => br_f (by decide) ⟨pk_in (i * 2 + a) 8 (by omega) e1, ?_⟩) (fun hb => br_t rfl ?_)
      · rw [na_at _ e1]
        unfold wpY_kind
        have hbW := hb
        rw [hX.2.1] at hbW
        refine y_w D h4 hi (fun yn' dn' gd' nb' ys' _ hY => ⟨fun _ => br_f (by decide) (br_f (nI_pos (by omega)) ⟨pk_in i 4 (by omega), ?_⟩), fun z => absurd hbW z⟩)
        rw [na_i i]
        refine br_t (nI_lt ha (by omega)) ⟨pk_in (i * 2 + a) 8 (by omega) e2, ?_, rr hY.2.2.1⟩
        rw [na_at _ e2, hY.2.2.2 i a hbW ha, hX.2.2.2.2.1 i a hbW ha]
      · unfold wpY_kind
        exact y_w D h4 hi (fun yn' dn' gd' nb' ys' _ hY => ⟨fun z => absurd (hX.2.1.symm ▸ z) hb, fun _ => br_t rfl ⟨rfl, rr hY.2.2.1⟩⟩)
theorem i_vc_could {k : Nat} {u : SX} {v : SY} (I : i_Rel k u v) (hk : k + 4 ≤ 2048) (v1 : Int32) (v2 : Int32) (v3 : Int32) : wpX_could (fun r u' => wpY_could (fun r' v' => r' = r ∧ i_Rel (k + 4) u' v') v v1 v2 v3) u v1 v2 v3 := by
  obtain ⟨c, w, st, pc, tc, tk, fc, fe, nt, sk, sc, cc, gs, stk, yn, dn, gd, nb, ys, rfl, rfl, R, h2, h3, h4, h5⟩ := I
  have hc := R.1
  have D := RQ_D R
  have q := NN_q D.2.2.2.2.2.2
  unfold wpX_could
  rcases ix_c v1 (n := c) (by omega) with h | ⟨i, hi, rfl⟩
  · refine x_hpu h (br_t rfl ?_)
    unfold wpY_could
    exact y_wu D h4 h (fun yn' dn' gd' nb' ys' hnb => br_t rfl ⟨rfl, r_mk R h2 h3 hnb h5⟩)
  · have hp2 := R.2.1 i
    rcases ix_c v2 (n := pc i) (by omega) with h | ⟨a, ha, rfl⟩
    · refine x_hpn hc hi h (br_t rfl ?_)
      unfold wpY_could
      refine y_w D h4 hi (fun yn' dn' gd' nb' ys' _ hY => ⟨fun _ => br_f (by decide) ?_, fun _ => br_t rfl ⟨rfl, r_mk R h2 h3 hY.2.2.1 h5⟩⟩)
      by_cases h0 : v2 < 0
      · exact br_t h0 ⟨rfl, r_mk R h2 h3 hY.2.2.1 h5⟩
      · refine br_f h0 ⟨pk_in i 4 (by omega), ?_⟩
        rw [na_i i]
        exact br_t (h.resolve_left h0) ⟨rfl, r_mk R h2 h3 hY.2.2.1 h5⟩
    · refine x_hpy hc hi R.2.1 ha (br_f (by decide) ?_)
      have yout : ∀ {post : Int32 → SY → Prop} {W : Prop}, (v3 < 0 ∨ ¬ v3 ≤ 3) → (∀ yn' dn' gd' nb' ys', (∀ q, nb' q < 4) → post 0 ((nI c), (na pc), (na tc), (na tk), (na yn'), (na dn'), (na gd'), (na nb'), (ny ys'))) → wpY_could post ((nI c), (na pc), (na tc), (na tk), (na yn), (na dn), (na gd), (na nb), (ny ys)) (nI i) (nI a) v3 := fun h3' hp => by
        unfold wpY_could
        refine y_w D h4 hi (fun yn' dn' gd' nb' ys' _ hY => ⟨fun _ => br_f (by decide) (br_f (nI_pos (by omega)) ⟨pk_in i 4 (by omega), ?_⟩), fun _ => br_t rfl (hp _ _ _ _ _ hY.2.2.1)⟩)
        rw [na_i i]
        refine br_f (nI_ge ha (by omega)) ?_
        by_cases h0 : v3 < 0
        · exact br_t h0 (hp _ _ _ _ _ hY.2.2.1)
        · exact br_f h0 (br_f (h3'.resolve_left h0) (hp _ _ _ _ _ hY.2.2.1))
      by_cases h0 : v3 < 0
      · exact br_t h0 (yout (W := True) (Or.inl h0) (fun yn' dn' gd' nb' ys' hnb => ⟨rfl, r_mk R h2 h3 hnb h5⟩))
      · obtain ⟨kk, hkk, rfl⟩ := nI_of h0
        refine br_f h0 (pk_lt kk 4 (fun h4k => x_st D h2 h3 h5 (fun w' nt' sk' sc' cc' gs' stk' hX => ?_)) (fun h4k => yout (W := True) (Or.inr (nI_ge (a := 3) h4k hkk)) (fun yn' dn' gd' nb' ys' hnb => ⟨rfl, r_mk R h2 h3 hnb h5⟩)))
        have hw := XD_w D hX
        have e1 := kj_ix2 i a
        have rr : ∀ {yn' dn' gd' nb' ys' : Nat → Nat}, (∀ q, nb' q < 4) → i_Rel (k + 4) ((nI c), (nI (sP pc c)), 0, (nI w'), (na pc), (na tc), (na tk), (na fc), (na fe), (na nt'), (na sk'), (na sc'), (na cc'), (na gs'), (na stk')) ((nI c), (na pc), (na tc), (na tk), (na yn'), (na dn'), (na gd'), (na nb'), (ny ys')) := fun hnb => r_mk R hX.2.2.1 hX.2.2.2.1 hnb (Or.inr ⟨rfl, hX⟩)
        refine x_ho (by omega) (by omega) (fun hb => br_f (by decide) ⟨pk_in (i * 2 + a) 8 (by omega) e1, ?_⟩) (fun hb => br_t rfl ?_)
        · rw [na_at _ e1]
          have hbW := hb
          rw [hX.2.1] at hbW
          have P := PI_R hc q (pc := pc) 4
          obtain ⟨s1, s2⟩ := hX.2.2.2.2.2.2 i a hbW ha
          have s3 := s2 kk h4k
          have hgS := gS_lt (NN c tk fe) i (by omega)
          have yw : ∀ {post : Int32 → SY → Prop}, (∀ yn' dn' gd' nb' ys', (∀ q, nb' q < 4) → ((sc' (i * 2 + a)).testBit kk = true → post 1 ((nI c), (na pc), (na tc), (na tk), (na yn'), (na dn'), (na gd'), (na nb'), (ny ys'))) ∧ (¬ (sc' (i * 2 + a)).testBit kk = true → post 0 ((nI c), (na pc), (na tc), (na tk), (na yn'), (na dn'), (na gd'), (na nb'), (ny ys')))) → wpY_could post ((nI c), (na pc), (na tc), (na tk), (na yn), (na dn), (na gd), (na nb), (ny ys)) (nI i) (nI a) (nI kk) := fun hp => by
            unfold wpY_could
            refine y_w D h4 hi (fun yn' dn' gd' nb' ys' hyn hY => ⟨fun _ => br_f (by decide) (br_f (nI_pos (by omega)) ⟨pk_in i 4 (by omega), ?_⟩), fun z => absurd hbW z⟩)
            rw [na_i i]
            have cg : Cd pc tk fe (gS (NN c tk fe) i) nb' (i * 2 + a) kk ↔ (sc' (i * 2 + a)).testBit kk = true := by
              rw [s3]
              refine Cd_cg hc D.2.1 q D.2.2.2.2.2.2 hi (W := (pR c (NN c tk fe) pc tk fe 4).2.1) (fun x hx hb' => ?_) hY.2.2.2 ha
              rw [sb_bit (q.1 i), Bool.and_eq_true] at hb'
              exact P.2.2.2.2.2.1 i x hbW hb'.1
            refine br_f (nI_ge ha (by omega)) (br_f h0 (br_t (nI_le (b := 3) (by omega) (by omega)) (y_go (by omega) q.1 hyn ⟨4097, y_cd46 D hgS (fun j hj => gS_c q hi hj) hY.2.2.1 (by omega) (by omega) h4k (fun nb2 s hnb hC => (hp yn' dn' gd' nb2 s hnb).1 (cg.mp hC)) (fun nb2 s hnb hC => (hp yn' dn' gd' nb2 s hnb).2 (fun z => hC (cg.mpr z))) 4096 0 nb' ys' (by omega) (fun q => Or.inr rfl) hY.2.2.1 (fun j hj => absurd hj (Nat.not_lt_zero _))⟩)))
          refine x_ho (by omega) (by omega) (fun hbt => br_f (by decide) (yw (fun yn' dn' gd' nb' ys' hnb => ⟨fun _ => ⟨rfl, rr hnb⟩, fun z => absurd hbt z⟩))) (fun hbt => br_t rfl (yw (fun yn' dn' gd' nb' ys' hnb => ⟨fun z => absurd z hbt, fun _ => ⟨rfl, rr hnb⟩⟩)))
        · unfold wpY_could
          exact y_w D h4 hi (fun yn' dn' gd' nb' ys' _ hY => ⟨fun z => absurd (hX.2.1.symm ▸ z) hb, fun _ => br_t rfl ⟨rfl, rr hY.2.2.1⟩⟩)
theorem i_vc_applied {k : Nat} {u : SX} {v : SY} (I : i_Rel k u v) (hk : k + 4 ≤ 2048) (v1 : Int32) (v2 : Int32) : wpX_applied (fun r u' => wpY_applied (fun r' v' => r' = r ∧ i_Rel (k + 4) u' v') v v1 v2) u v1 v2 := by
  obtain ⟨c, w, st, pc, tc, tk, fc, fe, nt, sk, sc, cc, gs, stk, yn, dn, gd, nb, ys, rfl, rfl, R, h2, h3, h4, h5⟩ := I
  have hc := R.1
  have D := RQ_D R
  unfold wpX_applied
  refine x_st D h2 h3 h5 (fun w' nt' sk' sc' cc' gs' stk' hX => ?_)
  have hw := XD_w D hX
  have rr : ∀ {yn' dn' gd' nb' ys' : Nat → Nat}, (∀ q, nb' q < 4) → i_Rel (k + 4) ((nI c), (nI (sP pc c)), 0, (nI w'), (na pc), (na tc), (na tk), (na fc), (na fe), (na nt'), (na sk'), (na sc'), (na cc'), (na gs'), (na stk')) ((nI c), (na pc), (na tc), (na tk), (na yn'), (na dn'), (na gd'), (na nb'), (ny ys')) := fun hnb => r_mk R hX.2.2.1 hX.2.2.2.1 hnb (Or.inr ⟨rfl, hX⟩)
  obtain ⟨x1, x2, x3, x4, x5⟩ := hX.2.2
  rw [← hX.2.1] at x3 x4
  have bad : ∀ {x : Int32}, x = -1 → ¬ (HV w' v1 ∧ HV w' v2) → wpY_applied (fun r' v' => r' = x ∧ i_Rel (k + 4) ((nI c), (nI (sP pc c)), 0, (nI w'), (na pc), (na tc), (na tk), (na fc), (na fe), (na nt'), (na sk'), (na sc'), (na cc'), (na gs'), (na stk')) v') ((nI c), (na pc), (na tc), (na tk), (na yn), (na dn), (na gd), (na nb), (ny ys)) v1 v2 := fun hx hno => by
    exact y_al D h4 hX.2.1 (fun t s yn' dn' gd' nb' ys' ht hs e1 e2 ft fs hY => absurd ⟨⟨t, ht, e1, ft⟩, ⟨s, hs, e2, fs⟩⟩ hno) (fun yn' dn' gd' nb' ys' hnb _ => ⟨hx.symm, rr hnb⟩)
  refine x_hk hw (fun hv1 => br_f (by decide) (x_hk hw (fun hv2 => br_f (by decide) ?_) (fun hv2 => br_t rfl (bad rfl (fun z => hv2 z.2))))) (fun hv1 => br_t rfl (bad rfl (fun z => hv1 z.1)))
  have hpc := D.2.1
  have ckc : ∀ t, t < 8 → (t < 4 ∨ w'.testBit (t - 4) = true) → cc' t = kc pc sk' t := by
    intro t ht ft
    unfold kc
    by_cases h : t < 4
    · rw [if_pos h]; exact x2 t h
    · rw [if_neg h, ← x4 (t - 4) (ft.resolve_left h), show 4 + (t - 4) = t by omega]
  have kkc : ∀ {nb' dn' gd' : Nat → Nat}, YI c pc (pR c (NN c tk fe) pc tk fe 4) dn' gd' nb' → ∀ t, t < 8 → (t < 4 ∨ w'.testBit (t - 4) = true) → kc pc nb' t = kc pc sk' t := by
    intro nb' dn' gd' hY t ht ft
    unfold kc
    by_cases h : t < 4
    · rw [if_pos h, if_pos h]
    · rw [if_neg h, if_neg h]
      have hb := ft.resolve_left h
      have hb' := hb
      rw [hX.2.1] at hb'
      generalize t - 4 = j at *
      have eq : ∀ a, a < pc j → nb' (j * 2 + a) = sk' (j * 2 + a) := fun a ha => by rw [hY.2.2.2 j a hb' ha, x3 j a hb ha]
      have := hpc j
      unfold co
      split
      · rfl
      · next h0 =>
        have e0 : nb' (j * 2) = sk' (j * 2) := eq 0 (by omega)
        split
        · rw [e0]
        · next h1 => rw [e0, eq 1 (by omega)]
  obtain ⟨t, ht, rfl, ft⟩ := hv1
  obtain ⟨s, hs, rfl, fs⟩ := hv2
  have v1 := kc_vc (pc := pc) x1 t
  have v2 := kc_vc (pc := pc) x1 s
  have b2 := v2.1
  have v3 := ap_vc (kc pc sk' s) v1
  refine ⟨pk_in t 8 ht, pk_in s 8 hs, ?_⟩
  rw [na_i t, na_i s, ckc t ht ft, ckc s hs fs]
  refine x_ap v1 (by omega) x2 (x_al v3.1 x2 (y_al D h4 hX.2.1 (fun t' s' yn' dn' gd' nb' ys' ht' hs' e1 e2 ft' fs' hY => ⟨?_, rr hY.2.2.1⟩) (fun yn' dn' gd' nb' ys' hnb hno => absurd ⟨⟨t, ht, rfl, ft⟩, ⟨s, hs, rfl, fs⟩⟩ hno)))
  rw [nI_eq (by omega) (by omega)] at e1 e2
  subst e1 e2
  rw [kkc hY t ht ft, kkc hY s hs fs]
