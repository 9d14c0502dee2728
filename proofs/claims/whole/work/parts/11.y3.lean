section
variable {c : Nat} {pc tc tk yn dn gd nb ys : Nat → Nat}
def mk (S v : Nat) (f : Nat → Nat) (m : Nat) : Nat → Nat := fun x => if x < m ∧ S.testBit x = true then v else f x
theorem mk_y {S v m : Nat} {f : Nat → Nat} (h : S.testBit m = true) : un (mk S v f m) m v = mk S v f (m + 1) := by
  funext x
  unfold un mk
  by_cases e : x = m
  · subst e; rw [if_pos rfl, if_pos ⟨by omega, h⟩]
  · rw [if_neg e]
    by_cases h1 : x < m ∧ S.testBit x = true
    · rw [if_pos h1, if_pos ⟨by omega, h1.2⟩]
    · rw [if_neg h1, if_neg (fun z => h1 ⟨by omega, z.2⟩)]
theorem mk_n {S v m : Nat} {f : Nat → Nat} (h : ¬ S.testBit m = true) : mk S v f m = mk S v f (m + 1) := by
  funext x
  unfold mk
  by_cases h1 : x < m ∧ S.testBit x = true
  · rw [if_pos h1, if_pos ⟨by omega, h1.2⟩]
  · rw [if_neg h1, if_neg]
    rintro ⟨z1, z2⟩
    by_cases e : x = m
    · subst e; exact h z2
    · exact h1 ⟨by omega, z2⟩
theorem mk_0 {S v : Nat} {f : Nat → Nat} : mk S v f 0 = f := by
  funext x
  unfold mk
  rw [if_neg (fun z => absurd z.1 (by omega))]
theorem y_s72 {post : SY → Prop} {S v : Nat} (hS : S < 16) (hv : v = 0 ∨ v = 1) (hp : post ((nI c), (na pc), (na tc), (na tk), (na yn), (na (mk S 1 dn 4)), (na (mk S v gd 4)), (na nb), (ny ys))) : ∀ d m, m + d = 4 → wY_settle_72 post (nI S) (nI v) (nI c) (d + 1) (nI m) (na pc) (na tc) (na tk) (na yn) (na (mk S 1 dn m)) (na (mk S v gd m)) (na nb) (ny ys) := by
  have hnar : vp_nar .boolean (nI v) = nI v := by
    rcases hv with rfl | rfl
    · exact nar_0
    · exact nar_1
  intro d
  induction d with
  | zero =>
    intro m hm
    have hm : m = 4 := by omega
    subst hm
    exact br_t (nI_le (Nat.le_refl _) (by omega)) hp
  | succ d ih =>
    intro m hm
    have := ih (m + 1) (by omega)
    refine br_f (nI_ge (b := 4) (by omega) (by omega)) (bj_1 (by omega) (by omega) (fun hb => ⟨pk_in m 4 (by omega), nm_r (na_upd m 1 rfl nar_1) ⟨pk_in m 4 (by omega), nm_r (na_upd m v rfl hnar) (nm_r (nI_1 _) ?_)⟩⟩) (fun hb => nm_r (nI_1 _) ?_))
    · rw [mk_y hb, mk_y hb]; exact this
    · rw [mk_n hb, mk_n (v := v) hb]; exact this
theorem y_s72e {post : SY → Prop} {S v : Nat} (hS : S < 16) (hv : v = 0 ∨ v = 1) (hp : post ((nI c), (na pc), (na tc), (na tk), (na yn), (na (mk S 1 dn 4)), (na (mk S v gd 4)), (na nb), (ny ys))) : ∃ n72, wY_settle_72 post (nI S) (nI v) (nI c) n72 0 (na pc) (na tc) (na tk) (na yn) (na dn) (na gd) (na nb) (ny ys) := by
  have := y_s72 hS hv hp 4 0 (by omega)
  rw [mk_0, mk_0] at this
  exact ⟨5, this⟩
theorem y_s22 {post : SY → Prop} {S : Nat} {fe : Nat → Nat} (D : DQ c pc tc tk fe) (hS : S < 16) (hSc : ∀ j, S.testBit j = true → j < c) (hk : ∀ q, nb q < 4)
    (hy : ∀ s, ls (bb pc tk fe S nb) 4096 < 4096 → post ((nI c), (na pc), (na tc), (na tk), (na yn), (na (mk S 1 dn 4)), (na (mk S 1 gd 4)), (na (tG S pc (ls (bb pc tk fe S nb) 4096) nb)), (ny s)))
    (hn : ∀ nb' s, ¬ ls (bb pc tk fe S nb) 4096 < 4096 → (∀ q, (q < 8 ∧ iG S pc q = true) ∨ nb' q = nb q) → (∀ q, nb' q < 4) → post ((nI c), (na pc), (na tc), (na tk), (na yn), (na (mk S 1 dn 4)), (na (mk S 0 gd 4)), (na nb'), (ny s))) :
    ∀ d m nb' s, m + d = 4096 → (∀ q, (q < 8 ∧ iG S pc q = true) ∨ nb' q = nb q) → (∀ q, nb' q < 4) → (∀ j, j < m → ¬ bb pc tk fe S nb j = true) → wY_settle_22 post (nI S) 1 (d + 1) 0 (nI m) (nI c) (na pc) (na tc) (na tk) (na yn) (na dn) (na gd) (na nb') (ny s) := by
  intro d
  induction d with
  | zero =>
    intro m nb' s hm i1 i2 hl
    have hm : m = 4096 := by omega
    subst hm
    exact br_t (nI_le (Nat.le_refl _) (by omega)) (y_s72e (v := 0) hS (Or.inl rfl) (hn nb' s (ls_n hl) i1 i2))
  | succ d ih =>
    intro m nb' s hm i1 i2 hl
    have hb := bb_iff pc tk fe S nb m
    have nx : ¬ bb pc tk fe S nb m = true → ∀ j, j < m + 1 → ¬ bb pc tk fe S nb j = true := by
      intro z j hj
      by_cases e : j = m
      · rw [e]; exact z
      · exact hl j (by omega)
    refine br_f (nI_ge (b := 4096) (by omega) (by omega)) (br_f (by decide) (br_t rfl (y_ch hS D.2.1 (by omega) (fun hC => br_f (by decide) ?_) (fun hC => br_t rfl (nm_r (nI_1 _) ?_)))))
    · rw [tG_tG i1]
      refine y_ft D hS hSc (tG_lt hk) (fun s' => ⟨fun hf => br_f (by decide) (nm_r (nI_1 _) ?_), fun hf => br_t rfl (nm_r (nI_1 _) (ih (m + 1) _ s' (by omega) tG_o (tG_lt hk) (nx (fun z => hf (hb.mp z).2))))⟩)
      have hbm : bb pc tk fe S nb m = true := hb.mpr ⟨hC, hf⟩
      have el := ls_y (n := 4096) m (by omega) hbm hl
      have fin := hy s' (by rw [el]; omega)
      rw [el] at fin
      exact pk_le 4096 (m + 1) (fun _ => y_s72e (v := 1) hS (Or.inr rfl) fin) (fun _ => br_f (by decide) (br_f (by decide) (y_s72e (v := 1) hS (Or.inr rfl) fin)))
    · rw [tG_tG i1]
      exact ih (m + 1) _ s (by omega) tG_o (tG_lt hk) (nx (fun z => hC (hb.mp z).1))
/-- what the reference holds, when the settling stands at s -/
def YI (c : Nat) (pc : Nat → Nat) (s : Nat × Nat × (Nat → Nat)) (dn gd nb : Nat → Nat) : Prop :=
  (∀ j, j < 4 → dn j = if c ≤ j ∨ s.1.testBit j = true then 1 else 0) ∧ (∀ j, j < 4 → gd j = if s.2.1.testBit j = true then 1 else 0) ∧ (∀ q, nb q < 4) ∧ (∀ j a, s.2.1.testBit j = true → a < pc j → nb (j * 2 + a) = s.2.2 (j * 2 + a))
theorem mk_dn {c S D : Nat} {dn : Nat → Nat} (h : ∀ j, j < 4 → dn j = if c ≤ j ∨ D.testBit j = true then 1 else 0) : ∀ j, j < 4 → mk S 1 dn 4 j = if c ≤ j ∨ (D ||| S).testBit j = true then 1 else 0 := by
  intro j hj
  unfold mk
  by_cases hb : S.testBit j = true
  · rw [if_pos ⟨hj, hb⟩, if_pos (Or.inr ((or_bit _ _ _).mpr (Or.inr hb)))]
  · rw [if_neg (fun z => hb z.2), h j hj]
    by_cases hd : c ≤ j ∨ D.testBit j = true
    · rw [if_pos hd, if_pos (hd.imp_right (fun z => (or_bit _ _ _).mpr (Or.inl z)))]
    · rw [if_neg hd, if_neg (fun z => hd (z.imp_right (fun y => ((or_bit _ _ _).mp y).resolve_right hb)))]
theorem mk_g1 {S W : Nat} {gd : Nat → Nat} (h : ∀ j, j < 4 → gd j = if W.testBit j = true then 1 else 0) : ∀ j, j < 4 → mk S 1 gd 4 j = if (W ||| S).testBit j = true then 1 else 0 := by
  intro j hj
  unfold mk
  by_cases hb : S.testBit j = true
  · rw [if_pos ⟨hj, hb⟩, if_pos ((or_bit _ _ _).mpr (Or.inr hb))]
  · rw [if_neg (fun z => hb z.2), h j hj]
    by_cases hd : W.testBit j = true
    · rw [if_pos hd, if_pos ((or_bit _ _ _).mpr (Or.inl hd))]
    · rw [if_neg hd, if_neg (fun z => hd (((or_bit _ _ _).mp z).resolve_right hb))]
theorem mk_g0 {S W : Nat} {gd : Nat → Nat} (hd : ∀ j, W.testBit j = true → ¬ S.testBit j = true) (h : ∀ j, j < 4 → gd j = if W.testBit j = true then 1 else 0) : ∀ j, j < 4 → mk S 0 gd 4 j = if W.testBit j = true then 1 else 0 := by
  intro j hj
  unfold mk
  by_cases hb : S.testBit j = true
  · rw [if_pos ⟨hj, hb⟩, if_neg (fun z => hd j z hb)]
  · rw [if_neg (fun z => hb z.2), h j hj]
theorem y_sa52s {post : SY → Prop} {J : Int32 → Int32 → (Nat → Int32) → (Nat → Int32) → (Nat → Int32) → (Nat → Int32) → (Nat → Int32) → (Nat → Int32) → (Nat → Int32) → (Nat → Int32) → Prop} {r : Int32} {i n : Nat} {N fe : Nat → Nat} {s : Nat × Nat × (Nat → Nat)} (D : DQ c pc tc tk fe) (q : NQ c tk fe N) (hi : i < c) (hn : ∀ i, i < 4 → yn i = N i) (P : PI c N s) (Y : YI c pc s dn gd nb)
    (K : ∀ dn' gd' nb' ys', YI c pc (pS N pc tk fe i s) dn' gd' nb' → wY_settleAll_52 post J r n (nI (i + 1)) (nI c) (na pc) (na tc) (na tk) (na yn) (na dn') (na gd') (na nb') (ny ys')) :
    wY_settleAll_52 post J r (n + 1) (nI i) (nI c) (na pc) (na tc) (na tk) (na yn) (na dn) (na gd) (na nb) (ny ys) := by
  have hc4 := D.1
  obtain ⟨p1, p2, p3, p4, p5, p6, p7⟩ := P
  obtain ⟨y1, y2, y3, y4⟩ := Y
  have hgS := gS_lt N i (by omega)
  have hSc : ∀ j, (gS N i).testBit j = true → j < c := fun j hj => gS_c q hi hj
  obtain ⟨o1, o2⟩ := kj_sub _ (q.1 i) _ hgS
  have o3 : na yn (nI i).toNatClampNeg &&& (nI (gS N i) ^^^ (-1)) = nI (sb (N i) (gS N i)) := by rw [na_i i, hn i (by omega)]; exact o1
  have dn01 : ∀ j, j < 4 → dn j = 0 ∨ dn j = 1 := fun j hj => by rw [y1 j hj]; split <;> omega
  have gd01 : ∀ j, j < 4 → gd j = 0 ∨ gd j = 1 := fun j hj => by rw [y2 j hj]; split <;> omega
  have oc : ∀ j, (sb (N i) (gS N i)).testBit j = true → j < c := fun j hj => by
    rw [sb_bit (q.1 i), Bool.and_eq_true] at hj
    exact (q.2.1 i j hj.1).2
  have dn1 : ∀ j, j < c → (dn j = 1 ↔ s.1.testBit j = true) := by
    intro j hj
    rw [y1 j (by omega)]
    by_cases z : s.1.testBit j = true
    · rw [if_pos (Or.inr z)]; exact ⟨fun _ => z, fun _ => rfl⟩
    · rw [if_neg (fun y => y.elim (fun h => by omega) z)]; exact ⟨fun y => (nomatch y), fun y => absurd y z⟩
  have gd1 : ∀ j, j < c → (gd j = 1 ↔ s.2.1.testBit j = true) := by
    intro j hj
    rw [y2 j (by omega)]
    by_cases z : s.2.1.testBit j = true
    · rw [if_pos z]; exact ⟨fun _ => z, fun _ => rfl⟩
    · rw [if_neg z]; exact ⟨fun y => (nomatch y), fun y => absurd y z⟩
  refine br_f (nI_ge hi (by omega)) (y_go (by omega) q.1 hn ⟨pk_in i 4 (by omega), ?_⟩)
  rw [o3]
  have di := dn01 i (by omega)
  refine pk_eq (dn i) 0 (fun hd => ⟨pk_in i 4 (by omega), ?_⟩) (fun hd => nm_r (nI_1 _) ?_) (na_i i)
  · have hD : ¬ s.1.testBit i = true := fun z => by have := (dn1 i hi).mpr z; omega
    have disj : ∀ j, s.2.1.testBit j = true → ¬ (gS N i).testBit j = true := fun j hj hS => hD (p5 j i (p4 j hj) (gS_sym q.1 hS))
    refine y_ot o2 (Or.inl ⟨rfl, rfl⟩) dn01 (fun hr => br_f (by decide) ?_) (fun hr => br_t rfl (nm_r (nI_1 _) ?_))
    · have hd0 : sb (sb (N i) (gS N i)) s.1 = 0 := (sb_0 o2).mpr (fun j hj hb => (dn1 j (oc j hb)).mp (hr j hj hb))
      refine ⟨pk_in i 4 (by omega), ?_⟩
      rw [o3]
      refine y_ot o2 (Or.inr ⟨rfl, rfl⟩) gd01 (fun hr2 => ⟨4097, ?_⟩) (fun hr2 => ⟨1, br_f (nI_ge (a := 0) (b := 4096) (by omega) (by omega)) (br_t rfl (y_s72e (v := 0) hgS (Or.inl rfl) (nm_r (nI_1 _) ?_)))⟩)
      · have hW : ∀ j, j < 4 → (sb (N i) (gS N i)).testBit j = true → s.2.1.testBit j = true := fun j hj hb => (gd1 j (oc j hb)).mp (hr2 j hj hb)
        have hw0 : sb (sb (N i) (gS N i)) s.2.1 = 0 := (sb_0 o2).mpr hW
        have ebb := bb_cg hc4 D.2.1 q D.2.2.2.2.2.2 hi hW y4
        refine y_s22 D hgS hSc y3 (fun s' hl => nm_r (nI_1 _) ?_) (fun nb' s' hl i1 i2 => nm_r (nI_1 _) ?_) 4096 0 nb ys (by omega) (fun q => Or.inr rfl) y3 (fun j hj => absurd hj (Nat.not_lt_zero _))
        · rw [ebb] at hl ⊢
          have e : pS N pc tk fe i s = (s.1 ||| gS N i, s.2.1 ||| gS N i, tG (gS N i) pc (ls (bb pc tk fe (gS N i) s.2.2) 4096) s.2.2) := by
            unfold pS
            rw [if_neg hD, if_neg (fun z => z hd0), if_neg (fun z => z hw0), if_pos hl]
          rw [e] at K
          refine K _ _ _ _ ⟨mk_dn y1, mk_g1 y2, tG_lt y3, fun j a hj ha => ?_⟩
          dsimp only at hj ⊢
          have hpj := D.2.1 j
          rw [or_bit] at hj
          by_cases z : (gS N i).testBit j = true
          · have := hSc j z
            exact tG_in (by omega) ((iG_ix _ _ _ _ (by omega)).mpr ⟨z, ha⟩)
          · have hj := hj.resolve_right z
            rw [tG_out (fun y => z ((iG_ix _ _ _ _ (by omega)).mp y).1), tG_out (fun y => z ((iG_ix _ _ _ _ (by omega)).mp y).1)]
            exact y4 j a hj ha
        · rw [ebb] at hl
          have e : pS N pc tk fe i s = (s.1 ||| gS N i, s.2.1, s.2.2) := by
            unfold pS
            rw [if_neg hD, if_neg (fun z => z hd0), if_neg (fun z => z hw0), if_neg hl]
          rw [e] at K
          refine K _ _ _ _ ⟨mk_dn y1, mk_g0 disj y2, i2, fun j a hj ha => ?_⟩
          have hpj := D.2.1 j
          rw [(i1 _).resolve_left (fun y => disj j hj ((iG_ix _ _ _ _ (by omega)).mp y.2).1)]
          exact y4 j a hj ha
      · have hw0 : ¬ sb (sb (N i) (gS N i)) s.2.1 = 0 := fun z => hr2 (fun j hj hb => (gd1 j (oc j hb)).mpr ((sb_0 o2).mp z j hj hb))
        have e : pS N pc tk fe i s = (s.1 ||| gS N i, s.2.1, s.2.2) := by
          unfold pS
          rw [if_neg hD, if_neg (fun z => z hd0), if_pos hw0]
        rw [e] at K
        exact K _ _ _ _ ⟨mk_dn y1, mk_g0 disj y2, y3, y4⟩
    · have hd0 : ¬ sb (sb (N i) (gS N i)) s.1 = 0 := fun z => hr (fun j hj hb => (dn1 j (oc j hb)).mpr ((sb_0 o2).mp z j hj hb))
      have e : pS N pc tk fe i s = s := by
        unfold pS
        rw [if_neg hD, if_pos hd0]
      rw [e] at K
      exact K _ _ _ _ ⟨y1, y2, y3, y4⟩
  · have hD : s.1.testBit i = true := (dn1 i hi).mp (by omega)
    have e : pS N pc tk fe i s = s := if_pos hD
    rw [e] at K
    exact K _ _ _ _ ⟨y1, y2, y3, y4⟩
theorem y_sa52 {post : SY → Prop} {J : Int32 → Int32 → (Nat → Int32) → (Nat → Int32) → (Nat → Int32) → (Nat → Int32) → (Nat → Int32) → (Nat → Int32) → (Nat → Int32) → (Nat → Int32) → Prop} {r : Nat} {N fe : Nat → Nat} {s : Nat × Nat × (Nat → Nat)} (D : DQ c pc tc tk fe) (q : NQ c tk fe N) (hn : ∀ i, i < 4 → yn i = N i) (P : PI c N s)
    (HJ : ∀ dn' gd' nb' ys', YI c pc (pI N pc tk fe s c) dn' gd' nb' → J (nI (r + 1)) (nI c) (na pc) (na tc) (na tk) (na yn) (na dn') (na gd') (na nb') (ny ys')) :
    ∀ m i dn gd nb ys, i + m = c → YI c pc (pI N pc tk fe s i) dn gd nb → wY_settleAll_52 post J (nI r) (m + 1) (nI i) (nI c) (na pc) (na tc) (na tk) (na yn) (na dn) (na gd) (na nb) (ny ys) := by
  have hc4 := D.1
  intro m
  induction m with
  | zero =>
    intro i dn gd nb ys hi hx
    have hi : i = c := by omega
    subst hi
    exact br_t (nI_le (Nat.le_refl _) (by omega)) (nm_r (nI_1 _) (HJ _ _ _ _ hx))
  | succ m ih =>
    intro i dn gd nb ys hi hx
    exact y_sa52s D q (by omega) hn (PI_I hc4 q P i (by omega)) hx (fun dn' gd' nb' ys' hx' => ih (i + 1) dn' gd' nb' ys' (by omega) hx')
theorem y_sa45 {post : SY → Prop} {N fe : Nat → Nat} (D : DQ c pc tc tk fe) (q : NQ c tk fe N) (hn : ∀ i, i < 4 → yn i = N i)
    (hp : ∀ dn' gd' nb' ys', YI c pc (pR c N pc tk fe 4) dn' gd' nb' → post ((nI c), (na pc), (na tc), (na tk), (na yn), (na dn'), (na gd'), (na nb'), (ny ys'))) :
    ∀ m r dn gd nb ys, r + m = 4 → YI c pc (pR c N pc tk fe r) dn gd nb → wY_settleAll_45 post (m + 1) (nI r) (nI c) (na pc) (na tc) (na tk) (na yn) (na dn) (na gd) (na nb) (ny ys) := by
  have hc4 := D.1
  intro m
  induction m with
  | zero =>
    intro r dn gd nb ys hr hx
    have hr : r = 4 := by omega
    subst hr
    exact br_t (nI_le (Nat.le_refl _) (by omega)) (hp _ _ _ _ hx)
  | succ m ih =>
    intro r dn gd nb ys hr hx
    exact br_f (nI_ge (b := 4) (by omega) (by omega)) ⟨c + 1, y_sa52 D q hn (PI_R hc4 q r) (fun dn' gd' nb' ys' hx' => ih (r + 1) dn' gd' nb' ys' (by omega) hx') c 0 dn gd nb ys (by omega) hx⟩
theorem y_sa6 {post : SY → Prop} {N fe : Nat → Nat} (D : DQ c pc tc tk fe) (q : NQ c tk fe N) (hn : ∀ i, i < 4 → yn i = N i) (hk : ∀ q, nb q < 4)
    (hp : ∀ dn' gd' nb' ys', YI c pc (pR c N pc tk fe 4) dn' gd' nb' → post ((nI c), (na pc), (na tc), (na tk), (na yn), (na dn'), (na gd'), (na nb'), (ny ys'))) :
    ∀ m i dn gd, i + m = 4 → (∀ j, j < i → dn j = (if c ≤ j then 1 else 0) ∧ gd j = 0) → wY_settleAll_6 post (nI c) (m + 1) (nI i) (na pc) (na tc) (na tk) (na yn) (na dn) (na gd) (na nb) (ny ys) := by
  have hc4 := D.1
  intro m
  induction m with
  | zero =>
    intro i dn gd hi h
    have hi : i = 4 := by omega
    subst hi
    refine br_t (nI_le (Nat.le_refl _) (by omega)) ⟨5, y_sa45 D q hn hp 4 0 dn gd nb ys (by omega) ⟨fun j hj => ?_, fun j hj => ?_, hk, fun j a h => ?_⟩⟩
    · rw [(h j hj).1, show (pR c N pc tk fe 0).1 = 0 from rfl, Nat.zero_testBit]
      by_cases z : c ≤ j
      · rw [if_pos z, if_pos (Or.inl z)]
      · rw [if_neg z, if_neg (fun y => y.elim z (fun x => (nomatch x)))]
    · rw [(h j hj).2, show (pR c N pc tk fe 0).2.1 = 0 from rfl, Nat.zero_testBit]; rfl
    · rw [show (pR c N pc tk fe 0).2.1 = 0 from rfl, Nat.zero_testBit] at h; cases h
  | succ m ih =>
    intro i dn gd hi h
    have fin : ∀ v, v = (if c ≤ i then 1 else 0) → wY_settleAll_6 post (nI c) (m + 1) (nI (i + 1)) (na pc) (na tc) (na tk) (na yn) (na (un dn i v)) (na (un gd i 0)) (na nb) (ny ys) := by
      intro v hv
      refine ih (i + 1) _ _ (by omega) (fun j hj => ?_)
      by_cases e : j = i
      · rw [e, un_s, un_s]; exact ⟨hv, rfl⟩
      · rw [un_n e, un_n e]; exact h j (by omega)
    refine br_f (nI_ge (b := 4) (by omega) (by omega)) (pk_lt i c (fun hic => ⟨pk_in i 4 (by omega), nm_r (na_upd i 0 rfl nar_0) ⟨pk_in i 4 (by omega), nm_r (na_upd i 0 rfl nar_0) (nm_r (nI_1 _) (fin 0 ?_))⟩⟩) (fun hic => ⟨pk_in i 4 (by omega), nm_r (na_upd i 1 rfl nar_1) ⟨pk_in i 4 (by omega), nm_r (na_upd i 0 rfl nar_0) (nm_r (nI_1 _) (fin 1 ?_))⟩⟩))
    · rw [if_neg (by omega)]
    · rw [if_pos hic]
theorem y_sa {post : SY → Prop} {fe : Nat → Nat} (D : DQ c pc tc tk fe) (hk : ∀ q, nb q < 4)
    (hp : ∀ yn' dn' gd' nb' ys', (∀ i, i < 4 → yn' i = NN c tk fe i) → YI c pc (pR c (NN c tk fe) pc tk fe 4) dn' gd' nb' → post ((nI c), (na pc), (na tc), (na tk), (na yn'), (na dn'), (na gd'), (na nb'), (ny ys'))) : wpY_settleAll post ((nI c), (na pc), (na tc), (na tk), (na yn), (na dn), (na gd), (na nb), (ny ys)) := by
  unfold wpY_settleAll
  exact y_fn D (fun yn' hyn => ⟨5, y_sa6 D (NN_q D.2.2.2.2.2.2) hyn hk (fun dn' gd' nb' ys' hY => hp yn' dn' gd' nb' ys' hyn hY) 4 0 dn gd (by omega) (fun j hj => absurd hj (Nat.not_lt_zero _))⟩)
end
