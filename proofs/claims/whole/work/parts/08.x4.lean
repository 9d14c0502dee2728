section
variable {c pt w : Nat} {st : Int32} {pc tc tk fc fe nt sk sc cc gs stk : Nat → Nat}
/-- what the class's derived arrays hold, when the settling stands at s -/
def XI (pc tk fe N : Nat → Nat) (s : Nat × Nat × (Nat → Nat)) (sk sc cc : Nat → Nat) : Prop :=
  (∀ q, sk q < 4) ∧ (∀ q, q < 4 → cc q = nc q) ∧ (∀ j a, s.2.1.testBit j = true → a < pc j → sk (j * 2 + a) = s.2.2 (j * 2 + a)) ∧ (∀ j, s.2.1.testBit j = true → cc (4 + j) = co pc sk j) ∧ (∀ j a, s.2.1.testBit j = true → a < pc j → sc (j * 2 + a) < 16 ∧ ∀ k, k < 4 → ((sc (j * 2 + a)).testBit k = true ↔ Cd pc tk fe (gS N j) s.2.2 (j * 2 + a) k))
theorem XI_keep {N : Nat → Nat} {S W D' : Nat} {s : Nat × Nat × (Nat → Nat)} {sk' sc' cc' : Nat → Nat} (h2 : ∀ i, pc i ≤ 2) (h : XI pc tk fe N s sk sc cc) (hd : ∀ j, s.2.1.testBit j = true → ¬ S.testBit j = true) (i1 : ∀ q, (q < 8 ∧ iG S pc q = true) ∨ sk' q = sk q) (i2 : ∀ q, sk' q < 4) (i3 : ∀ q, (4 ≤ q ∧ q < 4 + c ∧ S.testBit (q - 4) = true) ∨ cc' q = cc q) (i4 : ∀ q, ¬ (q < 8 ∧ iG S pc q = true) → sc' q = sc q) : XI pc tk fe N (D', s.2.1, s.2.2) sk' sc' cc' := by
  obtain ⟨h1, h3, h4, h5, h6⟩ := h
  have ns : ∀ j a, s.2.1.testBit j = true → a < 2 → ¬ (j * 2 + a < 8 ∧ iG S pc (j * 2 + a) = true) := fun j a hj ha z => hd j hj ((iG_ix S pc j a ha).mp z.2).1
  have e1 : ∀ j a, s.2.1.testBit j = true → a < 2 → sk' (j * 2 + a) = sk (j * 2 + a) := fun j a hj ha => (i1 _).resolve_left (ns j a hj ha)
  refine ⟨i2, fun q hq => ?_, fun j a hj ha => ?_, fun j hj => ?_, fun j a hj ha => ?_⟩
  · rw [(i3 q).resolve_left (by omega)]; exact h3 q hq
  · have := h2 j
    rw [e1 j a hj (by omega)]; exact h4 j a hj ha
  · rw [(i3 (4 + j)).resolve_left (fun z => hd j hj (by have := z.2.2; rw [show 4 + j - 4 = j by omega] at this; exact this)), h5 j hj]
    unfold co
    rw [e1 j 1 hj (by omega), show sk' (j * 2) = sk (j * 2) from e1 j 0 hj (by omega)]
  · have := h2 j
    rw [i4 _ (ns j a hj (by omega))]
    exact h6 j a hj ha
theorem Cd_cg {c : Nat} (hc : c ≤ 4) {pc tk en N : Nat → Nat} (hp : ∀ i, pc i ≤ 2) (q : NQ c tk en N) (tq : TQ c pc tk en) {j W : Nat} (hj : j < c) (hW : ∀ x, x < 4 → (sb (N j) (gS N j)).testBit x = true → W.testBit x = true) {g G : Nat → Nat} (hg : ∀ j a, W.testBit j = true → a < pc j → g (j * 2 + a) = G (j * 2 + a)) {a k : Nat} (ha : a < pc j) : Cd pc tk en (gS N j) g (j * 2 + a) k ↔ Cd pc tk en (gS N j) G (j * 2 + a) k := by
  have hpj := hp j
  have hin : iG (gS N j) pc (j * 2 + a) = true := (iG_ix _ _ _ _ (by omega)).mpr ⟨gS_self N q.1 j, ha⟩
  constructor
  · rintro ⟨ch, h1, h2, h3⟩
    exact ⟨ch, h1, (Ft_cg hc hp q tq hj hW hg ch).mp h2, by rw [← h3]; exact tG_in (by omega) hin⟩
  · rintro ⟨ch, h1, h2, h3⟩
    exact ⟨ch, h1, (Ft_cg hc hp q tq hj hW hg ch).mpr h2, by rw [← h3]; exact tG_in (by omega) hin⟩
/-- the least choice, by the class's slots and by the pure ones -/
theorem bb_cg {c : Nat} (hc : c ≤ 4) {pc tk en N : Nat → Nat} (hp : ∀ i, pc i ≤ 2) (q : NQ c tk en N) (tq : TQ c pc tk en) {i W : Nat} (hi : i < c) (hW : ∀ x, x < 4 → (sb (N i) (gS N i)).testBit x = true → W.testBit x = true) {g G : Nat → Nat} (hg : ∀ j a, W.testBit j = true → a < pc j → g (j * 2 + a) = G (j * 2 + a)) : bb pc tk en (gS N i) g = bb pc tk en (gS N i) G := by
  funext ch
  have h1 := bb_iff pc tk en (gS N i) g ch
  have h2 := bb_iff pc tk en (gS N i) G ch
  rw [Ft_cg hc hp q tq hi hW hg ch, ← h2] at h1
  cases e1 : bb pc tk en (gS N i) g ch <;> cases e2 : bb pc tk en (gS N i) G ch <;> simp_all
theorem ls_C {pc tk en : Nat → Nat} {S : Nat} {G : Nat → Nat} (h6 : cb S pc 8 ≤ 6) : (ls (bb pc tk en S G) (4 ^ cb S pc 8) < 4 ^ cb S pc 8 ↔ ls (bb pc tk en S G) 4096 < 4096) ∧ (ls (bb pc tk en S G) 4096 < 4096 → ls (bb pc tk en S G) (4 ^ cb S pc 8) = ls (bb pc tk en S G) 4096) := by
  have hC6 : 4 ^ cb S pc 8 ≤ 4096 := Nat.pow_le_pow_right (n := 4) (j := 6) (by omega) h6
  obtain ⟨a1, a2, a3⟩ := ls_sp (bb pc tk en S G) 4096
  obtain ⟨b1, b2, b3⟩ := ls_sp (bb pc tk en S G) (4 ^ cb S pc 8)
  have k1 : ls (bb pc tk en S G) 4096 < 4096 → ls (bb pc tk en S G) (4 ^ cb S pc 8) = ls (bb pc tk en S G) 4096 := fun h => ls_y _ ((bb_iff _ _ _ _ _ _).mp (a2 h)).1 (a2 h) a3
  refine ⟨⟨fun h => ?_, fun h => ?_⟩, k1⟩
  · rw [ls_y (n := 4096) _ (by omega) (b2 h) b3]; omega
  · rw [k1 h]; exact ((bb_iff _ _ _ _ _ _).mp (a2 h)).1
theorem x_s28s {post : SX → Prop} {J : Int32 → Int32 → Int32 → Int32 → Int32 → Int32 → (Nat → Int32) → (Nat → Int32) → (Nat → Int32) → (Nat → Int32) → (Nat → Int32) → (Nat → Int32) → (Nat → Int32) → (Nat → Int32) → (Nat → Int32) → (Nat → Int32) → (Nat → Int32) → Prop} {r : Int32} {i n : Nat} {N : Nat → Nat} {s : Nat × Nat × (Nat → Nat)} (D : DQ c pc tc tk fe) (q : NQ c tk fe N) (hi : i < c) (hn : ∀ i, i < c → nt i = N i) (P : PI c N s) (X : XI pc tk fe N s sk sc cc)
    (K : ∀ sk' sc' cc' gs' stk', XI pc tk fe N (pS N pc tk fe i s) sk' sc' cc' → wX_settle_28 post J r n (nI (pS N pc tk fe i s).1) (nI (i + 1)) (nI c) (nI pt) st (nI ((pS N pc tk fe i s).2.1)) (na pc) (na tc) (na tk) (na fc) (na fe) (na nt) (na sk') (na sc') (na cc') (na gs') (na stk')) :
    wX_settle_28 post J r (n + 1) (nI s.1) (nI i) (nI c) (nI pt) st (nI s.2.1) (na pc) (na tc) (na tk) (na fc) (na fe) (na nt) (na sk) (na sc) (na cc) (na gs) (na stk) := by
  have hc4 := D.1
  obtain ⟨p1, p2, p3, p4, p5, p6, p7⟩ := P
  obtain ⟨x1, x2, x3, x4, x5⟩ := X
  have hgS := gS_lt N i (by omega)
  have hSc : ∀ j, (gS N i).testBit j = true → j < c := fun j hj => gS_c q hi hj
  obtain ⟨o1, o2⟩ := kj_sub _ (q.1 i) _ hgS
  obtain ⟨d1, d2⟩ := kj_sub _ o2 _ p1
  obtain ⟨w1, w2⟩ := kj_sub _ o2 _ p2
  have o3 : na nt (nI i).toNatClampNeg &&& (nI (gS N i) ^^^ (-1)) = nI (sb (N i) (gS N i)) := by rw [na_i i, hn i hi]; exact o1
  refine br_f (nI_ge hi (by omega)) (x_mw hc4 hi q hn ⟨pk_in i 4 (by omega), nm_r o3 (x_ho (by omega) (by omega) (fun hD => br_f (by decide) (nm_r (nI_1 _) ?_)) (fun hD => br_t rfl ?_))⟩)
  · have e : pS N pc tk fe i s = s := if_pos hD
    rw [e] at K
    exact K _ _ _ _ _ ⟨x1, x2, x3, x4, x5⟩
  · rw [d1, w1]
    refine pk_eq (sb (sb (N i) (gS N i)) s.1) 0 (fun hd0 => pk_eq (sb (sb (N i) (gS N i)) s.2.1) 0 (fun hw0 => ?_) (fun hw0 => nm_r (kj_or _ _) (nm_r (nI_1 _) ?_))) (fun hd0 => nm_r (nI_1 _) ?_)
    · have hW := (sb_0 o2).mp hw0
      have disj : ∀ j, s.2.1.testBit j = true → ¬ (gS N i).testBit j = true := fun j hj hS => hD (p5 j i (p4 j hj) (gS_sym q.1 hS))
      have h6 := cb_6 hc4 hSc D.2.2.2.1
      have ebb := bb_cg hc4 D.2.1 q D.2.2.2.2.2.2 hi hW x3
      have hls := ls_C (pc := pc) (tk := tk) (en := fe) (S := gS N i) (G := s.2.2) h6
      refine x_sch D hgS hSc x1 x2 (fun m k hm hk h7 => ?_) (fun sc' gs' s' h1 h2 => br_f (by decide) (nm_r (kj_or _ _) (nm_r (kj_or _ _) (nm_r (nI_1 _) ?_)))) (fun sk' cc' sc' gs' s' h1 i1 i2 i3 i4 => br_t rfl (nm_r (kj_or _ _) (nm_r (nI_1 _) ?_)))
      · by_cases z : (gS N i).testBit (tp tk m k - 7) = true
        · exact Or.inl z
        · refine Or.inr ⟨z, x4 _ (hW _ ?_ ?_)⟩
          · have := (D.2.2.2.2.2.2 m k (hSc m hm) hk).2.2 h7; omega
          · have hj : (N m).testBit (tp tk m k - 7) = true := q.2.2.2 m k (hSc m hm) hk h7
            have hij : (N i).testBit (tp tk m k - 7) = true := by
              rcases (gS_bit N q.1 i m).mp hm with y | y
              · rw [← y]; exact hj
              · exact q.2.2.1 _ _ _ y.1 hj
            rw [sb_bit (q.1 i), hij]
            simp [z]
      · rw [ebb] at h1 ⊢
        have hl := hls.1.mp h1
        rw [hls.2 hl]
        have e : pS N pc tk fe i s = (s.1 ||| gS N i, s.2.1 ||| gS N i, tG (gS N i) pc (ls (bb pc tk fe (gS N i) s.2.2) 4096) s.2.2) := by
          unfold pS
          rw [if_neg hD, if_neg (fun z => z hd0), if_neg (fun z => z hw0), if_pos hl]
        rw [e] at K
        refine K _ _ _ _ _ ?_
        generalize ls (bb pc tk fe (gS N i) s.2.2) 4096 = l
        have hp2 := D.2.1
        have oldG : ∀ j a, s.2.1.testBit j = true → a < pc j → s.2.2 (j * 2 + a) = tG (gS N i) pc l s.2.2 (j * 2 + a) := by
          intro j a hj ha
          have := hp2 j
          rw [tG_out (fun z => disj j hj ((iG_ix _ _ _ _ (by omega)).mp z).1)]
        refine ⟨tG_lt x1, fun y hy => ?_, fun j a hj ha => ?_, fun j hj => ?_, fun j a hj ha => ?_⟩
        · rcases cT_o (S := gS N i) (c := c) (pc := pc) (g := tG (gS N i) pc l sk) (cc := cc) y with z | z
          · omega
          · rw [z]; exact x2 y hy
        · dsimp only at hj ⊢
          have := hp2 j
          rw [or_bit] at hj
          by_cases z : (gS N i).testBit j = true
          · have := hSc j z
            exact tG_in (by omega) ((iG_ix _ _ _ _ (by omega)).mpr ⟨z, ha⟩)
          · have hj := hj.resolve_right z
            rw [tG_out (fun y => z ((iG_ix _ _ _ _ (by omega)).mp y).1), tG_out (fun y => z ((iG_ix _ _ _ _ (by omega)).mp y).1)]
            exact x3 j a hj ha
        · dsimp only at hj
          rw [or_bit] at hj
          unfold cT
          by_cases z : (gS N i).testBit j = true
          · have := hSc j z
            rw [if_pos ⟨by omega, by omega, by rw [show 4 + j - 4 = j by omega]; exact z⟩, show 4 + j - 4 = j by omega]
          · have hj := hj.resolve_right z
            rw [if_neg (fun y => z (by have := y.2.2; rw [show 4 + j - 4 = j by omega] at this; exact this)), x4 j hj, co_o (c := c) hp2 z]
        · dsimp only at hj ⊢
          have hpj := hp2 j
          rw [or_bit] at hj
          by_cases z : (gS N i).testBit j = true
          · have hjc := hSc j z
            have hin : iG (gS N i) pc (j * 2 + a) = true := (iG_ix _ _ _ _ (by omega)).mpr ⟨z, ha⟩
            obtain ⟨b1, b2⟩ := (h2 (j * 2 + a)).1 ⟨by omega, hin⟩
            refine ⟨b1, fun k hk => ?_⟩
            rw [b2 k hk, gS_eq hc4 q hi z]
            have et : ∀ ch, tG (gS N i) pc ch (tG (gS N i) pc l s.2.2) = tG (gS N i) pc ch s.2.2 := fun ch => tG_tG tG_o
            constructor
            · rintro ⟨ch, y1, y2, y3⟩
              refine ⟨ch, y1, ?_, ?_⟩
              · rw [et]; exact (Ft_cg hc4 hp2 q D.2.2.2.2.2.2 hi hW x3 ch).mp y2
              · rw [et, ← y3]; exact tG_in (by omega) hin
            · rintro ⟨ch, y1, y2, y3⟩
              rw [et] at y2 y3
              refine ⟨ch, y1, (Ft_cg hc4 hp2 q D.2.2.2.2.2.2 hi hW x3 ch).mpr y2, ?_⟩
              rw [← y3]; exact tG_in (by omega) hin
          · have hj := hj.resolve_right z
            have hnin : ¬ (j * 2 + a < 8 ∧ iG (gS N i) pc (j * 2 + a) = true) := fun y => z ((iG_ix _ _ _ _ (by omega)).mp y.2).1
            rw [(h2 (j * 2 + a)).2 hnin]
            obtain ⟨b1, b2⟩ := x5 j a hj ha
            refine ⟨b1, fun k hk => ?_⟩
            rw [b2 k hk]
            refine Cd_cg hc4 hp2 q D.2.2.2.2.2.2 (p7 j (p4 j hj)) (W := s.2.1) (fun x hx hb => ?_) oldG ha
            rw [sb_bit (q.1 j), Bool.and_eq_true] at hb
            exact p6 j x hj hb.1
      · have hl : ¬ ls (bb pc tk fe (gS N i) s.2.2) 4096 < 4096 := fun z => h1 (by rw [ebb]; exact hls.1.mpr z)
        have e : pS N pc tk fe i s = (s.1 ||| gS N i, s.2.1, s.2.2) := by
          unfold pS
          rw [if_neg hD, if_neg (fun z => z hd0), if_neg (fun z => z hw0), if_neg hl]
        rw [e] at K
        exact K _ _ _ _ _ (XI_keep (c := c) (W := 0) D.2.1 ⟨x1, x2, x3, x4, x5⟩ disj i1 i2 i3 (fun y hy => (i4 y).2 hy))
    · have e : pS N pc tk fe i s = (s.1 ||| gS N i, s.2.1, s.2.2) := by
        unfold pS
        rw [if_neg hD, if_neg (fun z => z hd0), if_pos hw0]
      rw [e] at K
      exact K _ _ _ _ _ ⟨x1, x2, x3, x4, x5⟩
    · have e : pS N pc tk fe i s = s := by
        unfold pS
        rw [if_neg hD, if_pos hd0]
      rw [e] at K
      exact K _ _ _ _ _ ⟨x1, x2, x3, x4, x5⟩
theorem x_s28 {post : SX → Prop} {J : Int32 → Int32 → Int32 → Int32 → Int32 → Int32 → (Nat → Int32) → (Nat → Int32) → (Nat → Int32) → (Nat → Int32) → (Nat → Int32) → (Nat → Int32) → (Nat → Int32) → (Nat → Int32) → (Nat → Int32) → (Nat → Int32) → (Nat → Int32) → Prop} {r : Nat} {N : Nat → Nat} {s : Nat × Nat × (Nat → Nat)} (D : DQ c pc tc tk fe) (q : NQ c tk fe N) (hn : ∀ i, i < c → nt i = N i) (P : PI c N s)
    (HJ : ∀ sk' sc' cc' gs' stk', XI pc tk fe N (pI N pc tk fe s c) sk' sc' cc' → J (nI (pI N pc tk fe s c).1) (nI (r + 1)) (nI c) (nI pt) st (nI ((pI N pc tk fe s c).2.1)) (na pc) (na tc) (na tk) (na fc) (na fe) (na nt) (na sk') (na sc') (na cc') (na gs') (na stk')) :
    ∀ m i sk sc cc gs stk, i + m = c → XI pc tk fe N (pI N pc tk fe s i) sk sc cc → wX_settle_28 post J (nI r) (m + 1) (nI (pI N pc tk fe s i).1) (nI i) (nI c) (nI pt) st (nI ((pI N pc tk fe s i).2.1)) (na pc) (na tc) (na tk) (na fc) (na fe) (na nt) (na sk) (na sc) (na cc) (na gs) (na stk) := by
  have hc4 := D.1
  intro m
  induction m with
  | zero =>
    intro i sk sc cc gs stk hi hx
    have hi : i = c := by omega
    subst hi
    exact br_t (nI_le (Nat.le_refl _) (by omega)) (nm_r (nI_1 _) (HJ _ _ _ _ _ hx))
  | succ m ih =>
    intro i sk sc cc gs stk hi hx
    exact x_s28s D q (by omega) hn (PI_I hc4 q P i (by omega)) hx (fun sk' sc' cc' gs' stk' hx' => ih (i + 1) sk' sc' cc' gs' stk' (by omega) hx')
theorem x_s21 {post : SX → Prop} {N : Nat → Nat} (D : DQ c pc tc tk fe) (q : NQ c tk fe N) (hn : ∀ i, i < c → nt i = N i)
    (hp : ∀ sk' sc' cc' gs' stk', XI pc tk fe N (pR c N pc tk fe 4) sk' sc' cc' → post ((nI c), (nI pt), 0, (nI ((pR c N pc tk fe 4).2.1)), (na pc), (na tc), (na tk), (na fc), (na fe), (na nt), (na sk'), (na sc'), (na cc'), (na gs'), (na stk'))) :
    ∀ m r sk sc cc gs stk, r + m = 4 → XI pc tk fe N (pR c N pc tk fe r) sk sc cc → wX_settle_21 post (m + 1) (nI (pR c N pc tk fe r).1) (nI r) (nI c) (nI pt) st (nI ((pR c N pc tk fe r).2.1)) (na pc) (na tc) (na tk) (na fc) (na fe) (na nt) (na sk) (na sc) (na cc) (na gs) (na stk) := by
  have hc4 := D.1
  intro m
  induction m with
  | zero =>
    intro r sk sc cc gs stk hr hx
    have hr : r = 4 := by omega
    subst hr
    exact br_t (nI_le (Nat.le_refl _) (by omega)) (hp _ _ _ _ _ hx)
  | succ m ih =>
    intro r sk sc cc gs stk hr hx
    exact br_f (nI_ge (b := 4) (by omega) (by omega)) ⟨c + 1, x_s28 D q hn (PI_R hc4 q r) (fun sk' sc' cc' gs' stk' hx' => ih (r + 1) sk' sc' cc' gs' stk' (by omega) hx') c 0 sk sc cc gs stk (by omega) hx⟩
/-- what a settled class holds -/
def XD (c : Nat) (pc tk fe : Nat → Nat) (w : Nat) (nt sk sc cc : Nat → Nat) : Prop := (∀ i, i < c → nt i = NN c tk fe i) ∧ w = (pR c (NN c tk fe) pc tk fe 4).2.1 ∧ XI pc tk fe (NN c tk fe) (pR c (NN c tk fe) pc tk fe 4) sk sc cc
theorem x_st {post : SX → Prop} (D : DQ c pc tc tk fe) (hk : ∀ q, sk q < 4) (hcc : ∀ q, q < 4 → cc q = nc q) (hs : st = 1 ∨ st = 0 ∧ XD c pc tk fe w nt sk sc cc) (hp : ∀ w' nt' sk' sc' cc' gs' stk', XD c pc tk fe w' nt' sk' sc' cc' → post ((nI c), (nI pt), 0, (nI w'), (na pc), (na tc), (na tk), (na fc), (na fe), (na nt'), (na sk'), (na sc'), (na cc'), (na gs'), (na stk'))) : wpX_settle post ((nI c), (nI pt), st, (nI w), (na pc), (na tc), (na tk), (na fc), (na fe), (na nt), (na sk), (na sc), (na cc), (na gs), (na stk)) := by
  have hc4 := D.1
  rcases hs with hs | ⟨hs, hx⟩
  · subst hs
    have q : NQ c tk fe (NN c tk fe) := NN_q D.2.2.2.2.2.2
    refine br_f (by decide) (x_fn hc4 D.2.2.1 (fun i hi => DQ_e D hi) (fun nt' hnt => ⟨5, x_s21 D q hnt (fun sk' sc' cc' gs' stk' hx => hp _ nt' sk' sc' cc' gs' stk' ⟨hnt, rfl, hx⟩) 4 0 sk sc cc gs stk (by omega) ⟨hk, hcc, ?_, ?_, ?_⟩⟩))
    · intro j a h; rw [show (pR c (NN c tk fe) pc tk fe 0).2.1 = 0 from rfl, Nat.zero_testBit] at h; cases h
    · intro j h; rw [show (pR c (NN c tk fe) pc tk fe 0).2.1 = 0 from rfl, Nat.zero_testBit] at h; cases h
    · intro j a h; rw [show (pR c (NN c tk fe) pc tk fe 0).2.1 = 0 from rfl, Nat.zero_testBit] at h; cases h
  · subst hs
    exact br_t rfl (hp w nt sk sc cc gs stk hx)
end
