/-! what the needs promise: NQ c tk en N -/
def NQ (c : Nat) (tk en : Nat → Nat) (N : Nat → Nat) : Prop :=
  (∀ i, N i < 16) ∧ (∀ i j, (N i).testBit j = true → i < c ∧ j < c) ∧ (∀ i m j, (N i).testBit m = true → (N m).testBit j = true → (N i).testBit j = true) ∧ (∀ i k, i < c → k < en i → 7 ≤ tp tk i k → (N i).testBit (tp tk i k - 7) = true)
/-- the tokens of the declared types, as far as their fields go -/
def TQ (c : Nat) (pc tk en : Nat → Nat) : Prop := ∀ i k, i < c → k < en i → tp tk i k ≤ 10 ∧ (tp tk i k = 1 ∨ tp tk i k = 2 → tp tk i k ≤ pc i) ∧ (7 ≤ tp tk i k → tp tk i k - 7 < c)
theorem N0_lt {c : Nat} {pc tk en : Nat → Nat} (h : TQ c pc tk en) (i : Nat) : N0 c tk en i < 16 := by
  unfold N0
  split
  · next hi => exact nM_lt _ _ (fun k hk => (h i k hi hk).1)
  · decide
theorem N0_hi {c : Nat} {pc tk en : Nat → Nat} (h : TQ c pc tk en) (i j : Nat) (hb : (N0 c tk en i).testBit j = true) : i < c ∧ j < c := by
  unfold N0 at hb
  split at hb
  · next hi =>
    obtain ⟨k, hk, h7, e⟩ := (nM_bit _ _ _).mp hb
    exact ⟨hi, e ▸ (h i k hi hk).2.2 h7⟩
  · rw [Nat.zero_testBit] at hb; cases hb
theorem NN_q {c : Nat} {pc tk en : Nat → Nat} (h : TQ c pc tk en) : NQ c tk en (NN c tk en) := by
  have hh := fun i j => N0_hi h i j
  refine ⟨wO_lt c _ c (N0_lt h), fun i j => wO_hi c _ c i j hh, ?_, ?_⟩
  · intro i m j h1 h2
    have a := wO_hi c _ c i m hh h1
    exact wO_tr c _ c (Nat.le_refl c) i m j a.1 a.2 h1 h2
  · intro i k hi hk h7
    apply wO_in
    unfold N0
    rw [if_pos hi, nM_bit]
    exact ⟨k, hk, h7, rfl⟩
theorem NN_y {c : Nat} (hc : c ≤ 4) {pc tk en : Nat → Nat} (h : TQ c pc tk en) : yO 4 (N0 c tk en) = NN c tk en := yO_eq c hc _ (N0_lt h) (N0_hi h)
theorem gS_bit (N : Nat → Nat) (hN : ∀ i, N i < 16) (i x : Nat) : (gS N i).testBit x = true ↔ x = i ∨ ((N i).testBit x = true ∧ (N x).testBit i = true) := by
  unfold gS
  rw [gM_bit]
  exact ⟨fun h => h.elim Or.inl (fun z => Or.inr z.2), fun h => h.elim Or.inl (fun z => Or.inr ⟨m_hi (hN i) z.1, z⟩)⟩
theorem gS_lt (N : Nat → Nat) (i : Nat) (hi : i < 4) : gS N i < 16 := gM_lt N i 4 hi (by omega)
theorem gS_self (N : Nat → Nat) (hN : ∀ i, N i < 16) (i : Nat) : (gS N i).testBit i = true := (gS_bit N hN i i).mpr (Or.inl rfl)
theorem gS_sym {N : Nat → Nat} (hN : ∀ i, N i < 16) {i j : Nat} (h : (gS N i).testBit j = true) : (gS N j).testBit i = true := by
  rw [gS_bit N hN] at h ⊢
  rcases h with h | h
  · exact Or.inl h.symm
  · exact Or.inr ⟨h.2, h.1⟩
theorem gS_tr {N : Nat → Nat} (hN : ∀ i, N i < 16) (hT : ∀ i m j, (N i).testBit m = true → (N m).testBit j = true → (N i).testBit j = true) {i j x : Nat} (h : (gS N i).testBit j = true) (h2 : (gS N j).testBit x = true) : (gS N i).testBit x = true := by
  rw [gS_bit N hN] at h h2 ⊢
  rcases h with h | h
  · subst h; exact h2
  · rcases h2 with h2 | h2
    · subst h2; exact Or.inr h
    · exact Or.inr ⟨hT _ _ _ h.1 h2.1, hT _ _ _ h2.2 h.2⟩
theorem gS_eq {c : Nat} (hc : c ≤ 4) {tk en N : Nat → Nat} (q : NQ c tk en N) {i j : Nat} (hi : i < c) (h : (gS N i).testBit j = true) : gS N j = gS N i := by
  have hj : j < c := by
    rcases (gS_bit N q.1 i j).mp h with h | h
    · rw [h]; exact hi
    · exact (q.2.1 i j h.1).2
  apply m_eq (gS_lt N j (by omega)) (gS_lt N i (by omega))
  intro x _
  exact ⟨fun z => gS_tr q.1 q.2.2.1 h z, fun z => gS_tr q.1 q.2.2.1 (gS_sym q.1 h) z⟩
theorem gS_c {c : Nat} {tk en N : Nat → Nat} (q : NQ c tk en N) {i j : Nat} (hi : i < c) (h : (gS N i).testBit j = true) : j < c := by
  rcases (gS_bit N q.1 i j).mp h with h | h
  · rw [h]; exact hi
  · exact (q.2.1 i j h.1).2
/-! slots of a group, choices -/
def iG (S : Nat) (pc : Nat → Nat) (q : Nat) : Bool := S.testBit (q / 2) && decide (q % 2 < pc (q / 2))
def cb (S : Nat) (pc : Nat → Nat) : Nat → Nat
  | 0 => 0
  | m + 1 => if iG S pc m = true then cb S pc m + 1 else cb S pc m
def tG (S : Nat) (pc : Nat → Nat) (ch : Nat) (g : Nat → Nat) : Nat → Nat := fun q => if q < 8 ∧ iG S pc q = true then ch / 4 ^ (cb S pc 8 - cb S pc (q + 1)) % 4 else g q
theorem iG_iff (S : Nat) (pc : Nat → Nat) (q : Nat) : iG S pc q = true ↔ S.testBit (q / 2) = true ∧ q % 2 < pc (q / 2) := by
  unfold iG
  rw [Bool.and_eq_true, decide_eq_true_iff]
theorem iG_ix (S : Nat) (pc : Nat → Nat) (j a : Nat) (ha : a < 2) : iG S pc (j * 2 + a) = true ↔ S.testBit j = true ∧ a < pc j := by
  rw [iG_iff, show (j * 2 + a) / 2 = j by omega, show (j * 2 + a) % 2 = a by omega]
theorem cb_y {S : Nat} {pc : Nat → Nat} {m : Nat} (h : iG S pc m = true) : cb S pc (m + 1) = cb S pc m + 1 := by
  show (if _ then _ else _) = _
  rw [if_pos h]
theorem cb_n {S : Nat} {pc : Nat → Nat} {m : Nat} (h : ¬ iG S pc m = true) : cb S pc (m + 1) = cb S pc m := by
  rw [show cb S pc (m + 1) = (if iG S pc m = true then cb S pc m + 1 else cb S pc m) from rfl, if_neg h]
theorem cb_mo (S : Nat) (pc : Nat → Nat) (m d : Nat) : cb S pc m ≤ cb S pc (m + d) := by
  induction d with
  | zero => exact Nat.le_refl _
  | succ d ih =>
    by_cases h : iG S pc (m + d) = true
    · have := cb_y h; rw [show m + (d + 1) = m + d + 1 from rfl]; omega
    · have := cb_n h; rw [show m + (d + 1) = m + d + 1 from rfl]; omega
theorem cb_le (S : Nat) (pc : Nat → Nat) {m n : Nat} (h : m ≤ n) : cb S pc m ≤ cb S pc n := by
  have := cb_mo S pc m (n - m)
  rw [show m + (n - m) = n by omega] at this
  exact this
def sP (pc : Nat → Nat) : Nat → Nat
  | 0 => 0
  | m + 1 => sP pc m + pc m
theorem cb_sP (S : Nat) (pc : Nat → Nat) (m : Nat) : cb S pc (m * 2) ≤ sP pc m := by
  induction m with
  | zero => exact Nat.le_refl _
  | succ m ih =>
    have e : (m + 1) * 2 = m * 2 + 1 + 1 := by omega
    rw [e]
    show _ ≤ sP pc m + pc m
    by_cases h0 : iG S pc (m * 2) = true <;> by_cases h1 : iG S pc (m * 2 + 1) = true
    · rw [cb_y h1, cb_y h0]
      have := (iG_ix S pc m 1 (by omega)).mp h1
      omega
    · rw [cb_n h1, cb_y h0]
      have := (iG_ix S pc m 0 (by omega)).mp h0
      omega
    · rw [cb_y h1, cb_n h0]
      have := (iG_ix S pc m 1 (by omega)).mp h1
      omega
    · rw [cb_n h1, cb_n h0]
      omega
/-- the group's types are below c -/
theorem cb_c {S c : Nat} (pc : Nat → Nat) (h : ∀ j, S.testBit j = true → j < c) (d : Nat) : cb S pc (c * 2 + d) = cb S pc (c * 2) := by
  induction d with
  | zero => rfl
  | succ d ih =>
    have : ¬ iG S pc (c * 2 + d) = true := by
      rw [iG_iff]
      rintro ⟨h1, _⟩
      have := h _ h1
      omega
    rw [show c * 2 + (d + 1) = c * 2 + d + 1 from rfl, cb_n this, ih]
theorem cb_6 {S c : Nat} {pc : Nat → Nat} (hc : c ≤ 4) (h : ∀ j, S.testBit j = true → j < c) (h6 : sP pc c ≤ 6) : cb S pc 8 ≤ 6 := by
  have e := cb_c pc h (8 - c * 2)
  rw [show c * 2 + (8 - c * 2) = 8 by omega] at e
  have := cb_sP S pc c
  omega
theorem tG_lt {S : Nat} {pc : Nat → Nat} {ch : Nat} {g : Nat → Nat} (hg : ∀ q, g q < 4) (q : Nat) : tG S pc ch g q < 4 := by
  unfold tG
  split
  · exact Nat.mod_lt _ (by omega)
  · exact hg q
theorem tG_out {S : Nat} {pc : Nat → Nat} {ch : Nat} {g : Nat → Nat} {q : Nat} (h : ¬ iG S pc q = true) : tG S pc ch g q = g q := if_neg (fun z => h z.2)
theorem tG_in {S : Nat} {pc : Nat → Nat} {ch : Nat} {g g' : Nat → Nat} {q : Nat} (h8 : q < 8) (h : iG S pc q = true) : tG S pc ch g q = tG S pc ch g' q := by
  unfold tG
  rw [if_pos ⟨h8, h⟩, if_pos ⟨h8, h⟩]
theorem tG_tG {S : Nat} {pc : Nat → Nat} {ch : Nat} {g g' : Nat → Nat} (h : ∀ q, q < 8 ∧ iG S pc q = true ∨ g q = g' q) : tG S pc ch g = tG S pc ch g' := by
  funext q
  unfold tG
  rcases h q with z | z
  · rw [if_pos z, if_pos z]
  · rw [z]
/-! codes of kinds -/
def nc (k : Nat) : Nat := if k = 0 then 1 else if k = 1 then 4 else if k = 2 then 16 else 5
def co (pc g : Nat → Nat) (j : Nat) : Nat := if pc j = 0 then 1 else if pc j = 1 then 4 + g (j * 2) else 16 + 4 * g (j * 2 + 1) + g (j * 2)
def lf (pc g : Nat → Nat) (i tok : Nat) : Nat := if tok < 3 then nc (g (i * 2 + tok - 1)) else if tok < 7 then nc (tok - 3) else co pc g (tok - 7)
def ap (f a : Nat) : Nat := if f = 0 ∨ f = 1 then 0 else if nc (f % 4) = a then f / 4 else 0
def VC (f : Nat) : Prop := f < 32 ∧ (f = 0 ∨ f = 1 ∨ (4 ≤ f ∧ f < 8) ∨ 16 ≤ f)
theorem nc_vc (k : Nat) : VC (nc k) := by
  unfold nc VC
  split <;> (try split) <;> (try split) <;> omega
theorem co_vc {pc g : Nat → Nat} (hg : ∀ q, g q < 4) (j : Nat) : VC (co pc g j) := by
  have h0 := hg (j * 2)
  have h1 := hg (j * 2 + 1)
  unfold co VC
  split <;> (try split) <;> omega
theorem lf_vc {pc g : Nat → Nat} (hg : ∀ q, g q < 4) (i tok : Nat) : VC (lf pc g i tok) := by
  unfold lf
  split
  · exact nc_vc _
  · split
    · exact nc_vc _
    · exact co_vc hg _
theorem ap_vc {f : Nat} (a : Nat) (h : VC f) : VC (ap f a) := by
  unfold ap VC at *
  split
  · omega
  · split <;> omega
/-! evaluation on a stack, from the end of the fields -/
def eH (t : Nat → Nat) (e : Nat) : Nat → Nat
  | 0 => 0
  | m + 1 => if t (e - 1 - m) = 0 then eH t e m - 1 else eH t e m + 1
def eS (t L : Nat → Nat) (e : Nat) : Nat → (Nat → Nat)
  | 0 => fun _ => 0
  | m + 1 => if t (e - 1 - m) = 0 then un (eS t L e m) (eH t e m - 2) (ap (eS t L e m (eH t e m - 1)) (eS t L e m (eH t e m - 2))) else un (eS t L e m) (eH t e m) (L (e - 1 - m))
theorem eH_0 {t : Nat → Nat} {e m : Nat} (h : t (e - 1 - m) = 0) : eH t e (m + 1) = eH t e m - 1 := if_pos h
theorem eH_1 {t : Nat → Nat} {e m : Nat} (h : ¬ t (e - 1 - m) = 0) : eH t e (m + 1) = eH t e m + 1 := if_neg h
theorem eS_0 {t L : Nat → Nat} {e m : Nat} (h : t (e - 1 - m) = 0) : eS t L e (m + 1) = un (eS t L e m) (eH t e m - 2) (ap (eS t L e m (eH t e m - 1)) (eS t L e m (eH t e m - 2))) := if_pos h
theorem eS_1 {t L : Nat → Nat} {e m : Nat} (h : ¬ t (e - 1 - m) = 0) : eS t L e (m + 1) = un (eS t L e m) (eH t e m) (L (e - 1 - m)) := if_neg h
theorem eH_le (t : Nat → Nat) (e m : Nat) : eH t e m ≤ m := by
  induction m with
  | zero => exact Nat.le_refl 0
  | succ m ih =>
    by_cases h : t (e - 1 - m) = 0
    · rw [eH_0 h]; omega
    · rw [eH_1 h]; omega
theorem eH_sp (t : Nat → Nat) (n e m : Nat) (he : e = rE t n) (hm : m ≤ e) : eH t e m + 1 + rF t (e - m) = rF t e + rO t (e - m) := by
  have hs := rE_sp t n
  rw [← he] at hs
  induction m with
  | zero => rw [show e - 0 = e from rfl, hs.1]; show 0 + 1 + _ = _; omega
  | succ m ih =>
    have ih := ih (by omega)
    have hl := rF_lt t n (e - 1 - m) (by omega)
    have hp := rO_pos t (e - 1 - m)
    rw [show e - m = (e - 1 - m) + 1 by omega] at ih
    rw [show e - (m + 1) = e - 1 - m by omega]
    generalize hk : e - 1 - m = k at *
    by_cases h : t k = 0
    · rw [eH_0 (by rw [hk]; exact h)]
      rw [show rF t (k + 1) = rF t k from if_pos h, show rO t (k + 1) = rO t k + 1 from if_pos h] at ih
      omega
    · rw [eH_1 (by rw [hk]; exact h)]
      by_cases h1 : rO t k = 1
      · rw [show rF t (k + 1) = rF t k + 1 from (if_neg h).trans (if_pos h1), show rO t (k + 1) = 1 from (if_neg h).trans (if_pos h1)] at ih
        omega
      · rw [show rF t (k + 1) = rF t k from (if_neg h).trans (if_neg h1), show rO t (k + 1) = rO t k - 1 from (if_neg h).trans (if_neg h1)] at ih
        omega
theorem eH_2 (t : Nat → Nat) (n e m : Nat) (he : e = rE t n) (hm : m < e) (h : t (e - 1 - m) = 0) : 2 ≤ eH t e m := by
  have := eH_sp t n e m he (by omega)
  have hs := rE_sp t n
  have hl := rF_lt t n (e - 1 - m) (by omega)
  have hp := rO_pos t (e - 1 - m)
  rw [← he] at hs
  rw [show e - m = (e - 1 - m) + 1 by omega] at this
  generalize e - 1 - m = k at *
  rw [show rF t (k + 1) = rF t k from if_pos h, show rO t (k + 1) = rO t k + 1 from if_pos h] at this
  omega
theorem eS_vc {t L : Nat → Nat} {e : Nat} (hL : ∀ k, VC (L k)) (m q : Nat) : VC (eS t L e m q) := by
  induction m generalizing q with
  | zero => show VC 0; unfold VC; omega
  | succ m ih =>
    by_cases h : t (e - 1 - m) = 0
    · rw [eS_0 h]
      unfold un
      split
      · exact ap_vc _ (ih _)
      · exact ih q
    · rw [eS_1 h]
      unfold un
      split
      · exact hL _
      · exact ih q
theorem eS_cg {t L L' : Nat → Nat} {e : Nat} (hL : ∀ k, k < e → t k ≠ 0 → L k = L' k) (m : Nat) (hm : m ≤ e) : eS t L e m = eS t L' e m := by
  induction m with
  | zero => rfl
  | succ m ih =>
    have ih := ih (by omega)
    by_cases h : t (e - 1 - m) = 0
    · rw [eS_0 h, eS_0 h, ih]
    · rw [eS_1 h, eS_1 h, ih, hL _ (by omega) h]
def FI (t L : Nat → Nat) (e : Nat) : Prop := ∀ q, q < eH t e e → eS t L e e q = 1
def Ft (pc tk en : Nat → Nat) (S : Nat) (g : Nat → Nat) : Prop := ∀ i, i < 4 → S.testBit i = true → FI (tp tk i) (fun k => lf pc g i (tp tk i k)) (en i)
/-- what fits depends on the group's own slots and on those of what it needs -/
theorem lf_cg {c : Nat} (hc : c ≤ 4) {pc tk en N : Nat → Nat} (hp : ∀ i, pc i ≤ 2) (q : NQ c tk en N) (tq : TQ c pc tk en) {i W : Nat} (hi : i < c) (hW : ∀ j, j < 4 → (sb (N i) (gS N i)).testBit j = true → W.testBit j = true) {g G : Nat → Nat} (hg : ∀ j a, W.testBit j = true → a < pc j → g (j * 2 + a) = G (j * 2 + a)) (ch : Nat) {m k : Nat} (hm : (gS N i).testBit m = true) (hk : k < en m) (h0 : tp tk m k ≠ 0) : lf pc (tG (gS N i) pc ch g) m (tp tk m k) = lf pc (tG (gS N i) pc ch G) m (tp tk m k) := by
  have hmc := gS_c q hi hm
  obtain ⟨t1, t2, t3⟩ := tq m k hmc hk
  have slot : ∀ j a, ((gS N i).testBit j = true ∨ W.testBit j = true) → j < c → a < pc j → tG (gS N i) pc ch g (j * 2 + a) = tG (gS N i) pc ch G (j * 2 + a) := by
    intro j a hj hjc ha
    have hp2 := hp j
    by_cases hin : iG (gS N i) pc (j * 2 + a) = true
    · exact tG_in (by omega) hin
    · rw [tG_out hin, tG_out hin]
      rcases hj with hj | hj
      · exact absurd ((iG_ix _ _ _ _ (by omega)).mpr ⟨hj, ha⟩) hin
      · exact hg j a hj ha
  unfold lf
  split
  · next h3 =>
    rw [show m * 2 + tp tk m k - 1 = m * 2 + (tp tk m k - 1) by omega]
    rw [slot m (tp tk m k - 1) (Or.inl hm) hmc (by have := t2 (by omega); omega)]
  · split
    · rfl
    · next h3 h7 =>
      have hj : (N m).testBit (tp tk m k - 7) = true := q.2.2.2 m k hmc hk (by omega)
      have hij : (N i).testBit (tp tk m k - 7) = true := by
        rcases (gS_bit N q.1 i m).mp hm with z | z
        · rw [← z]; exact hj
        · exact q.2.2.1 _ _ _ z.1 hj
      have hjc := t3 (by omega)
      generalize tp tk m k - 7 = j at *
      have hor : (gS N i).testBit j = true ∨ W.testBit j = true := by
        by_cases z : (gS N i).testBit j = true
        · exact Or.inl z
        · refine Or.inr (hW j (by omega) ?_)
          rw [sb_bit (q.1 i), hij]
          simp [z]
      unfold co
      split
      · rfl
      · next hp0 =>
        have e0 := slot j 0 hor hjc (by omega)
        rw [Nat.add_zero] at e0
        split
        · rw [e0]
        · next hp1 => rw [e0, slot j 1 hor hjc (by omega)]
theorem Ft_cg {c : Nat} (hc : c ≤ 4) {pc tk en N : Nat → Nat} (hp : ∀ i, pc i ≤ 2) (q : NQ c tk en N) (tq : TQ c pc tk en) {i W : Nat} (hi : i < c) (hW : ∀ j, j < 4 → (sb (N i) (gS N i)).testBit j = true → W.testBit j = true) {g G : Nat → Nat} (hg : ∀ j a, W.testBit j = true → a < pc j → g (j * 2 + a) = G (j * 2 + a)) (ch : Nat) : Ft pc tk en (gS N i) (tG (gS N i) pc ch g) ↔ Ft pc tk en (gS N i) (tG (gS N i) pc ch G) := by
  have key : ∀ m, (gS N i).testBit m = true → ∀ n, n ≤ en m → eS (tp tk m) (fun k => lf pc (tG (gS N i) pc ch g) m (tp tk m k)) (en m) n = eS (tp tk m) (fun k => lf pc (tG (gS N i) pc ch G) m (tp tk m k)) (en m) n := fun m hm n hn => eS_cg (fun k hk h0 => lf_cg hc hp q tq hi hW hg ch hm hk h0) n hn
  constructor
  · intro h m h4 hm x hx
    rw [← key m hm _ (Nat.le_refl _)]
    exact h m h4 hm x hx
  · intro h m h4 hm x hx
    rw [key m hm _ (Nat.le_refl _)]
    exact h m h4 hm x hx
