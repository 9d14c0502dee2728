section
variable {c pt w : Nat} {st : Int32} {pc tc tk fc fe nt sk sc cc gs stk : Nat → Nat}
/-! listSlots -/
theorem cb_m (S : Nat) (pc : Nat → Nat) (m : Nat) : cb S pc m ≤ m := by
  induction m with
  | zero => exact Nat.le_refl 0
  | succ m ih =>
    by_cases h : iG S pc m = true
    · rw [cb_y h]; omega
    · rw [cb_n h]; omega
theorem cb_sk {S : Nat} {pc : Nat → Nat} (q d : Nat) (h : ∀ x, q ≤ x → x < q + d → ¬ iG S pc x = true) : cb S pc (q + d) = cb S pc q := by
  induction d with
  | zero => rfl
  | succ d ih =>
    rw [show q + (d + 1) = q + d + 1 from rfl, cb_n (h (q + d) (by omega) (by omega)), ih (fun x h1 h2 => h x h1 (by omega))]
def sz (S : Nat) (pc sc : Nat → Nat) (q : Nat) : Nat → Nat := fun x => if x < q ∧ iG S pc x = true then 0 else sc x
theorem sz_sk {S : Nat} {pc sc : Nat → Nat} (q d : Nat) (h : ∀ x, q ≤ x → x < q + d → ¬ iG S pc x = true) : sz S pc sc (q + d) = sz S pc sc q := by
  funext x
  unfold sz
  by_cases h1 : x < q ∧ iG S pc x = true
  · rw [if_pos h1, if_pos ⟨by omega, h1.2⟩]
  · rw [if_neg h1, if_neg]
    rintro ⟨z1, z2⟩
    by_cases h2 : x < q
    · exact h1 ⟨h2, z2⟩
    · exact h x (by omega) z1 z2
theorem sz_st {S : Nat} {pc sc : Nat → Nat} (q : Nat) (h : iG S pc q = true) : un (sz S pc sc q) q 0 = sz S pc sc (q + 1) := by
  funext x
  unfold un sz
  by_cases hx : x = q
  · subst hx; rw [if_pos rfl, if_pos ⟨by omega, h⟩]
  · rw [if_neg hx]
    by_cases h1 : x < q ∧ iG S pc x = true
    · rw [if_pos h1, if_pos ⟨by omega, h1.2⟩]
    · rw [if_neg h1, if_neg (fun z => h1 ⟨by omega, z.2⟩)]
/-- the list of the group's slots, as far as q -/
def gL (S : Nat) (pc : Nat → Nat) (q : Nat) (gs : Nat → Nat) : Prop := ∀ x, x < q → iG S pc x = true → gs (cb S pc x) = x
theorem gL_st {S : Nat} {pc : Nat → Nat} {q : Nat} {gs : Nat → Nat} (h : gL S pc q gs) : gL S pc (q + 1) (un gs (cb S pc q) q) := by
  intro x hx hg
  by_cases e : x = q
  · subst e; exact un_s
  · have h1 := cb_y hg
    have h2 := cb_le S pc (show x + 1 ≤ q by omega)
    rw [un_n (by omega)]
    exact h x (by omega) hg
theorem gL_sk {S : Nat} {pc : Nat → Nat} (q d : Nat) {gs : Nat → Nat} (hn : ∀ x, q ≤ x → x < q + d → ¬ iG S pc x = true) (h : gL S pc q gs) : gL S pc (q + d) gs := by
  intro x hx hg
  by_cases e : x < q
  · exact h x e hg
  · exact absurd hg (hn x (by omega) hx)
theorem x_ls15 {post : Int32 → SX → Prop} {J : Int32 → Int32 → (Nat → Int32) → (Nat → Int32) → (Nat → Int32) → (Nat → Int32) → (Nat → Int32) → (Nat → Int32) → (Nat → Int32) → (Nat → Int32) → (Nat → Int32) → (Nat → Int32) → (Nat → Int32) → Prop} {S i : Nat} (hi : i < 4) (hS : S < 16) (h2 : ∀ i, pc i ≤ 2) (HJ : ∀ gs', gL S pc (i * 2 + 2) gs' → J (nI (cb S pc (i * 2 + 2))) (nI (i + 1)) (na pc) (na tc) (na tk) (na fc) (na fe) (na nt) (na sk) (na (sz S pc sc (i * 2 + 2))) (na cc) (na gs') (na stk)) : ∀ m a gs', a + m = pc i → gL S pc (i * 2 + a) gs' → wX_listSlots_15 post J (nI S) (nI i) (nI c) (nI pt) st (nI w) (m + 1) (nI (cb S pc (i * 2 + a))) (nI a) (na pc) (na tc) (na tk) (na fc) (na fe) (na nt) (na sk) (na (sz S pc sc (i * 2 + a))) (na cc) (na gs') (na stk) := by
  have hp2 := h2 i
  have ex : ∀ a gs', a ≤ 2 → (∀ x, i * 2 + a ≤ x → x < i * 2 + a + (2 - a) → ¬ iG S pc x = true) → gL S pc (i * 2 + a) gs' → J (nI (cb S pc (i * 2 + a))) (nI (i + 1)) (na pc) (na tc) (na tk) (na fc) (na fe) (na nt) (na sk) (na (sz S pc sc (i * 2 + a))) (na cc) (na gs') (na stk) := by
    intro a gs' ha hn hg
    have := HJ gs' (by have := gL_sk (i * 2 + a) (2 - a) hn hg; rw [show i * 2 + a + (2 - a) = i * 2 + 2 by omega] at this; exact this)
    have e1 := cb_sk (i * 2 + a) (2 - a) hn
    have e2 := sz_sk (sc := sc) (i * 2 + a) (2 - a) hn
    rw [show i * 2 + a + (2 - a) = i * 2 + 2 by omega] at e1 e2
    rw [e1, e2] at this
    exact this
  intro m
  induction m with
  | zero =>
    intro a gs' ha hg
    refine ⟨pk_in i 4 hi, br_t (by rw [na_i i]; exact nI_le (by omega) (by omega)) (nm_r (nI_1 _) (ex a gs' (by omega) (fun x h1 h3 hx => ?_) hg))⟩
    have := (iG_iff _ _ _).mp hx
    rw [show x / 2 = i by omega] at this
    omega
  | succ m ih =>
    intro a gs' ha hg
    have hq : cb S pc (i * 2 + a) ≤ i * 2 + a := cb_m _ _ _
    refine ⟨pk_in i 4 hi, br_f (by rw [na_i i]; exact nI_ge (by omega) (by omega)) (x_ho (by omega) (by omega) (fun hb => br_f (by decide) ⟨vp_in_nI (by omega) (by omega), ?_⟩) (fun hb => br_t rfl (nm_r (nI_1 _) (ex a gs' (by omega) (fun x h1 h3 hx => ?_) hg))))⟩
    · have hin : iG S pc (i * 2 + a) = true := (iG_ix S pc i a (by omega)).mpr ⟨hb, by omega⟩
      refine nm_r (na_upd (cb S pc (i * 2 + a)) (i * 2 + a) rfl (kj_ix2 i a)) ⟨vp_in_nI (by omega) (by omega), ?_⟩
      have e : na (un gs' (cb S pc (i * 2 + a)) (i * 2 + a)) (nI (cb S pc (i * 2 + a))).toNatClampNeg = nI (i * 2 + a) := by rw [na_i _ (by omega), un_s]
      refine ⟨pk_in (i * 2 + a) 8 (by omega) e, nm_r (na_upd (i * 2 + a) 0 e rfl) (nm_r (nI_1 _) (nm_r (nI_1 _) ?_))⟩
      have := ih (a + 1) (un gs' (cb S pc (i * 2 + a)) (i * 2 + a)) (by omega) (gL_st hg)
      rw [show i * 2 + (a + 1) = i * 2 + a + 1 from rfl, cb_y hin, ← sz_st _ hin] at this
      exact this
    · have := (iG_iff _ _ _).mp hx
      rw [show x / 2 = i by omega] at this
      exact hb this.1
theorem x_ls4 {post : Int32 → SX → Prop} {S : Nat} (hc : c ≤ 4) (hS : S < 16) (h2 : ∀ i, pc i ≤ 2) (hp : ∀ gs', gL S pc (c * 2) gs' → post (nI (cb S pc (c * 2))) ((nI c), (nI pt), st, (nI w), (na pc), (na tc), (na tk), (na fc), (na fe), (na nt), (na sk), (na (sz S pc sc (c * 2))), (na cc), (na gs'), (na stk))) : ∀ m i gs', i + m = c → gL S pc (i * 2) gs' → wX_listSlots_4 post (nI S) (nI c) (nI pt) st (nI w) (m + 1) (nI (cb S pc (i * 2))) (nI i) (na pc) (na tc) (na tk) (na fc) (na fe) (na nt) (na sk) (na (sz S pc sc (i * 2))) (na cc) (na gs') (na stk) := by
  intro m
  induction m with
  | zero =>
    intro i gs' hi hg
    have hi : i = c := by omega
    subst hi
    exact br_t (nI_le (Nat.le_refl _) (by omega)) (hp gs' hg)
  | succ m ih =>
    intro i gs' hi hg
    refine br_f (nI_ge (by omega) (by omega)) ⟨pc i + 1, x_ls15 (by omega) hS h2 (fun g hg' => ?_) (pc i) 0 gs' (by omega) hg⟩
    have := ih (i + 1) g (by omega) (by rw [show (i + 1) * 2 = i * 2 + 2 by omega]; exact hg')
    rw [show (i + 1) * 2 = i * 2 + 2 by omega] at this
    exact this
theorem x_ls {post : Int32 → SX → Prop} {S : Nat} (hc : c ≤ 4) (hS : S < 16) (hSc : ∀ j, S.testBit j = true → j < c) (h2 : ∀ i, pc i ≤ 2) (hp : ∀ gs', gL S pc 8 gs' → post (nI (cb S pc 8)) ((nI c), (nI pt), st, (nI w), (na pc), (na tc), (na tk), (na fc), (na fe), (na nt), (na sk), (na (sz S pc sc 8)), (na cc), (na gs'), (na stk))) : wpX_listSlots post ((nI c), (nI pt), st, (nI w), (na pc), (na tc), (na tk), (na fc), (na fe), (na nt), (na sk), (na sc), (na cc), (na gs), (na stk)) (nI S) := by
  have hn : ∀ x, c * 2 ≤ x → x < c * 2 + (8 - c * 2) → ¬ iG S pc x = true := by
    intro x h1 _ h3
    have := hSc _ ((iG_iff _ _ _).mp h3).1
    omega
  have e1 := cb_sk (c * 2) (8 - c * 2) hn
  have e2 := sz_sk (sc := sc) (c * 2) (8 - c * 2) hn
  rw [show c * 2 + (8 - c * 2) = 8 by omega] at e1 e2
  have := x_ls4 (post := post) (pt := pt) (w := w) (st := st) (tc := tc) (tk := tk) (fc := fc) (fe := fe) (nt := nt) (sk := sk) (sc := sc) (cc := cc) (stk := stk) hc hS h2 (fun gs' hg => by
    have h := hp gs' (by have := gL_sk (c * 2) (8 - c * 2) hn hg; rw [show c * 2 + (8 - c * 2) = 8 by omega] at this; exact this)
    rw [e1, e2] at h
    exact h) c 0 gs (by omega) (fun x hx => absurd hx (Nat.not_lt_zero _))
  have e3 : sz S pc sc (0 * 2) = sc := by
    funext x
    unfold sz
    rw [if_neg (fun z => absurd z.1 (by omega))]
  rw [e3] at this
  exact ⟨c + 1, this⟩
/-! the code of a type -/
theorem kj_co : ∀ v, v < 8 → ∀ s, s < 4 → (nI v <<< ((2 : Int32) &&& 31)) ||| nI s = nI (v * 4 + s) := by decide +kernel
theorem x_ct1 {post : Int32 → Prop} {i p v n : Nat} (hi : i < 4) (hp : p < 2) (hv : v < 8) (hk : ∀ q, sk q < 4) (h : wX_codeOfType_11 post (nI i) (nI c) (nI pt) st (nI w) (na pc) (na tc) (na tk) (na fc) (na fe) (na nt) (na sk) (na sc) (na cc) (na gs) (na stk) n (nI (v * 4 + sk (i * 2 + p))) (nI p + (-1))) : wX_codeOfType_11 post (nI i) (nI c) (nI pt) st (nI w) (na pc) (na tc) (na tk) (na fc) (na fe) (na nt) (na sk) (na sc) (na cc) (na gs) (na stk) (n + 1) (nI v) (nI p) := by
  refine br_f (nI_pos (by omega)) ⟨pk_in (i * 2 + p) 8 (by omega) (kj_ix2 i p), nm_r ?_ (nm_e h)⟩
  rw [na_at (i * 2 + p) (kj_ix2 i p)]
  exact kj_co v hv _ (hk _)
theorem x_ct0 {post : Int32 → Prop} {i v n : Nat} (h : post (nI v)) : wX_codeOfType_11 post (nI i) (nI c) (nI pt) st (nI w) (na pc) (na tc) (na tk) (na fc) (na fe) (na nt) (na sk) (na sc) (na cc) (na gs) (na stk) (n + 1) (nI v) (nI 0 + (-1)) := br_t kj_m1 h
theorem x_ct {post : Int32 → Prop} {i : Nat} (hi : i < 4) (h2 : ∀ i, pc i ≤ 2) (hk : ∀ q, sk q < 4) (hp : post (nI (co pc sk i))) : wpX_codeOfType post ((nI c), (nI pt), st, (nI w), (na pc), (na tc), (na tk), (na fc), (na fe), (na nt), (na sk), (na sc), (na cc), (na gs), (na stk)) (nI i) := by
  have := h2 i
  have k0 := hk (i * 2)
  have k1 := hk (i * 2 + 1)
  refine ⟨pk_in i 4 hi, ?_⟩
  rw [na_i i]
  unfold co at hp
  rcases (by omega : pc i = 0 ∨ pc i = 1 ∨ pc i = 2) with h | h | h
  · rw [h] at hp ⊢
    exact nm_r (kj_mm 0) ⟨1, x_ct0 hp⟩
  · rw [h] at hp ⊢
    refine nm_r (nI_pred 0) ⟨2, x_ct1 (v := 1) hi (by omega) (by omega) hk (x_ct0 ?_)⟩
    rw [if_neg (by omega), if_pos rfl] at hp
    exact hp
  · rw [h] at hp ⊢
    refine nm_r (nI_pred 1) ⟨3, x_ct1 (v := 1) hi (by omega) (by omega) hk ?_⟩
    rw [show nI 1 + (-1) = nI 0 from pk_m1 0]
    refine x_ct1 hi (by omega) (by omega) hk (x_ct0 ?_)
    rw [if_neg (by omega), if_neg (by omega)] at hp
    have ez : (1 * 4 + sk (i * 2 + 1)) * 4 + sk (i * 2 + 0) = 16 + 4 * sk (i * 2 + 1) + sk (i * 2) := by
      show (1 * 4 + sk (i * 2 + 1)) * 4 + sk (i * 2) = _
      omega
    rw [ez]
    exact hp
/-! take -/
def cT (S c : Nat) (pc g cc : Nat → Nat) : Nat → Nat := fun q => if 4 ≤ q ∧ q < 4 + c ∧ S.testBit (q - 4) = true then co pc g (q - 4) else cc q
theorem cT_y {S m : Nat} {pc g cc : Nat → Nat} (h : S.testBit m = true) : un (cT S m pc g cc) (4 + m) (co pc g m) = cT S (m + 1) pc g cc := by
  funext q
  unfold un cT
  by_cases e : q = 4 + m
  · subst e
    rw [if_pos rfl, if_pos ⟨by omega, by omega, by rw [show 4 + m - 4 = m by omega]; exact h⟩, show 4 + m - 4 = m by omega]
  · rw [if_neg e]
    by_cases h1 : 4 ≤ q ∧ q < 4 + m ∧ S.testBit (q - 4) = true
    · rw [if_pos h1, if_pos ⟨h1.1, by omega, h1.2.2⟩]
    · rw [if_neg h1, if_neg (fun z => h1 ⟨z.1, by omega, z.2.2⟩)]
theorem cT_n {S m : Nat} {pc g cc : Nat → Nat} (h : ¬ S.testBit m = true) : cT S m pc g cc = cT S (m + 1) pc g cc := by
  funext q
  unfold cT
  by_cases h1 : 4 ≤ q ∧ q < 4 + m ∧ S.testBit (q - 4) = true
  · rw [if_pos h1, if_pos ⟨h1.1, by omega, h1.2.2⟩]
  · rw [if_neg h1, if_neg]
    rintro ⟨z1, z2, z3⟩
    by_cases e : q = 4 + m
    · subst e; rw [show 4 + m - 4 = m by omega] at z3; exact h z3
    · exact h1 ⟨z1, by omega, z3⟩
theorem kj_4 (i : Nat) : 4 + nI i = nI (4 + i) := nI_add 4 i
theorem x_tk44 {post : SX → Prop} {S : Nat} (hc : c ≤ 4) (hS : S < 16) (h2 : ∀ i, pc i ≤ 2) (hk : ∀ q, sk q < 4) (hp : post ((nI c), (nI pt), st, (nI w), (na pc), (na tc), (na tk), (na fc), (na fe), (na nt), (na sk), (na sc), (na (cT S c pc sk cc)), (na gs), (na stk))) : ∀ m i, i + m = c → wX_take_44 post (nI S) (nI c) (nI pt) st (nI w) (m + 1) (nI i) (na pc) (na tc) (na tk) (na fc) (na fe) (na nt) (na sk) (na sc) (na (cT S i pc sk cc)) (na gs) (na stk) := by
  intro m
  induction m with
  | zero =>
    intro i hi
    have hi : i = c := by omega
    subst hi
    exact br_t (nI_le (Nat.le_refl _) (by omega)) hp
  | succ m ih =>
    intro i hi
    have := ih (i + 1) (by omega)
    refine br_f (nI_ge (by omega) (by omega)) (x_ho (by omega) (by omega) (fun hb => br_f (by decide) (x_ct (by omega) h2 hk ⟨pk_in (4 + i) 8 (by omega) (kj_4 i), nm_r (na_upd (4 + i) _ (kj_4 i) rfl) (nm_r (nI_1 _) ?_)⟩)) (fun hb => br_t rfl (nm_r (nI_1 _) ?_)))
    · rw [cT_y hb]; exact this
    · rw [cT_n hb]; exact this
def tm (S : Nat) (pc : Nat → Nat) (ch : Nat) (g : Nat → Nat) (m : Nat) : Nat → Nat := fun q => if m ≤ q ∧ q < 8 ∧ iG S pc q = true then ch / 4 ^ (cb S pc 8 - cb S pc (q + 1)) % 4 else g q
theorem tm_0 {S : Nat} {pc : Nat → Nat} {ch : Nat} {g : Nat → Nat} : tm S pc ch g 0 = tG S pc ch g := by
  funext q
  unfold tm tG
  by_cases h : q < 8 ∧ iG S pc q = true
  · rw [if_pos h, if_pos ⟨by omega, h⟩]
  · rw [if_neg h, if_neg (fun z => h z.2)]
theorem tm_8 {S : Nat} {pc : Nat → Nat} {ch : Nat} {g : Nat → Nat} : tm S pc ch g 8 = g := by
  funext q
  unfold tm
  rw [if_neg (fun z => absurd z.1 (by omega))]
theorem tm_n {S : Nat} {pc : Nat → Nat} {ch : Nat} {g : Nat → Nat} {m : Nat} (h : ¬ iG S pc m = true) : tm S pc ch g (m + 1) = tm S pc ch g m := by
  funext q
  unfold tm
  by_cases h1 : m + 1 ≤ q ∧ q < 8 ∧ iG S pc q = true
  · rw [if_pos h1, if_pos ⟨by omega, h1.2⟩]
  · rw [if_neg h1, if_neg]
    rintro ⟨z1, z2, z3⟩
    by_cases e : q = m
    · subst e; exact h z3
    · exact h1 ⟨by omega, z2, z3⟩
theorem tm_y {S : Nat} {pc : Nat → Nat} {ch : Nat} {g : Nat → Nat} {m : Nat} (hm : m < 8) (h : iG S pc m = true) : un (tm S pc ch g (m + 1)) m (ch / 4 ^ (cb S pc 8 - cb S pc (m + 1)) % 4) = tm S pc ch g m := by
  funext q
  unfold un tm
  by_cases e : q = m
  · subst e; rw [if_pos rfl, if_pos ⟨Nat.le_refl _, hm, h⟩]
  · rw [if_neg e]
    by_cases h1 : m + 1 ≤ q ∧ q < 8 ∧ iG S pc q = true
    · rw [if_pos h1, if_pos ⟨by omega, h1.2⟩]
    · rw [if_neg h1, if_neg (fun z => h1 ⟨by omega, z.2⟩)]
theorem tm_lt {S : Nat} {pc : Nat → Nat} {ch : Nat} {g : Nat → Nat} {m : Nat} (hg : ∀ q, g q < 4) (q : Nat) : tm S pc ch g m q < 4 := by
  unfold tm
  split
  · exact Nat.mod_lt _ (by omega)
  · exact hg q
theorem rs_y {S : Nat} {pc : Nat → Nat} (ch : Nat) {m : Nat} (hm : m < 8) (h : iG S pc m = true) : ch / 4 ^ (cb S pc 8 - cb S pc (m + 1)) / 4 = ch / 4 ^ (cb S pc 8 - cb S pc m) := by
  have h1 := cb_y h
  have h2 := cb_le S pc (show m + 1 ≤ 8 by omega)
  rw [show cb S pc 8 - cb S pc m = cb S pc 8 - cb S pc (m + 1) + 1 by omega, Nat.pow_succ, Nat.div_div_eq_div_mul]
theorem kj_a3 {r : Nat} (h : r < 2 ^ 31) : nI r &&& 3 = nI (r % 4) ∧ nI r >>> ((2 : Int32) &&& 31) = nI (r / 4) := ⟨pk_andN (by omega) 2 (by decide), pk_shrN h _ 2 (by decide)⟩
theorem x_tk8 {post : SX → Prop} {S ch : Nat} (hc : c ≤ 4) (hS : S < 16) (h2 : ∀ i, pc i ≤ 2) (hk : ∀ q, sk q < 4) (hch : ch < 2 ^ 31) (hg : gL S pc 8 gs) (hp : post ((nI c), (nI pt), st, (nI w), (na pc), (na tc), (na tk), (na fc), (na fe), (na nt), (na (tG S pc ch sk)), (na sc), (na (cT S c pc (tG S pc ch sk) cc)), (na gs), (na stk))) : ∀ m n, m ≤ 8 → m < n → wX_take_8 post (nI S) (nI c) (nI pt) st (nI w) n (nI (ch / 4 ^ (cb S pc 8 - cb S pc m))) (nI (cb S pc m) + (-1)) (na pc) (na tc) (na tk) (na fc) (na fe) (na nt) (na (tm S pc ch sk m)) (na sc) (na cc) (na gs) (na stk) := by
  intro m
  induction m with
  | zero =>
    intro n _ hn
    obtain ⟨n, rfl⟩ : ∃ k, n = k + 1 := ⟨n - 1, by omega⟩
    refine br_t kj_m1 ⟨c + 1, ?_⟩
    rw [tm_0]
    have := x_tk44 (sk := tG S pc ch sk) hc hS h2 (tG_lt hk) hp c 0 (by omega)
    have e : cT S 0 pc (tG S pc ch sk) cc = cc := by
      funext q
      unfold cT
      rw [if_neg (fun z => absurd z.2.1 (by have := z.1; omega))]
    rw [e] at this
    exact this
  | succ m ih =>
    intro n hm hn
    by_cases h : iG S pc m = true
    · obtain ⟨n, rfl⟩ : ∃ k, n = k + 1 := ⟨n - 1, by omega⟩
      have hy := cb_y h
      have h8 := cb_m S pc m
      have hr : ch / 4 ^ (cb S pc 8 - cb S pc (m + 1)) < 2 ^ 31 := Nat.lt_of_le_of_lt (Nat.div_le_self _ _) hch
      rw [hy, pk_m1, ← hy]
      have e : na gs (nI (cb S pc m)).toNatClampNeg = nI m := by rw [na_i _ (by omega), hg m (by omega) h]
      refine br_f (nI_pos (by omega)) ⟨vp_in_nI (by omega) (by omega), pk_in m 8 (by omega) e, nm_r (na_upd m _ e (kj_a3 hr).1) (nm_r (kj_a3 hr).2 (nm_e ?_))⟩
      rw [tm_y (by omega) h, rs_y ch (by omega) h]
      exact ih n (by omega) (by omega)
    · rw [cb_n h, tm_n h]
      exact ih n (by omega) (by omega)
theorem x_tk {post : SX → Prop} {S ch : Nat} (hc : c ≤ 4) (hS : S < 16) (h2 : ∀ i, pc i ≤ 2) (hk : ∀ q, sk q < 4) (hch : ch < 2 ^ 31) (hg : gL S pc 8 gs) (hp : post ((nI c), (nI pt), st, (nI w), (na pc), (na tc), (na tk), (na fc), (na fe), (na nt), (na (tG S pc ch sk)), (na sc), (na (cT S c pc (tG S pc ch sk) cc)), (na gs), (na stk))) : wpX_take post ((nI c), (nI pt), st, (nI w), (na pc), (na tc), (na tk), (na fc), (na fe), (na nt), (na sk), (na sc), (na cc), (na gs), (na stk)) (nI ch) (nI (cb S pc 8)) (nI S) := by
  have := x_tk8 hc hS h2 hk hch hg hp 8 9 (by omega) (by omega)
  rw [tm_8, Nat.sub_self, Nat.pow_zero, Nat.div_one] at this
  exact nm_r (kj_mm _) ⟨9, this⟩
/-! noteCould -/
def sn (S : Nat) (pc sk sc : Nat → Nat) (m : Nat) : Nat → Nat := fun q => if q < m ∧ iG S pc q = true then sc q ||| 2 ^ sk q else sc q
theorem sn_n {S : Nat} {pc sk sc : Nat → Nat} {m : Nat} (h : ¬ iG S pc m = true) : sn S pc sk sc (m + 1) = sn S pc sk sc m := by
  funext q
  unfold sn
  by_cases h1 : q < m ∧ iG S pc q = true
  · rw [if_pos h1, if_pos ⟨by omega, h1.2⟩]
  · rw [if_neg h1, if_neg]
    rintro ⟨z1, z3⟩
    by_cases e : q = m
    · subst e; exact h z3
    · exact h1 ⟨by omega, z3⟩
theorem sn_y {S : Nat} {pc sk sc : Nat → Nat} {m : Nat} (h : iG S pc m = true) : un (sn S pc sk sc m) m (sn S pc sk sc m m ||| 2 ^ sk m) = sn S pc sk sc (m + 1) := by
  have e0 : sn S pc sk sc m m = sc m := if_neg (fun z => Nat.lt_irrefl _ z.1)
  rw [e0]
  funext q
  unfold un sn
  by_cases e : q = m
  · subst e; rw [if_pos rfl, if_pos ⟨by omega, h⟩]
  · rw [if_neg e]
    by_cases h1 : q < m ∧ iG S pc q = true
    · rw [if_pos h1, if_pos ⟨by omega, h1.2⟩]
    · rw [if_neg h1, if_neg (fun z => h1 ⟨by omega, z.2⟩)]
theorem x_nc2 {post : SX → Prop} {S : Nat} (hk : ∀ q, sk q < 4) (hg : gL S pc 8 gs) (hp : post ((nI c), (nI pt), st, (nI w), (na pc), (na tc), (na tk), (na fc), (na fe), (na nt), (na sk), (na (sn S pc sk sc 8)), (na cc), (na gs), (na stk))) : ∀ d m n, m + d = 8 → d < n → wX_noteCould_2 post (nI (cb S pc 8)) (nI c) (nI pt) st (nI w) n (nI (cb S pc m)) (na pc) (na tc) (na tk) (na fc) (na fe) (na nt) (na sk) (na (sn S pc sk sc m)) (na cc) (na gs) (na stk) := by
  have h8 := cb_m S pc 8
  intro d
  induction d with
  | zero =>
    intro m n hm hn
    have hm : m = 8 := by omega
    subst hm
    obtain ⟨n, rfl⟩ : ∃ k, n = k + 1 := ⟨n - 1, by omega⟩
    exact br_t (nI_le (Nat.le_refl _) (by omega)) hp
  | succ d ih =>
    intro m n hm hn
    by_cases h : iG S pc m = true
    · obtain ⟨n, rfl⟩ : ∃ k, n = k + 1 := ⟨n - 1, by omega⟩
      have hy := cb_y h
      have hl := cb_le S pc (show m + 1 ≤ 8 by omega)
      have e : na gs (nI (cb S pc m)).toNatClampNeg = nI m := by rw [na_i _ (by omega), hg m (by omega) h]
      have hkm := hk m
      refine br_f (nI_ge (by omega) (by omega)) ⟨vp_in_nI (by omega) (by omega), nm_r e ⟨pk_in m 8 (by omega), pk_in m 8 (by omega), pk_in m 8 (by omega), nm_r (na_upd m (sn S pc sk sc m m ||| 2 ^ sk m) rfl ?_) (nm_r (nI_1 _) ?_)⟩⟩
      · rw [na_i m, na_i m, kj_one (by omega), kj_or]
      · rw [sn_y h, ← hy]
        exact ih (m + 1) n (by omega) (by omega)
    · have := ih (m + 1) n (by omega) (by omega)
      rw [cb_n h, sn_n h] at this
      exact this
theorem x_nc {post : SX → Prop} {S : Nat} (hk : ∀ q, sk q < 4) (hg : gL S pc 8 gs) (hp : post ((nI c), (nI pt), st, (nI w), (na pc), (na tc), (na tk), (na fc), (na fe), (na nt), (na sk), (na (sn S pc sk sc 8)), (na cc), (na gs), (na stk))) : wpX_noteCould post ((nI c), (nI pt), st, (nI w), (na pc), (na tc), (na tk), (na fc), (na fe), (na nt), (na sk), (na sc), (na cc), (na gs), (na stk)) (nI (cb S pc 8)) := by
  have := x_nc2 hk hg hp 8 0 9 (by omega) (by omega)
  have e : sn S pc sk sc 0 = sc := by
    funext q
    unfold sn
    rw [if_neg (fun z => absurd z.1 (by omega))]
  rw [e] at this
  exact ⟨9, this⟩
/-! the stack -/
theorem x_ap {post : Int32 → Prop} {f a : Nat} (hf : VC f) (ha : a < 2 ^ 31) (hcc : ∀ q, q < 4 → cc q = nc q) (hp : post (nI (ap f a))) : wpX_codeOfApplying post ((nI c), (nI pt), st, (nI w), (na pc), (na tc), (na tk), (na fc), (na fe), (na nt), (na sk), (na sc), (na cc), (na gs), (na stk)) (nI f) (nI a) := by
  have h32 := hf.1
  unfold ap at hp
  unfold wpX_codeOfApplying
  refine pk_eq f 0 (fun h => ?_) (fun h0 => pk_eq f 1 (fun h => ?_) (fun h1 => ?_))
  · rw [if_pos (Or.inl h)] at hp; exact hp
  · rw [if_pos (Or.inr h)] at hp; exact hp
  · rw [if_neg (by omega)] at hp
    have e := kj_a3 (show f < 2 ^ 31 by omega)
    have hm : f % 4 < 4 := Nat.mod_lt _ (by omega)
    have hb : nc (f % 4) < 32 := (nc_vc _).1
    refine ⟨pk_in (f % 4) 8 (by omega) e.1, ?_⟩
    rw [na_at (f % 4) e.1, hcc _ hm]
    refine pk_eq (nc (f % 4)) a (fun h => ?_) (fun h => ?_)
    · rw [if_pos h] at hp; rw [e.2]; exact hp
    · rw [if_neg h] at hp; exact hp
def xl (sk cc : Nat → Nat) (i tok : Nat) : Nat := if tok < 3 then cc (sk (i * 2 + tok - 1)) else cc (tok - 3)
theorem x_lf {post : Int32 → Prop} {i tok : Nat} (hi : i < 4) (h1 : 1 ≤ tok) (h10 : tok ≤ 10) (hk : ∀ q, sk q < 4) (hp : post (nI (xl sk cc i tok))) : wpX_codeOfLeaf post ((nI c), (nI pt), st, (nI w), (na pc), (na tc), (na tk), (na fc), (na fe), (na nt), (na sk), (na sc), (na cc), (na gs), (na stk)) (nI i) (nI tok) := by
  obtain ⟨k1, k2, k3, k4, k5⟩ := kj_t7 tok (by omega)
  unfold xl at hp
  unfold wpX_codeOfLeaf
  refine pk_lt tok 3 (fun h => ?_) (fun h => ?_)
  · have e : nI i * 2 + nI tok - 1 = nI (i * 2 + tok - 1) := by
      rw [kj_ix2, show i * 2 + tok = (i * 2 + tok - 1) + 1 by omega, nI_pred]; rfl
    have := hk (i * 2 + tok - 1)
    rw [if_pos h] at hp
    refine ⟨pk_in (i * 2 + tok - 1) 8 (by omega) e, nm_r (na_at _ e) ⟨vp_in_nI (by omega) (by omega), ?_⟩⟩
    rw [na_i _ (by omega)]
    exact hp
  · rw [if_neg (by omega)] at hp
    refine ⟨pk_in (tok - 3) 8 (by omega) (k4 h), ?_⟩
    rw [na_at (tok - 3) (k4 h)]
    exact hp
theorem x_as89 {post : Int32 → SX → Prop} {H : Nat} (hH : H ≤ 20) (hb : ∀ q, q < H → stk q < 2 ^ 31) (hy : (∀ q, q < H → stk q = 1) → post 1 ((nI c), (nI pt), st, (nI w), (na pc), (na tc), (na tk), (na fc), (na fe), (na nt), (na sk), (na sc), (na cc), (na gs), (na stk))) (hn : ¬ (∀ q, q < H → stk q = 1) → post 0 ((nI c), (nI pt), st, (nI w), (na pc), (na tc), (na tk), (na fc), (na fe), (na nt), (na sk), (na sc), (na cc), (na gs), (na stk))) : ∀ m k, k + m = H → (∀ q, q < k → stk q = 1) → wX_allFieldsAreStar_89 post (nI H) (nI c) (nI pt) st (nI w) (na pc) (na tc) (na tk) (na fc) (na fe) (na nt) (na sk) (na sc) (na cc) (na gs) (na stk) (m + 1) (nI k) := by
  intro m
  induction m with
  | zero =>
    intro k hk h
    have hk : k = H := by omega
    subst hk
    exact br_t (nI_le (Nat.le_refl _) (by omega)) (hy h)
  | succ m ih =>
    intro k hk h
    refine br_f (nI_ge (by omega) (by omega)) ⟨pk_in k 20 (by omega), ?_⟩
    rw [na_i k]
    have := hb k (by omega)
    refine pk_eq (stk k) 1 (fun h1 => nm_r (nI_1 _) (ih (k + 1) (by omega) (fun q hq => ?_))) (fun h1 => hn (fun z => h1 (z k (by omega))))
    by_cases e : q = k
    · rw [e]; exact h1
    · exact h q (by omega)
theorem x_as11 {post : Int32 → SX → Prop} {i n e : Nat} {L : Nat → Nat} (hi : i < 4) (he : e = rE (tp tk i) n) (he2 : e ≤ 20) (ht : ∀ q, tk q ≤ 10) (hk : ∀ q, sk q < 4) (hcc : ∀ q, q < 4 → cc q = nc q) (hV : ∀ k, VC (L k)) (hL : ∀ k, k < e → tp tk i k ≠ 0 → xl sk cc i (tp tk i k) = L k) (hp : ∀ s, (FI (tp tk i) L e → post 1 ((nI c), (nI pt), st, (nI w), (na pc), (na tc), (na tk), (na fc), (na fe), (na nt), (na sk), (na sc), (na cc), (na gs), (na s))) ∧ (¬ FI (tp tk i) L e → post 0 ((nI c), (nI pt), st, (nI w), (na pc), (na tc), (na tk), (na fc), (na fe), (na nt), (na sk), (na sc), (na cc), (na gs), (na s)))) : ∀ d m s, m + d = e → (∀ q, q < eH (tp tk i) e m → s q = eS (tp tk i) L e m q) → wX_allFieldsAreStar_11 post (nI i) (nI c) (nI pt) st (nI w) (d + 1) (nI (eH (tp tk i) e m)) (nI d + (-1)) (na pc) (na tc) (na tk) (na fc) (na fe) (na nt) (na sk) (na sc) (na cc) (na gs) (na s) := by
  intro d
  induction d with
  | zero =>
    intro m s hm hs
    have hm : m = e := by omega
    have hl := eH_le (tp tk i) e m
    refine br_t kj_m1 ⟨eH (tp tk i) e m + 1, x_as89 (stk := s) (by omega) (fun q hq => ?_) (fun h => (hp s).1 ?_) (fun h => (hp s).2 ?_) (eH (tp tk i) e m) 0 (by omega) (fun q hq => absurd hq (Nat.not_lt_zero _))⟩
    · have := (eS_vc (t := tp tk i) (e := e) hV m q).1
      rw [hs q hq]; omega
    · intro q hq
      have hq' : q < eH (tp tk i) e m := by rw [hm]; exact hq
      have h1 := h q hq'
      rw [hs q hq', hm] at h1
      exact h1
    · intro z
      apply h
      intro q hq
      rw [hs q hq]
      rw [hm] at hq ⊢
      exact z q hq
  | succ d ih =>
    intro m s hm hs
    have hl := eH_le (tp tk i) e m
    have h10 := ht (i * 20 + d)
    have ed : e - 1 - m = d := by omega
    have et : tp tk i d = tk (i * 20 + d) := rfl
    rw [pk_m1]
    refine br_f (nI_pos (by omega)) ⟨pk_in (i * 20 + d) 80 (by omega) (kj_ix20 i d), nm_r (na_at _ (kj_ix20 i d)) (pk_eq (tk (i * 20 + d)) 0 (fun h0 => ?_) (fun h0 => ?_))⟩
    · have h2 := eH_2 (tp tk i) n e m he (by omega) (by rw [ed]; exact h0)
      obtain ⟨h, hh⟩ : ∃ h, eH (tp tk i) e m = h + 2 := ⟨eH (tp tk i) e m - 2, by omega⟩
      have f1 := eH_0 (t := tp tk i) (e := e) (m := m) (by rw [ed]; exact h0)
      have f2 := eS_0 (t := tp tk i) (L := L) (e := e) (m := m) (by rw [ed]; exact h0)
      have s1 := hs (h + 1) (by omega)
      have s0 := hs h (by omega)
      have v1 := eS_vc (t := tp tk i) (e := e) hV m (h + 1)
      have v0 := eS_vc (t := tp tk i) (e := e) hV m h
      have b0 := v0.1
      rw [hh]
      refine nm_r (pk_m1 (h + 1)) ⟨pk_in (h + 1) 20 (by omega), pk_in h 20 (by omega) (nI_pred h), ?_⟩
      rw [nI_pred, na_i (h + 1), na_i h]
      refine x_ap (by rw [s1]; exact v1) (by rw [s0]; omega) hcc ⟨pk_in h 20 (by omega), nm_r (na_upd h _) (nm_e ?_)⟩
      have := ih (m + 1) (un s h (ap (s (h + 1)) (s h))) (by omega) (fun q hq => ?_)
      · rw [f1, hh] at this; exact this
      · rw [f2, hh, show h + 2 - 2 = h by omega, show h + 2 - 1 = h + 1 by omega, s1, s0]
        rw [f1, hh] at hq
        unfold un
        by_cases e : q = h
        · rw [if_pos e, if_pos e]
        · rw [if_neg e, if_neg e]; exact hs q (by omega)
    · have f1 := eH_1 (t := tp tk i) (e := e) (m := m) (by rw [ed]; exact h0)
      have f2 := eS_1 (t := tp tk i) (L := L) (e := e) (m := m) (by rw [ed]; exact h0)
      have hx := hL d (by omega) h0
      refine x_lf hi (by omega) h10 hk ⟨vp_in_nI (by omega) (by omega), nm_r (na_upd _ _) (nm_r (nI_1 _) (nm_e ?_))⟩
      have := ih (m + 1) (un s (eH (tp tk i) e m) (xl sk cc i (tk (i * 20 + d)))) (by omega) (fun q hq => ?_)
      · rw [f1] at this; exact this
      · rw [f2, ed, ← hx]
        rw [f1] at hq
        unfold un
        by_cases e : q = eH (tp tk i) e m
        · rw [if_pos e, if_pos e]; rfl
        · rw [if_neg e, if_neg e]; exact hs q (by omega)
theorem x_as {post : Int32 → SX → Prop} {i n : Nat} {L : Nat → Nat} (hi : i < 4) (he : fe i = rE (tp tk i) n) (he2 : fe i ≤ 20) (ht : ∀ q, tk q ≤ 10) (hk : ∀ q, sk q < 4) (hcc : ∀ q, q < 4 → cc q = nc q) (hV : ∀ k, VC (L k)) (hL : ∀ k, k < fe i → tp tk i k ≠ 0 → xl sk cc i (tp tk i k) = L k) (hp : ∀ s, (FI (tp tk i) L (fe i) → post 1 ((nI c), (nI pt), st, (nI w), (na pc), (na tc), (na tk), (na fc), (na fe), (na nt), (na sk), (na sc), (na cc), (na gs), (na s))) ∧ (¬ FI (tp tk i) L (fe i) → post 0 ((nI c), (nI pt), st, (nI w), (na pc), (na tc), (na tk), (na fc), (na fe), (na nt), (na sk), (na sc), (na cc), (na gs), (na s)))) : wpX_allFieldsAreStar post ((nI c), (nI pt), st, (nI w), (na pc), (na tc), (na tk), (na fc), (na fe), (na nt), (na sk), (na sc), (na cc), (na gs), (na stk)) (nI i) := by
  refine ⟨pk_in i 4 hi, ?_⟩
  rw [na_i i]
  exact nm_r (kj_mm _) ⟨fe i + 1, x_as11 hi he he2 ht hk hcc hV hL hp (fe i) 0 stk (by omega) (fun q hq => absurd hq (Nat.not_lt_zero _))⟩
end
