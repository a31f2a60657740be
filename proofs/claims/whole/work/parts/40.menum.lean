/-! the reference's rows, by number -/
def rowN (base ng N g : Nat) : Nat := N / base ^ (ng - 1 - g) % base
theorem rowN_num {base ng N : Nat} : ∀ k, k ≤ ng → numR base ng (rowN base ng N) k = N % base ^ k
  | 0, _ => by simp [numR, Nat.mod_one]
  | k + 1, hk => by
    have ih := rowN_num (base := base) (ng := ng) (N := N) k (by omega)
    simp only [numR, ih]
    unfold rowN
    rw [show ng - 1 - (ng - (k + 1)) = k by omega, Nat.mod_pow_succ, Nat.mul_comm, Nat.add_comm]
theorem num_dig {base ng : Nat} {q : Nat → Nat} (hb : 0 < base) (hq : ∀ g, g < ng → q g < base) (hn : 1 ≤ ng) : ∀ k, k ≤ ng → ∀ j, j < k → numR base ng q k / base ^ j % base = q (ng - (j + 1))
  | 0, _, j, hj => by omega
  | k + 1, hk, j, hj => by
    have hl := numR_lt hq k (by omega) hn
    have hp : 0 < base ^ j := Nat.pow_pos hb
    simp only [numR]
    by_cases e : j = k
    · subst e
      rw [Nat.add_comm, Nat.add_mul_div_right _ _ hp, Nat.div_eq_of_lt hl, Nat.zero_add, Nat.mod_eq_of_lt (hq _ (by omega))]
    · have ih := num_dig hb hq hn k (by omega) j (by omega)
      have e2 : base ^ k = base ^ (k - j - 1) * base * base ^ j := by
        rw [← Nat.pow_succ, ← Nat.pow_add]
        congr 1
        omega
      rw [e2, ← Nat.mul_assoc, Nat.add_comm, Nat.add_mul_div_right _ _ hp, ← Nat.mul_assoc, Nat.add_mul_mod_self_right]
      exact ih
theorem rowN_of {base ng : Nat} {q : Nat → Nat} (hb : 0 < base) (hq : ∀ g, g < ng → q g < base) (hn : 1 ≤ ng) {g : Nat} (hg : g < ng) : rowN base ng (numR base ng q ng) g = q g := by
  have := num_dig hb hq hn ng (Nat.le_refl _) (ng - 1 - g) (by omega)
  unfold rowN
  rw [this, show ng - (ng - 1 - g + 1) = g by omega]
def setJ (ng : Nat) (r : Nat → Nat) : Nat → Nat
  | 0 => 0
  | j + 1 => setJ ng r j ||| 2 ^ r (ng - (j + 1))
def onceJ (nc ng : Nat) (r : Nat → Nat) : Nat → Bool
  | 0 => true
  | j + 1 => onceJ nc ng r j && (decide (r (ng - (j + 1)) = nc) || !(setJ ng r j).testBit (r (ng - (j + 1))))
theorem setJ_bit (ng : Nat) (r : Nat → Nat) : ∀ j b, (setJ ng r j).testBit b = true ↔ ∃ i, i < j ∧ r (ng - (i + 1)) = b
  | 0, b => by simp [setJ]
  | j + 1, b => by
    simp only [setJ]
    rw [Nat.testBit_or, Bool.or_eq_true, setJ_bit ng r j b, Nat.testBit_two_pow]
    simp only [decide_eq_true_eq]
    constructor
    · rintro (⟨i, h1, h2⟩ | h)
      · exact ⟨i, by omega, h2⟩
      · exact ⟨j, by omega, h⟩
    · rintro ⟨i, h1, h2⟩
      by_cases e : i = j
      · subst e; exact Or.inr h2
      · exact Or.inl ⟨i, by omega, h2⟩
theorem setJ_lt {ng : Nat} {r : Nat → Nat} (h : ∀ g, g < ng → r g < 6) : ∀ j, j ≤ ng → setJ ng r j < 64
  | 0, _ => by simp [setJ]
  | j + 1, hj => by
    have ih := setJ_lt h j (by omega)
    simp only [setJ]
    exact Nat.or_lt_two_pow (n := 6) ih (Nat.pow_lt_pow_right (by decide) (h _ (by omega)))
theorem onceJ_iff {nc ng : Nat} {r : Nat → Nat} : ∀ j, j ≤ ng → (onceJ nc ng r j = true ↔ ∀ a b, a < j → b < j → a ≠ b → r (ng - (a + 1)) = r (ng - (b + 1)) → r (ng - (a + 1)) = nc)
  | 0, _ => ⟨fun _ a b h => by omega, fun _ => rfl⟩
  | j + 1, hj => by
    simp only [onceJ]
    rw [Bool.and_eq_true, onceJ_iff j (by omega), Bool.or_eq_true]
    simp only [decide_eq_true_eq, Bool.not_eq_true']
    constructor
    · rintro ⟨h1, h2⟩ a b ha hb hne e
      by_cases ea : a = j
      · subst ea
        rcases h2 with h2 | h2
        · exact h2
        · have : (setJ ng r a).testBit (r (ng - (a + 1))) = true := (setJ_bit ng r a _).mpr ⟨b, by omega, e.symm⟩
          rw [h2] at this; cases this
      · by_cases eb : b = j
        · subst eb
          rcases h2 with h2 | h2
          · rw [e]; exact h2
          · have : (setJ ng r b).testBit (r (ng - (b + 1))) = true := (setJ_bit ng r b _).mpr ⟨a, by omega, e⟩
            rw [h2] at this; cases this
        · exact h1 a b (by omega) (by omega) hne e
    · intro h
      refine ⟨fun a b ha hb => h a b (by omega) (by omega), ?_⟩
      by_cases e : r (ng - (j + 1)) = nc
      · exact Or.inl e
      · refine Or.inr ?_
        cases z : (setJ ng r j).testBit (r (ng - (j + 1))) with
        | false => rfl
        | true =>
          obtain ⟨i, h1, h2⟩ := (setJ_bit ng r j _).mp z
          exact absurd (h j i (by omega) (by omega) (by omega) h2.symm) e
theorem once_okR {nc ng : Nat} {r : Nat → Nat} (hd : ∀ g, g < ng → r g ≤ nc) : onceJ nc ng r ng = true ↔ okR nc ng r := by
  rw [onceJ_iff ng (Nat.le_refl _)]
  constructor
  · intro h
    refine ⟨hd, fun g k hg hk hne e => ?_⟩
    have := h (ng - 1 - g) (ng - 1 - k) (by omega) (by omega) (by omega)
    rw [show ng - (ng - 1 - g + 1) = g by omega, show ng - (ng - 1 - k + 1) = k by omega] at this
    exact this e
  · intro h a b ha hb hne e
    exact h.2 _ _ (by omega) (by omega) (by omega) e
theorem layRow_loop {S : AS} {M0 : Mem} (hw : wf S) (hr : repM S M0) {base N : Nat} (hb : 1 ≤ base) (hb6 : base ≤ 6) (hbn : base ≤ S 0 0 + 1) (hN : N < 100000) {p1 : Int32} {post : Int32 → Mem → Prop}
    (hp : ∀ M, (∀ a, a ≠ 50 → M a = M0 a) → (∀ g, g < S 0 1 → M 50 g = nI (rowN base (S 0 1) N g)) → post (b2i (onceJ (S 0 0) (S 0 1) (rowN base (S 0 1) N) (S 0 1))) M) :
    ∀ (n j : Nat) (M : Mem), n + j = S 0 1 → (∀ a, a ≠ 50 → M a = M0 a) → (∀ g, n ≤ g → g < S 0 1 → M 50 g = nI (rowN base (S 0 1) N g)) → lp_X6_layRow_16 p1 (nI base) post (n + 1) (nI (N / base ^ j)) (nI (setJ (S 0 1) (rowN base (S 0 1) N) j)) (b2i (onceJ (S 0 0) (S 0 1) (rowN base (S 0 1) N) j)) (nI n + (-1)) M := by
  have hw0 := hw
  obtain ⟨⟨w1, w2, w3, w4, w5, w6⟩, -⟩ := hw
  have hdig : ∀ g, rowN base (S 0 1) N g < base := fun g => Nat.mod_lt _ hb
  intro n
  induction n with
  | zero =>
    intro j M hj hs hh
    have e : j = S 0 1 := by omega
    subst e
    unfold lp_X6_layRow_16
    exact ⟨fun _ => ⟨b2i_nar _, hp M hs (fun g hg => hh g (by omega) hg)⟩, fun h => absurd m1_z h⟩
  | succ n ih =>
    intro j M hj hs hh
    have hr' : repM S M := hr.of (fun a _ ha => hs a (by omega))
    have hdiv : N / base ^ j < 100000 := Nat.lt_of_le_of_lt (Nat.div_le_self _ _) hN
    have hset := setJ_lt (ng := S 0 1) (r := rowN base (S 0 1) N) (fun g _ => by have := hdig g; omega) j (by omega)
    have hrow : rowN base (S 0 1) N n = N / base ^ j % base := by
      unfold rowN
      rw [show S 0 1 - 1 - n = j by omega]
    have hidx : S 0 1 - (j + 1) = n := by omega
    have hd := hdig n
    have enz : ¬ nI base = 0 := nI_ne0 hb (by omega)
    have e1 : nI (N / base ^ j) - nI (N / base ^ j) / nI base * nI base = nI (rowN base (S 0 1) N n) := by rw [hrow]; exact pk_rem (by omega) hb (by omega)
    have e2 : nI (N / base ^ j) / nI base = nI (N / base ^ (j + 1)) := by rw [pk_div (by omega) hb (by omega), Nat.pow_succ, Nat.div_div_eq_div_mul]
    have jn : ∀ (bb : Bool) (M1 : Mem), (∀ a, a ≠ 50 → M1 a = M0 a) → (∀ g, n ≤ g → g < S 0 1 → M1 50 g = nI (rowN base (S 0 1) N g)) → onceJ (S 0 0) (S 0 1) (rowN base (S 0 1) N) (j + 1) = bb → jn_X6_layRow_74 p1 (nI base) post (fun y3 y4 y5 y6 M' => lp_X6_layRow_16 p1 (nI base) post (n + 1) y3 y4 y5 y6 M') (nI (N / base ^ (j + 1))) (nI (setJ (S 0 1) (rowN base (S 0 1) N) j)) (nI n) (b2i bb) M1 := by
      intro bb M1 a1 a2 a3
      subst a3
      unfold jn_X6_layRow_74
      rw [cl (show n < 2147483648 by omega), a2 n (Nat.le_refl _) (by omega), shl1 (by omega), fa_or]
      refine ⟨inI (by omega) (by decide), fun v hv => ?_⟩
      subst hv
      have := ih (j + 1) M1 (by omega) a1 a2
      simp only [setJ, hidx] at this
      exact this
    unfold lp_X6_layRow_16
    rw [pk_m1, e1, e2, cl (show n < 2147483648 by omega)]
    refine ⟨fun h => absurd h (negI (by omega)), fun _ => ⟨enz, inI (by omega) (by decide), fun M2 h2 => ⟨enz, fun v hv => ?_⟩⟩⟩
    subst hv
    subst h2
    have a1 : ∀ a, a ≠ 50 → up2 M 50 n (nI (rowN base (S 0 1) N n)) a = M0 a := fun a ha => (up2_n M _ _ ha).trans (hs a ha)
    have a2 : ∀ g, n ≤ g → g < S 0 1 → up2 M 50 n (nI (rowN base (S 0 1) N n)) 50 g = nI (rowN base (S 0 1) N g) := fun g h1 h2 => by
      rw [up2_s, upd_at]
      by_cases z : g = n
      · rw [if_pos z, z]
      · rw [if_neg z]; exact hh g (by omega) h2
    have hMn : up2 M 50 n (nI (rowN base (S 0 1) N n)) 50 n = nI (rowN base (S 0 1) N n) := a2 n (Nat.le_refl _) (by omega)
    rw [hMn, up2_n M _ _ (by decide), hr'.1.1, eqI (by omega) (by omega), bitZ (by omega) (by omega), b2i_z]
    unfold jn_X6_layRow_73 jn_X6_layRow_69
    refine ⟨fun h => jn false _ a1 a2 ?_, fun h => ⟨inI (by omega) (by decide), fun h3 => jn true _ a1 a2 ?_, fun h3 => ⟨inI (by omega) (by decide), fun h4 => jn false _ a1 a2 ?_, fun h4 => jn true _ a1 a2 ?_⟩⟩⟩
    · simp [onceJ, h]
    · have : onceJ (S 0 0) (S 0 1) (rowN base (S 0 1) N) j = true := by cases z : onceJ (S 0 0) (S 0 1) (rowN base (S 0 1) N) j with | true => rfl | false => exact absurd z h
      simp [onceJ, hidx, this, h3]
    · have : (setJ (S 0 1) (rowN base (S 0 1) N) j).testBit (rowN base (S 0 1) N n) = true := by cases z : (setJ (S 0 1) (rowN base (S 0 1) N) j).testBit (rowN base (S 0 1) N n) with | true => rfl | false => exact absurd z h4
      simp [onceJ, hidx, this, h3]
    · have : onceJ (S 0 0) (S 0 1) (rowN base (S 0 1) N) j = true := by cases z : onceJ (S 0 0) (S 0 1) (rowN base (S 0 1) N) j with | true => rfl | false => exact absurd z h
      simp [onceJ, hidx, this, h4]
theorem layRow_ok {S : AS} {M : Mem} (hw : wf S) (hr : repM S M) {base N : Nat} (hb : 1 ≤ base) (hb6 : base ≤ 6) (hbn : base ≤ S 0 0 + 1) (hN : N < 100000) {post : Int32 → Mem → Prop}
    (hp : ∀ M', (∀ a, a ≠ 50 → M' a = M a) → (∀ g, g < S 0 1 → M' 50 g = nI (rowN base (S 0 1) N g)) → post (b2i (onceJ (S 0 0) (S 0 1) (rowN base (S 0 1) N) (S 0 1))) M') : wp_X6_layRow (nI N) (nI base) M post := by
  unfold wp_X6_layRow
  rw [hr.1.2.1, sub_m1]
  intro v hv
  subst hv
  have h := layRow_loop hw hr hb hb6 hbn hN (p1 := nI N) hp (S 0 1) 0 M (by omega) (fun _ _ => rfl) (fun g h1 h2 => by omega)
  rw [Nat.pow_zero, Nat.div_one] at h
  exact ⟨S 0 1 + 1, h⟩
theorem pow_b {base i : Nat} (h6 : base ≤ 6) (hi : i ≤ 5) : base ^ i ≤ 7776 := by
  have h1 : base ^ i ≤ 6 ^ i := Nat.pow_le_pow_left h6 i
  have h2 : 6 ^ i ≤ 6 ^ 5 := Nat.pow_le_pow_right (by decide) hi
  have h3 : (6 : Nat) ^ 5 = 7776 := by decide
  omega
theorem rowsOf_loop {S : AS} {M : Mem} (hw : wf S) (hr : repM S M) {base : Nat} {post : Int32 → Mem → Prop} (hp : post (nI (base ^ S 0 1)) M) : ∀ (m i : Nat), i + m = S 0 1 → lp_X6_rowsOf_4 (nI base) post (m + 1) (nI (base ^ i)) (nI i) M := by
  obtain ⟨⟨w1, w2, w3, w4, w5, w6⟩, -⟩ := hw
  intro m
  induction m with
  | zero =>
    intro i hi
    have e : i = S 0 1 := by omega
    subst e
    unfold lp_X6_rowsOf_4
    rw [hr.1.2.1]
    exact ⟨fun _ => hp, fun h => absurd ((leI (by omega) (by omega)).mpr (by omega)) h⟩
  | succ m ih =>
    intro i hi
    unfold lp_X6_rowsOf_4
    rw [hr.1.2.1, pk_mul, ← Nat.pow_succ, addI1]
    refine ⟨fun h => absurd ((leI (by omega) (by omega)).mp h) (by omega), fun _ v hv => ?_⟩
    subst hv
    exact ih (i + 1) (by omega)
theorem rowsOf_ok {S : AS} {M : Mem} (hw : wf S) (hr : repM S M) {base : Nat} {post : Int32 → Mem → Prop} (hp : post (nI (base ^ S 0 1)) M) : wp_X6_rowsOf (nI base) M post := by
  have h := rowsOf_loop hw hr hp (S 0 1) 0 (by omega)
  rw [Nat.pow_zero] at h
  exact ⟨S 0 1 + 1, h⟩
def badR (br : Nat → Nat → Bool) (nc : Nat) (r : Nat → Nat) (i : Nat) : Bool := anyB (fun g => !decide (r g = nc) && !br (r g) g) i
theorem badR_iff {br : Nat → Nat → Bool} {nc ng : Nat} {r : Nat → Nat} (hd : ∀ g, g < ng → r g ≤ nc) : badR br nc r ng = false ↔ borneR br nc ng r := by
  unfold badR borneR
  rw [anyB_fi]
  constructor
  · intro h g hg hl
    have := h g hg
    simp [show ¬ r g = nc by omega] at this
    exact this
  · intro h g hg
    by_cases e : r g = nc
    · simp [e]
    · have := hd g hg
      simp [e, h g hg (by omega)]
theorem sitBy_loop {S : AS} {M : Mem} (hw : wf S) (hr : repM S M) {br : Nat → Nat → Bool} (h48 : ∀ g, g < S 0 1 → M 48 g = nI (bset (fun c => br c g) (S 0 0))) {r : Nat → Nat} (hd : ∀ g, g < S 0 1 → r g ≤ S 0 0) (h50 : ∀ g, g < S 0 1 → M 50 g = nI (r g)) {post : Int32 → Mem → Prop} (hp : post (if badR br (S 0 0) r (S 0 1) then -9 else nI (S 0 1 - stR (S 0 0) (S 0 1) r)) M) :
    ∀ (m i : Nat), i + m = S 0 1 → badR br (S 0 0) r i = false → lp_X6_sitBy_4 post (m + 1) (nI (i - stR (S 0 0) i r)) (nI i) M := by
  obtain ⟨⟨w1, w2, w3, w4, w5, w6⟩, -⟩ := hw
  intro m
  induction m with
  | zero =>
    intro i hi hbad
    have e : i = S 0 1 := by omega
    subst e
    unfold lp_X6_sitBy_4
    rw [hr.1.2.1]
    refine ⟨fun _ => ?_, fun h => absurd ((leI (by omega) (by omega)).mpr (by omega)) h⟩
    rw [hbad] at hp
    exact hp
  | succ m ih =>
    intro i hi hbad
    have hbl : bset (fun c => br c i) (S 0 0) < 32 := Nat.lt_of_lt_of_le (bset_lt _ _) (pow5 w1)
    have hdi := hd i (by omega)
    have hst : stR (S 0 0) i r ≤ i := fb_ct_le _ _
    unfold lp_X6_sitBy_4
    rw [hr.1.2.1, hr.1.1, cl (show i < 2147483648 by omega), h50 i (by omega), h48 i (by omega), eqI (by omega) (by omega), bitZ (by omega) (by omega)]
    refine ⟨fun h => absurd ((leI (by omega) (by omega)).mp h) (by omega), fun _ => ⟨inI (by omega) (by decide), fun h => ?_, fun h => ⟨inI (by omega) (by decide), inI (by omega) (by decide), fun h2 => ?_, fun h2 => ?_⟩⟩⟩
    · rw [addI1]
      have e : stR (S 0 0) (i + 1) r = stR (S 0 0) i r + 1 := by unfold stR; rw [fb_ct_succ]; simp [h]
      have := ih (i + 1) (by omega) (by simp only [badR, anyB] at *; simp [hbad, h])
      rw [e, show i + 1 - (stR (S 0 0) i r + 1) = i - stR (S 0 0) i r by omega] at this
      exact this
    · rw [bset_in (by omega)] at h2
      have hbr : br (r i) i = true := by cases z : br (r i) i with | true => rfl | false => exact absurd z h2
      rw [addI1, addI1]
      have e : stR (S 0 0) (i + 1) r = stR (S 0 0) i r := by unfold stR; rw [fb_ct_succ]; simp [h]
      have := ih (i + 1) (by omega) (by simp only [badR, anyB] at *; simp [hbad, hbr])
      rw [e, show i + 1 - stR (S 0 0) i r = i - stR (S 0 0) i r + 1 by omega] at this
      exact this
    · rw [bset_in (by omega)] at h2
      have e : badR br (S 0 0) r (S 0 1) = true := anyB_t (show i < S 0 1 by omega) (by simp [h, h2])
      rw [e] at hp
      exact hp
theorem sitBy_ok {S : AS} {M : Mem} (hw : wf S) (hr : repM S M) {br : Nat → Nat → Bool} (h48 : ∀ g, g < S 0 1 → M 48 g = nI (bset (fun c => br c g) (S 0 0))) {r : Nat → Nat} (hd : ∀ g, g < S 0 1 → r g ≤ S 0 0) (h50 : ∀ g, g < S 0 1 → M 50 g = nI (r g)) {post : Int32 → Mem → Prop} (hp : post (if badR br (S 0 0) r (S 0 1) then -9 else nI (S 0 1 - stR (S 0 0) (S 0 1) r)) M) : wp_X6_sitBy M post :=
  ⟨S 0 1 + 1, sitBy_loop hw hr h48 hd h50 hp (S 0 1) 0 (by omega) rfl⟩
theorem keepRow_loop {S : AS} {M0 : Mem} (hw : wf S) (hr : repM S M0) {post : Mem → Prop} (hp : ∀ M, (∀ a, a ≠ 51 → M a = M0 a) → (∀ g, g < S 0 1 → M 51 g = M0 50 g) → post M) :
    ∀ (m i : Nat) (M : Mem), i + m = S 0 1 → (∀ a, a ≠ 51 → M a = M0 a) → (∀ g, g < i → M 51 g = M0 50 g) → lp_X6_keepRow_2 post (m + 1) (nI i) M := by
  obtain ⟨⟨w1, w2, w3, w4, w5, w6⟩, -⟩ := hw
  intro m
  induction m with
  | zero =>
    intro i M hi hs hh
    have hr' : repM S M := hr.of (fun a _ ha => hs a (by omega))
    unfold lp_X6_keepRow_2
    rw [hr'.1.2.1]
    exact ⟨fun _ => hp M hs (fun g hg => hh g (by omega)), fun h => absurd ((leI (by omega) (by omega)).mpr (by omega)) h⟩
  | succ m ih =>
    intro i M hi hs hh
    have hr' : repM S M := hr.of (fun a _ ha => hs a (by omega))
    unfold lp_X6_keepRow_2
    rw [hr'.1.2.1, cl (show i < 2147483648 by omega), addI1]
    refine ⟨fun h => absurd ((leI (by omega) (by omega)).mp h) (by omega), fun _ => ⟨inI (by omega) (by decide), inI (by omega) (by decide), fun M1 h1 => ?_⟩⟩
    subst h1
    refine ih (i + 1) _ (by omega) (fun a ha => (up2_n M _ _ ha).trans (hs a ha)) (fun g hg => ?_)
    rw [up2_s, upd_at]
    by_cases z : g = i
    · rw [if_pos z, z, hs 50 (by decide)]
    · rw [if_neg z]; exact hh g (by omega)
theorem keepRow_ok {S : AS} {M : Mem} (hw : wf S) (hr : repM S M) {post : Mem → Prop} (hp : ∀ M', (∀ a, a ≠ 51 → M' a = M a) → (∀ g, g < S 0 1 → M' 51 g = M 50 g) → post M') : wp_X6_keepRow M post :=
  ⟨S 0 1 + 1, keepRow_loop hw hr hp (S 0 1) 0 M (by omega) (fun _ _ => rfl) (fun g hg => absurd hg (by omega))⟩
/-- the first of the least -/
def fmin (val : Nat → Option Nat) : Nat → Option (Nat × Nat)
  | 0 => none
  | n + 1 => match val n with
    | none => fmin val n
    | some v => match fmin val n with
      | none => some (v, n)
      | some (w, i) => if v < w then some (v, n) else some (w, i)
theorem fmin_none {val : Nat → Option Nat} : ∀ {n : Nat}, fmin val n = none → ∀ i, i < n → val i = none
  | n + 1, h, i, hi => by
    simp only [fmin] at h
    cases hv : val n with
    | none =>
      rw [hv] at h
      by_cases e : i = n
      · rw [e, hv]
      · exact fmin_none h i (by omega)
    | some v =>
      rw [hv] at h
      cases hf : fmin val n with
      | none => rw [hf] at h; cases h
      | some p =>
        obtain ⟨w, j⟩ := p
        rw [hf] at h
        simp only at h
        split at h <;> cases h
theorem fmin_some {val : Nat → Option Nat} : ∀ {n w i : Nat}, fmin val n = some (w, i) → i < n ∧ val i = some w ∧ ∀ j v, j < n → val j = some v → w ≤ v ∧ (v = w → i ≤ j)
  | n + 1, w, i, h => by
    simp only [fmin] at h
    cases hv : val n with
    | none =>
      rw [hv] at h
      obtain ⟨a1, a2, a3⟩ := fmin_some (n := n) h
      refine ⟨by omega, a2, fun j v hj q => ?_⟩
      by_cases e : j = n
      · rw [e, hv] at q; cases q
      · exact a3 j v (by omega) q
    | some x =>
      rw [hv] at h
      cases hf : fmin val n with
      | none =>
        rw [hf] at h
        simp only [Option.some.injEq, Prod.mk.injEq] at h
        obtain ⟨rfl, rfl⟩ := h
        refine ⟨by omega, hv, fun j v hj q => ?_⟩
        by_cases e : j = n
        · subst e
          rw [hv] at q
          cases q
          exact ⟨Nat.le_refl _, fun _ => Nat.le_refl _⟩
        · rw [fmin_none hf j (by omega)] at q; cases q
      | some p =>
        obtain ⟨w', i'⟩ := p
        rw [hf] at h
        obtain ⟨a1, a2, a3⟩ := fmin_some (n := n) hf
        simp only at h
        split at h
        · rename_i hlt
          simp only [Option.some.injEq, Prod.mk.injEq] at h
          obtain ⟨rfl, rfl⟩ := h
          refine ⟨by omega, hv, fun j v hj q => ?_⟩
          by_cases e : j = n
          · subst e
            rw [hv] at q
            cases q
            exact ⟨Nat.le_refl _, fun _ => Nat.le_refl _⟩
          · have := a3 j v (by omega) q
            exact ⟨by omega, fun z => by omega⟩
        · rename_i hlt
          simp only [Option.some.injEq, Prod.mk.injEq] at h
          obtain ⟨rfl, rfl⟩ := h
          refine ⟨by omega, a2, fun j v hj q => ?_⟩
          by_cases e : j = n
          · subst e
            rw [hv] at q
            cases q
            exact ⟨by omega, fun _ => by omega⟩
          · exact a3 j v (by omega) q
