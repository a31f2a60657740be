/-! counting sets -/
abbrev pc (x : Nat) : Nat := fb_ct (fun i => x.testBit i) 5
theorem pc_le (x : Nat) : pc x ≤ 5 := fb_ct_le _ 5
def bcF (p0 : Int32) : Int32 :=
  let v1 := p0 - (((p0.toUInt32 >>> ((1 : Int32).toUInt32 &&& Int32.toUInt32 31)).toInt32) &&& 1431655765)
  let v2 := (v1 &&& 858993459) + (((v1.toUInt32 >>> ((2 : Int32).toUInt32 &&& Int32.toUInt32 31)).toInt32) &&& 858993459)
  let v3 := (v2 + ((v2.toUInt32 >>> ((4 : Int32).toUInt32 &&& Int32.toUInt32 31)).toInt32)) &&& 252645135
  let v4 := v3 + ((v3.toUInt32 >>> ((8 : Int32).toUInt32 &&& Int32.toUInt32 31)).toInt32)
  let v5 := v4 + ((v4.toUInt32 >>> ((16 : Int32).toUInt32 &&& Int32.toUInt32 31)).toInt32)
  v5 &&& 63
theorem bcF_32 : ∀ x : Fin 32, bcF (nI x.val) = nI (pc x.val) := by decide +kernel
theorem bitCount_ok {x : Nat} (hx : x < 32) {M : Mem} {post : Int32 → Mem → Prop} (hp : post (nI (pc x)) M) : wp_J6_bitCount_0f7a4 (nI x) M post := by
  have e := bcF_32 ⟨x, hx⟩
  dsimp only at e
  rw [← e] at hp
  unfold wp_J6_bitCount_0f7a4
  intro v1 h1 v2 h2 v3 h3 v4 h4 v5 h5
  subst h1 h2 h3 h4 h5
  exact hp
theorem size_loop {p0 : Int32} {M : Mem} {post : Int32 → Mem → Prop} : ∀ (k x a : Nat), x < 2 ^ k → k ≤ 5 → post (nI (a + fb_ct (fun i => x.testBit i) k)) M → lp_X6_size_4 p0 post (k + 1) (nI a) (nI x) M := by
  intro k
  induction k with
  | zero =>
    intro x a hx _ hp
    have e : x = 0 := by simpa using hx
    subst e
    unfold lp_X6_size_4
    refine ⟨fun _ => hp, fun h => absurd (by decide) h⟩
  | succ k ih =>
    intro x a hx hk hp
    have h32 : x < 32 := Nat.lt_of_lt_of_le hx (pow5 hk)
    unfold lp_X6_size_4
    rw [show (0 : Int32) = nI 0 from rfl, leI (by omega) (by decide)]
    refine ⟨fun h => ?_, fun _ v1 h1 v2 h2 => ?_⟩
    · have e : x = 0 := by omega
      subst e
      have e2 : fb_ct (fun i => (0 : Nat).testBit i) (k + 1) = 0 := fb_ct_zero.mpr (fun j _ => by simp)
      rw [e2] at hp
      exact hp
    · have e1 : v1 = nI (a + x % 2) := by
        rw [h1, show (1 : Int32) = nI (2 ^ 1 - 1) from rfl, fa_mask, nI_add]
      have e2 : v2 = nI (x / 2) := by
        rw [h2, show (1 : Int32) = nI 1 from rfl, shrI (by omega) (by decide)]
      subst e1 e2
      refine ih (x / 2) (a + x % 2) (by rw [Nat.pow_succ] at hx; omega) (by omega) ?_
      · rw [show k + 1 = 1 + k by omega, fb_ct_split] at hp
        have e3 : fb_ct (fun i => x.testBit i) 1 = x % 2 := by
          simp only [fb_ct, Nat.testBit_zero, Nat.zero_add]
          by_cases q : x % 2 = 1
          · simp [q]
          · simp [q]; omega
        have e4 : fb_ct (fun j => x.testBit (1 + j)) k = fb_ct (fun i => (x / 2).testBit i) k := fb_ct_cong (fun j _ => by rw [Nat.add_comm, Nat.testBit_succ])
        rw [e3, e4] at hp
        rw [Nat.add_assoc]
        exact hp
theorem size_ok {x : Nat} (hx : x < 32) {M : Mem} {post : Int32 → Mem → Prop} (hp : post (nI (pc x)) M) : wp_X6_size (nI x) M post :=
  ⟨6, size_loop 5 x 0 hx (by decide) (by rw [Nat.zero_add]; exact hp)⟩
theorem fb_ct_bset (p : Nat → Bool) {n m : Nat} (h : n ≤ m) : fb_ct (fun i => (bset p n).testBit i) m = fb_ct p n := by
  obtain ⟨k, rfl⟩ : ∃ k, m = n + k := ⟨m - n, by omega⟩
  rw [fb_ct_split]
  have e1 : fb_ct (fun i => (bset p n).testBit i) n = fb_ct p n := fb_ct_cong (fun j hj => bset_in hj)
  have e2 : fb_ct (fun i => (bset p n).testBit (n + i)) k = 0 := fb_ct_zero.mpr (fun j _ => by rw [bset_bit]; simp; omega)
  rw [e1, e2]
  rfl
/-! who is short of chairs: br c g, nc chairs, ng guests -/
def nbr (br : Nat → Nat → Bool) (ng s c : Nat) : Bool := anyB (fun g => s.testBit g && br c g) ng
def shortB (br : Nat → Nat → Bool) (nc ng s : Nat) : Bool := decide (fb_ct (nbr br ng s) nc < pc s)
theorem and_z {br : Nat → Bool} {ng s : Nat} (hng : ng ≤ 5) : nI (bset br ng) &&& nI s = 0 ↔ anyB (fun g => s.testBit g && br g) ng = false := by
  rw [fa_and]
  have hl : bset br ng &&& s < 2147483648 := by
    have h1 := bset_lt br ng
    have h2 := pow5 hng
    have h3 : bset br ng &&& s ≤ bset br ng := Nat.and_le_left
    omega
  rw [show (0 : Int32) = nI 0 from rfl, eqI hl (by decide), anyB_fi]
  constructor
  · intro h j hj
    have h1 : (bset br ng &&& s).testBit j = false := by rw [h]; simp
    rw [Nat.testBit_and, bset_in hj] at h1
    rw [Bool.and_comm]
    exact h1
  · intro h
    apply Nat.eq_of_testBit_eq
    intro i
    rw [Nat.testBit_and, bset_bit, Nat.zero_testBit]
    by_cases hi : i < ng
    · have := h i hi
      rw [Bool.and_comm] at this
      simp [hi]
      simpa using this
    · simp [hi]
theorem isShort_loop {S : AS} {M : Mem} (hw : wf S) (hr : repC S M) {br : Nat → Nat → Bool} (h21 : ∀ c, c < S 0 0 → M 21 c = nI (bset (br c) (S 0 1))) {s : Nat} (hs : s < 32) {post : Int32 → Mem → Prop} (hp : post (b2i (shortB br (S 0 0) (S 0 1) s)) M) :
    ∀ (m i : Nat), i + m = S 0 0 → lp_X1_isShort_4 (nI s) post (m + 1) (nI (fb_ct (nbr br (S 0 1) s) i)) (nI i) M := by
  obtain ⟨⟨w1, w2, w3, w4, w5, w6⟩, wc, ws, wb, wr⟩ := hw
  intro m
  induction m with
  | zero =>
    intro i hi
    have hi2 : i = S 0 0 := by omega
    subst hi2
    have hle := fb_ct_le (nbr br (S 0 1) s) (S 0 0)
    have hpc := pc_le s
    unfold lp_X1_isShort_4
    rw [hr.1.1]
    refine ⟨fun _ => bitCount_ok hs ⟨fun h => ?_, fun h => ?_⟩, fun h => absurd ((leI (by omega) (by omega)).mpr (by omega)) h⟩
    · rw [leI (by omega) (by omega)] at h
      have e : shortB br (S 0 0) (S 0 1) s = false := by unfold shortB; rw [decide_eq_false_iff_not]; omega
      rw [e] at hp
      exact hp
    · rw [leI (by omega) (by omega)] at h
      have e : shortB br (S 0 0) (S 0 1) s = true := by unfold shortB; rw [decide_eq_true_iff]; omega
      rw [e] at hp
      exact hp
  | succ m ih =>
    intro i hi
    unfold lp_X1_isShort_4
    rw [hr.1.1, cl (show i < 2147483648 by omega), h21 i (by omega), and_z w2]
    refine ⟨fun h => absurd ((leI (by omega) (by omega)).mp h) (by omega), fun _ => ⟨inI (by omega) (by decide), fun h => ?_, fun h => ?_⟩⟩
    · rw [addI1]
      have e : fb_ct (nbr br (S 0 1) s) (i + 1) = fb_ct (nbr br (S 0 1) s) i := by
        rw [fb_ct_succ, show nbr br (S 0 1) s i = false from h]; rfl
      rw [← e]
      exact ih (i + 1) (by omega)
    · rw [addI1, addI1]
      have e : fb_ct (nbr br (S 0 1) s) (i + 1) = fb_ct (nbr br (S 0 1) s) i + 1 := by
        rw [fb_ct_succ, show nbr br (S 0 1) s i = true by cases q : nbr br (S 0 1) s i with | true => rfl | false => exact absurd q h]; rfl
      rw [← e]
      exact ih (i + 1) (by omega)
theorem isShort_ok {S : AS} {M : Mem} (hw : wf S) (hr : repC S M) {br : Nat → Nat → Bool} (h21 : ∀ c, c < S 0 0 → M 21 c = nI (bset (br c) (S 0 1))) {s : Nat} (hs : s < 32) {post : Int32 → Mem → Prop} (hp : post (b2i (shortB br (S 0 0) (S 0 1) s)) M) : wp_X1_isShort (nI s) M post :=
  ⟨S 0 0 + 1, isShort_loop hw hr h21 hs hp (S 0 0) 0 (by omega)⟩
def hallC (br : Nat → Nat → Bool) (nc ng : Nat) : Bool := !anyB (fun s => decide (1 ≤ s) && shortB br nc ng s) (2 ^ ng)
theorem allSit_loop {S : AS} {M : Mem} (hw : wf S) (hr : repC S M) {br : Nat → Nat → Bool} (h21 : ∀ c, c < S 0 0 → M 21 c = nI (bset (br c) (S 0 1))) {post : Int32 → Mem → Prop} (hp : post (b2i (hallC br (S 0 0) (S 0 1))) M) :
    ∀ (m i : Nat), i + m = 2 ^ S 0 1 → 1 ≤ i → (∀ s, s < i → (decide (1 ≤ s) && shortB br (S 0 0) (S 0 1) s) = false) → lp_X1_allCanSit_2 post (m + 1) (nI i) M := by
  have hw0 := hw
  obtain ⟨⟨w1, w2, w3, w4, w5, w6⟩, wc, ws, wb, wr⟩ := hw
  have h5 := pow5 w2
  intro m
  induction m with
  | zero =>
    intro i hi h1 hn
    unfold lp_X1_allCanSit_2
    rw [hr.1.2.1, shl1 (by omega)]
    refine ⟨fun _ => ?_, fun h => absurd ((leI (by omega) (by omega)).mpr (by omega)) h⟩
    have e : hallC br (S 0 0) (S 0 1) = true := by
      unfold hallC
      rw [anyB_f (fun j hj => hn j (by omega))]
      rfl
    rw [e] at hp
    exact hp
  | succ m ih =>
    intro i hi h1 hn
    unfold lp_X1_allCanSit_2
    rw [hr.1.2.1, shl1 (by omega)]
    refine ⟨fun h => absurd ((leI (by omega) (by omega)).mp h) (by omega), fun _ => isShort_ok hw0 hr h21 (by omega) ⟨fun h => ?_, fun h => ?_⟩⟩
    · rw [addI1]
      refine ih (i + 1) (by omega) (by omega) (fun s hs => ?_)
      rcases Nat.lt_or_ge s i with q | q
      · exact hn s q
      · have : s = i := by omega
        subst this
        simp [b2i_z.mp h]
    · have e : hallC br (S 0 0) (S 0 1) = false := by
        unfold hallC
        rw [anyB_t (show i < 2 ^ S 0 1 by omega) (by simp [h1, b2i_nz.mp h])]
        rfl
      rw [e] at hp
      exact hp
theorem allSit_ok {S : AS} {M : Mem} (hw : wf S) (hr : repC S M) {br : Nat → Nat → Bool} (h21 : ∀ c, c < S 0 0 → M 21 c = nI (bset (br c) (S 0 1))) {post : Int32 → Mem → Prop} (hp : post (b2i (hallC br (S 0 0) (S 0 1))) M) : wp_X1_allCanSit M post :=
  ⟨2 ^ S 0 1 - 1 + 1, allSit_loop hw hr h21 hp (2 ^ S 0 1 - 1) 1 (by have := Nat.one_le_two_pow (n := S 0 1); omega) (by omega) (fun s hs => by simp; omega)⟩
/-- the least of the smallest sets that are short: (set or 0, its size or 6) among those below n -/
def fewF (sh : Nat → Bool) : Nat → Nat × Nat
  | 0 => (0, 6)
  | n + 1 => if (decide (1 ≤ n) && (sh n && decide (pc n < (fewF sh n).2))) = true then (n, pc n) else fewF sh n
def fewI (x : Nat) : Int32 := if x = 0 then -9 else nI x
theorem fewF_inv (sh : Nat → Bool) : ∀ n, ((fewF sh n).1 = 0 → (fewF sh n).2 = 6) ∧ (¬ (fewF sh n).1 = 0 → (fewF sh n).2 = pc (fewF sh n).1) ∧ ((fewF sh n).1 < n ∨ (fewF sh n).1 = 0) ∧ (fewF sh n).2 ≤ 6
  | 0 => ⟨fun _ => rfl, fun h => absurd rfl h, Or.inr rfl, Nat.le_refl _⟩
  | n + 1 => by
    have ih := fewF_inv sh n
    by_cases h : (decide (1 ≤ n) && (sh n && decide (pc n < (fewF sh n).2))) = true
    · have h1 : 1 ≤ n := by simp only [Bool.and_eq_true, decide_eq_true_eq] at h; exact h.1
      simp only [fewF, if_pos h]
      exact ⟨fun e => by omega, fun _ => by first | rfl | trivial, Or.inl (by omega), Nat.le_succ_of_le (pc_le n)⟩
    · simp only [fewF, if_neg h]
      exact ⟨ih.1, ih.2.1, ih.2.2.1.elim (fun q => Or.inl (by omega)) Or.inr, ih.2.2.2⟩
theorem cfew_loop {S : AS} {M : Mem} (hw : wf S) (hr : repC S M) {br : Nat → Nat → Bool} (h21 : ∀ c, c < S 0 0 → M 21 c = nI (bset (br c) (S 0 1))) {post : Int32 → Mem → Prop} (hp : post (fewI (fewF (shortB br (S 0 0) (S 0 1)) (2 ^ S 0 1)).1) M) :
    ∀ (m i : Nat), i + m = 2 ^ S 0 1 → 1 ≤ i → lp_X1_smallestShortSet_8 post (m + 1) (fewI (fewF (shortB br (S 0 0) (S 0 1)) i).1) (nI (fewF (shortB br (S 0 0) (S 0 1)) i).2) (nI i) M := by
  have hw0 := hw
  obtain ⟨⟨w1, w2, w3, w4, w5, w6⟩, wc, ws, wb, wr⟩ := hw
  have h5 := pow5 w2
  intro m
  induction m with
  | zero =>
    intro i hi h1
    have hi2 : i = 2 ^ S 0 1 := by omega
    unfold lp_X1_smallestShortSet_8
    rw [hr.1.2.1, shl1 (by omega)]
    refine ⟨fun _ => ?_, fun h => absurd ((leI (by omega) (by omega)).mpr (by omega)) h⟩
    rw [← hi2] at hp
    exact hp
  | succ m ih =>
    intro i hi h1
    have hi32 : i < 32 := by omega
    have hpc := pc_le i
    obtain ⟨f1, f2, f3, f4⟩ := fewF_inv (shortB br (S 0 0) (S 0 1)) i
    have no : (shortB br (S 0 0) (S 0 1) i && decide (pc i < (fewF (shortB br (S 0 0) (S 0 1)) i).2)) = false → lp_X1_smallestShortSet_8 post (m + 1) (fewI (fewF (shortB br (S 0 0) (S 0 1)) i).1) (nI (fewF (shortB br (S 0 0) (S 0 1)) i).2) (nI i + 1) M := by
      intro hf
      have e : fewF (shortB br (S 0 0) (S 0 1)) (i + 1) = fewF (shortB br (S 0 0) (S 0 1)) i := if_neg (by rw [hf, Bool.and_false]; decide)
      rw [addI1, ← e]
      exact ih (i + 1) (by omega) (by omega)
    unfold lp_X1_smallestShortSet_8
    rw [hr.1.2.1, shl1 (by omega)]
    refine ⟨fun h => absurd ((leI (by omega) (by omega)).mp h) (by omega), fun _ => bitCount_ok hi32 ⟨fun h => no ?_, fun h => isShort_ok hw0 hr h21 hi32 ⟨fun h2 => no ?_, fun h2 => bitCount_ok hi32 ?_⟩⟩⟩
    · rw [leI (by omega) (by omega)] at h
      simp [show ¬ pc i < (fewF (shortB br (S 0 0) (S 0 1)) i).2 by omega]
    · simp [b2i_z.mp h2]
    · rw [leI (by omega) (by omega)] at h
      have e : fewF (shortB br (S 0 0) (S 0 1)) (i + 1) = (i, pc i) := if_pos (by simp [h1, b2i_nz.mp h2, show pc i < (fewF (shortB br (S 0 0) (S 0 1)) i).2 by omega])
      have := ih (i + 1) (by omega) (by omega)
      rw [e] at this
      rw [addI1]
      have e2 : fewI i = nI i := if_neg (by omega)
      rw [e2] at this
      exact this
theorem cfew_ok {S : AS} {M : Mem} (hw : wf S) (hr : repC S M) {br : Nat → Nat → Bool} (h21 : ∀ c, c < S 0 0 → M 21 c = nI (bset (br c) (S 0 1))) {post : Int32 → Mem → Prop} (hp : post (fewI (fewF (shortB br (S 0 0) (S 0 1)) (2 ^ S 0 1)).1) M) : wp_X1_smallestShortSet M post :=
  ⟨2 ^ S 0 1 - 1 + 1, cfew_loop hw hr h21 hp (2 ^ S 0 1 - 1) 1 (by have := Nat.one_le_two_pow (n := S 0 1); omega) (by omega)⟩
