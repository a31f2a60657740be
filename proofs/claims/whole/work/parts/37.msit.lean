/-! the reference's mostSit -/
def cur1 (br : Nat → Nat → Bool) (g nc : Nat) (A : Nat → Bool) (T s : Nat) : Bool := A s || anyB (fun c => s.testBit c && (br c g && (A (s - 2 ^ c) && decide (T ≤ s - 2 ^ c)))) nc
def cur2 (br : Nat → Nat → Bool) (g nc : Nat) (A : Nat → Bool) (t j s : Nat) : Bool := A s || anyB (fun c => s.testBit c && (br c g && (A (s - 2 ^ c) && (decide (t + 1 ≤ s - 2 ^ c) || (decide (s - 2 ^ c = t) && decide (c < j)))))) nc
theorem cur1_32 {br : Nat → Nat → Bool} {g nc : Nat} {A : Nat → Bool} {s : Nat} (hs : s < 32) : cur1 br g nc A 32 s = A s := by
  unfold cur1
  rw [anyB_f (fun c _ => by simp [show ¬ 32 ≤ s - 2 ^ c from Nat.not_le.mpr (Nat.lt_of_le_of_lt (Nat.sub_le s _) hs)]), Bool.or_false]
theorem cur1_0 {br : Nat → Nat → Bool} {g nc s : Nat} : cur1 br g nc (csF br nc g) 0 s = csF br nc (g + 1) s := by
  unfold cur1
  simp only [csF]
  congr 1
  exact anyB_cong (fun c _ => by simp)
theorem cur2_0 {br : Nat → Nat → Bool} {g nc : Nat} {A : Nat → Bool} {t s : Nat} : cur2 br g nc A t 0 s = cur1 br g nc A (t + 1) s := by
  unfold cur1 cur2
  congr 1
  exact anyB_cong (fun c _ => by simp)
theorem cur2_n {br : Nat → Nat → Bool} {g nc : Nat} {A : Nat → Bool} {t j s : Nat} (hj : nc ≤ j) : cur2 br g nc A t j s = cur1 br g nc A t s := by
  unfold cur1 cur2
  congr 1
  refine anyB_cong (fun c hc => ?_)
  have e : (decide (t + 1 ≤ s - 2 ^ c) || (decide (s - 2 ^ c = t) && decide (c < j))) = decide (t ≤ s - 2 ^ c) := by
    rw [show decide (c < j) = true by simp; omega, Bool.and_true]
    by_cases h : t ≤ s - 2 ^ c
    · by_cases h2 : s - 2 ^ c = t
      · simp [h2]
      · simp [h, h2]; omega
    · simp [h]; omega
  rw [e]
theorem cur2_t {br : Nat → Nat → Bool} {g nc : Nat} {A : Nat → Bool} {t j : Nat} : cur2 br g nc A t j t = A t := by
  unfold cur2
  rw [anyB_f (fun c _ => ?_), Bool.or_false]
  cases q : t.testBit c with
  | false => simp
  | true =>
    have h1 := bit_sub q
    have h2 := Nat.two_pow_pos c
    simp [show ¬ t + 1 ≤ t - 2 ^ c by omega, show ¬ t - 2 ^ c = t by omega]
theorem cur2_no {br : Nat → Nat → Bool} {g nc : Nat} {A : Nat → Bool} {t j s : Nat} (h : A t = false) : cur2 br g nc A t j s = cur1 br g nc A t s := by
  unfold cur1 cur2
  congr 1
  refine anyB_cong (fun c _ => ?_)
  by_cases e : s - 2 ^ c = t
  · rw [e, h]; simp
  · have e2 : decide (t + 1 ≤ s - 2 ^ c) = decide (t ≤ s - 2 ^ c) := by
      by_cases q : t ≤ s - 2 ^ c
      · simp [q]; omega
      · simp [q]; omega
    simp [e, e2]
theorem cur2_skip {br : Nat → Nat → Bool} {g nc : Nat} {A : Nat → Bool} {t j s : Nat} (h : t.testBit j = true ∨ br j g = false) : cur2 br g nc A t (j + 1) s = cur2 br g nc A t j s := by
  unfold cur2
  congr 1
  refine anyB_cong (fun c _ => ?_)
  by_cases e : c = j
  · subst e
    rcases h with h | h
    · cases q : s.testBit c with
      | false => simp
      | true =>
        have hne : ¬ s - 2 ^ c = t := fun z => by
          have := sub_bit q c
          rw [z, h] at this
          simp at this
        simp [hne]
    · simp [h]
  · have : decide (c < j + 1) = decide (c < j) := by
      by_cases q : c < j
      · simp [q]; omega
      · simp [q]; omega
    rw [this]
theorem cur2_set {br : Nat → Nat → Bool} {g nc : Nat} {A : Nat → Bool} {t j s : Nat} (hj : j < nc) (hA : A t = true) (hb : t.testBit j = false) (hbr : br j g = true) : cur2 br g nc A t (j + 1) s = if s = t + 2 ^ j then true else cur2 br g nc A t j s := by
  by_cases e : s = t + 2 ^ j
  · rw [if_pos e]
    unfold cur2
    have hbit : s.testBit j = true := by rw [e, add_bit hb]; simp
    have hsub : s - 2 ^ j = t := by omega
    rw [anyB_t hj (by simp [hbit, hbr, hsub, hA]), Bool.or_true]
  · rw [if_neg e]
    unfold cur2
    congr 1
    refine anyB_cong (fun c _ => ?_)
    by_cases e2 : c = j
    · subst e2
      cases q : s.testBit c with
      | false => simp
      | true =>
        have h1 := bit_sub q
        simp [show ¬ s - 2 ^ c = t by omega]
    · have : decide (c < j + 1) = decide (c < j) := by
        by_cases q : c < j
        · simp [q]; omega
        · simp [q]; omega
      rw [this]
theorem narB : vp_nar .boolean 1 = 1 ∧ vp_nar .boolean 0 = 0 := ⟨rfl, rfl⟩
theorem sit_in {S : AS} {M0 : Mem} (hw : wf S) (hr : repM S M0) {br : Nat → Nat → Bool} (h48 : ∀ g, g < S 0 1 → M0 48 g = nI (bset (fun c => br c g) (S 0 0))) {A : Nat → Bool} {g t : Nat} (hg : g < S 0 1) (ht : t < 32) (htn : A t = true → t < 2 ^ S 0 0) {post : Int32 → Mem → Prop} {B1 : Int32 → Mem → Prop} {B2 : Int32 → Int32 → Mem → Prop}
    (hB : ∀ M, (∀ a, a ≠ 49 → M a = M0 a) → (∀ s, s < 32 → M 49 s = b2i (cur1 br g (S 0 0) A t s)) → B2 (nI g) (nI t + (-1)) M) :
    ∀ (m j : Nat) (M : Mem), j + m = S 0 0 → (∀ a, a ≠ 49 → M a = M0 a) → (∀ s, s < 32 → M 49 s = b2i (cur2 br g (S 0 0) A t j s)) → lp_X6_mostSit_48 post B1 B2 (m + 1) (nI g) (nI t) (nI j) M := by
  have hw0 := hw
  obtain ⟨⟨w1, w2, w3, w4, w5, w6⟩, wc, ws, wb, wr⟩ := hw
  intro m
  induction m with
  | zero =>
    intro j M hj hs hh
    have hr' : repM S M := hr.of (fun a _ ha => hs a (by omega))
    unfold lp_X6_mostSit_48
    rw [hr'.1.1]
    refine ⟨fun _ => hB M hs (fun s h => by rw [hh s h, cur2_n (by omega)]), fun h => absurd ((leI (by omega) (by omega)).mpr (by omega)) h⟩
  | succ m ih =>
    intro j M hj hs hh
    have hr' : repM S M := hr.of (fun a _ ha => hs a (by omega))
    have hbl : bset (fun c => br c g) (S 0 0) < 32 := Nat.lt_of_lt_of_le (bset_lt _ _) (pow5 w1)
    unfold lp_X6_mostSit_48
    rw [hr'.1.1, cl (show t < 2147483648 by omega), cl (show g < 2147483648 by omega), hh t ht, cur2_t, b2i_z, bitZ (show t < 2147483648 by omega) (by omega), hs 48 (by decide), h48 g hg, bit1 (by omega) (by omega), bset_in (by omega)]
    refine ⟨fun h => absurd ((leI (by omega) (by omega)).mp h) (by omega), fun _ => ⟨inI ht (by decide), fun h => hB M hs (fun s q => by rw [hh s q, cur2_no h]), fun h => ⟨fun h2 => ?_, fun h2 => ⟨inI (by omega) (by decide), fun h3 => ?_, fun h3 => ?_⟩⟩⟩⟩
    · rw [addI1]
      refine ih (j + 1) M (by omega) hs (fun s q => ?_)
      rw [hh s q, cur2_skip (Or.inl (by cases z : t.testBit j with | true => rfl | false => exact absurd z h2))]
    · rw [addI1]
      refine ih (j + 1) M (by omega) hs (fun s q => ?_)
      rw [hh s q, cur2_skip (Or.inr (by cases z : br j g with | false => rfl | true => exact absurd z h3))]
    · have hA : A t = true := by cases z : A t with | true => rfl | false => exact absurd z h
      have hlt : t + 2 ^ j < 32 := Nat.lt_of_lt_of_le (add_lt (htn hA) (show j < S 0 0 by omega) h2) (pow5 w1)
      have e : nI t ||| (1 <<< (nI j &&& 31)) = nI (t + 2 ^ j) := by rw [shl1 (by omega), fa_or, or_add h2]
      rw [e, cl (by omega), addI1]
      refine ⟨inI hlt (by decide), fun M6 h6 => ?_⟩
      subst h6
      refine ih (j + 1) _ (by omega) (fun a ha => (up2_n M _ _ ha).trans (hs a ha)) (fun s q => ?_)
      rw [up2_s, upd_at, cur2_set (by omega) hA h2 h3]
      by_cases z : s = t + 2 ^ j
      · rw [if_pos z, if_pos z]; rfl
      · rw [if_neg z, if_neg z]; exact hh s q
theorem m1_z : nI 0 + (-1) < 0 := by decide
theorem sit_set {S : AS} {M0 : Mem} (hw : wf S) (hr : repM S M0) {br : Nat → Nat → Bool} (h48 : ∀ g, g < S 0 1 → M0 48 g = nI (bset (fun c => br c g) (S 0 0))) {A : Nat → Bool} {g : Nat} (hg : g < S 0 1) (htn : ∀ t, A t = true → t < 2 ^ S 0 0) {post : Int32 → Mem → Prop} {B1 : Int32 → Mem → Prop}
    (hB : ∀ M, (∀ a, a ≠ 49 → M a = M0 a) → (∀ s, s < 32 → M 49 s = b2i (cur1 br g (S 0 0) A 0 s)) → B1 (nI (g + 1)) M) :
    ∀ (T : Nat) (M : Mem), T ≤ 32 → (∀ a, a ≠ 49 → M a = M0 a) → (∀ s, s < 32 → M 49 s = b2i (cur1 br g (S 0 0) A T s)) → lp_X6_mostSit_42 post B1 (T + 1) (nI g) (nI T + (-1)) M := by
  intro T
  induction T with
  | zero =>
    intro M _ hs hh
    unfold lp_X6_mostSit_42
    refine ⟨fun _ => ?_, fun h => absurd m1_z h⟩
    rw [addI1]
    exact hB M hs hh
  | succ t ih =>
    intro M hT hs hh
    unfold lp_X6_mostSit_42
    rw [pk_m1]
    refine ⟨fun h => absurd h (negI (by omega)), fun _ => ⟨S 0 0 + 1, ?_⟩⟩
    exact sit_in hw hr h48 hg (show t < 32 by omega) (htn t) (fun M1 a1 a2 => ih M1 (by omega) a1 a2) (S 0 0) 0 M (by omega) hs (fun s q => by rw [hh s q, cur2_0])
theorem csF_lt {br : Nat → Nat → Bool} {nc : Nat} : ∀ (i s : Nat), csF br nc i s = true → s < 2 ^ nc
  | 0, s, h => by
    have e : s = 0 := by simpa [csF] using h
    subst e
    exact Nat.two_pow_pos nc
  | i + 1, s, h => by
    simp only [csF, Bool.or_eq_true] at h
    rcases h with h | h
    · exact csF_lt i s h
    · obtain ⟨c, hc, q⟩ := anyB_iff.mp h
      simp only [Bool.and_eq_true] at q
      have h1 := csF_lt i _ q.2.2
      have h2 := add_lt h1 hc (by rw [sub_bit q.1]; simp)
      rw [show s - 2 ^ c + 2 ^ c = s by have := bit_sub q.1; omega] at h2
      exact h2
theorem sit_best {M0 : Mem} {can : Nat → Bool} {post : Int32 → Mem → Prop} (hh : ∀ s, s < 32 → M0 49 s = b2i (can s)) (hp : post (nI (mostF can 32)) M0) :
    ∀ (m i : Nat), i + m = 32 → lp_X6_mostSit_120 post (m + 1) (nI (mostF can i)) (nI i) M0 := by
  intro m
  induction m with
  | zero =>
    intro i hi
    unfold lp_X6_mostSit_120
    have e : i = 32 := by omega
    subst e
    exact ⟨fun _ => hp, fun h => absurd (by decide) h⟩
  | succ m ih =>
    intro i hi
    have hm := mostF_le (can := can) i
    have hpc := pc_le i
    unfold lp_X6_mostSit_120
    rw [show (32 : Int32) = nI 32 from rfl, cl (show i < 2147483648 by omega), hh i (by omega), b2i_z]
    have no : (can i && decide (mostF can i < pc i)) = false → lp_X6_mostSit_120 post (m + 1) (nI (mostF can i)) (nI i + 1) M0 := by
      intro q
      have e : mostF can (i + 1) = mostF can i := if_neg (by rw [q]; decide)
      rw [addI1, ← e]
      exact ih (i + 1) (by omega)
    refine ⟨fun h => absurd ((leI (by omega) (by omega)).mp h) (by omega), fun _ => ⟨inI (by omega) (by decide), fun h => no (by simp [h]), fun h => size_ok (by omega) ⟨fun h2 => no ?_, fun h2 => size_ok (by omega) ?_⟩⟩⟩
    · rw [leI (by omega) (by omega)] at h2
      simp [show ¬ mostF can i < pc i by omega]
    · rw [leI (by omega) (by omega)] at h2
      have hc : can i = true := by cases z : can i with | true => rfl | false => exact absurd z h
      have e : mostF can (i + 1) = pc i := if_pos (by simp [hc, show mostF can i < pc i by omega])
      rw [addI1, ← e]
      exact ih (i + 1) (by omega)
theorem sit_g {S : AS} {M0 : Mem} (hw : wf S) (hr : repM S M0) {br : Nat → Nat → Bool} (h48 : ∀ g, g < S 0 1 → M0 48 g = nI (bset (fun c => br c g) (S 0 0))) {post : Int32 → Mem → Prop}
    (hp : ∀ M, (∀ a, a ≠ 49 → M a = M0 a) → post (nI (mmF br (S 0 0) (S 0 1))) M) :
    ∀ (m g : Nat) (M : Mem), g + m = S 0 1 → (∀ a, a ≠ 49 → M a = M0 a) → (∀ s, s < 32 → M 49 s = b2i (csF br (S 0 0) g s)) → lp_X6_mostSit_31 post (m + 1) (nI g) M := by
  have hw0 := hw
  obtain ⟨⟨w1, w2, w3, w4, w5, w6⟩, wc, ws, wb, wr⟩ := hw
  intro m
  induction m with
  | zero =>
    intro g M hg hs hh
    have hr' : repM S M := hr.of (fun a _ ha => hs a (by omega))
    unfold lp_X6_mostSit_31
    rw [hr'.1.2.1]
    have e : g = S 0 1 := by omega
    subst e
    exact ⟨fun _ => ⟨33, sit_best hh (hp M hs) 32 0 (by omega)⟩, fun h => absurd ((leI (by omega) (by omega)).mpr (by omega)) h⟩
  | succ m ih =>
    intro g M hg hs hh
    have hr' : repM S M := hr.of (fun a _ ha => hs a (by omega))
    unfold lp_X6_mostSit_31
    rw [hr'.1.2.1]
    refine ⟨fun h => absurd ((leI (by omega) (by omega)).mp h) (by omega), fun _ => ⟨33, ?_⟩⟩
    have h := sit_set hw0 hr h48 (A := csF br (S 0 0) g) (g := g) (by omega) (csF_lt g) (post := post) (B1 := fun y1 M' => lp_X6_mostSit_31 post (m + 1) y1 M') (fun M1 a1 a2 => ih (g + 1) M1 (by omega) a1 (fun s q => by rw [a2 s q, cur1_0])) 32 M (by decide) hs (fun s q => by rw [hh s q, cur1_32 q])
    exact h
theorem sit_init {S : AS} {M0 : Mem} (hw : wf S) (hr : repM S M0) {br : Nat → Nat → Bool} (h48 : ∀ g, g < S 0 1 → M0 48 g = nI (bset (fun c => br c g) (S 0 0))) {post : Int32 → Mem → Prop}
    (hp : ∀ M, (∀ a, a ≠ 49 → M a = M0 a) → post (nI (mmF br (S 0 0) (S 0 1))) M) :
    ∀ (m i : Nat) (M : Mem), i + m = 32 → (∀ a, a ≠ 49 → M a = M0 a) → (∀ s, s < i → M 49 s = b2i (decide (s = 0))) → lp_X6_mostSit_2 post (m + 1) (nI i) M := by
  intro m
  induction m with
  | zero =>
    intro i M hi hs hh
    have e : i = 32 := by omega
    subst e
    unfold lp_X6_mostSit_2
    exact ⟨fun _ => ⟨S 0 1 + 1, sit_g hw hr h48 hp (S 0 1) 0 M (by omega) hs hh⟩, fun h => absurd (by decide) h⟩
  | succ m ih =>
    intro i M hi hs hh
    have stp : ∀ v : Int32, vp_nar .boolean v = b2i (decide (i = 0)) → jn_X6_mostSit_22 post (fun y1 M' => lp_X6_mostSit_2 post (m + 1) y1 M') (nI i) v (nI i) M := by
      intro v hv
      unfold jn_X6_mostSit_22
      rw [cl (show i < 2147483648 by omega), addI1, hv]
      refine ⟨inI (by omega) (by decide), fun M1 h1 => ?_⟩
      subst h1
      refine ih (i + 1) _ (by omega) (fun a ha => (up2_n M _ _ ha).trans (hs a ha)) (fun s q => ?_)
      rw [up2_s, upd_at]
      by_cases z : s = i
      · rw [if_pos z, z]
      · rw [if_neg z]; exact hh s (by omega)
    unfold lp_X6_mostSit_2
    rw [show (32 : Int32) = nI 32 from rfl, show (0 : Int32) = nI 0 from rfl, eqI (by omega) (by decide)]
    refine ⟨fun h => absurd ((leI (by omega) (by omega)).mp h) (by omega), fun _ => ⟨fun h => stp _ ?_, fun h => stp _ ?_⟩⟩
    · rw [show decide (i = 0) = false by simp [h]]; rfl
    · rw [show decide (i = 0) = true by simp [h]]; rfl
theorem mostSit_ok {S : AS} {M : Mem} (hw : wf S) (hr : repM S M) {br : Nat → Nat → Bool} (h48 : ∀ g, g < S 0 1 → M 48 g = nI (bset (fun c => br c g) (S 0 0))) {post : Int32 → Mem → Prop}
    (hp : ∀ M', (∀ a, a ≠ 49 → M' a = M a) → post (nI (mmF br (S 0 0) (S 0 1))) M') : wp_X6_mostSit M post :=
  ⟨33, sit_init hw hr h48 hp 32 0 M (by omega) (fun _ _ => rfl) (fun s h => absurd h (by omega))⟩
theorem mostIn_ok {S : AS} {M : Mem} (hw : wf S) (hr : repM S M) {mk : Nat → Bool} {fr : Nat} (hm : modeM mk fr M) {d : Nat} (hd : d < 20) {post : Int32 → Mem → Prop}
    (hp : ∀ M', sameM M M' → post (nI (mmF (fun c g => bearS S mk fr c g d) (S 0 0) (S 0 1))) M') : wp_X6_mostIn (nI d) M post :=
  layD_ok hw hr hm hd (fun M1 a1 a2 => mostSit_ok hw (hr.of (fun a _ ha => a1 a (by omega))) (br := fun c g => bearS S mk fr c g d) a2 (fun M2 b1 => hp M2 (fun a ha => (b1 a (by omega)).trans (a1 a (by omega)))))
