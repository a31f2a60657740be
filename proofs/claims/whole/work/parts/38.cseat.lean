/-! the class's Seating: the first cheapest way, guest by guest -/
def bfd (cost : Nat → Nat) (free : Nat → Bool) (stand nc : Nat) : Nat → Nat × Nat
  | 0 => (nc, stand)
  | k + 1 => if (free (nc - (k + 1)) && decide (cost (nc - (k + 1)) ≤ (bfd cost free stand nc k).2)) = true then (nc - (k + 1), cost (nc - (k + 1))) else bfd cost free stand nc k
theorem bfd_spec (cost : Nat → Nat) (free : Nat → Bool) (stand nc : Nat) : ∀ k, k ≤ nc → (bfd cost free stand nc k).2 ≤ stand ∧ (∀ c, nc - k ≤ c → c < nc → free c = true → (bfd cost free stand nc k).2 ≤ cost c) ∧ (((bfd cost free stand nc k).1 = nc ∧ (bfd cost free stand nc k).2 = stand) ∨ (nc - k ≤ (bfd cost free stand nc k).1 ∧ (bfd cost free stand nc k).1 < nc ∧ free (bfd cost free stand nc k).1 = true ∧ (bfd cost free stand nc k).2 = cost (bfd cost free stand nc k).1)) ∧ (∀ c, nc - k ≤ c → c < nc → free c = true → c < (bfd cost free stand nc k).1 → (bfd cost free stand nc k).2 < cost c)
  | 0, _ => ⟨Nat.le_refl _, fun c h1 h2 => by omega, Or.inl ⟨rfl, rfl⟩, fun c h1 h2 => by omega⟩
  | k + 1, hk => by
    obtain ⟨a1, a2, a3, a4⟩ := bfd_spec cost free stand nc k (by omega)
    by_cases h : (free (nc - (k + 1)) && decide (cost (nc - (k + 1)) ≤ (bfd cost free stand nc k).2)) = true
    · have e : bfd cost free stand nc (k + 1) = (nc - (k + 1), cost (nc - (k + 1))) := if_pos h
      simp only [Bool.and_eq_true, decide_eq_true_eq] at h
      rw [e]
      refine ⟨Nat.le_trans h.2 a1, fun c h1 h2 h3 => ?_, Or.inr ⟨Nat.le_refl _, by show nc - (k + 1) < nc; omega, h.1, rfl⟩, fun c h1 h2 h3 h4 => ?_⟩
      · by_cases q : c = nc - (k + 1)
        · rw [q]; exact Nat.le_refl _
        · exact Nat.le_trans h.2 (a2 c (by omega) h2 h3)
      · have h5 : c < nc - (k + 1) := h4
        omega
    · have e : bfd cost free stand nc (k + 1) = bfd cost free stand nc k := if_neg h
      simp only [Bool.and_eq_true, decide_eq_true_eq, not_and] at h
      rw [e]
      refine ⟨a1, fun c h1 h2 h3 => ?_, a3.elim Or.inl (fun q => Or.inr ⟨by omega, q.2⟩), fun c h1 h2 h3 h4 => ?_⟩
      · by_cases q : c = nc - (k + 1)
        · rw [q] at h3 ⊢
          have := h h3
          omega
        · exact a2 c (by omega) h2 h3
      · by_cases q : c = nc - (k + 1)
        · rw [q] at h3 ⊢
          have := h h3
          omega
        · exact a4 c (by omega) h2 h3 h4
def prF (br : Nat → Nat → Bool) (pu g c : Nat) : Nat := if br c g then 0 else pu
def optF (br : Nat → Nat → Bool) (pu ps nc ng : Nat) : Nat → Nat → Nat × Nat
  | 0, _ => (nc, 0)
  | k + 1, T => bfd (fun c => prF br pu (ng - (k + 1)) c + (optF br pu ps nc ng k (T ||| 2 ^ c)).2) (fun c => !T.testBit c) (ps + (optF br pu ps nc ng k T).2) nc nc
theorem optF_le (br : Nat → Nat → Bool) (pu ps nc ng : Nat) : ∀ k T, (optF br pu ps nc ng k T).2 ≤ k * ps
  | 0, _ => Nat.zero_le _
  | k + 1, T => by
    have h := (bfd_spec (fun c => prF br pu (ng - (k + 1)) c + (optF br pu ps nc ng k (T ||| 2 ^ c)).2) (fun c => !T.testBit c) (ps + (optF br pu ps nc ng k T).2) nc nc (Nat.le_refl _)).1
    have ih := optF_le br pu ps nc ng k T
    rw [Nat.succ_mul]
    exact Nat.le_trans h (by omega)
theorem optF_500 {br : Nat → Nat → Bool} {pu ps nc ng k T : Nat} (hk : k ≤ 5) (hps : ps ≤ 100) : (optF br pu ps nc ng k T).2 ≤ 500 := by
  have h := optF_le br pu ps nc ng k T
  have h2 : k * ps ≤ 5 * 100 := Nat.mul_le_mul hk hps
  omega
def chI (nc b : Nat) : Int32 := if b = nc then -9 else nI b
theorem chI_n {nc b : Nat} (hb : b < 2147483648) : chI nc b = -9 ↔ b = nc := by
  unfold chI
  by_cases e : b = nc
  · simp [e]
  · rw [if_neg e]
    refine ⟨fun q => ?_, fun q => absurd q e⟩
    have h1 := nI_pos hb
    rw [q] at h1
    exact absurd (by decide) h1
theorem at5 : ∀ g : Fin 8, nI g.val <<< ((5 : Int32) &&& 31) = nI (g.val * 32) := by decide +kernel
theorem at_ok {g T : Nat} (hg : g < 8) {M : Mem} {post : Int32 → Mem → Prop} (hp : post (nI (g * 32 + T)) M) : wp_X3_at (nI g) (nI T) M post := by
  unfold wp_X3_at
  rw [at5 ⟨g, hg⟩, nI_add]
  exact hp
/-- what costOf reads -/
def rowC (br : Nat → Nat → Bool) (pu ps nc ng g : Nat) (M : Mem) : Prop := ∀ T, T < 2 ^ nc → M 23 (g * 32 + T) = nI (optF br pu ps nc ng (ng - g) T).2
def seatC (S : AS) (br : Nat → Nat → Bool) (pu ps : Nat) (M : Mem) : Prop := (∀ c, c < S 0 0 → M 21 c = nI (bset (br c) (S 0 1))) ∧ M 22 4 = nI pu ∧ M 22 5 = nI ps ∧ pu ≤ 100 ∧ ps ≤ 100
theorem costC_ok {S : AS} {M : Mem} (hw : wf S) {br : Nat → Nat → Bool} {pu ps : Nat} (hq : seatC S br pu ps M) {g T c : Nat} (hg : g < S 0 1) (hT : T < 2 ^ S 0 0) (hc : c < S 0 0) (hrow : rowC br pu ps (S 0 0) (S 0 1) (g + 1) M) {post : Int32 → Mem → Prop} (hp : post (nI (prF br pu g c + (optF br pu ps (S 0 0) (S 0 1) (S 0 1 - (g + 1)) (T ||| 2 ^ c)).2)) M) : wp_X3_costOf (nI g) (nI T) (nI c) M post := by
  obtain ⟨⟨w1, w2, w3, w4, w5, w6⟩, -⟩ := hw
  obtain ⟨h21, q1, q2, q3, q4⟩ := hq
  have hc5 : c < 5 := by omega
  have hTc : T ||| 2 ^ c < 2 ^ S 0 0 := Nat.or_lt_two_pow hT (Nat.pow_lt_pow_right (by decide) hc)
  have h32 := pow5 w1
  have hbl : bset (br c) (S 0 1) < 32 := Nat.lt_of_lt_of_le (bset_lt _ _) (pow5 w2)
  have jn : ∀ p : Nat, p = prF br pu g c → jn_X3_costOf_45 (nI g) (nI T) (nI c) post (nI p) M := by
    intro p hpe
    subst hpe
    unfold jn_X3_costOf_45
    rw [shl1 (by omega), fa_or, addI1]
    refine at_ok (by omega) ⟨inI (by omega) (by decide), ?_⟩
    rw [cl (by omega), hrow _ hTc, nI_add]
    exact hp
  unfold wp_X3_costOf
  rw [cl (show c < 2147483648 by omega), h21 c hc, bitZ (by omega) (by omega), bset_in hg, q1]
  refine ⟨fun _ => ⟨inI hc5 (by decide), fun h => jn pu (by simp [prF, h]), fun h => jn 0 ?_⟩, fun h => ?_⟩
  · have : br c g = true := by cases z : br c g with | true => rfl | false => exact absurd z h
    simp [prF, this]
  · have h1 := negI (show c < 2147483648 by omega)
    rw [h] at h1
    exact absurd (by decide) h1
theorem costN_ok {S : AS} {M : Mem} (hw : wf S) {br : Nat → Nat → Bool} {pu ps : Nat} (hq : seatC S br pu ps M) {g T : Nat} (hg : g < S 0 1) (hT : T < 2 ^ S 0 0) (hrow : rowC br pu ps (S 0 0) (S 0 1) (g + 1) M) {post : Int32 → Mem → Prop} (hp : post (nI (ps + (optF br pu ps (S 0 0) (S 0 1) (S 0 1 - (g + 1)) T).2)) M) : wp_X3_costOf (nI g) (nI T) (-9) M post := by
  obtain ⟨⟨w1, w2, w3, w4, w5, w6⟩, -⟩ := hw
  obtain ⟨h21, q1, q2, q3, q4⟩ := hq
  have h32 := pow5 w1
  unfold wp_X3_costOf
  rw [addI1, q2]
  refine ⟨fun h => absurd rfl h, fun _ => at_ok (by omega) ⟨inI (by omega) (by decide), ?_⟩⟩
  rw [cl (by omega), hrow _ hT, nI_add]
  exact hp
/-- the options of guest g when T is taken -/
abbrev optG (S : AS) (br : Nat → Nat → Bool) (pu ps g T : Nat) : Nat → Nat × Nat := bfd (fun c => prF br pu g c + (optF br pu ps (S 0 0) (S 0 1) (S 0 1 - (g + 1)) (T ||| 2 ^ c)).2) (fun c => !T.testBit c) (ps + (optF br pu ps (S 0 0) (S 0 1) (S 0 1 - (g + 1)) T).2) (S 0 0)
theorem optG_eq {S : AS} {br : Nat → Nat → Bool} {pu ps g T : Nat} (hg : g < S 0 1) : optF br pu ps (S 0 0) (S 0 1) (S 0 1 - g) T = optG S br pu ps g T (S 0 0) := by
  obtain ⟨k, hk⟩ : ∃ k, S 0 1 - g = k + 1 := ⟨S 0 1 - g - 1, by omega⟩
  rw [hk]
  show bfd _ _ _ _ _ = bfd _ _ _ _ _
  rw [show S 0 1 - (k + 1) = g by omega, show S 0 1 - (g + 1) = k by omega]
theorem prF_le {br : Nat → Nat → Bool} {pu g c : Nat} : prF br pu g c ≤ pu := by unfold prF; split <;> omega
theorem best_loop {S : AS} {M : Mem} (hw : wf S) {br : Nat → Nat → Bool} {pu ps : Nat} (hq : seatC S br pu ps M) {g T : Nat} (hg : g < S 0 1) (hT : T < 2 ^ S 0 0) (hrow : rowC br pu ps (S 0 0) (S 0 1) (g + 1) M) {post : Int32 → Mem → Prop} (hp : post (chI (S 0 0) (optG S br pu ps g T (S 0 0)).1) M) :
    ∀ (n k : Nat), n + k = S 0 0 → lp_X3_bestChair_24 (nI g) (nI T) post (n + 1) (chI (S 0 0) (optG S br pu ps g T k).1) (nI (optG S br pu ps g T k).2) (nI n + (-1)) M := by
  have hw0 := hw
  obtain ⟨⟨w1, w2, w3, w4, w5, w6⟩, -⟩ := hw
  have h32 := pow5 w1
  intro n
  induction n with
  | zero =>
    intro k hk
    have e : k = S 0 0 := by omega
    subst e
    unfold lp_X3_bestChair_24
    exact ⟨fun _ => hp, fun h => absurd m1_z h⟩
  | succ n ih =>
    intro k hk
    have hc : S 0 0 - (k + 1) = n := by omega
    have hsp := bfd_spec (fun c => prF br pu g c + (optF br pu ps (S 0 0) (S 0 1) (S 0 1 - (g + 1)) (T ||| 2 ^ c)).2) (fun c => !T.testBit c) (ps + (optF br pu ps (S 0 0) (S 0 1) (S 0 1 - (g + 1)) T).2) (S 0 0) k (by omega)
    have hb1 : (optG S br pu ps g T k).2 ≤ 700 := by
      have h1 := optF_500 (br := br) (pu := pu) (nc := S 0 0) (ng := S 0 1) (k := S 0 1 - (g + 1)) (T := T) (by omega) hq.2.2.2.2
      have h2 := hq.2.2.2.2
      have h3 := hsp.1
      have h4 : (optG S br pu ps g T k).2 ≤ ps + (optF br pu ps (S 0 0) (S 0 1) (S 0 1 - (g + 1)) T).2 := h3
      omega
    have hb2 : prF br pu g n + (optF br pu ps (S 0 0) (S 0 1) (S 0 1 - (g + 1)) (T ||| 2 ^ n)).2 ≤ 700 := by
      have h1 := optF_500 (br := br) (pu := pu) (nc := S 0 0) (ng := S 0 1) (k := S 0 1 - (g + 1)) (T := T ||| 2 ^ n) (by omega) hq.2.2.2.2
      have h2 := hq.2.2.2.1
      have h3 := prF_le (br := br) (pu := pu) (g := g) (c := n)
      omega
    have no : ((fun c => !T.testBit c) n && decide (prF br pu g n + (optF br pu ps (S 0 0) (S 0 1) (S 0 1 - (g + 1)) (T ||| 2 ^ n)).2 ≤ (optG S br pu ps g T k).2)) = false → lp_X3_bestChair_24 (nI g) (nI T) post (n + 1) (chI (S 0 0) (optG S br pu ps g T k).1) (nI (optG S br pu ps g T k).2) (nI n + (-1)) M := by
      intro hf
      have e : optG S br pu ps g T (k + 1) = optG S br pu ps g T k := if_neg (by rw [hc, hf]; decide)
      rw [← e]
      exact ih (k + 1) (by omega)
    unfold lp_X3_bestChair_24
    rw [pk_m1, bitZ (show T < 2147483648 by omega) (by omega)]
    refine ⟨fun h => absurd h (negI (by omega)), fun _ => ⟨fun h => no ?_, fun h => costC_ok hw0 hq hg hT (by omega) hrow ⟨fun h2 => no ?_, fun h2 => costC_ok hw0 hq hg hT (by omega) hrow ?_⟩⟩⟩
    · have : T.testBit n = true := by cases z : T.testBit n with | true => rfl | false => exact absurd z h
      simp [this]
    · rw [ltI (by omega) (by omega)] at h2
      rw [show decide (prF br pu g n + (optF br pu ps (S 0 0) (S 0 1) (S 0 1 - (g + 1)) (T ||| 2 ^ n)).2 ≤ (optG S br pu ps g T k).2) = false by rw [decide_eq_false_iff_not]; omega, Bool.and_false]
    · rw [ltI (by omega) (by omega)] at h2
      have e : optG S br pu ps g T (k + 1) = (n, prF br pu g n + (optF br pu ps (S 0 0) (S 0 1) (S 0 1 - (g + 1)) (T ||| 2 ^ n)).2) := by
        have : ((fun c => !T.testBit c) (S 0 0 - (k + 1)) && decide ((fun c => prF br pu g c + (optF br pu ps (S 0 0) (S 0 1) (S 0 1 - (g + 1)) (T ||| 2 ^ c)).2) (S 0 0 - (k + 1)) ≤ (optG S br pu ps g T k).2)) = true := by
          rw [hc]
          simp only [h, Bool.not_false, Bool.true_and, decide_eq_true_eq]
          omega
        have e1 : optG S br pu ps g T (k + 1) = _ := if_pos this
        rw [e1, hc]
      have := ih (k + 1) (by omega)
      rw [e] at this
      have e2 : chI (S 0 0) n = nI n := if_neg (by omega)
      rw [e2] at this
      exact this
theorem sub_m1 (x : Int32) : x - 1 = x + (-1) := by rw [Int32.sub_eq_add_neg]
theorem best_ok {S : AS} {M : Mem} (hw : wf S) (hr : repC S M) {br : Nat → Nat → Bool} {pu ps : Nat} (hq : seatC S br pu ps M) {g T : Nat} (hg : g < S 0 1) (hT : T < 2 ^ S 0 0) (hrow : rowC br pu ps (S 0 0) (S 0 1) (g + 1) M) {post : Int32 → Mem → Prop} (hp : post (chI (S 0 0) (optG S br pu ps g T (S 0 0)).1) M) : wp_X3_bestChair (nI g) (nI T) M post := by
  unfold wp_X3_bestChair
  refine costN_ok hw hq hg hT hrow ?_
  intro v hv
  rw [hr.1.1, sub_m1] at hv
  subst hv
  have h := best_loop hw hq hg hT hrow hp (S 0 0) 0 (by omega)
  have e : chI (S 0 0) (optG S br pu ps g T 0).1 = -9 := if_pos rfl
  rw [e] at h
  exact ⟨S 0 0 + 1, h⟩
/-- costOf of the best option -/
theorem costB_ok {S : AS} {M : Mem} (hw : wf S) {br : Nat → Nat → Bool} {pu ps : Nat} (hq : seatC S br pu ps M) {g T : Nat} (hg : g < S 0 1) (hT : T < 2 ^ S 0 0) (hrow : rowC br pu ps (S 0 0) (S 0 1) (g + 1) M) {post : Int32 → Mem → Prop} (hp : post (nI (optG S br pu ps g T (S 0 0)).2) M) : wp_X3_costOf (nI g) (nI T) (chI (S 0 0) (optG S br pu ps g T (S 0 0)).1) M post := by
  have hsp := bfd_spec (fun c => prF br pu g c + (optF br pu ps (S 0 0) (S 0 1) (S 0 1 - (g + 1)) (T ||| 2 ^ c)).2) (fun c => !T.testBit c) (ps + (optF br pu ps (S 0 0) (S 0 1) (S 0 1 - (g + 1)) T).2) (S 0 0) (S 0 0) (Nat.le_refl _)
  rcases hsp.2.2.1 with ⟨a1, a2⟩ | ⟨a1, a2, a3, a4⟩
  · have e : chI (S 0 0) (optG S br pu ps g T (S 0 0)).1 = -9 := if_pos a1
    rw [e]
    refine costN_ok hw hq hg hT hrow ?_
    rw [← a2]
    exact hp
  · have e : chI (S 0 0) (optG S br pu ps g T (S 0 0)).1 = nI (optG S br pu ps g T (S 0 0)).1 := if_neg (Nat.ne_of_lt a2)
    rw [e]
    refine costC_ok hw hq hg hT a2 hrow ?_
    have a5 : (optG S br pu ps g T (S 0 0)).2 = prF br pu g (optG S br pu ps g T (S 0 0)).1 + (optF br pu ps (S 0 0) (S 0 1) (S 0 1 - (g + 1)) (T ||| 2 ^ (optG S br pu ps g T (S 0 0)).1)).2 := a4
    rw [← a5]
    exact hp
/-- the class's row -/
def tkF (S : AS) (br : Nat → Nat → Bool) (pu ps : Nat) : Nat → Nat
  | 0 => 0
  | g + 1 => if (optG S br pu ps g (tkF S br pu ps g) (S 0 0)).1 = S 0 0 then tkF S br pu ps g else tkF S br pu ps g ||| 2 ^ (optG S br pu ps g (tkF S br pu ps g) (S 0 0)).1
def rwF (S : AS) (br : Nat → Nat → Bool) (pu ps g : Nat) : Nat := (optG S br pu ps g (tkF S br pu ps g) (S 0 0)).1
theorem optG_nc (S : AS) (br : Nat → Nat → Bool) (pu ps g T : Nat) : (optG S br pu ps g T (S 0 0)).1 ≤ S 0 0 := by
  have hsp := bfd_spec (fun c => prF br pu g c + (optF br pu ps (S 0 0) (S 0 1) (S 0 1 - (g + 1)) (T ||| 2 ^ c)).2) (fun c => !T.testBit c) (ps + (optF br pu ps (S 0 0) (S 0 1) (S 0 1 - (g + 1)) T).2) (S 0 0) (S 0 0) (Nat.le_refl _)
  rcases hsp.2.2.1 with ⟨a1, _⟩ | ⟨_, a2, _⟩
  · exact Nat.le_of_eq a1
  · exact Nat.le_of_lt a2
theorem tkF_lt (S : AS) (br : Nat → Nat → Bool) (pu ps : Nat) : ∀ g, tkF S br pu ps g < 2 ^ S 0 0
  | 0 => Nat.two_pow_pos _
  | g + 1 => by
    have ih := tkF_lt S br pu ps g
    simp only [tkF]
    split
    · exact ih
    · rename_i h
      have := optG_nc S br pu ps g (tkF S br pu ps g)
      exact Nat.or_lt_two_pow ih (Nat.pow_lt_pow_right (by decide) (by omega))
theorem seat_row {S : AS} {M0 : Mem} (hw : wf S) (hr : repC S M0) {br : Nat → Nat → Bool} {pu ps : Nat} (hq : seatC S br pu ps M0) {post : Int32 → Mem → Prop}
    (hp : ∀ M, (∀ a, a ≠ 23 → a ≠ 24 → M a = M0 a) → (∀ g, g < S 0 1 → M 24 g = chI (S 0 0) (rwF S br pu ps g)) → post (nI (optF br pu ps (S 0 0) (S 0 1) (S 0 1) 0).2) M) :
    ∀ (m g : Nat) (M : Mem), g + m = S 0 1 → (∀ a, a ≠ 23 → a ≠ 24 → M a = M0 a) → (∀ g, g ≤ S 0 1 → rowC br pu ps (S 0 0) (S 0 1) g M) → (∀ h, h < g → M 24 h = chI (S 0 0) (rwF S br pu ps h)) → lp_X3_seatCheapest_99 post (m + 1) (nI (tkF S br pu ps g)) (nI g) M := by
  have hw0 := hw
  obtain ⟨⟨w1, w2, w3, w4, w5, w6⟩, -⟩ := hw
  have h32 := pow5 w1
  intro m
  induction m with
  | zero =>
    intro g M hg hs hrow hh
    have hr' : repC S M := hr.of (fun a ha => hs a (by omega) (by omega))
    have e : g = S 0 1 := by omega
    subst e
    unfold lp_X3_seatCheapest_99
    rw [hr'.1.2.1]
    refine ⟨fun _ => at_ok (g := 0) (T := 0) (by decide) ⟨inI (by decide) (by decide), ?_⟩, fun h => absurd ((leI (by omega) (by omega)).mpr (by omega)) h⟩
    rw [cl (by decide)]
    have := hrow 0 (by omega) 0 (Nat.two_pow_pos _)
    rw [this]
    exact hp M hs hh
  | succ m ih =>
    intro g M hg hs hrow hh
    have hr' : repC S M := hr.of (fun a ha => hs a (by omega) (by omega))
    have hq' : seatC S br pu ps M := by
      unfold seatC at *
      rw [hs 21 (by decide) (by decide), hs 22 (by decide) (by decide)]
      exact hq
    have hnc := optG_nc S br pu ps g (tkF S br pu ps g)
    have htk := tkF_lt S br pu ps g
    unfold lp_X3_seatCheapest_99
    rw [hr'.1.2.1, cl (show g < 2147483648 by omega)]
    refine ⟨fun h => absurd ((leI (by omega) (by omega)).mp h) (by omega), fun _ => best_ok hw0 hr' hq' (by omega) htk (hrow (g + 1) (by omega)) ⟨inI (by omega) (by decide), fun M7 h7 => ?_⟩⟩
    subst h7
    have hM : up2 M 24 g (chI (S 0 0) (optG S br pu ps g (tkF S br pu ps g) (S 0 0)).1) 24 g = chI (S 0 0) (optG S br pu ps g (tkF S br pu ps g) (S 0 0)).1 := by rw [up2_s, upd_s]
    have nx : lp_X3_seatCheapest_99 post (m + 1) (nI (tkF S br pu ps (g + 1))) (nI g + 1) (up2 M 24 g (chI (S 0 0) (optG S br pu ps g (tkF S br pu ps g) (S 0 0)).1)) := by
      rw [addI1]
      refine ih (g + 1) _ (by omega) (fun a h1 h2 => (up2_n M _ _ h2).trans (hs a h1 h2)) (fun g' hg' T hT => ?_) (fun h hh2 => ?_)
      · rw [up2_n M _ _ (by decide)]; exact hrow g' hg' T hT
      · rw [up2_s]
        by_cases z : h = g
        · rw [z, upd_s]; rfl
        · rw [upd_n _ _ z]; exact hh h (by omega)
    rw [hM, chI_n (by omega)]
    refine ⟨inI (by omega) (by decide), fun h => ?_, fun h => ⟨inI (by omega) (by decide), fun v hv => ?_⟩⟩
    · have e : tkF S br pu ps (g + 1) = tkF S br pu ps g := if_pos h
      rw [e] at nx
      exact nx
    · have e : tkF S br pu ps (g + 1) = tkF S br pu ps g ||| 2 ^ (optG S br pu ps g (tkF S br pu ps g) (S 0 0)).1 := if_neg h
      rw [e] at nx
      have e2 : chI (S 0 0) (optG S br pu ps g (tkF S br pu ps g) (S 0 0)).1 = nI (optG S br pu ps g (tkF S br pu ps g) (S 0 0)).1 := if_neg h
      rw [e2, shl1 (by omega), fa_or] at hv
      subst hv
      exact nx
theorem seat_T {S : AS} {M0 : Mem} (hw : wf S) (hr : repC S M0) {br : Nat → Nat → Bool} {pu ps : Nat} (hq : seatC S br pu ps M0) {g : Nat} (hg : g < S 0 1) {post : Int32 → Mem → Prop} {B : Int32 → Int32 → Mem → Prop}
    (hB : ∀ M, (∀ a, a ≠ 23 → M a = M0 a) → (∀ h, g ≤ h → h ≤ S 0 1 → rowC br pu ps (S 0 0) (S 0 1) h M) → B (nI (2 ^ S 0 0)) (nI g + (-1)) M) :
    ∀ (m T : Nat) (M : Mem), T + m = 2 ^ S 0 0 → (∀ a, a ≠ 23 → M a = M0 a) → (∀ h, g < h → h ≤ S 0 1 → rowC br pu ps (S 0 0) (S 0 1) h M) → (∀ t, t < T → M 23 (g * 32 + t) = nI (optF br pu ps (S 0 0) (S 0 1) (S 0 1 - g) t).2) → lp_X3_seatCheapest_56 post B (m + 1) (nI (2 ^ S 0 0)) (nI g) (nI T) M := by
  have hw0 := hw
  obtain ⟨⟨w1, w2, w3, w4, w5, w6⟩, -⟩ := hw
  have h32 := pow5 w1
  intro m
  induction m with
  | zero =>
    intro T M hT hs hrow hh
    unfold lp_X3_seatCheapest_56
    refine ⟨fun _ => hB M hs (fun h h1 h2 => ?_), fun h => absurd ((leI (by omega) (by omega)).mpr (by omega)) h⟩
    by_cases z : h = g
    · subst z
      intro t ht
      exact hh t (by omega)
    · exact hrow h (by omega) h2
  | succ m ih =>
    intro T M hT hs hrow hh
    have hr' : repC S M := hr.of (fun a ha => hs a (by omega))
    have hq' : seatC S br pu ps M := by
      unfold seatC at *
      rw [hs 21 (by decide), hs 22 (by decide)]
      exact hq
    unfold lp_X3_seatCheapest_56
    refine ⟨fun h => absurd ((leI (by omega) (by omega)).mp h) (by omega), fun _ => at_ok (by omega) (best_ok hw0 hr' hq' hg (by omega) (hrow (g + 1) (by omega) (by omega)) (costB_ok hw0 hq' hg (by omega) (hrow (g + 1) (by omega) (by omega)) ⟨inI (by omega) (by decide), fun M16 h16 => ?_⟩))⟩
    rw [cl (by omega)] at h16
    subst h16
    rw [addI1]
    refine ih (T + 1) _ (by omega) (fun a ha => (up2_n M _ _ ha).trans (hs a ha)) (fun h h1 h2 t ht => ?_) (fun t ht => ?_)
    · rw [up2_s, upd_n _ _ (by omega)]
      exact hrow h h1 h2 t ht
    · rw [up2_s, upd_at]
      by_cases z : t = T
      · rw [if_pos (by omega), z, optG_eq hg]
      · rw [if_neg (by omega)]
        exact hh t (by omega)
theorem seat_g {S : AS} {M0 : Mem} (hw : wf S) (hr : repC S M0) {br : Nat → Nat → Bool} {pu ps : Nat} (hq : seatC S br pu ps M0) {post : Int32 → Mem → Prop}
    (hp : ∀ M, (∀ a, a ≠ 23 → a ≠ 24 → M a = M0 a) → (∀ g, g < S 0 1 → M 24 g = chI (S 0 0) (rwF S br pu ps g)) → post (nI (optF br pu ps (S 0 0) (S 0 1) (S 0 1) 0).2) M) :
    ∀ (g : Nat) (M : Mem), g ≤ S 0 1 → (∀ a, a ≠ 23 → M a = M0 a) → (∀ h, g ≤ h → h ≤ S 0 1 → rowC br pu ps (S 0 0) (S 0 1) h M) → lp_X3_seatCheapest_50 post (g + 1) (nI (2 ^ S 0 0)) (nI g + (-1)) M := by
  have hw0 := hw
  obtain ⟨⟨w1, w2, w3, w4, w5, w6⟩, -⟩ := hw
  intro g
  induction g with
  | zero =>
    intro M _ hs hrow
    unfold lp_X3_seatCheapest_50
    refine ⟨fun _ => ⟨S 0 1 + 1, ?_⟩, fun h => absurd m1_z h⟩
    exact seat_row hw0 hr hq hp (S 0 1) 0 M (by omega) (fun a h1 _ => hs a h1) (fun g hg => hrow g (by omega) hg) (fun h hh => absurd hh (by omega))
  | succ g ih =>
    intro M hg hs hrow
    unfold lp_X3_seatCheapest_50
    rw [pk_m1]
    refine ⟨fun h => absurd h (negI (by omega)), fun _ => ⟨2 ^ S 0 0 + 1, ?_⟩⟩
    exact seat_T hw0 hr hq (by omega) (fun M1 a1 a2 => ih M1 (by omega) a1 a2) (2 ^ S 0 0) 0 M (by omega) hs (fun h h1 h2 => hrow h (by omega) h2) (fun t ht => absurd ht (by omega))
theorem seat_0 {S : AS} {M0 : Mem} (hw : wf S) (hr : repC S M0) {br : Nat → Nat → Bool} {pu ps : Nat} (hq : seatC S br pu ps M0) {post : Int32 → Mem → Prop}
    (hp : ∀ M, (∀ a, a ≠ 23 → a ≠ 24 → M a = M0 a) → (∀ g, g < S 0 1 → M 24 g = chI (S 0 0) (rwF S br pu ps g)) → post (nI (optF br pu ps (S 0 0) (S 0 1) (S 0 1) 0).2) M) :
    ∀ (m T : Nat) (M : Mem), T + m = 2 ^ S 0 0 → (∀ a, a ≠ 23 → M a = M0 a) → (∀ t, t < T → M 23 (S 0 1 * 32 + t) = nI 0) → lp_X3_seatCheapest_12 post (m + 1) (nI (2 ^ S 0 0)) (nI T) M := by
  have hw0 := hw
  obtain ⟨⟨w1, w2, w3, w4, w5, w6⟩, -⟩ := hw
  have h32 := pow5 w1
  intro m
  induction m with
  | zero =>
    intro T M hT hs hh
    have hr' : repC S M := hr.of (fun a ha => hs a (by omega))
    unfold lp_X3_seatCheapest_12
    rw [hr'.1.2.1, sub_m1]
    refine ⟨fun _ v hv => ⟨S 0 1 + 1, ?_⟩, fun h => absurd ((leI (by omega) (by omega)).mpr (by omega)) h⟩
    subst hv
    refine seat_g hw0 hr hq hp (S 0 1) M (Nat.le_refl _) hs (fun h h1 h2 t ht => ?_)
    have e : h = S 0 1 := by omega
    subst e
    rw [hh t (by omega), Nat.sub_self]
    rfl
  | succ m ih =>
    intro T M hT hs hh
    have hr' : repC S M := hr.of (fun a ha => hs a (by omega))
    unfold lp_X3_seatCheapest_12
    rw [hr'.1.2.1]
    refine ⟨fun h => absurd ((leI (by omega) (by omega)).mp h) (by omega), fun _ => at_ok (by omega) ⟨inI (by omega) (by decide), fun M1 h1 => ?_⟩⟩
    rw [cl (by omega)] at h1
    subst h1
    rw [addI1]
    refine ih (T + 1) _ (by omega) (fun a ha => (up2_n M _ _ ha).trans (hs a ha)) (fun t ht => ?_)
    rw [up2_s, upd_at]
    by_cases z : t = T
    · rw [if_pos (by omega)]; rfl
    · rw [if_neg (by omega)]; exact hh t (by omega)
theorem cheapest_ok {S : AS} {M : Mem} (hw : wf S) (hr : repC S M) {br : Nat → Nat → Bool} {pu ps : Nat} (hq : seatC S br pu ps M) {post : Int32 → Mem → Prop}
    (hp : ∀ M', (∀ a, a ≠ 23 → a ≠ 24 → M' a = M a) → (∀ g, g < S 0 1 → M' 24 g = chI (S 0 0) (rwF S br pu ps g)) → post (nI (optF br pu ps (S 0 0) (S 0 1) (S 0 1) 0).2) M') : wp_X3_seatCheapest M post := by
  unfold wp_X3_seatCheapest
  rw [hr.1.1, shl1 (by have := hw.1.1; omega)]
  intro v hv
  subst hv
  exact ⟨2 ^ S 0 0 + 1, seat_0 hw hr hq hp (2 ^ S 0 0) 0 M (by omega) (fun _ _ => rfl) (fun t ht => absurd ht (by omega))⟩
