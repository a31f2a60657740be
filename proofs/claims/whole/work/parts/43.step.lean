/-! the plain calls -/
theorem repC.of1 {S : AS} {M M' : Mem} (h : repC S M) (e : ∀ a, 1 ≤ a → a ≤ 17 → M' a = M a) : repC S M' := by
  unfold repC at *
  rw [e 1 (by decide) (by decide), e 2 (by decide) (by decide), e 3 (by decide) (by decide), e 4 (by decide) (by decide), e 5 (by decide) (by decide), e 6 (by decide) (by decide), e 7 (by decide) (by decide), e 8 (by decide) (by decide), e 9 (by decide) (by decide), e 10 (by decide) (by decide), e 11 (by decide) (by decide), e 12 (by decide) (by decide), e 13 (by decide) (by decide), e 14 (by decide) (by decide), e 15 (by decide) (by decide), e 16 (by decide) (by decide), e 17 (by decide) (by decide)]
  exact h
theorem repM.of1 {S : AS} {M M' : Mem} (h : repM S M) (e34 : ∀ j, j = 5 ∨ j = 6 ∨ j = 10 ∨ j = 14 ∨ j = 28 → M' 34 j = M 34 j) (e : ∀ a, 38 ≤ a ∧ a ≤ 46 ∨ 52 ≤ a ∧ a ≤ 55 → M' a = M a) : repM S M' := by
  unfold repM at *
  rw [e34 5 (by decide), e34 6 (by decide), e34 10 (by decide), e34 14 (by decide), e34 28 (by decide), e 38 (by decide), e 39 (by decide), e 40 (by decide), e 41 (by decide), e 42 (by decide), e 43 (by decide), e 44 (by decide), e 45 (by decide), e 46 (by decide), e 52 (by decide), e 53 (by decide), e 54 (by decide), e 55 (by decide)]
  exact h
theorem Inv.of2 {M M' : Mem} (h : Inv M) (e : ∀ a, 1 ≤ a ∧ a ≤ 17 ∨ 38 ≤ a ∧ a ≤ 46 ∨ 52 ≤ a ∧ a ≤ 55 → M' a = M a) (e34 : ∀ j, j = 5 ∨ j = 6 ∨ j = 10 ∨ j = 14 ∨ j = 28 ∨ j = 18 ∨ j = 19 → M' 34 j = M 34 j) (t : M' 0 8 = M' 34 1) (f : M' 0 9 = M' 34 0) (sh : ∀ k, k < 4 → sheetR M' k) : Inv M' := by
  obtain ⟨⟨S, a, b, c⟩, d⟩ := h
  refine ⟨⟨S, a, b.of1 (fun a h1 h2 => e a (by omega)), c.of1 (fun j hj => e34 j (by omega)) (fun a ha => e a (by omega))⟩, sh, t, f, ?_, ?_⟩
  · rw [e34 18 (by decide)]; exact d.2.2.2.1
  · rw [e34 19 (by decide)]; exact d.2.2.2.2
theorem Inv.h0 {M M' : Mem} (h : Inv M) (e : ∀ a, a ≠ 0 → a ≠ 34 → M' a = M a) (e34 : ∀ j, 2 ≤ j → M' 34 j = M 34 j) (t : M' 0 8 = M' 34 1) (f : M' 0 9 = M' 34 0) : Inv M' :=
  h.of2 (fun a ha => e a (by omega) (by omega)) (fun j hj => e34 j (by omega)) t f (fun k hk => (h.2.1 k hk).of hk (fun a ha => e a (by omega) (by omega)))
theorem st_ofChair {M : Mem} (hI : Inv M) (p1 p2 : Int32) : StpI (wp_X5_ofChair p1 p2) (wp_X6_ofChair p1 p2) M := by
  intro post hp
  have hI0 := hI
  obtain ⟨⟨S, hw, hr, hm⟩, hs⟩ := hI
  have n1 := hw.1.1
  unfold wp_X5_ofChair
  rcases ixI p1 (S 0 0) (by omega) with h1 | ⟨c, hc, rfl⟩
  · exact cChair_no hr h1 (b0B (hp _ _ (fun post' hq => mChair_no hm h1 (b0B (hq M hI0)))))
  · refine cChair_yes hr hw hc (b1B ?_)
    have hi : vp_in (nI c) 5 := inI (by omega) (by decide)
    obtain ⟨a1, a2, a3⟩ := hr.2.1 c hc
    obtain ⟨q1, q2, q3⟩ := hm.2.1 c hc
    have e := cl (show c < 2147483648 by omega)
    rw [e, a1, a2, a3]
    refine ⟨fun z => ⟨hi, hp _ _ (fun post' hq => mChair_yes hm hw hc (b1B ?_))⟩, fun z => ⟨hi, hp _ _ (fun post' hq => mChair_yes hm hw hc (b1B ?_))⟩, fun z => ⟨hi, hp _ _ (fun post' hq => mChair_yes hm hw hc (b1B ?_))⟩, fun z => hp _ _ (fun post' hq => mChair_yes hm hw hc (b1B ?_))⟩
    · subst z; rw [e, q1]; exact ⟨fun h => absurd rfl h, fun _ => ⟨hi, hq M hI0⟩⟩
    · subst z; rw [e, q2]; exact ⟨fun _ => ⟨fun h => absurd rfl h, fun _ => ⟨hi, hq M hI0⟩⟩, fun h => absurd h (by decide)⟩
    · subst z; rw [e, q3]; exact ⟨fun _ => ⟨fun _ => ⟨fun h => absurd rfl h, fun _ => ⟨hi, hq M hI0⟩⟩, fun h => absurd h (by decide)⟩, fun h => absurd h (by decide)⟩
    · exact ⟨fun _ => ⟨fun _ => ⟨fun _ => hq M hI0, fun h => absurd h z.2.2⟩, fun h => absurd h z.2.1⟩, fun h => absurd h z.1⟩
theorem hasN_no {n : Nat} {M : Mem} {c0 : Nat} (hr : M c0 3 = nI n) {p : Int32} {post : Int32 → Mem → Prop} (h : p < 0 ∨ nI n ≤ p) (hp : post 0 M) : wp_X2_has c0 p M post := by unfold wp_X2_has; rw [hr]; exact rng_no h hp
theorem hasN_yes {n : Nat} {M : Mem} {c0 : Nat} (hr : M c0 3 = nI n) (hn : n < 2147483648) {j : Nat} {post : Int32 → Mem → Prop} (h : j < n) (hp : post 1 M) : wp_X2_has c0 (nI j) M post := by unfold wp_X2_has; rw [hr]; exact rng_yes h hn hp
theorem mSlip_no {S : AS} {M : Mem} (hr : repM S M) {p : Int32} {post : Int32 → Mem → Prop} (h : p < 0 ∨ nI (S 0 2) ≤ p) (hp : post 0 M) : wp_X6_isSlip p M post := by unfold wp_X6_isSlip; rw [hr.1.2.2.1]; exact rng_no h hp
theorem mSlip_yes {S : AS} {M : Mem} (hr : repM S M) (hw : wf S) {j : Nat} {post : Int32 → Mem → Prop} (h : j < S 0 2) (hp : post 1 M) : wp_X6_isSlip (nI j) M post := by unfold wp_X6_isSlip; rw [hr.1.2.2.1]; exact rng_yes h (by have := hw.1.2.2.1; omega) hp
theorem st_ofSlip {M : Mem} (hI : Inv M) (p1 p2 : Int32) : StpI (wp_X5_ofSlip p1 p2) (wp_X6_ofSlip p1 p2) M := by
  intro post hp
  have hI0 := hI
  obtain ⟨⟨S, hw, hr, hm⟩, hs⟩ := hI
  have n1 := hw.1.2.2.1
  unfold wp_X5_ofSlip
  rcases ixI p1 (S 0 2) (by omega) with h1 | ⟨c, hc, rfl⟩
  · exact hasN_no hr.1.2.2.1 h1 (b0B (hp _ _ (fun post' hq => mSlip_no hm h1 (b0B (hq M hI0)))))
  · refine hasN_yes hr.1.2.2.1 (by omega) hc (b1B ?_)
    have hi : vp_in (nI c) 8 := inI (by omega) (by decide)
    obtain ⟨a1, a2, a3⟩ := hr.2.2.1 c hc
    obtain ⟨q1, q2, q3⟩ := hm.2.2.1 c hc
    have e := cl (show c < 2147483648 by omega)
    rw [e, a1, a2, a3]
    refine ⟨fun z => ⟨hi, hp _ _ (fun post' hq => mSlip_yes hm hw hc (b1B ?_))⟩, fun z => ⟨hi, hp _ _ (fun post' hq => mSlip_yes hm hw hc (b1B ?_))⟩, fun z => ⟨hi, hp _ _ (fun post' hq => mSlip_yes hm hw hc (b1B ?_))⟩, fun z => hp _ _ (fun post' hq => mSlip_yes hm hw hc (b1B ?_))⟩
    · subst z; rw [e, q1]; exact ⟨fun h => absurd rfl h, fun _ => ⟨hi, hq M hI0⟩⟩
    · subst z; rw [e, q2]; exact ⟨fun _ => ⟨fun h => absurd rfl h, fun _ => ⟨hi, hq M hI0⟩⟩, fun h => absurd h (by decide)⟩
    · subst z; rw [e, q3]; exact ⟨fun _ => ⟨fun _ => ⟨fun h => absurd rfl h, fun _ => ⟨hi, hq M hI0⟩⟩, fun h => absurd h (by decide)⟩, fun h => absurd h (by decide)⟩
    · exact ⟨fun _ => ⟨fun _ => ⟨fun _ => hq M hI0, fun h => absurd h z.2.2⟩, fun h => absurd h z.2.1⟩, fun h => absurd h z.1⟩
theorem st_trace {M : Mem} (hI : Inv M) : StpI wp_X5_trace wp_X6_trace M := by
  intro post hp
  refine hp _ _ (fun post' hq => ?_)
  unfold wp_X6_trace
  rw [← hI.2.2.1]
  exact hq M hI
theorem st_fault {M : Mem} (hI : Inv M) : StpI wp_X5_fault wp_X6_fault M := by
  intro post hp
  refine hp _ _ (fun post' hq => ?_)
  unfold wp_X6_fault
  rw [← hI.2.2.2.1]
  exact hq M hI
theorem st_many {M : Mem} (hI : Inv M) (p1 : Int32) : StpI (wp_X5_many p1) (wp_X6_many p1) M := by
  intro post hp
  have hI0 := hI
  obtain ⟨⟨S, hw, hr, hm⟩, hs⟩ := hI
  unfold wp_X5_many
  obtain ⟨a1, a2, a3, a4, a5⟩ := hr.1
  obtain ⟨q1, q2, q3, q4, q5⟩ := hm.1
  rw [a1, a2, a3, a4, a5]
  refine ⟨fun z => hp _ _ (fun post' hq => ?_), fun z => hp _ _ (fun post' hq => ?_), fun z => hp _ _ (fun post' hq => ?_), fun z => hp _ _ (fun post' hq => ?_), fun z => hp _ _ (fun post' hq => ?_), fun z => hp _ _ (fun post' hq => ?_)⟩ <;> unfold wp_X6_many <;> rw [q1, q2, q3, q4, q5]
  · exact ⟨fun _ => hq M hI0, fun h => absurd (h.symm.trans z) (by decide), fun h => absurd (h.symm.trans z) (by decide), fun h => absurd (h.symm.trans z) (by decide), fun h => absurd (h.symm.trans z) (by decide), fun h => absurd z h.1⟩
  · exact ⟨fun h => absurd (h.symm.trans z) (by decide), fun _ => hq M hI0, fun h => absurd (h.symm.trans z) (by decide), fun h => absurd (h.symm.trans z) (by decide), fun h => absurd (h.symm.trans z) (by decide), fun h => absurd z h.2.1⟩
  · exact ⟨fun h => absurd (h.symm.trans z) (by decide), fun h => absurd (h.symm.trans z) (by decide), fun _ => hq M hI0, fun h => absurd (h.symm.trans z) (by decide), fun h => absurd (h.symm.trans z) (by decide), fun h => absurd z h.2.2.1⟩
  · exact ⟨fun h => absurd (h.symm.trans z) (by decide), fun h => absurd (h.symm.trans z) (by decide), fun h => absurd (h.symm.trans z) (by decide), fun _ => hq M hI0, fun h => absurd (h.symm.trans z) (by decide), fun h => absurd z h.2.2.2.1⟩
  · exact ⟨fun h => absurd (h.symm.trans z) (by decide), fun h => absurd (h.symm.trans z) (by decide), fun h => absurd (h.symm.trans z) (by decide), fun h => absurd (h.symm.trans z) (by decide), fun _ => hq M hI0, fun h => absurd z h.2.2.2.2⟩
  · exact ⟨fun h => absurd h z.1, fun h => absurd h z.2.1, fun h => absurd h z.2.2.1, fun h => absurd h z.2.2.2.1, fun h => absurd h z.2.2.2.2, fun _ => hq M hI0⟩
/-! notes -/
def setS (S : AS) (k j v : Nat) : AS := fun a i => if a = k then (if i = j then v else S a i) else S a i
theorem setS_s (S : AS) (k j v i : Nat) : setS S k j v k i = if i = j then v else S k i := by simp [setS]
theorem setS_n (S : AS) {k a : Nat} (j v i : Nat) (h : a ≠ k) : setS S k j v a i = S a i := by simp [setS, h]
theorem succ_all {P : Nat → Prop} {n : Nat} (h : ∀ j, j < n → P j) (h2 : P n) : ∀ j, j < n + 1 → P j := by
  intro j hj
  by_cases z : j = n
  · rw [z]; exact h2
  · exact h j (by omega)
