/-! calls that leave a trace or a fault, and sheets -/
theorem addN (a b : Nat) : nI a + nI b = nI (a + b) := (Int32.ofNat_add a b).symm
theorem mulN (a b : Nat) : nI a * nI b = nI (a * b) := (Int32.ofNat_mul a b).symm
theorem up2_up2 (M : Mem) (k j : Nat) (v x : Int32) : up2 (up2 M k j v) k j x = up2 M k j x := by
  funext a i
  by_cases h : a = k
  · subst h
    rw [up2_s, up2_s, up2_s, upd_at, upd_at, upd_at]
    by_cases z : i = j
    · rw [if_pos z, if_pos z]
    · rw [if_neg z, if_neg z, if_neg z]
  · rw [up2_n _ _ _ h, up2_n _ _ _ h, up2_n _ _ _ h]
def Pre (M : Mem) : Prop := (∃ S, wf S ∧ repC S M ∧ repM S M) ∧ (∀ k, k < 4 → sheetR M k) ∧ M 0 8 = M 34 1 ∧ M 34 18 = 0 ∧ M 34 19 = -9
theorem Inv.pre {M : Mem} (h : Inv M) : Pre M := ⟨h.1, h.2.1, h.2.2.1, h.2.2.2.2.1, h.2.2.2.2.2⟩
theorem Pre.inv {M : Mem} (h : Pre M) (f : M 0 9 = M 34 0) : Inv M := ⟨h.1, h.2.1, h.2.2.1, f, h.2.2.2.1, h.2.2.2.2⟩
theorem Pre.of2 {M M' : Mem} (h : Pre M) (e : ∀ a, 1 ≤ a ∧ a ≤ 17 ∨ 38 ≤ a ∧ a ≤ 46 ∨ 52 ≤ a ∧ a ≤ 55 → M' a = M a) (e34 : ∀ j, j = 5 ∨ j = 6 ∨ j = 10 ∨ j = 14 ∨ j = 28 ∨ j = 18 ∨ j = 19 → M' 34 j = M 34 j) (t : M' 0 8 = M' 34 1) (sh : ∀ k, k < 4 → sheetR M' k) : Pre M' := by
  obtain ⟨⟨S, a, b, c⟩, d⟩ := h
  refine ⟨⟨S, a, b.of1 (fun a h1 h2 => e a (by omega)), c.of1 (fun j hj => e34 j (by omega)) (fun a ha => e a (by omega))⟩, sh, t, ?_, ?_⟩
  · rw [e34 18 (by decide)]; exact d.2.2.1
  · rw [e34 19 (by decide)]; exact d.2.2.2
theorem Pre.h0 {M M' : Mem} (h : Pre M) (e : ∀ a, a ≠ 0 → a ≠ 34 → M' a = M a) (e34 : ∀ j, 2 ≤ j → M' 34 j = M 34 j) (t : M' 0 8 = M' 34 1) : Pre M' :=
  h.of2 (fun a ha => e a (by omega) (by omega)) (fun j hj => e34 j (by omega)) t (fun k hk => (h.2.1 k hk).of hk (fun a ha => e a (by omega) (by omega)))
theorem Pre.c {M : Mem} (h : Pre M) (v : Int32) : Pre (up2 M 0 9 v) := h.h0 (fun a h1 h2 => up2_n _ _ _ h1) (fun _ _ => rfl) h.2.2.1
theorem Pre.m {M : Mem} (h : Pre M) (v : Int32) : Pre (up2 M 34 0 v) := h.h0 (fun a h1 h2 => up2_n _ _ _ h2) (fun j hj => by rw [up2_s, upd_n _ _ (by omega)]) h.2.2.1
/-- the end with a fault, and the end without -/
theorem Pre.f {M : Mem} (h : Pre M) {v : Int32} (e : M 0 9 = v) : Inv (up2 (up2 M 34 0 0) 34 0 v) := ((h.m 0).m v).inv e
theorem Pre.z {M : Mem} (h : Pre M) (e : M 0 9 = 0) : Inv (up2 M 34 0 0) := (h.m 0).inv e
theorem tell_num : ∀ g : Fin 10, nI g.val + 100 + nI g.val = 2 * nI g.val + 100 := by decide +kernel
theorem st_tell {M : Mem} (hI : Inv M) (p1 : Int32) : StpI (wp_X5_tell p1) (wp_X6_tell p1) M := by
  intro post hp
  have hI0 := hI
  obtain ⟨⟨S, hw, hr, hm⟩, hs⟩ := hI
  have n1 := hw.1.1
  unfold wp_X5_tell
  rcases ixI p1 (S 0 0) (by omega) with h1 | ⟨c, hc, rfl⟩
  · exact cChair_no hr h1 (b0B (hp _ _ (fun post' hq => mChair_no hm h1 (b0B (hq M hI0)))))
  refine cChair_yes hr hw hc (b1B ?_)
  have hi : vp_in (nI c) 5 := inI (by omega) (by decide)
  obtain ⟨a1, a2, a3⟩ := hr.2.1 c hc
  obtain ⟨q1, q2, q3⟩ := hm.2.1 c hc
  obtain ⟨k1, k2, k3⟩ := hw.2.1 c hc
  have e := cl (show c < 2147483648 by omega)
  have hmX : ∀ C : Mem, (∀ a, a ≠ 0 → C a = M a) → repM S C := fun C h => hm.of1 (fun j _ => by rw [h 34 (by decide)]) (fun a ha => h a (by omega))
  have et : M 0 8 = M 34 1 := hs.2.1
  have ef : M 0 9 = M 34 0 := hs.2.2.1
  rw [e, a1]
  refine ⟨hi, fun z => ?_, fun z => ?_, fun z => ?_⟩
  · intro M1 z1 M2 z2
    subst z1
    subst z2
    rw [e]
    refine ⟨hi, hp _ _ (fun post' hq => ?_)⟩
    refine mChair_yes (hmX _ (fun a ha => by rw [up2_n _ _ _ ha, up2_n _ _ _ ha])) hw hc (b1B ?_)
    rw [e]
    refine ⟨hi, fun v3 hv => ⟨hi, fun _ => ?_, fun y => absurd (y.symm.trans (q1.trans z)) (by decide), fun y => absurd (q1.trans z) y.1⟩⟩
    subst hv
    intro M5 z5 M7 z7
    subst z5
    subst z7
    have hf : ∀ F, Inv F → post' (M 40 c + 100) F := by
      intro F hF
      have := hq F hF
      rw [q3, ← a3]
      exact this
    refine hf _ (hI0.h0 (fun a x1 x2 => by rw [up2_n _ _ _ x2, up2_n _ _ _ x2, up2_n _ _ _ x1, up2_n _ _ _ x1]) (fun j hj => ?_) ?_ ef)
    · rw [up2_s, upd_n _ _ (by omega), up2_s, upd_n _ _ (by omega)]; rfl
    · show 31 * (31 * M 0 8 + 2) + 1 = 31 * (31 * M 34 1 + 2) + 1
      rw [et]
  · intro M1 z1 M2 z2 M3 z3
    subst z1
    subst z2
    subst z3
    rw [e]
    refine ⟨hi, ?_⟩
    intro M4 z4
    subst z4
    rw [e]
    refine ⟨hi, hp _ _ (fun post' hq => ?_)⟩
    refine mChair_yes (hmX _ (fun a ha => by rw [up2_n _ _ _ ha, up2_n _ _ _ ha, up2_n _ _ _ ha, up2_n _ _ _ ha])) hw hc (b1B ?_)
    rw [e]
    refine ⟨hi, fun v3 hv => ⟨hi, fun y => absurd (y.symm.trans (q1.trans z)) (by decide), fun _ => ?_, fun y => absurd (q1.trans z) y.2⟩⟩
    subst hv
    intro M5 z5 M6 z6 M7 z7 M8 z8
    subst z5
    subst z6
    subst z7
    subst z8
    have hf : ∀ F, Inv F → post' (2 * M 40 c + 100) F := by
      intro F hF
      have := hq F hF
      rw [q3, ← tell_num ⟨S 3 c, by omega⟩, ← a3]
      exact this
    refine hf _ (hI0.h0 (fun a x1 x2 => by rw [up2_n _ _ _ x2, up2_n _ _ _ x2, up2_n _ _ _ x2, up2_n _ _ _ x2, up2_n _ _ _ x1, up2_n _ _ _ x1, up2_n _ _ _ x1, up2_n _ _ _ x1]) (fun j hj => ?_) ?_ ef)
    · rw [up2_s, upd_n _ _ (by omega), up2_s, upd_n _ _ (by omega), up2_s, upd_n _ _ (by omega), up2_s, upd_n _ _ (by omega)]; rfl
    · show 31 * (31 * (31 * (31 * M 0 8 + 3) + 2) + 1) + 1 = 31 * (31 * (31 * (31 * M 34 1 + 3) + 2) + 1) + 1
      rw [et]
  · intro M1 z1
    subst z1
    rw [e]
    refine ⟨hi, hp _ _ (fun post' hq => ?_)⟩
    refine mChair_yes (hmX _ (fun a ha => by rw [up2_n _ _ _ ha])) hw hc (b1B ?_)
    rw [e]
    refine ⟨hi, fun v3 hv => ⟨hi, fun y => absurd (q1.symm.trans y) z.1, fun y => absurd (q1.symm.trans y) z.2, fun _ => ?_⟩⟩
    subst hv
    intro M5 z5
    subst z5
    have hf : ∀ F, Inv F → post' (M 40 c) F := by
      intro F hF
      have := hq F hF
      rw [q3, ← a3]
      exact this
    refine hf _ (hI0.h0 (fun a x1 x2 => by rw [up2_n _ _ _ x2, up2_n _ _ _ x1]) (fun j hj => ?_) ?_ ef)
    · rw [up2_s, upd_n _ _ (by omega)]; rfl
    · show 31 * M 0 8 + 1 = 31 * M 34 1 + 1
      rw [et]
theorem st_creak {M : Mem} (hI : Inv M) (p1 : Int32) : StpI (wp_X5_creak p1) (wp_X6_creak p1) M := by
  intro post hp
  have hI0 := hI
  obtain ⟨⟨S, hw, hr, hm⟩, hs⟩ := hI
  have n1 := hw.1.1
  unfold wp_X5_creak
  rcases ixI p1 (S 0 0) (by omega) with h1 | ⟨c, hc, rfl⟩
  · exact cChair_no hr h1 (b0B (hp _ _ (fun post' hq => mChair_no hm h1 (b0B (hq M hI0)))))
  refine cChair_yes hr hw hc (b1B ?_)
  have hi : vp_in (nI c) 5 := inI (by omega) (by decide)
  obtain ⟨a1, a2, a3⟩ := hr.2.1 c hc
  obtain ⟨q1, q2, q3⟩ := hm.2.1 c hc
  have e := cl (show c < 2147483648 by omega)
  have hmX : ∀ C : Mem, (∀ a, a ≠ 0 → C a = M a) → repM S C := fun C h => hm.of1 (fun j _ => by rw [h 34 (by decide)]) (fun a ha => h a (by omega))
  have et : M 0 8 = M 34 1 := hs.2.1
  have ef : M 0 9 = M 34 0 := hs.2.2.1
  rw [e, a1]
  have fin : ∀ v : Int32, Inv (up2 (up2 M 0 8 (31 * M 0 8 + v)) 34 1 (31 * M 34 1 + v)) := by
    intro v
    refine hI0.h0 (fun a x1 x2 => by rw [up2_n _ _ _ x2, up2_n _ _ _ x1]) (fun j hj => ?_) ?_ ef
    · rw [up2_s, upd_n _ _ (by omega)]; rfl
    · show 31 * M 0 8 + v = 31 * M 34 1 + v
      rw [et]
  refine ⟨hi, fun z => ?_, fun z => ?_⟩
  · intro M1 z1
    subst z1
    refine hp _ _ (fun post' hq => mChair_yes (hmX _ (fun a ha => by rw [up2_n _ _ _ ha])) hw hc (b1B ?_))
    refine ⟨hi, ?_⟩
    rw [e]
    refine ⟨fun _ => ?_, fun y => absurd (q1.symm.trans y) z⟩
    intro M4 z4
    subst z4
    refine ⟨hi, ?_⟩
    rw [e]
    exact ⟨fun _ => hq _ (fin 4), fun y => absurd (q1.symm.trans y) z⟩
  · intro M1 z1
    subst z1
    refine hp _ _ (fun post' hq => mChair_yes (hmX _ (fun a ha => by rw [up2_n _ _ _ ha])) hw hc (b1B ?_))
    refine ⟨hi, ?_⟩
    rw [e]
    refine ⟨fun y => absurd (q1.trans z) y, fun _ => ?_⟩
    intro M4 z4
    subst z4
    refine ⟨hi, ?_⟩
    rw [e]
    exact ⟨fun y => absurd (q1.trans z) y, fun _ => hq _ (fin 5)⟩
theorem st_as {M : Mem} (hI : Inv M) (p1 p2 : Int32) : StpI (wp_X5_as p1 p2) (wp_X6_as p1 p2) M := by
  intro post hp M1 z1
  have hP : Pre M1 := by subst z1; exact hI.pre.c 0
  have h0 : M1 0 9 = 0 := by subst z1; rfl
  clear z1
  have hP0 := hP
  obtain ⟨⟨S, hw, hr, hm⟩, hs⟩ := hP
  have n1 := hw.1.1
  have hm1 : ∀ v w : Int32, repM S (up2 (up2 M1 0 9 v) 34 0 w) := fun v w => hm.of1 (fun j hj => by rw [up2_s, upd_n _ _ (by omega)]; rfl) (fun a ha => by rw [up2_n _ _ _ (by omega), up2_n _ _ _ (by omega)])
  have hm2 : ∀ w : Int32, repM S (up2 M1 34 0 w) := fun w => hm.of1 (fun j hj => by rw [up2_s, upd_n _ _ (by omega)]) (fun a ha => by rw [up2_n _ _ _ (by omega)])
  rcases ixI p1 (S 0 0) (by omega) with h1 | ⟨c, hc, rfl⟩
  · refine cChair_no hr h1 (b0B (hp _ _ (fun post' hq M2 z2 => ?_)))
    subst z2
    exact mChair_no (hm2 0) h1 (b0B (hq _ (hP0.z h0)))
  refine cChair_yes hr hw hc (b1B ?_)
  have hi : vp_in (nI c) 5 := inI (by omega) (by decide)
  obtain ⟨a1, a2, a3⟩ := hr.2.1 c hc
  obtain ⟨k1, k2, k3⟩ := hw.2.1 c hc
  have e := cl (show c < 2147483648 by omega)
  rw [e, a1]
  have bad : (p2 < 0 ∨ nI 3 ≤ p2) → post (-2) M1 := by
    intro h
    refine hp _ _ (fun post' hq M2 z2 => ?_)
    subst z2
    exact mChair_yes (hm2 0) hw hc (b1B (mWit_no (n := 2) (by decide) h (b0B (hq _ (hP0.z h0)))))
  rcases ixI p2 3 (by omega) with h2 | ⟨j, hj, rfl⟩
  · refine ⟨fun _ => bad h2, fun y => ⟨fun y2 => ?_, fun _ => bad h2⟩⟩
    rcases h2 with h2 | h2
    · exact absurd h2 y
    · rw [fa_lt] at y2
      rw [fa_le] at h2
      exact absurd y2 (Int.not_lt.mpr h2)
  · refine ⟨fun y => absurd y (negI (by omega)), fun _ => ⟨fun _ => ⟨hi, fun y => ?_, fun y => ?_⟩, fun y => absurd ((ltI (b := 3) (by omega) (by decide)).mpr hj) y⟩⟩
    · rw [leI (by omega) (by omega)] at y
      refine hp _ _ (fun post' hq M2 z2 => ?_)
      subst z2
      refine mChair_yes (hm2 0) hw hc (b1B (mWit_yes (n := 2) (by decide) hj (b1B ⟨hi, ?_⟩)))
      rw [e, ((hm2 0).2.1 c hc).1, ltI (by omega) (by omega)]
      exact ⟨fun y2 => absurd y2 (by omega), fun _ => hq _ (hP0.z h0)⟩
    · rw [leI (by omega) (by omega)] at y
      intro M4 z4
      subst z4
      refine hp _ _ (fun post' hq M2 z2 => ?_)
      subst z2
      refine mChair_yes (hm1 2 0) hw hc (b1B (mWit_yes (n := 2) (by decide) hj (b1B ⟨hi, ?_⟩)))
      rw [e, ((hm1 2 0).2.1 c hc).1, ltI (by omega) (by omega)]
      refine ⟨fun y2 M6 z6 => ?_, fun y2 => absurd (by omega) y2⟩
      subst z6
      exact hq _ ((hP0.c 2).f rfl)
