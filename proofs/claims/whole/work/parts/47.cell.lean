/-! cell, sheet -/
theorem st_cell {M : Mem} (hI : Inv M) (p1 p2 p3 : Int32) : StpJ (wp_X5_cell p1 p2 p3) (wp_X6_cell p1 p2 p3) M := by
  intro post hp M1 z1
  have hP : Pre M1 := by subst z1; exact hI.pre.c 0
  have h0 : M1 0 9 = 0 := by subst z1; rfl
  clear z1
  rcases ixI p1 4 (by omega) with h1 | ⟨k, hk, rfl⟩
  · refine cSh_no h1 (b0A (hp _ _ (fun post' hq M2 z2 => ?_)))
    subst z2
    exact mSh_no h1 (b0A (hq _ (hP.z h0)))
  have hi : vp_in (nI k) 4 := inI hk (by decide)
  have e := cl (show k < 2147483648 by omega)
  refine cSh_yes hk (b1A ?_)
  rcases ixI p3 3 (by omega) with h3 | ⟨l, hl, rfl⟩
  · refine cLn_no h3 (b0B (hp _ _ (fun post' hq M2 z2 => ?_)))
    subst z2
    exact mSh_yes hk (b1A (mLn_no h3 (b0B (hq _ (hP.z h0)))))
  refine cLn_yes hl (b1B ⟨hi, ?_⟩)
  rw [e]
  rcases hP.2.1 k hk with ⟨s1, s2⟩ | ⟨ln, len, l1, l2, s1, s2, s3, s4, s5⟩
  · refine emp_yes s2 (b1A (fun M7 z7 => ?_))
    subst z7
    refine ⟨fun _ => ?_, fun y => absurd (show (1 : Int32) = 0 from y) (by decide)⟩
    refine ⟨fun _ => hp _ _ (fun post' hq M2 z2 => ?_), fun y => absurd (show (1 : Int32) = 0 from y) (by decide)⟩
    subst z2
    refine mSh_yes hk (b1A (mLn_yes hl (b1B ⟨hi, ?_⟩)))
    rw [e, show up2 (up2 M1 0 9 1) 34 0 0 35 k = -9 from s1]
    refine ⟨fun _ => ⟨hi, ?_⟩, fun y => absurd rfl y⟩
    rw [e, show up2 (up2 M1 0 9 1) 34 0 0 35 k = -9 from s1]
    refine ⟨fun y => absurd rfl y, fun _ M10 z10 => ?_⟩
    subst z10
    exact hq _ ((hP.c 1).f rfl)
  refine emp_no (by rw [s4]; exact m1_ne (by omega)) (b0A ?_)
  rw [s2]
  refine ⟨fun hne M7 z7 => ?_, fun heq M7 z7 => ?_⟩
  · subst z7
    refine ⟨fun _ => ?_, fun y => absurd (show (2 : Int32) = 0 from y) (by decide)⟩
    refine ⟨fun _ => hp _ _ (fun post' hq M2 z2 => ?_), fun y => absurd (show (2 : Int32) = 0 from y) (by decide)⟩
    subst z2
    refine mSh_yes hk (b1A (mLn_yes hl (b1B ⟨hi, ?_⟩)))
    rw [e, show up2 (up2 M1 0 9 2) 34 0 0 35 k = nI ln from s1]
    refine ⟨fun y => absurd y (m9_ne (by omega)), fun _ => ⟨hi, fun y => absurd y hne, fun _ M10 z10 => ?_⟩⟩
    subst z10
    exact hq _ ((hP.c 2).f rfl)
  · refine ⟨fun y => absurd (by subst z7; rfl) y, fun _ => ⟨hi, ?_⟩⟩
    have x4 : M7 (26 + k) 2 = nI len := by subst z7; rw [up2_n _ _ _ (by omega)]; exact s4
    refine emp_no (by rw [x4]; exact m1_ne (by omega)) (b0A ?_)
    rw [x4]
    rcases ixI p2 len (by omega) with h2 | ⟨j, hj, rfl⟩
    · refine rng_no h2 (fun M9 z9 => ?_)
      subst z7
      rw [up2_up2] at z9
      subst z9
      refine ⟨fun _ => hp _ _ (fun post' hq M2 z2 => ?_), fun y => absurd (show (3 : Int32) = 0 from y) (by decide)⟩
      subst z2
      refine mSh_yes hk (b1A (mLn_yes hl (b1B ⟨hi, ?_⟩)))
      rw [e, show up2 (up2 M1 0 9 3) 34 0 0 35 k = nI ln from s1]
      refine ⟨fun y => absurd y (m9_ne (by omega)), fun _ => ⟨hi, fun _ => ⟨hi, ?_⟩, fun y => absurd heq y⟩⟩
      rw [e, show up2 (up2 M1 0 9 3) 34 0 0 35 k = nI ln from s1, show up2 (up2 M1 0 9 3) 34 0 0 36 k = nI len from s3]
      refine ⟨fun _ => ⟨hi, wit_no (h2.elim Or.inl (fun q => Or.inr (lt_pred l2 q))) (b0B (fun M10 z10 => ?_))⟩, fun y => absurd y (m9_ne (by omega))⟩
      subst z10
      exact hq _ ((hP.c 3).f rfl)
    · refine rng_yes hj (by omega) (fun M9 z9 => ?_)
      subst z7
      rw [up2_up2] at z9
      subst z9
      refine ⟨fun y => absurd rfl y, fun _ => ⟨hi, inI (by omega) (by decide), ?_⟩⟩
      rw [e, cl (show j < 2147483648 by omega), show 26 + k + 4 = 30 + k by omega, up2_n _ _ _ (show 30 + k ≠ 0 by omega), s5 j (by omega)]
      refine hp _ _ (fun post' hq M2 z2 => ?_)
      subst z2
      refine mSh_yes hk (b1A (mLn_yes hl (b1B ⟨hi, ?_⟩)))
      rw [e, show up2 (up2 M1 0 9 0) 34 0 0 35 k = nI ln from s1]
      refine ⟨fun y => absurd y (m9_ne (by omega)), fun _ => ⟨hi, fun _ => ⟨hi, ?_⟩, fun y => absurd heq y⟩⟩
      rw [e, show up2 (up2 M1 0 9 0) 34 0 0 35 k = nI ln from s1, show up2 (up2 M1 0 9 0) 34 0 0 36 k = nI len from s3]
      obtain ⟨m, rfl⟩ : ∃ m, len = m + 1 := ⟨len - 1, by omega⟩
      rw [sub1I]
      refine ⟨fun _ => ⟨hi, mWit_yes (by omega) hj (b1B ?_)⟩, fun y => absurd y (m9_ne (by omega))⟩
      rw [show (60 : Int32) = nI 60 from rfl, mulN, addN, cl (show 60 * k + j < 2147483648 by omega)]
      exact ⟨inI (by omega) (by decide), hq _ ((hP.c 0).z rfl)⟩
theorem begin_loop {M0 : Mem} {c0 : Nat} {p1 p2 : Int32} {post : Mem → Prop} (hp : ∀ M, (∀ a, a ≠ c0 + 4 → M a = M0 a) → (∀ j, j < 60 → M (c0 + 4) j = 0) → post M) :
    ∀ (m i : Nat) (M : Mem), i + m = 60 → (∀ a, a ≠ c0 + 4 → M a = M0 a) → (∀ j, j < i → M (c0 + 4) j = 0) → lp_X4_begin_12 c0 p1 p2 post (m + 1) (nI i) M := by
  intro m
  induction m with
  | zero =>
    intro i M hi h1 h2
    have e : i = 60 := by omega
    subst e
    exact ⟨fun _ => hp M h1 h2, fun h => absurd (by decide) h⟩
  | succ m ih =>
    intro i M hi h1 h2
    refine ⟨fun h => absurd ((leI (a := 60) (by decide) (by omega)).mp h) (by omega), fun _ => ⟨inI (by omega) (by decide), fun M3 z => ?_⟩⟩
    rw [cl (by omega)] at z
    subst z
    rw [addI1]
    refine ih (i + 1) _ (by omega) (fun a ha => by rw [up2_n _ _ _ ha]; exact h1 a ha) (fun j hj => ?_)
    rw [up2_s, upd_at]
    by_cases y : j = i
    · rw [if_pos y]
    · rw [if_neg y]; exact h2 j (by omega)
theorem msheet_loop {M0 : Mem} {k : Nat} (hk : k < 4) {p2 p3 : Int32} {post : Int32 → Mem → Prop} (hp : ∀ M, (∀ a, a ≠ 37 → M a = M0 a) → (∀ j, j < 60 * k ∨ 60 * k + 60 ≤ j → M 37 j = M0 37 j) → (∀ j, j < 60 → M 37 (60 * k + j) = 0) → post 1 M) :
    ∀ (m i : Nat) (M : Mem), i + m = 60 → (∀ a, a ≠ 37 → M a = M0 a) → (∀ j, j < 60 * k ∨ 60 * k + 60 ≤ j → M 37 j = M0 37 j) → (∀ j, j < i → M 37 (60 * k + j) = 0) → lp_X6_sheet_57 (nI k) p2 p3 post (m + 1) (nI i) M := by
  intro m
  induction m with
  | zero =>
    intro i M hi h1 h2 h3
    have e : i = 60 := by omega
    subst e
    exact ⟨fun _ => hp M h1 h2 h3, fun h => absurd (by decide) h⟩
  | succ m ih =>
    intro i M hi h1 h2 h3
    have e60 : 60 * nI k + nI i = nI (60 * k + i) := by rw [show (60 : Int32) = nI 60 from rfl, mulN, addN]
    refine ⟨fun h => absurd ((leI (a := 60) (by decide) (by omega)).mp h) (by omega), fun _ => ?_⟩
    rw [e60, cl (by omega)]
    refine ⟨inI (by omega) (by decide), fun M3 z => ?_⟩
    subst z
    rw [addI1]
    refine ih (i + 1) _ (by omega) (fun a ha => by rw [up2_n _ _ _ ha]; exact h1 a ha) (fun j hj => ?_) (fun j hj => ?_)
    · rw [up2_s, upd_n _ _ (by omega)]; exact h2 j hj
    · rw [up2_s, upd_at]
      by_cases y : j = i
      · rw [if_pos (by omega)]
      · rw [if_neg (by omega)]; exact h3 j (by omega)
theorem st_sheet {M : Mem} (hI : Inv M) (p1 p2 p3 : Int32) : StpI (wp_X5_sheet p1 p2 p3) (wp_X6_sheet p1 p2 p3) M := by
  intro post hp M1 z1
  have hP : Pre M1 := by subst z1; exact hI.pre.c 0
  have h0 : M1 0 9 = 0 := by subst z1; rfl
  clear z1
  rcases ixI p1 4 (by omega) with h1 | ⟨k, hk, rfl⟩
  · refine cSh_no h1 (b0B (hp _ _ (fun post' hq M2 z2 => ?_)))
    subst z2
    exact mSh_no h1 (b0B (hq _ (hP.z h0)))
  have hi : vp_in (nI k) 4 := inI hk (by decide)
  have e := cl (show k < 2147483648 by omega)
  refine cSh_yes hk (b1B ?_)
  rcases ixI p2 3 (by omega) with h3 | ⟨l, hl, rfl⟩
  · refine cLn_no h3 (b0A (hp _ _ (fun post' hq M2 z2 => ?_)))
    subst z2
    exact mSh_yes hk (b1B (mLn_no h3 (b0A (hq _ (hP.z h0)))))
  refine cLn_yes hl (b1A ⟨fun hle => ⟨fun hge => ⟨hi, ?_⟩, fun hge M9 z9 => ?_⟩, fun hle => hp _ _ (fun post' hq M2 z2 => ?_)⟩)
  · obtain ⟨len, hlen, rfl⟩ : ∃ len, len ≤ 60 ∧ p3 = nI len := by
      rcases ixI p3 61 (by omega) with h | ⟨j, hj, rfl⟩
      · rw [fa_le, show ((60 : Int32)).toInt = 60 by decide] at hle
        rw [fa_le, show ((0 : Int32)).toInt = 0 by decide] at hge
        rw [fa_lt, fa_le, nI_toInt (by omega), show ((0 : Int32)).toInt = 0 by decide] at h
        omega
      · exact ⟨j, by omega, rfl⟩
    rw [e]
    intro M2 z2 M3 z3
    refine ⟨61, begin_loop (fun C c1 c2 => ?_) 60 0 M3 (by omega) (fun _ _ => rfl) (fun j hj => by omega)⟩
    rw [show 26 + k + 4 = 30 + k by omega] at c1 c2
    refine hp _ _ (fun post' hq M4 z4 => mSh_yes hk (b1B (mLn_yes hl (b1A ⟨fun _ => ⟨fun _ => ⟨hi, fun M6 z6 => ⟨hi, fun M7 z7 => ⟨61, ?_⟩⟩⟩, fun y => absurd hge y⟩, fun y => absurd hle y⟩))))
    rw [e] at z6 z7
    refine msheet_loop hk (fun F f1 f2 f3 => ?_) 60 0 M7 (by omega) (fun _ _ => rfl) (fun _ _ => rfl) (fun j hj => by omega)
    have g1 : ∀ a, a ≠ 26 + k → a ≠ 30 + k → a ≠ 34 → a ≠ 35 → a ≠ 36 → a ≠ 37 → F a = M1 a := by
      intro a x1 x2 x3 x4 x5 x6
      rw [f1 a x6]; subst z7; subst z6; subst z4
      rw [up2_n _ _ _ x5, up2_n _ _ _ x4, up2_n _ _ _ x3, c1 a x2]
      subst z3; subst z2
      rw [up2_n _ _ _ x1, up2_n _ _ _ x1]
    refine hq _ (Pre.inv (hP.sh hk (fun a x1 x2 x3 x4 x5 x6 x7 => g1 a x1 x2 x7 x3 x4 x5) (fun i hi => ?_) ?_ (fun i hi => ?_) (fun i hi => ?_) (fun i hi => ?_) (Or.inr ⟨l, len, by omega, hlen, ?_, ?_, ?_, ?_, fun i hi => ?_⟩)) ?_)
    · rw [f1 34 (by decide)]; subst z7; subst z6; subst z4
      rw [up2_n _ _ _ (by decide), up2_n _ _ _ (by decide), up2_s, upd_n _ _ (by omega), c1 34 (by omega)]; subst z3; subst z2
      rw [up2_n _ _ _ (by omega), up2_n _ _ _ (by omega)]
    · rw [g1 0 (by omega) (by omega) (by omega) (by omega) (by omega) (by omega)]
    · rw [f1 35 (by decide)]; subst z7; subst z6; subst z4
      rw [up2_n _ _ _ (by decide), up2_s, upd_n _ _ hi, up2_n _ _ _ (by decide), c1 35 (by omega)]; subst z3; subst z2
      rw [up2_n _ _ _ (by omega), up2_n _ _ _ (by omega)]
    · rw [f1 36 (by decide)]; subst z7; subst z6; subst z4
      rw [up2_s, upd_n _ _ hi, up2_n _ _ _ (by decide), up2_n _ _ _ (by decide), c1 36 (by omega)]; subst z3; subst z2
      rw [up2_n _ _ _ (by omega), up2_n _ _ _ (by omega)]
    · rw [f2 i hi]; subst z7; subst z6; subst z4
      rw [up2_n _ _ _ (by decide), up2_n _ _ _ (by decide), up2_n _ _ _ (by decide), c1 37 (by omega)]; subst z3; subst z2
      rw [up2_n _ _ _ (by omega), up2_n _ _ _ (by omega)]
    · rw [f1 35 (by decide)]; subst z7; subst z6
      rw [up2_n _ _ _ (by decide), up2_s, upd_s]
    · rw [f1 _ (by omega)]; subst z7; subst z6; subst z4
      rw [up2_n _ _ _ (by omega), up2_n _ _ _ (by omega), up2_n _ _ _ (by omega), c1 _ (by omega)]; subst z3; subst z2
      rw [up2_s, upd_n _ _ (by decide), up2_s, upd_s]
    · rw [f1 36 (by decide)]; subst z7
      rw [up2_s, upd_s]
    · rw [f1 _ (by omega)]; subst z7; subst z6; subst z4
      rw [up2_n _ _ _ (by omega), up2_n _ _ _ (by omega), up2_n _ _ _ (by omega), c1 _ (by omega)]; subst z3
      rw [up2_s, upd_s]
    · rw [f3 i hi, f1 _ (by omega)]; subst z7; subst z6; subst z4
      rw [up2_n _ _ _ (by omega), up2_n _ _ _ (by omega), up2_n _ _ _ (by omega)]
      exact c2 i hi
    · rw [g1 0 (by omega) (by omega) (by omega) (by omega) (by omega) (by omega), f1 34 (by decide)]; subst z7; subst z6; subst z4
      rw [up2_n _ _ _ (by decide), up2_n _ _ _ (by decide), up2_s, upd_s]
      exact h0
  · subst z9
    refine hp _ _ (fun post' hq M2 z2 => ?_)
    subst z2
    refine mSh_yes hk (b1B (mLn_yes hl (b1A ⟨fun _ => ⟨fun y => absurd y hge, fun _ M10 z10 => ?_⟩, fun y => absurd hle y⟩)))
    subst z10
    exact hq _ ((hP.c 4).f rfl)
  · subst z2
    exact mSh_yes hk (b1B (mLn_yes hl (b1A ⟨fun y => absurd y hle, fun _ => hq _ (hP.z h0)⟩)))
