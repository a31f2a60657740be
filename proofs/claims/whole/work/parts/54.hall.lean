/-! hall -/
theorem hcp_loop {M0 : Mem} {T : Nat → Int32} {nc : Nat} (hnc : nc ≤ 5) (h6 : M0 34 6 = nI nc) (h47 : ∀ j, j < nc → rd47 M0 T j) {p1 p2 p3 p4 : Int32} {post : Int32 → Mem → Prop} (hp : ∀ M, (∀ a, a ≠ 38 → a ≠ 39 → a ≠ 40 → M a = M0 a) → (∀ j, j < nc → txt3 M 38 39 40 T j) → post (nI nc) (up2 (up2 (up2 M 34 10 0) 34 14 0) 34 28 0)) :
    ∀ (m i : Nat) (M : Mem), i + m = nc → (∀ a, a ≠ 38 → a ≠ 39 → a ≠ 40 → M a = M0 a) → (∀ j, j < i → txt3 M 38 39 40 T j) → lp_X6_hall_103 p1 p2 p3 p4 post (m + 1) (nI i) M := by
  intro m
  induction m with
  | zero =>
    intro i M hi h1 h2
    have e : i = nc := by omega
    subst e
    unfold lp_X6_hall_103
    rw [h1 34 (by decide) (by decide) (by decide), h6]
    refine ⟨fun _ M14 z14 M15 z15 M16 z16 => ?_, fun h => absurd ((leI (by omega) (by omega)).mpr (Nat.le_refl _)) h⟩
    subst z14
    subst z15
    subst z16
    have e6 : up2 (up2 (up2 M 34 10 0) 34 14 0) 34 28 0 34 6 = nI i := by
      rw [up2_s, upd_n _ _ (by decide), up2_s, upd_n _ _ (by decide), up2_s, upd_n _ _ (by decide), h1 34 (by decide) (by decide) (by decide)]
      exact h6
    rw [e6]
    exact hp M h1 h2
  | succ m ih =>
    intro i M hi h1 h2
    unfold lp_X6_hall_103
    rw [h1 34 (by decide) (by decide) (by decide), h6, show (3 : Int32) = nI 3 from rfl, mulN, addI1, show (2 : Int32) = nI 2 from rfl, addN, addI1, cl (show i < 2147483648 by omega), cl (show 3 * i < 2147483648 by omega), cl (show 3 * i + 1 < 2147483648 by omega), cl (show 3 * i + 2 < 2147483648 by omega)]
    have hi5 : vp_in (nI i) 5 := inI (by omega) (by decide)
    obtain ⟨r1, r2, r3⟩ := h47 i (by omega)
    have x47 : M 47 = M0 47 := h1 47 (by decide) (by decide) (by decide)
    refine ⟨fun h => absurd ((leI (by omega) (by omega)).mp h) (by omega), fun _ => ⟨inI (by omega) (by decide), hi5, fun M17 z17 => ⟨inI (by omega) (by decide), hi5, fun M18 z18 => ⟨inI (by omega) (by decide), hi5, fun M19 z19 => ?_⟩⟩⟩⟩
    rw [x47, r1] at z17
    subst z17
    rw [up2_n _ _ _ (show (47 : Nat) ≠ 38 by decide), x47, r2] at z18
    subst z18
    rw [up2_n _ _ _ (show (47 : Nat) ≠ 39 by decide), up2_n _ _ _ (show (47 : Nat) ≠ 38 by decide), x47, r3] at z19
    subst z19
    refine ih (i + 1) _ (by omega) (fun a x1 x2 x3 => by rw [up2_n _ _ _ x3, up2_n _ _ _ x2, up2_n _ _ _ x1]; exact h1 a x1 x2 x3) (succ_all (fun j hj => ?_) ?_)
    · obtain ⟨q1, q2, q3⟩ := h2 j hj
      refine ⟨?_, ?_, ?_⟩
      · rw [up2_n _ _ _ (by decide), up2_n _ _ _ (by decide), up2_s, upd_n _ _ (by omega)]; exact q1
      · rw [up2_n _ _ _ (by decide), up2_s, upd_n _ _ (by omega), up2_n _ _ _ (by decide)]; exact q2
      · rw [up2_s, upd_n _ _ (by omega), up2_n _ _ _ (by decide), up2_n _ _ _ (by decide)]; exact q3
    · refine ⟨?_, ?_, ?_⟩
      · rw [up2_n _ _ _ (by decide), up2_n _ _ _ (by decide), up2_s, upd_s]
      · rw [up2_n _ _ _ (by decide), up2_s, upd_s]
      · rw [up2_s, upd_s]
/-- the hall that a good text tells -/
def newS (T : Nat → Int32) (nc : Nat) : AS := fun a i => if a = 0 then (if i = 0 then nc else if i = 1 then (T 1 - 48).toNatClampNeg else 0) else if a = 1 then kindN (T (3 + 4 * i)) else if a = 2 then (T (4 + 4 * i) - 48).toNatClampNeg else if a = 3 then (T (5 + 4 * i) - 48).toNatClampNeg else 0
theorem newS_facts {T : Nat → Int32} {n nc : Nat} (hn : n = 2 + 4 * nc) (h1 : 1 ≤ nc) (hG : allG n T) : (∃ v, 1 ≤ v ∧ v ≤ 5 ∧ T 1 - 48 = nI v ∧ newS T nc 0 1 = v) ∧ ∀ j, j < nc → newS T nc 1 j ≤ 2 ∧ (∃ v, v ≤ 4 ∧ T (4 + 4 * j) - 48 = nI v ∧ newS T nc 2 j = v) ∧ (∃ v, v ≤ 9 ∧ T (5 + 4 * j) - 48 = nI v ∧ newS T nc 3 j = v) := by
  refine ⟨?_, fun j hj => ⟨?_, ?_, ?_⟩⟩
  · obtain ⟨g1, g2⟩ := gr1.mp (hG.1 1 (by omega))
    obtain ⟨v, hv, ev, ec⟩ := dig (c := T 1) (m := 5) (by decide) (fun z => g1 (by rw [fa_lt] at z ⊢; rw [show ((48 : Int32)).toInt = 48 by decide] at z; rw [show ((49 : Int32)).toInt = 49 by decide]; omega)) g2
    rw [ec, show (49 : Int32) = nI 49 from rfl, ltI (by omega) (by decide)] at g1
    refine ⟨v, by omega, hv, ev, ?_⟩
    show (T 1 - 48).toNatClampNeg = v
    rw [ev, cl (by omega)]
  · show kindN (T (3 + 4 * j)) ≤ 2
    unfold kindN
    split
    · exact Nat.le_refl _
    · split <;> decide
  · obtain ⟨g1, g2⟩ := grE.mp (hG.1 (4 + 4 * j) (by omega))
    obtain ⟨v, hv, ev, -⟩ := dig (m := 4) (by decide) g1 g2
    refine ⟨v, hv, ev, ?_⟩
    show (T (4 + 4 * j) - 48).toNatClampNeg = v
    rw [ev, cl (by omega)]
  · obtain ⟨g1, g2⟩ := grG.mp (hG.1 (5 + 4 * j) (by omega))
    obtain ⟨v, hv, ev, -⟩ := dig (m := 9) (by decide) g1 g2
    refine ⟨v, hv, ev, ?_⟩
    show (T (5 + 4 * j) - 48).toNatClampNeg = v
    rw [ev, cl (by omega)]
theorem wf_new {T : Nat → Int32} {n nc : Nat} (hn : n = 2 + 4 * nc) (h1 : 1 ≤ nc) (h5 : nc ≤ 5) (hG : allG n T) : wf (newS T nc) := by
  obtain ⟨⟨v, v1, v2, ev, e1⟩, h⟩ := newS_facts hn h1 hG
  refine ⟨⟨h5, by rw [e1]; exact v2, Nat.zero_le _, Nat.zero_le _, Nat.zero_le _, ?_⟩, fun j hj => ?_, fun j hj => absurd hj (Nat.not_lt_zero _), fun j hj => absurd hj (Nat.not_lt_zero _), fun j hj => absurd hj (Nat.not_lt_zero _)⟩
  · rw [e1]
    show nc = 0 ↔ v = 0
    omega
  · obtain ⟨a, ⟨b, b1, b2, b3⟩, ⟨c, c1, c2, c3⟩⟩ := h j hj
    exact ⟨a, by rw [b3]; exact b1, by rw [c3]; exact c1⟩
theorem repC_new {T : Nat → Int32} {n nc : Nat} (hn : n = 2 + 4 * nc) (h1 : 1 ≤ nc) (h5 : nc ≤ 5) (hG : allG n T) {M : Mem} (e3 : M 1 3 = nI nc) (e4 : M 1 4 = T 1 - 48) (z5 : M 5 3 = 0) (z9 : M 9 3 = 0) (z13 : M 13 3 = 0) (ht : ∀ j, j < nc → txt3 M 2 3 4 T j) : repC (newS T nc) M := by
  obtain ⟨⟨v, v1, v2, ev, e1⟩, h⟩ := newS_facts hn h1 hG
  refine ⟨⟨e3, by rw [e1, e4, ev], z5, z9, z13⟩, fun j hj => ?_, fun j hj => absurd hj (Nat.not_lt_zero _), fun j hj => absurd hj (Nat.not_lt_zero _), fun j hj => absurd hj (Nat.not_lt_zero _)⟩
  obtain ⟨a, ⟨b, b1, b2, b3⟩, ⟨c, c1, c2, c3⟩⟩ := h j hj
  obtain ⟨q1, q2, q3⟩ := ht j hj
  exact ⟨q1, by rw [b3, q2, b2], by rw [c3, q3, c2]⟩
theorem repM_new {T : Nat → Int32} {n nc : Nat} (hn : n = 2 + 4 * nc) (h1 : 1 ≤ nc) (h5 : nc ≤ 5) (hG : allG n T) {M : Mem} (e3 : M 34 6 = nI nc) (e4 : M 34 5 = T 1 - 48) (z5 : M 34 10 = 0) (z9 : M 34 14 = 0) (z13 : M 34 28 = 0) (ht : ∀ j, j < nc → txt3 M 38 39 40 T j) : repM (newS T nc) M := by
  obtain ⟨⟨v, v1, v2, ev, e1⟩, h⟩ := newS_facts hn h1 hG
  refine ⟨⟨e3, by rw [e1, e4, ev], z5, z9, z13⟩, fun j hj => ?_, fun j hj => absurd hj (Nat.not_lt_zero _), fun j hj => absurd hj (Nat.not_lt_zero _), fun j hj => absurd hj (Nat.not_lt_zero _)⟩
  obtain ⟨a, ⟨b, b1, b2, b3⟩, ⟨c, c1, c2, c3⟩⟩ := h j hj
  obtain ⟨q1, q2, q3⟩ := ht j hj
  exact ⟨q1, by rw [b3, q2, b2], by rw [c3, q3, c2]⟩
theorem st_hall {M : Mem} (hI : Inv M) (p1 p2 p3 p4 : Int32) : StpI (wp_X5_hall p1 p2 p3 p4) (wp_X6_hall p1 p2 p3 p4) M := by
  intro post hp M1 z1
  have hP : Pre M1 := by subst z1; exact hI.pre.c 0
  have h0 : M1 0 9 = 0 := by subst z1; rfl
  clear z1
  rcases ixI p1 4 (by omega) with h1 | ⟨k, hk, rfl⟩
  · refine cSh_no h1 (b0B (hp _ _ (fun post' hq M2 z2 => ?_)))
    subst z2
    exact mSh_no h1 (b0B (hq _ (hP.z h0)))
  have hi : vp_in (nI k) 4 := inI hk (by decide)
  have e := cl (show k < 2147483648 by omega)
  refine cSh_yes hk (b1B ?_)
  rcases ixI p2 3 (by omega) with h3 | ⟨l, hl, rfl⟩
  · refine cLn_no h3 (b0B (hp _ _ (fun post' hq M2 z2 => ?_)))
    subst z2
    exact mSh_yes hk (b1B (mLn_no h3 (b0B (hq _ (hP.z h0)))))
  refine cLn_yes hl (b1B ⟨hi, ?_⟩)
  rw [e]
  obtain ⟨f, fc, fm, fz⟩ := cells_ok hk (hP.2.1 k hk) (nI l) p3 p4
  refine fc _ (fun M9 z9 => ?_)
  by_cases hf : f = 0
  rotate_left
  · subst z9
    refine ⟨fun y => absurd y hf, fun _ => hp _ _ (fun post' hq M2 z2 => ?_)⟩
    subst z2
    refine mSh_yes hk (b1B (mLn_yes hl (b1B (fm _ _ rfl rfl ⟨fun y => absurd y hf, fun _ M10 z10 => ?_⟩))))
    subst z10
    exact hq _ ((hP.c f).f rfl)
  subst hf
  obtain ⟨x, n, hx, rfl, rfl, s5⟩ := fz rfl
  have hP9 : Pre M9 := by subst z9; exact hP.c 0
  have h09 : M9 0 9 = 0 := by subst z9; rfl
  have e35 : M9 35 = M1 35 := by subst z9; rfl
  have e36 : M9 36 = M1 36 := by subst z9; rfl
  have s59 : ∀ j, j < 60 → M9 (30 + k) j = M9 37 (60 * k + j) := by subst z9; intro j hj; rw [up2_n _ _ _ (by omega)]; exact s5 j hj
  clear z9
  have e60 : 60 * nI k + nI x = nI (60 * k + x) := by rw [show (60 : Int32) = nI 60 from rfl, mulN, addN]
  have hT : ∀ t, t < n → M9 (26 + k + 4) (x + t) = M9 37 (60 * k + x + t) := fun t ht => by
    rw [show 26 + k + 4 = 30 + k by omega, s59 _ (by omega)]
    exact congrArg (M9 37) (by omega)
  -- the reference, from any memory that the class leaves
  have mod : ∀ (C : Mem) (r : Int32), C 35 = M9 35 → C 36 = M9 36 → C 37 = M9 37 → (∀ j, isF n (fun t => M9 37 (60 * k + x + t)) j → ∀ M', hfr (up2 (up2 C 34 0 0) 34 20 (nI (60 * k + x))) M' → (-100) - nI j = r ∧ Inv M') → (∀ nc M', 1 ≤ nc → nc ≤ 5 → n = 2 + 4 * nc → allG n (fun t => M9 37 (60 * k + x + t)) → hfr (up2 (up2 C 34 0 0) 34 20 (nI (60 * k + x))) M' → ∀ F, (∀ a, a ≠ 34 → a ≠ 38 → a ≠ 39 → a ≠ 40 → F a = M' a) → (∀ j, j ≠ 5 → j ≠ 6 → j ≠ 10 → j ≠ 14 → j ≠ 28 → F 34 j = M' 34 j) → F 34 5 = M9 37 (60 * k + x + 1) - 48 → F 34 6 = nI nc → F 34 10 = 0 → F 34 14 = 0 → F 34 28 = 0 → (∀ j, j < nc → txt3 F 38 39 40 (fun t => M9 37 (60 * k + x + t)) j) → nI nc = r ∧ Inv F) → post r C := by
    intro C r c35 c36 c37 hbad hgood
    refine hp _ _ (fun post' hq M2 z2 => ?_)
    refine mSh_yes hk (b1B (mLn_yes hl (b1B (fm _ _ ?_ ?_ (b0A (fun v8 hv8 M10 z10 => ?_))))))
    · subst z2; rw [up2_n _ _ _ (by decide), c35]; exact e35
    · subst z2; rw [up2_n _ _ _ (by decide), c36]; exact e36
    rw [e60] at hv8
    subst hv8
    subst z2
    subst z10
    rw [addN]
    refine readHall_ok (T := fun t => M9 37 (60 * k + x + t)) (by omega) (fun t ht => by rw [up2_n _ _ _ (by decide), up2_n _ _ _ (by decide), c37]) (by rw [up2_s, upd_s]) (fun M' j hj hF hfr' hpos => b0B ?_) (fun M' nc n1 n5 hn hG hfr' g21 g22 g47 => b1B (fun M12 z12 M13 z13 => ⟨nc + 1, ?_⟩))
    · obtain ⟨er, hIM⟩ := hbad j hF M' hfr'
      rw [hpos, subI (by omega), show 60 * k + x + j - (60 * k + x) = j by omega, er]
      exact hq M' hIM
    · have y6 : M13 34 6 = nI nc := by subst z13; subst z12; rw [up2_s, upd_s, up2_s, upd_n _ _ (by decide)]; exact g22
      have y5 : M13 34 5 = M9 37 (60 * k + x + 1) - 48 := by subst z13; subst z12; rw [up2_s, upd_n _ _ (by decide), up2_s, upd_s]; exact g21
      have yo : ∀ j, j ≠ 5 → j ≠ 6 → M13 34 j = M' 34 j := by subst z13; subst z12; intro j x1 x2; rw [up2_s, upd_n _ _ x2, up2_s, upd_n _ _ x1]
      have ya : ∀ a, a ≠ 34 → M13 a = M' a := by subst z13; subst z12; intro a x1; rw [up2_n _ _ _ x1, up2_n _ _ _ x1]
      clear z13 z12
      refine hcp_loop (T := fun t => M9 37 (60 * k + x + t)) n5 y6 (fun j hj => by unfold rd47; rw [ya 47 (by decide)]; exact g47 j hj) (fun F f1 f2 => ?_) nc 0 M13 (by omega) (fun _ _ _ _ => rfl) (fun j hj => by omega)
      have x34 : F 34 = M13 34 := f1 34 (by decide) (by decide) (by decide)
      obtain ⟨er, hIF⟩ := hgood nc M' n1 n5 hn hG hfr' (up2 (up2 (up2 F 34 10 0) 34 14 0) 34 28 0) (fun a x1 x2 x3 x4 => by rw [up2_n _ _ _ x1, up2_n _ _ _ x1, up2_n _ _ _ x1, f1 a x2 x3 x4, ya a x1]) (fun j x1 x2 x3 x4 x5 => by rw [up2_s, upd_n _ _ x5, up2_s, upd_n _ _ x4, up2_s, upd_n _ _ x3, x34]; exact yo j x1 x2) (by rw [up2_s, upd_n _ _ (by decide), up2_s, upd_n _ _ (by decide), up2_s, upd_n _ _ (by decide), x34]; exact y5) (by rw [up2_s, upd_n _ _ (by decide), up2_s, upd_n _ _ (by decide), up2_s, upd_n _ _ (by decide), x34]; exact y6) (by rw [up2_s, upd_n _ _ (by decide), up2_s, upd_n _ _ (by decide), up2_s, upd_s]) (by rw [up2_s, upd_n _ _ (by decide), up2_s, upd_s]) (by rw [up2_s, upd_s]) (fun j hj => by
        obtain ⟨q1, q2, q3⟩ := f2 j hj
        exact ⟨q1, q2, q3⟩)
      rw [er]
      exact hq _ hIF
  refine ⟨fun _ => ⟨n + 1, ff_loop (T := fun t => M9 37 (60 * k + x + t)) hx hT (fun j hj hF => ⟨fun y => absurd y (m9_ne (by omega)), fun _ => ?_⟩) (fun hG => ⟨fun _ => ?_, fun y => absurd rfl y⟩) n 0 (by omega) (fun t ht => by omega)⟩, fun y => absurd h09 y⟩
  · refine mod M9 _ rfl rfl rfl (fun j' hF' M' hfr' => ⟨by rw [isF_un hF hF'], ?_⟩) (fun nc M' n1 n5 hn hG => absurd (isF_all hF hG) id)
    have g34 : ∀ i, i ≠ 0 → i ≠ 20 → i ≠ 21 → i ≠ 22 → M' 34 i = M9 34 i := fun i x0 x1 x2 x3 => by rw [hfr'.2 i x1 x2 x3, up2_s, upd_n _ _ x1, up2_s, upd_n _ _ x0]
    have ga : ∀ a, a ≠ 34 → a ≠ 47 → M' a = M9 a := fun a x1 x2 => by rw [hfr'.1 a x1 x2, up2_n _ _ _ x1, up2_n _ _ _ x1]
    refine Pre.inv (hP9.of2 (fun a ha => ga a (by omega) (by omega)) (fun i hi => g34 i (by omega) (by omega) (by omega) (by omega)) ?_ (fun q hq => (hP9.2.1 q hq).of hq (fun a ha => ga a (by omega) (by omega)))) ?_
    · rw [ga 0 (by decide) (by decide), g34 1 (by decide) (by decide) (by decide) (by decide)]; exact hP9.2.2.1
    · rw [ga 0 (by decide) (by decide), h09, hfr'.2 0 (by decide) (by decide) (by decide), up2_s, upd_n _ _ (by decide), up2_s, upd_s]
  · obtain ⟨nc, hn⟩ : ∃ nc, n = 2 + 4 * nc := ⟨(n - 2) / 4, by have := hG.2.1; have := hG.2.2; omega⟩
    have n1 : 1 ≤ nc := by have := hG.2.1; omega
    have n5 : nc ≤ 5 := by
      by_cases z : nc ≤ 5
      · exact z
      · exact absurd (grC (q := 5).mp (hG.1 (2 + 4 * 5) (by omega))).2 (by decide)
    have t1 : M9 (26 + k + 4) (x + 1) = M9 37 (60 * k + x + 1) := hT 1 (by omega)
    have en : (nI n - 2) / 4 = nI nc := by
      rw [show (2 : Int32) = nI 2 from rfl, subI (by omega), show (4 : Int32) = nI 4 from rfl, pk_div (by omega) (by decide) (by decide)]
      exact congrArg nI (by omega)
    unfold wp_X0_takeText
    rw [addI1, en, cl (show x + 1 < 2147483648 by omega), t1]
    refine ⟨inI (by omega) (by decide), fun M10 z10 => ⟨fun y => ?_, fun _ M11 z11 => ⟨nc + 1, ?_⟩⟩⟩
    · exact absurd ((ltI (a := 5) (by decide) (by omega)).mp y) (by omega)
    have w1 : ∀ a, a ≠ 1 → M11 a = M9 a := by subst z11; subst z10; intro a ha; rw [up2_n _ _ _ ha, up2_n _ _ _ ha]
    have w3 : M11 1 3 = nI nc := by subst z11; rw [up2_s, upd_s]
    have w4 : M11 1 4 = M9 37 (60 * k + x + 1) - 48 := by subst z11; subst z10; rw [up2_s, upd_n _ _ (by decide), up2_s, upd_s]
    clear z11 z10
    refine take_loop (T := fun t => M9 37 (60 * k + x + t)) (by omega) hx hn n5 (fun t ht => by rw [w1 _ (by omega)]; exact hT t ht) w3 (fun C0 c1 c2 M14 z14 M15 z15 M16 z16 => ?_) nc 0 M11 (by omega) (fun _ _ _ _ => rfl) (fun j hj => by omega)
    have d1 : ∀ a, a = 0 ∨ 14 ≤ a → M16 a = M9 a := by
      subst z16; subst z15; subst z14
      intro a ha
      rw [up2_n _ _ _ (by omega), up2_n _ _ _ (by omega), up2_n _ _ _ (by omega), c1 a (by omega) (by omega) (by omega), w1 a (by omega)]
    have d3 : M16 1 3 = nI nc := by subst z16; subst z15; subst z14; rw [up2_n _ _ _ (by decide), up2_n _ _ _ (by decide), up2_n _ _ _ (by decide), c1 1 (by decide) (by decide) (by decide)]; exact w3
    have d4 : M16 1 4 = M9 37 (60 * k + x + 1) - 48 := by subst z16; subst z15; subst z14; rw [up2_n _ _ _ (by decide), up2_n _ _ _ (by decide), up2_n _ _ _ (by decide), c1 1 (by decide) (by decide) (by decide)]; exact w4
    have d5 : M16 5 3 = 0 := by subst z16; subst z15; subst z14; rw [up2_n _ _ _ (by decide), up2_n _ _ _ (by decide), up2_s, upd_s]
    have d9 : M16 9 3 = 0 := by subst z16; subst z15; rw [up2_n _ _ _ (by decide), up2_s, upd_s]
    have d13 : M16 13 3 = 0 := by subst z16; rw [up2_s, upd_s]
    have dt : ∀ j, j < nc → txt3 M16 2 3 4 (fun t => M9 37 (60 * k + x + t)) j := by subst z16; subst z15; subst z14; exact c2
    clear z16 z15 z14 c1 c2 w1 w3 w4
    rw [d3]
    refine mod M16 _ (d1 35 (by omega)) (d1 36 (by omega)) (d1 37 (by omega)) (fun j' hF' M' hfr' => absurd (isF_all hF' hG) id) (fun nc' M' n1' n5' hn' hG' hfr' F f1 f2 f3 f4 f5 f6 f7 f8 => ?_)
    have enc : nc' = nc := by omega
    subst enc
    refine ⟨rfl, ?_⟩
    have ga : ∀ a, a ≠ 34 → a ≠ 38 → a ≠ 39 → a ≠ 40 → a ≠ 47 → F a = M16 a := fun a x1 x2 x3 x4 x5 => by rw [f1 a x1 x2 x3 x4, hfr'.1 a x1 x5, up2_n _ _ _ x1, up2_n _ _ _ x1]
    have g34 : ∀ i, i = 1 ∨ i = 18 ∨ i = 19 → F 34 i = M9 34 i := fun i hi => by rw [f2 i (by omega) (by omega) (by omega) (by omega) (by omega), hfr'.2 i (by omega) (by omega) (by omega), up2_s, upd_n _ _ (by omega), up2_s, upd_n _ _ (by omega), d1 34 (by omega)]
    have g0 : F 34 0 = 0 := by rw [f2 0 (by decide) (by decide) (by decide) (by decide) (by decide), hfr'.2 0 (by decide) (by decide) (by decide), up2_s, upd_n _ _ (by decide), up2_s, upd_s]
    have gl : ∀ a, a ≤ 17 → F a = M16 a := fun a ha => ga a (by omega) (by omega) (by omega) (by omega) (by omega)
    refine ⟨⟨newS (fun t => M9 37 (60 * k + x + t)) nc', wf_new hn n1 n5 hG, repC_new hn n1 n5 hG (by rw [gl 1 (by decide)]; exact d3) (by rw [gl 1 (by decide)]; exact d4) (by rw [gl 5 (by decide)]; exact d5) (by rw [gl 9 (by decide)]; exact d9) (by rw [gl 13 (by decide)]; exact d13) (fun j hj => ?_), repM_new hn n1 n5 hG f4 f3 f5 f6 f7 f8⟩, fun q hq => (hP9.2.1 q hq).of hq (fun a ha => ?_), ?_, ?_, ?_, ?_⟩
    · unfold txt3
      rw [gl 2 (by decide), gl 3 (by decide), gl 4 (by decide)]
      exact dt j hj
    · rw [ga a (by omega) (by omega) (by omega) (by omega) (by omega), d1 a (by omega)]
    · rw [gl 0 (by decide), d1 0 (by omega), g34 1 (by omega)]; exact hP9.2.2.1
    · rw [gl 0 (by decide), d1 0 (by omega), g0]; exact h09
    · rw [g34 18 (by omega)]; exact hP9.2.2.2.1
    · rw [g34 19 (by omega)]; exact hP9.2.2.2.2
