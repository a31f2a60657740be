/-! tipped -/
theorem flane1 {M : Mem} {c : Nat} {p : Int32} {post : Int32 → Mem → Prop} (h : M c 2 = -1) (hp : post 1 M) : wp_X4_faultOfLane c p M post := emp_yes h (b1A hp)
theorem flane2 {M : Mem} {c : Nat} {p : Int32} {post : Int32 → Mem → Prop} (h : ¬ M c 2 = -1) (hl : ¬ M c 1 = p) (hp : post 2 M) : wp_X4_faultOfLane c p M post := emp_no h (b0A ⟨fun _ => hp, fun y => absurd y hl⟩)
theorem flane0 {M : Mem} {c : Nat} {p : Int32} {post : Int32 → Mem → Prop} (h : ¬ M c 2 = -1) (hl : M c 1 = p) (hp : post 0 M) : wp_X4_faultOfLane c p M post := emp_no h (b0A ⟨fun y => absurd hl y, fun _ => hp⟩)
theorem cells_ok {M : Mem} {k : Nat} (hk : k < 4) (sh : sheetR M k) (p1 p2 p3 : Int32) : ∃ f : Int32, (∀ post : Int32 → Mem → Prop, post f M → wp_X4_faultOfCells (26 + k) p1 p2 p3 M post) ∧ (∀ (M' : Mem) (post : Int32 → Mem → Prop), M' 35 = M 35 → M' 36 = M 36 → post f M' → wp_X6_against (nI k) p1 p2 p3 M' post) ∧ (f = 0 → ∃ x n, x + n ≤ 60 ∧ p2 = nI x ∧ p3 = nI n ∧ ∀ j, j < 60 → M (30 + k) j = M 37 (60 * k + j)) := by
  have hi : vp_in (nI k) 4 := inI hk (by decide)
  have e := cl (show k < 2147483648 by omega)
  rcases sh with ⟨s1, s2⟩ | ⟨ln, len, l1, l2, s1, s2, s3, s4, s5⟩
  · refine ⟨1, fun post hp => flane1 s2 (b1A hp), fun M' post e35 e36 hp => ⟨hi, ?_⟩, fun y => absurd y (by decide)⟩
    rw [e, e35, s1]
    refine ⟨fun _ => ⟨hi, ?_⟩, fun y => absurd rfl y⟩
    rw [e, e35, s1]
    exact ⟨fun y => absurd rfl y, fun _ => hp⟩
  have h1 : ¬ M (26 + k) 2 = -1 := by rw [s4]; exact m1_ne (by omega)
  have h9 : ¬ nI ln = -9 := m9_ne (by omega)
  by_cases hl : nI ln = p1
  rotate_left
  · refine ⟨2, fun post hp => flane2 h1 (by rw [s2]; exact hl) ⟨fun y => absurd y (by decide), fun _ => hp⟩, fun M' post e35 e36 hp => ⟨hi, ?_⟩, fun y => absurd y (by decide)⟩
    · rw [e, e35, s1]
      exact ⟨fun y => absurd y h9, fun _ => ⟨hi, fun y => absurd y hl, fun _ => hp⟩⟩
  by_cases hn : 0 ≤ p3
  rotate_left
  · refine ⟨4, fun post hp => flane0 h1 (by rw [s2]; exact hl) (b0A ⟨fun y => absurd y hn, fun _ => hp⟩), fun M' post e35 e36 hp => ⟨hi, ?_⟩, fun y => absurd y (by decide)⟩
    · rw [e, e35, s1]
      refine ⟨fun y => absurd y h9, fun _ => ⟨hi, fun _ => ⟨hi, ?_⟩, fun y => absurd hl y⟩⟩
      rw [e, e35, s1]
      exact ⟨fun _ => ⟨fun y => absurd y hn, fun _ => hp⟩, fun y => absurd y h9⟩
  by_cases hr : rch len p2 p3
  rotate_left
  · refine ⟨3, fun post hp => flane0 h1 (by rw [s2]; exact hl) (b0A ⟨fun _ => reach_no s4 l2 hr (b0A hp), fun y => absurd hn y⟩), fun M' post e35 e36 hp => ⟨hi, ?_⟩, fun y => absurd y (by decide)⟩
    · rw [e, e35, s1]
      refine ⟨fun y => absurd y h9, fun _ => ⟨hi, fun _ => ⟨hi, ?_⟩, fun y => absurd hl y⟩⟩
      rw [e, e35, e36, s1, s3]
      refine ⟨fun _ => ⟨fun _ => ⟨fun _ => hp, fun a1 => ⟨hi, fun _ => hp, fun a2 => ⟨hi, fun a3 => absurd (rch_of l2 a1 a2 (fun y => ?_) (fun y => ?_)) hr, fun _ => hp⟩⟩⟩, fun y => absurd hn y⟩, fun y => absurd y h9⟩
      · rw [fa_lt] at y; rw [fa_le] at hn; omega
      · rw [fa_lt] at y; rw [fa_le] at a3; omega
  · obtain ⟨x, n, hx, rfl, rfl⟩ := hr
    refine ⟨0, fun post hp => flane0 h1 (by rw [s2]; exact hl) (b0A ⟨fun _ => reach_yes s4 l2 hx (b1A hp), fun y => absurd hn y⟩), fun M' post e35 e36 hp => ⟨hi, ?_⟩, fun _ => ⟨x, n, by omega, rfl, rfl, s5⟩⟩
    · rw [e, e35, s1]
      refine ⟨fun y => absurd y h9, fun _ => ⟨hi, fun _ => ⟨hi, ?_⟩, fun y => absurd hl y⟩⟩
      rw [e, e35, e36, s1, s3, subI (show x ≤ len by omega)]
      exact ⟨fun _ => ⟨fun _ => ⟨fun y => absurd y (negI (by omega)), fun _ => ⟨hi, fun y => absurd ((ltI (by omega) (by omega)).mp y) (by omega), fun _ => ⟨hi, fun _ => hp, fun y => absurd ((leI (by omega) (by omega)).mpr (by omega)) y⟩⟩⟩, fun y => absurd hn y⟩, fun y => absurd y h9⟩
def okv (nc : Nat) (v : Nat → Int32) (t : Nat) : Prop := v t = -9 ∨ ∃ c, c < nc ∧ v t = nI c
theorem names_loop {S : AS} {M : Mem} (hw : wf S) (hr : repC S M) {a1 x n : Nat} (hx : x + n ≤ 60) {v : Nat → Int32} (hv : ∀ t, t < n → M a1 (x + t) = v t) {post : Int32 → Mem → Prop} (h1 : (∀ t, t < n → okv (S 0 0) v t) → post 1 M) (h0 : (¬ ∀ t, t < n → okv (S 0 0) v t) → post 0 M) :
    ∀ (m i : Nat), i + m = n → (∀ t, t < i → okv (S 0 0) v t) → lp_X0_namesOnlyChairs_3 a1 60 (nI x) (nI n) post (m + 1) (nI i) M := by
  have n1 := hw.1.1
  intro m
  induction m with
  | zero =>
    intro i hi hk
    have e : i = n := by omega
    subst e
    exact ⟨fun _ => h1 hk, fun h => absurd ((leI (by omega) (by omega)).mpr (Nat.le_refl _)) h⟩
  | succ m ih =>
    intro i hi hk
    unfold lp_X0_namesOnlyChairs_3
    rw [addN, cl (show x + i < 2147483648 by omega), hv i (by omega), addI1]
    refine ⟨fun h => absurd ((leI (by omega) (by omega)).mp h) (by omega), fun _ => ⟨inI (by omega) (by decide), fun u hu => ?_⟩⟩
    subst hu
    refine ⟨fun h => ih (i + 1) (by omega) (succ_all hk (Or.inl h)), fun h => ?_⟩
    rcases ixI (v i) (S 0 0) (by omega) with z | ⟨c, hc, z⟩
    · refine cChair_no hr z (b0B (h0 (fun H => ?_)))
      rcases H i (by omega) with y | ⟨c, hc, y⟩
      · exact h y
      · rw [y] at z
        rcases z with z | z
        · exact negI (by omega) z
        · exact absurd ((leI (by omega) (by omega)).mp z) (by omega)
    · rw [z]
      exact cChair_yes hr hw hc (b1B (ih (i + 1) (by omega) (succ_all hk (Or.inr ⟨c, hc, z⟩))))
theorem mnames_loop {S : AS} {M : Mem} (hw : wf S) (hr : repM S M) {x n : Nat} (hx : x + n ≤ 240) {v : Nat → Int32} (hv : ∀ t, t < n → M 37 (x + t) = v t) {p1 p2 p3 p4 : Int32} {post : Int32 → Mem → Prop} (h1 : (∀ t, t < n → okv (S 0 0) v t) → wp_X6_tippedBy p1 (nI x) (nI n) M (fun r11 M12 => post r11 M12)) (h0 : (¬ ∀ t, t < n → okv (S 0 0) v t) → post (-1) M) :
    ∀ (m i : Nat), i + m = n → (∀ t, t < i → okv (S 0 0) v t) → lp_X6_tipped_89 p1 p2 p3 p4 (nI n) post (m + 1) (nI x) (nI i) M := by
  have n1 := hw.1.1
  intro m
  induction m with
  | zero =>
    intro i hi hk
    have e : i = n := by omega
    subst e
    exact ⟨fun _ => h1 hk, fun h => absurd ((leI (by omega) (by omega)).mpr (Nat.le_refl _)) h⟩
  | succ m ih =>
    intro i hi hk
    unfold lp_X6_tipped_89
    have hin : vp_in (nI (x + i)) 240 := inI (by omega) (by decide)
    rw [addN, cl (show x + i < 2147483648 by omega), hv i (by omega), addI1]
    refine ⟨fun h => absurd ((leI (by omega) (by omega)).mp h) (by omega), fun _ => ⟨hin, fun h => ih (i + 1) (by omega) (succ_all hk (Or.inl h)), fun h => ⟨hin, ?_⟩⟩⟩
    rcases ixI (v i) (S 0 0) (by omega) with z | ⟨c, hc, z⟩
    · refine mChair_no hr z (b0B (h0 (fun H => ?_)))
      rcases H i (by omega) with y | ⟨c, hc, y⟩
      · exact h y
      · rw [y] at z
        rcases z with z | z
        · exact negI (by omega) z
        · exact absurd ((leI (by omega) (by omega)).mp z) (by omega)
    · rw [z]
      exact mChair_yes hr hw hc (b1B (ih (i + 1) (by omega) (succ_all hk (Or.inr ⟨c, hc, z⟩))))
def tipV (S : AS) (d : Nat) (v : Nat → Int32) : Nat → Nat → Nat → Int32
  | 0, _, _ => -9
  | m + 1, t, s => if v t = -9 then tipV S d v m (t + 1) s else if bearS S (fun _ => true) 9 (v t).toNatClampNeg t d = true ∧ s.testBit (v t).toNatClampNeg = false then tipV S d v m (t + 1) (s ||| 2 ^ (v t).toNatClampNeg) else nI t
theorem or32 {s c : Nat} (hs : s < 32) (hc : c < 5) : s ||| 2 ^ c < 32 := Nat.or_lt_two_pow (n := 5) hs (Nat.pow_lt_pow_right (by decide) hc)
theorem ctip_loop {S : AS} {M : Mem} (hw : wf S) {d a1 x n : Nat} (hx : x + n ≤ 60) (hng : n ≤ S 0 1) (h21 : ∀ c, c < S 0 0 → M 21 c = nI (bearA S d c)) {v : Nat → Int32} (hv : ∀ t, t < n → M a1 (x + t) = v t) (hok : ∀ t, t < n → okv (S 0 0) v t) {post : Int32 → Mem → Prop} :
    ∀ (m i s : Nat), i + m = n → s < 32 → post (tipV S d v m i s) M → lp_X1_firstTipped_6 a1 60 (nI x) (nI n) post (m + 1) (nI s) (nI i) M := by
  have n1 := hw.1.1
  intro m
  induction m with
  | zero =>
    intro i s hi hs hp
    have e : i = n := by omega
    subst e
    exact ⟨fun _ => hp, fun h => absurd ((leI (by omega) (by omega)).mpr (Nat.le_refl _)) h⟩
  | succ m ih =>
    intro i s hi hs hp
    unfold lp_X1_firstTipped_6
    rw [addN, cl (show x + i < 2147483648 by omega), hv i (by omega), addI1]
    refine ⟨fun h => absurd ((leI (by omega) (by omega)).mp h) (by omega), fun _ => ⟨inI (by omega) (by decide), fun u hu => ?_⟩⟩
    subst hu
    rcases hok i (by omega) with z | ⟨c, hc, z⟩
    · rw [z]
      simp only [tipV, if_pos z] at hp
      exact ⟨fun y => absurd rfl y, fun _ => ih (i + 1) s (by omega) hs hp⟩
    · have z9 : ¬ v i = -9 := by rw [z]; exact m9_ne (by omega)
      simp only [tipV, if_neg z9] at hp
      rw [z, cl (show c < 2147483648 by omega)] at hp
      rw [z]
      refine ⟨fun _ => isBorne_ok hw hc (show i < S 0 1 by omega) (h21 c hc) ⟨fun h => ?_, fun h => ?_⟩, fun y => absurd (z.trans y) z9⟩
      · rw [if_neg (fun q => by rw [b2i_z.mp h] at q; exact absurd q.1 (by decide))] at hp
        exact hp
      · rw [bitZ (by omega) (by omega), shl1 (by omega)]
        refine ⟨fun h2 v4 hv4 => ?_, fun h2 => ?_⟩
        · rw [if_pos ⟨b2i_nz.mp h, h2⟩] at hp
          rw [fa_or] at hv4
          subst hv4
          exact ih (i + 1) _ (by omega) (or32 hs (by omega)) hp
        · rw [if_neg (fun q => h2 q.2)] at hp
          exact hp
theorem mtip_loop {S : AS} {M : Mem} (hw : wf S) (hr : repM S M) (hm : modeM (fun _ => true) 9 M) {d x n : Nat} (hd : d < 20) (hx : x + n ≤ 240) (hng : n ≤ S 0 1) {v : Nat → Int32} (hv : ∀ t, t < n → M 37 (x + t) = v t) (hok : ∀ t, t < n → okv (S 0 0) v t) {post : Int32 → Mem → Prop} :
    ∀ (m i s : Nat), i + m = n → s < 32 → post (tipV S d v m i s) M → lp_X6_tippedBy_6 (nI d) (nI x) (nI n) post (m + 1) (nI s) (nI i) M := by
  have n1 := hw.1.1
  intro m
  induction m with
  | zero =>
    intro i s hi hs hp
    have e : i = n := by omega
    subst e
    exact ⟨fun _ => hp, fun h => absurd ((leI (by omega) (by omega)).mpr (Nat.le_refl _)) h⟩
  | succ m ih =>
    intro i s hi hs hp
    unfold lp_X6_tippedBy_6
    rw [addN, cl (show x + i < 2147483648 by omega), hv i (by omega), addI1]
    refine ⟨fun h => absurd ((leI (by omega) (by omega)).mp h) (by omega), fun _ => ⟨inI (by omega) (by decide), fun u hu => ?_⟩⟩
    subst hu
    rcases hok i (by omega) with z | ⟨c, hc, z⟩
    · rw [z]
      simp only [tipV, if_pos z] at hp
      exact ⟨fun _ => ih (i + 1) s (by omega) hs hp, fun y => absurd rfl y⟩
    · have z9 : ¬ v i = -9 := by rw [z]; exact m9_ne (by omega)
      simp only [tipV, if_neg z9] at hp
      rw [z, cl (show c < 2147483648 by omega)] at hp
      rw [z, bit1 (by omega) (by omega), shl1 (by omega)]
      refine ⟨fun y => absurd (z.trans y) z9, fun _ => ⟨fun h2 => ?_, fun h2 => mBear_ok hw hr hm hc (show i < S 0 1 by omega) hd ⟨fun h v4 hv4 => ?_, fun h => ?_⟩⟩⟩
      · rw [if_neg (fun q => by rw [h2] at q; exact absurd q.2 (by decide))] at hp
        exact hp
      · have h2' : s.testBit c = false := by cases q : s.testBit c with | false => rfl | true => exact absurd q h2
        rw [if_pos ⟨b2i_nz.mp h, h2'⟩] at hp
        rw [fa_or] at hv4
        subst hv4
        exact ih (i + 1) _ (by omega) (or32 hs (by omega)) hp
      · rw [if_neg (fun q => by rw [b2i_z.mp h] at q; exact absurd q.1 (by decide))] at hp
        exact hp
theorem Pre.C {M M' : Mem} (h : Pre M) (hs : sameC M M') : Pre M' := by
  obtain ⟨⟨S, a, b, c⟩, d1, d2, d3, d4⟩ := h
  refine ⟨⟨S, a, hs.rep b, c.of (fun a ha _ => hs a (by omega))⟩, fun k hk => (d1 k hk).of hk (fun a ha => hs a (by omega)), ?_, ?_, ?_⟩
  · rw [hs 0 (by decide), hs 34 (by decide)]; exact d2
  · rw [hs 34 (by decide)]; exact d3
  · rw [hs 34 (by decide)]; exact d4
theorem st_tipped {M : Mem} (hI : Inv M) (p1 p2 p3 p4 p5 : Int32) : StpI (wp_X5_tipped p1 p2 p3 p4 p5) (wp_X6_tipped p1 p2 p3 p4 p5) M := by
  intro post hp M1 z1
  have hP : Pre M1 := by subst z1; exact hI.pre.c 0
  have h0 : M1 0 9 = 0 := by subst z1; rfl
  clear z1
  rcases ixI p2 4 (by omega) with h1 | ⟨k, hk, rfl⟩
  · refine cSh_no h1 (b0B (hp _ _ (fun post' hq M2 z2 => ?_)))
    subst z2
    exact mSh_no h1 (b0B (hq _ (hP.z h0)))
  have hi : vp_in (nI k) 4 := inI hk (by decide)
  have e := cl (show k < 2147483648 by omega)
  refine cSh_yes hk (b1B ?_)
  rcases ixI p3 3 (by omega) with h3 | ⟨l, hl, rfl⟩
  · refine cLn_no h3 (b0A (hp _ _ (fun post' hq M2 z2 => ?_)))
    subst z2
    exact mSh_yes hk (b1B (mLn_no h3 (b0A (hq _ (hP.z h0)))))
  refine cLn_yes hl (b1A ?_)
  rcases ixI p1 20 (by omega) with h2 | ⟨d, hd, rfl⟩
  · refine cDin_no h2 (b0B (hp _ _ (fun post' hq M2 z2 => ?_)))
    subst z2
    exact mSh_yes hk (b1B (mLn_yes hl (b1A (mDin_no h2 (b0B (hq _ (hP.z h0)))))))
  refine cDin_yes hd (b1B ⟨hi, ?_⟩)
  rw [e]
  obtain ⟨f, fc, fm, fz⟩ := cells_ok hk (hP.2.1 k hk) (nI l) p4 p5
  refine fc _ (fun M9 z9 => ?_)
  by_cases hf : f = 0
  rotate_left
  · subst z9
    refine ⟨fun y => absurd y hf, fun _ => hp _ _ (fun post' hq M2 z2 => ?_)⟩
    subst z2
    refine mSh_yes hk (b1B (mLn_yes hl (b1A (mDin_yes hd (b1B (fm _ _ rfl rfl ⟨fun y => absurd y hf, fun _ M10 z10 => ?_⟩))))))
    subst z10
    exact hq _ ((hP.c f).f rfl)
  subst hf
  obtain ⟨x, n, hx, rfl, rfl, s5⟩ := fz rfl
  have hP9 : Pre M9 := by subst z9; exact hP.c 0
  have h09 : M9 0 9 = 0 := by subst z9; rfl
  have e35 : M9 35 = M1 35 := by subst z9; rfl
  have e36 : M9 36 = M1 36 := by subst z9; rfl
  have s59 : ∀ j, j < 60 → M9 (30 + k) j = M9 37 (60 * k + j) := by subst z9; intro j hj; rw [up2_n _ _ _ (by omega)]; exact s5 j hj
  clear z9
  have hP90 := hP9
  obtain ⟨⟨S, hw, hr, hm⟩, hsh, ht, h18, h19⟩ := hP9
  have n1 := hw.1.1
  have n2 := hw.1.2.1
  have mod : ∀ (C : Mem) (r : Int32), sameC M9 C → (∀ (F : Mem) (post' : Int32 → Mem → Prop), F 37 = M9 37 → repM S F → modeM (fun _ => true) 9 F → post' r F → ((¬ (F 34 6) = 0 → ((nI n ≤ (F 34 5) → (∀ v10 : Int32, v10 = (60 * nI k) + nI x → (∃ q, lp_X6_tipped_89 (nI d) (nI k) (nI l) (nI x) (nI n) post' q v10 0 F))) ∧ (¬ nI n ≤ (F 34 5) → post' (-2) F))) ∧ ((F 34 6) = 0 → post' (-3) F))) → post r C := by
    intro C r hs hF
    have hPC := hP90.C hs
    refine hp _ _ (fun post' hq M2 z2 => ?_)
    have hI2 : Inv M2 := by subst z2; exact hPC.z (by rw [hs 0 (by decide)]; exact h09)
    have hm2 : repM S M2 := by
      subst z2
      refine hm.of1 (fun j hj => ?_) (fun a ha => ?_)
      · rw [up2_s, upd_n _ _ (by omega), hs 34 (by decide)]
      · rw [up2_n _ _ _ (by omega), hs a (by omega)]
    refine mSh_yes hk (b1B (mLn_yes hl (b1A (mDin_yes hd (b1B (fm _ _ ?_ ?_ (b0A (hF M2 post' ?_ hm2 (mode_norm hI2.2) (hq M2 hI2)))))))))
    · subst z2; rw [up2_n _ _ _ (by decide), hs 35 (by decide)]; exact e35
    · subst z2; rw [up2_n _ _ _ (by decide), hs 36 (by decide)]; exact e36
    · subst z2; rw [up2_n _ _ _ (by decide), hs 37 (by decide)]
  refine ⟨fun _ => ?_, fun y => absurd h09 y⟩
  by_cases hst : S 0 0 = 0
  · refine cStands_no hr hst (b0B (mod M9 _ (sameC.rf M9) (fun F post' f37 hmF hmode hq => ?_)))
    rw [hmF.1.1, hst]
    exact ⟨fun y => absurd rfl y, fun _ => hq⟩
  refine cStands_yes hr hw hst (b1B ?_)
  rw [hr.1.2.1, leI (by omega) (by omega)]
  have ne0 : ¬ nI (S 0 0) = 0 := nI_ne0 (by omega) (by omega)
  refine ⟨fun hng => ?_, fun hng => mod M9 _ (sameC.rf M9) (fun F post' f37 hmF hmode hq => ?_)⟩
  rotate_left
  · rw [hmF.1.1, hmF.1.2.1, leI (by omega) (by omega)]
    exact ⟨fun _ => ⟨fun y => absurd y hng, fun _ => hq⟩, fun y => absurd y ne0⟩
  have e60 : 60 * nI k + nI x = nI (60 * k + x) := by rw [show (60 : Int32) = nI 60 from rfl, mulN, addN]
  have hv : ∀ t, t < n → M9 (26 + k + 4) (x + t) = M9 37 (60 * k + x + t) := fun t ht => by
    rw [show 26 + k + 4 = 30 + k by omega, s59 _ (by omega)]
    exact congrArg (M9 37) (by omega)
  refine ⟨n + 1, names_loop hw hr hx (v := fun t => M9 37 (60 * k + x + t)) hv (fun hok => b1B ?_) (fun hok => b0B (mod M9 _ (sameC.rf M9) (fun F post' f37 hmF hmode hq => ?_))) n 0 (by omega) (fun t ht => by omega)⟩
  · refine judgeDinner_ok hw hr hd (fun M3 a1 a2 a3 => ⟨n + 1, ctip_loop hw hx hng a3 (v := fun t => M9 37 (60 * k + x + t)) (fun t ht => by rw [a1 _ (by omega)]; exact hv t ht) hok n 0 0 (by omega) (by decide) (mod M3 _ a1 (fun F post' f37 hmF hmode hq => ?_))⟩)
    rw [hmF.1.1, hmF.1.2.1, leI (by omega) (by omega)]
    refine ⟨fun _ => ⟨fun _ v10 hv10 => ⟨n + 1, ?_⟩, fun y => absurd hng y⟩, fun y => absurd y ne0⟩
    rw [e60] at hv10
    subst hv10
    exact mnames_loop hw hmF (by omega) (v := fun t => M9 37 (60 * k + x + t)) (fun t ht => by rw [f37]) (fun _ => ⟨n + 1, mtip_loop hw hmF hmode hd (by omega) hng (v := fun t => M9 37 (60 * k + x + t)) (fun t ht => by rw [f37]) hok n 0 0 (by omega) (by decide) hq⟩) (fun y => absurd hok y) n 0 (by omega) (fun t ht => by omega)
  · rw [hmF.1.1, hmF.1.2.1, leI (by omega) (by omega)]
    refine ⟨fun _ => ⟨fun _ v10 hv10 => ⟨n + 1, ?_⟩, fun y => absurd hng y⟩, fun y => absurd y ne0⟩
    rw [e60] at hv10
    subst hv10
    exact mnames_loop hw hmF (by omega) (v := fun t => M9 37 (60 * k + x + t)) (fun t ht => by rw [f37]) (fun y => absurd y hok) (fun _ => hq) n 0 (by omega) (fun t ht => by omega)
