/-! times, grudges, ears, kinds -/
def rdOK (S : AS) (k : Nat) : Bool := decide (b2i (bearS S (fun _ => true) 9 (S 12 k) (S 11 k) (S 10 k)) = nI (S 13 k))
def allSo (S : AS) : Bool := !anyB (fun k => !rdOK S k) (S 0 4)
theorem allSo_t {S : AS} (h : ∀ k, k < S 0 4 → rdOK S k = true) : allSo S = true := by
  unfold allSo
  rw [anyB_f (fun k hk => by rw [h k hk]; rfl)]
  rfl
theorem allSo_f {S : AS} {k : Nat} (hk : k < S 0 4) (h : rdOK S k = false) : allSo S = false := by
  unfold allSo
  rw [anyB_t hk (by rw [h]; rfl)]
  rfl
theorem isBorne_ok {S : AS} {M : Mem} (hw : wf S) {c g d : Nat} (hc : c < S 0 0) (hg : g < S 0 1) (h21 : M 21 c = nI (bearA S d c)) {post : Int32 → Mem → Prop} (hp : post (b2i (bearS S (fun _ => true) 9 c g d)) M) : wp_X1_isBorne (nI c) (nI g) M post := by
  have n1 := hw.1.1
  have n2 := hw.1.2.1
  unfold wp_X1_isBorne
  have hbl : bearA S d c < 32 := Nat.lt_of_lt_of_le (bset_lt _ _) (pow5 n2)
  rw [cl (show c < 2147483648 by omega), h21, bitZ (by omega) (by omega), show bearA S d c = bset (fun g => bearS S (fun _ => true) 9 c g d) (S 0 1) from rfl, bset_in hg]
  refine ⟨inI (by omega) (by decide), fun h => by rw [h] at hp; exact hp, fun h => ?_⟩
  cases z : bearS S (fun _ => true) 9 c g d with
  | true => rw [z] at hp; exact hp
  | false => exact absurd z h
theorem cso_loop {S : AS} {M0 : Mem} (hw : wf S) (hr : repC S M0) {post : Int32 → Mem → Prop} (hp : ∀ M', sameC M0 M' → post (b2i (allSo S)) M') :
    ∀ (m i : Nat) (M : Mem), i + m = S 0 4 → sameC M0 M → (∀ k, k < i → rdOK S k = true) → lp_X5_allReadingsAreSo_2 post (m + 1) (nI i) M := by
  have n4 := hw.1.2.2.2.2.1
  intro m
  induction m with
  | zero =>
    intro i M hi hs hk
    have hr' := hs.rep hr
    have e : i = S 0 4 := by omega
    subst e
    unfold lp_X5_allReadingsAreSo_2
    rw [hr'.1.2.2.2.2]
    have := hp M hs
    rw [allSo_t hk] at this
    exact ⟨fun _ => this, fun h => absurd ((leI (by omega) (by omega)).mpr (Nat.le_refl _)) h⟩
  | succ m ih =>
    intro i M hi hs hk
    have hr' := hs.rep hr
    obtain ⟨q1, q2, q3, q4⟩ := hw.2.2.2.2 i (by omega)
    obtain ⟨e1, e2, e3, e4⟩ := hr'.2.2.2.2 i (by omega)
    have hi8 : vp_in (nI i) 8 := inI (by omega) (by decide)
    unfold lp_X5_allReadingsAreSo_2
    rw [hr'.1.2.2.2.2, cl (show i < 2147483648 by omega), e1]
    refine ⟨fun h => absurd ((leI (by omega) (by omega)).mp h) (by omega), fun _ => ⟨hi8, judgeDinner_ok hw hr' q1 (fun M1 a1 a2 a3 => ⟨hi8, hi8, ?_⟩)⟩⟩
    obtain ⟨f1, f2, f3, f4⟩ := (a1.rep hr').2.2.2.2 i (by omega)
    rw [f2, f3]
    refine isBorne_ok hw q3 q2 (a3 _ q3) ⟨hi8, ?_⟩
    rw [f4]
    refine ⟨fun h => ?_, fun h => ?_⟩
    · rw [addI1]
      exact ih (i + 1) M1 (by omega) (hs.tr a1) (succ_all hk (decide_eq_true h))
    · have := hp M1 (hs.tr a1)
      rw [allSo_f (k := i) (by omega) (decide_eq_false h)] at this
      exact this
theorem cso_ok {S : AS} {M : Mem} (hw : wf S) (hr : repC S M) {post : Int32 → Mem → Prop} (hp : ∀ M', sameC M M' → post (b2i (allSo S)) M') : wp_X5_allReadingsAreSo M post :=
  ⟨S 0 4 + 1, cso_loop hw hr hp (S 0 4) 0 M (by omega) (sameC.rf M) (fun k hk => by omega)⟩
theorem mso_loop {S : AS} {M : Mem} (hw : wf S) (hr : repM S M) (hm : modeM (fun _ => true) 9 M) {post : Int32 → Mem → Prop} (hp : post (b2i (allSo S)) M) :
    ∀ (m i : Nat), i + m = S 0 4 → (∀ k, k < i → rdOK S k = true) → lp_X6_areSo_2 post (m + 1) (nI i) M := by
  have n4 := hw.1.2.2.2.2.1
  intro m
  induction m with
  | zero =>
    intro i hi hk
    have e : i = S 0 4 := by omega
    subst e
    unfold lp_X6_areSo_2
    rw [hr.1.2.2.2.2]
    rw [allSo_t hk] at hp
    exact ⟨fun _ => hp, fun h => absurd ((leI (by omega) (by omega)).mpr (Nat.le_refl _)) h⟩
  | succ m ih =>
    intro i hi hk
    obtain ⟨q1, q2, q3, q4⟩ := hw.2.2.2.2 i (by omega)
    obtain ⟨e1, e2, e3, e4⟩ := hr.2.2.2.2 i (by omega)
    have hi8 : vp_in (nI i) 8 := inI (by omega) (by decide)
    unfold lp_X6_areSo_2
    rw [hr.1.2.2.2.2, cl (show i < 2147483648 by omega), e1, e2, e3]
    refine ⟨fun h => absurd ((leI (by omega) (by omega)).mp h) (by omega), fun _ => ⟨hi8, hi8, hi8, mBear_ok hw hr hm q3 q2 q1 ⟨hi8, ?_⟩⟩⟩
    rw [e4]
    refine ⟨fun h => ?_, fun h => ?_⟩
    · rw [addI1]
      exact ih (i + 1) (by omega) (succ_all hk (decide_eq_true h))
    · rw [allSo_f (k := i) (by omega) (decide_eq_false h)] at hp
      exact hp
theorem mso_ok {S : AS} {M : Mem} (hw : wf S) (hr : repM S M) (hm : modeM (fun _ => true) 9 M) {post : Int32 → Mem → Prop} (hp : post (b2i (allSo S)) M) : wp_X6_areSo M post :=
  ⟨S 0 4 + 1, mso_loop hw hr hm hp (S 0 4) 0 (by omega) (fun k hk => by omega)⟩
theorem modeM.of {mk : Nat → Bool} {fr : Nat} {M M' : Mem} (h : modeM mk fr M) (e : M' 34 = M 34) : modeM mk fr M' := by
  unfold modeM at *
  rw [e]
  exact h
theorem fit_loop {a1 n1 j B : Nat} {M0 : Mem} {Sv : Nat → AS} (ha : 1 ≤ a1 ∧ a1 ≤ 17) (hj : j < n1) (hn1 : n1 ≤ 8) (hB : B ≤ 20) (HW : ∀ v, v < B → wf (Sv v)) (HR : ∀ v, v < B → ∀ M' : Mem, (∀ a, a ≤ 17 → a ≠ a1 → M' a = M0 a) → (∀ i, i ≠ j → M' a1 i = M0 a1 i) → M' a1 j = nI v → repC (Sv v) M')
    {post : Int32 → Mem → Prop} (hp : ∀ M', sameC M0 M' → post (nI (bset (fun v => allSo (Sv v)) B)) M') :
    ∀ (m i : Nat) (M : Mem), i + m = B → (∀ a, a ≤ 17 ∨ 25 ≤ a → a ≠ a1 → M a = M0 a) → (∀ q, q ≠ j → M a1 q = M0 a1 q) → lp_X5_fitting_11 a1 n1 (nI j) (nI B) post (m + 1) (M0 a1 j) (nI (bset (fun v => allSo (Sv v)) i)) (nI i) M := by
  have hjv : vp_in (nI j) n1 := inI hj (by omega)
  have ej := cl (show j < 2147483648 by omega)
  intro m
  induction m with
  | zero =>
    intro i M hi h1 h2
    have e : i = B := by omega
    subst e
    unfold lp_X5_fitting_11
    refine ⟨fun _ => ⟨hjv, fun M2 z => ?_⟩, fun h => absurd ((leI (by omega) (by omega)).mpr (Nat.le_refl _)) h⟩
    rw [ej] at z
    subst z
    refine hp _ (fun a ha => ?_)
    by_cases z : a = a1
    · subst z
      rw [up2_s]
      funext q
      rw [upd_at]
      by_cases zq : q = j
      · rw [if_pos zq, zq]
      · rw [if_neg zq]; exact h2 q zq
    · rw [up2_n _ _ _ z]; exact h1 a ha z
  | succ m ih =>
    intro i M hi h1 h2
    unfold lp_X5_fitting_11
    rw [ej, shl1 (by omega), addI1]
    refine ⟨fun h => absurd ((leI (by omega) (by omega)).mp h) (by omega), fun _ => ⟨hjv, fun M3 z => ?_⟩⟩
    subst z
    have k1 : ∀ a, a ≤ 17 ∨ 25 ≤ a → a ≠ a1 → up2 M a1 j (nI i) a = M0 a := fun a ha z => by rw [up2_n _ _ _ z]; exact h1 a ha z
    have k2 : ∀ q, q ≠ j → up2 M a1 j (nI i) a1 q = M0 a1 q := fun q z => by rw [up2_s, upd_n _ _ z]; exact h2 q z
    refine cso_ok (HW i (by omega)) (HR i (by omega) _ (fun a ha z => k1 a (by omega) z) k2 (by rw [up2_s, upd_s])) (fun M' hs => ⟨fun h => ?_, fun h v6 hv => ?_⟩)
    · rw [← bset_noI (fun v => allSo (Sv v)) (b2i_z.mp h)]
      exact ih (i + 1) M' (by omega) (fun a ha z => by rw [hs a ha]; exact k1 a ha z) (fun q z => by rw [hs a1 (by omega)]; exact k2 q z)
    · subst hv
      rw [bset_orI (fun v => allSo (Sv v)) (b2i_nz.mp h)]
      exact ih (i + 1) M' (by omega) (fun a ha z => by rw [hs a ha]; exact k1 a ha z) (fun q z => by rw [hs a1 (by omega)]; exact k2 q z)
theorem wf_times {S : AS} {j v : Nat} (hw : wf S) (hv : v < 20) : wf (setS S 4 j v) := by
  obtain ⟨w, v1, v2, v3, v4⟩ := hw
  refine ⟨w, v1, fun i hi => ⟨?_, (v2 i hi).2.1, (v2 i hi).2.2⟩, v3, v4⟩
  rw [setS_s]
  by_cases z : i = j
  · rw [if_pos z]; omega
  · rw [if_neg z]; exact (v2 i hi).1
theorem repC_times {S : AS} {M M' : Mem} {j v : Nat} (hr : repC S M) (eo : ∀ a, a ≤ 17 → a ≠ 6 → M' a = M a) (en : ∀ i, i ≠ j → M' 6 i = M 6 i) (ej : M' 6 j = nI v) : repC (setS S 4 j v) M' := by
  obtain ⟨w, v1, v2, v3, v4⟩ := hr
  unfold repC
  rw [eo 1 (by decide) (by decide), eo 2 (by decide) (by decide), eo 3 (by decide) (by decide), eo 4 (by decide) (by decide), eo 5 (by decide) (by decide), eo 7 (by decide) (by decide), eo 8 (by decide) (by decide), eo 9 (by decide) (by decide), eo 10 (by decide) (by decide), eo 11 (by decide) (by decide), eo 12 (by decide) (by decide), eo 13 (by decide) (by decide), eo 14 (by decide) (by decide), eo 15 (by decide) (by decide), eo 16 (by decide) (by decide), eo 17 (by decide) (by decide)]
  refine ⟨w, v1, fun i hi => ⟨?_, (v2 i hi).2.1, (v2 i hi).2.2⟩, v3, v4⟩
  rw [setS_s]
  by_cases z : i = j
  · rw [if_pos z, z]; exact ej
  · rw [if_neg z, en i z]; exact (v2 i hi).1
theorem repM_times {S : AS} {M M' : Mem} {j v : Nat} (hr : repM S M) (eo : ∀ a, a ≠ 41 → M' a = M a) (en : ∀ i, i ≠ j → M' 41 i = M 41 i) (ej : M' 41 j = nI v) : repM (setS S 4 j v) M' := by
  obtain ⟨w, v1, v2, v3, v4⟩ := hr
  unfold repM
  rw [eo 34 (by decide), eo 38 (by decide), eo 39 (by decide), eo 40 (by decide), eo 42 (by decide), eo 43 (by decide), eo 44 (by decide), eo 45 (by decide), eo 46 (by decide), eo 52 (by decide), eo 53 (by decide), eo 54 (by decide), eo 55 (by decide)]
  refine ⟨w, v1, fun i hi => ⟨?_, (v2 i hi).2.1, (v2 i hi).2.2⟩, v3, v4⟩
  rw [setS_s]
  by_cases z : i = j
  · rw [if_pos z, z]; exact ej
  · rw [if_neg z, en i z]; exact (v2 i hi).1
theorem mtimes_loop {S : AS} {M0 : Mem} (hw : wf S) (hr : repM S M0) (hm : modeM (fun _ => true) 9 M0) {j : Nat} (hj : j < 8) {post : Int32 → Mem → Prop} (hp : post (nI (bset (fun v => allSo (setS S 4 j v)) 20)) M0) :
    ∀ (m i : Nat) (M : Mem), i + m = 20 → (∀ a, a ≠ 41 → M a = M0 a) → (∀ q, q ≠ j → M 41 q = M0 41 q) → lp_X6_times_22 (nI j) post (m + 1) (M0 41 j) (nI (bset (fun v => allSo (setS S 4 j v)) i)) (nI i) M := by
  have hjv : vp_in (nI j) 8 := inI hj (by omega)
  have ej := cl (show j < 2147483648 by omega)
  intro m
  induction m with
  | zero =>
    intro i M hi h1 h2
    have e : i = 20 := by omega
    subst e
    unfold lp_X6_times_22
    refine ⟨fun _ => ⟨hjv, fun M2 z => ?_⟩, fun h => absurd (by decide) h⟩
    rw [ej] at z
    have : M2 = M0 := by
      subst z
      funext a q
      by_cases z : a = 41
      · subst z
        rw [up2_s, upd_at]
        by_cases zq : q = j
        · rw [if_pos zq, zq]
        · rw [if_neg zq]; exact h2 q zq
      · rw [up2_n _ _ _ z, h1 a z]
    rw [this]
    exact hp
  | succ m ih =>
    intro i M hi h1 h2
    unfold lp_X6_times_22
    rw [ej, shl1 (by omega), addI1, or0]
    refine ⟨fun h => absurd ((leI (a := 20) (by decide) (by omega)).mp h) (by omega), fun _ => ⟨hjv, fun M3 z => ?_⟩⟩
    subst z
    have k1 : ∀ a, a ≠ 41 → up2 M 41 j (nI i) a = M0 a := fun a z => by rw [up2_n _ _ _ z]; exact h1 a z
    have k2 : ∀ q, q ≠ j → up2 M 41 j (nI i) 41 q = M0 41 q := fun q z => by rw [up2_s, upd_n _ _ z]; exact h2 q z
    refine mso_ok (wf_times (j := j) hw (show i < 20 by omega)) (repM_times hr k1 k2 (by rw [up2_s, upd_s])) (hm.of (k1 34 (by decide))) ⟨fun h v8 hv => ?_, fun h v8 hv => ?_⟩
    · subst hv
      rw [← bset_noI (fun v => allSo (setS S 4 j v)) (b2i_z.mp h)]
      exact ih (i + 1) _ (by omega) k1 k2
    · subst hv
      rw [bset_orI (fun v => allSo (setS S 4 j v)) (b2i_nz.mp h)]
      exact ih (i + 1) _ (by omega) k1 k2
theorem st_times {M : Mem} (hI : Inv M) (p1 : Int32) : StpI (wp_X5_times p1) (wp_X6_times p1) M := by
  intro post hp
  have hI0 := hI
  obtain ⟨⟨S, hw, hr, hm⟩, hs⟩ := hI
  have n1 := hw.1.2.2.1
  unfold wp_X5_times
  rcases ixI p1 (S 0 2) (by omega) with h1 | ⟨j, hj, rfl⟩
  · exact hasN_no hr.1.2.2.1 h1 (b0B (hp _ _ (fun post' hq => mSlip_no hm h1 (b0B (hq M hI0)))))
  refine hasN_yes hr.1.2.2.1 (by omega) hj (b1B ?_)
  have hi : vp_in (nI j) 8 := inI (by omega) (by decide)
  have ej := cl (show j < 2147483648 by omega)
  refine ⟨hi, fun v1 hv => ⟨20 + 1, ?_⟩⟩
  rw [ej] at hv
  subst hv
  refine fit_loop (Sv := fun v => setS S 4 j v) (by decide) (by omega) (by decide) (by decide) (fun v hv => wf_times hw hv) (fun v hv M' e1 e2 e3 => repC_times hr e1 e2 e3) (fun C hs1 => hp _ _ (fun post' hq => ?_)) 20 0 M (by omega) (fun _ _ _ => rfl) (fun _ _ => rfl)
  have hm1 : repM S C := hm.of (fun a ha _ => hs1 a (by omega))
  have hr1 : restR C := hs.of (fun a ha => hs1 a (by omega))
  refine mSlip_yes hm1 hw hj (b1B ⟨hi, fun v3 hv => ⟨20 + 1, ?_⟩⟩)
  rw [ej] at hv
  subst hv
  exact mtimes_loop hw hm1 (mode_norm hr1) (by omega) (hq C (hI0.C hs1)) 20 0 C (by omega) (fun _ _ => rfl) (fun _ _ => rfl)
theorem wf_grudges {S : AS} {j v : Nat} (hw : wf S) (hv : v < 10) : wf (setS S 3 j v) := by
  obtain ⟨w, v1, v2, v3, v4⟩ := hw
  refine ⟨w, fun i hi => ⟨(v1 i hi).1, (v1 i hi).2.1, ?_⟩, v2, v3, v4⟩
  rw [setS_s]
  by_cases z : i = j
  · rw [if_pos z]; omega
  · rw [if_neg z]; exact (v1 i hi).2.2
theorem repC_grudges {S : AS} {M M' : Mem} {j v : Nat} (hr : repC S M) (eo : ∀ a, a ≤ 17 → a ≠ 4 → M' a = M a) (en : ∀ i, i ≠ j → M' 4 i = M 4 i) (ej : M' 4 j = nI v) : repC (setS S 3 j v) M' := by
  obtain ⟨w, v1, v2, v3, v4⟩ := hr
  unfold repC
  rw [eo 1 (by decide) (by decide), eo 2 (by decide) (by decide), eo 3 (by decide) (by decide), eo 5 (by decide) (by decide), eo 6 (by decide) (by decide), eo 7 (by decide) (by decide), eo 8 (by decide) (by decide), eo 9 (by decide) (by decide), eo 10 (by decide) (by decide), eo 11 (by decide) (by decide), eo 12 (by decide) (by decide), eo 13 (by decide) (by decide), eo 14 (by decide) (by decide), eo 15 (by decide) (by decide), eo 16 (by decide) (by decide), eo 17 (by decide) (by decide)]
  refine ⟨w, fun i hi => ⟨(v1 i hi).1, (v1 i hi).2.1, ?_⟩, v2, v3, v4⟩
  rw [setS_s]
  by_cases z : i = j
  · rw [if_pos z, z]; exact ej
  · rw [if_neg z, en i z]; exact (v1 i hi).2.2
theorem repM_grudges {S : AS} {M M' : Mem} {j v : Nat} (hr : repM S M) (eo : ∀ a, a ≠ 40 → M' a = M a) (en : ∀ i, i ≠ j → M' 40 i = M 40 i) (ej : M' 40 j = nI v) : repM (setS S 3 j v) M' := by
  obtain ⟨w, v1, v2, v3, v4⟩ := hr
  unfold repM
  rw [eo 34 (by decide), eo 38 (by decide), eo 39 (by decide), eo 41 (by decide), eo 42 (by decide), eo 43 (by decide), eo 44 (by decide), eo 45 (by decide), eo 46 (by decide), eo 52 (by decide), eo 53 (by decide), eo 54 (by decide), eo 55 (by decide)]
  refine ⟨w, fun i hi => ⟨(v1 i hi).1, (v1 i hi).2.1, ?_⟩, v2, v3, v4⟩
  rw [setS_s]
  by_cases z : i = j
  · rw [if_pos z, z]; exact ej
  · rw [if_neg z, en i z]; exact (v1 i hi).2.2
theorem mgrudges_loop {S : AS} {M0 : Mem} (hw : wf S) (hr : repM S M0) (hm : modeM (fun _ => true) 9 M0) {j : Nat} (hj : j < 5) {post : Int32 → Mem → Prop} (hp : post (nI (bset (fun v => allSo (setS S 3 j v)) 10)) M0) :
    ∀ (m i : Nat) (M : Mem), i + m = 10 → (∀ a, a ≠ 40 → M a = M0 a) → (∀ q, q ≠ j → M 40 q = M0 40 q) → lp_X6_grudges_22 (nI j) post (m + 1) (M0 40 j) (nI (bset (fun v => allSo (setS S 3 j v)) i)) (nI i) M := by
  have hjv : vp_in (nI j) 5 := inI hj (by omega)
  have ej := cl (show j < 2147483648 by omega)
  intro m
  induction m with
  | zero =>
    intro i M hi h1 h2
    have e : i = 10 := by omega
    subst e
    unfold lp_X6_grudges_22
    refine ⟨fun _ => ⟨hjv, fun M2 z => ?_⟩, fun h => absurd (by decide) h⟩
    rw [ej] at z
    have : M2 = M0 := by
      subst z
      funext a q
      by_cases z : a = 40
      · subst z
        rw [up2_s, upd_at]
        by_cases zq : q = j
        · rw [if_pos zq, zq]
        · rw [if_neg zq]; exact h2 q zq
      · rw [up2_n _ _ _ z, h1 a z]
    rw [this]
    exact hp
  | succ m ih =>
    intro i M hi h1 h2
    unfold lp_X6_grudges_22
    rw [ej, shl1 (by omega), addI1, or0]
    refine ⟨fun h => absurd ((ltI (a := 9) (by decide) (by omega)).mp h) (by omega), fun _ => ⟨hjv, fun M3 z => ?_⟩⟩
    subst z
    have k1 : ∀ a, a ≠ 40 → up2 M 40 j (nI i) a = M0 a := fun a z => by rw [up2_n _ _ _ z]; exact h1 a z
    have k2 : ∀ q, q ≠ j → up2 M 40 j (nI i) 40 q = M0 40 q := fun q z => by rw [up2_s, upd_n _ _ z]; exact h2 q z
    refine mso_ok (wf_grudges (j := j) hw (show i < 10 by omega)) (repM_grudges hr k1 k2 (by rw [up2_s, upd_s])) (hm.of (k1 34 (by decide))) ⟨fun h v8 hv => ?_, fun h v8 hv => ?_⟩
    · subst hv
      rw [← bset_noI (fun v => allSo (setS S 3 j v)) (b2i_z.mp h)]
      exact ih (i + 1) _ (by omega) k1 k2
    · subst hv
      rw [bset_orI (fun v => allSo (setS S 3 j v)) (b2i_nz.mp h)]
      exact ih (i + 1) _ (by omega) k1 k2
theorem st_grudges {M : Mem} (hI : Inv M) (p1 : Int32) : StpI (wp_X5_grudges p1) (wp_X6_grudges p1) M := by
  intro post hp
  have hI0 := hI
  obtain ⟨⟨S, hw, hr, hm⟩, hs⟩ := hI
  have n1 := hw.1.1
  unfold wp_X5_grudges
  rcases ixI p1 (S 0 0) (by omega) with h1 | ⟨j, hj, rfl⟩
  · exact cChair_no hr h1 (b0B (hp _ _ (fun post' hq => mChair_no hm h1 (b0B (hq M hI0)))))
  refine cChair_yes hr hw hj (b1B ?_)
  have hi : vp_in (nI j) 5 := inI (by omega) (by decide)
  have ej := cl (show j < 2147483648 by omega)
  refine ⟨hi, fun v1 hv => ⟨10 + 1, ?_⟩⟩
  rw [ej] at hv
  subst hv
  refine fit_loop (Sv := fun v => setS S 3 j v) (by decide) (by omega) (by decide) (by decide) (fun v hv => wf_grudges hw hv) (fun v hv M' e1 e2 e3 => repC_grudges hr e1 e2 e3) (fun C hs1 => hp _ _ (fun post' hq => ?_)) 10 0 M (by omega) (fun _ _ _ => rfl) (fun _ _ => rfl)
  have hm1 : repM S C := hm.of (fun a ha _ => hs1 a (by omega))
  have hr1 : restR C := hs.of (fun a ha => hs1 a (by omega))
  refine mChair_yes hm1 hw hj (b1B ⟨hi, fun v3 hv => ⟨10 + 1, ?_⟩⟩)
  rw [ej] at hv
  subst hv
  exact mgrudges_loop hw hm1 (mode_norm hr1) (by omega) (hq C (hI0.C hs1)) 10 0 C (by omega) (fun _ _ => rfl) (fun _ _ => rfl)
theorem wf_ears {S : AS} {j v : Nat} (hw : wf S) (hv : v < 5) : wf (setS S 2 j v) := by
  obtain ⟨w, v1, v2, v3, v4⟩ := hw
  refine ⟨w, fun i hi => ⟨(v1 i hi).1, ?_, (v1 i hi).2.2⟩, v2, v3, v4⟩
  rw [setS_s]
  by_cases z : i = j
  · rw [if_pos z]; omega
  · rw [if_neg z]; exact (v1 i hi).2.1
theorem repC_ears {S : AS} {M M' : Mem} {j v : Nat} (hr : repC S M) (eo : ∀ a, a ≤ 17 → a ≠ 3 → M' a = M a) (en : ∀ i, i ≠ j → M' 3 i = M 3 i) (ej : M' 3 j = nI v) : repC (setS S 2 j v) M' := by
  obtain ⟨w, v1, v2, v3, v4⟩ := hr
  unfold repC
  rw [eo 1 (by decide) (by decide), eo 2 (by decide) (by decide), eo 4 (by decide) (by decide), eo 5 (by decide) (by decide), eo 6 (by decide) (by decide), eo 7 (by decide) (by decide), eo 8 (by decide) (by decide), eo 9 (by decide) (by decide), eo 10 (by decide) (by decide), eo 11 (by decide) (by decide), eo 12 (by decide) (by decide), eo 13 (by decide) (by decide), eo 14 (by decide) (by decide), eo 15 (by decide) (by decide), eo 16 (by decide) (by decide), eo 17 (by decide) (by decide)]
  refine ⟨w, fun i hi => ⟨(v1 i hi).1, ?_, (v1 i hi).2.2⟩, v2, v3, v4⟩
  rw [setS_s]
  by_cases z : i = j
  · rw [if_pos z, z]; exact ej
  · rw [if_neg z, en i z]; exact (v1 i hi).2.1
theorem repM_ears {S : AS} {M M' : Mem} {j v : Nat} (hr : repM S M) (eo : ∀ a, a ≠ 39 → M' a = M a) (en : ∀ i, i ≠ j → M' 39 i = M 39 i) (ej : M' 39 j = nI v) : repM (setS S 2 j v) M' := by
  obtain ⟨w, v1, v2, v3, v4⟩ := hr
  unfold repM
  rw [eo 34 (by decide), eo 38 (by decide), eo 40 (by decide), eo 41 (by decide), eo 42 (by decide), eo 43 (by decide), eo 44 (by decide), eo 45 (by decide), eo 46 (by decide), eo 52 (by decide), eo 53 (by decide), eo 54 (by decide), eo 55 (by decide)]
  refine ⟨w, fun i hi => ⟨(v1 i hi).1, ?_, (v1 i hi).2.2⟩, v2, v3, v4⟩
  rw [setS_s]
  by_cases z : i = j
  · rw [if_pos z, z]; exact ej
  · rw [if_neg z, en i z]; exact (v1 i hi).2.1
theorem mears_loop {S : AS} {M0 : Mem} (hw : wf S) (hr : repM S M0) (hm : modeM (fun _ => true) 9 M0) {j : Nat} (hj : j < 5) {post : Int32 → Mem → Prop} (hp : post (nI (bset (fun v => allSo (setS S 2 j v)) 5)) M0) :
    ∀ (m i : Nat) (M : Mem), i + m = 5 → (∀ a, a ≠ 39 → M a = M0 a) → (∀ q, q ≠ j → M 39 q = M0 39 q) → lp_X6_ears_22 (nI j) post (m + 1) (M0 39 j) (nI (bset (fun v => allSo (setS S 2 j v)) i)) (nI i) M := by
  have hjv : vp_in (nI j) 5 := inI hj (by omega)
  have ej := cl (show j < 2147483648 by omega)
  intro m
  induction m with
  | zero =>
    intro i M hi h1 h2
    have e : i = 5 := by omega
    subst e
    unfold lp_X6_ears_22
    refine ⟨fun _ => ⟨hjv, fun M2 z => ?_⟩, fun h => absurd (by decide) h⟩
    rw [ej] at z
    have : M2 = M0 := by
      subst z
      funext a q
      by_cases z : a = 39
      · subst z
        rw [up2_s, upd_at]
        by_cases zq : q = j
        · rw [if_pos zq, zq]
        · rw [if_neg zq]; exact h2 q zq
      · rw [up2_n _ _ _ z, h1 a z]
    rw [this]
    exact hp
  | succ m ih =>
    intro i M hi h1 h2
    unfold lp_X6_ears_22
    rw [ej, shl1 (by omega), addI1, or0]
    refine ⟨fun h => absurd ((ltI (a := 4) (by decide) (by omega)).mp h) (by omega), fun _ => ⟨hjv, fun M3 z => ?_⟩⟩
    subst z
    have k1 : ∀ a, a ≠ 39 → up2 M 39 j (nI i) a = M0 a := fun a z => by rw [up2_n _ _ _ z]; exact h1 a z
    have k2 : ∀ q, q ≠ j → up2 M 39 j (nI i) 39 q = M0 39 q := fun q z => by rw [up2_s, upd_n _ _ z]; exact h2 q z
    refine mso_ok (wf_ears (j := j) hw (show i < 5 by omega)) (repM_ears hr k1 k2 (by rw [up2_s, upd_s])) (hm.of (k1 34 (by decide))) ⟨fun h v8 hv => ?_, fun h v8 hv => ?_⟩
    · subst hv
      rw [← bset_noI (fun v => allSo (setS S 2 j v)) (b2i_z.mp h)]
      exact ih (i + 1) _ (by omega) k1 k2
    · subst hv
      rw [bset_orI (fun v => allSo (setS S 2 j v)) (b2i_nz.mp h)]
      exact ih (i + 1) _ (by omega) k1 k2
theorem st_ears {M : Mem} (hI : Inv M) (p1 : Int32) : StpI (wp_X5_ears p1) (wp_X6_ears p1) M := by
  intro post hp
  have hI0 := hI
  obtain ⟨⟨S, hw, hr, hm⟩, hs⟩ := hI
  have n1 := hw.1.1
  unfold wp_X5_ears
  rcases ixI p1 (S 0 0) (by omega) with h1 | ⟨j, hj, rfl⟩
  · exact cChair_no hr h1 (b0B (hp _ _ (fun post' hq => mChair_no hm h1 (b0B (hq M hI0)))))
  refine cChair_yes hr hw hj (b1B ?_)
  have hi : vp_in (nI j) 5 := inI (by omega) (by decide)
  have ej := cl (show j < 2147483648 by omega)
  refine ⟨hi, fun v1 hv => ⟨5 + 1, ?_⟩⟩
  rw [ej] at hv
  subst hv
  refine fit_loop (Sv := fun v => setS S 2 j v) (by decide) (by omega) (by decide) (by decide) (fun v hv => wf_ears hw hv) (fun v hv M' e1 e2 e3 => repC_ears hr e1 e2 e3) (fun C hs1 => hp _ _ (fun post' hq => ?_)) 5 0 M (by omega) (fun _ _ _ => rfl) (fun _ _ => rfl)
  have hm1 : repM S C := hm.of (fun a ha _ => hs1 a (by omega))
  have hr1 : restR C := hs.of (fun a ha => hs1 a (by omega))
  refine mChair_yes hm1 hw hj (b1B ⟨hi, fun v3 hv => ⟨5 + 1, ?_⟩⟩)
  rw [ej] at hv
  subst hv
  exact mears_loop hw hm1 (mode_norm hr1) (by omega) (hq C (hI0.C hs1)) 5 0 C (by omega) (fun _ _ => rfl) (fun _ _ => rfl)
theorem wf_kinds {S : AS} {j v : Nat} (hw : wf S) (hv : v < 3) : wf (setS S 1 j v) := by
  obtain ⟨w, v1, v2, v3, v4⟩ := hw
  refine ⟨w, fun i hi => ⟨?_, (v1 i hi).2.1, (v1 i hi).2.2⟩, v2, v3, v4⟩
  rw [setS_s]
  by_cases z : i = j
  · rw [if_pos z]; omega
  · rw [if_neg z]; exact (v1 i hi).1
theorem repC_kinds {S : AS} {M M' : Mem} {j v : Nat} (hr : repC S M) (eo : ∀ a, a ≤ 17 → a ≠ 2 → M' a = M a) (en : ∀ i, i ≠ j → M' 2 i = M 2 i) (ej : M' 2 j = nI v) : repC (setS S 1 j v) M' := by
  obtain ⟨w, v1, v2, v3, v4⟩ := hr
  unfold repC
  rw [eo 1 (by decide) (by decide), eo 3 (by decide) (by decide), eo 4 (by decide) (by decide), eo 5 (by decide) (by decide), eo 6 (by decide) (by decide), eo 7 (by decide) (by decide), eo 8 (by decide) (by decide), eo 9 (by decide) (by decide), eo 10 (by decide) (by decide), eo 11 (by decide) (by decide), eo 12 (by decide) (by decide), eo 13 (by decide) (by decide), eo 14 (by decide) (by decide), eo 15 (by decide) (by decide), eo 16 (by decide) (by decide), eo 17 (by decide) (by decide)]
  refine ⟨w, fun i hi => ⟨?_, (v1 i hi).2.1, (v1 i hi).2.2⟩, v2, v3, v4⟩
  rw [setS_s]
  by_cases z : i = j
  · rw [if_pos z, z]; exact ej
  · rw [if_neg z, en i z]; exact (v1 i hi).1
theorem repM_kinds {S : AS} {M M' : Mem} {j v : Nat} (hr : repM S M) (eo : ∀ a, a ≠ 38 → M' a = M a) (en : ∀ i, i ≠ j → M' 38 i = M 38 i) (ej : M' 38 j = nI v) : repM (setS S 1 j v) M' := by
  obtain ⟨w, v1, v2, v3, v4⟩ := hr
  unfold repM
  rw [eo 34 (by decide), eo 39 (by decide), eo 40 (by decide), eo 41 (by decide), eo 42 (by decide), eo 43 (by decide), eo 44 (by decide), eo 45 (by decide), eo 46 (by decide), eo 52 (by decide), eo 53 (by decide), eo 54 (by decide), eo 55 (by decide)]
  refine ⟨w, fun i hi => ⟨?_, (v1 i hi).2.1, (v1 i hi).2.2⟩, v2, v3, v4⟩
  rw [setS_s]
  by_cases z : i = j
  · rw [if_pos z, z]; exact ej
  · rw [if_neg z, en i z]; exact (v1 i hi).1
theorem mkinds_loop {S : AS} {M0 : Mem} (hw : wf S) (hr : repM S M0) (hm : modeM (fun _ => true) 9 M0) {j : Nat} (hj : j < 5) {post : Int32 → Mem → Prop} (hp : post (nI (bset (fun v => allSo (setS S 1 j v)) 3)) M0) :
    ∀ (m i : Nat) (M : Mem), i + m = 3 → (∀ a, a ≠ 38 → M a = M0 a) → (∀ q, q ≠ j → M 38 q = M0 38 q) → lp_X6_kinds_22 (nI j) post (m + 1) (M0 38 j) (nI (bset (fun v => allSo (setS S 1 j v)) i)) (nI i) M := by
  have hjv : vp_in (nI j) 5 := inI hj (by omega)
  have ej := cl (show j < 2147483648 by omega)
  intro m
  induction m with
  | zero =>
    intro i M hi h1 h2
    have e : i = 3 := by omega
    subst e
    unfold lp_X6_kinds_22
    refine ⟨fun _ => ⟨hjv, fun M2 z => ?_⟩, fun h => absurd (by decide) h⟩
    rw [ej] at z
    have : M2 = M0 := by
      subst z
      funext a q
      by_cases z : a = 38
      · subst z
        rw [up2_s, upd_at]
        by_cases zq : q = j
        · rw [if_pos zq, zq]
        · rw [if_neg zq]; exact h2 q zq
      · rw [up2_n _ _ _ z, h1 a z]
    rw [this]
    exact hp
  | succ m ih =>
    intro i M hi h1 h2
    unfold lp_X6_kinds_22
    rw [ej, shl1 (by omega), addI1, or0]
    refine ⟨fun h => absurd ((leI (a := 3) (by decide) (by omega)).mp h) (by omega), fun _ => ⟨hjv, fun M3 z => ?_⟩⟩
    subst z
    have k1 : ∀ a, a ≠ 38 → up2 M 38 j (nI i) a = M0 a := fun a z => by rw [up2_n _ _ _ z]; exact h1 a z
    have k2 : ∀ q, q ≠ j → up2 M 38 j (nI i) 38 q = M0 38 q := fun q z => by rw [up2_s, upd_n _ _ z]; exact h2 q z
    refine mso_ok (wf_kinds (j := j) hw (show i < 3 by omega)) (repM_kinds hr k1 k2 (by rw [up2_s, upd_s])) (hm.of (k1 34 (by decide))) ⟨fun h v8 hv => ?_, fun h v8 hv => ?_⟩
    · subst hv
      rw [← bset_noI (fun v => allSo (setS S 1 j v)) (b2i_z.mp h)]
      exact ih (i + 1) _ (by omega) k1 k2
    · subst hv
      rw [bset_orI (fun v => allSo (setS S 1 j v)) (b2i_nz.mp h)]
      exact ih (i + 1) _ (by omega) k1 k2
theorem st_kinds {M : Mem} (hI : Inv M) (p1 : Int32) : StpI (wp_X5_kinds p1) (wp_X6_kinds p1) M := by
  intro post hp
  have hI0 := hI
  obtain ⟨⟨S, hw, hr, hm⟩, hs⟩ := hI
  have n1 := hw.1.1
  unfold wp_X5_kinds
  rcases ixI p1 (S 0 0) (by omega) with h1 | ⟨j, hj, rfl⟩
  · exact cChair_no hr h1 (b0B (hp _ _ (fun post' hq => mChair_no hm h1 (b0B (hq M hI0)))))
  refine cChair_yes hr hw hj (b1B ?_)
  have hi : vp_in (nI j) 5 := inI (by omega) (by decide)
  have ej := cl (show j < 2147483648 by omega)
  refine ⟨hi, fun v1 hv => ⟨3 + 1, ?_⟩⟩
  rw [ej] at hv
  subst hv
  refine fit_loop (Sv := fun v => setS S 1 j v) (by decide) (by omega) (by decide) (by decide) (fun v hv => wf_kinds hw hv) (fun v hv M' e1 e2 e3 => repC_kinds hr e1 e2 e3) (fun C hs1 => hp _ _ (fun post' hq => ?_)) 3 0 M (by omega) (fun _ _ _ => rfl) (fun _ _ => rfl)
  have hm1 : repM S C := hm.of (fun a ha _ => hs1 a (by omega))
  have hr1 : restR C := hs.of (fun a ha => hs1 a (by omega))
  refine mChair_yes hm1 hw hj (b1B ⟨hi, fun v3 hv => ⟨3 + 1, ?_⟩⟩)
  rw [ej] at hv
  subst hv
  exact mkinds_loop hw hm1 (mode_norm hr1) (by omega) (hq C (hI0.C hs1)) 3 0 C (by omega) (fun _ _ => rfl) (fun _ _ => rfl)
