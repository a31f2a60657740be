/-! the reference: whom a chair bears -/
def modeM (mk : Nat → Bool) (fr : Nat) (M : Mem) : Prop := (∃ u, M 34 18 = nI u ∧ u < 256 ∧ ∀ k, k < 8 → mk k = !u.testBit k) ∧ ∀ c, c < 5 → (nI c = M 34 19 ↔ c = fr)
def sameM (M M' : Mem) : Prop := ∀ a, a < 47 ∨ 51 < a → M' a = M a
theorem sameM.rf (M : Mem) : sameM M M := fun _ _ => rfl
theorem sameM.tr {M M' M'' : Mem} (h : sameM M M') (h' : sameM M' M'') : sameM M M'' := fun a ha => (h' a ha).trans (h a ha)
theorem sameM.up {M M' : Mem} (h : sameM M M') {k j : Nat} {v : Int32} (hk : 47 ≤ k ∧ k ≤ 51) : sameM M (up2 M' k j v) := fun a ha => (up2_n M' j v (by omega)).trans (h a ha)
theorem sameM.rep {S : AS} {M M' : Mem} (h : sameM M M') (hr : repM S M) : repM S M' := hr.of (fun a _ ha => h a ha)
theorem sameM.mode {mk : Nat → Bool} {fr : Nat} {M M' : Mem} (h : sameM M M') (hm : modeM mk fr M) : modeM mk fr M' := by
  unfold modeM at *
  rw [h 34 (by decide)]
  exact hm
theorem mForg_loop {S : AS} {M : Mem} (hw : wf S) (hr : repM S M) {c k d : Nat} (hc : c < S 0 0) (hk : k < S 0 2) (hd : d < 20) {post : Int32 → Mem → Prop} (hp : post (b2i (forg S c k d)) M) :
    ∀ (m i : Nat), i + m = S 0 3 → (∀ j, j < i → (decide (S 9 j = c) && (decide (S 8 j = S 5 k) && (decide (S 4 k ≤ S 7 j) && decide (S 7 j < d)))) = false) → lp_X6_isForgiven_3 (nI c) (nI k) (nI d) post (m + 1) (nI i) M := by
  obtain ⟨⟨w1, w2, w3, w4, w5, w6⟩, wc, ws, wb, wr⟩ := hw
  obtain ⟨⟨r1, r2, r3, r4, r5⟩, rc, rs, rb, rr⟩ := hr
  have hk8 : k < 8 := by omega
  intro m
  induction m with
  | zero =>
    intro i hi hn
    unfold lp_X6_isForgiven_3
    rw [r4]
    refine ⟨fun _ => ?_, fun h => absurd ((leI (by omega) (by omega)).mpr (by omega)) h⟩
    have e : forg S c k d = false := anyB_f (fun j hj => hn j (by omega))
    rw [e] at hp
    exact hp
  | succ m ih =>
    intro i hi hn
    have hib : i < S 0 3 := by omega
    obtain ⟨b1, b2, b3⟩ := rb i hib
    obtain ⟨v1, v2, v3⟩ := wb i hib
    obtain ⟨s1, s2, s3⟩ := rs k hk
    obtain ⟨u1, u2, u3⟩ := ws k hk
    have hnext : (decide (S 9 i = c) && (decide (S 8 i = S 5 k) && (decide (S 4 k ≤ S 7 i) && decide (S 7 i < d)))) = false → lp_X6_isForgiven_3 (nI c) (nI k) (nI d) post (m + 1) (nI i + 1) M := by
      intro hf
      rw [addI1]
      refine ih (i + 1) (by omega) (fun j hj => ?_)
      rcases Nat.lt_or_ge j i with q | q
      · exact hn j q
      · have : j = i := by omega
        subst this
        exact hf
    unfold lp_X6_isForgiven_3
    rw [r4, cl (show i < 2147483648 by omega), cl (show k < 2147483648 by omega), b1, b2, b3, s1, s2]
    refine ⟨fun h => absurd ((leI (by omega) (by omega)).mp h) (by omega), fun _ => ⟨inI (by omega) (by decide), fun h => hnext ?_, fun h => ⟨inI (by omega) (by decide), inI hk8 (by decide), fun h2 => hnext ?_, fun h2 => ⟨inI hk8 (by decide), inI (by omega) (by decide), fun h3 => hnext ?_, fun h3 => ⟨inI (by omega) (by decide), fun h4 => hnext ?_, fun h4 => ?_⟩⟩⟩⟩⟩
    · rw [eqI (by omega) (by omega)] at h
      simp [h]
    · rw [eqI (by omega) (by omega)] at h2
      simp [h2]
    · rw [ltI (by omega) (by omega)] at h3
      simp [show ¬ S 4 k ≤ S 7 i by omega]
    · rw [leI (by omega) (by omega)] at h4
      simp [show ¬ S 7 i < d by omega]
    · rw [eqI (by omega) (by omega)] at h
      rw [eqI (by omega) (by omega)] at h2
      rw [ltI (by omega) (by omega)] at h3
      rw [leI (by omega) (by omega)] at h4
      have e : forg S c k d = true := anyB_t hib (by simp [h, h2, show S 4 k ≤ S 7 i by omega, show S 7 i < d by omega])
      rw [e] at hp
      exact hp
theorem mForg_ok {S : AS} {M : Mem} (hw : wf S) (hr : repM S M) {c k d : Nat} (hc : c < S 0 0) (hk : k < S 0 2) (hd : d < 20) {post : Int32 → Mem → Prop} (hp : post (b2i (forg S c k d)) M) : wp_X6_isForgiven (nI c) (nI k) (nI d) M post :=
  ⟨S 0 3 + 1, mForg_loop hw hr hc hk hd hp (S 0 3) 0 (by omega) (fun j hj => absurd hj (by omega))⟩
theorem mMinds_loop {S : AS} {M : Mem} (hw : wf S) (hr : repM S M) {mk : Nat → Bool} {fr : Nat} (hm : modeM mk fr M) {c g d : Nat} (hc : c < S 0 0) (hg : g < S 0 1) (hd : d < 20) {post : Int32 → Mem → Prop} (hp : post (b2i (mindS S mk fr c g d)) M) :
    ∀ (m i : Nat), i + m = S 0 2 → (∀ k, k < i → (mk k && (decide (S 5 k = g) && heldS S c k d)) = false) → lp_X6_minds_32 (nI c) (nI g) (nI d) post (m + 1) (nI (farS S c)) (nI i) M := by
  have hw0 := hw
  have hr0 := hr
  obtain ⟨⟨w1, w2, w3, w4, w5, w6⟩, wc, ws, wb, wr⟩ := hw
  obtain ⟨⟨r1, r2, r3, r4, r5⟩, rc, rs, rb, rr⟩ := hr
  obtain ⟨⟨u, hu1, hu2, hu3⟩, hf⟩ := hm
  have hc5 : c < 5 := by omega
  obtain ⟨k1, k2, k3⟩ := rc c hc
  obtain ⟨l1, l2, l3⟩ := wc c hc
  have hfar : farS S c < 19 := by unfold farS; split <;> omega
  intro m
  induction m with
  | zero =>
    intro i hi hn
    unfold lp_X6_minds_32
    rw [r3]
    refine ⟨fun _ => ?_, fun h => absurd ((leI (by omega) (by omega)).mpr (by omega)) h⟩
    have e : mindS S mk fr c g d = false := by
      unfold mindS
      rw [anyB_f (fun j hj => hn j (by omega)), Bool.and_false]
    rw [e] at hp
    exact hp
  | succ m ih =>
    intro i hi hn
    have hi2 : i < S 0 2 := by omega
    have hi8 : i < 8 := by omega
    obtain ⟨s1, s2, s3⟩ := rs i hi2
    obtain ⟨u1, u2, u3⟩ := ws i hi2
    unfold lp_X6_minds_32
    rw [r3, cl (show i < 2147483648 by omega), s3, hf c hc5]
    refine ⟨fun h => absurd ((leI (by omega) (by omega)).mp h) (by omega), fun _ => ⟨fun h => ?_, fun h => ?_⟩⟩
    · have e : mindS S mk fr c g d = false := by simp [mindS, h]
      rw [e] at hp
      exact hp
    · have hnext : (mk i && (decide (S 5 i = g) && heldS S c i d)) = false → lp_X6_minds_32 (nI c) (nI g) (nI d) post (m + 1) (nI (farS S c)) (nI i + 1) M := by
        intro hf2
        rw [addI1]
        refine ih (i + 1) (by omega) (fun j hj => ?_)
        rcases Nat.lt_or_ge j i with q | q
        · exact hn j q
        · have : j = i := by omega
          subst this
          exact hf2
      have j122 : S 5 i = g → mk i = true → dst c (S 6 i) ≤ S 2 c → jn_X6_minds_122 (nI c) (nI g) (nI d) post (fun y4 y5 M' => lp_X6_minds_32 (nI c) (nI g) (nI d) post (m + 1) y4 y5 M') (nI (farS S c)) (nI i) 1 M := by
        intro a1 a2 a3
        obtain ⟨q1, q2⟩ := sub_cmp ⟨d, hd⟩ ⟨S 4 i, u1⟩ ⟨farS S c, hfar⟩
        dsimp only at q1 q2
        unfold jn_X6_minds_122 wp_X6_within
        rw [cl (show i < 2147483648 by omega), s1, q1, q2]
        refine ⟨fun q => absurd q (by decide), fun _ => ⟨inI hi8 (by decide), fun h1 => ⟨fun _ => hnext ?_, fun q => absurd rfl q⟩, fun h1 => ⟨fun h2 => ⟨fun _ => hnext ?_, fun q => absurd rfl q⟩, fun h2 => ⟨fun q => absurd q (by decide), fun _ => mForg_ok hw0 hr0 hc hi2 hd ⟨fun h3 => hnext ?_, fun h3 => ?_⟩⟩⟩⟩⟩
        · simp [heldS, h1]
        · simp [heldS, h2]
        · simp [heldS, b2i_nz.mp h3]
        · have b1 : S 4 i + 1 ≤ d := by omega
          have b2 : d ≤ S 4 i + farS S c := by omega
          have e : mindS S mk fr c g d = true := by
            unfold mindS
            rw [anyB_t hi2 (by simp [heldS, a1, a2, a3, b1, b2, b2i_z.mp h3])]
            simp [h]
          rw [e] at hp
          exact hp
      have j121 : (mk i && (decide (S 5 i = g) && heldS S c i d)) = false → jn_X6_minds_121 (nI c) (nI g) (nI d) post (fun y4 y5 M' => lp_X6_minds_32 (nI c) (nI g) (nI d) post (m + 1) y4 y5 M') (nI (farS S c)) (nI i) M := by
        intro hf2
        unfold jn_X6_minds_121 jn_X6_minds_122
        exact ⟨fun _ => hnext hf2, fun q => absurd rfl q⟩
      have j81 : jn_X6_minds_81 (nI c) (nI g) (nI d) post (fun y4 y5 M' => lp_X6_minds_32 (nI c) (nI g) (nI d) post (m + 1) y4 y5 M') (nI (farS S c)) (nI i) (nI (dst c (S 6 i))) M := by
        have hdl := dst_lt hc5 (show S 6 i < 5 by omega)
        unfold jn_X6_minds_81
        rw [cl (show i < 2147483648 by omega), cl (show c < 2147483648 by omega), s2, hu1, bitZ (by omega) (by omega), k2]
        refine ⟨inI hi8 (by decide), fun h1 => j121 ?_, fun h1 => ⟨fun h2 => j121 ?_, fun h2 => ⟨inI hc5 (by decide), fun h3 => j121 ?_, fun h3 => ?_⟩⟩⟩
        · rw [eqI (by omega) (by omega)] at h1
          simp [h1]
        · have e : mk i = false := by
            rw [hu3 i hi8]
            cases q : u.testBit i with
            | true => rfl
            | false => exact absurd q h2
          simp [e]
        · rw [ltI (by omega) (by omega)] at h3
          simp [heldS, show ¬ dst c (S 6 i) ≤ S 2 c by omega]
        · rw [eqI (by omega) (by omega)] at h1
          rw [ltI (by omega) (by omega)] at h3
          exact j122 h1 (by rw [hu3 i hi8, h2]; rfl) (by omega)
      refine ⟨inI hi8 (by decide), fun h1 => ⟨inI hi8 (by decide), ?_⟩, fun h1 => ⟨inI hi8 (by decide), ?_⟩⟩
      · rw [leI (by omega) (by omega)] at h1
        rw [subI h1, show S 6 i - c = dst c (S 6 i) by unfold dst; split <;> omega]
        exact j81
      · rw [leI (by omega) (by omega)] at h1
        rw [subI (by omega), show c - S 6 i = dst c (S 6 i) by unfold dst; split <;> omega]
        exact j81
theorem mMinds_ok {S : AS} {M : Mem} (hw : wf S) (hr : repM S M) {mk : Nat → Bool} {fr : Nat} (hm : modeM mk fr M) {c g d : Nat} (hc : c < S 0 0) (hg : g < S 0 1) (hd : d < 20) {post : Int32 → Mem → Prop} (hp : post (b2i (mindS S mk fr c g d)) M) : wp_X6_minds (nI c) (nI g) (nI d) M post := by
  have h := mMinds_loop hw hr hm hc hg hd hp (S 0 2) 0 (by omega) (fun j hj => absurd hj (by omega))
  obtain ⟨⟨w1, w2, w3, w4, w5, w6⟩, wc, ws, wb, wr⟩ := hw
  obtain ⟨⟨r1, r2, r3, r4, r5⟩, rc, rs, rb, rr⟩ := hr
  obtain ⟨k1, k2, k3⟩ := rc c hc
  obtain ⟨l1, l2, l3⟩ := wc c hc
  have hc5 : c < 5 := by omega
  unfold wp_X6_minds jn_X6_minds_27
  rw [cl (show c < 2147483648 by omega), k1, k3]
  refine ⟨inI hc5 (by decide), fun h1 => ⟨inI hc5 (by decide), S 0 2 + 1, ?_⟩, fun h1 => ⟨inI hc5 (by decide), S 0 2 + 1, ?_⟩⟩
  · rw [show (2 : Int32) = nI 2 from rfl, eqI (by omega) (by decide)] at h1
    have e : farS S c = S 3 c := if_neg h1
    rw [e] at h
    exact h
  · rw [show (2 : Int32) = nI 2 from rfl, eqI (by omega) (by decide)] at h1
    have e : farS S c = 2 * S 3 c := if_pos h1
    rw [e] at h
    rw [show (2 : Int32) = nI 2 from rfl, pk_mul]
    exact h
theorem mBear_loop {S : AS} {M : Mem} (hw : wf S) (hr : repM S M) {mk : Nat → Bool} {fr : Nat} (hm : modeM mk fr M) {p1 : Int32} {g d : Nat} (hg : g < S 0 1) (hd : d < 20) {post : Int32 → Mem → Prop} (hp : post (b2i (!anyB (fun x => decide (S 1 x = 1) && mindS S mk fr x g d) (S 0 0))) M) :
    ∀ (m i : Nat), i + m = S 0 0 → (∀ x, x < i → (decide (S 1 x = 1) && mindS S mk fr x g d) = false) → lp_X6_doesBear_39 p1 (nI g) (nI d) post (m + 1) (nI i) M := by
  have hw0 := hw
  have hr0 := hr
  obtain ⟨⟨w1, w2, w3, w4, w5, w6⟩, wc, ws, wb, wr⟩ := hw
  obtain ⟨⟨r1, r2, r3, r4, r5⟩, rc, rs, rb, rr⟩ := hr
  intro m
  induction m with
  | zero =>
    intro i hi hn
    unfold lp_X6_doesBear_39
    rw [r1]
    refine ⟨fun _ => ?_, fun h => absurd ((leI (by omega) (by omega)).mpr (by omega)) h⟩
    rw [anyB_f (fun j hj => hn j (by omega))] at hp
    exact hp
  | succ m ih =>
    intro i hi hn
    have hi0 : i < S 0 0 := by omega
    obtain ⟨k1, k2, k3⟩ := rc i hi0
    obtain ⟨l1, l2, l3⟩ := wc i hi0
    have hnext : (decide (S 1 i = 1) && mindS S mk fr i g d) = false → lp_X6_doesBear_39 p1 (nI g) (nI d) post (m + 1) (nI i + 1) M := by
      intro hf2
      rw [addI1]
      refine ih (i + 1) (by omega) (fun j hj => ?_)
      rcases Nat.lt_or_ge j i with q | q
      · exact hn j q
      · have : j = i := by omega
        subst this
        exact hf2
    unfold lp_X6_doesBear_39
    rw [r1, cl (show i < 2147483648 by omega), k1, show (1 : Int32) = nI 1 from rfl, eqI (by omega) (by decide)]
    refine ⟨fun h => absurd ((leI (by omega) (by omega)).mp h) (by omega), fun _ => ⟨inI (by omega) (by decide), fun h => hnext (by simp [h]), fun h => mMinds_ok hw0 hr0 hm hi0 hg hd ⟨fun h2 => hnext (by simp [b2i_z.mp h2]), fun h2 => ?_⟩⟩⟩
    rw [anyB_t hi0 (by simp [h, b2i_nz.mp h2])] at hp
    exact hp
theorem mBear_ok {S : AS} {M : Mem} (hw : wf S) (hr : repM S M) {mk : Nat → Bool} {fr : Nat} (hm : modeM mk fr M) {c g d : Nat} (hc : c < S 0 0) (hg : g < S 0 1) (hd : d < 20) {post : Int32 → Mem → Prop} (hp : post (b2i (bearS S mk fr c g d)) M) : wp_X6_doesBear (nI c) (nI g) (nI d) M post := by
  have hw0 := hw
  have hr0 := hr
  obtain ⟨⟨w1, w2, w3, w4, w5, w6⟩, wc, ws, wb, wr⟩ := hw
  obtain ⟨⟨r1, r2, r3, r4, r5⟩, rc, rs, rb, rr⟩ := hr
  obtain ⟨k1, k2, k3⟩ := rc c hc
  obtain ⟨l1, l2, l3⟩ := wc c hc
  have hc5 : c < 5 := by omega
  unfold wp_X6_doesBear
  rw [hm.2 c hc5, cl (show c < 2147483648 by omega), k1, show (1 : Int32) = nI 1 from rfl, eqI (by omega) (by decide)]
  refine ⟨fun h => ⟨inI hc5 (by decide), fun h2 => ⟨S 0 0 + 1, mBear_loop hw0 hr0 hm hg hd ?_ (S 0 0) 0 (by omega) (fun j hj => absurd hj (by omega))⟩, fun h2 => mMinds_ok hw0 hr0 hm hc hg hd ⟨fun h3 => ?_, fun h3 => ?_⟩⟩, fun h => ?_⟩
  · have e : bearS S mk fr c g d = !anyB (fun x => decide (S 1 x = 1) && mindS S mk fr x g d) (S 0 0) := by simp [bearS, h, h2]
    rw [e] at hp
    exact hp
  · have e : bearS S mk fr c g d = false := by simp [bearS, h, h2, b2i_nz.mp h3]
    rw [e] at hp
    exact hp
  · have e : bearS S mk fr c g d = true := by simp [bearS, h, h2, b2i_z.mp h3]
    rw [e] at hp
    exact hp
  · have e : bearS S mk fr c g d = true := by simp [bearS, h]
    rw [e] at hp
    exact hp
/-- by guest: the chairs that bear him -/
def bornN (S : AS) (mk : Nat → Bool) (fr d g : Nat) : Nat := bset (fun c => bearS S mk fr c g d) (S 0 0)
theorem or0 (x : Nat) : nI x ||| 0 = nI x := by
  rw [show (0 : Int32) = nI 0 from rfl, fa_or, Nat.or_zero]
theorem layD_in {S : AS} {M0 : Mem} (hw : wf S) (hr : repM S M0) {mk : Nat → Bool} {fr : Nat} (hm : modeM mk fr M0) {d g : Nat} (hg : g < S 0 1) (hd : d < 20) {post : Mem → Prop} {B : Int32 → Mem → Prop} :
    ∀ (m i : Nat) (M : Mem), i + m = S 0 0 → (∀ a, a ≠ 48 → M a = M0 a) → M 48 g = nI (bset (fun c => bearS S mk fr c g d) i) →
    (∀ M', (∀ a, a ≠ 48 → M' a = M0 a) → (∀ j, j ≠ g → M' 48 j = M 48 j) → M' 48 g = nI (bornN S mk fr d g) → B (nI (g + 1)) M') →
    lp_X6_layDinner_19 (nI d) post B (m + 1) (nI g) (nI i) M := by
  have hw0 := hw
  obtain ⟨⟨w1, w2, w3, w4, w5, w6⟩, wc, ws, wb, wr⟩ := hw
  have hg5 : g < 5 := by omega
  intro m
  induction m with
  | zero =>
    intro i M hi hs hh hB
    have hsm : sameM M0 M := fun a ha => hs a (by omega)
    have hr' := hsm.rep hr
    unfold lp_X6_layDinner_19
    rw [hr'.1.1]
    refine ⟨fun _ => ?_, fun h => absurd ((leI (by omega) (by omega)).mpr (by omega)) h⟩
    rw [addI1]
    refine hB M hs (fun _ _ => rfl) ?_
    rw [hh, show i = S 0 0 by omega]
    rfl
  | succ m ih =>
    intro i M hi hs hh hB
    have hsm : sameM M0 M := fun a ha => hs a (by omega)
    have hr' := hsm.rep hr
    have stp : ∀ v : Int32, nI (bset (fun c => bearS S mk fr c g d) i) ||| v = nI (bset (fun c => bearS S mk fr c g d) (i + 1)) → jn_X6_layDinner_51 (nI d) post B (fun y2 y3 M' => lp_X6_layDinner_19 (nI d) post B (m + 1) y2 y3 M') (nI g) (nI i) v (M 48 g) (nI g) M := by
      intro v hv
      unfold jn_X6_layDinner_51
      rw [cl (show g < 2147483648 by omega), addI1]
      refine ⟨inI hg5 (by decide), fun M4 h4 => ?_⟩
      subst h4
      refine ih (i + 1) _ (by omega) (fun a ha => (up2_n M _ _ ha).trans (hs a ha)) ?_ ?_
      · rw [up2_s, upd_s, hh, hv]
      · intro M' a1 a2 a3
        refine hB M' a1 (fun j hj => (a2 j hj).trans ?_) a3
        rw [up2_s, upd_n _ _ hj]
    unfold lp_X6_layDinner_19
    rw [hr'.1.1, cl (show g < 2147483648 by omega)]
    refine ⟨fun h => absurd ((leI (by omega) (by omega)).mp h) (by omega), fun _ => ⟨inI hg5 (by decide), mBear_ok hw0 hr' (hsm.mode hm) (by omega) hg hd ⟨fun h => stp 0 ?_, fun h => stp _ ?_⟩⟩⟩
    · rw [or0]
      exact congrArg nI (bset_noI (fun c => bearS S mk fr c g d) (b2i_z.mp h)).symm
    · rw [shl1 (by omega)]
      exact bset_orI (fun c => bearS S mk fr c g d) (b2i_nz.mp h)
theorem layD_out {S : AS} {M0 : Mem} (hw : wf S) (hr : repM S M0) {mk : Nat → Bool} {fr : Nat} (hm : modeM mk fr M0) {d : Nat} (hd : d < 20) {post : Mem → Prop} :
    ∀ (m i : Nat) (M : Mem), i + m = S 0 1 → (∀ a, a ≠ 48 → M a = M0 a) → (∀ g, g < i → M 48 g = nI (bornN S mk fr d g)) →
    (∀ M', (∀ a, a ≠ 48 → M' a = M0 a) → (∀ g, g < S 0 1 → M' 48 g = nI (bornN S mk fr d g)) → post M') → lp_X6_layDinner_2 (nI d) post (m + 1) (nI i) M := by
  have hw0 := hw
  obtain ⟨⟨w1, w2, w3, w4, w5, w6⟩, wc, ws, wb, wr⟩ := hw
  intro m
  induction m with
  | zero =>
    intro i M hi hs hh hB
    have hsm : sameM M0 M := fun a ha => hs a (by omega)
    unfold lp_X6_layDinner_2
    rw [(hsm.rep hr).1.2.1]
    exact ⟨fun _ => hB M hs (fun c hc => hh c (by omega)), fun h => absurd ((leI (by omega) (by omega)).mpr (by omega)) h⟩
  | succ m ih =>
    intro i M hi hs hh hB
    have hsm : sameM M0 M := fun a ha => hs a (by omega)
    unfold lp_X6_layDinner_2
    rw [(hsm.rep hr).1.2.1, cl (show i < 2147483648 by omega)]
    refine ⟨fun h => absurd ((leI (by omega) (by omega)).mp h) (by omega), fun _ => ⟨inI (by omega) (by decide), fun M1 h1 => ⟨S 0 0 + 1, ?_⟩⟩⟩
    subst h1
    refine layD_in hw0 hr hm (by omega) hd (S 0 0) 0 _ (by omega) (fun a ha => (up2_n M _ _ ha).trans (hs a ha)) ?_ ?_
    · rw [up2_s, upd_s]; rfl
    · intro M' a1 a2 a3
      refine ih (i + 1) M' (by omega) a1 (fun c hc => ?_) hB
      by_cases e : c = i
      · subst e; exact a3
      · rw [a2 c e, up2_s, upd_n _ _ e]
        exact hh c (by omega)
theorem layD_ok {S : AS} {M : Mem} (hw : wf S) (hr : repM S M) {mk : Nat → Bool} {fr : Nat} (hm : modeM mk fr M) {d : Nat} (hd : d < 20) {post : Mem → Prop} (hp : ∀ M', (∀ a, a ≠ 48 → M' a = M a) → (∀ g, g < S 0 1 → M' 48 g = nI (bornN S mk fr d g)) → post M') : wp_X6_layDinner (nI d) M post :=
  ⟨S 0 1 + 1, layD_out hw hr hm hd (S 0 1) 0 M (by omega) (fun _ _ => rfl) (fun c hc => absurd hc (by omega)) hp⟩
