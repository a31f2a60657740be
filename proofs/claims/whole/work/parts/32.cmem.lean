/-! the class's Memory -/
def sameC (M M' : Mem) : Prop := ∀ a, a ≤ 17 ∨ 25 ≤ a → M' a = M a
theorem sameC.rf (M : Mem) : sameC M M := fun _ _ => rfl
theorem sameC.tr {M M' M'' : Mem} (h : sameC M M') (h' : sameC M' M'') : sameC M M'' := fun a ha => (h' a ha).trans (h a ha)
theorem sameC.up {M M' : Mem} (h : sameC M M') {k j : Nat} {v : Int32} (hk : 18 ≤ k ∧ k ≤ 24) : sameC M (up2 M' k j v) := fun a ha => (up2_n M' j v (by omega)).trans (h a ha)
theorem sameC.rep {S : AS} {M M' : Mem} (h : sameC M M') (hr : repC S M) : repC S M' := hr.of (fun a ha => h a (Or.inl ha))
theorem isForg_loop {S : AS} {M : Mem} (hw : wf S) (hr : repC S M) {c k d : Nat} (hc : c < S 0 0) (hk : k < S 0 2) (hd : d < 20) {post : Int32 → Mem → Prop} (hp : post (b2i (forg S c k d)) M) :
    ∀ (m i : Nat), i + m = S 0 3 → (∀ j, j < i → (decide (S 9 j = c) && (decide (S 8 j = S 5 k) && (decide (S 4 k ≤ S 7 j) && decide (S 7 j < d)))) = false) → lp_X1_isForgiven_3 (nI c) (nI k) (nI d) post (m + 1) (nI i) M := by
  obtain ⟨⟨w1, w2, w3, w4, w5, w6⟩, wc, ws, wb, wr⟩ := hw
  obtain ⟨⟨r1, r2, r3, r4, r5⟩, rc, rs, rb, rr⟩ := hr
  have hk8 : k < 8 := by omega
  intro m
  induction m with
  | zero =>
    intro i hi hn
    unfold lp_X1_isForgiven_3
    rw [r4]
    refine ⟨fun _ => ?_, fun h => absurd ((leI (by omega) (by omega)).mpr (by omega)) h⟩
    have e : forg S c k d = false := anyB_f (fun j hj => hn j (by omega))
    rw [e] at hp
    exact hp
  | succ m ih =>
    intro i hi hn
    have hib : i < S 0 3 := by omega
    obtain ⟨b1, b2, b3⟩ := rb i hib
    obtain ⟨v1, v2, v3⟩ := wb i hib
    obtain ⟨s1, s2, s3⟩ := rs k hk
    obtain ⟨u1, u2, u3⟩ := ws k hk
    have hnext : (decide (S 9 i = c) && (decide (S 8 i = S 5 k) && (decide (S 4 k ≤ S 7 i) && decide (S 7 i < d)))) = false → lp_X1_isForgiven_3 (nI c) (nI k) (nI d) post (m + 1) (nI i + 1) M := by
      intro hf
      rw [addI1]
      refine ih (i + 1) (by omega) (fun j hj => ?_)
      rcases Nat.lt_or_ge j i with q | q
      · exact hn j q
      · have : j = i := by omega
        subst this
        exact hf
    unfold lp_X1_isForgiven_3
    rw [r4, cl (show i < 2147483648 by omega), cl (show k < 2147483648 by omega), b1, b2, b3, s1, s2]
    refine ⟨fun h => absurd ((leI (by omega) (by omega)).mp h) (by omega), fun _ => ⟨inI (by omega) (by decide), fun h => hnext ?_, fun h => ⟨inI (by omega) (by decide), inI hk8 (by decide), fun h2 => hnext ?_, fun h2 => ⟨inI (by omega) (by decide), inI hk8 (by decide), fun h3 => hnext ?_, fun h3 => ⟨inI (by omega) (by decide), fun h4 => hnext ?_, fun h4 => ?_⟩⟩⟩⟩⟩
    · rw [eqI (by omega) (by omega)] at h
      simp [h]
    · rw [eqI (by omega) (by omega)] at h2
      simp [h2]
    · rw [ltI (by omega) (by omega)] at h3
      simp [show ¬ S 4 k ≤ S 7 i by omega]
    · rw [leI (by omega) (by omega)] at h4
      simp [show ¬ S 7 i < d by omega]
    · rw [eqI (by omega) (by omega)] at h
      rw [eqI (by omega) (by omega)] at h2
      rw [ltI (by omega) (by omega)] at h3
      rw [leI (by omega) (by omega)] at h4
      have e : forg S c k d = true := anyB_t hib (by simp [h, h2, show S 4 k ≤ S 7 i by omega, show S 7 i < d by omega])
      rw [e] at hp
      exact hp
theorem isForg_ok {S : AS} {M : Mem} (hw : wf S) (hr : repC S M) {c k d : Nat} (hc : c < S 0 0) (hk : k < S 0 2) (hd : d < 20) {post : Int32 → Mem → Prop} (hp : post (b2i (forg S c k d)) M) : wp_X1_isForgiven (nI c) (nI k) (nI d) M post :=
  ⟨S 0 3 + 1, isForg_loop hw hr hc hk hd hp (S 0 3) 0 (by omega) (fun j hj => absurd hj (by omega))⟩
theorem abs_dst : ∀ a : Fin 5, ∀ b : Fin 5, (0 ≤ nI a.val - nI b.val → nI a.val - nI b.val = nI (dst a.val b.val)) ∧ (¬ 0 ≤ nI a.val - nI b.val → -(nI a.val - nI b.val) = nI (dst a.val b.val)) := by decide +kernel
theorem abs_ok {a b : Nat} (ha : a < 5) (hb : b < 5) {M : Mem} {post : Int32 → Mem → Prop} (hp : post (nI (dst a b)) M) : wp_J9_abs_0f7a4 (nI a - nI b) M post := by
  obtain ⟨h1, h2⟩ := abs_dst ⟨a, ha⟩ ⟨b, hb⟩
  exact ⟨fun h => by rw [h1 h]; exact hp, fun h => by rw [h2 h]; exact hp⟩
theorem sub_cmp : ∀ d : Fin 20, ∀ s : Fin 20, ∀ f : Fin 19, ((nI d.val - nI s.val < 1) ↔ ¬ s.val + 1 ≤ d.val) ∧ ((nI f.val < nI d.val - nI s.val) ↔ ¬ d.val ≤ s.val + f.val) := by decide +kernel
theorem dst_lt {a b : Nat} (ha : a < 5) (hb : b < 5) : dst a b < 5 := by unfold dst; split <;> omega
theorem isHeld_ok {S : AS} {M : Mem} (hw : wf S) (hr : repC S M) {c k d : Nat} (hc : c < S 0 0) (hk : k < S 0 2) (hd : d < 20) {post : Int32 → Mem → Prop} (hp : post (b2i (heldS S c k d)) M) : wp_X1_isHeld (nI c) (nI k) (nI d) M post := by
  have hw0 := hw
  have hr0 := hr
  obtain ⟨⟨w1, w2, w3, w4, w5, w6⟩, wc, ws, wb, wr⟩ := hw
  obtain ⟨⟨r1, r2, r3, r4, r5⟩, rc, rs, rb, rr⟩ := hr
  obtain ⟨s1, s2, s3⟩ := rs k hk
  obtain ⟨u1, u2, u3⟩ := ws k hk
  obtain ⟨k1, k2, k3⟩ := rc c hc
  obtain ⟨l1, l2, l3⟩ := wc c hc
  have hk8 : k < 8 := by omega
  have hc5 : c < 5 := by omega
  have hfar : farS S c < 19 := by unfold farS; split <;> omega
  have join : jn_X1_isHeld_49 (nI c) (nI k) (nI d) post (nI d - nI (S 4 k)) (nI (farS S c)) M := by
    obtain ⟨q1, q2⟩ := sub_cmp ⟨d, hd⟩ ⟨S 4 k, u1⟩ ⟨farS S c, hfar⟩
    dsimp only at q1 q2
    unfold jn_X1_isHeld_49
    rw [q1, q2, cl (show k < 2147483648 by omega), cl (show c < 2147483648 by omega), s3]
    refine ⟨fun h => ?_, fun h => ⟨fun h2 => ?_, fun h2 => ⟨inI hk8 (by decide), abs_ok hc5 (by omega) ⟨inI hc5 (by decide), fun h3 => ?_, fun h3 => isForg_ok hw0 hr0 hc hk hd ⟨fun h4 => ?_, fun h4 => ?_⟩⟩⟩⟩⟩
    · have e : heldS S c k d = false := by simp [heldS, h]
      rw [e] at hp; exact hp
    · have e : heldS S c k d = false := by simp [heldS, h2]
      rw [e] at hp; exact hp
    · rw [k2, ltI (by omega) (by have := dst_lt hc5 (show S 6 k < 5 by omega); omega)] at h3
      have e : heldS S c k d = false := by simp [heldS, show ¬ dst c (S 6 k) ≤ S 2 c by omega]
      rw [e] at hp; exact hp
    · have e : heldS S c k d = false := by simp [heldS, b2i_nz.mp h4]
      rw [e] at hp; exact hp
    · rw [k2, ltI (by omega) (by have := dst_lt hc5 (show S 6 k < 5 by omega); omega)] at h3
      have e : heldS S c k d = true := by
        have a1 : S 4 k + 1 ≤ d := by omega
        have a2 : d ≤ S 4 k + farS S c := by omega
        have a3 : dst c (S 6 k) ≤ S 2 c := by omega
        simp [heldS, b2i_z.mp h4, a1, a2, a3]
      rw [e] at hp; exact hp
  unfold wp_X1_isHeld
  rw [cl (show k < 2147483648 by omega), cl (show c < 2147483648 by omega), s1, k1, k3]
  refine ⟨inI hk8 (by decide), fun v hv => ⟨inI hc5 (by decide), fun h => ⟨inI hc5 (by decide), ?_⟩, fun h => ⟨inI hc5 (by decide), ?_⟩⟩⟩
  · subst hv
    rw [show (2 : Int32) = nI 2 from rfl, eqI (by omega) (by decide)] at h
    have e : farS S c = S 3 c := if_neg h
    rw [e] at join
    exact join
  · subst hv
    rw [show (2 : Int32) = nI 2 from rfl, eqI (by omega) (by decide)] at h
    have e : farS S c = 2 * S 3 c := if_pos h
    rw [e] at join
    rw [show (2 : Int32) = nI 2 from rfl, pk_mul]
    exact join
/-- what recall lays -/
def heldN (S : AS) (d c : Nat) : Nat := bset (fun k => heldS S c k d) (S 0 2)
theorem recall_in {S : AS} {M0 : Mem} (hw : wf S) (hr : repC S M0) {d c : Nat} (hc : c < S 0 0) (hd : d < 20) {post : Mem → Prop} {B : Int32 → Mem → Prop} :
    ∀ (m i : Nat) (M : Mem), i + m = S 0 2 → sameC M0 M → M 19 c = nI (bset (fun k => heldS S c k d) i) →
    (∀ M', sameC M0 M' → (∀ a, a ≠ 19 → M' a = M a) → (∀ j, j ≠ c → M' 19 j = M 19 j) → M' 19 c = nI (heldN S d c) → B (nI (c + 1)) M') →
    lp_X1_recall_22 (nI d) post B (m + 1) (nI c) (nI i) M := by
  have hw0 := hw
  obtain ⟨⟨w1, w2, w3, w4, w5, w6⟩, wc, ws, wb, wr⟩ := hw
  have hc5 : c < 5 := by omega
  intro m
  induction m with
  | zero =>
    intro i M hi hs hh hB
    have hr' := hs.rep hr
    unfold lp_X1_recall_22
    rw [hr'.1.2.2.1]
    refine ⟨fun _ => ?_, fun h => absurd ((leI (by omega) (by omega)).mpr (by omega)) h⟩
    rw [addI1]
    refine hB M hs (fun _ _ => rfl) (fun _ _ => rfl) ?_
    rw [hh, show i = S 0 2 by omega]
    rfl
  | succ m ih =>
    intro i M hi hs hh hB
    have hr' := hs.rep hr
    unfold lp_X1_recall_22
    rw [hr'.1.2.2.1]
    refine ⟨fun h => absurd ((leI (by omega) (by omega)).mp h) (by omega), fun _ => isHeld_ok hw0 hr' hc (by omega) hd ⟨fun h => ?_, fun h => ⟨inI hc5 (by decide), inI hc5 (by decide), fun M4 h4 => ?_⟩⟩⟩
    · rw [addI1]
      refine ih (i + 1) M (by omega) hs ?_ hB
      rw [hh]
      exact congrArg nI (bset_noI (fun k => heldS S c k d) (b2i_z.mp h)).symm
    · rw [addI1]
      rw [cl (show c < 2147483648 by omega)] at h4
      subst h4
      refine ih (i + 1) _ (by omega) (hs.up (by decide)) ?_ ?_
      · rw [up2_s, upd_s, hh, shl1 (by omega)]
        exact bset_orI (fun k => heldS S c k d) (b2i_nz.mp h)
      · intro M' a1 a2 a3 a4
        refine hB M' a1 (fun a ha => (a2 a ha).trans (up2_n M _ _ ha)) (fun j hj => (a3 j hj).trans ?_) a4
        rw [up2_s, upd_n _ _ hj]
theorem recall_out {S : AS} {M0 : Mem} (hw : wf S) (hr : repC S M0) {d : Nat} (hd : d < 20) {post : Mem → Prop} :
    ∀ (m i : Nat) (M : Mem), i + m = S 0 0 → sameC M0 M → (∀ a, a ≠ 19 → M a = M0 a) → (∀ c, c < i → M 19 c = nI (heldN S d c)) →
    (∀ M', sameC M0 M' → (∀ a, a ≠ 19 → M' a = M0 a) → (∀ c, c < S 0 0 → M' 19 c = nI (heldN S d c)) → post M') →
    lp_X1_recall_2 (nI d) post (m + 1) (nI i) M := by
  have hw0 := hw
  obtain ⟨⟨w1, w2, w3, w4, w5, w6⟩, wc, ws, wb, wr⟩ := hw
  intro m
  induction m with
  | zero =>
    intro i M hi hs h19 hh hB
    unfold lp_X1_recall_2
    rw [(hs.rep hr).1.1]
    refine ⟨fun _ => hB M hs h19 (fun c hc => hh c (by omega)), fun h => absurd ((leI (by omega) (by omega)).mpr (by omega)) h⟩
  | succ m ih =>
    intro i M hi hs h19 hh hB
    unfold lp_X1_recall_2
    rw [(hs.rep hr).1.1]
    refine ⟨fun h => absurd ((leI (by omega) (by omega)).mp h) (by omega), fun _ => ⟨inI (by omega) (by decide), fun M1 h1 => ⟨S 0 2 + 1, ?_⟩⟩⟩
    rw [cl (show i < 2147483648 by omega)] at h1
    subst h1
    refine recall_in hw0 hr (by omega) hd (S 0 2) 0 _ (by omega) (hs.up (by decide)) ?_ ?_
    · rw [up2_s, upd_s]; rfl
    · intro M' a1 a2 a3 a4
      refine ih (i + 1) M' (by omega) a1 (fun a ha => (a2 a ha).trans ((up2_n M _ _ ha).trans (h19 a ha))) (fun c hc => ?_) hB
      by_cases e : c = i
      · subst e; exact a4
      · rw [a3 c e, up2_s, upd_n _ _ e]
        exact hh c (by omega)
theorem recall_ok {S : AS} {M : Mem} (hw : wf S) (hr : repC S M) {d : Nat} (hd : d < 20) {post : Mem → Prop} (hp : ∀ M', sameC M M' → (∀ a, a ≠ 19 → M' a = M a) → (∀ c, c < S 0 0 → M' 19 c = nI (heldN S d c)) → post M') : wp_X1_recall (nI d) M post :=
  ⟨S 0 0 + 1, recall_out hw hr hd (S 0 0) 0 M (by omega) (sameC.rf M) (fun _ _ => rfl) (fun c hc => absurd hc (by omega)) hp⟩
theorem bset_addI (p : Nat → Bool) {n g0 : Nat} (h : g0 < n) : nI (bset p n) ||| nI (2 ^ g0) = nI (bset (fun g => p g || decide (g = g0)) n) := by
  rw [fa_or]
  congr 1
  apply Nat.eq_of_testBit_eq
  intro i
  rw [Nat.testBit_or, bset_bit, bset_bit, Nat.testBit_two_pow]
  by_cases hi : i < n
  · by_cases e : g0 = i
    · simp [hi, e]
    · simp [hi, e, show ¬ i = g0 from fun q => e q.symm]
  · have e : ¬ g0 = i := by omega
    simp [hi, e]
theorem bset_or2 (p q : Nat → Bool) (n : Nat) : nI (bset p n) ||| nI (bset q n) = nI (bset (fun g => p g || q g) n) := by
  rw [fa_or]
  congr 1
  apply Nat.eq_of_testBit_eq
  intro i
  rw [Nat.testBit_or, bset_bit, bset_bit, bset_bit]
  cases decide (i < n) <;> simp
theorem bset_zero {p : Nat → Bool} : ∀ {n : Nat}, (∀ j, j < n → p j = false) → bset p n = 0
  | 0, _ => rfl
  | n + 1, h => by
    simp only [bset]
    rw [bset_zero (fun j hj => h j (by omega)), h n (by omega)]
    rfl
theorem bset_not (p : Nat → Bool) : ∀ n, bset (fun g => !p g) n = 2 ^ n - 1 - bset p n
  | 0 => by simp [bset]
  | n + 1 => by
    have h := bset_not p n
    have hl := bset_lt p n
    simp only [bset, h]
    rw [Nat.pow_succ]
    by_cases hq : p n = true
    · simp [hq]; omega
    · simp [hq]; omega
theorem cmpl : ∀ n : Fin 6, ∀ a : Fin 32, a.val < 2 ^ n.val → nI (2 ^ n.val - 1) &&& (nI a.val ^^^ (-1)) = nI (2 ^ n.val - 1 - a.val) := by decide +kernel
theorem cmplI (p : Nat → Bool) {n : Nat} (hn : n ≤ 5) : nI (2 ^ n - 1) &&& (nI (bset p n) ^^^ (-1)) = nI (bset (fun g => !p g) n) := by
  have hl := bset_lt p n
  have h5 := pow5 hn
  rw [bset_not, cmpl ⟨n, by omega⟩ ⟨bset p n, by omega⟩ hl]
theorem guestsOf_loop {S : AS} {M : Mem} (hw : wf S) (hr : repC S M) {x : Nat} (hx : x < 256) {post : Int32 → Mem → Prop} (hp : post (nI (bset (fun g => anyB (fun k => x.testBit k && decide (S 5 k = g)) (S 0 2)) (S 0 1))) M) :
    ∀ (m i : Nat), i + m = S 0 2 → lp_X1_guestsOf_4 (nI x) post (m + 1) (nI (bset (fun g => anyB (fun k => x.testBit k && decide (S 5 k = g)) i) (S 0 1))) (nI i) M := by
  obtain ⟨⟨w1, w2, w3, w4, w5, w6⟩, wc, ws, wb, wr⟩ := hw
  obtain ⟨⟨r1, r2, r3, r4, r5⟩, rc, rs, rb, rr⟩ := hr
  intro m
  induction m with
  | zero =>
    intro i hi
    unfold lp_X1_guestsOf_4
    rw [r3]
    refine ⟨fun _ => ?_, fun h => absurd ((leI (by omega) (by omega)).mpr (by omega)) h⟩
    rw [show i = S 0 2 by omega]
    exact hp
  | succ m ih =>
    intro i hi
    obtain ⟨s1, s2, s3⟩ := rs i (by omega)
    obtain ⟨u1, u2, u3⟩ := ws i (by omega)
    unfold lp_X1_guestsOf_4
    rw [r3, bitZ (by omega) (by omega), cl (show i < 2147483648 by omega), s2]
    refine ⟨fun h => absurd ((leI (by omega) (by omega)).mp h) (by omega), fun _ => ⟨fun h => ?_, fun h => ⟨inI (by omega) (by decide), fun v hv => ?_⟩⟩⟩
    · rw [addI1]
      have e : bset (fun g => anyB (fun k => x.testBit k && decide (S 5 k = g)) i) (S 0 1) = bset (fun g => anyB (fun k => x.testBit k && decide (S 5 k = g)) (i + 1)) (S 0 1) := bset_cong (fun g _ => by simp [anyB, h])
      rw [e]
      exact ih (i + 1) (by omega)
    · rw [addI1]
      subst hv
      rw [shl1 (by omega), bset_addI _ u2]
      have ht : x.testBit i = true := by cases q : x.testBit i with
        | true => rfl
        | false => exact absurd q h
      have e : bset (fun g => anyB (fun k => x.testBit k && decide (S 5 k = g)) i || decide (g = S 5 i)) (S 0 1) = bset (fun g => anyB (fun k => x.testBit k && decide (S 5 k = g)) (i + 1)) (S 0 1) := bset_cong (fun g _ => by simp [anyB, ht, eq_comm])
      rw [e]
      exact ih (i + 1) (by omega)
theorem guestsOf_ok {S : AS} {M : Mem} (hw : wf S) (hr : repC S M) {x : Nat} (hx : x < 256) {post : Int32 → Mem → Prop} (hp : post (nI (bset (fun g => anyB (fun k => x.testBit k && decide (S 5 k = g)) (S 0 2)) (S 0 1))) M) : wp_X1_guestsOf (nI x) M post := by
  have h := guestsOf_loop hw hr hx hp (S 0 2) 0 (by omega)
  have e : bset (fun g => anyB (fun k => x.testBit k && decide (S 5 k = g)) 0) (S 0 1) = 0 := bset_zero (fun _ _ => rfl)
  rw [e] at h
  exact ⟨S 0 2 + 1, h⟩
def mindN (S : AS) (mk : Nat → Bool) (fr d c : Nat) : Nat := bset (fun g => mindS S mk fr c g d) (S 0 1)
def bearN (S : AS) (mk : Nat → Bool) (fr d c : Nat) : Nat := bset (fun g => bearS S mk fr c g d) (S 0 1)
def benP (S : AS) (mk : Nat → Bool) (fr d : Nat) (i : Nat) (g : Nat) : Bool := anyB (fun x => decide (S 1 x = 1) && mindS S mk fr x g d) i
/-- the mask of the slips that were made -/
def maskOK (p : Int32) (mk : Nat → Bool) : Prop := ∀ x, x < 256 → ∃ y, nI x &&& p = nI y ∧ y < 256 ∧ ∀ k, k < 8 → y.testBit k = (x.testBit k && mk k)
theorem judge1 {S : AS} {M0 : Mem} (hw : wf S) (hr : repC S M0) {d : Nat} {p1 p2 : Int32} {mk : Nat → Bool} {fr : Nat} (hm : maskOK p1 mk) (hf : ∀ c, c < 5 → (nI c = p2 ↔ c = fr)) (h19 : ∀ c, c < S 0 0 → M0 19 c = nI (heldN S d c)) {post : Mem → Prop}
    (hx : ∀ M', sameC M0 M' → (∀ a, a ≠ 20 → M' a = M0 a) → (∀ c, c < S 0 0 → M' 20 c = nI (mindN S mk fr d c)) → ∃ k, lp_X1_judge_93 p1 p2 post k (nI (bset (benP S mk fr d (S 0 0)) (S 0 1))) (nI (2 ^ S 0 1 - 1)) 0 M') :
    ∀ (m i : Nat) (M : Mem), i + m = S 0 0 → sameC M0 M → (∀ a, a ≠ 20 → M a = M0 a) → (∀ c, c < i → M 20 c = nI (mindN S mk fr d c)) → lp_X1_judge_5 p1 p2 post (m + 1) (nI (bset (benP S mk fr d i) (S 0 1))) (nI i) M := by
  have hw0 := hw
  obtain ⟨⟨w1, w2, w3, w4, w5, w6⟩, wc, ws, wb, wr⟩ := hw
  intro m
  induction m with
  | zero =>
    intro i M hi hs h20 hh
    have hr' := hs.rep hr
    unfold lp_X1_judge_5
    rw [hr'.1.1, hr'.1.2.1]
    refine ⟨fun _ v hv => ?_, fun h => absurd ((leI (by omega) (by omega)).mpr (by omega)) h⟩
    have hi2 : i = S 0 0 := by omega
    subst hi2
    rw [shl1 (by omega), show (1 : Int32) = nI 1 from rfl, subI (Nat.one_le_two_pow)] at hv
    subst hv
    exact hx M hs h20 hh
  | succ m ih =>
    intro i M hi hs h20 hh
    have hr' := hs.rep hr
    have hi5 : i < 5 := by omega
    have hi0 : i < S 0 0 := by omega
    obtain ⟨k1, k2, k3⟩ := hr'.2.1 i hi0
    obtain ⟨l1, l2, l3⟩ := wc i hi0
    have jn : ∀ M1, sameC M0 M1 → (∀ a, a ≠ 20 → M1 a = M0 a) → (∀ c, c < i → M1 20 c = nI (mindN S mk fr d c)) → jn_X1_judge_46 p1 p2 post (fun y3 y4 M' => lp_X1_judge_5 p1 p2 post (m + 1) y3 y4 M') (nI (bset (benP S mk fr d i) (S 0 1))) (nI i) (nI (mindN S mk fr d i)) (nI i) M1 := by
      intro M1 hs1 h201 hh1
      have hr1 := hs1.rep hr
      obtain ⟨k1, k2, k3⟩ := hr1.2.1 i hi0
      unfold jn_X1_judge_46
      rw [cl (show i < 2147483648 by omega)]
      refine ⟨inI hi5 (by decide), fun M6 h6 => ⟨inI hi5 (by decide), fun h => ?_, fun h => ⟨inI hi5 (by decide), fun v hv => ?_⟩⟩⟩
      · subst h6
        rw [up2_n _ _ _ (by decide), k1, show (1 : Int32) = nI 1 from rfl, eqI (by omega) (by decide)] at h
        rw [addI1]
        have e : bset (benP S mk fr d i) (S 0 1) = bset (benP S mk fr d (i + 1)) (S 0 1) := bset_cong (fun g _ => by simp [benP, anyB, h])
        rw [e]
        refine ih (i + 1) _ (by omega) (hs1.up (by decide)) (fun a ha => (up2_n M1 _ _ ha).trans (h201 a ha)) (fun c hc => ?_)
        rw [up2_s]
        by_cases q : c = i
        · subst q; rw [upd_s]
        · rw [upd_n _ _ q]; exact hh1 c (by omega)
      · subst h6
        rw [up2_n _ _ _ (by decide), k1, show (1 : Int32) = nI 1 from rfl, eqI (by omega) (by decide)] at h
        rw [up2_s, upd_s] at hv
        subst hv
        rw [addI1]
        unfold mindN
        rw [bset_or2]
        have e : bset (fun g => benP S mk fr d i g || mindS S mk fr i g d) (S 0 1) = bset (benP S mk fr d (i + 1)) (S 0 1) := bset_cong (fun g _ => by simp [benP, anyB, h])
        rw [e]
        refine ih (i + 1) _ (by omega) (hs1.up (by decide)) (fun a ha => (up2_n M1 _ _ ha).trans (h201 a ha)) (fun c hc => ?_)
        rw [up2_s]
        by_cases q : c = i
        · subst q; rw [upd_s]; rfl
        · rw [upd_n _ _ q]; exact hh1 c (by omega)
    unfold lp_X1_judge_5
    rw [hr'.1.1, cl (show i < 2147483648 by omega), hf i hi5]
    refine ⟨fun h => absurd ((leI (by omega) (by omega)).mp h) (by omega), fun _ => ⟨fun h => ⟨inI hi5 (by decide), ?_⟩, fun h => ?_⟩⟩
    · have h19' : M 19 i = nI (heldN S d i) := by rw [h20 19 (by decide)]; exact h19 i hi0
      have hl : heldN S d i < 256 := Nat.lt_of_lt_of_le (bset_lt _ _) (pow_small w3)
      obtain ⟨y, y1, y2, y3⟩ := hm (heldN S d i) hl
      rw [h19', y1]
      refine guestsOf_ok hw0 hr' y2 ?_
      have e : bset (fun g => anyB (fun k => y.testBit k && decide (S 5 k = g)) (S 0 2)) (S 0 1) = mindN S mk fr d i := by
        unfold mindN
        refine bset_cong (fun g _ => ?_)
        unfold mindS
        rw [show decide (i = fr) = false by simp [h], Bool.not_false, Bool.true_and]
        refine anyB_cong (fun k hk => ?_)
        rw [y3 k (by omega)]
        unfold heldN
        rw [bset_in hk]
        cases mk k <;> cases heldS S i k d <;> simp
      rw [e]
      exact jn M hs h20 hh
    · have e : mindN S mk fr d i = 0 := by
        unfold mindN
        exact bset_zero (fun g _ => by simp [mindS, h])
      have := jn M hs h20 hh
      rw [e] at this
      exact this
theorem judge2 {S : AS} {M0 : Mem} (hw : wf S) (hr : repC S M0) {d : Nat} {p1 p2 : Int32} {mk : Nat → Bool} {fr : Nat} (hf : ∀ c, c < 5 → (nI c = p2 ↔ c = fr)) (h20 : ∀ c, c < S 0 0 → M0 20 c = nI (mindN S mk fr d c)) {post : Mem → Prop}
    (hx : ∀ M', sameC M0 M' → (∀ a, a ≠ 21 → M' a = M0 a) → (∀ c, c < S 0 0 → M' 21 c = nI (bearN S mk fr d c)) → post M') :
    ∀ (m i : Nat) (M : Mem), i + m = S 0 0 → sameC M0 M → (∀ a, a ≠ 21 → M a = M0 a) → (∀ c, c < i → M 21 c = nI (bearN S mk fr d c)) → lp_X1_judge_93 p1 p2 post (m + 1) (nI (bset (benP S mk fr d (S 0 0)) (S 0 1))) (nI (2 ^ S 0 1 - 1)) (nI i) M := by
  have hw0 := hw
  obtain ⟨⟨w1, w2, w3, w4, w5, w6⟩, wc, ws, wb, wr⟩ := hw
  intro m
  induction m with
  | zero =>
    intro i M hi hs h21 hh
    unfold lp_X1_judge_93
    rw [(hs.rep hr).1.1]
    exact ⟨fun _ => hx M hs h21 (fun c hc => hh c (by omega)), fun h => absurd ((leI (by omega) (by omega)).mpr (by omega)) h⟩
  | succ m ih =>
    intro i M hi hs h21 hh
    have hr' := hs.rep hr
    have hi5 : i < 5 := by omega
    have hi0 : i < S 0 0 := by omega
    obtain ⟨k1, k2, k3⟩ := hr'.2.1 i hi0
    obtain ⟨l1, l2, l3⟩ := wc i hi0
    have h20i : M 20 i = nI (mindN S mk fr d i) := by rw [h21 20 (by decide)]; exact h20 i hi0
    have last : ∀ q : Nat → Bool, (∀ g, g < S 0 1 → (!q g) = bearS S mk fr i g d) → jn_X1_judge_156 p1 p2 post (fun y3 y4 y5 M' => lp_X1_judge_93 p1 p2 post (m + 1) y3 y4 y5 M') (nI (bset (benP S mk fr d (S 0 0)) (S 0 1))) (nI (2 ^ S 0 1 - 1)) (nI i) (nI (bset q (S 0 1))) (nI (2 ^ S 0 1 - 1)) (nI i) M := by
      intro q hq
      unfold jn_X1_judge_156
      rw [cl (show i < 2147483648 by omega), cmplI q w2, addI1]
      refine ⟨inI hi5 (by decide), fun M2 h2 => ?_⟩
      subst h2
      refine ih (i + 1) _ (by omega) (hs.up (by decide)) (fun a ha => (up2_n M _ _ ha).trans (h21 a ha)) (fun c hc => ?_)
      rw [up2_s]
      by_cases e : c = i
      · subst e
        rw [upd_s]
        exact congrArg nI (bset_cong hq)
      · rw [upd_n _ _ e]
        exact hh c (by omega)
    have j0 : (i = fr ∨ ¬ S 1 i = 1) → jn_X1_judge_129 p1 p2 post (fun y3 y4 y5 M' => lp_X1_judge_93 p1 p2 post (m + 1) y3 y4 y5 M') (nI (bset (benP S mk fr d (S 0 0)) (S 0 1))) (nI (2 ^ S 0 1 - 1)) (nI i) M := by
      intro hor
      unfold jn_X1_judge_129 jn_X1_judge_130
      rw [cl (show i < 2147483648 by omega), h20i]
      refine ⟨fun _ => ⟨inI hi5 (by decide), last _ (fun g _ => ?_)⟩, fun h => absurd rfl h⟩
      by_cases e : i = fr
      · simp [bearS, mindS, e]
      · have e2 : ¬ S 1 i = 1 := hor.resolve_left e
        simp [bearS, e, e2]
    unfold lp_X1_judge_93
    rw [hr'.1.1, cl (show i < 2147483648 by omega), k1, hf i hi5]
    refine ⟨fun h => absurd ((leI (by omega) (by omega)).mp h) (by omega), fun _ => ⟨inI hi5 (by decide), fun h => ?_, fun h => ⟨fun h2 => j0 (Or.inl h2), fun h2 => ?_⟩⟩⟩
    · rw [show (1 : Int32) = nI 1 from rfl, eqI (by omega) (by decide)] at h
      exact j0 (Or.inr h)
    · rw [show (1 : Int32) = nI 1 from rfl, eqI (by omega) (by decide)] at h
      unfold jn_X1_judge_130
      refine ⟨fun q => absurd q (by decide), fun _ => last _ (fun g _ => ?_)⟩
      simp [bearS, h2, h, benP]
theorem judge_ok {S : AS} {M : Mem} (hw : wf S) (hr : repC S M) {d : Nat} {p1 p2 : Int32} {mk : Nat → Bool} {fr : Nat} (hm : maskOK p1 mk) (hf : ∀ c, c < 5 → (nI c = p2 ↔ c = fr)) (h19 : ∀ c, c < S 0 0 → M 19 c = nI (heldN S d c)) {post : Mem → Prop}
    (hx : ∀ M', sameC M M' → M' 19 = M 19 → (∀ c, c < S 0 0 → M' 21 c = nI (bearN S mk fr d c)) → post M') : wp_X1_judge p1 p2 M post := by
  refine ⟨S 0 0 + 1, ?_⟩
  have h := judge1 hw hr hm hf h19 (post := post) (fun M1 a1 a2 a3 => ⟨S 0 0 + 1, judge2 hw (a1.rep hr) hf a3 (fun M2 b1 b2 b3 => hx M2 (a1.tr b1) ((b2 19 (by decide)).trans (a2 19 (by decide))) b3) (S 0 0) 0 M1 (by omega) (sameC.rf M1) (fun _ _ => rfl) (fun c hc => absurd hc (by omega))⟩) (S 0 0) 0 M (by omega) (sameC.rf M) (fun _ _ => rfl) (fun c hc => absurd hc (by omega))
  have e : bset (benP S mk fr d 0) (S 0 1) = 0 := bset_zero (fun _ _ => rfl)
  rw [e] at h
  exact h
theorem mask_all : maskOK (-1) (fun _ => true) := by
  intro x hx
  refine ⟨x, ?_, hx, fun k _ => by simp⟩
  apply Int32.toBitVec_inj.1
  show (nI x).toBitVec &&& (BitVec.allOnes 32) = (nI x).toBitVec
  exact BitVec.and_allOnes
theorem fr_none : ∀ c, c < 5 → (nI c = (-1 : Int32) ↔ c = 9) := by
  intro c hc
  have h : ∀ j : Fin 5, ¬ nI j.val = (-1 : Int32) := by decide +kernel
  exact ⟨fun e => absurd e (h ⟨c, hc⟩), fun e => by omega⟩
/-- as all slips were made, and no chair forgets -/
abbrev bearA (S : AS) (d c : Nat) : Nat := bearN S (fun _ => true) 9 d c
theorem judgeDinner_ok {S : AS} {M : Mem} (hw : wf S) (hr : repC S M) {d : Nat} (hd : d < 20) {post : Mem → Prop} (hx : ∀ M', sameC M M' → (∀ c, c < S 0 0 → M' 19 c = nI (heldN S d c)) → (∀ c, c < S 0 0 → M' 21 c = nI (bearA S d c)) → post M') : wp_X1_judgeDinner (nI d) M post :=
  recall_ok hw hr hd (fun M1 a1 _ a3 => judge_ok hw (a1.rep hr) mask_all fr_none a3 (fun M2 b1 b2 b3 => hx M2 (a1.tr b1) (fun c hc => by rw [b2]; exact a3 c hc) b3))
