/-! what holds between two calls: the class's cells and the reference's tell the same -/
def sheetR (M : Mem) (k : Nat) : Prop := (M 35 k = -9 ∧ M (26 + k) 2 = -1) ∨ ∃ ln len, ln ≤ 2 ∧ len ≤ 60 ∧ M 35 k = nI ln ∧ M (26 + k) 1 = nI ln ∧ M 36 k = nI len ∧ M (26 + k) 2 = nI len ∧ ∀ j, j < 60 → M (30 + k) j = M 37 (60 * k + j)
def restR (M : Mem) : Prop := (∀ k, k < 4 → sheetR M k) ∧ M 0 8 = M 34 1 ∧ M 0 9 = M 34 0 ∧ M 34 18 = 0 ∧ M 34 19 = -9
def Inv (M : Mem) : Prop := (∃ S, wf S ∧ repC S M ∧ repM S M) ∧ restR M
def StpI (wX wM : Mem → (Int32 → Mem → Prop) → Prop) (M : Mem) : Prop := ∀ post : Int32 → Mem → Prop, (∀ r M1, (∀ post' : Int32 → Mem → Prop, (∀ M2, Inv M2 → post' r M2) → wM M1 post') → post r M1) → wX M post
def StpJ (wX wM : Mem → (Int64 → Mem → Prop) → Prop) (M : Mem) : Prop := ∀ post : Int64 → Mem → Prop, (∀ r M1, (∀ post' : Int64 → Mem → Prop, (∀ M2, Inv M2 → post' r M2) → wM M1 post') → post r M1) → wX M post
theorem sheetR.of {M M' : Mem} {k : Nat} (h : sheetR M k) (hk : k < 4) (e : ∀ a, 26 ≤ a ∧ a ≤ 33 ∨ 35 ≤ a ∧ a ≤ 37 → M' a = M a) : sheetR M' k := by
  unfold sheetR at *
  rw [e 35 (by decide), e 36 (by decide), e 37 (by decide), e (26 + k) (by omega), e (30 + k) (by omega)]
  exact h
theorem restR.of {M M' : Mem} (h : restR M) (e : ∀ a, a = 0 ∨ 26 ≤ a ∧ a ≤ 37 → M' a = M a) : restR M' := by
  obtain ⟨h1, h2⟩ := h
  refine ⟨fun k hk => (h1 k hk).of hk (fun a ha => e a (by omega)), ?_⟩
  rw [e 0 (by decide), e 34 (by decide)]
  exact h2
theorem Inv.C {M M' : Mem} (h : Inv M) (hs : sameC M M') : Inv M' := by
  obtain ⟨⟨S, a, b, c⟩, d⟩ := h
  exact ⟨⟨S, a, hs.rep b, c.of (fun a ha _ => hs a (by omega))⟩, d.of (fun a ha => hs a (by omega))⟩
theorem Inv.M {M M' : Mem} (h : Inv M) (hs : sameM M M') : Inv M' := by
  obtain ⟨⟨S, a, b, c⟩, d⟩ := h
  exact ⟨⟨S, a, b.of (fun a ha => hs a (by omega)), hs.rep c⟩, d.of (fun a ha => hs a (by omega))⟩
theorem b0A {A B : Prop} (a : A) : ((0 : Int32) = 0 → A) ∧ (¬ (0 : Int32) = 0 → B) := ⟨fun _ => a, fun h => absurd rfl h⟩
theorem b0B {A B : Prop} (a : A) : (¬ (0 : Int32) = 0 → B) ∧ ((0 : Int32) = 0 → A) := ⟨fun h => absurd rfl h, fun _ => a⟩
theorem b1A {A B : Prop} (b : B) : ((1 : Int32) = 0 → A) ∧ (¬ (1 : Int32) = 0 → B) := ⟨fun h => absurd h (by decide), fun _ => b⟩
theorem b1B {A B : Prop} (b : B) : (¬ (1 : Int32) = 0 → B) ∧ ((1 : Int32) = 0 → A) := ⟨fun _ => b, fun h => absurd h (by decide)⟩
theorem rng_no {p n : Int32} {A B : Prop} (h : p < 0 ∨ n ≤ p) (a : A) : (p < 0 → A) ∧ (¬ p < 0 → ((n ≤ p → A) ∧ (¬ n ≤ p → B))) := ⟨fun _ => a, fun h1 => ⟨fun _ => a, fun h2 => h.elim (fun z => absurd z h1) (fun z => absurd z h2)⟩⟩
theorem rng_yes {j n : Nat} {A B : Prop} (h : j < n) (hn : n < 2147483648) (b : B) : (nI j < 0 → A) ∧ (¬ nI j < 0 → ((nI n ≤ nI j → A) ∧ (¬ nI n ≤ nI j → B))) := ⟨fun q => absurd q (negI (by omega)), fun _ => ⟨fun q => absurd ((leI hn (by omega)).mp q) (by omega), fun _ => b⟩⟩
theorem wit_no {p lo hi : Int32} {A B : Prop} (h : p < lo ∨ hi < p) (a : A) : (p < lo → A) ∧ (¬ p < lo → ((hi < p → A) ∧ (¬ hi < p → B))) := ⟨fun _ => a, fun h1 => ⟨fun _ => a, fun h2 => h.elim (fun z => absurd z h1) (fun z => absurd z h2)⟩⟩
theorem wit_yes {p lo hi : Int32} {A B : Prop} (h1 : ¬ p < lo) (h2 : ¬ hi < p) (b : B) : (p < lo → A) ∧ (¬ p < lo → ((hi < p → A) ∧ (¬ hi < p → B))) := ⟨fun q => absurd q h1, fun _ => ⟨fun q => absurd q h2, fun _ => b⟩⟩
theorem lt_of_le1 {p : Int32} {n : Nat} (hn : n + 1 < 2147483648) (h : nI (n + 1) ≤ p) : nI n < p := by
  rw [fa_le, nI_toInt hn] at h
  rw [fa_lt, nI_toInt (by omega)]
  omega
theorem le_of_lt1 {p : Int32} {n : Nat} (hn : n + 1 < 2147483648) (h : nI n < p) : nI (n + 1) ≤ p := by
  rw [fa_lt, nI_toInt (by omega)] at h
  rw [fa_le, nI_toInt hn]
  omega
/-! guards -/
section Guards
variable {S : AS} {M : Mem} {post : Int32 → Mem → Prop}
theorem cChair_no (hr : repC S M) {p : Int32} (h : p < 0 ∨ nI (S 0 0) ≤ p) (hp : post 0 M) : wp_X0_hasChair p M post := by unfold wp_X0_hasChair; rw [hr.1.1]; exact rng_no h hp
theorem cChair_yes (hr : repC S M) (hw : wf S) {c : Nat} (h : c < S 0 0) (hp : post 1 M) : wp_X0_hasChair (nI c) M post := by unfold wp_X0_hasChair; rw [hr.1.1]; exact rng_yes h (by have := hw.1.1; omega) hp
theorem cGuest_no (hr : repC S M) {p : Int32} (h : p < 0 ∨ nI (S 0 1) ≤ p) (hp : post 0 M) : wp_X0_hasGuest p M post := by unfold wp_X0_hasGuest; rw [hr.1.2.1]; exact rng_no h hp
theorem cGuest_yes (hr : repC S M) (hw : wf S) {c : Nat} (h : c < S 0 1) (hp : post 1 M) : wp_X0_hasGuest (nI c) M post := by unfold wp_X0_hasGuest; rw [hr.1.2.1]; exact rng_yes h (by have := hw.1.2.1; omega) hp
theorem cDin_no {p : Int32} (h : p < 0 ∨ nI 20 ≤ p) (hp : post 0 M) : wp_X5_isDinner p M post := rng_no h hp
theorem cDin_yes {d : Nat} (h : d < 20) (hp : post 1 M) : wp_X5_isDinner (nI d) M post := rng_yes h (by decide) hp
theorem mChair_no (hr : repM S M) {p : Int32} (h : p < 0 ∨ nI (S 0 0) ≤ p) (hp : post 0 M) : wp_X6_isChair p M post := by unfold wp_X6_isChair; rw [hr.1.1]; exact rng_no h hp
theorem mChair_yes (hr : repM S M) (hw : wf S) {c : Nat} (h : c < S 0 0) (hp : post 1 M) : wp_X6_isChair (nI c) M post := by unfold wp_X6_isChair; rw [hr.1.1]; exact rng_yes h (by have := hw.1.1; omega) hp
theorem mGuest_no (hr : repM S M) {p : Int32} (h : p < 0 ∨ nI (S 0 1) ≤ p) (hp : post 0 M) : wp_X6_isGuest p M post := by unfold wp_X6_isGuest; rw [hr.1.2.1]; exact rng_no h hp
theorem mGuest_yes (hr : repM S M) (hw : wf S) {c : Nat} (h : c < S 0 1) (hp : post 1 M) : wp_X6_isGuest (nI c) M post := by unfold wp_X6_isGuest; rw [hr.1.2.1]; exact rng_yes h (by have := hw.1.2.1; omega) hp
theorem mWit_no {p : Int32} {n : Nat} (hn : n + 1 < 2147483648) (h : p < 0 ∨ nI (n + 1) ≤ p) (hp : post 0 M) : wp_X6_within p 0 (nI n) M post := wit_no (h.elim Or.inl (fun q => Or.inr (lt_of_le1 hn q))) hp
theorem mWit_yes {j n : Nat} (hn : n + 1 < 2147483648) (h : j < n + 1) (hp : post 1 M) : wp_X6_within (nI j) 0 (nI n) M post := wit_yes (negI (by omega)) (fun q => by rw [ltI (by omega) (by omega)] at q; omega) hp
theorem mDin_no {p : Int32} (h : p < 0 ∨ nI 20 ≤ p) (hp : post 0 M) : wp_X6_isDinner p M post := mWit_no (n := 19) (by decide) h ⟨rfl, hp⟩
theorem mDin_yes {d : Nat} (h : d < 20) (hp : post 1 M) : wp_X6_isDinner (nI d) M post := mWit_yes (n := 19) (by decide) h ⟨rfl, hp⟩
end Guards
theorem mode_norm {M : Mem} (h : restR M) : modeM (fun _ => true) 9 M := by
  obtain ⟨-, -, -, h1, h2⟩ := h
  refine ⟨⟨0, h1, by decide, fun k _ => by simp⟩, fun c hc => ?_⟩
  rw [h2]
  exact ⟨fun e => absurd e (m9_ne (by omega)), fun e => by omega⟩
/-! bears, whom -/
theorem st_bears {M : Mem} (hI : Inv M) (p1 p2 p3 : Int32) : StpI (wp_X5_bears p1 p2 p3) (wp_X6_bears p1 p2 p3) M := by
  intro post hp
  have hI0 := hI
  obtain ⟨⟨S, hw, hr, hm⟩, hs⟩ := hI
  have n1 := hw.1.1
  have n2 := hw.1.2.1
  unfold wp_X5_bears
  rcases ixI p1 (S 0 0) (by omega) with h1 | ⟨c, hc, rfl⟩
  · exact cChair_no hr h1 (b0A (hp _ _ (fun post' hq => mChair_no hm h1 (b0A (hq M hI0)))))
  · refine cChair_yes hr hw hc (b1A ?_)
    rcases ixI p2 (S 0 1) (by omega) with h2 | ⟨g, hg, rfl⟩
    · exact cGuest_no hr h2 (b0B (hp _ _ (fun post' hq => mChair_yes hm hw hc (b1A (mGuest_no hm h2 (b0B (hq M hI0)))))))
    · refine cGuest_yes hr hw hg (b1B ?_)
      rcases ixI p3 20 (by decide) with h3 | ⟨d, hd, rfl⟩
      · exact cDin_no h3 (b0B (hp _ _ (fun post' hq => mChair_yes hm hw hc (b1A (mGuest_yes hm hw hg (b1B (mDin_no h3 (b0B (hq M hI0)))))))))
      · refine cDin_yes hd (b1B (judgeDinner_ok hw hr hd (fun M1 a1 a2 a3 => ?_)))
        have fin : ∀ b : Bool, bearS S (fun _ => true) 9 c g d = b → post (b2i b) M1 := by
          intro b hb
          refine hp _ _ (fun post' hq => ?_)
          have hm1 : repM S M1 := hm.of (fun a ha _ => a1 a (by omega))
          have hs1 : restR M1 := hs.of (fun a ha => a1 a (by omega))
          refine mChair_yes hm1 hw hc (b1A (mGuest_yes hm1 hw hg (b1B (mDin_yes hd (b1B (mBear_ok hw hm1 (mode_norm hs1) hc hg hd ?_))))))
          rw [hb]
          have := hq M1 (hI0.C a1)
          cases b
          · exact b0A this
          · exact b1A this
        unfold wp_X1_isBorne
        have hbl : bearA S d c < 32 := Nat.lt_of_lt_of_le (bset_lt _ _) (pow5 n2)
        rw [cl (show c < 2147483648 by omega), a3 c hc, bitZ (by omega) (by omega), show bearA S d c = bset (fun g => bearS S (fun _ => true) 9 c g d) (S 0 1) from rfl, bset_in hg]
        refine ⟨inI (by omega) (by decide), fun h => b0A (fin false h), fun h => b1A (fin true ?_)⟩
        cases z : bearS S (fun _ => true) 9 c g d with
        | true => rfl
        | false => exact absurd z h
theorem mwhom_loop {S : AS} {M : Mem} (hw : wf S) (hr : repM S M) {mk : Nat → Bool} {fr : Nat} (hm : modeM mk fr M) {c d : Nat} (hc : c < S 0 0) (hd : d < 20) {post : Int32 → Mem → Prop} (hp : post (nI (bearN S mk fr d c)) M) :
    ∀ (m i : Nat), i + m = S 0 1 → lp_X6_whom_25 (nI c) (nI d) post (m + 1) (nI (bset (fun g => bearS S mk fr c g d) i)) (nI i) M := by
  have n2 := hw.1.2.1
  intro m
  induction m with
  | zero =>
    intro i hi
    have e : i = S 0 1 := by omega
    subst e
    unfold lp_X6_whom_25
    rw [hr.1.2.1]
    exact ⟨fun _ => hp, fun h => absurd ((leI (by omega) (by omega)).mpr (by omega)) h⟩
  | succ m ih =>
    intro i hi
    unfold lp_X6_whom_25
    rw [hr.1.2.1, addI1, shl1 (by omega), or0]
    refine ⟨fun h => absurd ((leI (by omega) (by omega)).mp h) (by omega), fun _ => mBear_ok hw hr hm hc (by omega) hd ⟨fun h v hv => ?_, fun h v hv => ?_⟩⟩
    · subst hv
      rw [← bset_noI (fun g => bearS S mk fr c g d) (b2i_z.mp h)]
      exact ih (i + 1) (by omega)
    · subst hv
      rw [bset_orI (fun g => bearS S mk fr c g d) (b2i_nz.mp h)]
      exact ih (i + 1) (by omega)
theorem st_whom {M : Mem} (hI : Inv M) (p1 p2 : Int32) : StpI (wp_X5_whom p1 p2) (wp_X6_whom p1 p2) M := by
  intro post hp
  have hI0 := hI
  obtain ⟨⟨S, hw, hr, hm⟩, hs⟩ := hI
  have n1 := hw.1.1
  have n2 := hw.1.2.1
  unfold wp_X5_whom
  rcases ixI p1 (S 0 0) (by omega) with h1 | ⟨c, hc, rfl⟩
  · exact cChair_no hr h1 (b0B (hp _ _ (fun post' hq => mChair_no hm h1 (b0B (hq M hI0)))))
  · refine cChair_yes hr hw hc (b1B ?_)
    rcases ixI p2 20 (by decide) with h3 | ⟨d, hd, rfl⟩
    · exact cDin_no h3 (b0B (hp _ _ (fun post' hq => mChair_yes hm hw hc (b1B (mDin_no h3 (b0B (hq M hI0)))))))
    · refine cDin_yes hd (b1B (judgeDinner_ok hw hr hd (fun M1 a1 a2 a3 => ⟨inI (by omega) (by decide), ?_⟩)))
      rw [cl (show c < 2147483648 by omega), a3 c hc]
      refine hp _ _ (fun post' hq => ?_)
      have hm1 : repM S M1 := hm.of (fun a ha _ => a1 a (by omega))
      have hs1 : restR M1 := hs.of (fun a ha => a1 a (by omega))
      exact mChair_yes hm1 hw hc (b1B (mDin_yes hd (b1B ⟨S 0 1 + 1, mwhom_loop hw hm1 (mode_norm hs1) hc hd (hq M1 (hI0.C a1)) (S 0 1) 0 (by omega)⟩)))
/-! seats, few, least, when, fresh -/
section Guards2
variable {S : AS} {M : Mem} {post : Int32 → Mem → Prop}
theorem cStands_no (hr : repC S M) (h : S 0 0 = 0) (hp : post 0 M) : wp_X0_stands M post := by
  unfold wp_X0_stands
  rw [hr.1.1, h]
  exact ⟨fun _ => hp, fun q => absurd (by decide) q⟩
theorem cStands_yes (hr : repC S M) (hw : wf S) (h : ¬ S 0 0 = 0) (hp : post 1 M) : wp_X0_stands M post := by
  have := hw.1.1
  unfold wp_X0_stands
  rw [hr.1.1, show (0 : Int32) = nI 0 from rfl, leI (by omega) (by decide)]
  exact ⟨fun q => absurd q (by omega), fun _ => hp⟩
/-- refusalOfDinner's three ways -/
theorem cRefD (hr : repC S M) (hw : wf S) (p : Int32) : ((p < 0 ∨ nI 20 ≤ p) ∧ ∀ post : Int32 → Mem → Prop, post (-2) M → wp_X5_refusalOfDinner p M post) ∨ (∃ d, d < 20 ∧ p = nI d ∧ S 0 0 = 0 ∧ ∀ post : Int32 → Mem → Prop, post (-3) M → wp_X5_refusalOfDinner p M post) ∨ (∃ d, d < 20 ∧ p = nI d ∧ ¬ S 0 0 = 0 ∧ ∀ post : Int32 → Mem → Prop, post 0 M → wp_X5_refusalOfDinner p M post) := by
  rcases ixI p 20 (by decide) with h3 | ⟨d, hd, rfl⟩
  · exact Or.inl ⟨h3, fun post hp => cDin_no h3 (b0B hp)⟩
  · by_cases h0 : S 0 0 = 0
    · exact Or.inr (Or.inl ⟨d, hd, rfl, h0, fun post hp => cDin_yes hd (b1B (cStands_no hr h0 (b0A hp)))⟩)
    · exact Or.inr (Or.inr ⟨d, hd, rfl, h0, fun post hp => cDin_yes hd (b1B (cStands_yes hr hw h0 (b1A hp)))⟩)
theorem m34_0 (hm : repM S M) (h : S 0 0 = 0) {A B : Prop} (b : B) : (¬ M 34 6 = 0 → A) ∧ (M 34 6 = 0 → B) := by
  rw [hm.1.1, h]
  exact ⟨fun q => absurd rfl q, fun _ => b⟩
theorem m34_1 (hm : repM S M) (hw : wf S) (h : ¬ S 0 0 = 0) {A B : Prop} (a : A) : (¬ M 34 6 = 0 → A) ∧ (M 34 6 = 0 → B) := by
  rw [hm.1.1]
  exact ⟨fun _ => a, fun q => absurd q (nI_ne0 (by omega) (by have := hw.1.1; omega))⟩
end Guards2
theorem st_few {M : Mem} (hI : Inv M) (p1 : Int32) : StpI (wp_X5_few p1) (wp_X6_few p1) M := by
  intro post hp
  have hI0 := hI
  obtain ⟨⟨S, hw, hr, hm⟩, hs⟩ := hI
  unfold wp_X5_few
  rcases cRefD hr hw p1 with ⟨h, hk⟩ | ⟨d, hd, rfl, h0, hk⟩ | ⟨d, hd, rfl, h0, hk⟩
  · exact hk _ ⟨fun q => absurd q (by decide), fun _ => hp _ _ (fun post' hq => mDin_no h (b0B (hq M hI0)))⟩
  · exact hk _ ⟨fun q => absurd q (by decide), fun _ => hp _ _ (fun post' hq => mDin_yes hd (b1B (m34_0 hm h0 (hq M hI0))))⟩
  · refine hk _ (b0A (judgeDinner_ok hw hr hd (fun M1 a1 a2 a3 => cfew_ok hw (a1.rep hr) (br := fun c g => bearS S (fun _ => true) 9 c g d) a3 (hp _ _ (fun post' hq => ?_)))))
    have hm1 : repM S M1 := hm.of (fun a ha _ => a1 a (by omega))
    have hs1 : restR M1 := hs.of (fun a ha => a1 a (by omega))
    refine mDin_yes hd (b1B (m34_1 hm1 hw h0 (layD_ok hw hm1 (mode_norm hs1) hd (fun M2 c1 c2 => ?_))))
    exact mfew_ok hw (hm1.of (fun a _ ha => c1 a (by omega))) (br := fun c g => bearS S (fun _ => true) 9 c g d) c2 (hq M2 ((hI0.C a1).M (fun a ha => c1 a (by omega))))
/-- refusalOfSeating: g is -1 or a guest -/
theorem cRefS {S : AS} {M : Mem} (hr : repC S M) (hw : wf S) (p g : Int32) : ((¬ g = -1 ∧ (g < 0 ∨ nI (S 0 1) ≤ g)) ∧ ∀ post : Int32 → Mem → Prop, post (-1) M → wp_X5_refusalOfSeating p g M post) ∨ ((g = -1 ∨ ∃ h, h < S 0 1 ∧ g = nI h) ∧ ∀ post : Int32 → Mem → Prop, wp_X5_refusalOfDinner p M post → wp_X5_refusalOfSeating p g M post) := by
  have n2 := hw.1.2.1
  by_cases e : g = -1
  · exact Or.inr ⟨Or.inl e, fun post hp => ⟨fun _ => hp, fun q => absurd e q⟩⟩
  · rcases ixI g (S 0 1) (by omega) with h | ⟨j, hj, rfl⟩
    · exact Or.inl ⟨⟨e, h⟩, fun post hp => ⟨fun q => absurd q e, fun _ => cGuest_no hr h (b0B hp)⟩⟩
    · exact Or.inr ⟨Or.inr ⟨j, hj, rfl⟩, fun post hp => ⟨fun q => absurd q e, fun _ => cGuest_yes hr hw hj (b1B hp)⟩⟩
theorem mOne_no {S : AS} {M : Mem} (hm : repM S M) {g : Int32} (h1 : ¬ g = -1) (h2 : g < 0 ∨ nI (S 0 1) ≤ g) {post : Int32 → Mem → Prop} (hp : post 0 M) : wp_X6_isOneOr g M post := ⟨fun q => absurd q h1, fun _ => mGuest_no hm h2 (b0A hp)⟩
theorem mOne_yes {S : AS} {M : Mem} (hm : repM S M) (hw : wf S) {g : Int32} (h : g = -1 ∨ ∃ h, h < S 0 1 ∧ g = nI h) {post : Int32 → Mem → Prop} (hp : post 1 M) : wp_X6_isOneOr g M post := by
  have n2 := hw.1.2.1
  rcases h with h | ⟨j, hj, rfl⟩
  · exact ⟨fun _ => hp, fun q => absurd h q⟩
  · exact ⟨fun q => absurd q (m1_ne (by omega)), fun _ => mGuest_yes hm hw hj (b1A hp)⟩
theorem seatC_up {S : AS} {br : Nat → Nat → Bool} {M : Mem} (pu ps : Nat) (hpu : pu ≤ 100) (hps : ps ≤ 100) (h : ∀ c, c < S 0 0 → M 21 c = nI (bset (br c) (S 0 1))) : seatC S br pu ps (up2 (up2 M 22 4 (nI pu)) 22 5 (nI ps)) := by
  refine ⟨fun c hc => ?_, ?_, ?_, hpu, hps⟩
  · rw [up2_n _ _ _ (by decide), up2_n _ _ _ (by decide)]; exact h c hc
  · rw [up2_s, upd_n _ _ (by decide), up2_s, upd_s]
  · rw [up2_s, upd_s]
theorem seatMost_ok {S : AS} {M : Mem} (hw : wf S) (hr : repC S M) {br : Nat → Nat → Bool} (h21 : ∀ c, c < S 0 0 → M 21 c = nI (bset (br c) (S 0 1))) {post : Int32 → Mem → Prop}
    (hp : ∀ M', sameC M M' → M' 19 = M 19 → (∀ g, g < S 0 1 → M' 24 g = chI (S 0 0) (rwF S br 100 1 g)) → post (nI (S 0 1 - (optF br 100 1 (S 0 0) (S 0 1) (S 0 1) 0).2)) M') : wp_X3_seatMost M post := by
  intro M1 h1 M2 h2
  subst h1
  subst h2
  have hsame : sameC M (up2 (up2 M 22 4 100) 22 5 1) := (sameC.rf M).up (k := 22) (j := 4) (by decide) |>.up (k := 22) (j := 5) (by decide)
  have hr2 := hsame.rep hr
  have hle := optF_le br 100 1 (S 0 0) (S 0 1) (S 0 1) 0
  refine cheapest_ok hw hr2 (seatC_up 100 1 (by decide) (by decide) h21) (fun M3 a1 a2 => ?_)
  rw [hr2.1.2.1, subI (by omega)]
  refine hp M3 (hsame.tr (fun a ha => a1 a (by omega) (by omega))) ?_ a2
  rw [a1 19 (by decide) (by decide), up2_n _ _ _ (by decide), up2_n _ _ _ (by decide)]
theorem seatAll_ok {S : AS} {M : Mem} (hw : wf S) (hr : repC S M) {br : Nat → Nat → Bool} (h21 : ∀ c, c < S 0 0 → M 21 c = nI (bset (br c) (S 0 1))) {post : Int32 → Mem → Prop}
    (hp : ∀ M', sameC M M' → (∀ g, g < S 0 1 → M' 24 g = chI (S 0 0) (rwF S br 1 100 g)) → (100 ≤ (optF br 1 100 (S 0 0) (S 0 1) (S 0 1) 0).2 → post (-9) M') ∧ ((optF br 1 100 (S 0 0) (S 0 1) (S 0 1) 0).2 < 100 → post (nI (optF br 1 100 (S 0 0) (S 0 1) (S 0 1) 0).2) M')) : wp_X3_seatAllByButter M post := by
  intro M1 h1 M2 h2
  subst h1
  subst h2
  have hsame : sameC M (up2 (up2 M 22 4 1) 22 5 100) := (sameC.rf M).up (k := 22) (j := 4) (by decide) |>.up (k := 22) (j := 5) (by decide)
  have hr2 := hsame.rep hr
  have h5 := optF_500 (br := br) (pu := 1) (ps := 100) (nc := S 0 0) (ng := S 0 1) (k := S 0 1) (T := 0) hw.1.2.1 (Nat.le_refl _)
  refine cheapest_ok hw hr2 (seatC_up 1 100 (by decide) (by decide) h21) (fun M3 a1 a2 => ?_)
  obtain ⟨b1, b2⟩ := hp M3 (hsame.tr (fun a ha => a1 a (by omega) (by omega))) a2
  rw [show (100 : Int32) = nI 100 from rfl, leI (by decide) (by omega)]
  exact ⟨fun q => b1 q, fun q => b2 (by omega)⟩
theorem st_seats {M : Mem} (hI : Inv M) (p1 p2 : Int32) : StpI (wp_X5_seats p1 p2) (wp_X6_seats p1 p2) M := by
  intro post hp
  have hI0 := hI
  obtain ⟨⟨S, hw, hr, hm⟩, hs⟩ := hI
  have n1 := hw.1.1
  have n2 := hw.1.2.1
  have n6 := hw.1.2.2.2.2.2
  unfold wp_X5_seats
  rcases cRefS hr hw p1 p2 with ⟨⟨h1, h2⟩, hk⟩ | ⟨hg, hk⟩
  · exact hk _ ⟨fun q => absurd q (by decide), fun _ => hp _ _ (fun post' hq => mOne_no hm h1 h2 (b0B (hq M hI0)))⟩
  · refine hk _ ?_
    rcases cRefD hr hw p1 with ⟨h, hk⟩ | ⟨d, hd, rfl, h0, hk⟩ | ⟨d, hd, rfl, h0, hk⟩
    · exact hk _ ⟨fun q => absurd q (by decide), fun _ => hp _ _ (fun post' hq => mOne_yes hm hw hg (b1B (mDin_no h (b0B (hq M hI0)))))⟩
    · exact hk _ ⟨fun q => absurd q (by decide), fun _ => hp _ _ (fun post' hq => mOne_yes hm hw hg (b1B (mDin_yes hd (b1B (m34_0 hm h0 (hq M hI0))))))⟩
    · refine hk _ (b0A (judgeDinner_ok hw hr hd (fun M1 a1 a2 a3 => seatMost_ok hw (a1.rep hr) (br := fun c g => bearS S (fun _ => true) 9 c g d) a3 (fun M3 b1 b2 b3 => ?_))))
      have hsc := a1.tr b1
      have hm1 : repM S M3 := hm.of (fun a ha _ => hsc a (by omega))
      have hs1 : restR M3 := hs.of (fun a ha => hsc a (by omega))
      have mod : ∀ (r : Int32), (p2 = -1 → r = nI (S 0 1 - (optF (fun c g => bearS S (fun _ => true) 9 c g d) 100 1 (S 0 0) (S 0 1) (S 0 1) 0).2)) → (∀ h, h < S 0 1 → p2 = nI h → r = chI (S 0 0) (rwF S (fun c g => bearS S (fun _ => true) 9 c g d) 100 1 h)) → post r M3 := by
        intro r e1 e2
        refine hp _ _ (fun post' hq => mOne_yes hm1 hw hg (b1B (mDin_yes hd (b1B (m34_1 hm1 hw h0 (layD_ok hw hm1 (mode_norm hs1) hd (fun M2 c1 c2 => ?_)))))))
        refine mseats_ok hw (hm1.of (fun a _ ha => c1 a (by omega))) (by omega) (br := fun c g => bearS S (fun _ => true) 9 c g d) c2 hg (fun M4 d1 => ?_)
        have fin : post' r M4 := hq M4 ((hI0.C hsc).M (fun a ha => (d1 a (by omega) (by omega)).trans (c1 a (by omega))))
        exact ⟨fun z => by rw [← e1 z]; exact fin, fun h hh z => by rw [← e2 h hh z]; exact fin⟩
      rcases hg with z | ⟨h, hh, z⟩
      · exact ⟨fun q => absurd z q, fun _ => mod _ (fun _ => rfl) (fun h hh z2 => absurd (z2.symm.trans z) (m1_ne (by omega)))⟩
      · subst z
        rw [cl (show h < 2147483648 by omega), b3 h hh]
        exact ⟨fun _ => ⟨inI (by omega) (by decide), mod _ (fun z => absurd z (m1_ne (by omega))) (fun h2 hh2 z2 => by rw [(eqI (by omega) (by omega)).mp z2])⟩, fun q => absurd q (m1_ne (by omega))⟩
theorem st_least {M : Mem} (hI : Inv M) (p1 p2 : Int32) : StpI (wp_X5_least p1 p2) (wp_X6_least p1 p2) M := by
  intro post hp
  have hI0 := hI
  obtain ⟨⟨S, hw, hr, hm⟩, hs⟩ := hI
  have n1 := hw.1.1
  have n2 := hw.1.2.1
  have n6 := hw.1.2.2.2.2.2
  unfold wp_X5_least
  rcases cRefS hr hw p1 p2 with ⟨⟨h1, h2⟩, hk⟩ | ⟨hg, hk⟩
  · exact hk _ ⟨fun q => absurd q (by decide), fun _ => hp _ _ (fun post' hq => mOne_no hm h1 h2 (b0B (hq M hI0)))⟩
  · refine hk _ ?_
    rcases cRefD hr hw p1 with ⟨h, hk⟩ | ⟨d, hd, rfl, h0, hk⟩ | ⟨d, hd, rfl, h0, hk⟩
    · exact hk _ ⟨fun q => absurd q (by decide), fun _ => hp _ _ (fun post' hq => mOne_yes hm hw hg (b1B (mDin_no h (b0B (hq M hI0)))))⟩
    · exact hk _ ⟨fun q => absurd q (by decide), fun _ => hp _ _ (fun post' hq => mOne_yes hm hw hg (b1B (mDin_yes hd (b1B (m34_0 hm h0 (hq M hI0))))))⟩
    · refine hk _ (b0A (judgeDinner_ok hw hr hd (fun M1 a1 a2 a3 => seatAll_ok hw (a1.rep hr) (br := fun c g => bearS S (fun _ => true) 9 c g d) a3 (fun M3 b1 b3 => ?_))))
      have hsc := a1.tr b1
      have hm1 : repM S M3 := hm.of (fun a ha _ => hsc a (by omega))
      have hs1 : restR M3 := hs.of (fun a ha => hsc a (by omega))
      have h5 := optF_500 (br := fun c g => bearS S (fun _ => true) 9 c g d) (pu := 1) (ps := 100) (nc := S 0 0) (ng := S 0 1) (k := S 0 1) (T := 0) hw.1.2.1 (Nat.le_refl _)
      have mod : ∀ (r : Int32), (100 ≤ (optF (fun c g => bearS S (fun _ => true) 9 c g d) 1 100 (S 0 0) (S 0 1) (S 0 1) 0).2 → r = -9) → ((optF (fun c g => bearS S (fun _ => true) 9 c g d) 1 100 (S 0 0) (S 0 1) (S 0 1) 0).2 < 100 → (p2 = -1 → r = nI (optF (fun c g => bearS S (fun _ => true) 9 c g d) 1 100 (S 0 0) (S 0 1) (S 0 1) 0).2) ∧ (∀ h, h < S 0 1 → p2 = nI h → r = chI (S 0 0) (rwF S (fun c g => bearS S (fun _ => true) 9 c g d) 1 100 h))) → post r M3 := by
        intro r e0 e1
        refine hp _ _ (fun post' hq => mOne_yes hm1 hw hg (b1B (mDin_yes hd (b1B (m34_1 hm1 hw h0 (layD_ok hw hm1 (mode_norm hs1) hd (fun M2 c1 c2 => ?_)))))))
        refine mleast_ok hw (hm1.of (fun a _ ha => c1 a (by omega))) (by omega) (by omega) (br := fun c g => bearS S (fun _ => true) 9 c g d) c2 hg (fun M4 d1 => ?_)
        have fin : post' r M4 := hq M4 ((hI0.C hsc).M (fun a ha => (d1 a (by omega) (by omega)).trans (c1 a (by omega))))
        exact ⟨fun z => by rw [← e0 z]; exact fin, fun z0 => ⟨fun z => by rw [← (e1 z0).1 z]; exact fin, fun h hh z => by rw [← (e1 z0).2 h hh z]; exact fin⟩⟩
      refine ⟨fun q => ⟨fun z => absurd rfl z, fun _ => mod _ (fun _ => rfl) (fun z => by omega)⟩, fun q => ⟨fun _ => ?_, fun z => absurd z (m9_ne (by omega))⟩⟩
      rcases hg with z | ⟨h, hh, z⟩
      · exact ⟨fun q => absurd z q, fun _ => mod _ (fun z => by omega) (fun _ => ⟨fun _ => rfl, fun h hh z2 => absurd (z2.symm.trans z) (m1_ne (by omega))⟩)⟩
      · subst z
        rw [cl (show h < 2147483648 by omega), b3 h hh]
        exact ⟨fun _ => ⟨inI (by omega) (by decide), mod _ (fun z => by omega) (fun _ => ⟨fun z => absurd z (m1_ne (by omega)), fun h2 hh2 z2 => by rw [(eqI (by omega) (by omega)).mp z2]⟩)⟩, fun q => absurd q (m1_ne (by omega))⟩
theorem st_fresh {M : Mem} (hI : Inv M) (p1 p2 : Int32) : StpI (wp_X5_fresh p1 p2) (wp_X6_fresh p1 p2) M := by
  intro post hp
  have hI0 := hI
  obtain ⟨⟨S, hw, hr, hm⟩, hs⟩ := hI
  have n1 := hw.1.1
  have n2 := hw.1.2.1
  unfold wp_X5_fresh
  rcases ixI p1 (S 0 0) (by omega) with h1 | ⟨c, hc, rfl⟩
  · exact cChair_no hr h1 (b0B (hp _ _ (fun post' hq => mChair_no hm h1 (b0B (hq M hI0)))))
  · refine cChair_yes hr hw hc (b1B ?_)
    rcases ixI p2 20 (by decide) with h3 | ⟨d, hd, rfl⟩
    · exact cDin_no h3 (b0B (hp _ _ (fun post' hq => mChair_yes hm hw hc (b1B (mDin_no h3 (b0B (hq M hI0)))))))
    · have hfc : ∀ x, x < 5 → (nI x = nI c ↔ x = c) := fun x hx => eqI (by omega) (by omega)
      refine cDin_yes hd (b1B (judgeDinner_ok hw hr hd (fun M1 a1 a2 a3 => seatMost_ok hw (a1.rep hr) (br := fun c g => bearS S (fun _ => true) 9 c g d) a3 (fun M3 b1 b2 b3 => ?_))))
      have hr3 := b1.rep (a1.rep hr)
      refine judge_ok hw hr3 mask_all hfc (d := d) (fun x hx => by rw [b2]; exact a2 x hx) (fun M4 c1 c2 c3 => ?_)
      refine seatMost_ok hw (c1.rep hr3) (br := fun x g => bearS S (fun _ => true) c x g d) c3 (fun M5 d1 d2 d3 => ?_)
      have hsc := ((a1.tr b1).tr c1).tr d1
      have hm1 : repM S M5 := hm.of (fun a ha _ => hsc a (by omega))
      have hs1 : restR M5 := hs.of (fun a ha => hsc a (by omega))
      have e1 := most_eq (S := S) (br := fun c g => bearS S (fun _ => true) 9 c g d) n1 n2
      have e2 := most_eq (S := S) (br := fun x g => bearS S (fun _ => true) c x g d) n1 n2
      refine hp _ _ (fun post' hq => mChair_yes hm1 hw hc (b1B (mDin_yes hd (b1B (mostIn_ok hw hm1 (mode_norm hs1) hd (fun M6 f1 => ?_))))))
      intro M7 h7
      subst h7
      have hm6 : repM S M6 := f1.rep hm1
      have hI6 : Inv M6 := (hI0.C hsc).M f1
      have hm7 : repM S (up2 M6 34 19 (nI c)) := by
        obtain ⟨⟨q1, q2, q3, q4, q5⟩, q6⟩ := hm6
        refine ⟨?_, ?_⟩
        · rw [up2_s, upd_n _ _ (by decide), upd_n _ _ (by decide), upd_n _ _ (by decide), upd_n _ _ (by decide), upd_n _ _ (by decide)]
          exact ⟨q1, q2, q3, q4, q5⟩
        · rw [up2_n _ _ _ (by decide), up2_n _ _ _ (by decide), up2_n _ _ _ (by decide), up2_n _ _ _ (by decide), up2_n _ _ _ (by decide), up2_n _ _ _ (by decide), up2_n _ _ _ (by decide), up2_n _ _ _ (by decide), up2_n _ _ _ (by decide), up2_n _ _ _ (by decide), up2_n _ _ _ (by decide), up2_n _ _ _ (by decide), up2_n _ _ _ (by decide)]
          exact q6
      have hmode : modeM (fun _ => true) c (up2 M6 34 19 (nI c)) := by
        refine ⟨⟨0, ?_, by decide, fun k _ => by simp⟩, fun x hx => ?_⟩
        · rw [up2_s, upd_n _ _ (by decide)]; exact hI6.2.2.2.2.1
        · rw [up2_s, upd_s]; exact hfc x hx
      refine mostIn_ok hw hm7 hmode hd (fun M9 g1 M10 h10 => ?_)
      subst h10
      have ev : nI (mmF (fun x g => bearS S (fun _ => true) c x g d) (S 0 0) (S 0 1)) - nI (mmF (fun c g => bearS S (fun _ => true) 9 c g d) (S 0 0) (S 0 1)) = nI (S 0 1 - (optF (fun x g => bearS S (fun _ => true) c x g d) 100 1 (S 0 0) (S 0 1) (S 0 1) 0).2) - nI (S 0 1 - (optF (fun c g => bearS S (fun _ => true) 9 c g d) 100 1 (S 0 0) (S 0 1) (S 0 1) 0).2) := by
        rw [show S 0 1 - (optF (fun x g => bearS S (fun _ => true) c x g d) 100 1 (S 0 0) (S 0 1) (S 0 1) 0).2 = mmF (fun x g => bearS S (fun _ => true) c x g d) (S 0 0) (S 0 1) by omega, show S 0 1 - (optF (fun c g => bearS S (fun _ => true) 9 c g d) 100 1 (S 0 0) (S 0 1) (S 0 1) 0).2 = mmF (fun c g => bearS S (fun _ => true) 9 c g d) (S 0 0) (S 0 1) by omega]
      rw [ev]
      refine hq _ (hI6.M (fun a ha => ?_))
      by_cases z : a = 34
      · subst z
        rw [up2_s]
        funext j
        rw [upd_at]
        by_cases zj : j = 19
        · rw [if_pos zj, zj]; exact hI6.2.2.2.2.2.symm
        · rw [if_neg zj, g1 34 (by decide), up2_s, upd_n _ _ zj]
      · rw [up2_n _ _ _ z, g1 a ha, up2_n _ _ _ z]
theorem cwhen_loop {S : AS} {M0 : Mem} (hw : wf S) (hr : repC S M0) {p1 : Int32} {post : Int32 → Mem → Prop} (w : Nat → Bool) (hwd : ∀ d, d < 20 → w d = hallC (fun c g => bearS S (fun _ => true) 9 c g d) (S 0 0) (S 0 1))
    (hp : ∀ M, sameC M0 M → (∀ i, i < 20 → (∀ j, j < i → w j = false ∨ nI j < p1) → w i = true → p1 ≤ nI i → post (nI i) M) ∧ ((∀ j, j < 20 → w j = false ∨ nI j < p1) → post (-9) M)) :
    ∀ (m i : Nat) (M : Mem), i + m = 20 → sameC M0 M → p1 ≤ nI i → (∀ j, j < i → w j = false ∨ nI j < p1) → lp_X5_when_14 p1 post (m + 1) (nI i) M := by
  intro m
  induction m with
  | zero =>
    intro i M hi hs hle hn
    have e : i = 20 := by omega
    subst e
    unfold lp_X5_when_14
    exact ⟨fun _ => (hp M hs).2 hn, fun h => absurd (by decide) h⟩
  | succ m ih =>
    intro i M hi hs hle hn
    have hr' := hs.rep hr
    unfold lp_X5_when_14
    refine ⟨fun h => absurd ((leI (a := 20) (by decide) (by omega)).mp h) (by omega), fun _ => judgeDinner_ok hw hr' (by omega) (fun M1 a1 a2 a3 => allSit_ok hw (a1.rep hr') (br := fun c g => bearS S (fun _ => true) 9 c g i) a3 ⟨fun h => ?_, fun h => ?_⟩)⟩
    · rw [addI1]
      refine ih (i + 1) M1 (by omega) (hs.tr a1) ?_ (fun j hj => ?_)
      · rw [fa_le, nI_toInt (by omega)] at hle ⊢
        omega
      · by_cases z : j = i
        · rw [z, hwd i (by omega)]; exact Or.inl (b2i_z.mp h)
        · exact hn j (by omega)
    · exact (hp M1 (hs.tr a1)).1 i (by omega) hn (by rw [hwd i (by omega)]; exact b2i_nz.mp h) hle
theorem mwhen_loop {S : AS} {M0 : Mem} (hw : wf S) (hr : repM S M0) (hm : modeM (fun _ => true) 9 M0) {p1 : Int32} {post : Int32 → Mem → Prop} (w : Nat → Bool) (hwd : ∀ d, d < 20 → w d = hallC (fun c g => bearS S (fun _ => true) 9 c g d) (S 0 0) (S 0 1))
    (hp : ∀ M, sameM M0 M → (∀ i, i < 20 → (∀ j, j < i → w j = false ∨ nI j < p1) → w i = true → p1 ≤ nI i → post (nI i) M) ∧ ((∀ j, j < 20 → w j = false ∨ nI j < p1) → post (-9) M)) :
    ∀ (m i : Nat) (M : Mem), i + m = 20 → sameM M0 M → p1 ≤ nI i → (∀ j, j < i → w j = false ∨ nI j < p1) → lp_X6_when_22 p1 post (m + 1) (nI i) M := by
  have n1 := hw.1.1
  have n2 := hw.1.2.1
  intro m
  induction m with
  | zero =>
    intro i M hi hs hle hn
    have e : i = 20 := by omega
    subst e
    unfold lp_X6_when_22
    exact ⟨fun _ => (hp M hs).2 hn, fun h => absurd (by decide) h⟩
  | succ m ih =>
    intro i M hi hs hle hn
    have hr' := hs.rep hr
    unfold lp_X6_when_22
    refine ⟨fun h => absurd ((leI (a := 20) (by decide) (by omega)).mp h) (by omega), fun _ => mostIn_ok hw hr' (hs.mode hm) (by omega) (fun M1 a1 => ?_)⟩
    have hmm : mmF (fun c g => bearS S (fun _ => true) 9 c g i) (S 0 0) (S 0 1) ≤ 5 := mostF_le 32
    rw [(a1.rep hr').1.2.1, eqI (by omega) (by omega), mm_full n1 n2, ← hwd i (by omega)]
    refine ⟨fun h => ?_, fun h => ?_⟩
    · rw [addI1]
      refine ih (i + 1) M1 (by omega) (hs.tr a1) ?_ (fun j hj => ?_)
      · rw [fa_le, nI_toInt (by omega)] at hle ⊢
        omega
      · by_cases z : j = i
        · rw [z]; exact Or.inl (by cases q : w i with | false => rfl | true => exact absurd q h)
        · exact hn j (by omega)
    · exact (hp M1 (hs.tr a1)).1 i (by omega) hn h hle
theorem st_when {M : Mem} (hI : Inv M) (p1 : Int32) : StpI (wp_X5_when p1) (wp_X6_when p1) M := by
  intro post hp
  have hI0 := hI
  obtain ⟨⟨S, hw, hr, hm⟩, hs⟩ := hI
  unfold wp_X5_when
  rcases cRefD hr hw p1 with ⟨h, hk⟩ | ⟨d, hd, rfl, h0, hk⟩ | ⟨d, hd, rfl, h0, hk⟩
  · exact hk _ ⟨fun q => absurd q (by decide), fun _ => hp _ _ (fun post' hq => mDin_no h (b0B (hq M hI0)))⟩
  · exact hk _ ⟨fun q => absurd q (by decide), fun _ => hp _ _ (fun post' hq => mDin_yes hd (b1B (m34_0 hm h0 (hq M hI0))))⟩
  · refine hk _ (b0A ⟨20 - d + 1, ?_⟩)
    have hle : nI d ≤ nI d := by rw [leI (by omega) (by omega)]; exact Nat.le_refl _
    have hbelow : ∀ j, j < d → hallC (fun c g => bearS S (fun _ => true) 9 c g j) (S 0 0) (S 0 1) = false ∨ nI j < nI d := fun j hj => Or.inr ((ltI (by omega) (by omega)).mpr hj)
    refine cwhen_loop hw hr (fun d => hallC (fun c g => bearS S (fun _ => true) 9 c g d) (S 0 0) (S 0 1)) (fun _ _ => rfl) (fun M1 a1 => ?_) (20 - d) d M (by omega) (sameC.rf M) hle hbelow
    have hm1 : repM S M1 := hm.of (fun a ha _ => a1 a (by omega))
    have hs1 : restR M1 := hs.of (fun a ha => a1 a (by omega))
    have key : ∀ r : Int32, (∀ i, i < 20 → (∀ j, j < i → hallC (fun c g => bearS S (fun _ => true) 9 c g j) (S 0 0) (S 0 1) = false ∨ nI j < nI d) → hallC (fun c g => bearS S (fun _ => true) 9 c g i) (S 0 0) (S 0 1) = true → nI d ≤ nI i → nI i = r) → ((∀ j, j < 20 → hallC (fun c g => bearS S (fun _ => true) 9 c g j) (S 0 0) (S 0 1) = false ∨ nI j < nI d) → (-9 : Int32) = r) → post r M1 := by
      intro r e1 e2
      refine hp _ _ (fun post' hq => mDin_yes hd (b1B (m34_1 hm1 hw h0 ⟨20 - d + 1, ?_⟩)))
      refine mwhen_loop hw hm1 (mode_norm hs1) (fun d => hallC (fun c g => bearS S (fun _ => true) 9 c g d) (S 0 0) (S 0 1)) (fun _ _ => rfl) (fun M2 c1 => ?_) (20 - d) d M1 (by omega) (sameM.rf M1) hle hbelow
      have fin : post' r M2 := hq M2 ((hI0.C a1).M c1)
      exact ⟨fun i hi h1 h2 h3 => by rw [e1 i hi h1 h2 h3]; exact fin, fun h1 => by rw [e2 h1]; exact fin⟩
    refine ⟨fun i hi h1 h2 h3 => key _ (fun i' hi' h1' h2' h3' => ?_) (fun h1' => ?_), fun h1 => key _ (fun i' hi' h1' h2' h3' => ?_) (fun _ => rfl)⟩
    · have hne : ∀ a b, a < 20 → b < 20 → (∀ j, j < a → hallC (fun c g => bearS S (fun _ => true) 9 c g j) (S 0 0) (S 0 1) = false ∨ nI j < nI d) → hallC (fun c g => bearS S (fun _ => true) 9 c g b) (S 0 0) (S 0 1) = true → nI d ≤ nI b → ¬ b < a := by
        intro a b ha hb q1 q2 q3 q4
        rcases q1 b q4 with z | z
        · rw [q2] at z; cases z
        · rw [ltI (by omega) (by omega)] at z
          rw [leI (by omega) (by omega)] at q3
          omega
      have x1 := hne i i' hi hi' h1 h2' h3'
      have x2 := hne i' i hi' hi h1' h2 h3
      rw [show i' = i by omega]
    · rcases h1' i hi with z | z
      · rw [h2] at z; cases z
      · rw [ltI (by omega) (by omega)] at z
        rw [leI (by omega) (by omega)] at h3
        omega
    · rcases h1 i' hi' with z | z
      · rw [h2'] at z; cases z
      · rw [ltI (by omega) (by omega)] at z
        rw [leI (by omega) (by omega)] at h3'
        omega
