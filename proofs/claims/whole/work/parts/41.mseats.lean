/-! the reference's seats and least -/
theorem m9_le {a : Nat} (ha : a < 2147483648) : (-9 : Int32) ≤ nI a := by
  rw [fa_le, nI_toInt ha]
  have : (-9 : Int32).toInt = -9 := by decide
  omega
theorem m9_nle {a : Nat} (ha : a < 2147483648) : ¬ nI a ≤ (-9 : Int32) := by
  rw [fa_le, nI_toInt ha]
  have : (-9 : Int32).toInt = -9 := by decide
  omega
theorem m9_ne {a : Nat} (ha : a < 2147483648) : ¬ nI a = (-9 : Int32) := fun e => m9_nle ha (by rw [e]; decide)
theorem m1_ne {a : Nat} (ha : a < 2147483648) : ¬ nI a = (-1 : Int32) := fun e => by
  have h := negI ha
  rw [e] at h
  exact h (by decide)
def valS (br : Nat → Nat → Bool) (nc ng N : Nat) : Option Nat := if (onceJ nc ng (rowN (nc + 1) ng N) ng && !badR br nc (rowN (nc + 1) ng N) ng) = true then some (stR nc ng (rowN (nc + 1) ng N)) else none
def bestS (ng base : Nat) (f : Option (Nat × Nat)) (x : Int32) (M : Mem) : Prop := match f with
  | none => x = -9
  | some (w, i) => x = nI (ng - w) ∧ ∀ g, g < ng → M 51 g = nI (rowN base ng i g)
theorem rowN_le {nc ng N g : Nat} : rowN (nc + 1) ng N g ≤ nc := Nat.le_of_lt_succ (Nat.mod_lt _ (Nat.succ_pos nc))
theorem stR_le (nc ng : Nat) (r : Nat → Nat) : stR nc ng r ≤ ng := fb_ct_le _ _
theorem valS_le {br : Nat → Nat → Bool} {nc ng N v : Nat} (h : valS br nc ng N = some v) : v ≤ ng := by
  unfold valS at h
  split at h
  · cases h; exact stR_le _ _ _
  · cases h
theorem fmin_le {val : Nat → Option Nat} {n w i ng : Nat} (hv : ∀ N v, val N = some v → v ≤ ng) (h : fmin val n = some (w, i)) : w ≤ ng := hv i w (fmin_some h).2.1
theorem seats_loop {S : AS} {M0 : Mem} (hw : wf S) (hr : repM S M0) {br : Nat → Nat → Bool} (h48 : ∀ g, g < S 0 1 → M0 48 g = nI (bset (fun c => br c g) (S 0 0))) {p1 p2 : Int32} (hp2 : p2 = -1 ∨ ∃ h, h < S 0 1 ∧ p2 = nI h) (hsome : fmin (valS br (S 0 0) (S 0 1)) ((S 0 0 + 1) ^ S 0 1) ≠ none) {post : Int32 → Mem → Prop}
    (hp : ∀ M w i, (∀ a, a ≠ 50 → a ≠ 51 → M a = M0 a) → fmin (valS br (S 0 0) (S 0 1)) ((S 0 0 + 1) ^ S 0 1) = some (w, i) → (p2 = -1 → post (nI (S 0 1 - w)) M) ∧ ∀ h, h < S 0 1 → p2 = nI h → post (chI (S 0 0) (rowN (S 0 0 + 1) (S 0 1) i h)) M) :
    ∀ (m N : Nat) (M : Mem) (x : Int32), N + m = (S 0 0 + 1) ^ S 0 1 → (∀ a, a ≠ 50 → a ≠ 51 → M a = M0 a) → bestS (S 0 1) (S 0 0 + 1) (fmin (valS br (S 0 0) (S 0 1)) N) x M → lp_X6_seats_41 p1 p2 post (m + 1) x (nI N) M := by
  have hw0 := hw
  obtain ⟨⟨w1, w2, w3, w4, w5, w6⟩, -⟩ := hw
  have hpb := pow_b (base := S 0 0 + 1) (i := S 0 1) (by omega) w2
  intro m
  induction m with
  | zero =>
    intro N M x hN hs hb
    have hr' : repM S M := hr.of (fun a _ ha => hs a (by omega) (by omega))
    have e : N = (S 0 0 + 1) ^ S 0 1 := by omega
    unfold lp_X6_seats_41
    rw [hr'.1.1, addI1]
    refine rowsOf_ok hw0 hr' ⟨fun _ => ?_, fun h => absurd ((leI (by omega) (by omega)).mpr (by omega)) h⟩
    rw [e] at hb
    cases hf : fmin (valS br (S 0 0) (S 0 1)) ((S 0 0 + 1) ^ S 0 1) with
    | none => exact absurd hf hsome
    | some p =>
      obtain ⟨w, i⟩ := p
      rw [hf] at hb
      obtain ⟨b1, b2⟩ := hb
      obtain ⟨q1, q2⟩ := hp M w i hs hf
      rcases hp2 with z | ⟨h, hh, z⟩
      · refine ⟨fun q => absurd z q, fun _ => by rw [b1]; exact q1 z⟩
      · subst z
        have hrl := rowN_le (nc := S 0 0) (ng := S 0 1) (N := i) (g := h)
        rw [hr'.1.1, cl (show h < 2147483648 by omega), b2 h hh, eqI (by omega) (by omega)]
        have q3 := q2 h hh rfl
        refine ⟨fun _ => ⟨inI (by omega) (by decide), fun q => ⟨inI (by omega) (by decide), ?_⟩, fun q => ?_⟩, fun q => absurd q (m1_ne (by omega))⟩
        · rw [show chI (S 0 0) (rowN (S 0 0 + 1) (S 0 1) i h) = nI (rowN (S 0 0 + 1) (S 0 1) i h) from if_neg q] at q3
          exact q3
        · rw [show chI (S 0 0) (rowN (S 0 0 + 1) (S 0 1) i h) = -9 from if_pos q] at q3
          exact q3
  | succ m ih =>
    intro N M x hN hs hb
    have hr' : repM S M := hr.of (fun a _ ha => hs a (by omega) (by omega))
    have xr : x = -9 ∨ ∃ a, a ≤ 5 ∧ x = nI a := by
      cases hf : fmin (valS br (S 0 0) (S 0 1)) N with
      | none => rw [hf] at hb; exact Or.inl hb
      | some p => obtain ⟨w, i⟩ := p; rw [hf] at hb; exact Or.inr ⟨S 0 1 - w, by omega, hb.1⟩
    -- the compare and keep
    have no : ∀ (M1 : Mem), (∀ a, a ≠ 50 → a ≠ 51 → M1 a = M0 a) → M1 51 = M 51 → valS br (S 0 0) (S 0 1) N = none → jn_X6_seats_80 p1 p2 post (fun y3 y4 M' => lp_X6_seats_41 p1 p2 post (m + 1) y3 y4 M') x (nI N) (-9) M1 := by
      intro M1 a1 a2 a3
      unfold jn_X6_seats_80
      have hle : (-9 : Int32) ≤ x := by
        rcases xr with z | ⟨a, ha, z⟩
        · rw [z]; decide
        · rw [z]; exact m9_le (by omega)
      refine ⟨fun _ => ?_, fun q => absurd hle q⟩
      rw [addI1]
      refine ih (N + 1) M1 x (by omega) a1 ?_
      have e : fmin (valS br (S 0 0) (S 0 1)) (N + 1) = fmin (valS br (S 0 0) (S 0 1)) N := by simp only [fmin, a3]
      rw [e]
      cases hf : fmin (valS br (S 0 0) (S 0 1)) N with
      | none => rw [hf] at hb; exact hb
      | some p => obtain ⟨w, i⟩ := p; rw [hf] at hb; exact ⟨hb.1, fun g hg => by rw [a2]; exact hb.2 g hg⟩
    unfold lp_X6_seats_41
    rw [hr'.1.1, addI1]
    refine rowsOf_ok hw0 hr' ⟨fun h => absurd ((leI (by omega) (by omega)).mp h) (by omega), fun _ => ?_⟩
    rw [hr'.1.1, addI1]
    refine layRow_ok hw0 hr' (by omega) (by omega) (Nat.le_refl _) (by omega) (fun M1 a1 a2 => ⟨fun h => no M1 (fun a z1 z2 => (a1 a z1).trans (hs a z1 z2)) (a1 51 (by decide)) (by simp [valS, b2i_z.mp h]), fun h => ?_⟩)
    have hr1 : repM S M1 := hr'.of (fun a _ ha => a1 a (by omega))
    have h48' : ∀ g, g < S 0 1 → M1 48 g = nI (bset (fun c => br c g) (S 0 0)) := fun g hg => by rw [a1 48 (by decide), hs 48 (by decide) (by decide)]; exact h48 g hg
    refine sitBy_ok hw0 hr1 h48' (r := rowN (S 0 0 + 1) (S 0 1) N) (fun g _ => rowN_le) a2 ?_
    cases hbad : badR br (S 0 0) (rowN (S 0 0 + 1) (S 0 1) N) (S 0 1) with
    | true => exact no M1 (fun a z1 z2 => (a1 a z1).trans (hs a z1 z2)) (a1 51 (by decide)) (by simp [valS, hbad])
    | false =>
      have hval : valS br (S 0 0) (S 0 1) N = some (stR (S 0 0) (S 0 1) (rowN (S 0 0 + 1) (S 0 1) N)) := if_pos (by simp [b2i_nz.mp h, hbad])
      have hst := stR_le (S 0 0) (S 0 1) (rowN (S 0 0 + 1) (S 0 1) N)
      show jn_X6_seats_80 _ _ _ _ _ _ (nI (S 0 1 - stR (S 0 0) (S 0 1) (rowN (S 0 0 + 1) (S 0 1) N))) _
      have yes : fmin (valS br (S 0 0) (S 0 1)) (N + 1) = some (stR (S 0 0) (S 0 1) (rowN (S 0 0 + 1) (S 0 1) N), N) → wp_X6_keepRow M1 (fun M12 => lp_X6_seats_41 p1 p2 post (m + 1) (nI (S 0 1 - stR (S 0 0) (S 0 1) (rowN (S 0 0 + 1) (S 0 1) N))) (nI N + 1) M12) := by
        intro e
        refine keepRow_ok hw0 hr1 (fun M2 c1 c2 => ?_)
        rw [addI1]
        refine ih (N + 1) M2 _ (by omega) (fun a z1 z2 => (c1 a z2).trans ((a1 a z1).trans (hs a z1 z2))) ?_
        rw [e]
        exact ⟨rfl, fun g hg => by rw [c2 g hg]; exact a2 g hg⟩
      unfold jn_X6_seats_80
      cases hf : fmin (valS br (S 0 0) (S 0 1)) N with
      | none =>
        rw [hf] at hb
        have hb : x = -9 := hb
        subst hb
        refine ⟨fun q => absurd q (m9_nle (by omega)), fun _ => yes (by simp only [fmin, hval, hf])⟩
      | some p =>
        obtain ⟨w, i⟩ := p
        rw [hf] at hb
        obtain ⟨b1, b2⟩ := hb
        have hwl := fmin_le (ng := S 0 1) (fun N v => valS_le) hf
        subst b1
        rw [leI (by omega) (by omega)]
        refine ⟨fun q => ?_, fun q => yes (by simp only [fmin, hval, hf, if_pos (show stR (S 0 0) (S 0 1) (rowN (S 0 0 + 1) (S 0 1) N) < w by omega)])⟩
        rw [addI1]
        refine ih (N + 1) M1 _ (by omega) (fun a z1 z2 => (a1 a z1).trans (hs a z1 z2)) ?_
        have e : fmin (valS br (S 0 0) (S 0 1)) (N + 1) = some (w, i) := by simp only [fmin, hval, hf, if_neg (show ¬ stR (S 0 0) (S 0 1) (rowN (S 0 0 + 1) (S 0 1) N) < w by omega)]
        rw [e]
        exact ⟨rfl, fun g hg => by rw [a1 51 (by decide)]; exact b2 g hg⟩
theorem okR_cong {nc ng : Nat} {r q : Nat → Nat} (h : ∀ g, g < ng → r g = q g) (h1 : okR nc ng r) : okR nc ng q :=
  ⟨fun g hg => by rw [← h g hg]; exact h1.1 g hg, fun g k hg hk hne e => by rw [← h g hg]; exact h1.2 g k hg hk hne (by rw [h g hg, h k hk]; exact e)⟩
theorem borneR_cong {br : Nat → Nat → Bool} {nc ng : Nat} {r q : Nat → Nat} (h : ∀ g, g < ng → r g = q g) (h1 : borneR br nc ng r) : borneR br nc ng q :=
  fun g hg hl => by rw [← h g hg] at hl ⊢; exact h1 g hg hl
theorem stR_cong {nc ng : Nat} {r q : Nat → Nat} (h : ∀ g, g < ng → r g = q g) : stR nc ng r = stR nc ng q := fb_ct_cong (fun g hg => by rw [h g hg])
theorem valS_of {br : Nat → Nat → Bool} {nc ng : Nat} (hn : 1 ≤ ng) {q : Nat → Nat} (h1 : okR nc ng q) (h2 : borneR br nc ng q) : numR (nc + 1) ng q ng < (nc + 1) ^ ng ∧ valS br nc ng (numR (nc + 1) ng q ng) = some (stR nc ng q) := by
  have hd : ∀ g, g < ng → q g < nc + 1 := fun g hg => Nat.lt_succ_of_le (h1.1 g hg)
  have hrow : ∀ g, g < ng → q g = rowN (nc + 1) ng (numR (nc + 1) ng q ng) g := fun g hg => (rowN_of (Nat.succ_pos nc) hd hn hg).symm
  refine ⟨numR_lt hd ng (Nat.le_refl _) hn, ?_⟩
  have o1 := (once_okR (nc := nc) (ng := ng) (fun g _ => rowN_le)).mpr (okR_cong hrow h1)
  have o2 := (badR_iff (br := br) (nc := nc) (ng := ng) (r := rowN (nc + 1) ng (numR (nc + 1) ng q ng)) (fun g _ => rowN_le)).mpr (borneR_cong hrow h2)
  unfold valS
  rw [o1, o2, if_pos (by decide), stR_cong hrow]
theorem valS_ok {br : Nat → Nat → Bool} {nc ng N v : Nat} (h : valS br nc ng N = some v) : okR nc ng (rowN (nc + 1) ng N) ∧ borneR br nc ng (rowN (nc + 1) ng N) ∧ stR nc ng (rowN (nc + 1) ng N) = v := by
  unfold valS at h
  split at h
  · rename_i q
    simp only [Bool.and_eq_true, Bool.not_eq_true'] at q
    cases h
    exact ⟨(once_okR (fun g _ => rowN_le)).mp q.1, (badR_iff (fun g _ => rowN_le)).mp q.2, rfl⟩
  · cases h
theorem mseats_ok {S : AS} {M : Mem} (hw : wf S) (hr : repM S M) (hn : 1 ≤ S 0 1) {br : Nat → Nat → Bool} (h48 : ∀ g, g < S 0 1 → M 48 g = nI (bset (fun c => br c g) (S 0 0))) {p1 p2 : Int32} (hp2 : p2 = -1 ∨ ∃ h, h < S 0 1 ∧ p2 = nI h) {post : Int32 → Mem → Prop}
    (hp : ∀ M', (∀ a, a ≠ 50 → a ≠ 51 → M' a = M a) → (p2 = -1 → post (nI (S 0 1 - (optF br 100 1 (S 0 0) (S 0 1) (S 0 1) 0).2)) M') ∧ ∀ h, h < S 0 1 → p2 = nI h → post (chI (S 0 0) (rwF S br 100 1 h)) M') : ∃ k, lp_X6_seats_41 p1 p2 post k (-9) 0 M := by
  have hall : okR (S 0 0) (S 0 1) (fun _ => S 0 0) := ⟨fun _ _ => Nat.le_refl _, fun _ _ _ _ _ _ => rfl⟩
  have hallb : borneR br (S 0 0) (S 0 1) (fun _ => S 0 0) := fun g _ h => absurd h (Nat.lt_irrefl _)
  obtain ⟨v1, v2⟩ := valS_of hn hall hallb
  have hsome : fmin (valS br (S 0 0) (S 0 1)) ((S 0 0 + 1) ^ S 0 1) ≠ none := fun h => by
    have := fmin_none h _ v1
    rw [v2] at this
    cases this
  refine ⟨(S 0 0 + 1) ^ S 0 1 + 1, seats_loop hw hr h48 hp2 hsome (fun M1 w i a1 a2 => ?_) ((S 0 0 + 1) ^ S 0 1) 0 M (-9) (by omega) (fun _ _ _ => rfl) rfl⟩
  obtain ⟨f1, f2, f3⟩ := fmin_some a2
  obtain ⟨o1, o2, o3⟩ := valS_ok f2
  have hnum : numR (S 0 0 + 1) (S 0 1) (rowN (S 0 0 + 1) (S 0 1) i) (S 0 1) = i := by rw [rowN_num _ (Nat.le_refl _), Nat.mod_eq_of_lt f1]
  obtain ⟨e1, e2⟩ := seats_first hn hw.1.2.1 o1 o2 (fun q q1 q2 => by
    obtain ⟨z1, z2⟩ := valS_of hn q1 q2
    obtain ⟨y1, y2⟩ := f3 _ _ z1 z2
    rw [o3, hnum]
    exact ⟨y1, fun e => y2 e⟩)
  obtain ⟨p1', p2'⟩ := hp M1 a1
  refine ⟨fun z => ?_, fun h hh z => ?_⟩
  · have := p1' z
    rw [e2, o3] at this
    exact this
  · have := p2' h hh z
    rw [e1 h hh]
    exact this
/-! least -/
def valL (br : Nat → Nat → Bool) (nc ng N : Nat) : Option Nat := if onceJ nc ng (rowN nc ng N) ng = true then some (ubR br ng (rowN nc ng N)) else none
def bestL (ng base : Nat) (f : Option (Nat × Nat)) (x : Int32) (M : Mem) : Prop := match f with
  | none => x = -9
  | some (w, i) => x = nI w ∧ ∀ g, g < ng → M 51 g = nI (rowN base ng i g)
theorem valL_le {br : Nat → Nat → Bool} {nc ng N v : Nat} (h : valL br nc ng N = some v) : v ≤ ng := by
  unfold valL at h
  split at h
  · cases h; exact fb_ct_le _ _
  · cases h
theorem ub_step {b : Nat} (h : b < 2) : (1 : Int32) - nI b = nI (1 - b) := by
  rw [show (1 : Int32) = nI 1 from rfl, subI (by omega)]
theorem least_in {S : AS} {M : Mem} (hw : wf S) (hr : repM S M) {br : Nat → Nat → Bool} (h48 : ∀ g, g < S 0 1 → M 48 g = nI (bset (fun c => br c g) (S 0 0))) {r : Nat → Nat} (hd : ∀ g, g < S 0 1 → r g < S 0 0) (h50 : ∀ g, g < S 0 1 → M 50 g = nI (r g)) {p1 p2 x3 x4 : Int32} {post : Int32 → Mem → Prop} {B : Int32 → Int32 → Mem → Prop}
    (hp : (x3 = (-9) → jn_X6_least_124 p1 p2 post B x4 (nI (ubR br (S 0 1) r)) M) ∧ (¬ x3 = (-9) → ((x3 ≤ nI (ubR br (S 0 1) r) → B x3 (x4 + 1) M) ∧ (¬ x3 ≤ nI (ubR br (S 0 1) r) → jn_X6_least_124 p1 p2 post B x4 (nI (ubR br (S 0 1) r)) M)))) :
    ∀ (m i : Nat), i + m = S 0 1 → lp_X6_least_73 p1 p2 post B (m + 1) x3 x4 (nI (ubR br i r)) (nI i) M := by
  obtain ⟨⟨w1, w2, w3, w4, w5, w6⟩, -⟩ := hw
  intro m
  induction m with
  | zero =>
    intro i hi
    have e : i = S 0 1 := by omega
    subst e
    unfold lp_X6_least_73
    rw [hr.1.2.1]
    exact ⟨fun _ => hp, fun h => absurd ((leI (by omega) (by omega)).mpr (by omega)) h⟩
  | succ m ih =>
    intro i hi
    have hbl : bset (fun c => br c i) (S 0 0) < 32 := Nat.lt_of_lt_of_le (bset_lt _ _) (pow5 w1)
    have hdi := hd i (by omega)
    unfold lp_X6_least_73
    rw [hr.1.2.1, cl (show i < 2147483648 by omega), h50 i (by omega), h48 i (by omega), bitI (by omega) (by omega), ub_step (Nat.mod_lt _ (by decide)), nI_add, addI1]
    refine ⟨fun h => absurd ((leI (by omega) (by omega)).mp h) (by omega), fun _ => ⟨inI (by omega) (by decide), inI (by omega) (by decide), fun v hv => ?_⟩⟩
    subst hv
    have e : ubR br (i + 1) r = ubR br i r + (1 - bset (fun c => br c i) (S 0 0) / 2 ^ r i % 2) := by
      unfold ubR
      rw [fb_ct_succ]
      have hb := bset_in (p := fun c => br c i) hdi
      rw [Nat.testBit_eq_decide_div_mod_eq] at hb
      cases z : br (r i) i with
      | true =>
        rw [z] at hb
        have : bset (fun c => br c i) (S 0 0) / 2 ^ r i % 2 = 1 := by simpa using hb
        rw [this]; rfl
      | false =>
        rw [z] at hb
        have h2 : bset (fun c => br c i) (S 0 0) / 2 ^ r i % 2 < 2 := Nat.mod_lt _ (by decide)
        have : bset (fun c => br c i) (S 0 0) / 2 ^ r i % 2 = 0 := by
          rw [decide_eq_false_iff_not] at hb
          generalize bset (fun c => br c i) (S 0 0) / 2 ^ r i % 2 = y at *
          omega
        rw [this]; rfl
    rw [← e]
    exact ih (i + 1) (by omega)
theorem rowL_lt {nc ng N g : Nat} (h : 1 ≤ nc) : rowN nc ng N g < nc := Nat.mod_lt _ h
theorem least_loop {S : AS} {M0 : Mem} (hw : wf S) (hr : repM S M0) (hc1 : 1 ≤ S 0 0) {br : Nat → Nat → Bool} (h48 : ∀ g, g < S 0 1 → M0 48 g = nI (bset (fun c => br c g) (S 0 0))) {p1 p2 : Int32} (hp2 : p2 = -1 ∨ ∃ h, h < S 0 1 ∧ p2 = nI h) {post : Int32 → Mem → Prop}
    (hp : ∀ M, (∀ a, a ≠ 50 → a ≠ 51 → M a = M0 a) → (fmin (valL br (S 0 0) (S 0 1)) (S 0 0 ^ S 0 1) = none → post (-9) M) ∧ ∀ w i, fmin (valL br (S 0 0) (S 0 1)) (S 0 0 ^ S 0 1) = some (w, i) → (p2 = -1 → post (nI w) M) ∧ ∀ h, h < S 0 1 → p2 = nI h → post (nI (rowN (S 0 0) (S 0 1) i h)) M) :
    ∀ (m N : Nat) (M : Mem) (x : Int32), N + m = S 0 0 ^ S 0 1 → (∀ a, a ≠ 50 → a ≠ 51 → M a = M0 a) → bestL (S 0 1) (S 0 0) (fmin (valL br (S 0 0) (S 0 1)) N) x M → lp_X6_least_41 p1 p2 post (m + 1) x (nI N) M := by
  have hw0 := hw
  obtain ⟨⟨w1, w2, w3, w4, w5, w6⟩, -⟩ := hw
  have hpb := pow_b (base := S 0 0) (i := S 0 1) (by omega) w2
  intro m
  induction m with
  | zero =>
    intro N M x hN hs hb
    have hr' : repM S M := hr.of (fun a _ ha => hs a (by omega) (by omega))
    have e : N = S 0 0 ^ S 0 1 := by omega
    unfold lp_X6_least_41
    rw [hr'.1.1]
    refine rowsOf_ok hw0 hr' ⟨fun _ => ?_, fun h => absurd ((leI (by omega) (by omega)).mpr (by omega)) h⟩
    rw [e] at hb
    obtain ⟨q0, q1⟩ := hp M hs
    cases hf : fmin (valL br (S 0 0) (S 0 1)) (S 0 0 ^ S 0 1) with
    | none =>
      rw [hf] at hb
      have hb : x = -9 := hb
      subst hb
      have q0 := q0 hf
      exact ⟨fun _ => q0, fun _ => ⟨fun q => absurd rfl q, fun _ => q0⟩⟩
    | some p =>
      obtain ⟨w, i⟩ := p
      rw [hf] at hb
      obtain ⟨b1, b2⟩ := hb
      obtain ⟨q1, q2⟩ := q1 w i hf
      have hwl := fmin_le (ng := S 0 1) (fun N v => valL_le) hf
      rcases hp2 with z | ⟨h, hh, z⟩
      · exact ⟨fun _ => by rw [b1]; exact q1 z, fun q => absurd z q⟩
      · subst z
        rw [cl (show h < 2147483648 by omega), b2 h hh]
        exact ⟨fun q => absurd q (m1_ne (by omega)), fun _ => ⟨fun _ => ⟨inI (by omega) (by decide), q2 h hh rfl⟩, fun q => absurd q (by rw [b1]; exact m9_ne (by omega))⟩⟩
  | succ m ih =>
    intro N M x hN hs hb
    have hr' : repM S M := hr.of (fun a _ ha => hs a (by omega) (by omega))
    unfold lp_X6_least_41
    rw [hr'.1.1]
    refine rowsOf_ok hw0 hr' ⟨fun h => absurd ((leI (by omega) (by omega)).mp h) (by omega), fun _ => ?_⟩
    rw [hr'.1.1]
    refine layRow_ok hw0 hr' hc1 (by omega) (by omega) (by omega) (fun M1 a1 a2 => ⟨fun h => ?_, fun h => ⟨S 0 1 + 1, ?_⟩⟩)
    · rw [addI1]
      refine ih (N + 1) M1 x (by omega) (fun a z1 z2 => (a1 a z1).trans (hs a z1 z2)) ?_
      have e : fmin (valL br (S 0 0) (S 0 1)) (N + 1) = fmin (valL br (S 0 0) (S 0 1)) N := by simp only [fmin, valL, b2i_z.mp h, Bool.false_eq_true, if_false]
      rw [e]
      cases hf : fmin (valL br (S 0 0) (S 0 1)) N with
      | none => rw [hf] at hb; exact hb
      | some p => obtain ⟨w, i⟩ := p; rw [hf] at hb; exact ⟨hb.1, fun g hg => by rw [a1 51 (by decide)]; exact hb.2 g hg⟩
    · have hr1 : repM S M1 := hr'.of (fun a _ ha => a1 a (by omega))
      have h48' : ∀ g, g < S 0 1 → M1 48 g = nI (bset (fun c => br c g) (S 0 0)) := fun g hg => by rw [a1 48 (by decide), hs 48 (by decide) (by decide)]; exact h48 g hg
      have hval : valL br (S 0 0) (S 0 1) N = some (ubR br (S 0 1) (rowN (S 0 0) (S 0 1) N)) := if_pos (b2i_nz.mp h)
      have hub : ubR br (S 0 1) (rowN (S 0 0) (S 0 1) N) ≤ S 0 1 := fb_ct_le _ _
      have yes : fmin (valL br (S 0 0) (S 0 1)) (N + 1) = some (ubR br (S 0 1) (rowN (S 0 0) (S 0 1) N), N) → jn_X6_least_124 p1 p2 post (fun y3 y4 M' => lp_X6_least_41 p1 p2 post (m + 1) y3 y4 M') (nI N) (nI (ubR br (S 0 1) (rowN (S 0 0) (S 0 1) N))) M1 := by
        intro e
        unfold jn_X6_least_124
        refine keepRow_ok hw0 hr1 (fun M2 c1 c2 => ?_)
        rw [addI1]
        refine ih (N + 1) M2 _ (by omega) (fun a z1 z2 => (c1 a z2).trans ((a1 a z1).trans (hs a z1 z2))) ?_
        rw [e]
        exact ⟨rfl, fun g hg => by rw [c2 g hg]; exact a2 g hg⟩
      refine least_in hw0 hr1 h48' (r := rowN (S 0 0) (S 0 1) N) (fun g _ => rowL_lt hc1) a2 ?_ (S 0 1) 0 (by omega)
      cases hf : fmin (valL br (S 0 0) (S 0 1)) N with
      | none =>
        rw [hf] at hb
        have hb : x = -9 := hb
        subst hb
        exact ⟨fun _ => yes (by simp only [fmin, hval, hf]), fun q => absurd rfl q⟩
      | some p =>
        obtain ⟨w, i⟩ := p
        rw [hf] at hb
        obtain ⟨b1, b2⟩ := hb
        have hwl := fmin_le (ng := S 0 1) (fun N v => valL_le) hf
        subst b1
        rw [leI (by omega) (by omega)]
        refine ⟨fun q => absurd q (m9_ne (by omega)), fun _ => ⟨fun q => ?_, fun q => yes (by simp only [fmin, hval, hf, if_pos (show ubR br (S 0 1) (rowN (S 0 0) (S 0 1) N) < w by omega)])⟩⟩
        rw [addI1]
        refine ih (N + 1) M1 _ (by omega) (fun a z1 z2 => (a1 a z1).trans (hs a z1 z2)) ?_
        have e : fmin (valL br (S 0 0) (S 0 1)) (N + 1) = some (w, i) := by simp only [fmin, hval, hf, if_neg (show ¬ ubR br (S 0 1) (rowN (S 0 0) (S 0 1) N) < w by omega)]
        rw [e]
        exact ⟨rfl, fun g hg => by rw [a1 51 (by decide)]; exact b2 g hg⟩
theorem ubR_cong {br : Nat → Nat → Bool} {ng : Nat} {r q : Nat → Nat} (h : ∀ g, g < ng → r g = q g) : ubR br ng r = ubR br ng q := fb_ct_cong (fun g hg => by rw [h g hg])
theorem valL_of {br : Nat → Nat → Bool} {nc ng : Nat} (hc1 : 1 ≤ nc) (hn : 1 ≤ ng) {q : Nat → Nat} (h1 : okR nc ng q) (h2 : ∀ g, g < ng → q g < nc) : numR nc ng q ng < nc ^ ng ∧ valL br nc ng (numR nc ng q ng) = some (ubR br ng q) := by
  have hrow : ∀ g, g < ng → q g = rowN nc ng (numR nc ng q ng) g := fun g hg => (rowN_of hc1 h2 hn hg).symm
  refine ⟨numR_lt h2 ng (Nat.le_refl _) hn, ?_⟩
  have o1 := (once_okR (nc := nc) (ng := ng) (fun g _ => Nat.le_of_lt (rowL_lt hc1))).mpr (okR_cong hrow h1)
  unfold valL
  rw [o1, if_pos rfl, ubR_cong hrow]
theorem mleast_ok {S : AS} {M : Mem} (hw : wf S) (hr : repM S M) (hc1 : 1 ≤ S 0 0) (hn : 1 ≤ S 0 1) {br : Nat → Nat → Bool} (h48 : ∀ g, g < S 0 1 → M 48 g = nI (bset (fun c => br c g) (S 0 0))) {p1 p2 : Int32} (hp2 : p2 = -1 ∨ ∃ h, h < S 0 1 ∧ p2 = nI h) {post : Int32 → Mem → Prop}
    (hp : ∀ M', (∀ a, a ≠ 50 → a ≠ 51 → M' a = M a) → (100 ≤ (optF br 1 100 (S 0 0) (S 0 1) (S 0 1) 0).2 → post (-9) M') ∧ ((optF br 1 100 (S 0 0) (S 0 1) (S 0 1) 0).2 < 100 → (p2 = -1 → post (nI (optF br 1 100 (S 0 0) (S 0 1) (S 0 1) 0).2) M') ∧ ∀ h, h < S 0 1 → p2 = nI h → post (chI (S 0 0) (rwF S br 1 100 h)) M')) : ∃ k, lp_X6_least_41 p1 p2 post k (-9) 0 M := by
  refine ⟨S 0 0 ^ S 0 1 + 1, least_loop hw hr hc1 h48 hp2 (fun M1 a1 => ⟨fun a2 => ?_, fun w i a2 => ?_⟩) (S 0 0 ^ S 0 1) 0 M (-9) (by omega) (fun _ _ _ => rfl) rfl⟩
  · refine (hp M1 a1).1 (least_none (fun q q1 q2 => ?_))
    obtain ⟨z1, z2⟩ := valL_of (br := br) hc1 hn q1 q2
    rw [fmin_none a2 _ z1] at z2
    cases z2
  · obtain ⟨f1, f2, f3⟩ := fmin_some a2
    have f2' := f2
    unfold valL at f2'
    split at f2'
    · rename_i q
      have o1 := (once_okR (nc := S 0 0) (ng := S 0 1) (fun g _ => Nat.le_of_lt (rowL_lt hc1))).mp q
      have o3 : ubR br (S 0 1) (rowN (S 0 0) (S 0 1) i) = w := Option.some.inj f2'
      have hnum : numR (S 0 0) (S 0 1) (rowN (S 0 0) (S 0 1) i) (S 0 1) = i := by rw [rowN_num _ (Nat.le_refl _), Nat.mod_eq_of_lt f1]
      obtain ⟨e1, e2⟩ := least_first hn hw.1.2.1 o1 (fun g _ => rowL_lt hc1) (fun q q1 q2 => by
        obtain ⟨z1, z2⟩ := valL_of (br := br) hc1 hn q1 q2
        obtain ⟨y1, y2⟩ := f3 _ _ z1 z2
        rw [o3, hnum]
        exact ⟨y1, fun e => y2 e⟩)
      have e2 : (optF br 1 100 (S 0 0) (S 0 1) (S 0 1) 0).2 = w := e2.trans o3
      have hwl := fmin_le (ng := S 0 1) (fun N v => valL_le) a2
      have hn5 := hw.1.2.1
      obtain ⟨p1', p2'⟩ := (hp M1 a1).2 (by omega)
      refine ⟨fun z => ?_, fun h hh z => ?_⟩
      · have := p1' z
        rw [e2] at this
        exact this
      · have := p2' h hh z
        rw [← e1 h hh, show chI (S 0 0) (rowN (S 0 0) (S 0 1) i h) = nI (rowN (S 0 0) (S 0 1) i h) from if_neg (Nat.ne_of_lt (rowL_lt hc1))] at this
        exact this
    · cases f2'
