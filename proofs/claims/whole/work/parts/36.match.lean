/-! rows of chairs by guests: r g is the chair of guest g, or nc: he stands -/
theorem count_inj : ∀ (ng nc : Nat) (T N : Nat → Bool) (f : Nat → Nat), (∀ g, g < ng → T g = true → f g < nc ∧ N (f g) = true) → (∀ g h, g < ng → h < ng → T g = true → T h = true → f g = f h → g = h) → fb_ct T ng ≤ fb_ct N nc
  | 0, nc, T, N, f, _, _ => Nat.zero_le _
  | ng + 1, nc, T, N, f, h1, h2 => by
    rw [fb_ct_succ]
    cases q : T ng with
    | false =>
      have := count_inj ng nc T N f (fun g hg => h1 g (by omega)) (fun g h hg hh => h2 g h (by omega) (by omega))
      simpa using this
    | true =>
      obtain ⟨a1, a2⟩ := h1 ng (by omega) q
      have e := fb_ct_upd N false a1
      simp only [a2, if_true, Bool.false_eq_true, if_false, Nat.add_zero] at e
      have := count_inj ng nc T (fun k => if k = f ng then false else N k) f (fun g hg qg => by
        obtain ⟨b1, b2⟩ := h1 g (by omega) qg
        refine ⟨b1, ?_⟩
        have hne : f g ≠ f ng := fun z => by
          have := h2 g ng (by omega) (by omega) qg q z
          omega
        simp [hne, b2]) (fun g h hg hh => h2 g h (by omega) (by omega))
      simp only [if_true]
      omega
def fullM (br : Nat → Nat → Bool) (nc ng : Nat) : Prop := ∃ f : Nat → Nat, (∀ g, g < ng → f g < nc ∧ br (f g) g = true) ∧ ∀ g h, g < ng → h < ng → f g = f h → g = h
theorem hallC_iff {br : Nat → Nat → Bool} {nc ng : Nat} (hng : ng ≤ 5) : hallC br nc ng = true ↔ fullM br nc ng := by
  unfold hallC
  rw [Bool.not_eq_true', anyB_fi]
  constructor
  · intro h
    obtain ⟨f, a1, a2⟩ := hall_thm br nc ng (fb_ct (fun _ => true) ng) (fun _ => true) (fun _ => true) rfl (by
      intro T _
      have hs := h (bset T ng) (bset_lt T ng)
      have e1 : pc (bset T ng) = fb_ct T ng := fb_ct_bset T hng
      have e2 : fb_ct (nbr br ng (bset T ng)) nc = fb_ct (fun c => true && anyB (fun g => T g && br c g) ng) nc := fb_ct_cong (fun c _ => by
        unfold nbr
        rw [Bool.true_and]
        exact anyB_cong (fun g hg => by rw [bset_in hg]))
      rcases Nat.eq_zero_or_pos (bset T ng) with z | z
      · have : fb_ct T ng = 0 := by rw [← e1, z]; exact fb_ct_zero.mpr (fun j _ => by simp)
        omega
      · rw [show decide (1 ≤ bset T ng) = true by simp; omega, Bool.true_and] at hs
        unfold shortB at hs
        rw [decide_eq_false_iff_not, e1, e2] at hs
        omega)
    exact ⟨f, fun g hg => ⟨(a1 g hg rfl).1, (a1 g hg rfl).2.2⟩, fun g h hg hh e => a2 g h hg hh rfl rfl e⟩
  · rintro ⟨f, a1, a2⟩ s hs
    have e : shortB br nc ng s = false := by
      unfold shortB
      rw [decide_eq_false_iff_not]
      have h1 : pc s = fb_ct (fun i => s.testBit i) ng := by
        have e1 := fb_ct_bset (fun i => s.testBit i) hng
        rw [bset_self hs] at e1
        exact e1
      have := count_inj ng nc (fun i => s.testBit i) (nbr br ng s) f (fun g hg q => ⟨(a1 g hg).1, anyB_t hg (by simp [q, (a1 g hg).2])⟩) (fun g h hg hh _ _ e => a2 g h hg hh e)
      omega
    rw [e, Bool.and_false]
def okR (nc ng : Nat) (r : Nat → Nat) : Prop := (∀ g, g < ng → r g ≤ nc) ∧ ∀ g h, g < ng → h < ng → g ≠ h → r g = r h → r g = nc
def borneR (br : Nat → Nat → Bool) (nc ng : Nat) (r : Nat → Nat) : Prop := ∀ g, g < ng → r g < nc → br (r g) g = true
def stR (nc ng : Nat) (r : Nat → Nat) : Nat := fb_ct (fun g => decide (r g = nc)) ng
/-- the reference's table: the sets of chairs on which the first i guests can sit -/
def csF (br : Nat → Nat → Bool) (nc : Nat) : Nat → Nat → Bool
  | 0, s => decide (s = 0)
  | i + 1, s => csF br nc i s || anyB (fun c => s.testBit c && (br c i && csF br nc i (s - 2 ^ c))) nc
theorem bit_sub {s c : Nat} (h : s.testBit c = true) : 2 ^ c ≤ s := Nat.ge_two_pow_of_testBit h
theorem bits_at (s c i : Nat) : s.testBit i = if i < c then (s % 2 ^ c).testBit i else (s / 2 ^ c).testBit (i - c) := by
  have a := Nat.testBit_two_pow_mul_add (s / 2 ^ c) (Nat.mod_lt s (Nat.two_pow_pos c)) i
  rwa [Nat.div_add_mod] at a
theorem bits_of {s c q : Nat} (hq : s = 2 ^ c * q + s % 2 ^ c) (i : Nat) : s.testBit i = if i < c then (s % 2 ^ c).testBit i else q.testBit (i - c) := by
  have a := Nat.testBit_two_pow_mul_add q (Nat.mod_lt s (Nat.two_pow_pos c)) i
  rwa [← hq] at a
theorem add_bit {s c : Nat} (h : s.testBit c = false) (i : Nat) : (s + 2 ^ c).testBit i = (s.testBit i || decide (i = c)) := by
  have hq : s / 2 ^ c % 2 = 0 := by
    rw [Nat.testBit_eq_decide_div_mod_eq, decide_eq_false_iff_not] at h
    omega
  have hm : s % 2 ^ c < 2 ^ c := Nat.mod_lt _ (Nat.two_pow_pos c)
  have e2 : s + 2 ^ c = 2 ^ c * (s / 2 ^ c + 1) + s % 2 ^ c := by
    have e1 := Nat.div_add_mod s (2 ^ c)
    rw [Nat.mul_add, Nat.mul_one]
    omega
  have b := Nat.testBit_two_pow_mul_add (s / 2 ^ c + 1) hm i
  rw [e2, b, bits_at s c i]
  by_cases hi : i < c
  · simp [hi, show ¬ i = c by omega]
  · simp only [if_neg hi]
    by_cases e : i = c
    · subst e
      rw [Nat.sub_self, Nat.testBit_zero, Nat.testBit_zero]
      simp
      omega
    · obtain ⟨k, hk⟩ : ∃ k, i - c = k + 1 := ⟨i - c - 1, by omega⟩
      rw [hk, Nat.testBit_succ, Nat.testBit_succ, show (s / 2 ^ c + 1) / 2 = s / 2 ^ c / 2 by omega]
      simp [e]
theorem half_odd {q : Nat} (h : q % 2 = 1) : (q - 1) / 2 = q / 2 := by omega
theorem pos_odd {q : Nat} (h : q % 2 = 1) : 1 ≤ q := by omega
theorem sub_bit {s c : Nat} (h : s.testBit c = true) (i : Nat) : (s - 2 ^ c).testBit i = (s.testBit i && !decide (i = c)) := by
  have hq : s / 2 ^ c % 2 = 1 := by
    rw [Nat.testBit_eq_decide_div_mod_eq, decide_eq_true_eq] at h
    exact h
  have hm : s % 2 ^ c < 2 ^ c := Nat.mod_lt _ (Nat.two_pow_pos c)
  have e2 : s - 2 ^ c = 2 ^ c * (s / 2 ^ c - 1) + s % 2 ^ c := by
    have e1 := Nat.div_add_mod s (2 ^ c)
    rw [Nat.mul_sub, Nat.mul_one]
    have : 2 ^ c * 1 ≤ 2 ^ c * (s / 2 ^ c) := Nat.mul_le_mul_left _ (pos_odd hq)
    omega
  have b := Nat.testBit_two_pow_mul_add (s / 2 ^ c - 1) hm i
  rw [e2, b, bits_at s c i]
  by_cases hi : i < c
  · simp [hi, show ¬ i = c by omega]
  · simp only [if_neg hi]
    by_cases e : i = c
    · subst e
      rw [Nat.sub_self, Nat.testBit_zero, Nat.testBit_zero]
      simp
      omega
    · obtain ⟨k, hk⟩ : ∃ k, i - c = k + 1 := ⟨i - c - 1, by omega⟩
      rw [hk, Nat.testBit_succ, Nat.testBit_succ, half_odd hq]
      simp [e]
theorem or_add {s c : Nat} (h : s.testBit c = false) : s ||| 2 ^ c = s + 2 ^ c := by
  apply Nat.eq_of_testBit_eq
  intro i
  rw [Nat.testBit_or, Nat.testBit_two_pow, add_bit h]
  by_cases q : c = i
  · subst q; simp
  · simp [q, show ¬ i = c from fun z => q z.symm]
theorem pc_add {s c : Nat} (hc : c < 5) (h : s.testBit c = false) : pc (s + 2 ^ c) = pc s + 1 := by
  have e := fb_ct_upd (fun i => s.testBit i) true hc
  simp only [h, Bool.false_eq_true, if_false, if_true, Nat.add_zero] at e
  have e2 : pc (s + 2 ^ c) = fb_ct (fun k => if k = c then true else s.testBit k) 5 := fb_ct_cong (fun k _ => by
    rw [add_bit h]
    by_cases q : k = c <;> simp [q])
  exact e2.trans e
theorem add_lt {s c n : Nat} (hs : s < 2 ^ n) (hc : c < n) (h : s.testBit c = false) : s + 2 ^ c < 2 ^ n := by
  rw [← or_add h]
  exact Nat.or_lt_two_pow hs (Nat.pow_lt_pow_right (by decide) hc)
def usedR (nc i s : Nat) (r : Nat → Nat) : Prop := ∀ c, s.testBit c = true ↔ (c < nc ∧ ∃ g, g < i ∧ r g = c)
theorem csF_sound {br : Nat → Nat → Bool} {nc : Nat} (hnc : nc ≤ 5) : ∀ (i s : Nat), csF br nc i s = true → ∃ r, okR nc i r ∧ borneR br nc i r ∧ usedR nc i s r ∧ stR nc i r + pc s = i
  | 0, s, h => by
    have e : s = 0 := by simpa [csF] using h
    subst e
    refine ⟨fun _ => nc, ⟨fun g hg => absurd hg (by omega), fun g _ hg => absurd hg (by omega)⟩, fun g hg => absurd hg (by omega), fun c => ?_, ?_⟩
    · constructor
      · intro q; simp at q
      · rintro ⟨_, g, hg, _⟩; omega
    · have : pc 0 = 0 := fb_ct_zero.mpr (fun j _ => by simp)
      simp [stR, fb_ct, this]
  | i + 1, s, h => by
    simp only [csF, Bool.or_eq_true] at h
    rcases h with h | h
    · obtain ⟨r, r1, r2, r3, r4⟩ := csF_sound hnc i s h
      refine ⟨fun g => if g = i then nc else r g, ⟨fun g hg => ?_, fun g k hg hk hne e => ?_⟩, fun g hg hl => ?_, fun c => ?_, ?_⟩
      · by_cases q : g = i
        · simp [q]
        · simp only [if_neg q]; exact r1.1 g (by omega)
      · by_cases q : g = i
        · simp [q]
        · by_cases q2 : k = i
          · simp only [if_neg q, if_pos q2] at e ⊢; exact e
          · simp only [if_neg q, if_neg q2] at e ⊢; exact r1.2 g k (by omega) (by omega) hne e
      · by_cases q : g = i
        · simp [q] at hl
        · simp only [if_neg q] at hl ⊢; exact r2 g (by omega) hl
      · rw [r3 c]
        constructor
        · rintro ⟨a, g, hg, e⟩
          exact ⟨a, g, by omega, by simp only [if_neg (show ¬ g = i by omega)]; exact e⟩
        · rintro ⟨a, g, hg, e⟩
          by_cases q : g = i
          · simp only [if_pos q] at e; omega
          · simp only [if_neg q] at e; exact ⟨a, g, by omega, e⟩
      · unfold stR at *
        rw [fb_ct_succ]
        have e : fb_ct (fun g => decide ((if g = i then nc else r g) = nc)) i = fb_ct (fun g => decide (r g = nc)) i := fb_ct_cong (fun k hk => by simp [show ¬ k = i by omega])
        rw [e]
        simp
        omega
    · obtain ⟨c0, hc0, q⟩ := anyB_iff.mp h
      simp only [Bool.and_eq_true] at q
      obtain ⟨qb, qbr, qcs⟩ := q
      obtain ⟨r, r1, r2, r3, r4⟩ := csF_sound hnc i (s - 2 ^ c0) qcs
      have hsb := sub_bit qb
      have hno : ∀ g, g < i → r g ≠ c0 := fun g hg e => by
        have : (s - 2 ^ c0).testBit c0 = true := (r3 c0).mpr ⟨hc0, g, hg, e⟩
        rw [hsb c0] at this
        simp at this
      refine ⟨fun g => if g = i then c0 else r g, ⟨fun g hg => ?_, fun g k hg hk hne e => ?_⟩, fun g hg hl => ?_, fun c => ?_, ?_⟩
      · by_cases q : g = i
        · simp [q]; omega
        · simp only [if_neg q]; exact r1.1 g (by omega)
      · by_cases q : g = i
        · by_cases q2 : k = i
          · omega
          · simp only [if_pos q, if_neg q2] at e; exact absurd e.symm (hno k (by omega))
        · by_cases q2 : k = i
          · simp only [if_neg q, if_pos q2] at e; exact absurd e (hno g (by omega))
          · simp only [if_neg q, if_neg q2] at e ⊢; exact r1.2 g k (by omega) (by omega) hne e
      · by_cases q : g = i
        · subst q; simp only [if_true]; exact qbr
        · simp only [if_neg q] at hl ⊢; exact r2 g (by omega) hl
      · constructor
        · intro q
          by_cases e : c = c0
          · subst e; exact ⟨hc0, i, by omega, by simp⟩
          · have : (s - 2 ^ c0).testBit c = true := by rw [hsb c, q]; simp [e]
            obtain ⟨a, g, hg, e2⟩ := (r3 c).mp this
            exact ⟨a, g, by omega, by simp only [if_neg (show ¬ g = i by omega)]; exact e2⟩
        · rintro ⟨a, g, hg, e⟩
          by_cases q : g = i
          · simp only [if_pos q] at e; rw [← e]; exact qb
          · simp only [if_neg q] at e
            have : (s - 2 ^ c0).testBit c = true := (r3 c).mpr ⟨a, g, by omega, e⟩
            rw [hsb c] at this
            simp only [Bool.and_eq_true] at this
            exact this.1
      · have hz : (s - 2 ^ c0).testBit c0 = false := by rw [hsb c0]; simp
        have hp := pc_add (s := s - 2 ^ c0) (show c0 < 5 by omega) hz
        rw [show s - 2 ^ c0 + 2 ^ c0 = s by have := bit_sub qb; omega] at hp
        unfold stR at *
        rw [fb_ct_succ]
        have e : fb_ct (fun g => decide ((if g = i then c0 else r g) = nc)) i = fb_ct (fun g => decide (r g = nc)) i := fb_ct_cong (fun k hk => by simp [show ¬ k = i by omega])
        rw [e]
        simp [show ¬ c0 = nc by omega]
        omega
theorem csF_complete {br : Nat → Nat → Bool} {nc : Nat} (hnc : nc ≤ 5) (r : Nat → Nat) : ∀ (i : Nat), okR nc i r → borneR br nc i r → ∃ s, s < 2 ^ nc ∧ csF br nc i s = true ∧ usedR nc i s r ∧ stR nc i r + pc s = i
  | 0, _, _ => by
    refine ⟨0, Nat.two_pow_pos nc, by simp [csF], fun c => ?_, ?_⟩
    · constructor
      · intro q; simp at q
      · rintro ⟨_, g, hg, _⟩; omega
    · have : pc 0 = 0 := fb_ct_zero.mpr (fun j _ => by simp)
      simp [stR, fb_ct, this]
  | i + 1, h1, h2 => by
    obtain ⟨s, a1, a2, a3, a4⟩ := csF_complete hnc r i ⟨fun g hg => h1.1 g (by omega), fun g k hg hk => h1.2 g k (by omega) (by omega)⟩ (fun g hg => h2 g (by omega))
    rcases Nat.lt_or_ge (r i) nc with q | q
    · have hz : s.testBit (r i) = false := by
        cases e : s.testBit (r i) with
        | false => rfl
        | true =>
          obtain ⟨_, g, hg, e2⟩ := (a3 (r i)).mp e
          have := h1.2 g i (by omega) (by omega) (by omega) e2
          omega
      have hadd := add_bit hz
      have hbit : (s + 2 ^ r i).testBit (r i) = true := by rw [hadd]; simp
      refine ⟨s + 2 ^ r i, add_lt a1 q hz, ?_, fun c => ?_, ?_⟩
      · simp only [csF, Bool.or_eq_true]
        refine Or.inr (anyB_t q ?_)
        rw [hbit, h2 i (by omega) q, Nat.add_sub_cancel, a2]
        rfl
      · rw [hadd c]
        constructor
        · intro z
          simp only [Bool.or_eq_true, decide_eq_true_eq] at z
          rcases z with z | z
          · obtain ⟨b1, g, hg, e⟩ := (a3 c).mp z
            exact ⟨b1, g, by omega, e⟩
          · exact ⟨by omega, i, by omega, z.symm⟩
        · rintro ⟨b1, g, hg, e⟩
          simp only [Bool.or_eq_true, decide_eq_true_eq]
          by_cases z : g = i
          · subst z; exact Or.inr e.symm
          · exact Or.inl ((a3 c).mpr ⟨b1, g, by omega, e⟩)
      · have hp := pc_add (show r i < 5 by omega) hz
        unfold stR at *
        rw [fb_ct_succ]
        simp [show ¬ r i = nc by omega]
        omega
    · have hri : r i = nc := by have := h1.1 i (by omega); omega
      refine ⟨s, a1, by simp only [csF, a2, Bool.true_or], fun c => ?_, ?_⟩
      · rw [a3 c]
        constructor
        · rintro ⟨b1, g, hg, e⟩
          exact ⟨b1, g, by omega, e⟩
        · rintro ⟨b1, g, hg, e⟩
          by_cases z : g = i
          · subst z; omega
          · exact ⟨b1, g, by omega, e⟩
      · unfold stR at *
        rw [fb_ct_succ]
        simp [hri]
        omega
/-- the size of the largest set below n of a table -/
def mostF (can : Nat → Bool) : Nat → Nat
  | 0 => 0
  | n + 1 => if (can n && decide (mostF can n < pc n)) = true then pc n else mostF can n
theorem mostF_ge {can : Nat → Bool} : ∀ {n s : Nat}, s < n → can s = true → pc s ≤ mostF can n
  | n + 1, s, hs, hc => by
    simp only [mostF]
    by_cases e : s = n
    · subst e
      by_cases q : mostF can s < pc s
      · rw [if_pos (by simp [hc, q])]; exact Nat.le_refl _
      · rw [if_neg (by simp [hc, q])]; omega
    · have := mostF_ge (can := can) (show s < n by omega) hc
      split
      · rename_i q
        simp only [Bool.and_eq_true, decide_eq_true_eq] at q
        omega
      · exact this
theorem mostF_at {can : Nat → Bool} : ∀ (n : Nat), mostF can n = 0 ∨ ∃ s, s < n ∧ can s = true ∧ pc s = mostF can n
  | 0 => Or.inl rfl
  | n + 1 => by
    simp only [mostF]
    split
    · rename_i q
      simp only [Bool.and_eq_true, decide_eq_true_eq] at q
      exact Or.inr ⟨n, by omega, q.1, rfl⟩
    · rcases mostF_at (can := can) n with h | ⟨s, h1, h2, h3⟩
      · exact Or.inl h
      · exact Or.inr ⟨s, by omega, h2, h3⟩
theorem mostF_le {can : Nat → Bool} (n : Nat) : mostF can n ≤ 5 := by
  rcases mostF_at (can := can) n with h | ⟨s, _, _, h3⟩
  · omega
  · rw [← h3]; exact pc_le s
/-- how many can sit -/
def mmF (br : Nat → Nat → Bool) (nc ng : Nat) : Nat := mostF (csF br nc ng) 32
theorem mm_row {br : Nat → Nat → Bool} {nc ng : Nat} (hnc : nc ≤ 5) : ∃ r, okR nc ng r ∧ borneR br nc ng r ∧ stR nc ng r + mmF br nc ng = ng := by
  rcases mostF_at (can := csF br nc ng) 32 with h | ⟨s, h1, h2, h3⟩
  · refine ⟨fun _ => nc, ⟨fun _ _ => Nat.le_refl _, fun _ _ _ _ _ _ => rfl⟩, fun g _ h => absurd h (Nat.lt_irrefl nc), ?_⟩
    unfold mmF
    rw [h]
    exact fb_ct_all.mpr (fun k _ => by simp)
  · obtain ⟨r, r1, r2, r3, r4⟩ := csF_sound hnc ng s h2
    exact ⟨r, r1, r2, by unfold mmF; rw [← h3]; exact r4⟩
theorem mm_max {br : Nat → Nat → Bool} {nc ng : Nat} (hnc : nc ≤ 5) {r : Nat → Nat} (h1 : okR nc ng r) (h2 : borneR br nc ng r) : ng ≤ stR nc ng r + mmF br nc ng := by
  obtain ⟨s, a1, a2, a3, a4⟩ := csF_complete hnc r ng h1 h2
  have := mostF_ge (can := csF br nc ng) (show s < 32 from Nat.lt_of_lt_of_le a1 (pow5 hnc)) a2
  unfold mmF
  omega
theorem mm_full {br : Nat → Nat → Bool} {nc ng : Nat} (hnc : nc ≤ 5) (hng : ng ≤ 5) : mmF br nc ng = ng ↔ hallC br nc ng = true := by
  rw [hallC_iff hng]
  constructor
  · intro h
    obtain ⟨r, r1, r2, r3⟩ := mm_row (br := br) (ng := ng) hnc
    have hz : stR nc ng r = 0 := by omega
    have hlt : ∀ g, g < ng → r g < nc := fun g hg => by
      have := fb_ct_zero.mp hz g hg
      have h2 := r1.1 g hg
      simp at this
      omega
    refine ⟨r, fun g hg => ⟨hlt g hg, r2 g hg (hlt g hg)⟩, fun g h hg hh e => ?_⟩
    by_cases q : g = h
    · exact q
    · have := r1.2 g h hg hh q e
      have := hlt g hg
      omega
  · rintro ⟨f, a1, a2⟩
    have := mm_max (br := br) hnc (r := f) (ng := ng) ⟨fun g hg => by have := (a1 g hg).1; omega, fun g h hg hh hne e => absurd (a2 g h hg hh e) hne⟩ (fun g hg _ => (a1 g hg).2)
    have hz : stR nc ng f = 0 := fb_ct_zero.mpr (fun g hg => by have := (a1 g hg).1; simp; omega)
    obtain ⟨r, r1, r2, r3⟩ := mm_row (br := br) (ng := ng) hnc
    omega
