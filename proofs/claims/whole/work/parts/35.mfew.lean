theorem bit1 {a k : Nat} (ha : a < 2147483648) (hk : k < 32) : (nI a >>> (nI k &&& 31)) &&& 1 = 1 ↔ a.testBit k = true := by
  rw [bitI ha hk, Nat.testBit_eq_decide_div_mod_eq]
  have h2 : a / 2 ^ k % 2 < 2 := Nat.mod_lt _ (by decide)
  have e := eqI (a := a / 2 ^ k % 2) (b := 1) (by omega) (by decide)
  rw [show (1 : Int32) = nI 1 from rfl, e]
  simp only [decide_eq_true_eq]
theorem fewI_n {x : Nat} (h : x < 2147483648) : fewI x = -9 ↔ x = 0 := by
  unfold fewI
  by_cases e : x = 0
  · simp [e]
  · rw [if_neg e]
    refine ⟨fun q => ?_, fun q => absurd q e⟩
    have h1 := nI_pos h
    rw [q] at h1
    exact absurd (by decide) h1
theorem mfew_in {S : AS} {M : Mem} (hw : wf S) (hr : repM S M) {br : Nat → Nat → Bool} (h48 : ∀ g, g < S 0 1 → M 48 g = nI (bset (fun c => br c g) (S 0 0))) {s : Nat} (h1 : 1 ≤ s) (hs : s < 32) {p1 : Int32} {post : Int32 → Mem → Prop} {B : Int32 → Int32 → Mem → Prop}
    (hB : B (fewI (fewF (shortB br (S 0 0) (S 0 1)) (s + 1)).1) (nI (s + 1)) M) :
    ∀ (m i : Nat), i + m = S 0 1 → lp_X6_few_46 p1 post B (m + 1) (fewI (fewF (shortB br (S 0 0) (S 0 1)) s).1) (nI s) (nI (bset (fun c => anyB (fun g => s.testBit g && br c g) i) (S 0 0))) (nI i) M := by
  obtain ⟨⟨w1, w2, w3, w4, w5, w6⟩, wc, ws, wb, wr⟩ := hw
  have hpc := pc_le s
  obtain ⟨f1, f2, f3, f4⟩ := fewF_inv (shortB br (S 0 0) (S 0 1)) s
  have no : (shortB br (S 0 0) (S 0 1) s && decide (pc s < (fewF (shortB br (S 0 0) (S 0 1)) s).2)) = false → B (fewI (fewF (shortB br (S 0 0) (S 0 1)) s).1) (nI s + 1) M := by
    intro hf
    have e : fewF (shortB br (S 0 0) (S 0 1)) (s + 1) = fewF (shortB br (S 0 0) (S 0 1)) s := if_neg (by rw [hf, Bool.and_false]; decide)
    rw [addI1, ← e]
    exact hB
  have yes : shortB br (S 0 0) (S 0 1) s = true → pc s < (fewF (shortB br (S 0 0) (S 0 1)) s).2 → B (nI s) (nI s + 1) M := by
    intro a1 a2
    have e : fewF (shortB br (S 0 0) (S 0 1)) (s + 1) = (s, pc s) := if_pos (by simp [h1, a1, a2])
    rw [e] at hB
    have e2 : fewI s = nI s := if_neg (by omega)
    rw [e2] at hB
    rw [addI1]
    exact hB
  intro m
  induction m with
  | zero =>
    intro i hi
    have hi2 : i = S 0 1 := by omega
    subst hi2
    have hbl : bset (fun c => anyB (fun g => s.testBit g && br c g) (S 0 1)) (S 0 0) < 32 := Nat.lt_of_lt_of_le (bset_lt _ _) (pow5 w1)
    have hpb : pc (bset (fun c => anyB (fun g => s.testBit g && br c g) (S 0 1)) (S 0 0)) = fb_ct (nbr br (S 0 1) s) (S 0 0) := fb_ct_bset _ w1
    have hcl := fb_ct_le (nbr br (S 0 1) s) (S 0 0)
    unfold lp_X6_few_46
    rw [hr.1.2.1]
    refine ⟨fun _ => size_ok hbl (size_ok hs ⟨fun h => no ?_, fun h => ⟨fun h2 => yes ?_ ?_, fun h2 => size_ok hs ?_⟩⟩), fun h => absurd ((leI (by omega) (by omega)).mpr (by omega)) h⟩
    · rw [hpb, leI (by omega) (by omega)] at h
      have e : shortB br (S 0 0) (S 0 1) s = false := by unfold shortB; rw [decide_eq_false_iff_not]; omega
      simp [e]
    · rw [hpb, leI (by omega) (by omega)] at h
      unfold shortB; rw [decide_eq_true_iff]; omega
    · rw [fewI_n (by omega)] at h2
      rw [f1 h2]; omega
    · rw [fewI_n (by omega)] at h2
      have hfl : (fewF (shortB br (S 0 0) (S 0 1)) s).1 < 32 := by omega
      have e0 : fewI (fewF (shortB br (S 0 0) (S 0 1)) s).1 = nI (fewF (shortB br (S 0 0) (S 0 1)) s).1 := if_neg h2
      have hpf := pc_le (fewF (shortB br (S 0 0) (S 0 1)) s).1
      rw [hpb, leI (by omega) (by omega)] at h
      have hsh : shortB br (S 0 0) (S 0 1) s = true := by unfold shortB; rw [decide_eq_true_iff]; omega
      rw [e0] at no ⊢
      refine size_ok hfl ⟨fun h3 => no ?_, fun h3 => yes hsh ?_⟩
      · rw [leI (by omega) (by omega)] at h3
        have := f2 h2
        simp [show ¬ pc s < (fewF (shortB br (S 0 0) (S 0 1)) s).2 by omega]
      · rw [leI (by omega) (by omega)] at h3
        have := f2 h2
        omega
  | succ m ih =>
    intro i hi
    unfold lp_X6_few_46
    rw [hr.1.2.1, bit1 (by omega) (by omega), cl (show i < 2147483648 by omega), h48 i (by omega)]
    refine ⟨fun h => absurd ((leI (by omega) (by omega)).mp h) (by omega), fun _ => ⟨fun h v hv => ?_, fun h => ⟨inI (by omega) (by decide), fun v hv => ?_⟩⟩⟩
    · subst hv
      rw [or0, addI1]
      have hf : s.testBit i = false := by cases q : s.testBit i with
        | true => exact absurd q h
        | false => rfl
      have e : bset (fun c => anyB (fun g => s.testBit g && br c g) i) (S 0 0) = bset (fun c => anyB (fun g => s.testBit g && br c g) (i + 1)) (S 0 0) := bset_cong (fun c _ => by simp [anyB, hf])
      rw [e]
      exact ih (i + 1) (by omega)
    · subst hv
      rw [bset_or2, addI1]
      have e : bset (fun c => anyB (fun g => s.testBit g && br c g) i || br c i) (S 0 0) = bset (fun c => anyB (fun g => s.testBit g && br c g) (i + 1)) (S 0 0) := bset_cong (fun c _ => by simp [anyB, h])
      rw [e]
      exact ih (i + 1) (by omega)
theorem mfew_loop {S : AS} {M : Mem} (hw : wf S) (hr : repM S M) {br : Nat → Nat → Bool} (h48 : ∀ g, g < S 0 1 → M 48 g = nI (bset (fun c => br c g) (S 0 0))) {p1 : Int32} {post : Int32 → Mem → Prop} (hp : post (fewI (fewF (shortB br (S 0 0) (S 0 1)) (2 ^ S 0 1)).1) M) :
    ∀ (m i : Nat), i + m = 2 ^ S 0 1 → 1 ≤ i → lp_X6_few_30 p1 post (m + 1) (fewI (fewF (shortB br (S 0 0) (S 0 1)) i).1) (nI i) M := by
  have hw0 := hw
  obtain ⟨⟨w1, w2, w3, w4, w5, w6⟩, wc, ws, wb, wr⟩ := hw
  have h5 := pow5 w2
  intro m
  induction m with
  | zero =>
    intro i hi h1
    have hi2 : i = 2 ^ S 0 1 := by omega
    unfold lp_X6_few_30
    rw [hr.1.2.1, shl1 (by omega)]
    refine ⟨fun _ => ?_, fun h => absurd ((leI (by omega) (by omega)).mpr (by omega)) h⟩
    rw [← hi2] at hp
    exact hp
  | succ m ih =>
    intro i hi h1
    unfold lp_X6_few_30
    rw [hr.1.2.1, shl1 (by omega)]
    refine ⟨fun h => absurd ((leI (by omega) (by omega)).mp h) (by omega), fun _ => ⟨S 0 1 + 1, ?_⟩⟩
    have h := mfew_in hw0 hr h48 h1 (show i < 32 by omega) (p1 := p1) (post := post) (B := fun y2 y3 M' => lp_X6_few_30 p1 post (m + 1) y2 y3 M') (ih (i + 1) (by omega) (by omega)) (S 0 1) 0 (by omega)
    have e : bset (fun c => anyB (fun g => i.testBit g && br c g) 0) (S 0 0) = 0 := bset_zero (fun _ _ => rfl)
    rw [e] at h
    exact h
theorem mfew_ok {S : AS} {M : Mem} (hw : wf S) (hr : repM S M) {br : Nat → Nat → Bool} (h48 : ∀ g, g < S 0 1 → M 48 g = nI (bset (fun c => br c g) (S 0 0))) {p1 : Int32} {post : Int32 → Mem → Prop} (hp : post (fewI (fewF (shortB br (S 0 0) (S 0 1)) (2 ^ S 0 1)).1) M) : ∃ k, lp_X6_few_30 p1 post k (-9) 1 M :=
  ⟨2 ^ S 0 1 - 1 + 1, mfew_loop hw hr h48 hp (2 ^ S 0 1 - 1) 1 (by have := Nat.one_le_two_pow (n := S 0 1); omega) (by omega)⟩
/-! Hall's theorem -/
theorem hall_thm (br : Nat → Nat → Bool) (nc ng : Nat) : ∀ (n : Nat) (G C : Nat → Bool), fb_ct G ng = n → (∀ T : Nat → Bool, (∀ g, g < ng → T g = true → G g = true) → fb_ct T ng ≤ fb_ct (fun c => C c && anyB (fun g => T g && br c g) ng) nc) →
    ∃ f : Nat → Nat, (∀ g, g < ng → G g = true → f g < nc ∧ C (f g) = true ∧ br (f g) g = true) ∧ ∀ g h, g < ng → h < ng → G g = true → G h = true → f g = f h → g = h := by
  intro n
  induction n using Nat.strongRecOn with
  | ind n ih =>
    intro G C hG hH
    by_cases h0 : n = 0
    · subst h0
      have hz := fb_ct_zero.mp hG
      exact ⟨fun _ => 0, fun g hg h => absurd h (by rw [hz g hg]; decide), fun g _ hg _ h => absurd h (by rw [hz g hg]; decide)⟩
    · by_cases ht : ∃ T : Nat → Bool, (∀ g, g < ng → T g = true → G g = true) ∧ 0 < fb_ct T ng ∧ fb_ct T ng < n ∧ fb_ct (fun c => C c && anyB (fun g => T g && br c g) ng) nc = fb_ct T ng
      · -- a tight proper set: match it, and the rest in the other chairs
        obtain ⟨T, t1, t2, t3, t4⟩ := ht
        obtain ⟨f1, a1, a2⟩ := ih (fb_ct T ng) t3 T C rfl (fun U hU => hH U (fun g hg q => t1 g hg (hU g hg q)))
        have hsub : fb_ct (fun g => G g && !T g) ng < n := by
          have e : fb_ct (fun g => T g || (G g && !T g)) ng = fb_ct T ng + fb_ct (fun g => G g && !T g) ng := fb_ct_or (fun k _ q => by simp [q.1] at q)
          have e2 : fb_ct (fun g => T g || (G g && !T g)) ng = fb_ct G ng := fb_ct_cong (fun k hk => by
            cases qT : T k with
            | true => simp [t1 k hk qT]
            | false => simp)
          omega
        obtain ⟨f2, b1, b2⟩ := ih (fb_ct (fun g => G g && !T g) ng) hsub (fun g => G g && !T g) (fun c => C c && !anyB (fun g => T g && br c g) ng) rfl (by
          intro U hU
          have hUT : ∀ k, k < ng → ¬ (T k = true ∧ U k = true) := fun k hk q => by
            have := hU k hk q.2
            simp [q.1] at this
          have e1 : fb_ct (fun g => T g || U g) ng = fb_ct T ng + fb_ct U ng := fb_ct_or hUT
          have h1 := hH (fun g => T g || U g) (fun g hg q => by
            rcases Bool.or_eq_true _ _ |>.mp q with q | q
            · exact t1 g hg q
            · have := hU g hg q
              simp only [Bool.and_eq_true] at this
              exact this.1)
          have e2 : fb_ct (fun c => C c && anyB (fun g => (T g || U g) && br c g) ng) nc ≤ fb_ct (fun c => C c && anyB (fun g => T g && br c g) ng) nc + fb_ct (fun c => (C c && !anyB (fun g => T g && br c g) ng) && anyB (fun g => U g && br c g) ng) nc := by
            have e3 : fb_ct (fun c => (C c && anyB (fun g => T g && br c g) ng) || ((C c && !anyB (fun g => T g && br c g) ng) && anyB (fun g => U g && br c g) ng)) nc = fb_ct (fun c => C c && anyB (fun g => T g && br c g) ng) nc + fb_ct (fun c => (C c && !anyB (fun g => T g && br c g) ng) && anyB (fun g => U g && br c g) ng) nc := fb_ct_or (fun k _ q => by
              have q1 := q.1
              have q2 := q.2
              simp only [Bool.and_eq_true] at q1 q2
              simp [q1.2] at q2)
            rw [← e3]
            refine fb_ct_sub (fun c _ q => ?_)
            simp only [Bool.and_eq_true] at q
            obtain ⟨qC, q⟩ := q
            obtain ⟨g, hg, qg⟩ := anyB_iff.mp q
            simp only [Bool.and_eq_true, Bool.or_eq_true] at qg
            cases qa : anyB (fun g => T g && br c g) ng with
            | true => simp [qC]
            | false =>
              have : U g = true := by
                rcases qg.1 with z | z
                · have := anyB_fi.mp qa g hg
                  simp [z, qg.2] at this
                · exact z
              have : anyB (fun g => U g && br c g) ng = true := anyB_t hg (by simp [this, qg.2])
              simp [qC, this]
          omega)
        refine ⟨fun g => if T g then f1 g else f2 g, fun g hg qG => ?_, fun g h hg hh qg qh e => ?_⟩
        · cases qT : T g with
          | true => simp only [qT, if_true]; exact a1 g hg qT
          | false =>
            simp only [qT, Bool.false_eq_true, if_false]
            obtain ⟨z1, z2, z3⟩ := b1 g hg (by simp [qG, qT])
            simp only [Bool.and_eq_true] at z2
            exact ⟨z1, z2.1, z3⟩
        · cases qT : T g with
          | true =>
            cases qU : T h with
            | true => simp only [qT, qU, if_true] at e; exact a2 g h hg hh qT qU e
            | false =>
              simp only [qT, qU, if_true, Bool.false_eq_true, if_false] at e
              obtain ⟨z1, z2, z3⟩ := b1 h hh (by simp [qh, qU])
              obtain ⟨y1, y2, y3⟩ := a1 g hg qT
              simp only [Bool.and_eq_true, Bool.not_eq_true'] at z2
              rw [← e] at z2
              have := anyB_fi.mp z2.2 g hg
              simp [qT, y3] at this
          | false =>
            cases qU : T h with
            | true =>
              simp only [qT, qU, if_true, Bool.false_eq_true, if_false] at e
              obtain ⟨z1, z2, z3⟩ := b1 g hg (by simp [qg, qT])
              obtain ⟨y1, y2, y3⟩ := a1 h hh qU
              simp only [Bool.and_eq_true, Bool.not_eq_true'] at z2
              rw [e] at z2
              have := anyB_fi.mp z2.2 h hh
              simp [qU, y3] at this
            | false =>
              simp only [qT, qU, Bool.false_eq_true, if_false] at e
              exact b2 g h hg hh (by simp [qg, qT]) (by simp [qh, qU]) e
      · -- no tight proper set: seat one guest anywhere
        have hpos : 0 < fb_ct G ng := by omega
        obtain ⟨g0, hg0, qg0⟩ := fb_ct_pos.mp hpos
        have h1 := hH (fun g => decide (g = g0)) (fun g hg q => by
          have : g = g0 := by simpa using q
          rw [this]; exact qg0)
        have hone : 0 < fb_ct (fun g => decide (g = g0)) ng := fb_ct_pos.mpr ⟨g0, hg0, by simp⟩
        obtain ⟨c0, hc0, qc0⟩ := fb_ct_pos.mp (Nat.lt_of_lt_of_le hone h1)
        simp only [Bool.and_eq_true] at qc0
        obtain ⟨qC, qa⟩ := qc0
        obtain ⟨g1, hg1, qb⟩ := anyB_iff.mp qa
        simp only [Bool.and_eq_true, decide_eq_true_eq] at qb
        have qbr : br c0 g0 = true := by rw [← qb.1]; exact qb.2
        have hlt : fb_ct (fun g => if g = g0 then false else G g) ng + 1 = n := by
          have := fb_ct_upd G false hg0
          simp only [qg0, if_true, Bool.false_eq_true, if_false] at this
          omega
        obtain ⟨f, a1, a2⟩ := ih (fb_ct (fun g => if g = g0 then false else G g) ng) (by omega) (fun g => if g = g0 then false else G g) (fun c => if c = c0 then false else C c) rfl (by
          intro T hT
          have hTG : ∀ g, g < ng → T g = true → G g = true := fun g hg q => by
            have := hT g hg q
            by_cases e : g = g0
            · simp [e] at this
            · simpa [e] using this
          have hTn : fb_ct T ng < n := by
            have := fb_ct_sub (p := T) (q := fun g => if g = g0 then false else G g) (n := ng) hT
            omega
          have h2 := hH T hTG
          have h3 : fb_ct (fun c => C c && anyB (fun g => T g && br c g) ng) nc ≤ fb_ct (fun c => (if c = c0 then false else C c) && anyB (fun g => T g && br c g) ng) nc + 1 := by
            have := fb_ct_upd (fun c => C c && anyB (fun g => T g && br c g) ng) false hc0
            have e : fb_ct (fun c => (if c = c0 then false else C c) && anyB (fun g => T g && br c g) ng) nc = fb_ct (fun k => if k = c0 then false else C k && anyB (fun g => T g && br k g) ng) nc := fb_ct_cong (fun k _ => by
              by_cases e : k = c0 <;> simp [e])
            rw [e]
            simp only [Bool.false_eq_true, if_false, Nat.add_zero] at this
            split at this <;> omega
          rcases Nat.eq_zero_or_pos (fb_ct T ng) with z | z
          · rw [z]; exact Nat.zero_le _
          · have h4 : fb_ct (fun c => C c && anyB (fun g => T g && br c g) ng) nc ≠ fb_ct T ng := fun e => ht ⟨T, hTG, z, hTn, e⟩
            omega)
        refine ⟨fun g => if g = g0 then c0 else f g, fun g hg qG => ?_, fun g h hg hh qg qh e => ?_⟩
        · by_cases e : g = g0
          · subst e; simp only [if_true]; exact ⟨hc0, qC, qbr⟩
          · simp only [if_neg e]
            obtain ⟨z1, z2, z3⟩ := a1 g hg (by simp [e, qG])
            refine ⟨z1, ?_, z3⟩
            by_cases e2 : f g = c0
            · simp [e2] at z2
            · simpa [e2] using z2
        · by_cases e1 : g = g0
          · by_cases e2 : h = g0
            · rw [e1, e2]
            · simp only [if_pos e1, if_neg e2] at e
              obtain ⟨z1, z2, z3⟩ := a1 h hh (by simp [e2, qh])
              simp [← e] at z2
          · by_cases e2 : h = g0
            · simp only [if_neg e1, if_pos e2] at e
              obtain ⟨z1, z2, z3⟩ := a1 g hg (by simp [e1, qg])
              simp [e] at z2
            · simp only [if_neg e1, if_neg e2] at e
              exact a2 g h hg hh (by simp [e1, qg]) (by simp [e2, qh]) e
