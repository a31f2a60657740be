/-! the class's row is the first of the cheapest -/
def nxT (nc T c : Nat) : Nat := if c = nc then T else T ||| 2 ^ c
def pcF (br : Nat → Nat → Bool) (pu ps nc g c : Nat) : Nat := if c = nc then ps else prF br pu g c
def csum (br : Nat → Nat → Bool) (pu ps nc ng : Nat) (r : Nat → Nat) : Nat → Nat
  | 0 => 0
  | k + 1 => pcF br pu ps nc (ng - (k + 1)) (r (ng - (k + 1))) + csum br pu ps nc ng r k
def okS (nc ng : Nat) (r : Nat → Nat) : Nat → Nat → Prop
  | 0, _ => True
  | k + 1, T => r (ng - (k + 1)) ≤ nc ∧ (r (ng - (k + 1)) < nc → T.testBit (r (ng - (k + 1))) = false) ∧ okS nc ng r k (nxT nc T (r (ng - (k + 1))))
def Lx (br : Nat → Nat → Bool) (pu ps nc ng : Nat) (r : Nat → Nat) : Nat → Nat → Prop
  | 0, _ => True
  | k + 1, T => (optF br pu ps nc ng (k + 1) T).1 < r (ng - (k + 1)) ∨ (r (ng - (k + 1)) = (optF br pu ps nc ng (k + 1) T).1 ∧ Lx br pu ps nc ng r k (nxT nc T (r (ng - (k + 1)))))
def Fol (br : Nat → Nat → Bool) (pu ps nc ng : Nat) (r : Nat → Nat) : Nat → Nat → Prop
  | 0, _ => True
  | k + 1, T => r (ng - (k + 1)) = (optF br pu ps nc ng (k + 1) T).1 ∧ Fol br pu ps nc ng r k (nxT nc T (optF br pu ps nc ng (k + 1) T).1)
def numR (base ng : Nat) (r : Nat → Nat) : Nat → Nat
  | 0 => 0
  | k + 1 => r (ng - (k + 1)) * base ^ k + numR base ng r k
theorem opt_spec (br : Nat → Nat → Bool) (pu ps nc ng k T : Nat) : (optF br pu ps nc ng (k + 1) T).2 ≤ ps + (optF br pu ps nc ng k T).2 ∧ (∀ c, c < nc → T.testBit c = false → (optF br pu ps nc ng (k + 1) T).2 ≤ prF br pu (ng - (k + 1)) c + (optF br pu ps nc ng k (T ||| 2 ^ c)).2) ∧ (((optF br pu ps nc ng (k + 1) T).1 = nc ∧ (optF br pu ps nc ng (k + 1) T).2 = ps + (optF br pu ps nc ng k T).2) ∨ ((optF br pu ps nc ng (k + 1) T).1 < nc ∧ T.testBit (optF br pu ps nc ng (k + 1) T).1 = false ∧ (optF br pu ps nc ng (k + 1) T).2 = prF br pu (ng - (k + 1)) (optF br pu ps nc ng (k + 1) T).1 + (optF br pu ps nc ng k (T ||| 2 ^ (optF br pu ps nc ng (k + 1) T).1)).2)) ∧ (∀ c, c < nc → T.testBit c = false → c < (optF br pu ps nc ng (k + 1) T).1 → (optF br pu ps nc ng (k + 1) T).2 < prF br pu (ng - (k + 1)) c + (optF br pu ps nc ng k (T ||| 2 ^ c)).2) := by
  obtain ⟨a1, a2, a3, a4⟩ := bfd_spec (fun c => prF br pu (ng - (k + 1)) c + (optF br pu ps nc ng k (T ||| 2 ^ c)).2) (fun c => !T.testBit c) (ps + (optF br pu ps nc ng k T).2) nc nc (Nat.le_refl _)
  refine ⟨a1, fun c h1 h2 => a2 c (by omega) h1 (by simp [h2]), ?_, fun c h1 h2 h3 => a4 c (by omega) h1 (by simp [h2]) h3⟩
  rcases a3 with a3 | ⟨b1, b2, b3, b4⟩
  · exact Or.inl a3
  · have b5 : (!T.testBit (optF br pu ps nc ng (k + 1) T).1) = true := b3
    exact Or.inr ⟨b2, (Bool.not_eq_true' _).mp b5, b4⟩
theorem opt_low {br : Nat → Nat → Bool} {pu ps nc ng : Nat} {r : Nat → Nat} : ∀ k T, okS nc ng r k T → (optF br pu ps nc ng k T).2 ≤ csum br pu ps nc ng r k
  | 0, _, _ => Nat.le_refl _
  | k + 1, T, h => by
    obtain ⟨h1, h2, h3⟩ := h
    obtain ⟨a1, a2, a3, a4⟩ := opt_spec br pu ps nc ng k T
    have ih := opt_low (br := br) (pu := pu) (ps := ps) k _ h3
    simp only [csum, pcF]
    by_cases e : r (ng - (k + 1)) = nc
    · rw [if_pos e]
      unfold nxT at ih
      rw [if_pos e] at ih
      omega
    · rw [if_neg e]
      unfold nxT at ih
      rw [if_neg e] at ih
      have := a2 _ (show r (ng - (k + 1)) < nc by omega) (h2 (by omega))
      omega
theorem opt_lex {br : Nat → Nat → Bool} {pu ps nc ng : Nat} {r : Nat → Nat} : ∀ k T, okS nc ng r k T → csum br pu ps nc ng r k = (optF br pu ps nc ng k T).2 → Lx br pu ps nc ng r k T
  | 0, _, _, _ => trivial
  | k + 1, T, h, he => by
    obtain ⟨h1, h2, h3⟩ := h
    obtain ⟨a1, a2, a3, a4⟩ := opt_spec br pu ps nc ng k T
    have low := opt_low (br := br) (pu := pu) (ps := ps) k _ h3
    simp only [csum, pcF] at he
    have hge : (optF br pu ps nc ng (k + 1) T).1 ≤ r (ng - (k + 1)) := by
      rcases Nat.lt_or_ge (r (ng - (k + 1))) (optF br pu ps nc ng (k + 1) T).1 with q | q
      · have hb : (optF br pu ps nc ng (k + 1) T).1 ≤ nc := by
          rcases a3 with z | z
          · exact Nat.le_of_eq z.1
          · exact Nat.le_of_lt z.1
        have hc : r (ng - (k + 1)) < nc := by omega
        have := a4 _ hc (h2 hc) q
        rw [if_neg (by omega)] at he
        unfold nxT at low
        rw [if_neg (by omega)] at low
        omega
      · exact q
    rcases Nat.lt_or_ge (optF br pu ps nc ng (k + 1) T).1 (r (ng - (k + 1))) with q | q
    · exact Or.inl q
    · have e : r (ng - (k + 1)) = (optF br pu ps nc ng (k + 1) T).1 := by omega
      refine Or.inr ⟨e, opt_lex k _ h3 ?_⟩
      rcases a3 with ⟨z1, z2⟩ | ⟨z1, z2, z3⟩
      · have e2 : r (ng - (k + 1)) = nc := by omega
        rw [if_pos e2] at he
        unfold nxT
        rw [if_pos e2]
        omega
      · have e2 : ¬ r (ng - (k + 1)) = nc := by omega
        rw [if_neg e2] at he
        unfold nxT
        rw [if_neg e2]
        rw [← e] at z3
        omega
theorem numR_lt {base ng : Nat} {r : Nat → Nat} (h : ∀ g, g < ng → r g < base) : ∀ k, k ≤ ng → 1 ≤ ng → numR base ng r k < base ^ k
  | 0, _, _ => by simp [numR]
  | k + 1, hk, hn => by
    have ih := numR_lt h k (by omega) hn
    have hd := h (ng - (k + 1)) (by omega)
    simp only [numR]
    have : (r (ng - (k + 1)) + 1) * base ^ k ≤ base * base ^ k := Nat.mul_le_mul_right _ hd
    rw [Nat.pow_succ, Nat.mul_comm (base ^ k) base]
    rw [Nat.add_mul, Nat.one_mul] at this
    omega
theorem lx_num {br : Nat → Nat → Bool} {pu ps nc ng base : Nat} {r q : Nat → Nat} (hq : ∀ g, g < ng → q g < base) (hn : 1 ≤ ng) : ∀ k T, k ≤ ng → Fol br pu ps nc ng q k T → Lx br pu ps nc ng r k T → Fol br pu ps nc ng r k T ∨ numR base ng q k < numR base ng r k
  | 0, _, _, _, _ => Or.inl trivial
  | k + 1, T, hk, hf, hl => by
    obtain ⟨f1, f2⟩ := hf
    rcases hl with hl | ⟨l1, l2⟩
    · refine Or.inr ?_
      have h1 := numR_lt hq k (by omega) hn
      simp only [numR]
      have : (q (ng - (k + 1)) + 1) * base ^ k ≤ r (ng - (k + 1)) * base ^ k := Nat.mul_le_mul_right _ (by omega)
      rw [Nat.add_mul, Nat.one_mul] at this
      omega
    · rw [l1] at l2
      rcases lx_num hq hn k _ (by omega) f2 l2 with h | h
      · exact Or.inl ⟨l1, h⟩
      · refine Or.inr ?_
        simp only [numR]
        rw [f1, l1]
        omega
theorem fol_eq {br : Nat → Nat → Bool} {pu ps nc ng : Nat} {r q : Nat → Nat} : ∀ k T, k ≤ ng → Fol br pu ps nc ng q k T → Fol br pu ps nc ng r k T → ∀ g, ng - k ≤ g → g < ng → r g = q g
  | 0, _, _, _, _, g, h1, h2 => by omega
  | k + 1, T, hk, hq, hr, g, h1, h2 => by
    by_cases e : g = ng - (k + 1)
    · rw [e, hr.1, hq.1]
    · exact fol_eq k _ (by omega) hq.2 hr.2 g (by omega) h2
theorem rw_fol (S : AS) (br : Nat → Nat → Bool) (pu ps : Nat) : ∀ k, k ≤ S 0 1 → Fol br pu ps (S 0 0) (S 0 1) (rwF S br pu ps) k (tkF S br pu ps (S 0 1 - k))
  | 0, _ => trivial
  | k + 1, hk => by
    have e : rwF S br pu ps (S 0 1 - (k + 1)) = (optF br pu ps (S 0 0) (S 0 1) (k + 1) (tkF S br pu ps (S 0 1 - (k + 1)))).1 := by
      have := optG_eq (S := S) (br := br) (pu := pu) (ps := ps) (g := S 0 1 - (k + 1)) (T := tkF S br pu ps (S 0 1 - (k + 1))) (by omega)
      rw [show S 0 1 - (S 0 1 - (k + 1)) = k + 1 by omega] at this
      rw [this]
      rfl
    refine ⟨e, ?_⟩
    have e2 : nxT (S 0 0) (tkF S br pu ps (S 0 1 - (k + 1))) (optF br pu ps (S 0 0) (S 0 1) (k + 1) (tkF S br pu ps (S 0 1 - (k + 1)))).1 = tkF S br pu ps (S 0 1 - k) := by
      rw [← e]
      have e3 : S 0 1 - k = S 0 1 - (k + 1) + 1 := by omega
      rw [e3]
      rfl
    rw [e2]
    exact rw_fol S br pu ps k (by omega)
theorem fol_ok {br : Nat → Nat → Bool} {pu ps nc ng : Nat} {r : Nat → Nat} : ∀ k T, Fol br pu ps nc ng r k T → okS nc ng r k T ∧ csum br pu ps nc ng r k = (optF br pu ps nc ng k T).2
  | 0, _, _ => ⟨trivial, rfl⟩
  | k + 1, T, h => by
    obtain ⟨f1, f2⟩ := h
    obtain ⟨a1, a2, a3, a4⟩ := opt_spec br pu ps nc ng k T
    obtain ⟨i1, i2⟩ := fol_ok k _ f2
    refine ⟨⟨?_, fun hl => ?_, ?_⟩, ?_⟩
    · rw [f1]
      rcases a3 with z | z
      · exact Nat.le_of_eq z.1
      · exact Nat.le_of_lt z.1
    · rw [f1] at hl ⊢
      rcases a3 with z | z
      · omega
      · exact z.2.1
    · rw [f1]; exact i1
    · simp only [csum, pcF]
      rw [f1, i2]
      rcases a3 with ⟨z1, z2⟩ | ⟨z1, z2, z3⟩
      · rw [if_pos z1]
        unfold nxT
        rw [if_pos z1]
        omega
      · rw [if_neg (by omega)]
        unfold nxT
        rw [if_neg (by omega)]
        omega
theorem okR_S {nc ng : Nat} {r : Nat → Nat} (h : okR nc ng r) : ∀ k T, k ≤ ng → (∀ g, ng - k ≤ g → g < ng → r g < nc → T.testBit (r g) = false) → okS nc ng r k T
  | 0, _, _, _ => trivial
  | k + 1, T, hk, hT => by
    refine ⟨h.1 _ (by omega), fun hl => hT _ (Nat.le_refl _) (by omega) hl, okR_S h k _ (by omega) (fun g h1 h2 h3 => ?_)⟩
    unfold nxT
    by_cases e : r (ng - (k + 1)) = nc
    · rw [if_pos e]; exact hT g (by omega) h2 h3
    · rw [if_neg e, Nat.testBit_or, hT g (by omega) h2 h3, Nat.testBit_two_pow, Bool.false_or]
      have : ¬ r (ng - (k + 1)) = r g := fun z => by
        have := h.2 (ng - (k + 1)) g (by omega) h2 (by omega) z
        exact e this
      simp [this]
theorem okS_R {nc ng : Nat} {r : Nat → Nat} : ∀ k T, k ≤ ng → okS nc ng r k T → (∀ g, ng - k ≤ g → g < ng → r g ≤ nc ∧ (r g < nc → T.testBit (r g) = false)) ∧ ∀ g h, ng - k ≤ g → g < h → h < ng → r g = r h → r g = nc
  | 0, _, _, _ => ⟨fun g h1 h2 => by omega, fun g h h1 h2 h3 => by omega⟩
  | k + 1, T, hk, hs => by
    obtain ⟨h1, h2, h3⟩ := hs
    obtain ⟨i1, i2⟩ := okS_R k _ (by omega) h3
    have sub : ∀ c, T.testBit c = true → (nxT nc T (r (ng - (k + 1)))).testBit c = true := fun c hc => by
      unfold nxT
      split
      · exact hc
      · rw [Nat.testBit_or, hc]; rfl
    refine ⟨fun g a1 a2 => ?_, fun g h a1 a2 a3 e => ?_⟩
    · by_cases e : g = ng - (k + 1)
      · rw [e]; exact ⟨h1, h2⟩
      · obtain ⟨b1, b2⟩ := i1 g (by omega) a2
        refine ⟨b1, fun hl => ?_⟩
        cases z : T.testBit (r g) with
        | false => rfl
        | true => rw [← b2 hl]; exact (sub _ z).symm
    · by_cases z : g = ng - (k + 1)
      · rw [z] at e ⊢
        rcases Nat.lt_or_ge (r (ng - (k + 1))) nc with q | q
        · have b := (i1 h (by omega) a3).2 (by omega)
          rw [← e] at b
          unfold nxT at b
          rw [if_neg (by omega), Nat.testBit_or, Nat.testBit_two_pow_self, Bool.or_true] at b
          cases b
        · omega
      · exact i2 g h (by omega) a2 a3 e
theorem okS_okR {nc ng : Nat} {r : Nat → Nat} (h : okS nc ng r ng 0) : okR nc ng r := by
  obtain ⟨i1, i2⟩ := okS_R ng 0 (Nat.le_refl _) h
  refine ⟨fun g hg => (i1 g (by omega) hg).1, fun g k hg hk hne e => ?_⟩
  rcases Nat.lt_or_ge g k with q | q
  · exact i2 g k (by omega) q hk e
  · have := i2 k g (by omega) (by omega) hg e.symm
    omega
theorem csum_sm (br : Nat → Nat → Bool) (pu ps nc ng : Nat) (r : Nat → Nat) : ∀ k, k ≤ ng → csum br pu ps nc ng r k + fb_sm (fun g => pcF br pu ps nc g (r g)) (ng - k) = fb_sm (fun g => pcF br pu ps nc g (r g)) ng
  | 0, _ => by simp [csum]
  | k + 1, hk => by
    have ih := csum_sm br pu ps nc ng r k (by omega)
    rw [show ng - k = ng - (k + 1) + 1 by omega, fb_sm_succ] at ih
    simp only [csum]
    omega
theorem csum_all (br : Nat → Nat → Bool) (pu ps nc ng : Nat) (r : Nat → Nat) : csum br pu ps nc ng r ng = fb_sm (fun g => pcF br pu ps nc g (r g)) ng := by
  have := csum_sm br pu ps nc ng r ng (Nat.le_refl _)
  rw [Nat.sub_self] at this
  exact this
theorem sm_ct (p : Nat → Bool) : ∀ n, fb_sm (fun g => if p g then 1 else 0) n = fb_ct p n
  | 0 => rfl
  | n + 1 => by rw [fb_sm_succ, fb_ct_succ, sm_ct p n]
theorem csum_borne {br : Nat → Nat → Bool} {nc ng : Nat} {r : Nat → Nat} (h1 : ∀ g, g < ng → r g ≤ nc) (h2 : borneR br nc ng r) (pu : Nat) : csum br pu 1 nc ng r ng = stR nc ng r := by
  rw [csum_all]
  unfold stR
  rw [← sm_ct]
  refine fb_sm_cong (fun g hg => ?_)
  unfold pcF prF
  by_cases e : r g = nc
  · simp [e]
  · have := h1 g hg
    simp [e, h2 g hg (by omega)]
theorem sm_part {f : Nat → Nat} {n g : Nat} (h : g < n) : f g ≤ fb_sm f n := Nat.le_trans (Nat.le_add_left _ _) (fb_sm_part f h)
theorem csum_unborne {br : Nat → Nat → Bool} {pu ps nc ng : Nat} {r : Nat → Nat} (h1 : ∀ g, g < ng → r g ≤ nc) (h2 : ¬ borneR br nc ng r) : pu ≤ csum br pu ps nc ng r ng := by
  rw [csum_all]
  have : ∃ g, g < ng ∧ r g < nc ∧ br (r g) g = false := by
    refine Classical.byContradiction (fun hn => h2 (fun g hg hl => ?_))
    cases z : br (r g) g with
    | true => rfl
    | false => exact absurd ⟨g, hg, hl, z⟩ hn
  obtain ⟨g, hg, hl, z⟩ := this
  refine Nat.le_trans ?_ (sm_part (f := fun g => pcF br pu ps nc g (r g)) hg)
  show pu ≤ pcF br pu ps nc g (r g)
  unfold pcF prF
  simp [show ¬ r g = nc by omega, z]
theorem csum_stand {br : Nat → Nat → Bool} {pu ps nc ng : Nat} {r : Nat → Nat} {g : Nat} (hg : g < ng) (h : r g = nc) : ps ≤ csum br pu ps nc ng r ng := by
  rw [csum_all]
  refine Nat.le_trans ?_ (sm_part (f := fun g => pcF br pu ps nc g (r g)) hg)
  show ps ≤ pcF br pu ps nc g (r g)
  unfold pcF
  simp [h]
def ubR (br : Nat → Nat → Bool) (ng : Nat) (r : Nat → Nat) : Nat := fb_ct (fun g => !br (r g) g) ng
theorem csum_sit {br : Nat → Nat → Bool} {ps nc ng : Nat} {r : Nat → Nat} (h : ∀ g, g < ng → r g < nc) : csum br 1 ps nc ng r ng = ubR br ng r := by
  rw [csum_all]
  unfold ubR
  rw [← sm_ct]
  refine fb_sm_cong (fun g hg => ?_)
  unfold pcF prF
  have := h g hg
  simp only [if_neg (show ¬ r g = nc by omega)]
  cases br (r g) g <;> rfl
/-- the class's own row -/
theorem rw_ok (S : AS) (br : Nat → Nat → Bool) (pu ps : Nat) : okR (S 0 0) (S 0 1) (rwF S br pu ps) ∧ csum br pu ps (S 0 0) (S 0 1) (rwF S br pu ps) (S 0 1) = (optF br pu ps (S 0 0) (S 0 1) (S 0 1) 0).2 ∧ Fol br pu ps (S 0 0) (S 0 1) (rwF S br pu ps) (S 0 1) 0 := by
  have h := rw_fol S br pu ps (S 0 1) (Nat.le_refl _)
  rw [Nat.sub_self] at h
  obtain ⟨a, b⟩ := fol_ok _ _ h
  exact ⟨okS_okR a, b, h⟩
theorem opt_min {S : AS} {br : Nat → Nat → Bool} {pu ps : Nat} {r : Nat → Nat} (h : okR (S 0 0) (S 0 1) r) : (optF br pu ps (S 0 0) (S 0 1) (S 0 1) 0).2 ≤ csum br pu ps (S 0 0) (S 0 1) r (S 0 1) :=
  opt_low _ _ (okR_S h _ _ (Nat.le_refl _) (fun _ _ _ _ => by simp))
theorem seats_first {S : AS} {br : Nat → Nat → Bool} (hn : 1 ≤ S 0 1) (hn5 : S 0 1 ≤ 5) {r : Nat → Nat} (h1 : okR (S 0 0) (S 0 1) r) (h2 : borneR br (S 0 0) (S 0 1) r) (h3 : ∀ q, okR (S 0 0) (S 0 1) q → borneR br (S 0 0) (S 0 1) q → stR (S 0 0) (S 0 1) r ≤ stR (S 0 0) (S 0 1) q ∧ (stR (S 0 0) (S 0 1) q = stR (S 0 0) (S 0 1) r → numR (S 0 0 + 1) (S 0 1) r (S 0 1) ≤ numR (S 0 0 + 1) (S 0 1) q (S 0 1))) :
    (∀ g, g < S 0 1 → r g = rwF S br 100 1 g) ∧ (optF br 100 1 (S 0 0) (S 0 1) (S 0 1) 0).2 = stR (S 0 0) (S 0 1) r := by
  obtain ⟨w1, w2, w3⟩ := rw_ok S br 100 1
  have c1 := csum_borne (br := br) h1.1 h2 100
  have l1 := opt_min (br := br) (pu := 100) (ps := 1) h1
  have hst : stR (S 0 0) (S 0 1) r ≤ S 0 1 := fb_ct_le _ _
  have wb : borneR br (S 0 0) (S 0 1) (rwF S br 100 1) := by
    refine Classical.byContradiction (fun hb => ?_)
    have := csum_unborne (br := br) (pu := 100) (ps := 1) w1.1 hb
    omega
  have c2 := csum_borne (br := br) w1.1 wb 100
  obtain ⟨a1, a2⟩ := h3 _ w1 wb
  have e : (optF br 100 1 (S 0 0) (S 0 1) (S 0 1) 0).2 = stR (S 0 0) (S 0 1) r := by omega
  refine ⟨?_, e⟩
  have lx := opt_lex (br := br) (pu := 100) (ps := 1) _ _ (okR_S h1 _ 0 (Nat.le_refl _) (fun _ _ _ _ => by simp)) (by omega)
  rcases lx_num (base := S 0 0 + 1) (fun g hg => Nat.lt_succ_of_le (w1.1 g hg)) hn _ _ (Nat.le_refl _) w3 lx with f | f
  · exact fun g hg => fol_eq _ _ (Nat.le_refl _) w3 f g (by omega) hg
  · have := a2 (by omega)
    omega
theorem least_first {S : AS} {br : Nat → Nat → Bool} (hn : 1 ≤ S 0 1) (hn5 : S 0 1 ≤ 5) {r : Nat → Nat} (h1 : okR (S 0 0) (S 0 1) r) (h2 : ∀ g, g < S 0 1 → r g < S 0 0) (h3 : ∀ q, okR (S 0 0) (S 0 1) q → (∀ g, g < S 0 1 → q g < S 0 0) → ubR br (S 0 1) r ≤ ubR br (S 0 1) q ∧ (ubR br (S 0 1) q = ubR br (S 0 1) r → numR (S 0 0) (S 0 1) r (S 0 1) ≤ numR (S 0 0) (S 0 1) q (S 0 1))) :
    (∀ g, g < S 0 1 → r g = rwF S br 1 100 g) ∧ (optF br 1 100 (S 0 0) (S 0 1) (S 0 1) 0).2 = ubR br (S 0 1) r := by
  obtain ⟨w1, w2, w3⟩ := rw_ok S br 1 100
  have c1 := csum_sit (br := br) (ps := 100) h2
  have l1 := opt_min (br := br) (pu := 1) (ps := 100) h1
  have hst : ubR br (S 0 1) r ≤ S 0 1 := fb_ct_le _ _
  have wb : ∀ g, g < S 0 1 → rwF S br 1 100 g < S 0 0 := by
    intro g hg
    rcases Nat.lt_or_ge (rwF S br 1 100 g) (S 0 0) with q | q
    · exact q
    · have := w1.1 g hg
      have := csum_stand (br := br) (pu := 1) (ps := 100) hg (show rwF S br 1 100 g = S 0 0 by omega)
      omega
  have c2 := csum_sit (br := br) (ps := 100) wb
  obtain ⟨a1, a2⟩ := h3 _ w1 wb
  have e : (optF br 1 100 (S 0 0) (S 0 1) (S 0 1) 0).2 = ubR br (S 0 1) r := by omega
  refine ⟨?_, e⟩
  have lx := opt_lex (br := br) (pu := 1) (ps := 100) _ _ (okR_S h1 _ 0 (Nat.le_refl _) (fun _ _ _ _ => by simp)) (by omega)
  rcases lx_num (base := S 0 0) wb hn _ _ (Nat.le_refl _) w3 lx with f | f
  · exact fun g hg => fol_eq _ _ (Nat.le_refl _) w3 f g (by omega) hg
  · have := a2 (by omega)
    omega
theorem least_none {S : AS} {br : Nat → Nat → Bool} (h : ∀ q, okR (S 0 0) (S 0 1) q → ¬ ∀ g, g < S 0 1 → q g < S 0 0) : 100 ≤ (optF br 1 100 (S 0 0) (S 0 1) (S 0 1) 0).2 := by
  obtain ⟨w1, w2, w3⟩ := rw_ok S br 1 100
  have : ∃ g, g < S 0 1 ∧ rwF S br 1 100 g = S 0 0 := by
    refine Classical.byContradiction (fun hn => h _ w1 (fun g hg => ?_))
    have := w1.1 g hg
    rcases Nat.lt_or_ge (rwF S br 1 100 g) (S 0 0) with q | q
    · exact q
    · exact absurd ⟨g, hg, by omega⟩ hn
  obtain ⟨g, hg, e⟩ := this
  have := csum_stand (br := br) (pu := 1) (ps := 100) hg e
  omega
theorem most_eq {S : AS} {br : Nat → Nat → Bool} (hnc : S 0 0 ≤ 5) (hng : S 0 1 ≤ 5) : (optF br 100 1 (S 0 0) (S 0 1) (S 0 1) 0).2 + mmF br (S 0 0) (S 0 1) = S 0 1 := by
  obtain ⟨w1, w2, w3⟩ := rw_ok S br 100 1
  obtain ⟨r, r1, r2, r3⟩ := mm_row (br := br) (ng := S 0 1) hnc
  have c1 := csum_borne (br := br) r1.1 r2 100
  have l1 := opt_min (br := br) (pu := 100) (ps := 1) r1
  have wb : borneR br (S 0 0) (S 0 1) (rwF S br 100 1) := by
    refine Classical.byContradiction (fun hb => ?_)
    have := csum_unborne (br := br) (pu := 100) (ps := 1) w1.1 hb
    omega
  have c2 := csum_borne (br := br) w1.1 wb 100
  have := mm_max (br := br) hnc w1 wb
  omega
