/-! odds -/
theorem toL {a : Nat} (h : a < 2147483648) : (nI a).toInt64 = lN a := by
  apply Int64.toInt_inj.mp
  rw [Int32.toInt_toInt64, nI_toInt h, pk_lT (by omega)]
theorem shlL : ∀ n : Fin 9, (1 : Int64) <<< ((nI n.val).toInt64 &&& 63) = lN (2 ^ n.val) := by decide +kernel
theorem gcd_loop {u D : Nat} (hu : u < 2147483648) (hD : D < 2147483648) (hD0 : 0 < D) {p4 : Int32} {post : Int64 → Mem → Prop} {M : Mem} (h1 : ¬ p4 = 0 → post (lN (D / Nat.gcd u D)) M) (h2 : p4 = 0 → post (lN (u / Nat.gcd u D)) M) :
    ∀ (b a : Nat), a < 2147483648 → b < 2147483648 → Nat.gcd a b = Nat.gcd u D → ∃ k, lp_X6_inLeastTerms_6 (lN u) (lN D) p4 post k (lN a) (lN b) M := by
  have hg : 0 < Nat.gcd u D := Nat.gcd_pos_of_pos_right _ hD0
  have hgl : Nat.gcd u D ≤ D := Nat.gcd_le_right _ hD0
  intro b
  induction b using Nat.strongRecOn with
  | ind b ih =>
    intro a ha hb hab
    by_cases z : b = 0
    · subst z
      rw [Nat.gcd_zero_right] at hab
      subst hab
      refine ⟨1, fun _ => ⟨fun q => ⟨fun y => ?_, ?_⟩, fun q => ⟨fun y => ?_, ?_⟩⟩, fun y => absurd ((lg_cmp_eq _ _).mpr rfl) y⟩
      · exact absurd ((pk_lEQ (b := 0) (by omega) (by omega)).mp y) (by omega)
      · rw [pk_lDiv (by omega) hg (by omega)]; exact h1 q
      · exact absurd ((pk_lEQ (b := 0) (by omega) (by omega)).mp y) (by omega)
      · rw [pk_lDiv (by omega) hg (by omega)]; exact h2 q
    · have hm : a % b < b := Nat.mod_lt _ (by omega)
      obtain ⟨k, hk⟩ := ih (a % b) hm b hb (by omega) (by rw [Nat.gcd_comm, ← Nat.gcd_rec, Nat.gcd_comm]; exact hab)
      refine ⟨k + 1, fun y => absurd ((pk_lEQ (b := 0) (by omega) (by omega)).mp ((lg_cmp_eq _ _).mp y)) z, fun _ => ⟨fun y => absurd ((pk_lEQ (b := 0) (by omega) (by omega)).mp y) z, fun v hv => ?_⟩⟩
      rw [pk_lRem (by omega) (by omega) (by omega)] at hv
      subst hv
      exact hk
def hv : Nat → Nat → Nat → Nat × Nat
  | 0, x, y => (x, y)
  | r + 1, x, y => if y % 2 = 0 then hv r (x / 2) (y / 2) else (x, y)
theorem hv_gcd : ∀ n : Fin 9, ∀ u : Fin 257, u.val ≤ 2 ^ n.val → hv n.val (2 ^ n.val) u.val = (2 ^ n.val / Nat.gcd u.val (2 ^ n.val), u.val / Nat.gcd u.val (2 ^ n.val)) := by decide +kernel
theorem half_loop {p1 p2 : Int32} {post : Int64 → Mem → Prop} {M : Mem} {n : Nat} (hM : M 5 3 = nI n) (hn : n ≤ 8) :
    ∀ (r i x y : Nat), i + r = n → x ≤ 256 → y ≤ 256 → jn_X5_odds_118 p1 p2 post (nI (hv r x y).1) (nI (hv r x y).2) M → lp_X5_odds_83 p1 p2 post (r + 1) (nI x) (nI y) (nI i) M := by
  intro r
  induction r with
  | zero =>
    intro i x y hi hx hy hp
    unfold lp_X5_odds_83
    rw [hM]
    exact ⟨fun _ => hp, fun h => absurd ((leI (by omega) (by omega)).mpr (by omega)) h⟩
  | succ r ih =>
    intro i x y hi hx hy hp
    unfold lp_X5_odds_83
    rw [hM, show (2 : Int32) = nI 2 from rfl, pk_rem (by omega) (by decide) (by decide), pk_div (by omega) (by decide) (by decide), pk_div (by omega) (by decide) (by decide), addI1]
    refine ⟨fun h => absurd ((leI (by omega) (by omega)).mp h) (by omega), fun _ => ⟨fun h => ?_, fun h v6 e6 v7 e7 => ?_⟩⟩
    · have hy2 : ¬ y % 2 = 0 := fun z => h (by rw [z]; rfl)
      simp only [hv, if_neg hy2] at hp
      exact hp
    · have hy2 : y % 2 = 0 := (eqI (b := 0) (by omega) (by decide)).mp h
      simp only [hv, if_pos hy2] at hp
      subst e6
      subst e7
      exact ih (i + 1) (x / 2) (y / 2) (by omega) (by omega) (by omega) hp
theorem mind_cong {S : AS} {mk mk' : Nat → Bool} {fr : Nat} (h : ∀ k, k < S 0 2 → mk k = mk' k) : mindS S mk fr = mindS S mk' fr := by
  funext c g d
  unfold mindS
  rw [anyB_cong (fun k hk => by rw [h k hk])]
theorem bear_cong {S : AS} {mk mk' : Nat → Bool} {fr : Nat} (h : ∀ k, k < S 0 2 → mk k = mk' k) : bearS S mk fr = bearS S mk' fr := by
  funext c g d
  unfold bearS
  rw [mind_cong h]
theorem mask_of (x : Nat) (hx : x < 256) : maskOK (nI x) (fun k => x.testBit k) := by
  intro a ha
  refine ⟨a &&& x, fa_and a x, ?_, fun k _ => Nat.testBit_and a x k⟩
  exact Nat.lt_of_le_of_lt Nat.and_le_left ha
theorem ct_rev (P : Nat → Bool) : ∀ N, fb_ct (fun u => P (N - 1 - u)) N = fb_ct P N := by
  intro N
  induction N generalizing P with
  | zero => rfl
  | succ N ih =>
    rw [fb_ct_succ]
    have h1 : fb_ct P (N + 1) = fb_ct P 1 + fb_ct (fun k => P (1 + k)) N := by rw [Nat.add_comm N 1, fb_ct_split]
    have h2 : fb_ct (fun u => P (N + 1 - 1 - u)) N = fb_ct (fun u => (fun k => P (1 + k)) (N - 1 - u)) N := fb_ct_cong (fun k hk => by show P (N + 1 - 1 - k) = P (1 + (N - 1 - k)); exact congrArg P (by omega))
    have h3 : fb_ct P 1 = (if P 0 = true then 1 else 0) := (fb_ct_succ P 0).trans (Nat.zero_add _)
    rw [h1, h2.trans (ih (fun k => P (1 + k))), show N + 1 - 1 - N = 0 by omega, h3, Nat.add_comm]
abbrev oddP (S : AS) (d : Nat) (x : Nat) : Bool := hallC (fun c g => bearS S (fun k => x.testBit k) 9 c g d) (S 0 0) (S 0 1)
theorem odds_rev {S : AS} {d : Nat} : fb_ct (fun u => hallC (fun c g => bearS S (fun k => !u.testBit k) 9 c g d) (S 0 0) (S 0 1)) (2 ^ S 0 2) = fb_ct (oddP S d) (2 ^ S 0 2) := by
  rw [← ct_rev (oddP S d)]
  refine fb_ct_cong (fun u hu => ?_)
  show _ = hallC (fun c g => bearS S (fun k => (2 ^ S 0 2 - 1 - u).testBit k) 9 c g d) (S 0 0) (S 0 1)
  rw [bear_cong (mk := fun k => !u.testBit k) (mk' := fun k => (2 ^ S 0 2 - 1 - u).testBit k)]
  intro k hk
  rw [show 2 ^ S 0 2 - 1 - u = 2 ^ S 0 2 - (u + 1) by rw [Nat.sub_sub, Nat.add_comm], Nat.testBit_two_pow_sub_succ hu]
  simp [hk]
theorem codds_loop {S : AS} {M0 : Mem} (hw : wf S) (hr : repC S M0) {d N : Nat} (hN : N ≤ 256) (h19 : ∀ c, c < S 0 0 → M0 19 c = nI (heldN S d c)) {p1 p2 : Int32} {post : Int64 → Mem → Prop} (hp : ∀ M, sameC M0 M → ∃ k, lp_X5_odds_83 p1 p2 post k (nI N) (nI (fb_ct (oddP S d) N)) 0 M) :
    ∀ (m i : Nat) (M : Mem), i + m = N → sameC M0 M → M 19 = M0 19 → lp_X5_odds_45 p1 p2 post (m + 1) (nI N) (nI (fb_ct (oddP S d) i)) (nI i) M := by
  intro m
  induction m with
  | zero =>
    intro i M hi hs h9
    have e : i = N := by omega
    subst e
    exact ⟨fun _ => hp M hs, fun h => absurd ((leI (by omega) (by omega)).mpr (Nat.le_refl _)) h⟩
  | succ m ih =>
    intro i M hi hs h9
    have hr' := hs.rep hr
    refine ⟨fun h => absurd ((leI (by omega) (by omega)).mp h) (by omega), fun _ => judge_ok hw hr' (mask_of i (by omega)) fr_none (d := d) (fun c hc => by rw [h9]; exact h19 c hc) (fun M1 a1 a2 a3 => allSit_ok hw (a1.rep hr') (br := fun c g => bearS S (fun k => i.testBit k) 9 c g d) a3 ⟨fun h => ?_, fun h => ?_⟩)⟩
    · have := ih (i + 1) M1 (by omega) (hs.tr a1) (a2.trans h9)
      rw [fb_ct_succ, if_neg (by rw [show oddP S d i = false from b2i_z.mp h]; decide), Nat.add_zero, ← addI1] at this
      exact this
    · have := ih (i + 1) M1 (by omega) (hs.tr a1) (a2.trans h9)
      rw [fb_ct_succ, if_pos (show oddP S d i = true from b2i_nz.mp h), ← addI1, ← addI1] at this
      exact this
theorem modds_loop {S : AS} {M0 : Mem} (hw : wf S) (hr : repM S M0) (h19 : M0 34 19 = -9) {d N : Nat} (hd : d < 20) (hN : N ≤ 256) (hNn : N = 2 ^ S 0 2) {p2 : Int32} {post : Int64 → Mem → Prop} (hp : ∀ M, (∀ a, a < 47 ∨ 51 < a → a ≠ 34 → M a = M0 a) → (∀ j, j ≠ 18 → M 34 j = M0 34 j) → M 34 18 = 0 → wp_X6_inLeastTerms (nI (fb_ct (fun u => hallC (fun c g => bearS S (fun k => !u.testBit k) 9 c g d) (S 0 0) (S 0 1)) N)).toInt64 (lN N) p2 M (fun r6 M7 => post r6 M7)) :
    ∀ (m i : Nat) (M : Mem), i + m = N → (∀ a, a < 47 ∨ 51 < a → a ≠ 34 → M a = M0 a) → (∀ j, j ≠ 18 → M 34 j = M0 34 j) → lp_X6_odds_32 (nI d) p2 post (m + 1) (nI (fb_ct (fun u => hallC (fun c g => bearS S (fun k => !u.testBit k) 9 c g d) (S 0 0) (S 0 1)) i)) (nI i) M := by
  have n1 := hw.1.1
  have n2 := hw.1.2.1
  have n3 := hw.1.2.2.1
  have rp : ∀ M : Mem, (∀ a, a < 47 ∨ 51 < a → a ≠ 34 → M a = M0 a) → (∀ j, j ≠ 18 → M 34 j = M0 34 j) → repM S M := fun M h1 h2 => hr.of1 (fun j hj => h2 j (by omega)) (fun a ha => h1 a (by omega) (by omega))
  have eN : (1 : Int32) <<< (nI (S 0 2) &&& 31) = nI N := by rw [shl1 (by omega), hNn]
  intro m
  induction m with
  | zero =>
    intro i M hi h1 h2
    have e : i = N := by omega
    subst e
    unfold lp_X6_odds_32
    rw [(rp M h1 h2).1.2.2.1, eN]
    refine ⟨fun _ M5 z => ?_, fun h => absurd ((leI (by omega) (by omega)).mpr (Nat.le_refl _)) h⟩
    subst z
    have e5 : up2 M 34 18 0 34 10 = nI (S 0 2) := by rw [up2_s, upd_n _ _ (by decide)]; exact (rp M h1 h2).1.2.2.1
    rw [e5, shlL ⟨S 0 2, by omega⟩, ← hNn]
    refine hp _ (fun a ha hz => by rw [up2_n _ _ _ hz]; exact h1 a ha hz) (fun j hj => by rw [up2_s, upd_n _ _ hj]; exact h2 j hj) (by rw [up2_s, upd_s])
  | succ m ih =>
    intro i M hi h1 h2
    unfold lp_X6_odds_32
    rw [(rp M h1 h2).1.2.2.1, eN, addI1]
    refine ⟨fun h => absurd ((leI (by omega) (by omega)).mp h) (by omega), fun _ M8 z => ?_⟩
    subst z
    have k1 : ∀ a, a < 47 ∨ 51 < a → a ≠ 34 → up2 M 34 18 (nI i) a = M0 a := fun a ha hz => by rw [up2_n _ _ _ hz]; exact h1 a ha hz
    have k2 : ∀ j, j ≠ 18 → up2 M 34 18 (nI i) 34 j = M0 34 j := fun j hj => by rw [up2_s, upd_n _ _ hj]; exact h2 j hj
    have hr8 := rp _ k1 k2
    have hmode : modeM (fun k => !i.testBit k) 9 (up2 M 34 18 (nI i)) := by
      refine ⟨⟨i, by rw [up2_s, upd_s], by omega, fun k _ => rfl⟩, fun c hc => ?_⟩
      rw [k2 19 (by decide), h19]
      exact ⟨fun e => absurd e (m9_ne (by omega)), fun e => by omega⟩
    refine mostIn_ok hw hr8 hmode hd (fun M1 a1 => ?_)
    have hmm : mmF (fun c g => bearS S (fun k => !i.testBit k) 9 c g d) (S 0 0) (S 0 1) ≤ 5 := mostF_le 32
    have g1 : ∀ a, a < 47 ∨ 51 < a → a ≠ 34 → M1 a = M0 a := fun a ha hz => by rw [a1 a ha]; exact k1 a ha hz
    have g2 : ∀ j, j ≠ 18 → M1 34 j = M0 34 j := fun j hj => by rw [a1 34 (by decide)]; exact k2 j hj
    have := ih (i + 1) M1 (by omega) g1 g2
    rw [(rp M1 g1 g2).1.2.1, eqI (by omega) (by omega), mm_full n1 n2]
    refine ⟨fun h v hv => ?_, fun h v hv => ?_⟩
    · subst hv
      rw [fb_ct_succ, if_neg h, Nat.add_zero] at this
      rw [show (0 : Int32) = nI 0 from rfl, addN, Nat.add_zero]
      exact this
    · subst hv
      rw [fb_ct_succ, if_pos h] at this
      rw [addI1]
      exact this
theorem st_odds {M : Mem} (hI : Inv M) (p1 p2 : Int32) : StpJ (wp_X5_odds p1 p2) (wp_X6_odds p1 p2) M := by
  intro post hp
  have hI0 := hI
  obtain ⟨⟨S, hw, hr, hm⟩, hs⟩ := hI
  have n3 := hw.1.2.2.1
  unfold wp_X5_odds
  rcases ixI p2 2 (by omega) with h2 | ⟨j, hj, rfl⟩
  · refine wit_no (h2.elim Or.inl (fun q => Or.inr (lt_of_le1 (n := 1) (by decide) q))) (hp _ _ (fun post' hq => ?_))
    rcases ixI p1 20 (by omega) with h3 | ⟨d, hd, rfl⟩
    · exact mDin_no h3 (b0A (hq M hI0))
    · exact mDin_yes hd (b1A (mWit_no (n := 1) (by decide) h2 (b0A (hq M hI0))))
  refine wit_yes (negI (by omega)) (fun q => by rw [show (1 : Int32) = nI 1 from rfl, ltI (by decide) (by omega)] at q; omega) ?_
  rcases cRefD hr hw p1 with ⟨h, hk⟩ | ⟨d, hd, rfl, h0, hk⟩ | ⟨d, hd, rfl, h0, hk⟩
  · exact hk _ ⟨fun q => absurd q (by decide), fun _ => hp _ _ (fun post' hq => mDin_no h (b0A (hq M hI0)))⟩
  · exact hk _ ⟨fun q => absurd q (by decide), fun _ => hp _ _ (fun post' hq => mDin_yes hd (b1A (mWit_yes (n := 1) (by decide) hj (b1A (m34_0 hm h0 (hq M hI0))))))⟩
  obtain ⟨N, hN⟩ : ∃ N, N = 2 ^ S 0 2 := ⟨_, rfl⟩
  have hN8 : N ≤ 256 := by rw [hN]; exact pow_small n3
  have hN1 : 0 < N := by rw [hN]; exact Nat.two_pow_pos _
  have hu : fb_ct (oddP S d) N ≤ N := fb_ct_le _ _
  have hg := hv_gcd ⟨S 0 2, by omega⟩ ⟨fb_ct (oddP S d) N, by omega⟩ (by show fb_ct (oddP S d) N ≤ 2 ^ S 0 2; rw [← hN]; exact hu)
  simp only [← hN] at hg
  refine hk _ (b0A (fun v3 hv => recall_ok hw hr hd (fun M1 a1 a2 a3 => ⟨N + 1, ?_⟩)))
  rw [hr.1.2.2.1, shl1 (by omega), ← hN] at hv
  subst hv
  refine codds_loop hw (a1.rep hr) hN8 (d := d) a3 (fun C c1 => ⟨S 0 2 + 1, ?_⟩) N 0 M1 (by omega) (sameC.rf M1) rfl
  have hsc := a1.tr c1
  refine half_loop (n := S 0 2) (by rw [hsc 5 (by decide)]; exact hr.1.2.2.1) n3 (S 0 2) 0 N (fb_ct (oddP S d) N) (by omega) hN8 (by omega) ?_
  rw [hg]
  have hm1 : repM S C := hm.of (fun a ha _ => hsc a (by omega))
  have hs1 : restR C := hs.of (fun a ha => hsc a (by omega))
  have mod : ∀ r : Int64, (¬ nI j = 0 → r = lN (N / Nat.gcd (fb_ct (oddP S d) N) N)) → (nI j = 0 → r = lN (fb_ct (oddP S d) N / Nat.gcd (fb_ct (oddP S d) N) N)) → post r C := by
    intro r e1 e2
    refine hp _ _ (fun post' hq => mDin_yes hd (b1A (mWit_yes (n := 1) (by decide) hj (b1A (m34_1 hm1 hw h0 ⟨N + 1, ?_⟩)))))
    refine modds_loop hw hm1 hs1.2.2.2.2 hd hN8 hN (fun F f1 f2 f3 => ?_) N 0 C (by omega) (fun _ _ _ => rfl) (fun _ _ => rfl)
    have fin : post' r F := by
      refine hq F ((hI0.C hsc).M (fun a ha => ?_))
      by_cases z : a = 34
      · subst z
        funext q
        by_cases zq : q = 18
        · rw [zq, f3]; exact hs1.2.2.2.1.symm
        · exact f2 q zq
      · exact f1 a ha z
    rw [show fb_ct (fun u => hallC (fun c g => bearS S (fun k => !u.testBit k) 9 c g d) (S 0 0) (S 0 1)) N = fb_ct (oddP S d) N by rw [hN]; exact odds_rev, toL (by omega)]
    exact gcd_loop (by omega) (by omega) hN1 (fun q => by rw [← e1 q]; exact fin) (fun q => by rw [← e2 q]; exact fin) N (fb_ct (oddP S d) N) (by omega) (by omega) rfl
  have d1 : N / Nat.gcd (fb_ct (oddP S d) N) N ≤ N := Nat.div_le_self _ _
  have d2 : fb_ct (oddP S d) N / Nat.gcd (fb_ct (oddP S d) N) N ≤ fb_ct (oddP S d) N := Nat.div_le_self _ _
  unfold jn_X5_odds_118
  rw [toL (by omega), toL (by omega)]
  exact ⟨fun q => mod _ (fun _ => rfl) (fun z => absurd z q), fun q => mod _ (fun z => absurd q z) (fun _ => rfl)⟩
