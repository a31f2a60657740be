/-! copy -/
def rch (len : Nat) (p n : Int32) : Prop := ∃ q m, q + m ≤ len ∧ p = nI q ∧ n = nI m
theorem rngI {p : Int32} {n : Nat} (hn : n < 2147483648) (h1 : ¬ p < 0) (h2 : ¬ nI n < p) : ∃ q, q ≤ n ∧ p = nI q := by
  rw [fa_lt, show ((0 : Int32)).toInt = 0 by decide] at h1
  rw [fa_lt, nI_toInt hn] at h2
  refine ⟨p.toInt.toNat, by omega, ?_⟩
  apply Int32.toInt_inj.mp
  rw [nI_toInt (by omega)]
  omega
theorem rch_of {len : Nat} {p n : Int32} (hl : len ≤ 60) (a1 : ¬ p < 0) (a2 : ¬ nI len < p) (a3 : ¬ n < 0) (a4 : ¬ nI len - p < n) : rch len p n := by
  obtain ⟨q, hq, rfl⟩ := rngI (by omega) a1 a2
  rw [subI hq] at a4
  obtain ⟨m, hm, rfl⟩ := rngI (by omega) a3 a4
  exact ⟨q, m, by omega, rfl, rfl⟩
theorem reach_no {M : Mem} {post : Int32 → Mem → Prop} {c len : Nat} {p n : Int32} (h : M c 2 = nI len) (hl : len ≤ 60) (hb : ¬ rch len p n) (hp : post 0 M) : wp_X4_reaches c p n M post := by
  unfold wp_X4_reaches
  rw [h]
  exact ⟨fun _ => hp, fun a1 => ⟨fun _ => hp, fun a2 => ⟨fun _ => hp, fun a3 => ⟨fun _ => hp, fun a4 => absurd (rch_of hl a1 a2 a3 a4) hb⟩⟩⟩⟩
theorem reach_yes {M : Mem} {post : Int32 → Mem → Prop} {c len q m : Nat} (h : M c 2 = nI len) (hl : len ≤ 60) (hb : q + m ≤ len) (hp : post 1 M) : wp_X4_reaches c (nI q) (nI m) M post := by
  unfold wp_X4_reaches
  rw [h, subI (show q ≤ len by omega)]
  exact ⟨fun y => absurd y (negI (by omega)), fun _ => ⟨fun y => absurd ((ltI (by omega) (by omega)).mp y) (by omega), fun _ => ⟨fun y => absurd y (negI (by omega)), fun _ => ⟨fun y => absurd ((ltI (by omega) (by omega)).mp y) (by omega), fun _ => hp⟩⟩⟩⟩
theorem ix3 (a x i : Nat) : 60 * nI a + nI x + nI i = nI (60 * a + x + i) := by rw [show (60 : Int32) = nI 60 from rfl, mulN, addN, addN]
theorem fwd_loop {M0 : Mem} {a x b y n : Nat} (ha : a < 4) (hb : b < 4) (hx : x + n ≤ 60) (hy : y + n ≤ 60) (hxy : y ≤ x) {post : Int32 → Mem → Prop} (hp : ∀ M, (∀ a, a ≠ 37 → M a = M0 a) → (∀ t, t < n → M 37 (60 * b + y + t) = M0 37 (60 * a + x + t)) → (∀ q, q < 60 * b + y ∨ 60 * b + y + n ≤ q → M 37 q = M0 37 q) → post (nI n) M) :
    ∀ (m i : Nat) (M : Mem), i + m = n → (∀ a, a ≠ 37 → M a = M0 a) → (∀ t, t < i → M 37 (60 * b + y + t) = M0 37 (60 * a + x + t)) → (∀ q, q < 60 * b + y ∨ 60 * b + y + i ≤ q → M 37 q = M0 37 q) → lp_X6_copy_166 (nI a) (nI x) (nI b) (nI y) (nI n) post (m + 1) 0 (nI i) M := by
  intro m
  induction m with
  | zero =>
    intro i M hi h1 h2 h3
    have e : i = n := by omega
    subst e
    exact ⟨fun _ => hp M h1 h2 h3, fun h => absurd ((leI (by omega) (by omega)).mpr (Nat.le_refl _)) h⟩
  | succ m ih =>
    intro i M hi h1 h2 h3
    refine ⟨fun h => absurd ((leI (by omega) (by omega)).mp h) (by omega), fun _ => b0A ?_⟩
    unfold jn_X6_copy_190
    rw [ix3, ix3, cl (show 60 * b + y + i < 2147483648 by omega), cl (show 60 * a + x + i < 2147483648 by omega)]
    refine ⟨inI (by omega) (by decide), inI (by omega) (by decide), fun M10 z => ?_⟩
    subst z
    rw [addI1]
    refine ih (i + 1) _ (by omega) (fun a ha => by rw [up2_n _ _ _ ha]; exact h1 a ha) (fun t ht => ?_) (fun q hq => ?_)
    · rw [up2_s, upd_at]
      by_cases z : t = i
      · rw [if_pos (by omega), z]; exact h3 _ (by omega)
      · rw [if_neg (by omega)]; exact h2 t (by omega)
    · rw [up2_s, upd_n _ _ (by omega)]; exact h3 q (by omega)
theorem bwd_loop {M0 : Mem} {a x b y n : Nat} (ha : a < 4) (hb : b < 4) (hx : x + n ≤ 60) (hy : y + n ≤ 60) (hxy : x < y) {post : Int32 → Mem → Prop} (hp : ∀ M, (∀ a, a ≠ 37 → M a = M0 a) → (∀ t, t < n → M 37 (60 * b + y + t) = M0 37 (60 * a + x + t)) → (∀ q, q < 60 * b + y ∨ 60 * b + y + n ≤ q → M 37 q = M0 37 q) → post (nI n) M) :
    ∀ (m i : Nat) (M : Mem), i + m = n → (∀ a, a ≠ 37 → M a = M0 a) → (∀ t, m ≤ t → t < n → M 37 (60 * b + y + t) = M0 37 (60 * a + x + t)) → (∀ q, q < 60 * b + y + m ∨ 60 * b + y + n ≤ q → M 37 q = M0 37 q) → lp_X6_copy_166 (nI a) (nI x) (nI b) (nI y) (nI n) post (m + 1) 1 (nI i) M := by
  intro m
  induction m with
  | zero =>
    intro i M hi h1 h2 h3
    have e : i = n := by omega
    subst e
    exact ⟨fun _ => hp M h1 (fun t ht => h2 t (Nat.zero_le _) ht) h3, fun h => absurd ((leI (by omega) (by omega)).mpr (Nat.le_refl _)) h⟩
  | succ m ih =>
    intro i M hi h1 h2 h3
    refine ⟨fun h => absurd ((leI (by omega) (by omega)).mp h) (by omega), fun _ => b1A ?_⟩
    have en : nI n - 1 - nI i = nI m := by
      obtain ⟨n', rfl⟩ : ∃ n', n = n' + 1 := ⟨n - 1, by omega⟩
      rw [sub1I, subI (by omega)]
      exact congrArg nI (by omega)
    unfold jn_X6_copy_190
    rw [en, ix3, ix3, cl (show 60 * b + y + m < 2147483648 by omega), cl (show 60 * a + x + m < 2147483648 by omega)]
    refine ⟨inI (by omega) (by decide), inI (by omega) (by decide), fun M10 z => ?_⟩
    subst z
    rw [addI1]
    refine ih (i + 1) _ (by omega) (fun a ha => by rw [up2_n _ _ _ ha]; exact h1 a ha) (fun t ht ht2 => ?_) (fun q hq => ?_)
    · rw [up2_s, upd_at]
      by_cases z : t = m
      · rw [if_pos (by omega), z]; exact h3 _ (by omega)
      · rw [if_neg (by omega)]; exact h2 t (by omega) ht2
    · rw [up2_s, upd_n _ _ (by omega)]; exact h3 q (by omega)
def copyB (p1 p2 p3 p4 p5 : Int32) (post : Int32 → Mem → Prop) (M : Mem) : Prop := (vp_in p1 4 ∧ (((M 35 p1.toNatClampNeg) = (-9) → jn_X6_copy_43 p1 p2 p3 p4 p5 post M) ∧ (¬ (M 35 p1.toNatClampNeg) = (-9) → (vp_in p3 4 ∧ ((¬ (M 35 p3.toNatClampNeg) = (-9) → (vp_in p1 4 ∧ (vp_in p3 4 ∧ (((M 35 p1.toNatClampNeg) = (M 35 p3.toNatClampNeg) → ((p2 < 0 → jn_X6_copy_109 p1 p2 p3 p4 p5 post M) ∧ (¬ p2 < 0 → ((p4 < 0 → jn_X6_copy_109 p1 p2 p3 p4 p5 post M) ∧ (¬ p4 < 0 → ((p5 < 0 → jn_X6_copy_109 p1 p2 p3 p4 p5 post M) ∧ (¬ p5 < 0 → (vp_in p1 4 ∧ (((M 36 p1.toNatClampNeg) < p2 → jn_X6_copy_109 p1 p2 p3 p4 p5 post M) ∧ (¬ (M 36 p1.toNatClampNeg) < p2 → (vp_in p3 4 ∧ (((M 36 p3.toNatClampNeg) < p4 → jn_X6_copy_109 p1 p2 p3 p4 p5 post M) ∧ (¬ (M 36 p3.toNatClampNeg) < p4 → jn_X6_copy_110 p1 p2 p3 p4 p5 post 1 M))))))))))))) ∧ (¬ (M 35 p1.toNatClampNeg) = (M 35 p3.toNatClampNeg) → (wp_X6_fails 2 M (fun r12 M13 => post r12 M13))))))) ∧ ((M 35 p3.toNatClampNeg) = (-9) → jn_X6_copy_43 p1 p2 p3 p4 p5 post M))))))
theorem st_copy {M : Mem} (hI : Inv M) (p1 p2 p3 p4 p5 : Int32) : StpI (wp_X5_copy p1 p2 p3 p4 p5) (wp_X6_copy p1 p2 p3 p4 p5) M := by
  intro post hp M1 z1
  have hP : Pre M1 := by subst z1; exact hI.pre.c 0
  have h0 : M1 0 9 = 0 := by subst z1; rfl
  clear z1
  rcases ixI p1 4 (by omega) with h1 | ⟨a, ha, rfl⟩
  · refine cSh_no h1 (b0A (hp _ _ (fun post' hq M2 z2 => ?_)))
    subst z2
    exact mSh_no h1 (b0A (hq _ (hP.z h0)))
  have hia : vp_in (nI a) 4 := inI ha (by decide)
  have ea := cl (show a < 2147483648 by omega)
  refine cSh_yes ha (b1A ?_)
  rcases ixI p3 4 (by omega) with h3 | ⟨b, hb, rfl⟩
  · refine cSh_no h3 (b0B (hp _ _ (fun post' hq M2 z2 => ?_)))
    subst z2
    exact mSh_yes ha (b1A (mSh_no h3 (b0B (hq _ (hP.z h0)))))
  have hib : vp_in (nI b) 4 := inI hb (by decide)
  have eb := cl (show b < 2147483648 by omega)
  refine cSh_yes hb (b1B ⟨hia, hib, ?_⟩)
  rw [ea, eb]
  have bad : ∀ f : Int32, ¬ f = 0 → (∀ (post' : Int32 → Mem → Prop) (M5 : Mem), M5 35 = M1 35 → M5 36 = M1 36 → post' (-10 - f) (up2 M5 34 0 f) → copyB (nI a) p2 (nI b) p4 p5 post' M5) → ∀ M10 : Mem, M10 = up2 M1 0 9 f → (¬ (M10 0 9) = 0) ∧ (wp_X5_faultAnswer M10 (fun r14 M15 => post r14 M15)) := by
    intro f hf hm M10 z10
    subst z10
    refine ⟨hf, hp _ _ (fun post' hq M2 z2 => mSh_yes ha (b1A (mSh_yes hb (b1B (hm post' M2 ?_ ?_ ?_)))))⟩
    · subst z2; rfl
    · subst z2; rfl
    · subst z2; exact hq _ ((hP.c f).f rfl)
  have bad2 : ∀ (f : Int32) (M10 : Mem) (A : Prop), ((¬ (M10 0 9) = 0) ∧ (wp_X5_faultAnswer M10 (fun r14 M15 => post r14 M15))) → ((M10 0 9 = 0 → A) ∧ (¬ (M10 0 9) = 0 → (wp_X5_faultAnswer M10 (fun r14 M15 => post r14 M15)))) := fun f M10 A h => ⟨fun y => absurd y h.1, fun _ => h.2⟩
  rcases hP.2.1 a ha with ⟨s1, s2⟩ | ⟨lnA, lenA, l1, l2, s1, s2, s3, s4, s5⟩
  · refine emp_yes s2 (b1B (fun M10 z10 => bad2 1 _ _ (bad 1 (by decide) (fun post' M5 e35 e36 hq => ⟨hia, ?_⟩) M10 z10)))
    rw [ea, e35, s1]
    refine ⟨fun _ M7 z7 => ?_, fun y => absurd rfl y⟩
    subst z7
    exact hq
  refine emp_no (by rw [s4]; exact m1_ne (by omega)) (b0B ?_)
  rcases hP.2.1 b hb with ⟨t1, t2⟩ | ⟨lnB, lenB, m1, m2, t1, t2, t3, t4, t5⟩
  · refine emp_yes t2 (b1A (fun M10 z10 => bad2 1 _ _ (bad 1 (by decide) (fun post' M5 e35 e36 hq => ⟨hia, ?_⟩) M10 z10)))
    rw [ea, eb, e35, s1, t1]
    refine ⟨fun y => absurd y (m9_ne (by omega)), fun _ => ⟨hib, fun y => absurd rfl y, fun _ M7 z7 => ?_⟩⟩
    subst z7
    exact hq
  refine emp_no (by rw [t4]; exact m1_ne (by omega)) (b0A ?_)
  rw [s2, t2]
  refine ⟨fun hln => ?_, fun hln M10 z10 => bad2 2 _ _ (bad 2 (by decide) (fun post' M5 e35 e36 hq => ⟨hia, ?_⟩) M10 z10)⟩
  rotate_left
  · rw [ea, eb, e35, s1, t1]
    refine ⟨fun y => absurd y (m9_ne (by omega)), fun _ => ⟨hib, fun _ => ⟨hia, hib, fun y => absurd y hln, fun _ M7 z7 => ?_⟩, fun y => absurd y (m9_ne (by omega))⟩⟩
    subst z7
    exact hq
  have no : ¬ (rch lenA p2 p5 ∧ rch lenB p4 p5) → ∀ M10 : Mem, M10 = up2 M1 0 9 3 → (¬ (M10 0 9) = 0) ∧ (wp_X5_faultAnswer M10 (fun r14 M15 => post r14 M15)) := by
    intro hn
    refine bad 3 (by decide) (fun post' M5 e35 e36 hq => ⟨hia, ?_⟩)
    have f3 : jn_X6_copy_144 (nI a) p2 (nI b) p4 p5 post' M5 := fun M7 z7 => by subst z7; exact hq
    have f9 : jn_X6_copy_109 (nI a) p2 (nI b) p4 p5 post' M5 := ⟨fun _ => f3, fun y => absurd rfl y⟩
    rw [ea, eb, e35, e36, s1, t1, s3, t3]
    refine ⟨fun y => absurd y (m9_ne (by omega)), fun _ => ⟨hib, fun _ => ⟨hia, hib, fun _ => ⟨fun _ => f9, fun a1 => ⟨fun _ => f9, fun a2 => ⟨fun _ => f9, fun a3 => ⟨hia, fun _ => f9, fun a4 => ⟨hib, fun _ => f9, fun a5 => ⟨fun _ => f3, fun _ => ⟨hia, ?_⟩⟩⟩⟩⟩⟩⟩, fun y => absurd hln y⟩, fun y => absurd y (m9_ne (by omega))⟩⟩
    rw [ea, eb, e36, s3, t3]
    refine ⟨fun _ => f3, fun a6 => ⟨hib, fun a7 => absurd ⟨rch_of l2 a1 a4 a3 a6, rch_of m2 a2 a5 a3 (fun y => ?_)⟩ hn, fun _ => f3⟩⟩
    rw [fa_lt] at y
    rw [fa_le] at a7
    omega
  by_cases hA : rch lenA p2 p5
  rotate_left
  · exact reach_no s4 l2 hA (b0A (fun M10 z10 => bad2 3 _ _ (no (fun y => hA y.1) M10 z10)))
  by_cases hB : rch lenB p4 p5
  rotate_left
  · obtain ⟨x, n, hx, rfl, rfl⟩ := hA
    exact reach_yes s4 l2 hx (b1A (reach_no t4 m2 hB (b0A (fun M10 z10 => bad2 3 _ _ (no (fun y => hB y.2) M10 z10)))))
  clear no bad bad2
  obtain ⟨x, n, hx, rfl, rfl⟩ := hA
  obtain ⟨y, n', hy, rfl, en⟩ := hB
  by_cases hnn : n < 2147483648
  rotate_left
  · omega
  by_cases hnn' : n' < 2147483648
  rotate_left
  · omega
  have e' : n = n' := (eqI hnn hnn').mp en
  subst e'
  refine reach_yes s4 l2 hx (b1A (reach_yes t4 m2 hy (b1A (fun M10 z10 => ⟨fun _ => ⟨hia, hib, negI (by omega), negI (by omega), negI (by omega), ?_⟩, fun q => absurd (by subst z10; rfl) q⟩))))
  rw [cl (show x < 2147483648 by omega), cl (show y < 2147483648 by omega), cl hnn, show 26 + b + 4 = 30 + b by omega, show 26 + a + 4 = 30 + a by omega]
  refine ⟨by omega, by omega, fun C zC => hp _ _ (fun post' hq M2 z2 => ?_)⟩
  have c1 : ∀ k, k ≠ 0 → k ≠ 30 + b → k ≠ 34 → M2 k = M1 k := fun k k1 k2 k3 => by
    subst z2; subst zC; subst z10
    rw [up2_n _ _ _ k3, upA_ne _ _ k2, up2_n _ _ _ k1]
  have c2 : ∀ j, M2 (30 + b) j = if y ≤ j ∧ j < y + n then M1 (30 + a) (x + (j - y)) else M1 (30 + b) j := fun j => by
    subst z2; subst zC; subst z10
    rw [up2_n _ _ _ (by omega), upA_same, up2_n _ _ _ (by omega), up2_n _ _ _ (by omega)]
    rfl
  have fin : ∀ F : Mem, (∀ a, a ≠ 37 → F a = M2 a) → (∀ t, t < n → F 37 (60 * b + y + t) = M2 37 (60 * a + x + t)) → (∀ q, q < 60 * b + y ∨ 60 * b + y + n ≤ q → F 37 q = M2 37 q) → Inv F := by
    intro F f1 f2 f3
    refine Pre.inv (hP.sh hb (fun k x1 x2 x3 x4 x5 x6 x7 => by rw [f1 k x5]; exact c1 k x6 x2 x7) (fun i hi => ?_) ?_ (fun i hi => ?_) (fun i hi => ?_) (fun i hi => ?_) (Or.inr ⟨lnB, lenB, m1, m2, ?_, ?_, ?_, ?_, fun i hi => ?_⟩)) ?_
    · rw [f1 34 (by decide)]; subst z2; subst zC; subst z10
      rw [up2_s, upd_n _ _ (by omega), upA_ne _ _ (by omega), up2_n _ _ _ (by omega)]
    · rw [f1 0 (by decide)]; subst z2; subst zC; subst z10
      rw [up2_n _ _ _ (by omega), upA_ne _ _ (by omega), up2_s, upd_n _ _ (by decide)]
    · rw [f1 35 (by decide), c1 35 (by omega) (by omega) (by omega)]
    · rw [f1 36 (by decide), c1 36 (by omega) (by omega) (by omega)]
    · rw [f3 i (by omega), c1 37 (by omega) (by omega) (by omega)]
    · rw [f1 35 (by decide), c1 35 (by omega) (by omega) (by omega)]; exact t1
    · rw [f1 _ (by omega), c1 _ (by omega) (by omega) (by omega)]; exact t2
    · rw [f1 36 (by decide), c1 36 (by omega) (by omega) (by omega)]; exact t3
    · rw [f1 _ (by omega), c1 _ (by omega) (by omega) (by omega)]; exact t4
    · rw [f1 _ (by omega), c2]
      by_cases z : y ≤ i ∧ i < y + n
      · rw [if_pos z, show 60 * b + i = 60 * b + y + (i - y) by omega, f2 _ (by omega), c1 37 (by omega) (by omega) (by omega), s5 _ (by omega)]
        exact congrArg (M1 37) (by omega)
      · rw [if_neg z, f3 _ (by omega), c1 37 (by omega) (by omega) (by omega)]
        exact t5 i hi
    · rw [f1 0 (by decide), f1 34 (by decide)]; subst z2; subst zC; subst z10
      rw [up2_n _ _ _ (by omega), upA_ne _ _ (by omega), up2_s, upd_s, up2_s, upd_s]
  refine mSh_yes ha (b1A (mSh_yes hb (b1B ⟨hia, ?_⟩)))
  rw [ea, eb, c1 35 (by omega) (by omega) (by omega), c1 36 (by omega) (by omega) (by omega), s1, t1, s3, t3]
  refine ⟨fun q => absurd q (m9_ne (by omega)), fun _ => ⟨hib, fun _ => ⟨hia, hib, fun _ => ⟨fun q => absurd q (negI (by omega)), fun _ => ⟨fun q => absurd q (negI (by omega)), fun _ => ⟨fun q => absurd q (negI (by omega)), fun _ => ⟨hia, fun q => absurd ((ltI (by omega) (by omega)).mp q) (by omega), fun _ => ⟨hib, fun q => absurd ((ltI (by omega) (by omega)).mp q) (by omega), fun _ => ⟨fun q => absurd q (by decide), fun _ => ⟨hia, ?_⟩⟩⟩⟩⟩⟩⟩, fun q => absurd hln q⟩, fun q => absurd q (m9_ne (by omega))⟩⟩
  rw [ea, eb, c1 36 (by omega) (by omega) (by omega), s3, t3, subI (show x ≤ lenA by omega), subI (show y ≤ lenB by omega)]
  refine ⟨fun q => absurd ((ltI (by omega) (by omega)).mp q) (by omega), fun _ => ⟨hib, fun _ => ⟨fun q => ?_, fun q => ?_⟩, fun q => absurd ((leI (by omega) (by omega)).mpr (by omega)) q⟩⟩
  · rw [leI (by omega) (by omega)] at q
    exact ⟨n + 1, fwd_loop ha hb (by omega) (by omega) q (fun F f1 f2 f3 => hq F (fin F f1 f2 f3)) n 0 M2 (by omega) (fun _ _ => rfl) (fun t ht => by omega) (fun _ _ => rfl)⟩
  · rw [leI (by omega) (by omega)] at q
    exact ⟨n + 1, bwd_loop ha hb (by omega) (by omega) (by omega) (fun F f1 f2 f3 => hq F (fin F f1 f2 f3)) n 0 M2 (by omega) (fun _ _ => rfl) (fun t ht ht2 => by omega) (fun _ _ => rfl)⟩
