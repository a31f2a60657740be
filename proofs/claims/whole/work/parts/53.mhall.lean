/-! the hall's text, as the reference reads it -/
theorem dig {c : Int32} {m : Nat} (hm : m ≤ 9) (h1 : ¬ c < 48) (h2 : ¬ nI (48 + m) < c) : ∃ v, v ≤ m ∧ c - 48 = nI v ∧ c = nI (48 + v) := by
  have h0 : ¬ c < 0 := fun y => h1 (by rw [fa_lt] at y ⊢; rw [show ((0 : Int32)).toInt = 0 by decide] at y; rw [show ((48 : Int32)).toInt = 48 by decide]; omega)
  obtain ⟨w, hw, rfl⟩ := rngI (by omega) h0 h2
  rw [show (48 : Int32) = nI 48 from rfl, ltI (by omega) (by decide)] at h1
  refine ⟨w - 48, by omega, ?_, ?_⟩
  · rw [show (48 : Int32) = nI 48 from rfl, subI (by omega)]
  · exact congrArg nI (by omega)
def hfr (M0 M : Mem) : Prop := (∀ a, a ≠ 34 → a ≠ 47 → M a = M0 a) ∧ (∀ j, j ≠ 20 → j ≠ 21 → j ≠ 22 → M 34 j = M0 34 j)
theorem hfr.u47 {M0 M : Mem} (h : hfr M0 M) (j : Nat) (v : Int32) : hfr M0 (up2 M 47 j v) := ⟨fun a h1 h2 => by rw [up2_n _ _ _ h2]; exact h.1 a h1 h2, fun j => h.2 j⟩
theorem hfr.u34 {M0 M : Mem} (h : hfr M0 M) {j : Nat} (hj : j = 20 ∨ j = 21 ∨ j = 22) (v : Int32) : hfr M0 (up2 M 34 j v) := ⟨fun a h1 h2 => by rw [up2_n _ _ _ h1]; exact h.1 a h1 h2, fun i x1 x2 x3 => by rw [up2_s, upd_n _ _ (by omega)]; exact h.2 i x1 x2 x3⟩
section Rd
variable {s n : Nat} {T : Nat → Int32}
theorem sign_ok {M : Mem} (hsn : s + n ≤ 240) (hT : ∀ t, t < n → M 37 (s + t) = T t) {j : Nat} (hj : j ≤ n) (hpos : M 34 20 = nI (s + j)) {c : Int32} {post : Int32 → Mem → Prop} (h1 : j < n → T j = c → post 1 (up2 M 34 20 (nI (s + (j + 1))))) (h0 : (j = n ∨ (j < n ∧ ¬ T j = c)) → post 0 M) : wp_X6_isSign (nI (s + n)) c M post := by
  unfold wp_X6_isSign
  rw [hpos]
  refine ⟨fun y => h0 (Or.inl ?_), fun y => ?_⟩
  · have := (leI (by omega) (by omega)).mp y
    omega
  · have hjn : j < n := by
      by_cases z : j < n
      · exact z
      · exact absurd ((leI (by omega) (by omega)).mpr (by omega)) y
    rw [cl (show s + j < 2147483648 by omega), hT j hjn, addI1]
    refine ⟨inI (by omega) (by decide), fun z M1 z1 => ?_, fun z => h0 (Or.inr ⟨hjn, z⟩)⟩
    subst z1
    exact h1 hjn z
theorem digit_ok {M : Mem} (hsn : s + n ≤ 240) (hT : ∀ t, t < n → M 37 (s + t) = T t) {j : Nat} (hj : j ≤ n) (hpos : M 34 20 = nI (s + j)) {p2 p3 lo hi : Int32} (elo : 48 + p2 = lo) (ehi : 48 + p3 = hi) {post : Int32 → Mem → Prop} (h1 : j < n → ¬ T j < lo → ¬ hi < T j → post (T j - 48) (up2 M 34 20 (nI (s + (j + 1))))) (h0 : (j = n ∨ (j < n ∧ ¬ (¬ T j < lo ∧ ¬ hi < T j))) → post (-9) M) : wp_X6_digit (nI (s + n)) p2 p3 M post := by
  unfold wp_X6_digit
  rw [hpos, elo, ehi]
  refine ⟨fun y => h0 (Or.inl ?_), fun y => ?_⟩
  · have := (leI (by omega) (by omega)).mp y
    omega
  · have hjn : j < n := by
      by_cases z : j < n
      · exact z
      · exact absurd ((leI (by omega) (by omega)).mpr (by omega)) y
    rw [cl (show s + j < 2147483648 by omega), hT j hjn]
    refine ⟨inI (by omega) (by decide), fun z => b0B (h0 (Or.inr ⟨hjn, fun w => w.1 z⟩)), fun z => ⟨fun z2 => b0B (h0 (Or.inr ⟨hjn, fun w => w.2 z2⟩)), fun z2 => b1B (fun M3 z3 => ?_)⟩⟩
    rw [hpos, addI1] at z3
    subst z3
    rw [up2_s, upd_s, sub1I, cl (show s + j < 2147483648 by omega)]
    refine ⟨inI (by omega) (by decide), ?_⟩
    rw [up2_n _ _ _ (show (37 : Nat) ≠ 34 by decide), hT j hjn]
    exact h1 hjn z z2
theorem rc_no {M : Mem} {q : Nat} (hq : q < 5) {p1 : Int32} {post : Int32 → Mem → Prop} (hp : post 0 (up2 M 47 (3 * q) (-9))) : jn_X6_readChair_66 p1 post (nI (3 * q)) (-9) (nI (3 * q)) M := by
  have hi : vp_in (nI (3 * q)) 15 := inI (by omega) (by decide)
  have e := cl (show 3 * q < 2147483648 by omega)
  refine ⟨hi, fun M2 z2 => ⟨hi, ?_⟩⟩
  rw [e] at z2
  subst z2
  rw [e, up2_s, upd_s]
  exact ⟨fun y => absurd rfl y, fun _ => hp⟩
theorem rc_yes {M0 M : Mem} (hsn : s + n ≤ 240) (hT : ∀ t, t < n → M 37 (s + t) = T t) {q : Nat} (hq : q < 5) (hj : 4 + 4 * q ≤ n) (hpos : M 34 20 = nI (s + (3 + 4 * q))) (h22 : M 34 22 = nI q) (hf : hfr M0 M) (hg : ∀ t, t < 4 + 4 * q → gram t (T t)) {kk : Nat} (hkk : kk ≤ 2) {post : Int32 → Mem → Prop}
    (h0 : ∀ M' j, j ≤ n → isF n T j → hfr M0 M' → M' 34 20 = nI (s + j) → post 0 M')
    (h1 : ∀ M', 6 + 4 * q ≤ n → (∀ t, t < 6 + 4 * q → gram t (T t)) → hfr M0 M' → M' 34 20 = nI (s + (6 + 4 * q)) → M' 34 22 = nI (q + 1) → M' 34 21 = M 34 21 → (∀ i, i < 3 * q → M' 47 i = M 47 i) → M' 47 (3 * q) = nI kk → M' 47 (3 * q + 1) = T (4 + 4 * q) - 48 → M' 47 (3 * q + 2) = T (5 + 4 * q) - 48 → post 1 M') :
    jn_X6_readChair_66 (nI (s + n)) post (nI (3 * q)) (nI kk) (nI (3 * q)) M := by
  have hi : vp_in (nI (3 * q)) 15 := inI (by omega) (by decide)
  have hi1 : vp_in (nI (3 * q + 1)) 15 := inI (by omega) (by decide)
  have hi2 : vp_in (nI (3 * q + 2)) 15 := inI (by omega) (by decide)
  have e := cl (show 3 * q < 2147483648 by omega)
  have e1 := cl (show 3 * q + 1 < 2147483648 by omega)
  have e2 := cl (show 3 * q + 2 < 2147483648 by omega)
  have a2 : nI (3 * q) + 2 = nI (3 * q + 2) := addN (3 * q) 2
  unfold jn_X6_readChair_66
  rw [addI1, a2, e, e1, e2]
  refine ⟨hi, fun M2 z2 => ⟨hi, fun _ M3 z3 => ?_, fun y => absurd (by subst z2; rw [up2_s, upd_s] at y; exact y) (m9_ne (a := kk) (by omega))⟩⟩
  have f2 : hfr M0 M2 := by subst z2; exact hf.u47 _ _
  have x34 : M2 34 = M 34 := by subst z2; rfl
  rw [x34, hpos, addI1] at z3
  have f3 : hfr M0 M3 := by subst z3; exact f2.u34 (Or.inl rfl) _
  have x3p : M3 34 20 = nI (s + (4 + 4 * q)) := by subst z3; rw [up2_s, upd_s]; exact congrArg nI (by omega)
  have x3c : M3 34 22 = nI q := by subst z3; rw [up2_s, upd_n _ _ (by decide), x34]; exact h22
  have x3g : M3 34 21 = M 34 21 := by subst z3; rw [up2_s, upd_n _ _ (by decide), x34]
  have x3k : M3 47 (3 * q) = nI kk := by subst z3; subst z2; rw [up2_n _ _ _ (by decide), up2_s, upd_s]
  have x3o : ∀ i, i < 3 * q → M3 47 i = M 47 i := by subst z3; subst z2; intro i hi; rw [up2_n _ _ _ (by decide), up2_s, upd_n _ _ (by omega)]
  have x37 : ∀ t, t < n → M3 37 (s + t) = T t := by subst z3; subst z2; exact hT
  clear z3 z2
  refine digit_ok hsn x37 hj x3p (lo := 48) (hi := 52) rfl rfl (fun hjn hl hh => ⟨hi1, fun M6 z6 => ⟨hi1, fun _ => ?_, fun y => ?_⟩⟩) (fun hbad => ⟨hi1, fun M6 z6 => ⟨hi1, fun y => ?_, fun _ => ?_⟩⟩)
  · have f6 : hfr M0 M6 := by subst z6; exact (f3.u34 (Or.inl rfl) _).u47 _ _
    have y34 : M6 34 20 = nI (s + (5 + 4 * q)) := by subst z6; rw [up2_n _ _ _ (by decide), up2_s, upd_s]; exact congrArg nI (by omega)
    have y22 : M6 34 22 = nI q := by subst z6; rw [up2_n _ _ _ (by decide), up2_s, upd_n _ _ (by decide)]; exact x3c
    have y21 : M6 34 21 = M 34 21 := by subst z6; rw [up2_n _ _ _ (by decide), up2_s, upd_n _ _ (by decide)]; exact x3g
    have yk : M6 47 (3 * q) = nI kk := by subst z6; rw [up2_s, upd_n _ _ (by omega), up2_n _ _ _ (by decide)]; exact x3k
    have ye : M6 47 (3 * q + 1) = T (4 + 4 * q) - 48 := by subst z6; rw [up2_s, upd_s]
    have yo : ∀ i, i < 3 * q → M6 47 i = M 47 i := by subst z6; intro i hi; rw [up2_s, upd_n _ _ (by omega), up2_n _ _ _ (by decide)]; exact x3o i hi
    have y37 : ∀ t, t < n → M6 37 (s + t) = T t := by subst z6; exact x37
    clear z6
    have hg5 : ∀ t, t < 5 + 4 * q → gram t (T t) := by
      rw [show 5 + 4 * q = (4 + 4 * q) + 1 by omega]
      exact succ_all hg (grE.mpr ⟨hl, hh⟩)
    refine digit_ok hsn y37 (by omega) y34 (lo := 48) (hi := 57) rfl rfl (fun hjn hl hh => ⟨hi2, fun M9 z9 M10 z10 => ⟨hi2, fun y => ?_, fun _ => ?_⟩⟩) (fun hbad => ⟨hi2, fun M9 z9 M10 z10 => ⟨hi2, fun _ => ?_, fun y => ?_⟩⟩)
    · exfalso
      subst z10
      subst z9
      rw [up2_n _ _ _ (by decide), up2_s, upd_s] at y
      obtain ⟨v, hv, ev, -⟩ := dig (m := 9) (by decide) hl hh
      rw [ev] at y
      exact m9_ne (by omega) y
    · have hg6 : ∀ t, t < 6 + 4 * q → gram t (T t) := by
        rw [show 6 + 4 * q = (5 + 4 * q) + 1 by omega]
        exact succ_all hg5 (grG.mpr ⟨hl, hh⟩)
      subst z10
      subst z9
      refine h1 _ (by omega) hg6 (((f6.u34 (Or.inl rfl) _).u47 _ _).u34 (Or.inr (Or.inr rfl)) _) ?_ ?_ ?_ (fun i hi => ?_) ?_ ?_ ?_
      · rw [up2_s, upd_n _ _ (by decide), up2_n _ _ _ (by decide), up2_s, upd_s]; exact congrArg nI (by omega)
      · rw [up2_s, upd_s, up2_n _ _ _ (by decide), up2_s, upd_n _ _ (by decide), y22, addI1]
      · rw [up2_s, upd_n _ _ (by decide), up2_n _ _ _ (by decide), up2_s, upd_n _ _ (by decide)]; exact y21
      · rw [up2_n _ _ _ (by decide), up2_s, upd_n _ _ (by omega), up2_n _ _ _ (by decide)]; exact yo i hi
      · rw [up2_n _ _ _ (by decide), up2_s, upd_n _ _ (by omega), up2_n _ _ _ (by decide)]; exact yk
      · rw [up2_n _ _ _ (by decide), up2_s, upd_n _ _ (by omega), up2_n _ _ _ (by decide)]; exact ye
      · rw [up2_n _ _ _ (by decide), up2_s, upd_s]
    · subst z10
      subst z9
      refine h0 _ (5 + 4 * q) (by omega) ⟨hg5, ?_⟩ ((f6.u47 _ _).u34 (Or.inr (Or.inr rfl)) _) ?_
      · rcases hbad with z | ⟨z1, z2⟩
        · exact Or.inr ⟨z, Or.inr (by omega)⟩
        · exact Or.inl ⟨z1, fun g => z2 (grG.mp g)⟩
      · rw [up2_s, upd_n _ _ (by decide), up2_n _ _ _ (by decide)]; exact y34
    · exfalso
      subst z10
      subst z9
      rw [up2_n _ _ _ (by decide), up2_s, upd_s] at y
      exact y rfl
  · exfalso
    subst z6
    rw [up2_s, upd_s] at y
    obtain ⟨v, hv, ev, -⟩ := dig (m := 4) (by decide) hl hh
    rw [ev] at y
    exact m9_ne (by omega) y
  · exfalso
    subst z6
    rw [up2_s, upd_s] at y
    exact y rfl
  · subst z6
    refine h0 _ (4 + 4 * q) (by omega) ⟨hg, ?_⟩ (f3.u47 _ _) (by rw [up2_n _ _ _ (by decide)]; exact x3p)
    rcases hbad with z | ⟨z1, z2⟩
    · exact Or.inr ⟨z, Or.inr (by omega)⟩
    · exact Or.inl ⟨z1, fun g => z2 (grE.mp g)⟩
theorem readChair_ok {M0 M : Mem} (hsn : s + n ≤ 240) (hT : ∀ t, t < n → M 37 (s + t) = T t) {q : Nat} (hq : q < 5) (hj : 3 + 4 * q ≤ n) (hpos : M 34 20 = nI (s + (3 + 4 * q))) (h22 : M 34 22 = nI q) (hf : hfr M0 M) (hg : ∀ t, t < 3 + 4 * q → gram t (T t)) {post : Int32 → Mem → Prop}
    (h0 : ∀ M' j, j ≤ n → isF n T j → hfr M0 M' → M' 34 20 = nI (s + j) → post 0 M')
    (h1 : ∀ M', 6 + 4 * q ≤ n → (∀ t, t < 6 + 4 * q → gram t (T t)) → hfr M0 M' → M' 34 20 = nI (s + (6 + 4 * q)) → M' 34 22 = nI (q + 1) → M' 34 21 = M 34 21 → (∀ i, i < 3 * q → M' 47 i = M 47 i) → M' 47 (3 * q) = nI (kindN (T (3 + 4 * q))) → M' 47 (3 * q + 1) = T (4 + 4 * q) - 48 → M' 47 (3 * q + 2) = T (5 + 4 * q) - 48 → post 1 M') :
    wp_X6_readChair (nI (s + n)) M post := by
  intro v1 hv
  rw [h22, show (3 : Int32) = nI 3 from rfl, mulN] at hv
  subst hv
  rw [hpos]
  have bad : (3 + 4 * q = n ∨ (3 + 4 * q < n ∧ ¬ gram (3 + 4 * q) (T (3 + 4 * q)))) → post 0 (up2 M 47 (3 * q) (-9)) := by
    intro hb
    refine h0 _ (3 + 4 * q) hj ⟨hg, ?_⟩ (hf.u47 _ _) (by rw [up2_n _ _ _ (by decide)]; exact hpos)
    rcases hb with z | z
    · exact Or.inr ⟨z, Or.inr (by omega)⟩
    · exact Or.inl z
  refine ⟨fun y => ?_, fun y => ⟨inI (by have : ¬ s + n ≤ s + (3 + 4 * q) := fun z => y ((leI (by omega) (by omega)).mpr z); omega) (by decide), ?_⟩⟩
  · have hn : 3 + 4 * q = n := by
      have := (leI (by omega) (by omega)).mp y
      omega
    exact ⟨fun _ => ⟨fun _ => ⟨fun _ => rc_no hq (bad (Or.inl hn)), fun z => absurd z (by decide)⟩, fun z => absurd z (by decide)⟩, fun z => absurd z (by decide)⟩
  · have hjn : 3 + 4 * q < n := by
      have : ¬ s + n ≤ s + (3 + 4 * q) := fun z => y ((leI (by omega) (by omega)).mpr z)
      omega
    rw [cl (show s + (3 + 4 * q) < 2147483648 by omega), hT _ hjn]
    have hg4 : gram (3 + 4 * q) (T (3 + 4 * q)) → ∀ t, t < 4 + 4 * q → gram t (T t) := by
      intro g
      rw [show 4 + 4 * q = (3 + 4 * q) + 1 by omega]
      exact succ_all hg g
    have yes : ∀ kk, gram (3 + 4 * q) (T (3 + 4 * q)) → kindN (T (3 + 4 * q)) = kk → kk ≤ 2 → jn_X6_readChair_66 (nI (s + n)) post (nI (3 * q)) (nI kk) (nI (3 * q)) M := by
      intro kk g ek hkk
      rw [ek] at h1
      exact rc_yes hsn hT hq (by omega) hpos h22 hf (hg4 g) hkk h0 h1
    refine ⟨fun y1 => ⟨fun y2 => ⟨fun y3 => rc_no hq (bad (Or.inr ⟨hjn, fun g => (grK.mp g).elim y1 (fun g => g.elim y2 y3)⟩)), fun y3 => ?_⟩, fun y2 => ?_⟩, fun y1 => ?_⟩
    · exact yes 2 (grK.mpr (Or.inr (Or.inr y3))) (by rw [y3]; rfl) (by decide)
    · exact yes 1 (grK.mpr (Or.inr (Or.inl y2))) (by rw [y2]; rfl) (by decide)
    · exact yes 0 (grK.mpr (Or.inl y1)) (by rw [y1]; rfl) (by decide)
def rd47 (M : Mem) (T : Nat → Int32) (j : Nat) : Prop := M 47 (3 * j) = nI (kindN (T (3 + 4 * j))) ∧ M 47 (3 * j + 1) = T (4 + 4 * j) - 48 ∧ M 47 (3 * j + 2) = T (5 + 4 * j) - 48
theorem rh_loop {M0 : Mem} (hsn : s + n ≤ 240) (hT : ∀ t, t < n → M0 37 (s + t) = T t) {g : Int32} {post : Int32 → Mem → Prop}
    (h0 : ∀ M' j, j ≤ n → isF n T j → hfr M0 M' → M' 34 20 = nI (s + j) → post 0 M')
    (h1 : ∀ M' nc, 1 ≤ nc → nc ≤ 5 → n = 2 + 4 * nc → allG n T → hfr M0 M' → M' 34 21 = g → M' 34 22 = nI nc → (∀ j, j < nc → rd47 M' T j) → post 1 M') :
    ∀ (m q : Nat) (M : Mem), q + m = 5 → 2 + 4 * q ≤ n → (∀ t, t < 2 + 4 * q → gram t (T t)) → hfr M0 M → M 34 20 = nI (s + (2 + 4 * q)) → M 34 22 = nI q → M 34 21 = g → (∀ j, j < q → rd47 M T j) → lp_X6_readHall_39 (nI (s + n)) post (m + 1) M := by
  intro m
  induction m with
  | zero =>
    intro q M hq hle hg hf hpos h22 h21 h47
    have e : q = 5 := by omega
    subst e
    unfold lp_X6_readHall_39
    rw [h22]
    refine ⟨fun y => absurd y (by decide), fun _ => ⟨fun _ => ?_, fun y => absurd (by decide) y⟩⟩
    unfold jn_X6_readHall_82
    rw [hpos, eqI (by omega) (by omega)]
    refine ⟨fun y => h0 M 22 (by omega) ⟨hg, Or.inl ⟨by omega, fun g => ?_⟩⟩ hf hpos, fun y => h1 M 5 (by decide) (by decide) (by omega) ⟨?_, by omega, by omega⟩ hf h21 h22 h47⟩
    · exact absurd (grC (q := 5).mp g).2 (by decide)
    · rw [show n = 2 + 4 * 5 by omega]; exact hg
  | succ m ih =>
    intro q M hq hle hg hf hpos h22 h21 h47
    have hTM : ∀ t, t < n → M 37 (s + t) = T t := fun t ht => by rw [hf.1 37 (by decide) (by decide)]; exact hT t ht
    have body : (q = 0 ∨ 2 + 4 * q < n) → jn_X6_readHall_62 (nI (s + n)) post (fun M' => lp_X6_readHall_39 (nI (s + n)) post (m + 1) M') M := by
      intro hb
      refine sign_ok hsn hTM hle hpos (fun hjn hc => b1A ?_) (fun hbad => b0A (h0 M (2 + 4 * q) hle ⟨hg, ?_⟩ hf hpos))
      · have hg3 : ∀ t, t < 3 + 4 * q → gram t (T t) := by
          rw [show 3 + 4 * q = (2 + 4 * q) + 1 by omega]
          exact succ_all hg (grC.mpr ⟨hc, by omega⟩)
        have f2 : hfr M0 (up2 M 34 20 (nI (s + (2 + 4 * q + 1)))) := hf.u34 (Or.inl rfl) _
        refine readChair_ok (q := q) hsn (fun t ht => by rw [up2_n _ _ _ (by decide)]; exact hTM t ht) (by omega) (by omega) (by rw [up2_s, upd_s]; exact congrArg nI (by omega)) (by rw [up2_s, upd_n _ _ (by decide)]; exact h22) f2 hg3 (fun M' j hj hF hfM hp' => b0B (h0 M' j hj hF hfM hp')) (fun M' c1 c2 c3 c4 c5 c6 c7 c8 c9 c10 => b1B ?_)
        rw [up2_s, upd_n _ _ (by decide), h21] at c6
        rw [up2_n _ _ _ (by decide)] at c7
        refine ih (q + 1) M' (by omega) (by omega) (fun t ht => c2 t (by omega)) c3 (by rw [c4]; exact congrArg nI (by omega)) c5 c6 (succ_all (fun j hj => ?_) ⟨c8, c9, c10⟩)
        obtain ⟨q1, q2, q3⟩ := h47 j hj
        exact ⟨by rw [c7 _ (by omega)]; exact q1, by rw [c7 _ (by omega)]; exact q2, by rw [c7 _ (by omega)]; exact q3⟩
      · rcases hbad with z | ⟨z1, z2⟩
        · exact Or.inr ⟨z, Or.inl (by omega)⟩
        · exact Or.inl ⟨z1, fun g => z2 (grC.mp g).1⟩
    unfold lp_X6_readHall_39
    rw [h22, show (0 : Int32) = nI 0 from rfl, eqI (by omega) (by decide)]
    refine ⟨fun y => body (Or.inl y), fun y => ⟨fun y2 => ?_, fun _ => ?_⟩⟩
    · exact absurd ((leI (a := 5) (by decide) (by omega)).mp y2) (by omega)
    · rw [hpos, leI (by omega) (by omega)]
      refine ⟨fun y3 => ?_, fun y3 => body (Or.inr (by omega))⟩
      unfold jn_X6_readHall_82
      rw [hpos, eqI (by omega) (by omega)]
      refine ⟨fun y4 => absurd (by omega) y4, fun _ => h1 M q (by omega) (by omega) (by omega) ⟨?_, by omega, by omega⟩ hf h21 h22 h47⟩
      rw [show n = 2 + 4 * q by omega]; exact hg
theorem readHall_ok {M : Mem} (hsn : s + n ≤ 240) (hT : ∀ t, t < n → M 37 (s + t) = T t) (hpos : M 34 20 = nI s) {post : Int32 → Mem → Prop}
    (h0 : ∀ M' j, j ≤ n → isF n T j → hfr M M' → M' 34 20 = nI (s + j) → post 0 M')
    (h1 : ∀ M' nc, 1 ≤ nc → nc ≤ 5 → n = 2 + 4 * nc → allG n T → hfr M M' → M' 34 21 = T 1 - 48 → M' 34 22 = nI nc → (∀ j, j < nc → rd47 M' T j) → post 1 M') : wp_X6_readHall (nI (s + n)) M post := by
  intro M1 z1
  have f0 : hfr M M := ⟨fun _ _ _ => rfl, fun _ _ _ _ => rfl⟩
  have f1 : hfr M M1 := by subst z1; exact f0.u34 (Or.inr (Or.inr rfl)) _
  have x20 : M1 34 20 = nI (s + 0) := by subst z1; rw [up2_s, upd_n _ _ (by decide)]; exact hpos
  have x22 : M1 34 22 = nI 0 := by subst z1; rw [up2_s, upd_s]; rfl
  have x37 : ∀ t, t < n → M1 37 (s + t) = T t := by subst z1; exact hT
  clear z1
  refine sign_ok hsn x37 (Nat.zero_le _) x20 (fun hjn hc => b1B ?_) (fun hbad => b0B (h0 M1 0 (Nat.zero_le _) ⟨fun t ht => by omega, ?_⟩ f1 x20))
  · have hg1 : ∀ t, t < 1 → gram t (T t) := fun t ht => by rw [show t = 0 by omega]; exact hc
    have f2 : hfr M (up2 M1 34 20 (nI (s + (0 + 1)))) := f1.u34 (Or.inl rfl) _
    refine digit_ok (T := T) hsn (fun t ht => by rw [up2_n _ _ _ (by decide)]; exact x37 t ht) (j := 1) (by omega) (by rw [up2_s, upd_s]) (lo := 49) (hi := 53) rfl rfl (fun hjn hl hh => fun M6 z6 => ⟨fun _ => ⟨6, ?_⟩, fun y => ?_⟩) (fun hbad => fun M6 z6 => ⟨fun y => ?_, fun _ => ?_⟩)
    · have hg2 : ∀ t, t < 2 + 4 * 0 → gram t (T t) := succ_all hg1 (gr1.mpr ⟨hl, hh⟩)
      subst z6
      refine rh_loop (M0 := M) hsn hT (g := T 1 - 48) h0 h1 5 0 _ (by omega) (by omega) hg2 ((f2.u34 (Or.inl rfl) _).u34 (Or.inr (Or.inl rfl)) _) ?_ ?_ ?_ (fun j hj => by omega)
      · rw [up2_s, upd_n _ _ (by decide), up2_s, upd_s]
      · rw [up2_s, upd_n _ _ (by decide), up2_s, upd_n _ _ (by decide), up2_s, upd_n _ _ (by decide)]; exact x22
      · rw [up2_s, upd_s]
    · exfalso
      subst z6
      rw [up2_s, upd_s] at y
      obtain ⟨v, hv, ev, -⟩ := dig (c := T 1) (m := 5) (by decide) (fun z => hl (by rw [fa_lt] at z ⊢; rw [show ((48 : Int32)).toInt = 48 by decide] at z; rw [show ((49 : Int32)).toInt = 49 by decide]; omega)) hh
      rw [ev] at y
      exact m9_ne (by omega) y
    · exfalso
      subst z6
      rw [up2_s, upd_s] at y
      exact y rfl
    · subst z6
      refine h0 _ 1 (by omega) ⟨hg1, ?_⟩ (f2.u34 (Or.inr (Or.inl rfl)) _) (by rw [up2_s, upd_n _ _ (by decide), up2_s, upd_s])
      rcases hbad with z | ⟨z1, z2⟩
      · exact Or.inr ⟨z, Or.inl (by omega)⟩
      · exact Or.inl ⟨z1, fun g => z2 g⟩
  · rcases hbad with z | ⟨z1, z2⟩
    · exact Or.inr ⟨z, Or.inl (by omega)⟩
    · exact Or.inl ⟨z1, fun g => z2 g⟩
end Rd
