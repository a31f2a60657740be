/-! the hall's text, as the class reads it -/
def gram (i : Nat) (c : Int32) : Prop := if i = 0 then c = 122 else if i = 1 then ¬ c < 49 ∧ ¬ 53 < c else if (i - 2) % 4 = 0 then c = 44 ∧ i < 22 else if (i - 2) % 4 = 1 then c = 99 ∨ c = 98 ∨ c = 116 else if (i - 2) % 4 = 2 then ¬ c < 48 ∧ ¬ 52 < c else ¬ c < 48 ∧ ¬ 57 < c
theorem gr0 {c : Int32} : gram 0 c ↔ c = 122 := Iff.rfl
theorem gr1 {c : Int32} : gram 1 c ↔ ¬ c < 49 ∧ ¬ 53 < c := Iff.rfl
theorem grC {q : Nat} {c : Int32} : gram (2 + 4 * q) c ↔ c = 44 ∧ 2 + 4 * q < 22 := by
  unfold gram
  rw [if_neg (by omega), if_neg (by omega), if_pos (by omega)]
theorem grK {q : Nat} {c : Int32} : gram (3 + 4 * q) c ↔ c = 99 ∨ c = 98 ∨ c = 116 := by
  unfold gram
  rw [if_neg (by omega), if_neg (by omega), if_neg (by omega), if_pos (by omega)]
theorem grE {q : Nat} {c : Int32} : gram (4 + 4 * q) c ↔ ¬ c < 48 ∧ ¬ 52 < c := by
  unfold gram
  rw [if_neg (by omega), if_neg (by omega), if_neg (by omega), if_neg (by omega), if_pos (by omega)]
theorem grG {q : Nat} {c : Int32} : gram (5 + 4 * q) c ↔ ¬ c < 48 ∧ ¬ 57 < c := by
  unfold gram
  rw [if_neg (by omega), if_neg (by omega), if_neg (by omega), if_neg (by omega), if_neg (by omega)]
theorem rng2 {c lo hi : Int32} {P0 P1 : Prop} {R : Prop} (hR : R ↔ ¬ c < lo ∧ ¬ hi < c) (h1 : R → P1) (h0 : ¬ R → P0) : (c < lo → P0) ∧ (¬ c < lo → ((hi < c → P0) ∧ (¬ hi < c → P1))) :=
  ⟨fun y => h0 (fun r => (hR.mp r).1 y), fun y => ⟨fun y2 => h0 (fun r => (hR.mp r).2 y2), fun y2 => h1 (hR.mpr ⟨y, y2⟩)⟩⟩
theorem goesOn_ok {M : Mem} {post : Int32 → Mem → Prop} {i : Nat} (hi : i ≤ 60) {c : Int32} (h1 : gram i c → post 1 M) (h0 : ¬ gram i c → post 0 M) : wp_X0_goesOn (nI i) c M post := by
  unfold wp_X0_goesOn
  by_cases z0 : i = 0
  · subst z0
    exact ⟨fun y => absurd rfl y, fun _ => ⟨fun y => h0 (fun g => y g), fun y => h1 y⟩⟩
  refine ⟨fun _ => ?_, fun y => absurd ((eqI (b := 0) (by omega) (by decide)).mp y) z0⟩
  by_cases z1 : i = 1
  · subst z1
    exact ⟨fun y => absurd rfl y, fun _ => rng2 gr1 h1 h0⟩
  refine ⟨fun _ => ?_, fun y => absurd ((eqI (b := 1) (by omega) (by decide)).mp y) z1⟩
  rw [show (2 : Int32) = nI 2 from rfl, subI (by omega), show (4 : Int32) = nI 4 from rfl, pk_rem (by omega) (by decide) (by decide)]
  have e : ∀ b, b < 10 → (nI ((i - 2) % 4) = nI b ↔ (i - 2) % 4 = b) := fun b hb => eqI (by omega) (by omega)
  rw [show (0 : Int32) = nI 0 from rfl, show (1 : Int32) = nI 1 from rfl]
  refine ⟨fun y => ?_, fun y => ?_, fun y => ?_, fun y => ?_⟩
  · rw [e 0 (by decide)] at y
    obtain ⟨q, rfl⟩ : ∃ q, i = 2 + 4 * q := ⟨(i - 2) / 4, by omega⟩
    refine ⟨fun y2 => h0 (fun g => y2 (grC.mp g).1), fun y2 => ⟨fun y3 => h0 (fun g => ?_), fun y3 => h1 (grC.mpr ⟨y2, ?_⟩)⟩⟩
    · have := (grC.mp g).2
      exact absurd ((leI (a := 22) (by decide) (by omega)).mp y3) (by omega)
    · by_cases z : 2 + 4 * q < 22
      · exact z
      · exact absurd ((leI (a := 22) (by decide) (by omega)).mpr (by omega)) y3
  · rw [e 1 (by decide)] at y
    obtain ⟨q, rfl⟩ : ∃ q, i = 3 + 4 * q := ⟨(i - 2) / 4, by omega⟩
    exact ⟨fun y2 => h1 (grK.mpr (Or.inl y2)), fun y2 => ⟨fun y3 => h1 (grK.mpr (Or.inr (Or.inl y3))), fun y3 => ⟨fun y4 => h0 (fun g => (grK.mp g).elim y2 (fun g => g.elim y3 y4)), fun y4 => h1 (grK.mpr (Or.inr (Or.inr y4)))⟩⟩⟩
  · rw [e 2 (by decide)] at y
    obtain ⟨q, rfl⟩ : ∃ q, i = 4 + 4 * q := ⟨(i - 2) / 4, by omega⟩
    exact rng2 grE h1 h0
  · rw [e 0 (by decide), e 1 (by decide), e 2 (by decide)] at y
    obtain ⟨q, rfl⟩ : ∃ q, i = 5 + 4 * q := ⟨(i - 2) / 4, by omega⟩
    exact rng2 grG h1 h0
def isF (n : Nat) (T : Nat → Int32) (j : Nat) : Prop := (∀ t, t < j → gram t (T t)) ∧ ((j < n ∧ ¬ gram j (T j)) ∨ (j = n ∧ (n ≤ 2 ∨ ¬ (n - 2) % 4 = 0)))
def allG (n : Nat) (T : Nat → Int32) : Prop := (∀ t, t < n → gram t (T t)) ∧ 2 < n ∧ (n - 2) % 4 = 0
theorem isF_un {n : Nat} {T : Nat → Int32} {i j : Nat} (h1 : isF n T i) (h2 : isF n T j) : i = j := by
  have key : ∀ i j, isF n T i → isF n T j → ¬ i < j := by
    intro i j h1 h2 hl
    rcases h1.2 with ⟨a, b⟩ | ⟨a, b⟩
    · exact b (h2.1 i hl)
    · rcases h2.2 with ⟨c, d⟩ | ⟨c, d⟩ <;> omega
  have := key i j h1 h2
  have := key j i h2 h1
  omega
theorem isF_all {n : Nat} {T : Nat → Int32} {j : Nat} (h1 : isF n T j) (h2 : allG n T) : False := by
  rcases h1.2 with ⟨a, b⟩ | ⟨a, b⟩
  · exact b (h2.1 j a)
  · rcases b with b | b
    · have := h2.2.1; omega
    · exact b h2.2.2
theorem ff_loop {M : Mem} {a0 x n : Nat} {T : Nat → Int32} (hx : x + n ≤ 60) (hT : ∀ t, t < n → M a0 (x + t) = T t) {post : Int32 → Mem → Prop} (h1 : ∀ j, j ≤ n → isF n T j → post (nI j) M) (h2 : allG n T → post (-9) M) :
    ∀ (m i : Nat), i + m = n → (∀ t, t < i → gram t (T t)) → lp_X0_firstFault_2 a0 60 (nI x) (nI n) post (m + 1) (nI i) M := by
  intro m
  induction m with
  | zero =>
    intro i hi hk
    have e : i = n := by omega
    subst e
    refine ⟨fun _ => ⟨fun y => ?_, fun y => ?_⟩, fun h => absurd ((leI (by omega) (by omega)).mpr (Nat.le_refl _)) h⟩
    · have := (leI (b := 2) (by omega) (by decide)).mp y
      exact b0A (h1 i (Nat.le_refl _) ⟨hk, Or.inr ⟨rfl, Or.inl this⟩⟩)
    · have hi2 : ¬ i ≤ 2 := fun z => y ((leI (b := 2) (by omega) (by decide)).mpr z)
      rw [show (2 : Int32) = nI 2 from rfl, subI (by omega), show (4 : Int32) = nI 4 from rfl, pk_rem (by omega) (by decide) (by decide), show (0 : Int32) = nI 0 from rfl, eqI (by omega) (by decide)]
      exact ⟨fun z => b0A (h1 i (Nat.le_refl _) ⟨hk, Or.inr ⟨rfl, Or.inr z⟩⟩), fun z => b1A (h2 ⟨hk, by omega, z⟩)⟩
  | succ m ih =>
    intro i hi hk
    unfold lp_X0_firstFault_2
    rw [addN, cl (show x + i < 2147483648 by omega), hT i (by omega), addI1]
    exact ⟨fun h => absurd ((leI (by omega) (by omega)).mp h) (by omega), fun _ => ⟨inI (by omega) (by decide), goesOn_ok (by omega) (fun g => b1B (ih (i + 1) (by omega) (succ_all hk g))) (fun g => b0B (h1 i (by omega) ⟨hk, Or.inl ⟨by omega, g⟩⟩))⟩⟩
def kindN (c : Int32) : Nat := if c = 116 then 2 else if c = 98 then 1 else 0
theorem kindOf_ok {M : Mem} {c : Int32} {post : Int32 → Mem → Prop} (hp : post (nI (kindN c)) M) : wp_X0_kindOf c M post := by
  unfold wp_X0_kindOf
  unfold kindN at hp
  refine ⟨fun y => ⟨fun y2 => ?_, fun y2 => ?_⟩, fun y => ?_⟩
  · rw [if_neg y, if_neg y2] at hp; exact hp
  · rw [if_neg y, if_pos y2] at hp; exact hp
  · rw [if_pos y] at hp; exact hp
def txt3 (M : Mem) (a b c : Nat) (T : Nat → Int32) (j : Nat) : Prop := M a j = nI (kindN (T (3 + 4 * j))) ∧ M b j = T (4 + 4 * j) - 48 ∧ M c j = T (5 + 4 * j) - 48
theorem take_loop {M0 : Mem} {a1 x n nc : Nat} {T : Nat → Int32} (ha : 30 ≤ a1) (hx : x + n ≤ 60) (hn : n = 2 + 4 * nc) (hnc : nc ≤ 5) (hT : ∀ t, t < n → M0 a1 (x + t) = T t) (h13 : M0 1 3 = nI nc) {p3 : Int32} {post : Mem → Prop} (hp : ∀ M, (∀ a, a ≠ 2 → a ≠ 3 → a ≠ 4 → M a = M0 a) → (∀ j, j < nc → txt3 M 2 3 4 T j) → post M) :
    ∀ (m i : Nat) (M : Mem), i + m = nc → (∀ a, a ≠ 2 → a ≠ 3 → a ≠ 4 → M a = M0 a) → (∀ j, j < i → txt3 M 2 3 4 T j) → lp_X0_takeText_28 a1 60 (nI x) p3 post (m + 1) (nI i) M := by
  intro m
  induction m with
  | zero =>
    intro i M hi h1 h2
    have e : i = nc := by omega
    subst e
    unfold lp_X0_takeText_28
    rw [h1 1 (by decide) (by decide) (by decide), h13]
    exact ⟨fun _ => hp M h1 h2, fun h => absurd ((leI (by omega) (by omega)).mpr (Nat.le_refl _)) h⟩
  | succ m ih =>
    intro i M hi h1 h2
    unfold lp_X0_takeText_28
    rw [h1 1 (by decide) (by decide) (by decide), h13]
    refine ⟨fun h => absurd ((leI (by omega) (by omega)).mp h) (by omega), fun _ v5 hv => ?_⟩
    rw [show (2 : Int32) = nI 2 from rfl, show (4 : Int32) = nI 4 from rfl, mulN, addN, addN] at hv
    subst hv
    have hi5 : vp_in (nI i) 5 := inI (by omega) (by decide)
    have ei := cl (show i < 2147483648 by omega)
    have ha1 : M a1 = M0 a1 := h1 a1 (by omega) (by omega) (by omega)
    have t1 : M0 a1 (x + 2 + i * 4 + 1) = T (3 + 4 * i) := by rw [← hT _ (by omega)]; exact congrArg _ (by omega)
    have t2 : M0 a1 (x + 2 + i * 4 + 2) = T (4 + 4 * i) := by rw [← hT _ (by omega)]; exact congrArg _ (by omega)
    have t3 : M0 a1 (x + 2 + i * 4 + 3) = T (5 + 4 * i) := by rw [← hT _ (by omega)]; exact congrArg _ (by omega)
    rw [addI1, show (2 : Int32) = nI 2 from rfl, show (3 : Int32) = nI 3 from rfl, addN, addN, cl (show x + 2 + i * 4 + 1 < 2147483648 by omega), cl (show x + 2 + i * 4 + 2 < 2147483648 by omega), cl (show x + 2 + i * 4 + 3 < 2147483648 by omega), ei, ha1, t1, addI1]
    refine ⟨inI (by omega) (by decide), kindOf_ok ⟨hi5, fun M8 z8 => ⟨inI (by omega) (by decide), hi5, fun M9 z9 => ⟨inI (by omega) (by decide), hi5, fun M10 z10 => ?_⟩⟩⟩⟩
    subst z8
    rw [up2_n _ _ _ (show a1 ≠ 2 by omega), ha1, t2] at z9
    subst z9
    rw [up2_n _ _ _ (show a1 ≠ 3 by omega), up2_n _ _ _ (show a1 ≠ 2 by omega), ha1, t3] at z10
    subst z10
    refine ih (i + 1) _ (by omega) (fun a x1 x2 x3 => by rw [up2_n _ _ _ x3, up2_n _ _ _ x2, up2_n _ _ _ x1]; exact h1 a x1 x2 x3) (succ_all (fun j hj => ?_) ?_)
    · obtain ⟨q1, q2, q3⟩ := h2 j hj
      refine ⟨?_, ?_, ?_⟩
      · rw [up2_n _ _ _ (by decide), up2_n _ _ _ (by decide), up2_s, upd_n _ _ (by omega)]; exact q1
      · rw [up2_n _ _ _ (by decide), up2_s, upd_n _ _ (by omega), up2_n _ _ _ (by decide)]; exact q2
      · rw [up2_s, upd_n _ _ (by omega), up2_n _ _ _ (by decide), up2_n _ _ _ (by decide)]; exact q3
    · refine ⟨?_, ?_, ?_⟩
      · rw [up2_n _ _ _ (by decide), up2_n _ _ _ (by decide), up2_s, upd_s]
      · rw [up2_n _ _ _ (by decide), up2_s, upd_s]
      · rw [up2_s, upd_s]
