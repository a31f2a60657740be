/-! numbers and sets, as the programs hold them -/
theorem ltI {a b : Nat} (ha : a < 2147483648) (hb : b < 2147483648) : nI a < nI b ↔ a < b := nI_ltI ha hb
theorem leI {a b : Nat} (ha : a < 2147483648) (hb : b < 2147483648) : nI a ≤ nI b ↔ a ≤ b := nI_leI ha hb
theorem eqI {a b : Nat} (ha : a < 2147483648) (hb : b < 2147483648) : nI a = nI b ↔ a = b := nI_eq ha hb
theorem cl {a : Nat} (ha : a < 2147483648) : (nI a).toNatClampNeg = a := nI_clamp ha
theorem inI {a n : Nat} (h : a < n) (hn : n < 2147483648) : vp_in (nI a) n := vp_in_nI h hn
theorem negI {a : Nat} (ha : a < 2147483648) : ¬ nI a < 0 := nI_pos ha
/-- an int against a row of n places -/
theorem ixI (x : Int32) (n : Nat) (hn : n < 2147483648) : (x < 0 ∨ nI n ≤ x) ∨ ∃ j, j < n ∧ x = nI j := by
  rcases pk_ix x hn with h | h | h
  · exact Or.inl (Or.inl h)
  · exact Or.inl (Or.inr h)
  · exact Or.inr h
theorem addI1 (a : Nat) : nI a + 1 = nI (a + 1) := nI_1 a
theorem subI {a b : Nat} (h : b ≤ a) : nI a - nI b = nI (a - b) := pk_sub h
theorem shl1 {k : Nat} (hk : k < 31) : (1 : Int32) <<< (nI k &&& 31) = nI (2 ^ k) := by
  have h : ∀ j : Fin 31, (1 : Int32) <<< (nI j.val &&& 31) = nI (2 ^ j.val) := by decide +kernel
  exact h ⟨k, hk⟩
theorem shr_l : ∀ n : Fin 32, ((nI n.val &&& 31).toBitVec.smod 32).toNat = n.val := by decide +kernel
theorem shrI {a k : Nat} (ha : a < 2147483648) (hk : k < 32) : nI a >>> (nI k &&& 31) = nI (a / 2 ^ k) := pk_shrN ha _ k (shr_l ⟨k, hk⟩)
theorem bitI {a k : Nat} (ha : a < 2147483648) (hk : k < 32) : (nI a >>> (nI k &&& 31)) &&& 1 = nI (a / 2 ^ k % 2) := by
  rw [shrI ha hk]
  exact fa_mask (a / 2 ^ k) 1
theorem bitZ {a k : Nat} (ha : a < 2147483648) (hk : k < 32) : (nI a >>> (nI k &&& 31)) &&& 1 = 0 ↔ a.testBit k = false := by
  rw [bitI ha hk, Nat.testBit_eq_decide_div_mod_eq]
  have h2 : a / 2 ^ k % 2 < 2 := Nat.mod_lt _ (by decide)
  have e := eqI (a := a / 2 ^ k % 2) (b := 0) (by omega) (by decide)
  rw [show (0 : Int32) = nI 0 from rfl, e]
  simp only [decide_eq_false_iff_not]
  omega
def b2i (b : Bool) : Int32 := if b then 1 else 0
theorem b2i_t : b2i true = 1 := rfl
theorem b2i_f : b2i false = 0 := rfl
theorem b2i_z {b : Bool} : b2i b = 0 ↔ b = false := by cases b <;> decide
theorem b2i_nz {b : Bool} : ¬ b2i b = 0 ↔ b = true := by cases b <;> decide
theorem b2i_nar (b : Bool) : narrow .boolean (.int (b2i b)) = .int (b2i b) := by cases b <;> rfl
def anyB (p : Nat → Bool) : Nat → Bool
  | 0 => false
  | n + 1 => anyB p n || p n
theorem anyB_iff {p : Nat → Bool} : ∀ {n : Nat}, anyB p n = true ↔ ∃ k, k < n ∧ p k = true
  | 0 => ⟨fun h => (by cases h), fun ⟨k, h, _⟩ => absurd h (Nat.not_lt_zero k)⟩
  | n + 1 => by
    simp only [anyB, Bool.or_eq_true, anyB_iff (n := n)]
    constructor
    · rintro (⟨k, h1, h2⟩ | h)
      · exact ⟨k, by omega, h2⟩
      · exact ⟨n, by omega, h⟩
    · rintro ⟨k, h1, h2⟩
      rcases Nat.lt_or_ge k n with q | q
      · exact Or.inl ⟨k, q, h2⟩
      · have : k = n := by omega
        subst this
        exact Or.inr h2
theorem anyB_t {p : Nat → Bool} {n i : Nat} (hi : i < n) (h : p i = true) : anyB p n = true := anyB_iff.mpr ⟨i, hi, h⟩
theorem anyB_f {p : Nat → Bool} {n : Nat} (h : ∀ j, j < n → p j = false) : anyB p n = false := by
  cases e : anyB p n with
  | false => rfl
  | true =>
    obtain ⟨k, h1, h2⟩ := anyB_iff.mp e
    rw [h k h1] at h2
    cases h2
theorem anyB_fi {p : Nat → Bool} {n : Nat} : anyB p n = false ↔ ∀ j, j < n → p j = false := by
  constructor
  · intro h j hj
    cases e : p j with
    | false => rfl
    | true => rw [anyB_t hj e] at h; cases h
  · exact anyB_f
theorem anyB_cong {p q : Nat → Bool} {n : Nat} (h : ∀ j, j < n → p j = q j) : anyB p n = anyB q n := by
  cases e : anyB q n with
  | false => exact anyB_f (fun j hj => (h j hj).trans (anyB_fi.mp e j hj))
  | true =>
    obtain ⟨k, h1, h2⟩ := anyB_iff.mp e
    exact anyB_t h1 ((h k h1).trans h2)
/-- a set out of a test, as bits -/
def bset (p : Nat → Bool) : Nat → Nat
  | 0 => 0
  | n + 1 => bset p n + (if p n then 2 ^ n else 0)
theorem bset_lt (p : Nat → Bool) : ∀ n, bset p n < 2 ^ n
  | 0 => by simp [bset]
  | n + 1 => by
    have h := bset_lt p n
    simp only [bset]
    rw [Nat.pow_succ]
    split <;> omega
theorem bset_bit (p : Nat → Bool) : ∀ (n i : Nat), (bset p n).testBit i = (decide (i < n) && p i)
  | 0, i => by simp [bset]
  | n + 1, i => by
    have hl := bset_lt p n
    simp only [bset]
    cases hp : p n with
    | false =>
      simp only [Bool.false_eq_true, if_false, Nat.add_zero]
      rw [bset_bit p n i]
      by_cases h : i < n
      · simp [h, Nat.lt_succ_of_lt h]
      · by_cases e : i = n
        · subst e; simp [hp]
        · have h2 : ¬ i < n + 1 := by omega
          simp [h, h2]
    | true =>
      simp only [if_true]
      rw [Nat.add_comm, show 2 ^ n + bset p n = 2 ^ n * 1 + bset p n by rw [Nat.mul_one], Nat.two_pow_add_eq_or_of_lt hl, Nat.mul_one, Nat.testBit_or, bset_bit p n i, Nat.testBit_two_pow]
      by_cases e : n = i
      · subst e; simp [hp]
      · by_cases h : i < n
        · simp [h, Nat.lt_succ_of_lt h, e]
        · have h2 : ¬ i < n + 1 := by omega
          simp [h, h2, e]
theorem bset_in {p : Nat → Bool} {n i : Nat} (h : i < n) : (bset p n).testBit i = p i := by rw [bset_bit]; simp [h]
theorem bset_cong {p q : Nat → Bool} : ∀ {n : Nat}, (∀ j, j < n → p j = q j) → bset p n = bset q n
  | 0, _ => rfl
  | n + 1, h => by
    simp only [bset]
    rw [bset_cong (fun j hj => h j (by omega)), h n (by omega)]
theorem bset_orI (p : Nat → Bool) {n : Nat} (h : p n = true) : nI (bset p n) ||| nI (2 ^ n) = nI (bset p (n + 1)) := by
  rw [fa_or]
  congr 1
  simp only [bset, h, if_true]
  rw [Nat.or_comm, Nat.add_comm]
  have h2 := Nat.two_pow_add_eq_or_of_lt (bset_lt p n) 1
  rw [Nat.mul_one] at h2
  exact h2.symm
theorem bset_noI (p : Nat → Bool) {n : Nat} (h : p n = false) : bset p (n + 1) = bset p n := by simp [bset, h]
theorem bset_self {x n : Nat} (h : x < 2 ^ n) : bset (fun i => x.testBit i) n = x := by
  apply Nat.eq_of_testBit_eq
  intro i
  rw [bset_bit]
  by_cases hi : i < n
  · simp [hi]
  · have : x.testBit i = false := Nat.testBit_lt_two_pow (Nat.lt_of_lt_of_le h (Nat.pow_le_pow_right (by decide) (by omega)))
    simp [hi, this]
theorem pow_small {n : Nat} (h : n ≤ 8) : 2 ^ n ≤ 256 := Nat.pow_le_pow_right (n := 2) (by decide) h
theorem pow5 {n : Nat} (h : n ≤ 5) : 2 ^ n ≤ 32 := Nat.pow_le_pow_right (n := 2) (by decide) h
/-! memory -/
theorem up2_at (M : Mem) (k j : Nat) (v : Int32) (a : Nat) : up2 M k j v a = if a = k then upd (M k) j v else M a := rfl
theorem up2_s (M : Mem) (k j : Nat) (v : Int32) : up2 M k j v k = upd (M k) j v := upA_same M k _
theorem up2_n (M : Mem) {k a : Nat} (j : Nat) (v : Int32) (h : a ≠ k) : up2 M k j v a = M a := upA_ne M _ h
theorem upd_at (f : Nat → Int32) (k : Nat) (x : Int32) (j : Nat) : upd f k x j = if j = k then x else f j := rfl
theorem upd_s (f : Nat → Int32) (k : Nat) (x : Int32) : upd f k x k = x := if_pos rfl
theorem upd_n (f : Nat → Int32) {k j : Nat} (x : Int32) (h : j ≠ k) : upd f k x j = f j := if_neg h
/-! the state of both, as numbers -/
abbrev AS : Type := Nat → Nat → Nat
def wf (S : AS) : Prop := (S 0 0 ≤ 5 ∧ S 0 1 ≤ 5 ∧ S 0 2 ≤ 8 ∧ S 0 3 ≤ 8 ∧ S 0 4 ≤ 8 ∧ (S 0 0 = 0 ↔ S 0 1 = 0)) ∧ (∀ j, j < S 0 0 → S 1 j ≤ 2 ∧ S 2 j ≤ 4 ∧ S 3 j ≤ 9) ∧ (∀ j, j < S 0 2 → S 4 j < 20 ∧ S 5 j < S 0 1 ∧ S 6 j < S 0 0) ∧ (∀ j, j < S 0 3 → S 7 j < 20 ∧ S 8 j < S 0 1 ∧ S 9 j < S 0 0) ∧ (∀ j, j < S 0 4 → S 10 j < 20 ∧ S 11 j < S 0 1 ∧ S 12 j < S 0 0 ∧ S 13 j ≤ 1)
def repC (S : AS) (M : Mem) : Prop := (M 1 3 = nI (S 0 0) ∧ M 1 4 = nI (S 0 1) ∧ M 5 3 = nI (S 0 2) ∧ M 9 3 = nI (S 0 3) ∧ M 13 3 = nI (S 0 4)) ∧ (∀ j, j < S 0 0 → M 2 j = nI (S 1 j) ∧ M 3 j = nI (S 2 j) ∧ M 4 j = nI (S 3 j)) ∧ (∀ j, j < S 0 2 → M 6 j = nI (S 4 j) ∧ M 7 j = nI (S 5 j) ∧ M 8 j = nI (S 6 j)) ∧ (∀ j, j < S 0 3 → M 10 j = nI (S 7 j) ∧ M 11 j = nI (S 8 j) ∧ M 12 j = nI (S 9 j)) ∧ (∀ j, j < S 0 4 → M 14 j = nI (S 10 j) ∧ M 15 j = nI (S 11 j) ∧ M 16 j = nI (S 12 j) ∧ M 17 j = nI (S 13 j))
def repM (S : AS) (M : Mem) : Prop := (M 34 6 = nI (S 0 0) ∧ M 34 5 = nI (S 0 1) ∧ M 34 10 = nI (S 0 2) ∧ M 34 14 = nI (S 0 3) ∧ M 34 28 = nI (S 0 4)) ∧ (∀ j, j < S 0 0 → M 38 j = nI (S 1 j) ∧ M 39 j = nI (S 2 j) ∧ M 40 j = nI (S 3 j)) ∧ (∀ j, j < S 0 2 → M 41 j = nI (S 4 j) ∧ M 42 j = nI (S 5 j) ∧ M 43 j = nI (S 6 j)) ∧ (∀ j, j < S 0 3 → M 44 j = nI (S 7 j) ∧ M 45 j = nI (S 8 j) ∧ M 46 j = nI (S 9 j)) ∧ (∀ j, j < S 0 4 → M 52 j = nI (S 10 j) ∧ M 54 j = nI (S 11 j) ∧ M 53 j = nI (S 12 j) ∧ M 55 j = nI (S 13 j))
theorem repC.of {S : AS} {M M' : Mem} (h : repC S M) (e : ∀ a, a ≤ 17 → M' a = M a) : repC S M' := by
  unfold repC at *
  rw [e 1 (by decide), e 2 (by decide), e 3 (by decide), e 4 (by decide), e 5 (by decide), e 6 (by decide), e 7 (by decide), e 8 (by decide), e 9 (by decide), e 10 (by decide), e 11 (by decide), e 12 (by decide), e 13 (by decide), e 14 (by decide), e 15 (by decide), e 16 (by decide), e 17 (by decide)]
  exact h
theorem repM.of {S : AS} {M M' : Mem} (h : repM S M) (e : ∀ a, 34 ≤ a → a < 47 ∨ 51 < a → M' a = M a) : repM S M' := by
  unfold repM at *
  rw [e 34 (by decide) (by decide), e 38 (by decide) (by decide), e 39 (by decide) (by decide), e 40 (by decide) (by decide), e 41 (by decide) (by decide), e 42 (by decide) (by decide), e 43 (by decide) (by decide), e 44 (by decide) (by decide), e 45 (by decide) (by decide), e 46 (by decide) (by decide), e 52 (by decide) (by decide), e 53 (by decide) (by decide), e 54 (by decide) (by decide), e 55 (by decide) (by decide)]
  exact h
/-! whom a chair bears -/
def forg (S : AS) (c k d : Nat) : Bool := anyB (fun b => decide (S 9 b = c) && (decide (S 8 b = S 5 k) && (decide (S 4 k ≤ S 7 b) && decide (S 7 b < d)))) (S 0 3)
def farS (S : AS) (c : Nat) : Nat := if S 1 c = 2 then 2 * S 3 c else S 3 c
def dst (a b : Nat) : Nat := if a < b then b - a else a - b
def heldS (S : AS) (c k d : Nat) : Bool := decide (S 4 k + 1 ≤ d) && (decide (d ≤ S 4 k + farS S c) && (decide (dst c (S 6 k) ≤ S 2 c) && !forg S c k d))
def mindS (S : AS) (mk : Nat → Bool) (fr c g d : Nat) : Bool := !decide (c = fr) && anyB (fun k => mk k && (decide (S 5 k = g) && heldS S c k d)) (S 0 2)
def bearS (S : AS) (mk : Nat → Bool) (fr c g d : Nat) : Bool := if c = fr then true else if S 1 c = 1 then !anyB (fun x => decide (S 1 x = 1) && mindS S mk fr x g d) (S 0 0) else !mindS S mk fr c g d
