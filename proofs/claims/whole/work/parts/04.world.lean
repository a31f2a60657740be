/-- the tables' words that a call carries on -/
def gtb : List Cond := lw_tbl.filter goodWord
theorem in_g {w : Cond} (h : w ∈ lw_tbl) (hg : goodWord w = true) : w ∈ gtb := List.mem_filter.mpr ⟨h, hg⟩
/-! the memory: cell, place -> number; the layout of the cells, which no call changes -/
abbrev Mem : Type := Nat → Nat → Int32
def upA (M : Mem) (k : Nat) (f : Nat → Int32) : Mem := fun a => if a = k then f else M a
def up2 (M : Mem) (k j : Nat) (v : Int32) : Mem := upA M k (upd (M k) j v)
theorem upA_same (M : Mem) (k : Nat) (f : Nat → Int32) : upA M k f k = f := if_pos rfl
theorem upA_ne (M : Mem) {k a : Nat} (f : Nat → Int32) (h : a ≠ k) : upA M k f a = M a := if_neg h
abbrev LyE : Type := (Nat × List (Option Nat)) ⊕ (Nat × Nat)
def lyl : List LyE := [.inl (5, [some 1, some 5, some 9, some 13, some 17, some 18, some 22, some 25, none, none]),
  .inl (0, [some 2, some 3, some 4, none, none]),
  .inr (0, 5),
  .inr (0, 5),
  .inr (0, 5),
  .inl (2, [some 6, some 7, some 8, none]),
  .inr (0, 8),
  .inr (0, 8),
  .inr (0, 8),
  .inl (2, [some 10, some 11, some 12, none]),
  .inr (0, 8),
  .inr (0, 8),
  .inr (0, 8),
  .inl (2, [some 14, some 15, some 16, none]),
  .inr (0, 8),
  .inr (0, 8),
  .inr (0, 8),
  .inr (1, 8),
  .inl (1, [some 1, some 5, some 9, some 19, some 20, some 21]),
  .inr (0, 5),
  .inr (0, 5),
  .inr (0, 5),
  .inl (3, [some 1, some 21, some 23, some 24, none, none]),
  .inr (0, 192),
  .inr (0, 5),
  .inr (2, 4),
  .inl (4, [some 30, none, none]),
  .inl (4, [some 31, none, none]),
  .inl (4, [some 32, none, none]),
  .inl (4, [some 33, none, none]),
  .inr (0, 60),
  .inr (0, 60),
  .inr (0, 60),
  .inr (0, 60),
  .inl (6, [none, none, some 35, some 36, some 37, none, none, some 38, some 39, some 40, none, some 41, some 42, some 43, none, some 44, some 45, some 46, none, none, none, none, none, some 47, some 48, some 49, some 50, some 51, none, some 52, some 53, some 54, some 55]),
  .inr (0, 4),
  .inr (0, 4),
  .inr (0, 240),
  .inr (0, 5),
  .inr (0, 5),
  .inr (0, 5),
  .inr (0, 8),
  .inr (0, 8),
  .inr (0, 8),
  .inr (0, 8),
  .inr (0, 8),
  .inr (0, 8),
  .inr (0, 15),
  .inr (0, 5),
  .inr (1, 32),
  .inr (0, 5),
  .inr (0, 5),
  .inr (0, 8),
  .inr (0, 8),
  .inr (0, 8),
  .inr (1, 8)]
theorem ly_0 : lyl[0]? = some (.inl (5, [some 1, some 5, some 9, some 13, some 17, some 18, some 22, some 25, none, none])) := rfl
theorem ly_1 : lyl[1]? = some (.inl (0, [some 2, some 3, some 4, none, none])) := rfl
theorem ly_2 : lyl[2]? = some (.inr (0, 5)) := rfl
theorem ly_3 : lyl[3]? = some (.inr (0, 5)) := rfl
theorem ly_4 : lyl[4]? = some (.inr (0, 5)) := rfl
theorem ly_5 : lyl[5]? = some (.inl (2, [some 6, some 7, some 8, none])) := rfl
theorem ly_6 : lyl[6]? = some (.inr (0, 8)) := rfl
theorem ly_7 : lyl[7]? = some (.inr (0, 8)) := rfl
theorem ly_8 : lyl[8]? = some (.inr (0, 8)) := rfl
theorem ly_9 : lyl[9]? = some (.inl (2, [some 10, some 11, some 12, none])) := rfl
theorem ly_10 : lyl[10]? = some (.inr (0, 8)) := rfl
theorem ly_11 : lyl[11]? = some (.inr (0, 8)) := rfl
theorem ly_12 : lyl[12]? = some (.inr (0, 8)) := rfl
theorem ly_13 : lyl[13]? = some (.inl (2, [some 14, some 15, some 16, none])) := rfl
theorem ly_14 : lyl[14]? = some (.inr (0, 8)) := rfl
theorem ly_15 : lyl[15]? = some (.inr (0, 8)) := rfl
theorem ly_16 : lyl[16]? = some (.inr (0, 8)) := rfl
theorem ly_17 : lyl[17]? = some (.inr (1, 8)) := rfl
theorem ly_18 : lyl[18]? = some (.inl (1, [some 1, some 5, some 9, some 19, some 20, some 21])) := rfl
theorem ly_19 : lyl[19]? = some (.inr (0, 5)) := rfl
theorem ly_20 : lyl[20]? = some (.inr (0, 5)) := rfl
theorem ly_21 : lyl[21]? = some (.inr (0, 5)) := rfl
theorem ly_22 : lyl[22]? = some (.inl (3, [some 1, some 21, some 23, some 24, none, none])) := rfl
theorem ly_23 : lyl[23]? = some (.inr (0, 192)) := rfl
theorem ly_24 : lyl[24]? = some (.inr (0, 5)) := rfl
theorem ly_25 : lyl[25]? = some (.inr (2, 4)) := rfl
theorem ly_26 : lyl[26]? = some (.inl (4, [some 30, none, none])) := rfl
theorem ly_27 : lyl[27]? = some (.inl (4, [some 31, none, none])) := rfl
theorem ly_28 : lyl[28]? = some (.inl (4, [some 32, none, none])) := rfl
theorem ly_29 : lyl[29]? = some (.inl (4, [some 33, none, none])) := rfl
theorem ly_30 : lyl[30]? = some (.inr (0, 60)) := rfl
theorem ly_31 : lyl[31]? = some (.inr (0, 60)) := rfl
theorem ly_32 : lyl[32]? = some (.inr (0, 60)) := rfl
theorem ly_33 : lyl[33]? = some (.inr (0, 60)) := rfl
theorem ly_34 : lyl[34]? = some (.inl (6, [none, none, some 35, some 36, some 37, none, none, some 38, some 39, some 40, none, some 41, some 42, some 43, none, some 44, some 45, some 46, none, none, none, none, none, some 47, some 48, some 49, some 50, some 51, none, some 52, some 53, some 54, some 55])) := rfl
theorem ly_35 : lyl[35]? = some (.inr (0, 4)) := rfl
theorem ly_36 : lyl[36]? = some (.inr (0, 4)) := rfl
theorem ly_37 : lyl[37]? = some (.inr (0, 240)) := rfl
theorem ly_38 : lyl[38]? = some (.inr (0, 5)) := rfl
theorem ly_39 : lyl[39]? = some (.inr (0, 5)) := rfl
theorem ly_40 : lyl[40]? = some (.inr (0, 5)) := rfl
theorem ly_41 : lyl[41]? = some (.inr (0, 8)) := rfl
theorem ly_42 : lyl[42]? = some (.inr (0, 8)) := rfl
theorem ly_43 : lyl[43]? = some (.inr (0, 8)) := rfl
theorem ly_44 : lyl[44]? = some (.inr (0, 8)) := rfl
theorem ly_45 : lyl[45]? = some (.inr (0, 8)) := rfl
theorem ly_46 : lyl[46]? = some (.inr (0, 8)) := rfl
theorem ly_47 : lyl[47]? = some (.inr (0, 15)) := rfl
theorem ly_48 : lyl[48]? = some (.inr (0, 5)) := rfl
theorem ly_49 : lyl[49]? = some (.inr (1, 32)) := rfl
theorem ly_50 : lyl[50]? = some (.inr (0, 5)) := rfl
theorem ly_51 : lyl[51]? = some (.inr (0, 5)) := rfl
theorem ly_52 : lyl[52]? = some (.inr (0, 8)) := rfl
theorem ly_53 : lyl[53]? = some (.inr (0, 8)) := rfl
theorem ly_54 : lyl[54]? = some (.inr (0, 8)) := rfl
theorem ly_55 : lyl[55]? = some (.inr (1, 8)) := rfl
abbrev CS3 : Type := ClassId × ClassId × ClassId
def ceF (ad : Nat → Nat) (f : Nat → Int32) : Nat → List (Option Nat) → List Value
  | _, [] => []
  | j, none :: l => .int (f j) :: ceF ad f (j + 1) l
  | j, some t :: l => .ref (ad t) :: ceF ad f (j + 1) l
def ceE (cs : CS3) (ad : Nat → Nat) (f : Nat → Int32) (q : LyE) : va_E := match q with
  | .inl (ci, fl) => .inr (ci, ceF ad f 0 fl)
  | .inr (0, n) => .inl (cs.1, n, .inl f)
  | .inr (1, n) => .inl (cs.2.1, n, .inl f)
  | .inr (_, n) => .inl (cs.2.2, n, .inr (.inr (.inr (.inr (fun j => some (ad (26 + j)))))))
def wld (cs : CS3) (ad : Nat → Nat) (M : Mem) : va_W := lyl.mapIdx (fun k q => (ad k, ceE cs ad (M k) q))
theorem wld_at (cs : CS3) (ad : Nat → Nat) (M : Mem) (k : Nat) : (wld cs ad M)[k]? = (lyl[k]?).map (fun q => (ad k, ceE cs ad (M k) q)) := by
  simp [wld, List.getElem?_mapIdx]
theorem wld_get {cs : CS3} {ad : Nat → Nat} {M : Mem} {k : Nat} {q : LyE} (h : lyl[k]? = some q) : (wld cs ad M)[k]? = some (ad k, ceE cs ad (M k) q) := by
  rw [wld_at, h]; rfl
theorem wld_set {cs : CS3} {ad : Nat → Nat} {M : Mem} {k : Nat} {q : LyE} (f : Nat → Int32) (h : lyl[k]? = some q) : (wld cs ad M).set k (ad k, ceE cs ad f q) = wld cs ad (upA M k f) := by
  apply List.ext_getElem?
  intro i
  rw [List.getElem?_set, wld_at, wld_at]
  by_cases e : k = i
  · subst e
    have hl : k < (wld cs ad M).length := by
      have h1 := (List.getElem?_eq_some_iff.mp h).1
      simpa [wld] using h1
    rw [if_pos rfl, if_pos hl, h, upA_same]; rfl
  · rw [if_neg e, upA_ne _ _ (fun q => e q.symm)]
theorem ceF_congr {ad : Nat → Nat} {f g : Nat → Int32} : ∀ (fl : List (Option Nat)) (o : Nat), (∀ j, o ≤ j → f j = g j) → ceF ad f o fl = ceF ad g o fl
  | [], _, _ => rfl
  | none :: l, o, h => by
    simp only [ceF]
    rw [h o (Nat.le_refl o), ceF_congr l (o + 1) (fun j hj => h j (by omega))]
  | some t :: l, o, h => by
    simp only [ceF]
    rw [ceF_congr l (o + 1) (fun j hj => h j (by omega))]
theorem ceF_get {ad : Nat → Nat} {f : Nat → Int32} : ∀ (fl : List (Option Nat)) (o j : Nat), fl[j]? = some none → (ceF ad f o fl)[j]? = some (.int (f (o + j)))
  | [], _, _, h => by simp at h
  | none :: l, o, 0, h => by simp [ceF]
  | some t :: l, o, 0, h => by simp at h
  | none :: l, o, j + 1, h => by
    have h1 := ceF_get (ad := ad) (f := f) l (o + 1) j (by simpa using h)
    simp only [ceF, List.getElem?_cons_succ]
    rw [h1, show o + 1 + j = o + (j + 1) by omega]
  | some t :: l, o, j + 1, h => by
    have h1 := ceF_get (ad := ad) (f := f) l (o + 1) j (by simpa using h)
    simp only [ceF, List.getElem?_cons_succ]
    rw [h1, show o + 1 + j = o + (j + 1) by omega]
theorem ceF_ref {ad : Nat → Nat} {f : Nat → Int32} {t : Nat} : ∀ (fl : List (Option Nat)) (o j : Nat), fl[j]? = some (some t) → (ceF ad f o fl)[j]? = some (.ref (ad t))
  | [], _, _, h => by simp at h
  | none :: l, o, 0, h => by simp at h
  | some t' :: l, o, 0, h => by
    have e : t' = t := by simpa using h
    simp [ceF, e]
  | none :: l, o, j + 1, h => by
    simp only [ceF, List.getElem?_cons_succ]
    exact ceF_ref l (o + 1) j (by simpa using h)
  | some t' :: l, o, j + 1, h => by
    simp only [ceF, List.getElem?_cons_succ]
    exact ceF_ref l (o + 1) j (by simpa using h)
theorem ceF_set {ad : Nat → Nat} {f : Nat → Int32} {v : Int32} : ∀ (fl : List (Option Nat)) (o j : Nat), fl[j]? = some none → (ceF ad f o fl).set j (.int v) = ceF ad (upd f (o + j) v) o fl
  | [], _, _, h => by simp at h
  | none :: l, o, 0, h => by
    simp only [ceF, List.set_cons_zero, Nat.add_zero]
    rw [show upd f o v o = v from if_pos rfl, ceF_congr (g := upd f o v) l (o + 1) (fun j hj => (if_neg (by omega)).symm)]
  | some t :: l, o, 0, h => by simp at h
  | none :: l, o, j + 1, h => by
    simp only [ceF, List.set_cons_succ]
    rw [ceF_set l (o + 1) j (by simpa using h), show o + 1 + j = o + (j + 1) by omega, show upd f (o + (j + 1)) v o = f o from if_neg (by omega)]
  | some t :: l, o, j + 1, h => by
    simp only [ceF, List.set_cons_succ]
    rw [ceF_set l (o + 1) j (by simpa using h), show o + 1 + j = o + (j + 1) by omega]
theorem ceF_len {ad : Nat → Nat} {f : Nat → Int32} : ∀ (fl : List (Option Nat)) (o : Nat), (ceF ad f o fl).length = fl.length
  | [], _ => rfl
  | none :: l, o => by simp only [ceF, List.length_cons]; rw [ceF_len l (o + 1)]
  | some t :: l, o => by simp only [ceF, List.length_cons]; rw [ceF_len l (o + 1)]
def adI (ad : Nat → Nat) : Prop := ∀ i j, i < 56 → j < 56 → ad i = ad j → i = j
def AW (ad : Nat → Nat) : Nat → Prop := fun q => ∃ k, k < 56 ∧ q = ad k
theorem wld_inv {cs : CS3} {ad : Nat → Nat} {M : Mem} {k : Nat} {p : Nat × va_E} (h : (wld cs ad M)[k]? = some p) : k < 56 ∧ p.1 = ad k := by
  rw [wld_at] at h
  cases hq : lyl[k]? with
  | none => rw [hq] at h; simp at h
  | some q =>
    rw [hq] at h
    have h1 : k < lyl.length := (List.getElem?_eq_some_iff.mp hq).1
    have h2 : lyl.length = 56 := rfl
    have h3 : (ad k, ceE cs ad (M k) q) = p := by simpa using h
    exact ⟨by omega, by rw [← h3]⟩
theorem wld_D {cs : CS3} {ad : Nat → Nat} {M : Mem} {A : Nat → Prop} (hi : adI ad) (hA : ∀ q, AW ad q → A q) : va_D A (wld cs ad M) := by
  refine ⟨fun i j p q h1 h2 e => ?_, fun k q h => ?_⟩
  · obtain ⟨a1, a2⟩ := wld_inv h1
    obtain ⟨b1, b2⟩ := wld_inv h2
    exact hi i j a1 b1 (by rw [← a2, ← b2]; exact e)
  · obtain ⟨a1, a2⟩ := wld_inv h
    rw [a2]
    exact hA _ ⟨k, a1, rfl⟩
/-! the locals -/
def lh (ls : Array Slot) (nL : Nat) (L : List (Option Value)) : Prop := L.length = nL ∧ ls.size = nL ∧ lv_wf ls ∧ ∀ (i : Nat) (v : Value), L[i]? = some (some v) → ls[i]? = some (.val v)
def lA (L : List (Option Value)) : List (Nat × Value) := (List.range L.length).filterMap (fun i => (L[i]?.join).map (fun v => (i, v)))
theorem lA_mem {L : List (Option Value)} {i : Nat} {v : Value} : (i, v) ∈ lA L ↔ L[i]? = some (some v) := by
  unfold lA
  rw [List.mem_filterMap]
  constructor
  · rintro ⟨j, hj, h⟩
    cases hq : L[j]? with
    | none => rw [hq] at h; simp at h
    | some o =>
      cases o with
      | none => rw [hq] at h; simp at h
      | some w =>
        rw [hq] at h
        have e : j = i ∧ w = v := by simpa using h
        obtain ⟨rfl, rfl⟩ := e
        exact hq
  · intro h
    exact ⟨i, List.mem_range.mpr (List.getElem?_eq_some_iff.mp h).1, by rw [h]; rfl⟩
theorem lh.has {ls : Array Slot} {nL : Nat} {L : List (Option Value)} (h : lh ls nL L) : lv_has ls nL (lA L) := ⟨h.2.1, h.2.2.1, fun q hq => h.2.2.2 q.1 q.2 (lA_mem.mp hq)⟩
/-- no long stands just ahead of place i -/
def lfr (L : List (Option Value)) : Nat → Bool
  | 0 => true
  | i + 1 => match L[i]? with
    | some (some (.long _)) => false
    | some (some (.double _)) => false
    | _ => true
theorem lfr_cat {L : List (Option Value)} {i j : Nat} {v : Value} (h : lfr L i = true) (hj : L[j]? = some (some v)) (e : j + 1 = i) : ¬ v.category = 2 := by
  subst e
  simp only [lfr, hj] at h
  cases v <;> simp_all [Value.category]
theorem lh.set1 {ls ls' : Array Slot} {nL i : Nat} {x : Value} {L : List (Option Value)} (h : lh ls nL L) (hf : lfr L i = true) (h' : lv_has ls' nL ((i, x) :: (lA L).filter (fun q => !(q.1 == i) && !(q.1 + 1 == i && q.2.category == 2)))) : lh ls' nL (L.set i (some x)) := by
  refine ⟨by rw [List.length_set]; exact h.1, h'.1, h'.2.1, fun j v hj => ?_⟩
  rw [List.getElem?_set] at hj
  by_cases e : i = j
  · rw [if_pos e] at hj
    subst e
    by_cases hl : i < L.length
    · rw [if_pos hl] at hj
      have e2 : x = v := by simpa using hj
      subst e2
      exact h'.2.2 (i, x) List.mem_cons_self
    · rw [if_neg hl] at hj
      cases hj
  · rw [if_neg e] at hj
    refine h'.2.2 (j, v) (List.mem_cons_of_mem _ (List.mem_filter.mpr ⟨lA_mem.mpr hj, ?_⟩))
    have hne : ¬ j = i := fun q => e q.symm
    by_cases e2 : j + 1 = i
    · have := lfr_cat hf hj e2
      simp [hne, this]
    · simp [hne, e2]
theorem lh.set2 {ls ls' : Array Slot} {nL i : Nat} {x : Value} {L : List (Option Value)} (h : lh ls nL L) (hf : lfr L i = true) (h' : lv_has ls' nL ((i, x) :: (lA L).filter (fun q => !(q.1 == i) && (!(q.1 == i + 1) && !(q.1 + 1 == i && q.2.category == 2))))) : lh ls' nL ((L.set i (some x)).set (i + 1) none) := by
  refine ⟨by rw [List.length_set, List.length_set]; exact h.1, h'.1, h'.2.1, fun j v hj => ?_⟩
  rw [List.getElem?_set] at hj
  by_cases e1 : i + 1 = j
  · rw [if_pos e1] at hj
    split at hj <;> cases hj
  · rw [if_neg e1, List.getElem?_set] at hj
    by_cases e : i = j
    · rw [if_pos e] at hj
      subst e
      by_cases hl : i < L.length
      · rw [if_pos hl] at hj
        have e2 : x = v := by simpa using hj
        subst e2
        exact h'.2.2 (i, x) List.mem_cons_self
      · rw [if_neg hl] at hj
        cases hj
    · rw [if_neg e] at hj
      refine h'.2.2 (j, v) (List.mem_cons_of_mem _ (List.mem_filter.mpr ⟨lA_mem.mpr hj, ?_⟩))
      have hne : ¬ j = i := fun q => e q.symm
      have hne1 : ¬ j = i + 1 := fun q => e1 q.symm
      by_cases e2 : j + 1 = i
      · have := lfr_cat hf hj e2
        simp [hne, hne1, this]
      · simp [hne, hne1, e2]
/-- fewer known locals -/
def lsub : List (Option Value) → List (Option Value) → Prop
  | [], [] => True
  | none :: l', _ :: l => lsub l' l
  | some v :: l', some w :: l => v = w ∧ lsub l' l
  | _, _ => False
theorem lsub_ok : ∀ (L' L : List (Option Value)), lsub L' L → L'.length = L.length ∧ ∀ (i : Nat) (v : Value), L'[i]? = some (some v) → L[i]? = some (some v)
  | [], [], _ => ⟨rfl, fun i v h => h⟩
  | [], _ :: _, h => h.elim
  | none :: l', [], h => h.elim
  | some _ :: l', [], h => h.elim
  | none :: l', x :: l, h => by
    have ih := lsub_ok l' l (by cases x <;> exact h)
    refine ⟨by simp [ih.1], fun i v hi => ?_⟩
    cases i with
    | zero => simp at hi
    | succ i => simpa using ih.2 i v (by simpa using hi)
  | some w :: l', none :: l, h => h.elim
  | some w :: l', some x :: l, h => by
    have ih := lsub_ok l' l h.2
    refine ⟨by simp [ih.1], fun i v hi => ?_⟩
    cases i with
    | zero =>
      have e := h.1
      subst e
      exact hi
    | succ i => simpa using ih.2 i v (by simpa using hi)
theorem lh.sub {ls : Array Slot} {nL : Nat} {L L' : List (Option Value)} (h : lh ls nL L) (hs : lsub L' L) : lh ls nL L' :=
  ⟨(lsub_ok L' L hs).1.trans h.1, h.2.1, h.2.2.1, fun i v hi => h.2.2.2 i v ((lsub_ok L' L hs).2 i v hi)⟩
def lvL : List Value → List (Option Value)
  | [] => []
  | v :: vs => if v.category = 2 then some v :: none :: lvL vs else some v :: lvL vs
theorem lvL_in : ∀ (vs : List Value) (o i : Nat) (v : Value), (lvL vs)[i]? = some (some v) → (o + i, v) ∈ lv_args o vs
  | [], _, _, _, h => by simp [lvL] at h
  | w :: vs, o, i, v, h => by
    by_cases hc : w.category = 2
    · simp only [lvL, if_pos hc] at h
      simp only [lv_args, if_pos hc]
      match i, h with
      | 0, h =>
        have e : w = v := by simpa using h
        subst e
        exact List.mem_cons_self
      | 1, h => simp at h
      | i + 2, h =>
        have := lvL_in vs (o + 2) i v (by simpa using h)
        rw [show o + 2 + i = o + (i + 2) by omega] at this
        exact List.mem_cons_of_mem _ this
    · simp only [lvL, if_neg hc] at h
      simp only [lv_args, if_neg hc]
      match i, h with
      | 0, h =>
        have e : w = v := by simpa using h
        subst e
        exact List.mem_cons_self
      | i + 1, h =>
        have := lvL_in vs (o + 1) i v (by simpa using h)
        rw [show o + 1 + i = o + (i + 1) by omega] at this
        exact List.mem_cons_of_mem _ this
/-! the judgement -/
abbrev CT : Type := (Program × Launch × Env × Room × State × MethodId × Array Value × List Frame × Method × Code) × ((Nat → Prop) × (Nat → Nat) × CS3 × va_G × Nat × Nat × (State → Prop))
def adX (X : CT) : Nat → Nat := X.2.2.1
def csX (X : CT) : CS3 := X.2.2.2.1
def dgX (X : CT) : va_G := X.2.2.2.2.1
def lnX (X : CT) : Launch := X.1.2.1
def tyS (cs : CS3) : List (ClassId × FieldType) := [(cs.1, .int), (cs.2.1, .boolean), (cs.2.2, .object "ChairGrudge$Sheet")]
def Z (X : CT) (M : Mem) (pc : Nat) (L : List (Option Value)) (st : List Value) : Prop := match X with
  | ((p, l, e, R, s, m, args, below, meth, c), (A, ad, cs, D, cells, slots, Q)) => ∀ (H : Heap) (locs : List Loc) (ls : Array Slot), va_P D vwCl (wld cs ad M) H → va_S A s.heap H locs → lh ls c.maxLocals L → W p l e R s m args below meth c H locs cells slots Q (F0 m pc ls st)
def okX (X : CT) (own : String) (cc : ByteArray) (f lo : Nat) : Prop := match X with
  | ((p, _, _, R, s, m, args, _, _, c), (A, ad, cs, D, cells, slots, _)) => p.tables.exec = Jvm.exec ∧ c.code = cc ∧ s.vm.findClass own = some m.cls ∧ (∀ w ∈ gtb, w.before args s = true) ∧ va_K D vwCl (tyS cs) s ∧ (adI ad ∧ ∀ q, AW ad q → A q) ∧ (R.frames = f ∧ R.locals = lo ∧ cells ≤ R.cells ∧ slots ≤ R.slots)
def RetI (X : CT) (cb : ByteArray) (r : Int32) (M : Mem) : Prop := match X with
  | ((p, l, e, R, s, m, args, below, meth, c), (A, ad, cs, D, cells, slots, Q)) => ∀ (pc : Nat) (ls : Array Slot) (H : Heap) (locs : List Loc), decode cb pc = .ok (.ireturn, 1) → va_P D vwCl (wld cs ad M) H → va_S A s.heap H locs → W p l e R s m args below meth c H locs cells slots Q (F0 m pc ls [.int r])
def RetL (X : CT) (cb : ByteArray) (r : Int64) (M : Mem) : Prop := match X with
  | ((p, l, e, R, s, m, args, below, meth, c), (A, ad, cs, D, cells, slots, Q)) => ∀ (pc : Nat) (ls : Array Slot) (H : Heap) (locs : List Loc), decode cb pc = .ok (.lreturn, 1) → va_P D vwCl (wld cs ad M) H → va_S A s.heap H locs → W p l e R s m args below meth c H locs cells slots Q (F0 m pc ls [.long r])
def RetV (X : CT) (cb : ByteArray) (M : Mem) : Prop := match X with
  | ((p, l, e, R, s, m, args, below, meth, c), (A, ad, cs, D, cells, slots, Q)) => ∀ (pc : Nat) (ls : Array Slot) (H : Heap) (locs : List Loc), decode cb pc = .ok (.return_, 1) → va_P D vwCl (wld cs ad M) H → va_S A s.heap H locs → W p l e R s m args below meth c H locs cells slots Q (F0 m pc ls [])

theorem r_iconst {X : CT} {own : String} {cc : ByteArray} {f lo : Nat} {M : Mem} {pc : Nat} {L : List (Option Value)} {st : List Value} (hX : okX X own cc f lo) {n : Int} {v : Int32} (hd : decode cc pc = .ok (.iconst n, 1)) (hv : Int32.ofInt n = v) (k : Z X M (pc + 1) L (.int v :: st)) : Z X M pc L (st) := by
  obtain ⟨⟨p, l, e, R, s, m, args, below, meth, c⟩, A, ad, cs, D, cells, slots, Q⟩ := X
  obtain ⟨hx, hb, hown, hts, hK, hA, hR⟩ := hX
  intro H locs ls hP hS hl
  exact lv_iconst hx hb hd hv (k H locs ls hP hS hl)
theorem r_bipush {X : CT} {own : String} {cc : ByteArray} {f lo : Nat} {M : Mem} {pc : Nat} {L : List (Option Value)} {st : List Value} (hX : okX X own cc f lo) {n : Int} {v : Int32} (hd : decode cc pc = .ok (.bipush n, 2)) (hv : (Int8.ofInt n).toInt32 = v) (k : Z X M (pc + 2) L (.int v :: st)) : Z X M pc L (st) := by
  obtain ⟨⟨p, l, e, R, s, m, args, below, meth, c⟩, A, ad, cs, D, cells, slots, Q⟩ := X
  obtain ⟨hx, hb, hown, hts, hK, hA, hR⟩ := hX
  intro H locs ls hP hS hl
  exact lv_bipush hx hb hd hv (k H locs ls hP hS hl)
theorem r_sipush {X : CT} {own : String} {cc : ByteArray} {f lo : Nat} {M : Mem} {pc : Nat} {L : List (Option Value)} {st : List Value} (hX : okX X own cc f lo) {n : Int} {v : Int32} (hd : decode cc pc = .ok (.sipush n, 3)) (hv : (Int16.ofInt n).toInt32 = v) (k : Z X M (pc + 3) L (.int v :: st)) : Z X M pc L (st) := by
  obtain ⟨⟨p, l, e, R, s, m, args, below, meth, c⟩, A, ad, cs, D, cells, slots, Q⟩ := X
  obtain ⟨hx, hb, hown, hts, hK, hA, hR⟩ := hX
  intro H locs ls hP hS hl
  exact lv_sipush hx hb hd hv (k H locs ls hP hS hl)
theorem r_lconst {X : CT} {own : String} {cc : ByteArray} {f lo : Nat} {M : Mem} {pc : Nat} {L : List (Option Value)} {st : List Value} (hX : okX X own cc f lo) {n : Fin 2} {v : Int64} (hd : decode cc pc = .ok (.lconst n, 1)) (hv : Int64.ofNat (n : Nat) = v) (k : Z X M (pc + 1) L (.long v :: st)) : Z X M pc L (st) := by
  obtain ⟨⟨p, l, e, R, s, m, args, below, meth, c⟩, A, ad, cs, D, cells, slots, Q⟩ := X
  obtain ⟨hx, hb, hown, hts, hK, hA, hR⟩ := hX
  intro H locs ls hP hS hl
  exact lv_lconst hx hb hd hv (k H locs ls hP hS hl)
theorem r_ldcw {X : CT} {own : String} {cc : ByteArray} {f lo : Nat} {M : Mem} {pc : Nat} {L : List (Option Value)} {st : List Value} (hX : okX X own cc f lo) {i : Nat} {v : Int32} (hw : Cond.constant own i v ∈ gtb) (hd : decode cc pc = .ok (.ldc_w i, 3)) (k : Z X M (pc + 3) L (.int v :: st)) : Z X M pc L (st) := by
  obtain ⟨⟨p, l, e, R, s, m, args, below, meth, c⟩, A, ad, cs, D, cells, slots, Q⟩ := X
  obtain ⟨hx, hb, hown, hts, hK, hA, hR⟩ := hX
  intro H locs ls hP hS hl
  exact lv_ldcw hx hb hown (hts _ hw) hd (k H locs ls hP hS hl)
theorem r_ldc2 {X : CT} {own : String} {cc : ByteArray} {f lo : Nat} {M : Mem} {pc : Nat} {L : List (Option Value)} {st : List Value} (hX : okX X own cc f lo) {i : Nat} {v : Int64} (hw : Cond.constantLong own i v ∈ gtb) (hd : decode cc pc = .ok (.ldc2_w i, 3)) (k : Z X M (pc + 3) L (.long v :: st)) : Z X M pc L (st) := by
  obtain ⟨⟨p, l, e, R, s, m, args, below, meth, c⟩, A, ad, cs, D, cells, slots, Q⟩ := X
  obtain ⟨hx, hb, hown, hts, hK, hA, hR⟩ := hX
  intro H locs ls hP hS hl
  exact lv_ldc2 hx hb hown (hts _ hw) hd (k H locs ls hP hS hl)
theorem r_iload_n {X : CT} {own : String} {cc : ByteArray} {f lo : Nat} {M : Mem} {pc : Nat} {L : List (Option Value)} {st : List Value} (hX : okX X own cc f lo) {k : Fin 4} {i : Nat} {x : Int32} (hd : decode cc pc = .ok (.iload_n k, 1)) (hi : (k : Nat) = i) (hL : L[i]? = some (some (.int x))) (k : Z X M (pc + 1) L (.int x :: st)) : Z X M pc L (st) := by
  obtain ⟨⟨p, l, e, R, s, m, args, below, meth, c⟩, A, ad, cs, D, cells, slots, Q⟩ := X
  obtain ⟨hx, hb, hown, hts, hK, hA, hR⟩ := hX
  intro H locs ls hP hS hl
  exact lv_iload_n hx hb hd hi (hl.2.2.2 _ _ hL) (k H locs ls hP hS hl)
theorem r_iload {X : CT} {own : String} {cc : ByteArray} {f lo : Nat} {M : Mem} {pc : Nat} {L : List (Option Value)} {st : List Value} (hX : okX X own cc f lo) {i : Nat} {x : Int32} (hd : decode cc pc = .ok (.iload i, 2)) (hL : L[i]? = some (some (.int x))) (k : Z X M (pc + 2) L (.int x :: st)) : Z X M pc L (st) := by
  obtain ⟨⟨p, l, e, R, s, m, args, below, meth, c⟩, A, ad, cs, D, cells, slots, Q⟩ := X
  obtain ⟨hx, hb, hown, hts, hK, hA, hR⟩ := hX
  intro H locs ls hP hS hl
  exact lv_iload hx hb hd (hl.2.2.2 _ _ hL) (k H locs ls hP hS hl)
theorem r_lload_n {X : CT} {own : String} {cc : ByteArray} {f lo : Nat} {M : Mem} {pc : Nat} {L : List (Option Value)} {st : List Value} (hX : okX X own cc f lo) {k : Fin 4} {i : Nat} {x : Int64} (hd : decode cc pc = .ok (.lload_n k, 1)) (hi : (k : Nat) = i) (hL : L[i]? = some (some (.long x))) (k : Z X M (pc + 1) L (.long x :: st)) : Z X M pc L (st) := by
  obtain ⟨⟨p, l, e, R, s, m, args, below, meth, c⟩, A, ad, cs, D, cells, slots, Q⟩ := X
  obtain ⟨hx, hb, hown, hts, hK, hA, hR⟩ := hX
  intro H locs ls hP hS hl
  exact lv_lload_n hx hb hd hi (hl.2.2.2 _ _ hL) (k H locs ls hP hS hl)
theorem r_lload {X : CT} {own : String} {cc : ByteArray} {f lo : Nat} {M : Mem} {pc : Nat} {L : List (Option Value)} {st : List Value} (hX : okX X own cc f lo) {i : Nat} {x : Int64} (hd : decode cc pc = .ok (.lload i, 2)) (hL : L[i]? = some (some (.long x))) (k : Z X M (pc + 2) L (.long x :: st)) : Z X M pc L (st) := by
  obtain ⟨⟨p, l, e, R, s, m, args, below, meth, c⟩, A, ad, cs, D, cells, slots, Q⟩ := X
  obtain ⟨hx, hb, hown, hts, hK, hA, hR⟩ := hX
  intro H locs ls hP hS hl
  exact lv_lload hx hb hd (hl.2.2.2 _ _ hL) (k H locs ls hP hS hl)
theorem r_aload_n {X : CT} {own : String} {cc : ByteArray} {f lo : Nat} {M : Mem} {pc : Nat} {L : List (Option Value)} {st : List Value} (hX : okX X own cc f lo) {k : Fin 4} {i : Nat} {x : Nat} (hd : decode cc pc = .ok (.aload_n k, 1)) (hi : (k : Nat) = i) (hL : L[i]? = some (some (.ref x))) (k : Z X M (pc + 1) L (.ref x :: st)) : Z X M pc L (st) := by
  obtain ⟨⟨p, l, e, R, s, m, args, below, meth, c⟩, A, ad, cs, D, cells, slots, Q⟩ := X
  obtain ⟨hx, hb, hown, hts, hK, hA, hR⟩ := hX
  intro H locs ls hP hS hl
  exact lv_aload_n hx hb hd hi (hl.2.2.2 _ _ hL) (k H locs ls hP hS hl)
theorem r_aload {X : CT} {own : String} {cc : ByteArray} {f lo : Nat} {M : Mem} {pc : Nat} {L : List (Option Value)} {st : List Value} (hX : okX X own cc f lo) {i : Nat} {x : Nat} (hd : decode cc pc = .ok (.aload i, 2)) (hL : L[i]? = some (some (.ref x))) (k : Z X M (pc + 2) L (.ref x :: st)) : Z X M pc L (st) := by
  obtain ⟨⟨p, l, e, R, s, m, args, below, meth, c⟩, A, ad, cs, D, cells, slots, Q⟩ := X
  obtain ⟨hx, hb, hown, hts, hK, hA, hR⟩ := hX
  intro H locs ls hP hS hl
  exact lv_aload hx hb hd (hl.2.2.2 _ _ hL) (k H locs ls hP hS hl)
theorem r_istore_n {X : CT} {own : String} {cc : ByteArray} {f lo : Nat} {M : Mem} {pc : Nat} {L : List (Option Value)} {st : List Value} (hX : okX X own cc f lo) {k : Fin 4} {i : Nat} {x : Int32} {L' : List (Option Value)} (hd : decode cc pc = .ok (.istore_n k, 1)) (hi : (k : Nat) = i) (hn : i < L.length) (hf : lfr L i = true) (hL : L.set i (some (.int x)) = L') (k : Z X M (pc + 1) L' st) : Z X M pc L (.int x :: st) := by
  obtain ⟨⟨p, l, e, R, s, m, args, below, meth, c⟩, A, ad, cs, D, cells, slots, Q⟩ := X
  obtain ⟨hx, hb, hown, hts, hK, hA, hR⟩ := hX
  intro H locs ls hP hS hl
  subst hL
  exact lv_istore_n hx hb hd hi hl.has (by rw [← hl.1]; exact hn) rfl (fun ls2 h2 => k H locs ls2 hP hS (hl.set1 hf h2))
theorem r_istore {X : CT} {own : String} {cc : ByteArray} {f lo : Nat} {M : Mem} {pc : Nat} {L : List (Option Value)} {st : List Value} (hX : okX X own cc f lo) {i : Nat} {x : Int32} {L' : List (Option Value)} (hd : decode cc pc = .ok (.istore i, 2)) (hn : i < L.length) (hf : lfr L i = true) (hL : L.set i (some (.int x)) = L') (k : Z X M (pc + 2) L' st) : Z X M pc L (.int x :: st) := by
  obtain ⟨⟨p, l, e, R, s, m, args, below, meth, c⟩, A, ad, cs, D, cells, slots, Q⟩ := X
  obtain ⟨hx, hb, hown, hts, hK, hA, hR⟩ := hX
  intro H locs ls hP hS hl
  subst hL
  exact lv_istore hx hb hd hl.has (by rw [← hl.1]; exact hn) rfl (fun ls2 h2 => k H locs ls2 hP hS (hl.set1 hf h2))
theorem r_astore_n {X : CT} {own : String} {cc : ByteArray} {f lo : Nat} {M : Mem} {pc : Nat} {L : List (Option Value)} {st : List Value} (hX : okX X own cc f lo) {k : Fin 4} {i : Nat} {x : Nat} {L' : List (Option Value)} (hd : decode cc pc = .ok (.astore_n k, 1)) (hi : (k : Nat) = i) (hn : i < L.length) (hf : lfr L i = true) (hL : L.set i (some (.ref x)) = L') (k : Z X M (pc + 1) L' st) : Z X M pc L (.ref x :: st) := by
  obtain ⟨⟨p, l, e, R, s, m, args, below, meth, c⟩, A, ad, cs, D, cells, slots, Q⟩ := X
  obtain ⟨hx, hb, hown, hts, hK, hA, hR⟩ := hX
  intro H locs ls hP hS hl
  subst hL
  exact lv_astore_n hx hb hd hi hl.has (by rw [← hl.1]; exact hn) rfl (fun ls2 h2 => k H locs ls2 hP hS (hl.set1 hf h2))
theorem r_astore {X : CT} {own : String} {cc : ByteArray} {f lo : Nat} {M : Mem} {pc : Nat} {L : List (Option Value)} {st : List Value} (hX : okX X own cc f lo) {i : Nat} {x : Nat} {L' : List (Option Value)} (hd : decode cc pc = .ok (.astore i, 2)) (hn : i < L.length) (hf : lfr L i = true) (hL : L.set i (some (.ref x)) = L') (k : Z X M (pc + 2) L' st) : Z X M pc L (.ref x :: st) := by
  obtain ⟨⟨p, l, e, R, s, m, args, below, meth, c⟩, A, ad, cs, D, cells, slots, Q⟩ := X
  obtain ⟨hx, hb, hown, hts, hK, hA, hR⟩ := hX
  intro H locs ls hP hS hl
  subst hL
  exact lv_astore hx hb hd hl.has (by rw [← hl.1]; exact hn) rfl (fun ls2 h2 => k H locs ls2 hP hS (hl.set1 hf h2))
theorem r_lstore {X : CT} {own : String} {cc : ByteArray} {f lo : Nat} {M : Mem} {pc : Nat} {L : List (Option Value)} {st : List Value} (hX : okX X own cc f lo) {i : Nat} {x : Int64} {L' : List (Option Value)} (hd : decode cc pc = .ok (.lstore i, 2)) (hn : i + 1 < L.length) (hf : lfr L i = true) (hL : (L.set i (some (.long x))).set (i + 1) none = L') (k : Z X M (pc + 2) L' st) : Z X M pc L (.long x :: st) := by
  obtain ⟨⟨p, l, e, R, s, m, args, below, meth, c⟩, A, ad, cs, D, cells, slots, Q⟩ := X
  obtain ⟨hx, hb, hown, hts, hK, hA, hR⟩ := hX
  intro H locs ls hP hS hl
  subst hL
  exact lv_lstore hx hb hd hl.has (by rw [← hl.1]; exact hn) rfl (fun ls2 h2 => k H locs ls2 hP hS (hl.set2 hf h2))
theorem r_iinc {X : CT} {own : String} {cc : ByteArray} {f lo : Nat} {M : Mem} {pc : Nat} {L : List (Option Value)} {st : List Value} (hX : okX X own cc f lo) {i : Nat} {n : Int} {x v : Int32} {L' : List (Option Value)} (hd : decode cc pc = .ok (.iinc i n, 3)) (hL0 : L[i]? = some (some (.int x))) (hv : x + Int32.ofInt n = v) (hf : lfr L i = true) (hL : L.set i (some (.int v)) = L') (k : Z X M (pc + 3) L' st) : Z X M pc L (st) := by
  obtain ⟨⟨p, l, e, R, s, m, args, below, meth, c⟩, A, ad, cs, D, cells, slots, Q⟩ := X
  obtain ⟨hx, hb, hown, hts, hK, hA, hR⟩ := hX
  intro H locs ls hP hS hl
  subst hL
  obtain ⟨kk, hk⟩ := List.getElem?_of_mem (lA_mem.mpr hL0)
  exact lv_iinc hx hb hd hl.has hk hv (by rw [← hl.1]; exact (List.getElem?_eq_some_iff.mp hL0).1) rfl (fun ls2 h2 => k H locs ls2 hP hS (hl.set1 hf h2))
theorem r_iadd {X : CT} {own : String} {cc : ByteArray} {f lo : Nat} {M : Mem} {pc : Nat} {L : List (Option Value)} {st : List Value} (hX : okX X own cc f lo) {x y : Int32} (hd : decode cc pc = .ok (.iadd, 1)) (k : Z X M (pc + 1) L (.int (x + y) :: st)) : Z X M pc L (.int y :: .int x :: st) := by
  obtain ⟨⟨p, l, e, R, s, m, args, below, meth, c⟩, A, ad, cs, D, cells, slots, Q⟩ := X
  obtain ⟨hx, hb, hown, hts, hK, hA, hR⟩ := hX
  intro H locs ls hP hS hl
  exact lv_iadd hx hb hd (k H locs ls hP hS hl)
theorem r_isub {X : CT} {own : String} {cc : ByteArray} {f lo : Nat} {M : Mem} {pc : Nat} {L : List (Option Value)} {st : List Value} (hX : okX X own cc f lo) {x y : Int32} (hd : decode cc pc = .ok (.isub, 1)) (k : Z X M (pc + 1) L (.int (x - y) :: st)) : Z X M pc L (.int y :: .int x :: st) := by
  obtain ⟨⟨p, l, e, R, s, m, args, below, meth, c⟩, A, ad, cs, D, cells, slots, Q⟩ := X
  obtain ⟨hx, hb, hown, hts, hK, hA, hR⟩ := hX
  intro H locs ls hP hS hl
  exact lv_isub hx hb hd (k H locs ls hP hS hl)
theorem r_imul {X : CT} {own : String} {cc : ByteArray} {f lo : Nat} {M : Mem} {pc : Nat} {L : List (Option Value)} {st : List Value} (hX : okX X own cc f lo) {x y : Int32} (hd : decode cc pc = .ok (.imul, 1)) (k : Z X M (pc + 1) L (.int (x * y) :: st)) : Z X M pc L (.int y :: .int x :: st) := by
  obtain ⟨⟨p, l, e, R, s, m, args, below, meth, c⟩, A, ad, cs, D, cells, slots, Q⟩ := X
  obtain ⟨hx, hb, hown, hts, hK, hA, hR⟩ := hX
  intro H locs ls hP hS hl
  exact lv_imul hx hb hd (k H locs ls hP hS hl)
theorem r_iand {X : CT} {own : String} {cc : ByteArray} {f lo : Nat} {M : Mem} {pc : Nat} {L : List (Option Value)} {st : List Value} (hX : okX X own cc f lo) {x y : Int32} (hd : decode cc pc = .ok (.iand, 1)) (k : Z X M (pc + 1) L (.int (x &&& y) :: st)) : Z X M pc L (.int y :: .int x :: st) := by
  obtain ⟨⟨p, l, e, R, s, m, args, below, meth, c⟩, A, ad, cs, D, cells, slots, Q⟩ := X
  obtain ⟨hx, hb, hown, hts, hK, hA, hR⟩ := hX
  intro H locs ls hP hS hl
  exact lv_iand hx hb hd (k H locs ls hP hS hl)
theorem r_ior {X : CT} {own : String} {cc : ByteArray} {f lo : Nat} {M : Mem} {pc : Nat} {L : List (Option Value)} {st : List Value} (hX : okX X own cc f lo) {x y : Int32} (hd : decode cc pc = .ok (.ior, 1)) (k : Z X M (pc + 1) L (.int (x ||| y) :: st)) : Z X M pc L (.int y :: .int x :: st) := by
  obtain ⟨⟨p, l, e, R, s, m, args, below, meth, c⟩, A, ad, cs, D, cells, slots, Q⟩ := X
  obtain ⟨hx, hb, hown, hts, hK, hA, hR⟩ := hX
  intro H locs ls hP hS hl
  exact lv_ior hx hb hd (k H locs ls hP hS hl)
theorem r_ixor {X : CT} {own : String} {cc : ByteArray} {f lo : Nat} {M : Mem} {pc : Nat} {L : List (Option Value)} {st : List Value} (hX : okX X own cc f lo) {x y : Int32} (hd : decode cc pc = .ok (.ixor, 1)) (k : Z X M (pc + 1) L (.int (x ^^^ y) :: st)) : Z X M pc L (.int y :: .int x :: st) := by
  obtain ⟨⟨p, l, e, R, s, m, args, below, meth, c⟩, A, ad, cs, D, cells, slots, Q⟩ := X
  obtain ⟨hx, hb, hown, hts, hK, hA, hR⟩ := hX
  intro H locs ls hP hS hl
  exact lv_ixor hx hb hd (k H locs ls hP hS hl)
theorem r_ishl {X : CT} {own : String} {cc : ByteArray} {f lo : Nat} {M : Mem} {pc : Nat} {L : List (Option Value)} {st : List Value} (hX : okX X own cc f lo) {x y : Int32} (hd : decode cc pc = .ok (.ishl, 1)) (k : Z X M (pc + 1) L (.int (x <<< (y &&& 31)) :: st)) : Z X M pc L (.int y :: .int x :: st) := by
  obtain ⟨⟨p, l, e, R, s, m, args, below, meth, c⟩, A, ad, cs, D, cells, slots, Q⟩ := X
  obtain ⟨hx, hb, hown, hts, hK, hA, hR⟩ := hX
  intro H locs ls hP hS hl
  exact lv_ishl hx hb hd (k H locs ls hP hS hl)
theorem r_ishr {X : CT} {own : String} {cc : ByteArray} {f lo : Nat} {M : Mem} {pc : Nat} {L : List (Option Value)} {st : List Value} (hX : okX X own cc f lo) {x y : Int32} (hd : decode cc pc = .ok (.ishr, 1)) (k : Z X M (pc + 1) L (.int (x >>> (y &&& 31)) :: st)) : Z X M pc L (.int y :: .int x :: st) := by
  obtain ⟨⟨p, l, e, R, s, m, args, below, meth, c⟩, A, ad, cs, D, cells, slots, Q⟩ := X
  obtain ⟨hx, hb, hown, hts, hK, hA, hR⟩ := hX
  intro H locs ls hP hS hl
  exact lv_ishr hx hb hd (k H locs ls hP hS hl)
theorem r_iushr {X : CT} {own : String} {cc : ByteArray} {f lo : Nat} {M : Mem} {pc : Nat} {L : List (Option Value)} {st : List Value} (hX : okX X own cc f lo) {x y : Int32} (hd : decode cc pc = .ok (.iushr, 1)) (k : Z X M (pc + 1) L (.int ((x.toUInt32 >>> (y.toUInt32 &&& Int32.toUInt32 31)).toInt32) :: st)) : Z X M pc L (.int y :: .int x :: st) := by
  obtain ⟨⟨p, l, e, R, s, m, args, below, meth, c⟩, A, ad, cs, D, cells, slots, Q⟩ := X
  obtain ⟨hx, hb, hown, hts, hK, hA, hR⟩ := hX
  intro H locs ls hP hS hl
  exact lv_iushr hx hb hd rfl (k H locs ls hP hS hl)
theorem r_ineg {X : CT} {own : String} {cc : ByteArray} {f lo : Nat} {M : Mem} {pc : Nat} {L : List (Option Value)} {st : List Value} (hX : okX X own cc f lo) {x : Int32} (hd : decode cc pc = .ok (.ineg, 1)) (k : Z X M (pc + 1) L (.int (-x) :: st)) : Z X M pc L (.int x :: st) := by
  obtain ⟨⟨p, l, e, R, s, m, args, below, meth, c⟩, A, ad, cs, D, cells, slots, Q⟩ := X
  obtain ⟨hx, hb, hown, hts, hK, hA, hR⟩ := hX
  intro H locs ls hP hS hl
  exact lv_ineg hx hb hd (k H locs ls hP hS hl)
theorem r_idiv {X : CT} {own : String} {cc : ByteArray} {f lo : Nat} {M : Mem} {pc : Nat} {L : List (Option Value)} {st : List Value} (hX : okX X own cc f lo) {x y : Int32} (hd : decode cc pc = .ok (.idiv, 1)) (hne : ¬ y = 0) (k : Z X M (pc + 1) L (.int (x / y) :: st)) : Z X M pc L (.int y :: .int x :: st) := by
  obtain ⟨⟨p, l, e, R, s, m, args, below, meth, c⟩, A, ad, cs, D, cells, slots, Q⟩ := X
  obtain ⟨hx, hb, hown, hts, hK, hA, hR⟩ := hX
  intro H locs ls hP hS hl
  exact lv_idiv hx hb hd hne (k H locs ls hP hS hl)
theorem r_irem {X : CT} {own : String} {cc : ByteArray} {f lo : Nat} {M : Mem} {pc : Nat} {L : List (Option Value)} {st : List Value} (hX : okX X own cc f lo) {x y : Int32} (hd : decode cc pc = .ok (.irem, 1)) (hne : ¬ y = 0) (k : Z X M (pc + 1) L (.int (x - x / y * y) :: st)) : Z X M pc L (.int y :: .int x :: st) := by
  obtain ⟨⟨p, l, e, R, s, m, args, below, meth, c⟩, A, ad, cs, D, cells, slots, Q⟩ := X
  obtain ⟨hx, hb, hown, hts, hK, hA, hR⟩ := hX
  intro H locs ls hP hS hl
  exact lv_irem hx hb hd hne (k H locs ls hP hS hl)
theorem r_ldiv {X : CT} {own : String} {cc : ByteArray} {f lo : Nat} {M : Mem} {pc : Nat} {L : List (Option Value)} {st : List Value} (hX : okX X own cc f lo) {x y : Int64} (hd : decode cc pc = .ok (.ldiv, 1)) (hne : ¬ y = 0) (k : Z X M (pc + 1) L (.long (x / y) :: st)) : Z X M pc L (.long y :: .long x :: st) := by
  obtain ⟨⟨p, l, e, R, s, m, args, below, meth, c⟩, A, ad, cs, D, cells, slots, Q⟩ := X
  obtain ⟨hx, hb, hown, hts, hK, hA, hR⟩ := hX
  intro H locs ls hP hS hl
  exact lv_ldiv hx hb hd hne (k H locs ls hP hS hl)
theorem r_lrem {X : CT} {own : String} {cc : ByteArray} {f lo : Nat} {M : Mem} {pc : Nat} {L : List (Option Value)} {st : List Value} (hX : okX X own cc f lo) {x y : Int64} (hd : decode cc pc = .ok (.lrem, 1)) (hne : ¬ y = 0) (k : Z X M (pc + 1) L (.long (x - x / y * y) :: st)) : Z X M pc L (.long y :: .long x :: st) := by
  obtain ⟨⟨p, l, e, R, s, m, args, below, meth, c⟩, A, ad, cs, D, cells, slots, Q⟩ := X
  obtain ⟨hx, hb, hown, hts, hK, hA, hR⟩ := hX
  intro H locs ls hP hS hl
  exact lv_lrem hx hb hd hne (k H locs ls hP hS hl)
theorem r_lcmp {X : CT} {own : String} {cc : ByteArray} {f lo : Nat} {M : Mem} {pc : Nat} {L : List (Option Value)} {st : List Value} (hX : okX X own cc f lo) {x y : Int64} (hd : decode cc pc = .ok (.lcmp, 1)) (k : Z X M (pc + 1) L (.int (lg_cmp x y) :: st)) : Z X M pc L (.long y :: .long x :: st) := by
  obtain ⟨⟨p, l, e, R, s, m, args, below, meth, c⟩, A, ad, cs, D, cells, slots, Q⟩ := X
  obtain ⟨hx, hb, hown, hts, hK, hA, hR⟩ := hX
  intro H locs ls hP hS hl
  exact W.lcmp hx hb hd (k H locs ls hP hS hl)
theorem r_lshl {X : CT} {own : String} {cc : ByteArray} {f lo : Nat} {M : Mem} {pc : Nat} {L : List (Option Value)} {st : List Value} (hX : okX X own cc f lo) {x : Int64} {y : Int32} (hd : decode cc pc = .ok (.lshl, 1)) (k : Z X M (pc + 1) L (.long (x <<< (y.toInt64 &&& 63)) :: st)) : Z X M pc L (.int y :: .long x :: st) := by
  obtain ⟨⟨p, l, e, R, s, m, args, below, meth, c⟩, A, ad, cs, D, cells, slots, Q⟩ := X
  obtain ⟨hx, hb, hown, hts, hK, hA, hR⟩ := hX
  intro H locs ls hP hS hl
  exact lv_lshl hx hb hd rfl (k H locs ls hP hS hl)
theorem r_i2l {X : CT} {own : String} {cc : ByteArray} {f lo : Nat} {M : Mem} {pc : Nat} {L : List (Option Value)} {st : List Value} (hX : okX X own cc f lo) {x : Int32} (hd : decode cc pc = .ok (.i2l, 1)) (k : Z X M (pc + 1) L (.long x.toInt64 :: st)) : Z X M pc L (.int x :: st) := by
  obtain ⟨⟨p, l, e, R, s, m, args, below, meth, c⟩, A, ad, cs, D, cells, slots, Q⟩ := X
  obtain ⟨hx, hb, hown, hts, hK, hA, hR⟩ := hX
  intro H locs ls hP hS hl
  exact lv_i2l hx hb hd rfl (k H locs ls hP hS hl)
theorem r_i2b {X : CT} {own : String} {cc : ByteArray} {f lo : Nat} {M : Mem} {pc : Nat} {L : List (Option Value)} {st : List Value} (hX : okX X own cc f lo) {x : Int32} (hd : decode cc pc = .ok (.i2b, 1)) (k : Z X M (pc + 1) L (.int x.toInt8.toInt32 :: st)) : Z X M pc L (.int x :: st) := by
  obtain ⟨⟨p, l, e, R, s, m, args, below, meth, c⟩, A, ad, cs, D, cells, slots, Q⟩ := X
  obtain ⟨hx, hb, hown, hts, hK, hA, hR⟩ := hX
  intro H locs ls hP hS hl
  exact lv_i2b hx hb hd rfl (k H locs ls hP hS hl)
theorem r_i2s {X : CT} {own : String} {cc : ByteArray} {f lo : Nat} {M : Mem} {pc : Nat} {L : List (Option Value)} {st : List Value} (hX : okX X own cc f lo) {x : Int32} (hd : decode cc pc = .ok (.i2s, 1)) (k : Z X M (pc + 1) L (.int x.toInt16.toInt32 :: st)) : Z X M pc L (.int x :: st) := by
  obtain ⟨⟨p, l, e, R, s, m, args, below, meth, c⟩, A, ad, cs, D, cells, slots, Q⟩ := X
  obtain ⟨hx, hb, hown, hts, hK, hA, hR⟩ := hX
  intro H locs ls hP hS hl
  exact lv_i2s hx hb hd rfl (k H locs ls hP hS hl)
theorem r_dup {X : CT} {own : String} {cc : ByteArray} {f lo : Nat} {M : Mem} {pc : Nat} {L : List (Option Value)} {st : List Value} (hX : okX X own cc f lo) {va : Value} (hd : decode cc pc = .ok (.dup, 1)) (hva : va.category = 1) (k : Z X M (pc + 1) L (va :: va :: st)) : Z X M pc L (va :: st) := by
  obtain ⟨⟨p, l, e, R, s, m, args, below, meth, c⟩, A, ad, cs, D, cells, slots, Q⟩ := X
  obtain ⟨hx, hb, hown, hts, hK, hA, hR⟩ := hX
  intro H locs ls hP hS hl
  exact lv_dup hx hb hd hva (k H locs ls hP hS hl)
theorem r_dup2 {X : CT} {own : String} {cc : ByteArray} {f lo : Nat} {M : Mem} {pc : Nat} {L : List (Option Value)} {st : List Value} (hX : okX X own cc f lo) {va vb : Value} (hd : decode cc pc = .ok (.dup2, 1)) (hva : va.category = 1) (hvb : vb.category = 1) (k : Z X M (pc + 1) L (va :: vb :: va :: vb :: st)) : Z X M pc L (va :: vb :: st) := by
  obtain ⟨⟨p, l, e, R, s, m, args, below, meth, c⟩, A, ad, cs, D, cells, slots, Q⟩ := X
  obtain ⟨hx, hb, hown, hts, hK, hA, hR⟩ := hX
  intro H locs ls hP hS hl
  exact lv_dup2_11 hx hb hd hva hvb (k H locs ls hP hS hl)
theorem r_pop {X : CT} {own : String} {cc : ByteArray} {f lo : Nat} {M : Mem} {pc : Nat} {L : List (Option Value)} {st : List Value} (hX : okX X own cc f lo) {va : Value} (hd : decode cc pc = .ok (.pop, 1)) (hva : va.category = 1) (k : Z X M (pc + 1) L st) : Z X M pc L (va :: st) := by
  obtain ⟨⟨p, l, e, R, s, m, args, below, meth, c⟩, A, ad, cs, D, cells, slots, Q⟩ := X
  obtain ⟨hx, hb, hown, hts, hK, hA, hR⟩ := hX
  intro H locs ls hP hS hl
  exact lv_pop hx hb hd hva (k H locs ls hP hS hl)
theorem r_if_eq {X : CT} {own : String} {cc : ByteArray} {f lo : Nat} {M : Mem} {pc : Nat} {L : List (Option Value)} {st : List Value} (hX : okX X own cc f lo) {x : Int32} {off : Int} (t : Nat) (hd : decode cc pc = .ok (.ifCond .eq off, 3)) (ht : (pc : Int) + off = (t : Int)) (kt : x = 0 → Z X M t L st) (kf : ¬ x = 0 → Z X M (pc + 3) L st) : Z X M pc L (.int x :: st) := by
  obtain ⟨⟨p, l, e, R, s, m, args, below, meth, c⟩, A, ad, cs, D, cells, slots, Q⟩ := X
  obtain ⟨hx, hb, hown, hts, hK, hA, hR⟩ := hX
  intro H locs ls hP hS hl
  exact lv_if_eq hx hb hd ht (fun q => kt q H locs ls hP hS hl) (fun q => kf q H locs ls hP hS hl)
theorem r_icmp_eq {X : CT} {own : String} {cc : ByteArray} {f lo : Nat} {M : Mem} {pc : Nat} {L : List (Option Value)} {st : List Value} (hX : okX X own cc f lo) {x y : Int32} {off : Int} (t : Nat) (hd : decode cc pc = .ok (.if_icmp .eq off, 3)) (ht : (pc : Int) + off = (t : Int)) (kt : x = y → Z X M t L st) (kf : ¬ x = y → Z X M (pc + 3) L st) : Z X M pc L (.int y :: .int x :: st) := by
  obtain ⟨⟨p, l, e, R, s, m, args, below, meth, c⟩, A, ad, cs, D, cells, slots, Q⟩ := X
  obtain ⟨hx, hb, hown, hts, hK, hA, hR⟩ := hX
  intro H locs ls hP hS hl
  exact lv_icmp_eq hx hb hd ht (fun q => kt q H locs ls hP hS hl) (fun q => kf q H locs ls hP hS hl)
theorem r_if_ne {X : CT} {own : String} {cc : ByteArray} {f lo : Nat} {M : Mem} {pc : Nat} {L : List (Option Value)} {st : List Value} (hX : okX X own cc f lo) {x : Int32} {off : Int} (t : Nat) (hd : decode cc pc = .ok (.ifCond .ne off, 3)) (ht : (pc : Int) + off = (t : Int)) (kt : ¬ x = 0 → Z X M t L st) (kf : x = 0 → Z X M (pc + 3) L st) : Z X M pc L (.int x :: st) := by
  obtain ⟨⟨p, l, e, R, s, m, args, below, meth, c⟩, A, ad, cs, D, cells, slots, Q⟩ := X
  obtain ⟨hx, hb, hown, hts, hK, hA, hR⟩ := hX
  intro H locs ls hP hS hl
  exact lv_if_ne hx hb hd ht (fun q => kt q H locs ls hP hS hl) (fun q => kf q H locs ls hP hS hl)
theorem r_icmp_ne {X : CT} {own : String} {cc : ByteArray} {f lo : Nat} {M : Mem} {pc : Nat} {L : List (Option Value)} {st : List Value} (hX : okX X own cc f lo) {x y : Int32} {off : Int} (t : Nat) (hd : decode cc pc = .ok (.if_icmp .ne off, 3)) (ht : (pc : Int) + off = (t : Int)) (kt : ¬ x = y → Z X M t L st) (kf : x = y → Z X M (pc + 3) L st) : Z X M pc L (.int y :: .int x :: st) := by
  obtain ⟨⟨p, l, e, R, s, m, args, below, meth, c⟩, A, ad, cs, D, cells, slots, Q⟩ := X
  obtain ⟨hx, hb, hown, hts, hK, hA, hR⟩ := hX
  intro H locs ls hP hS hl
  exact lv_icmp_ne hx hb hd ht (fun q => kt q H locs ls hP hS hl) (fun q => kf q H locs ls hP hS hl)
theorem r_if_lt {X : CT} {own : String} {cc : ByteArray} {f lo : Nat} {M : Mem} {pc : Nat} {L : List (Option Value)} {st : List Value} (hX : okX X own cc f lo) {x : Int32} {off : Int} (t : Nat) (hd : decode cc pc = .ok (.ifCond .lt off, 3)) (ht : (pc : Int) + off = (t : Int)) (kt : x < 0 → Z X M t L st) (kf : ¬ x < 0 → Z X M (pc + 3) L st) : Z X M pc L (.int x :: st) := by
  obtain ⟨⟨p, l, e, R, s, m, args, below, meth, c⟩, A, ad, cs, D, cells, slots, Q⟩ := X
  obtain ⟨hx, hb, hown, hts, hK, hA, hR⟩ := hX
  intro H locs ls hP hS hl
  exact lv_if_lt hx hb hd ht (fun q => kt q H locs ls hP hS hl) (fun q => kf q H locs ls hP hS hl)
theorem r_icmp_lt {X : CT} {own : String} {cc : ByteArray} {f lo : Nat} {M : Mem} {pc : Nat} {L : List (Option Value)} {st : List Value} (hX : okX X own cc f lo) {x y : Int32} {off : Int} (t : Nat) (hd : decode cc pc = .ok (.if_icmp .lt off, 3)) (ht : (pc : Int) + off = (t : Int)) (kt : x < y → Z X M t L st) (kf : ¬ x < y → Z X M (pc + 3) L st) : Z X M pc L (.int y :: .int x :: st) := by
  obtain ⟨⟨p, l, e, R, s, m, args, below, meth, c⟩, A, ad, cs, D, cells, slots, Q⟩ := X
  obtain ⟨hx, hb, hown, hts, hK, hA, hR⟩ := hX
  intro H locs ls hP hS hl
  exact lv_icmp_lt hx hb hd ht (fun q => kt q H locs ls hP hS hl) (fun q => kf q H locs ls hP hS hl)
theorem r_if_ge {X : CT} {own : String} {cc : ByteArray} {f lo : Nat} {M : Mem} {pc : Nat} {L : List (Option Value)} {st : List Value} (hX : okX X own cc f lo) {x : Int32} {off : Int} (t : Nat) (hd : decode cc pc = .ok (.ifCond .ge off, 3)) (ht : (pc : Int) + off = (t : Int)) (kt : 0 ≤ x → Z X M t L st) (kf : ¬ 0 ≤ x → Z X M (pc + 3) L st) : Z X M pc L (.int x :: st) := by
  obtain ⟨⟨p, l, e, R, s, m, args, below, meth, c⟩, A, ad, cs, D, cells, slots, Q⟩ := X
  obtain ⟨hx, hb, hown, hts, hK, hA, hR⟩ := hX
  intro H locs ls hP hS hl
  exact lv_if_ge hx hb hd ht (fun q => kt q H locs ls hP hS hl) (fun q => kf q H locs ls hP hS hl)
theorem r_icmp_ge {X : CT} {own : String} {cc : ByteArray} {f lo : Nat} {M : Mem} {pc : Nat} {L : List (Option Value)} {st : List Value} (hX : okX X own cc f lo) {x y : Int32} {off : Int} (t : Nat) (hd : decode cc pc = .ok (.if_icmp .ge off, 3)) (ht : (pc : Int) + off = (t : Int)) (kt : y ≤ x → Z X M t L st) (kf : ¬ y ≤ x → Z X M (pc + 3) L st) : Z X M pc L (.int y :: .int x :: st) := by
  obtain ⟨⟨p, l, e, R, s, m, args, below, meth, c⟩, A, ad, cs, D, cells, slots, Q⟩ := X
  obtain ⟨hx, hb, hown, hts, hK, hA, hR⟩ := hX
  intro H locs ls hP hS hl
  exact lv_icmp_ge hx hb hd ht (fun q => kt q H locs ls hP hS hl) (fun q => kf q H locs ls hP hS hl)
theorem r_if_gt {X : CT} {own : String} {cc : ByteArray} {f lo : Nat} {M : Mem} {pc : Nat} {L : List (Option Value)} {st : List Value} (hX : okX X own cc f lo) {x : Int32} {off : Int} (t : Nat) (hd : decode cc pc = .ok (.ifCond .gt off, 3)) (ht : (pc : Int) + off = (t : Int)) (kt : 0 < x → Z X M t L st) (kf : ¬ 0 < x → Z X M (pc + 3) L st) : Z X M pc L (.int x :: st) := by
  obtain ⟨⟨p, l, e, R, s, m, args, below, meth, c⟩, A, ad, cs, D, cells, slots, Q⟩ := X
  obtain ⟨hx, hb, hown, hts, hK, hA, hR⟩ := hX
  intro H locs ls hP hS hl
  exact lv_if_gt hx hb hd ht (fun q => kt q H locs ls hP hS hl) (fun q => kf q H locs ls hP hS hl)
theorem r_icmp_gt {X : CT} {own : String} {cc : ByteArray} {f lo : Nat} {M : Mem} {pc : Nat} {L : List (Option Value)} {st : List Value} (hX : okX X own cc f lo) {x y : Int32} {off : Int} (t : Nat) (hd : decode cc pc = .ok (.if_icmp .gt off, 3)) (ht : (pc : Int) + off = (t : Int)) (kt : y < x → Z X M t L st) (kf : ¬ y < x → Z X M (pc + 3) L st) : Z X M pc L (.int y :: .int x :: st) := by
  obtain ⟨⟨p, l, e, R, s, m, args, below, meth, c⟩, A, ad, cs, D, cells, slots, Q⟩ := X
  obtain ⟨hx, hb, hown, hts, hK, hA, hR⟩ := hX
  intro H locs ls hP hS hl
  exact lv_icmp_gt hx hb hd ht (fun q => kt q H locs ls hP hS hl) (fun q => kf q H locs ls hP hS hl)
theorem r_if_le {X : CT} {own : String} {cc : ByteArray} {f lo : Nat} {M : Mem} {pc : Nat} {L : List (Option Value)} {st : List Value} (hX : okX X own cc f lo) {x : Int32} {off : Int} (t : Nat) (hd : decode cc pc = .ok (.ifCond .le off, 3)) (ht : (pc : Int) + off = (t : Int)) (kt : x ≤ 0 → Z X M t L st) (kf : ¬ x ≤ 0 → Z X M (pc + 3) L st) : Z X M pc L (.int x :: st) := by
  obtain ⟨⟨p, l, e, R, s, m, args, below, meth, c⟩, A, ad, cs, D, cells, slots, Q⟩ := X
  obtain ⟨hx, hb, hown, hts, hK, hA, hR⟩ := hX
  intro H locs ls hP hS hl
  exact lv_if_le hx hb hd ht (fun q => kt q H locs ls hP hS hl) (fun q => kf q H locs ls hP hS hl)
theorem r_icmp_le {X : CT} {own : String} {cc : ByteArray} {f lo : Nat} {M : Mem} {pc : Nat} {L : List (Option Value)} {st : List Value} (hX : okX X own cc f lo) {x y : Int32} {off : Int} (t : Nat) (hd : decode cc pc = .ok (.if_icmp .le off, 3)) (ht : (pc : Int) + off = (t : Int)) (kt : x ≤ y → Z X M t L st) (kf : ¬ x ≤ y → Z X M (pc + 3) L st) : Z X M pc L (.int y :: .int x :: st) := by
  obtain ⟨⟨p, l, e, R, s, m, args, below, meth, c⟩, A, ad, cs, D, cells, slots, Q⟩ := X
  obtain ⟨hx, hb, hown, hts, hK, hA, hR⟩ := hX
  intro H locs ls hP hS hl
  exact lv_icmp_le hx hb hd ht (fun q => kt q H locs ls hP hS hl) (fun q => kf q H locs ls hP hS hl)
theorem r_goto {X : CT} {own : String} {cc : ByteArray} {f lo : Nat} {M : Mem} {pc : Nat} {L : List (Option Value)} {st : List Value} (hX : okX X own cc f lo) {off : Int} (t : Nat) (hd : decode cc pc = .ok (.goto off, 3)) (ht : (pc : Int) + off = (t : Int)) (k : Z X M t L st) : Z X M pc L (st) := by
  obtain ⟨⟨p, l, e, R, s, m, args, below, meth, c⟩, A, ad, cs, D, cells, slots, Q⟩ := X
  obtain ⟨hx, hb, hown, hts, hK, hA, hR⟩ := hX
  intro H locs ls hP hS hl
  exact lv_goto hx hb hd ht (k H locs ls hP hS hl)
theorem r_tin {X : CT} {own : String} {cc : ByteArray} {f lo : Nat} {M : Mem} {pc : Nat} {L : List (Option Value)} {st : List Value} (hX : okX X own cc f lo) {dflt lw hg : Int} {offs : Array Int} {len : Nat} {x v : Int32} {off : Int} (t : Nat) (hd : decode cc pc = .ok (.tableswitch dflt lw hg offs, len)) (hxv : x = v) (hin : (decide (lw ≤ v.toInt) && decide (v.toInt ≤ hg)) = true) (ho : offs[(v.toInt - lw).toNat]? = some off) (ht : (pc : Int) + off = (t : Int)) (k : Z X M t L st) : Z X M pc L (.int x :: st) := by
  obtain ⟨⟨p, l, e, R, s, m, args, below, meth, c⟩, A, ad, cs, D, cells, slots, Q⟩ := X
  obtain ⟨hx, hb, hown, hts, hK, hA, hR⟩ := hX
  intro H locs ls hP hS hl
  subst hxv
  simp only [Bool.and_eq_true, decide_eq_true_eq] at hin
  exact lv_tableIn hx hb hd (by omega) (by omega) ho ht (k H locs ls hP hS hl)
theorem r_tout {X : CT} {own : String} {cc : ByteArray} {f lo : Nat} {M : Mem} {pc : Nat} {L : List (Option Value)} {st : List Value} (hX : okX X own cc f lo) {dflt lw hg : Int} {offs : Array Int} {len : Nat} {x : Int32} (t : Nat) (hd : decode cc pc = .ok (.tableswitch dflt lw hg offs, len)) (h : x.toInt < lw ∨ hg < x.toInt) (ht : (pc : Int) + dflt = (t : Int)) (k : Z X M t L st) : Z X M pc L (.int x :: st) := by
  obtain ⟨⟨p, l, e, R, s, m, args, below, meth, c⟩, A, ad, cs, D, cells, slots, Q⟩ := X
  obtain ⟨hx, hb, hown, hts, hK, hA, hR⟩ := hX
  intro H locs ls hP hS hl
  exact lv_tableOut hx hb hd h ht (k H locs ls hP hS hl)
theorem r_lsw {X : CT} {own : String} {cc : ByteArray} {f lo : Nat} {M : Mem} {pc : Nat} {L : List (Option Value)} {st : List Value} (hX : okX X own cc f lo) {dflt : Int} {ps : Array (Int × Int)} {len : Nat} {x : Int32} {off : Int} (t : Nat) (hd : decode cc pc = .ok (.lookupswitch dflt ps, len)) (hp : (ps.toList.zip (ps.toList.drop 1)).all (fun (a, next) => a.1 < next.1) = true) (ho : Op.lookupswitch.offset ps.toList dflt x.toInt = off) (ht : (pc : Int) + off = (t : Int)) (k : Z X M t L st) : Z X M pc L (.int x :: st) := by
  obtain ⟨⟨p, l, e, R, s, m, args, below, meth, c⟩, A, ad, cs, D, cells, slots, Q⟩ := X
  obtain ⟨hx, hb, hown, hts, hK, hA, hR⟩ := hX
  intro H locs ls hP hS hl
  exact lv_lookup hx hb hd hp ho ht (k H locs ls hP hS hl)
theorem r_nm {X : CT} {M : Mem} {pc : Nat} {L : List (Option Value)} {st : List Value} {x : Int32} (k : ∀ y : Int32, y = x → Z X M pc L (.int y :: st)) : Z X M pc L (.int x :: st) := k x rfl
theorem r_nml {X : CT} {M : Mem} {pc : Nat} {L : List (Option Value)} {st : List Value} {x : Int64} (k : ∀ y : Int64, y = x → Z X M pc L (.long y :: st)) : Z X M pc L (.long x :: st) := k x rfl
theorem r_sub {X : CT} {M : Mem} {pc : Nat} {L : List (Option Value)} {st : List Value} (L' : List (Option Value)) (h : lsub L' L) (k : Z X M pc L' st) : Z X M pc L st := by
  obtain ⟨⟨p, l, e, R, s, m, args, below, meth, c⟩, A, ad, cs, D, cells, slots, Q⟩ := X
  intro H locs ls hP hS hl
  exact k H locs ls hP hS (hl.sub h)
theorem r_iret {X : CT} {cc : ByteArray} {M : Mem} {pc : Nat} {L : List (Option Value)} {r : Int32} (h : RetI X cc r M) (hd : decode cc pc = .ok (.ireturn, 1)) : Z X M pc L [.int r] := by
  obtain ⟨⟨p, l, e, R, s, m, args, below, meth, c⟩, A, ad, cs, D, cells, slots, Q⟩ := X
  intro H locs ls hP hS hl
  exact h pc ls H locs hd hP hS
theorem r_lret {X : CT} {cc : ByteArray} {M : Mem} {pc : Nat} {L : List (Option Value)} {r : Int64} (h : RetL X cc r M) (hd : decode cc pc = .ok (.lreturn, 1)) : Z X M pc L [.long r] := by
  obtain ⟨⟨p, l, e, R, s, m, args, below, meth, c⟩, A, ad, cs, D, cells, slots, Q⟩ := X
  intro H locs ls hP hS hl
  exact h pc ls H locs hd hP hS
theorem r_vret {X : CT} {cc : ByteArray} {M : Mem} {pc : Nat} {L : List (Option Value)} (h : RetV X cc M) (hd : decode cc pc = .ok (.return_, 1)) : Z X M pc L [] := by
  obtain ⟨⟨p, l, e, R, s, m, args, below, meth, c⟩, A, ad, cs, D, cells, slots, Q⟩ := X
  intro H locs ls hP hS hl
  exact h pc ls H locs hd hP hS
/-- what a field's instruction needs: link, class ci of vwCl, place j -/
def FG (own : String) (idx ci j : Nat) : Prop := ∃ (C : String) (T : u_T) (N : Nat), vwCl[ci]? = some (C, T, N) ∧ (∀ w ∈ u_ws C T N, w ∈ gtb) ∧ j < N ∧ Cond.fieldLink own idx C (T j).2.1 (T j).2.2.1 ∈ gtb ∧ (T j).1 = C
def FP (own : String) (idx ci j : Nat) : Prop := ∃ (C : String) (T : u_T) (N : Nat) (ty0 : Nat → FieldType), vwCl[ci]? = some (C, T, N) ∧ (∀ w ∈ u_ws C T N, w ∈ gtb) ∧ j < N ∧ Cond.fieldLink own idx C (T j).2.1 (T j).2.2.1 ∈ gtb ∧ (T j).1 = C ∧ (∀ k, k < N → parseFieldDescriptor (T k).2.2.1 = some (ty0 k)) ∧ (∀ a, a < N → ∀ b, b < N → a ≠ b → (T a).2.1 ≠ (T b).2.1) ∧ (T j).2.2.2 = false ∧ parseFieldDescriptor (T j).2.2.1 = some .int
theorem r_getI {X : CT} {own : String} {cc : ByteArray} {f lo : Nat} {M : Mem} {pc : Nat} {L : List (Option Value)} {st : List Value} (hX : okX X own cc f lo) {k ci j idx : Nat} {fl : List (Option Nat)} (hg : FG own idx ci j) (hl0 : lyl[k]? = some (.inl (ci, fl))) (hj : fl[j]? = some none) (hd : decode cc pc = .ok (.getfield idx, 3)) (kk : Z X M (pc + 3) L (.int (M k j) :: st)) : Z X M pc L (.ref (adX X k) :: st) := by
  obtain ⟨⟨p, l, e, R, s, m, args, below, meth, c⟩, A, ad, cs, D, cells, slots, Q⟩ := X
  obtain ⟨hx, hb, hown, hts, hK, hA, hR⟩ := hX
  intro H locs ls hP hS hl
  obtain ⟨C, T, N, h1, h2, h3, h4, h5⟩ := hg
  have he := ceF_get (ad := ad) (f := M k) fl 0 j hj
  rw [Nat.zero_add] at he
  exact va_get hx hb hts h2 hown hK hP k (wld_get hl0) h1 j h3 (hts _ h4) (fun x q => by rw [h5] at q; exact q) he hd (kk H locs ls hP hS hl)
theorem r_getR {X : CT} {own : String} {cc : ByteArray} {f lo : Nat} {M : Mem} {pc : Nat} {L : List (Option Value)} {st : List Value} (hX : okX X own cc f lo) {k ci j idx t : Nat} {fl : List (Option Nat)} (hg : FG own idx ci j) (hl0 : lyl[k]? = some (.inl (ci, fl))) (hj : fl[j]? = some (some t)) (hd : decode cc pc = .ok (.getfield idx, 3)) (kk : Z X M (pc + 3) L (.ref (adX X t) :: st)) : Z X M pc L (.ref (adX X k) :: st) := by
  obtain ⟨⟨p, l, e, R, s, m, args, below, meth, c⟩, A, ad, cs, D, cells, slots, Q⟩ := X
  obtain ⟨hx, hb, hown, hts, hK, hA, hR⟩ := hX
  intro H locs ls hP hS hl
  obtain ⟨C, T, N, h1, h2, h3, h4, h5⟩ := hg
  exact va_get hx hb hts h2 hown hK hP k (wld_get hl0) h1 j h3 (hts _ h4) (fun x q => by rw [h5] at q; exact q) (ceF_ref (ad := ad) (f := M k) fl 0 j hj) hd (kk H locs ls hP hS hl)
theorem r_putI {X : CT} {own : String} {cc : ByteArray} {f lo : Nat} {M : Mem} {pc : Nat} {L : List (Option Value)} {st : List Value} (hX : okX X own cc f lo) {k ci j idx : Nat} {v : Int32} {fl : List (Option Nat)} (hg : FP own idx ci j) (hl0 : lyl[k]? = some (.inl (ci, fl))) (hj : fl[j]? = some none) (hd : decode cc pc = .ok (.putfield idx, 3)) (kk : Z X (up2 M k j v) (pc + 3) L st) : Z X M pc L (.int v :: .ref (adX X k) :: st) := by
  obtain ⟨⟨p, l, e, R, s, m, args, below, meth, c⟩, A, ad, cs, D, cells, slots, Q⟩ := X
  obtain ⟨hx, hb, hown, hts, hK, hA, hR⟩ := hX
  intro H locs ls hP hS hl
  obtain ⟨C, T, N, ty0, h1, h2, h3, h4, h5, h6, h7, h8, h9⟩ := hg
  have hjl : j < (ceF ad (M k) 0 fl).length := by rw [ceF_len]; exact (List.getElem?_eq_some_iff.mp hj).1
  refine va_put hx hb hts h2 ty0 h6 h7 hown hK hP (wld_D hA.1 hA.2) hS k (wld_get hl0) h1 j h3 (hts _ h4) (fun x q => by rw [h5] at q; exact q) h8 h9 rfl rfl hjl hd (fun H1 locs1 hP1 hD1 hS1 => ?_)
  have e1 := ceF_set (ad := ad) (f := M k) (v := v) fl 0 j hj
  rw [Nat.zero_add] at e1
  rw [e1] at hP1
  have e2 := wld_set (cs := cs) (ad := ad) (M := M) (upd (M k) j v) hl0
  exact kk H1 locs1 ls (by show va_P D vwCl (wld cs ad (upA M k (upd (M k) j v))) H1; rw [← e2]; exact hP1) hS1 hl
theorem r_iald {X : CT} {own : String} {cc : ByteArray} {f lo : Nat} {M : Mem} {pc : Nat} {L : List (Option Value)} {st : List Value} (hX : okX X own cc f lo) {k n : Nat} {i : Int32} (hl0 : lyl[k]? = some (.inr (0, n))) (hi : vp_in i n) (hd : decode cc pc = .ok (.iaload, 1)) (kk : Z X M (pc + 1) L (.int (M k i.toNatClampNeg) :: st)) : Z X M pc L (.int i :: .ref (adX X k) :: st) := by
  obtain ⟨⟨p, l, e, R, s, m, args, below, meth, c⟩, A, ad, cs, D, cells, slots, Q⟩ := X
  obtain ⟨hx, hb, hown, hts, hK, hA, hR⟩ := hX
  intro H locs ls hP hS hl
  exact va_iald hx hb hK hP k 0 (wld_get hl0) rfl hi hd (kk H locs ls hP hS hl)
theorem r_zald {X : CT} {own : String} {cc : ByteArray} {f lo : Nat} {M : Mem} {pc : Nat} {L : List (Option Value)} {st : List Value} (hX : okX X own cc f lo) {k n : Nat} {i : Int32} (hl0 : lyl[k]? = some (.inr (1, n))) (hi : vp_in i n) (hd : decode cc pc = .ok (.baload, 1)) (kk : Z X M (pc + 1) L (.int (M k i.toNatClampNeg) :: st)) : Z X M pc L (.int i :: .ref (adX X k) :: st) := by
  obtain ⟨⟨p, l, e, R, s, m, args, below, meth, c⟩, A, ad, cs, D, cells, slots, Q⟩ := X
  obtain ⟨hx, hb, hown, hts, hK, hA, hR⟩ := hX
  intro H locs ls hP hS hl
  exact va_zald hx hb hK hP k 1 (wld_get hl0) rfl hi hd (kk H locs ls hP hS hl)
theorem r_aald {X : CT} {own : String} {cc : ByteArray} {f lo : Nat} {M : Mem} {pc : Nat} {L : List (Option Value)} {st : List Value} (hX : okX X own cc f lo) {i : Int32} (hi : vp_in i 4) (hd : decode cc pc = .ok (.aaload, 1)) (kk : Z X M (pc + 1) L (.ref (adX X (26 + i.toNatClampNeg)) :: st)) : Z X M pc L (.int i :: .ref (adX X 25) :: st) := by
  obtain ⟨⟨p, l, e, R, s, m, args, below, meth, c⟩, A, ad, cs, D, cells, slots, Q⟩ := X
  obtain ⟨hx, hb, hown, hts, hK, hA, hR⟩ := hX
  intro H locs ls hP hS hl
  exact va_aldq hx hb hK hP 25 2 (wld_get ly_25) rfl hi hd (kk H locs ls hP hS hl)
theorem r_iast {X : CT} {own : String} {cc : ByteArray} {f lo : Nat} {M : Mem} {pc : Nat} {L : List (Option Value)} {st : List Value} (hX : okX X own cc f lo) {k n : Nat} {i v : Int32} (hl0 : lyl[k]? = some (.inr (0, n))) (hi : vp_in i n) (hd : decode cc pc = .ok (.iastore, 1)) (kk : Z X (up2 M k i.toNatClampNeg v) (pc + 1) L st) : Z X M pc L (.int v :: .int i :: .ref (adX X k) :: st) := by
  obtain ⟨⟨p, l, e, R, s, m, args, below, meth, c⟩, A, ad, cs, D, cells, slots, Q⟩ := X
  obtain ⟨hx, hb, hown, hts, hK, hA, hR⟩ := hX
  intro H locs ls hP hS hl
  refine va_iast hx hb hK hP (wld_D hA.1 hA.2) hS k 0 (wld_get hl0) rfl hi hd (fun H1 locs1 hP1 hD1 hS1 => ?_)
  have e2 := wld_set (cs := cs) (ad := ad) (M := M) (upd (M k) i.toNatClampNeg v) hl0
  exact kk H1 locs1 ls (by show va_P D vwCl (wld cs ad (upA M k (upd (M k) i.toNatClampNeg v))) H1; rw [← e2]; exact hP1) hS1 hl
theorem r_zast {X : CT} {own : String} {cc : ByteArray} {f lo : Nat} {M : Mem} {pc : Nat} {L : List (Option Value)} {st : List Value} (hX : okX X own cc f lo) {k n : Nat} {i v : Int32} (hl0 : lyl[k]? = some (.inr (1, n))) (hi : vp_in i n) (hd : decode cc pc = .ok (.bastore, 1)) (kk : Z X (up2 M k i.toNatClampNeg (vp_nar .boolean v)) (pc + 1) L st) : Z X M pc L (.int v :: .int i :: .ref (adX X k) :: st) := by
  obtain ⟨⟨p, l, e, R, s, m, args, below, meth, c⟩, A, ad, cs, D, cells, slots, Q⟩ := X
  obtain ⟨hx, hb, hown, hts, hK, hA, hR⟩ := hX
  intro H locs ls hP hS hl
  refine va_zast hx hb hK hP (wld_D hA.1 hA.2) hS k 1 (wld_get hl0) rfl hi hd (fun H1 locs1 hP1 hD1 hS1 => ?_)
  have e2 := wld_set (cs := cs) (ad := ad) (M := M) (upd (M k) i.toNatClampNeg (vp_nar .boolean v)) hl0
  exact kk H1 locs1 ls (by show va_P D vwCl (wld cs ad (upA M k (upd (M k) i.toNatClampNeg (vp_nar .boolean v)))) H1; rw [← e2]; exact hP1) hS1 hl
theorem r_copy {X : CT} {own : String} {cc : ByteArray} {f lo : Nat} {M : Mem} {pc : Nat} {L : List (Option Value)} {st : List Value} (hX : okX X own cc f lo) {k k2 n n2 idx : Nat} {sp dp q : Int32} (hl0 : lyl[k]? = some (.inr (0, n))) (hl2 : lyl[k2]? = some (.inr (0, n2))) (hw : Cond.methodLink own idx arraycopyName ∈ gtb ∧ Cond.native arraycopyName ∈ gtb ∧ Cond.static arraycopyName ∈ gtb ∧ Cond.initialized "java/lang/System" ∈ gtb) (h1 : ¬ sp < 0) (h2 : ¬ dp < 0) (h3 : ¬ q < 0) (h4 : sp.toNatClampNeg + q.toNatClampNeg ≤ n) (h5 : dp.toNatClampNeg + q.toNatClampNeg ≤ n2) (hfr : 1 ≤ f) (hlo : (st.map fun v => v.category).sum + (nativeFrameWords "java/lang/System" "arraycopy" 5 + 11) ≤ lo) (hd : decode cc pc = .ok (.invokestatic idx, 3)) (kk : Z X (upA M k2 (va_cpy (M k) (M k2) sp.toNatClampNeg dp.toNatClampNeg q.toNatClampNeg)) (pc + 3) L st) : Z X M pc L (.int q :: .int dp :: .ref (adX X k2) :: .int sp :: .ref (adX X k) :: st) := by
  obtain ⟨⟨p, l, e, R, s, m, args, below, meth, c⟩, A, ad, cs, D, cells, slots, Q⟩ := X
  obtain ⟨hx, hb, hown, hts, hK, hA, hR⟩ := hX
  intro H locs ls hP hS hl
  obtain ⟨w1, w2, w3, w4⟩ := hw
  obtain ⟨r1, r2, -⟩ := hR
  refine va_copyi hx hb hl.2.1.symm hown (hts _ w1) (hts _ w2) (hts _ w3) (hts _ w4) hK hP (wld_D hA.1 hA.2) hS k k2 0 0 (wld_get hl0) (wld_get hl2) rfl rfl rfl h1 h2 h3 h4 h5 (fun _ _ => rfl) (by rw [r1]; exact hfr) (by rw [r2]; exact hlo) hd (fun H1 locs1 hP1 hD1 hS1 => ?_)
  have e2 := wld_set (cs := cs) (ad := ad) (M := M) (va_cpy (M k) (M k2) sp.toNatClampNeg dp.toNatClampNeg q.toNatClampNeg) hl2
  exact kk H1 locs1 ls (by show va_P D vwCl (wld cs ad (upA M k2 (va_cpy (M k) (M k2) sp.toNatClampNeg dp.toNatClampNeg q.toNatClampNeg))) H1; rw [← e2]; exact hP1) hS1 hl
/-! contracts -/
theorem good_sub {ws : List Cond} (h : ∀ w ∈ ws, w ∈ gtb) : GoodIn gtb ws := fun w hw => ⟨h w hw, good_of_word (List.mem_filter.mp (h w hw)).2⟩
def BM (D : va_G) (cs : CS3) (ad : Nat → Nat) (M : Mem) (t : State) : Prop := va_P D vwCl (wld cs ad M) t.heap
def PcM (D : va_G) (cs : CS3) (ad : Nat → Nat) (av : List Value) (M : Mem) : Array Value → State → Prop := va_Pc av (fun U => va_P D vwCl (wld cs ad M) U.heap ∧ va_K D vwCl (tyS cs) U ∧ adI ad)
theorem PcM_blind {D : va_G} {cs : CS3} {ad : Nat → Nat} {av : List Value} {M : Mem} : FrameBlind (PcM D cs ad av M) := fun a U g mk q => by
  obtain ⟨q0, qP, qK, qI⟩ := q
  exact ⟨q0, qP, va_K.moved (u := U) (U := U.calling g mk a) (Vm.Alike.refl U.vm) qK, qI⟩
def Ct (l : Launch) (D : va_G) (cs : CS3) (ad : Nat → Nat) (y : MethodName) (cb : ByteArray) (nl : Nat) (ret : Option FieldType) (f lo : Nat) (av : List Value) (M : Mem) (Qc : Array Value → State → Outcome → State → Prop) : Prop :=
  Met l y (.code y cb nl ret :: gtb) { frames := f, cells := 0, slots := 0, locals := lo } (PcM D cs ad av M) Qc 0 0 (AW ad)
def CtI (l : Launch) (D : va_G) (cs : CS3) (ad : Nat → Nat) (y : MethodName) (cb : ByteArray) (nl : Nat) (ret : Option FieldType) (f lo : Nat) (av : List Value) (M : Mem) (post : Int32 → Mem → Prop) : Prop := Ct l D cs ad y cb nl ret f lo av M (va_Qi post (BM D cs ad) (AW ad))
def CtL (l : Launch) (D : va_G) (cs : CS3) (ad : Nat → Nat) (y : MethodName) (cb : ByteArray) (nl : Nat) (ret : Option FieldType) (f lo : Nat) (av : List Value) (M : Mem) (post : Int64 → Mem → Prop) : Prop := Ct l D cs ad y cb nl ret f lo av M (va_Ql post (BM D cs ad) (AW ad))
def CtV (l : Launch) (D : va_G) (cs : CS3) (ad : Nat → Nat) (y : MethodName) (cb : ByteArray) (nl : Nat) (ret : Option FieldType) (f lo : Nat) (av : List Value) (M : Mem) (post : Mem → Prop) : Prop := Ct l D cs ad y cb nl ret f lo av M (va_Qv post (BM D cs ad) (AW ad))
theorem met_ofW {l : Launch} {y : MethodName} {ws ws' : List Cond} {rm : Room} {Pc : Array Value → State → Prop} {Qc : Array Value → State → Outcome → State → Prop} {mc ms : Nat} {free : Addr → Prop} {cc : ByteArray} {maxL : Nat} {ret : Option FieldType}
    (hy : plainFor y = true) (hw : ws = Cond.code y cc maxL ret :: ws')
    (body : ∀ p e s m args below meth c s₁, BodyLoose p l y (headSpec ws rm) cc maxL ret e s m args below meth c s₁ → c.maxLocals = maxL → Pc args s →
      W p l e (headSpec ws rm).room s m args below meth c s.heap [] 0 0 (MQ below Qc args s mc ms free) (entryFrame m args maxL)) : Met l y ws rm Pc Qc mc ms free := by
  refine MetFree.of_bodySF (code := cc) (maxLocals := maxL) (ret := ret) hy ?_ ?_
  · intro args s m h hn
    obtain ⟨meth, c, h1, h2, h3, h4, h5, h6, -, -⟩ := Cond.code_spec hn (atoms_spec (ws := ws) h _ (by rw [hw]; exact List.mem_cons_self))
    exact ⟨meth, c, h1, h2, h3, h4, h5, h6⟩
  · intro p e s m args below meth c s₁ B hml hP _
    have hh0 : s₁.heap = s.heap := by rw [B.state]; rfl
    obtain ⟨t, a1, o, b1, b2, b3⟩ := body p e s m args below meth c s₁ B hml hP s₁ hh0 (Stand.of_body B)
    exact ⟨t, o, a1, b1, b2, ⟨b3.1, b3.2⟩⟩
theorem lh_entry {vs : List Value} {n k : Nat} {L : List (Option Value)} (hlen : (lg_sl vs).length ≤ n) (hL : L = lvL vs ++ List.replicate k none) (hn : L.length = n) : lh ((lg_sl vs ++ List.replicate (n - (lg_sl vs).length) Slot.unset).toArray) n L := by
  have h := lv_entry vs (n := n) hlen
  refine ⟨hn, h.1, h.2.1, fun i v hi => ?_⟩
  rw [hL] at hi
  by_cases hq : i < (lvL vs).length
  · rw [List.getElem?_append_left hq] at hi
    have := h.2.2 (i, v) (by have := lvL_in vs 0 i v hi; rwa [Nat.zero_add] at this)
    exact this
  · rw [List.getElem?_append_right (by omega), List.getElem?_replicate] at hi
    split at hi <;> simp at hi

theorem met_I {l : Launch} {D : va_G} {cs : CS3} {ad : Nat → Nat} {y : MethodName} {cb : ByteArray} {nl f lo k : Nat} {ty : FieldType} (av : (Nat → Nat) → List Value) (L0 : (Nat → Nat) → List (Option Value)) {M : Mem} {post : Int32 → Mem → Prop} (hy : plainFor y = true) (hlen : ∀ a, (lg_sl (av a)).length ≤ nl) (hL : ∀ a, L0 a = lvL (av a) ++ List.replicate k none) (hn : ∀ a, (L0 a).length = nl)
    (hz : ∀ X : CT, okX X y.cls cb f lo → (∀ (r : Int32) (M' : Mem), narrow ty (.int r) = .int r → post r M' → RetI X cb r M') → Z X M 0 (L0 (adX X)) []) : CtI l D cs ad y cb nl (some ty) f lo (av ad) M post := by
  refine met_ofW (cc := cb) (maxL := nl) (ret := (some ty)) hy rfl ?_
  intro p e s m args below meth c s₁ B hml hv
  obtain ⟨rfl, hP, hK, hI⟩ := hv
  have hts := atoms_spec (ws := Cond.code y cb nl (some ty) :: gtb) B.pre
  have hl := lh_entry (hlen ad) (hL ad) (hn ad)
  rw [← hml] at hl
  rw [lg_entry_eq]
  rw [← hml]
  exact hz ((p, l, e, (headSpec (Cond.code y cb nl (some ty) :: gtb) { frames := f, cells := 0, slots := 0, locals := lo }).room, s, m, (av ad).toArray, below, meth, c), (AW ad, ad, cs, D, 0, 0, MQ below (va_Qi post (BM D cs ad) (AW ad)) (av ad).toArray s 0 0 (AW ad))) ⟨B.exec, B.bytes, findClass_of_methodNamed B.named, fun w hw => hts w (List.mem_cons_of_mem _ hw), hK, ⟨hI, fun _ h => h⟩, rfl, rfl, Nat.zero_le _, Nat.zero_le _⟩ (fun r M' hn hp => fun pc ls H locs hd hP hS => W.zret B.exec B.bytes B.returns hn (fun t ht hW => ⟨⟨r, M', rfl, hp, by unfold BM; rw [ht]; exact hP⟩, hS.F ht⟩) hS.2.2 hd B.notSynchronized) s.heap [] _ hP va_S.rf hl

theorem met_L {l : Launch} {D : va_G} {cs : CS3} {ad : Nat → Nat} {y : MethodName} {cb : ByteArray} {nl f lo k : Nat} (av : (Nat → Nat) → List Value) (L0 : (Nat → Nat) → List (Option Value)) {M : Mem} {post : Int64 → Mem → Prop} (hy : plainFor y = true) (hlen : ∀ a, (lg_sl (av a)).length ≤ nl) (hL : ∀ a, L0 a = lvL (av a) ++ List.replicate k none) (hn : ∀ a, (L0 a).length = nl)
    (hz : ∀ X : CT, okX X y.cls cb f lo → (∀ (r : Int64) (M' : Mem), post r M' → RetL X cb r M') → Z X M 0 (L0 (adX X)) []) : CtL l D cs ad y cb nl (some .long) f lo (av ad) M post := by
  refine met_ofW (cc := cb) (maxL := nl) (ret := (some .long)) hy rfl ?_
  intro p e s m args below meth c s₁ B hml hv
  obtain ⟨rfl, hP, hK, hI⟩ := hv
  have hts := atoms_spec (ws := Cond.code y cb nl (some .long) :: gtb) B.pre
  have hl := lh_entry (hlen ad) (hL ad) (hn ad)
  rw [← hml] at hl
  rw [lg_entry_eq]
  rw [← hml]
  exact hz ((p, l, e, (headSpec (Cond.code y cb nl (some .long) :: gtb) { frames := f, cells := 0, slots := 0, locals := lo }).room, s, m, (av ad).toArray, below, meth, c), (AW ad, ad, cs, D, 0, 0, MQ below (va_Ql post (BM D cs ad) (AW ad)) (av ad).toArray s 0 0 (AW ad))) ⟨B.exec, B.bytes, findClass_of_methodNamed B.named, fun w hw => hts w (List.mem_cons_of_mem _ hw), hK, ⟨hI, fun _ h => h⟩, rfl, rfl, Nat.zero_le _, Nat.zero_le _⟩ (fun r M' hp => fun pc ls H locs hd hP hS => W.lret B.exec B.bytes B.returns (fun t ht hW => ⟨⟨r, M', rfl, hp, by unfold BM; rw [ht]; exact hP⟩, hS.F ht⟩) hS.2.2 hd B.notSynchronized) s.heap [] _ hP va_S.rf hl

theorem met_V {l : Launch} {D : va_G} {cs : CS3} {ad : Nat → Nat} {y : MethodName} {cb : ByteArray} {nl f lo k : Nat} (av : (Nat → Nat) → List Value) (L0 : (Nat → Nat) → List (Option Value)) {M : Mem} {post : Mem → Prop} (hy : plainFor y = true) (hlen : ∀ a, (lg_sl (av a)).length ≤ nl) (hL : ∀ a, L0 a = lvL (av a) ++ List.replicate k none) (hn : ∀ a, (L0 a).length = nl)
    (hz : ∀ X : CT, okX X y.cls cb f lo → (∀ (M' : Mem), post M' → RetV X cb M') → Z X M 0 (L0 (adX X)) []) : CtV l D cs ad y cb nl none f lo (av ad) M post := by
  refine met_ofW (cc := cb) (maxL := nl) (ret := none) hy rfl ?_
  intro p e s m args below meth c s₁ B hml hv
  obtain ⟨rfl, hP, hK, hI⟩ := hv
  have hts := atoms_spec (ws := Cond.code y cb nl none :: gtb) B.pre
  have hl := lh_entry (hlen ad) (hL ad) (hn ad)
  rw [← hml] at hl
  rw [lg_entry_eq]
  rw [← hml]
  exact hz ((p, l, e, (headSpec (Cond.code y cb nl none :: gtb) { frames := f, cells := 0, slots := 0, locals := lo }).room, s, m, (av ad).toArray, below, meth, c), (AW ad, ad, cs, D, 0, 0, MQ below (va_Qv post (BM D cs ad) (AW ad)) (av ad).toArray s 0 0 (AW ad))) ⟨B.exec, B.bytes, findClass_of_methodNamed B.named, fun w hw => hts w (List.mem_cons_of_mem _ hw), hK, ⟨hI, fun _ h => h⟩, rfl, rfl, Nat.zero_le _, Nat.zero_le _⟩ (fun M' hp => fun pc ls H locs hd hP hS => W.vret B.exec B.bytes B.returns (fun t ht hW => ⟨⟨M', rfl, hp, by unfold BM; rw [ht]; exact hP⟩, hS.F ht⟩) hS.2.2 hd B.notSynchronized) s.heap [] _ hP va_S.rf hl

def FV (own : String) (idx : Nat) (C : String) (y : MethodName) (cb : ByteArray) (nl : Nat) (ret : Option FieldType) (n : Nat) : Prop := Cond.methodLink own idx y ∈ gtb ∧ Cond.instanceMethod y ∈ gtb ∧ Cond.selects C y y ∈ gtb ∧ Cond.initialized C ∈ gtb ∧ Cond.code y cb nl ret ∈ gtb ∧ y.cls = C ∧ (y.cls ≠ "java/lang/invoke/MethodHandle" ∧ y.cls ≠ "java/lang/invoke/VarHandle" ∧ (parseMethodDescriptor y.desc).map (fun d => d.parameters.length) = some n)
def FS (own : String) (idx : Nat) (y : MethodName) (cb : ByteArray) (nl : Nat) (ret : Option FieldType) (n : Nat) : Prop := Cond.methodLink own idx y ∈ gtb ∧ Cond.static y ∈ gtb ∧ Cond.initialized y.cls ∈ gtb ∧ Cond.code y cb nl ret ∈ gtb ∧ (y.cls ≠ "java/lang/invoke/MethodHandle" ∧ y.cls ≠ "java/lang/invoke/VarHandle" ∧ (parseMethodDescriptor y.desc).map (fun d => d.parameters.length) = some n)
theorem cons_good {w : Cond} (h : w ∈ gtb) : GoodIn gtb (w :: gtb) := good_sub (fun v hv => (List.mem_cons.mp hv).elim (fun e => e ▸ h) id)
theorem r_cVi_g {X : CT} {own : String} {cc : ByteArray} {f lo : Nat} {M : Mem} {pc : Nat} {L : List (Option Value)} {st st0 : List Value} (hX : okX X own cc f lo) {k ci N idx nl n f' lo' : Nat} {T : u_T} {C : String} {y : MethodName} {cb : ByteArray} {ret : Option FieldType} {fl : List (Option Nat)} {As : List Value} {post : Int32 → Mem → Prop} (hV : FV own idx C y cb nl ret n) (hl0 : lyl[k]? = some (.inl (ci, fl))) (hci : vwCl[ci]? = some (C, T, N)) (hR2 : f' + 1 ≤ f ∧ 8 + (nl + 11) + lo' ≤ lo)
    (hM : CtI (lnX X) (dgX X) (csX X) (adX X) y cb nl ret f' lo' (.ref (adX X k) :: As) M post) (hn : As.length = n) (hst : st0 = As.reverse ++ .ref (adX X k) :: st) (hcat : (st.map fun v => v.category).sum ≤ 8) (hd : decode cc pc = .ok (.invokevirtual idx, 3)) (kk : ∀ (r : Int32) (M' : Mem), post r M' → Z X M' (pc + 3) L (.int r :: st)) : Z X M pc L st0 := by
  obtain ⟨⟨p, l, e, R, s, m, args, below, meth, c⟩, A, ad, cs, D, cells, slots, Q⟩ := X
  obtain ⟨hx, hb, hown, hts, hK, hA, hR⟩ := hX
  intro H locs ls hP hS hl
  obtain ⟨v1, v2, v3, v4, v5, v6, v7⟩ := hV
  obtain ⟨r1, r2, r3, r4⟩ := hR
  have hT : GoodIn gtb (wsV own idx C y (Cond.code y cb nl ret :: gtb)) := by
    intro w hw
    rcases List.mem_append.mp (show w ∈ _ ++ _ from hw) with h | h
    · refine good_sub (ws := [.methodLink own idx y, .instanceMethod y, .selects C y y, .initialized C]) ?_ w h
      intro q hq
      simp only [List.mem_cons, List.not_mem_nil, or_false] at hq
      rcases hq with rfl | rfl | rfl | rfl
      · exact v1
      · exact v2
      · exact v3
      · exact v4
    · exact cons_good v5 w h
  refine va_calli (va_runV (As := As) (rest := st) ⟨hx, hb, rfl, hown, hts⟩ hM (cwV n hts hT rfl rfl rfl ⟨v6, v7⟩ (by rw [r1, r2]; exact hR2)) ⟨PcM_blind, va_recv hK hP hci (wld_get hl0), fun U hU hW => ⟨rfl, by rw [hU]; exact hP, va_K.moved hW.alike hK, hA.1⟩⟩ rfl hn hl.2.1 hst (lv_room hcat) hd ⟨r3, r4⟩) hS (fun q _ h => hA.2 q h) hA.2 (fun r u t H1 locs1 ht hvm hp hB hz1 hk1 hS1 => kk r u hp H1 locs1 ls (by unfold BM at hB; rw [ht] at hB; exact hB) hS1 hl)
theorem r_cSi_g {X : CT} {own : String} {cc : ByteArray} {f lo : Nat} {M : Mem} {pc : Nat} {L : List (Option Value)} {st st0 : List Value} (hX : okX X own cc f lo) {idx nl n f' lo' : Nat} {y : MethodName} {cb : ByteArray} {ret : Option FieldType} {As : List Value} {post : Int32 → Mem → Prop} (hV : FS own idx y cb nl ret n) (hR2 : f' + 1 ≤ f ∧ 8 + (nl + 11) + lo' ≤ lo)
    (hM : CtI (lnX X) (dgX X) (csX X) (adX X) y cb nl ret f' lo' As M post) (hn : As.length = n) (hst : st0 = As.reverse ++ st) (hcat : (st.map fun v => v.category).sum ≤ 8) (hd : decode cc pc = .ok (.invokestatic idx, 3)) (kk : ∀ (r : Int32) (M' : Mem), post r M' → Z X M' (pc + 3) L (.int r :: st)) : Z X M pc L st0 := by
  obtain ⟨⟨p, l, e, R, s, m, args, below, meth, c⟩, A, ad, cs, D, cells, slots, Q⟩ := X
  obtain ⟨hx, hb, hown, hts, hK, hA, hR⟩ := hX
  intro H locs ls hP hS hl
  obtain ⟨v1, v2, v3, v4, v5⟩ := hV
  obtain ⟨r1, r2, r3, r4⟩ := hR
  refine va_calli (va_runS (As := As) (rest := st) ⟨hx, hb, rfl, hown, hts⟩ hM ⟨callB_of n hts (cons_good v4) rfl rfl rfl (hts _ v3) (hts _ v1) v5 (by rw [r1, r2]; exact hR2), hts _ v2⟩ ⟨PcM_blind, fun U hU hW => ⟨rfl, by rw [hU]; exact hP, va_K.moved hW.alike hK, hA.1⟩⟩ rfl hn hl.2.1 hst (lv_room hcat) hd ⟨r3, r4⟩) hS (fun q _ h => hA.2 q h) hA.2 (fun r u t H1 locs1 ht hvm hp hB hz1 hk1 hS1 => kk r u hp H1 locs1 ls (by unfold BM at hB; rw [ht] at hB; exact hB) hS1 hl)
theorem r_cVi0 {X : CT} {own : String} {cc : ByteArray} {f lo : Nat} {M : Mem} {pc : Nat} {L : List (Option Value)} {st : List Value} (hX : okX X own cc f lo) {k ci N idx nl f' lo' : Nat} {T : u_T} {C : String} {y : MethodName} {cb : ByteArray} {ret : Option FieldType} {fl : List (Option Nat)} {post : Int32 → Mem → Prop} (hV : FV own idx C y cb nl ret 0) (hl0 : lyl[k]? = some (.inl (ci, fl))) (hci : vwCl[ci]? = some (C, T, N)) (hR2 : f' + 1 ≤ f ∧ 8 + (nl + 11) + lo' ≤ lo) (hM : CtI (lnX X) (dgX X) (csX X) (adX X) y cb nl ret f' lo' (.ref (adX X k) :: []) M post) (hcat : (st.map fun v => v.category).sum ≤ 8) (hd : decode cc pc = .ok (.invokevirtual idx, 3)) (kk : ∀ (r : Int32) (M' : Mem), post r M' → Z X M' (pc + 3) L (.int r :: st)) : Z X M pc L (.ref (adX X k) :: st) := r_cVi_g (As := []) hX hV hl0 hci hR2 hM rfl rfl hcat hd kk
theorem r_cVi1 {X : CT} {own : String} {cc : ByteArray} {f lo : Nat} {M : Mem} {pc : Nat} {L : List (Option Value)} {st : List Value} (hX : okX X own cc f lo) {k ci N idx nl f' lo' : Nat} {T : u_T} {C : String} {y : MethodName} {cb : ByteArray} {ret : Option FieldType} {fl : List (Option Nat)} {v1 : Value} {post : Int32 → Mem → Prop} (hV : FV own idx C y cb nl ret 1) (hl0 : lyl[k]? = some (.inl (ci, fl))) (hci : vwCl[ci]? = some (C, T, N)) (hR2 : f' + 1 ≤ f ∧ 8 + (nl + 11) + lo' ≤ lo) (hM : CtI (lnX X) (dgX X) (csX X) (adX X) y cb nl ret f' lo' (.ref (adX X k) :: [v1]) M post) (hcat : (st.map fun v => v.category).sum ≤ 8) (hd : decode cc pc = .ok (.invokevirtual idx, 3)) (kk : ∀ (r : Int32) (M' : Mem), post r M' → Z X M' (pc + 3) L (.int r :: st)) : Z X M pc L (v1 :: .ref (adX X k) :: st) := r_cVi_g (As := [v1]) hX hV hl0 hci hR2 hM rfl rfl hcat hd kk
theorem r_cSi1 {X : CT} {own : String} {cc : ByteArray} {f lo : Nat} {M : Mem} {pc : Nat} {L : List (Option Value)} {st : List Value} (hX : okX X own cc f lo) {idx nl f' lo' : Nat} {y : MethodName} {cb : ByteArray} {ret : Option FieldType} {v1 : Value} {post : Int32 → Mem → Prop} (hV : FS own idx y cb nl ret 1) (hR2 : f' + 1 ≤ f ∧ 8 + (nl + 11) + lo' ≤ lo) (hM : CtI (lnX X) (dgX X) (csX X) (adX X) y cb nl ret f' lo' [v1] M post) (hcat : (st.map fun v => v.category).sum ≤ 8) (hd : decode cc pc = .ok (.invokestatic idx, 3)) (kk : ∀ (r : Int32) (M' : Mem), post r M' → Z X M' (pc + 3) L (.int r :: st)) : Z X M pc L (v1 :: st) := r_cSi_g (As := [v1]) hX hV hR2 hM rfl rfl hcat hd kk
theorem r_cVi2 {X : CT} {own : String} {cc : ByteArray} {f lo : Nat} {M : Mem} {pc : Nat} {L : List (Option Value)} {st : List Value} (hX : okX X own cc f lo) {k ci N idx nl f' lo' : Nat} {T : u_T} {C : String} {y : MethodName} {cb : ByteArray} {ret : Option FieldType} {fl : List (Option Nat)} {v1 v2 : Value} {post : Int32 → Mem → Prop} (hV : FV own idx C y cb nl ret 2) (hl0 : lyl[k]? = some (.inl (ci, fl))) (hci : vwCl[ci]? = some (C, T, N)) (hR2 : f' + 1 ≤ f ∧ 8 + (nl + 11) + lo' ≤ lo) (hM : CtI (lnX X) (dgX X) (csX X) (adX X) y cb nl ret f' lo' (.ref (adX X k) :: [v1, v2]) M post) (hcat : (st.map fun v => v.category).sum ≤ 8) (hd : decode cc pc = .ok (.invokevirtual idx, 3)) (kk : ∀ (r : Int32) (M' : Mem), post r M' → Z X M' (pc + 3) L (.int r :: st)) : Z X M pc L (v2 :: v1 :: .ref (adX X k) :: st) := r_cVi_g (As := [v1, v2]) hX hV hl0 hci hR2 hM rfl rfl hcat hd kk
theorem r_cSi2 {X : CT} {own : String} {cc : ByteArray} {f lo : Nat} {M : Mem} {pc : Nat} {L : List (Option Value)} {st : List Value} (hX : okX X own cc f lo) {idx nl f' lo' : Nat} {y : MethodName} {cb : ByteArray} {ret : Option FieldType} {v1 v2 : Value} {post : Int32 → Mem → Prop} (hV : FS own idx y cb nl ret 2) (hR2 : f' + 1 ≤ f ∧ 8 + (nl + 11) + lo' ≤ lo) (hM : CtI (lnX X) (dgX X) (csX X) (adX X) y cb nl ret f' lo' [v1, v2] M post) (hcat : (st.map fun v => v.category).sum ≤ 8) (hd : decode cc pc = .ok (.invokestatic idx, 3)) (kk : ∀ (r : Int32) (M' : Mem), post r M' → Z X M' (pc + 3) L (.int r :: st)) : Z X M pc L (v2 :: v1 :: st) := r_cSi_g (As := [v1, v2]) hX hV hR2 hM rfl rfl hcat hd kk
theorem r_cVi3 {X : CT} {own : String} {cc : ByteArray} {f lo : Nat} {M : Mem} {pc : Nat} {L : List (Option Value)} {st : List Value} (hX : okX X own cc f lo) {k ci N idx nl f' lo' : Nat} {T : u_T} {C : String} {y : MethodName} {cb : ByteArray} {ret : Option FieldType} {fl : List (Option Nat)} {v1 v2 v3 : Value} {post : Int32 → Mem → Prop} (hV : FV own idx C y cb nl ret 3) (hl0 : lyl[k]? = some (.inl (ci, fl))) (hci : vwCl[ci]? = some (C, T, N)) (hR2 : f' + 1 ≤ f ∧ 8 + (nl + 11) + lo' ≤ lo) (hM : CtI (lnX X) (dgX X) (csX X) (adX X) y cb nl ret f' lo' (.ref (adX X k) :: [v1, v2, v3]) M post) (hcat : (st.map fun v => v.category).sum ≤ 8) (hd : decode cc pc = .ok (.invokevirtual idx, 3)) (kk : ∀ (r : Int32) (M' : Mem), post r M' → Z X M' (pc + 3) L (.int r :: st)) : Z X M pc L (v3 :: v2 :: v1 :: .ref (adX X k) :: st) := r_cVi_g (As := [v1, v2, v3]) hX hV hl0 hci hR2 hM rfl rfl hcat hd kk
theorem r_cSi3 {X : CT} {own : String} {cc : ByteArray} {f lo : Nat} {M : Mem} {pc : Nat} {L : List (Option Value)} {st : List Value} (hX : okX X own cc f lo) {idx nl f' lo' : Nat} {y : MethodName} {cb : ByteArray} {ret : Option FieldType} {v1 v2 v3 : Value} {post : Int32 → Mem → Prop} (hV : FS own idx y cb nl ret 3) (hR2 : f' + 1 ≤ f ∧ 8 + (nl + 11) + lo' ≤ lo) (hM : CtI (lnX X) (dgX X) (csX X) (adX X) y cb nl ret f' lo' [v1, v2, v3] M post) (hcat : (st.map fun v => v.category).sum ≤ 8) (hd : decode cc pc = .ok (.invokestatic idx, 3)) (kk : ∀ (r : Int32) (M' : Mem), post r M' → Z X M' (pc + 3) L (.int r :: st)) : Z X M pc L (v3 :: v2 :: v1 :: st) := r_cSi_g (As := [v1, v2, v3]) hX hV hR2 hM rfl rfl hcat hd kk
theorem r_cVi4 {X : CT} {own : String} {cc : ByteArray} {f lo : Nat} {M : Mem} {pc : Nat} {L : List (Option Value)} {st : List Value} (hX : okX X own cc f lo) {k ci N idx nl f' lo' : Nat} {T : u_T} {C : String} {y : MethodName} {cb : ByteArray} {ret : Option FieldType} {fl : List (Option Nat)} {v1 v2 v3 v4 : Value} {post : Int32 → Mem → Prop} (hV : FV own idx C y cb nl ret 4) (hl0 : lyl[k]? = some (.inl (ci, fl))) (hci : vwCl[ci]? = some (C, T, N)) (hR2 : f' + 1 ≤ f ∧ 8 + (nl + 11) + lo' ≤ lo) (hM : CtI (lnX X) (dgX X) (csX X) (adX X) y cb nl ret f' lo' (.ref (adX X k) :: [v1, v2, v3, v4]) M post) (hcat : (st.map fun v => v.category).sum ≤ 8) (hd : decode cc pc = .ok (.invokevirtual idx, 3)) (kk : ∀ (r : Int32) (M' : Mem), post r M' → Z X M' (pc + 3) L (.int r :: st)) : Z X M pc L (v4 :: v3 :: v2 :: v1 :: .ref (adX X k) :: st) := r_cVi_g (As := [v1, v2, v3, v4]) hX hV hl0 hci hR2 hM rfl rfl hcat hd kk
theorem r_cSi4 {X : CT} {own : String} {cc : ByteArray} {f lo : Nat} {M : Mem} {pc : Nat} {L : List (Option Value)} {st : List Value} (hX : okX X own cc f lo) {idx nl f' lo' : Nat} {y : MethodName} {cb : ByteArray} {ret : Option FieldType} {v1 v2 v3 v4 : Value} {post : Int32 → Mem → Prop} (hV : FS own idx y cb nl ret 4) (hR2 : f' + 1 ≤ f ∧ 8 + (nl + 11) + lo' ≤ lo) (hM : CtI (lnX X) (dgX X) (csX X) (adX X) y cb nl ret f' lo' [v1, v2, v3, v4] M post) (hcat : (st.map fun v => v.category).sum ≤ 8) (hd : decode cc pc = .ok (.invokestatic idx, 3)) (kk : ∀ (r : Int32) (M' : Mem), post r M' → Z X M' (pc + 3) L (.int r :: st)) : Z X M pc L (v4 :: v3 :: v2 :: v1 :: st) := r_cSi_g (As := [v1, v2, v3, v4]) hX hV hR2 hM rfl rfl hcat hd kk
theorem r_cVi5 {X : CT} {own : String} {cc : ByteArray} {f lo : Nat} {M : Mem} {pc : Nat} {L : List (Option Value)} {st : List Value} (hX : okX X own cc f lo) {k ci N idx nl f' lo' : Nat} {T : u_T} {C : String} {y : MethodName} {cb : ByteArray} {ret : Option FieldType} {fl : List (Option Nat)} {v1 v2 v3 v4 v5 : Value} {post : Int32 → Mem → Prop} (hV : FV own idx C y cb nl ret 5) (hl0 : lyl[k]? = some (.inl (ci, fl))) (hci : vwCl[ci]? = some (C, T, N)) (hR2 : f' + 1 ≤ f ∧ 8 + (nl + 11) + lo' ≤ lo) (hM : CtI (lnX X) (dgX X) (csX X) (adX X) y cb nl ret f' lo' (.ref (adX X k) :: [v1, v2, v3, v4, v5]) M post) (hcat : (st.map fun v => v.category).sum ≤ 8) (hd : decode cc pc = .ok (.invokevirtual idx, 3)) (kk : ∀ (r : Int32) (M' : Mem), post r M' → Z X M' (pc + 3) L (.int r :: st)) : Z X M pc L (v5 :: v4 :: v3 :: v2 :: v1 :: .ref (adX X k) :: st) := r_cVi_g (As := [v1, v2, v3, v4, v5]) hX hV hl0 hci hR2 hM rfl rfl hcat hd kk
theorem r_cSi5 {X : CT} {own : String} {cc : ByteArray} {f lo : Nat} {M : Mem} {pc : Nat} {L : List (Option Value)} {st : List Value} (hX : okX X own cc f lo) {idx nl f' lo' : Nat} {y : MethodName} {cb : ByteArray} {ret : Option FieldType} {v1 v2 v3 v4 v5 : Value} {post : Int32 → Mem → Prop} (hV : FS own idx y cb nl ret 5) (hR2 : f' + 1 ≤ f ∧ 8 + (nl + 11) + lo' ≤ lo) (hM : CtI (lnX X) (dgX X) (csX X) (adX X) y cb nl ret f' lo' [v1, v2, v3, v4, v5] M post) (hcat : (st.map fun v => v.category).sum ≤ 8) (hd : decode cc pc = .ok (.invokestatic idx, 3)) (kk : ∀ (r : Int32) (M' : Mem), post r M' → Z X M' (pc + 3) L (.int r :: st)) : Z X M pc L (v5 :: v4 :: v3 :: v2 :: v1 :: st) := r_cSi_g (As := [v1, v2, v3, v4, v5]) hX hV hR2 hM rfl rfl hcat hd kk
theorem r_cVl_g {X : CT} {own : String} {cc : ByteArray} {f lo : Nat} {M : Mem} {pc : Nat} {L : List (Option Value)} {st st0 : List Value} (hX : okX X own cc f lo) {k ci N idx nl n f' lo' : Nat} {T : u_T} {C : String} {y : MethodName} {cb : ByteArray} {ret : Option FieldType} {fl : List (Option Nat)} {As : List Value} {post : Int64 → Mem → Prop} (hV : FV own idx C y cb nl ret n) (hl0 : lyl[k]? = some (.inl (ci, fl))) (hci : vwCl[ci]? = some (C, T, N)) (hR2 : f' + 1 ≤ f ∧ 8 + (nl + 11) + lo' ≤ lo)
    (hM : CtL (lnX X) (dgX X) (csX X) (adX X) y cb nl ret f' lo' (.ref (adX X k) :: As) M post) (hn : As.length = n) (hst : st0 = As.reverse ++ .ref (adX X k) :: st) (hcat : (st.map fun v => v.category).sum ≤ 8) (hd : decode cc pc = .ok (.invokevirtual idx, 3)) (kk : ∀ (r : Int64) (M' : Mem), post r M' → Z X M' (pc + 3) L (.long r :: st)) : Z X M pc L st0 := by
  obtain ⟨⟨p, l, e, R, s, m, args, below, meth, c⟩, A, ad, cs, D, cells, slots, Q⟩ := X
  obtain ⟨hx, hb, hown, hts, hK, hA, hR⟩ := hX
  intro H locs ls hP hS hl
  obtain ⟨v1, v2, v3, v4, v5, v6, v7⟩ := hV
  obtain ⟨r1, r2, r3, r4⟩ := hR
  have hT : GoodIn gtb (wsV own idx C y (Cond.code y cb nl ret :: gtb)) := by
    intro w hw
    rcases List.mem_append.mp (show w ∈ _ ++ _ from hw) with h | h
    · refine good_sub (ws := [.methodLink own idx y, .instanceMethod y, .selects C y y, .initialized C]) ?_ w h
      intro q hq
      simp only [List.mem_cons, List.not_mem_nil, or_false] at hq
      rcases hq with rfl | rfl | rfl | rfl
      · exact v1
      · exact v2
      · exact v3
      · exact v4
    · exact cons_good v5 w h
  refine va_calll (va_runV (As := As) (rest := st) ⟨hx, hb, rfl, hown, hts⟩ hM (cwV n hts hT rfl rfl rfl ⟨v6, v7⟩ (by rw [r1, r2]; exact hR2)) ⟨PcM_blind, va_recv hK hP hci (wld_get hl0), fun U hU hW => ⟨rfl, by rw [hU]; exact hP, va_K.moved hW.alike hK, hA.1⟩⟩ rfl hn hl.2.1 hst (lv_room hcat) hd ⟨r3, r4⟩) hS (fun q _ h => hA.2 q h) hA.2 (fun r u t H1 locs1 ht hvm hp hB hz1 hk1 hS1 => kk r u hp H1 locs1 ls (by unfold BM at hB; rw [ht] at hB; exact hB) hS1 hl)
theorem r_cSl_g {X : CT} {own : String} {cc : ByteArray} {f lo : Nat} {M : Mem} {pc : Nat} {L : List (Option Value)} {st st0 : List Value} (hX : okX X own cc f lo) {idx nl n f' lo' : Nat} {y : MethodName} {cb : ByteArray} {ret : Option FieldType} {As : List Value} {post : Int64 → Mem → Prop} (hV : FS own idx y cb nl ret n) (hR2 : f' + 1 ≤ f ∧ 8 + (nl + 11) + lo' ≤ lo)
    (hM : CtL (lnX X) (dgX X) (csX X) (adX X) y cb nl ret f' lo' As M post) (hn : As.length = n) (hst : st0 = As.reverse ++ st) (hcat : (st.map fun v => v.category).sum ≤ 8) (hd : decode cc pc = .ok (.invokestatic idx, 3)) (kk : ∀ (r : Int64) (M' : Mem), post r M' → Z X M' (pc + 3) L (.long r :: st)) : Z X M pc L st0 := by
  obtain ⟨⟨p, l, e, R, s, m, args, below, meth, c⟩, A, ad, cs, D, cells, slots, Q⟩ := X
  obtain ⟨hx, hb, hown, hts, hK, hA, hR⟩ := hX
  intro H locs ls hP hS hl
  obtain ⟨v1, v2, v3, v4, v5⟩ := hV
  obtain ⟨r1, r2, r3, r4⟩ := hR
  refine va_calll (va_runS (As := As) (rest := st) ⟨hx, hb, rfl, hown, hts⟩ hM ⟨callB_of n hts (cons_good v4) rfl rfl rfl (hts _ v3) (hts _ v1) v5 (by rw [r1, r2]; exact hR2), hts _ v2⟩ ⟨PcM_blind, fun U hU hW => ⟨rfl, by rw [hU]; exact hP, va_K.moved hW.alike hK, hA.1⟩⟩ rfl hn hl.2.1 hst (lv_room hcat) hd ⟨r3, r4⟩) hS (fun q _ h => hA.2 q h) hA.2 (fun r u t H1 locs1 ht hvm hp hB hz1 hk1 hS1 => kk r u hp H1 locs1 ls (by unfold BM at hB; rw [ht] at hB; exact hB) hS1 hl)
theorem r_cVl0 {X : CT} {own : String} {cc : ByteArray} {f lo : Nat} {M : Mem} {pc : Nat} {L : List (Option Value)} {st : List Value} (hX : okX X own cc f lo) {k ci N idx nl f' lo' : Nat} {T : u_T} {C : String} {y : MethodName} {cb : ByteArray} {ret : Option FieldType} {fl : List (Option Nat)} {post : Int64 → Mem → Prop} (hV : FV own idx C y cb nl ret 0) (hl0 : lyl[k]? = some (.inl (ci, fl))) (hci : vwCl[ci]? = some (C, T, N)) (hR2 : f' + 1 ≤ f ∧ 8 + (nl + 11) + lo' ≤ lo) (hM : CtL (lnX X) (dgX X) (csX X) (adX X) y cb nl ret f' lo' (.ref (adX X k) :: []) M post) (hcat : (st.map fun v => v.category).sum ≤ 8) (hd : decode cc pc = .ok (.invokevirtual idx, 3)) (kk : ∀ (r : Int64) (M' : Mem), post r M' → Z X M' (pc + 3) L (.long r :: st)) : Z X M pc L (.ref (adX X k) :: st) := r_cVl_g (As := []) hX hV hl0 hci hR2 hM rfl rfl hcat hd kk
theorem r_cVl1 {X : CT} {own : String} {cc : ByteArray} {f lo : Nat} {M : Mem} {pc : Nat} {L : List (Option Value)} {st : List Value} (hX : okX X own cc f lo) {k ci N idx nl f' lo' : Nat} {T : u_T} {C : String} {y : MethodName} {cb : ByteArray} {ret : Option FieldType} {fl : List (Option Nat)} {v1 : Value} {post : Int64 → Mem → Prop} (hV : FV own idx C y cb nl ret 1) (hl0 : lyl[k]? = some (.inl (ci, fl))) (hci : vwCl[ci]? = some (C, T, N)) (hR2 : f' + 1 ≤ f ∧ 8 + (nl + 11) + lo' ≤ lo) (hM : CtL (lnX X) (dgX X) (csX X) (adX X) y cb nl ret f' lo' (.ref (adX X k) :: [v1]) M post) (hcat : (st.map fun v => v.category).sum ≤ 8) (hd : decode cc pc = .ok (.invokevirtual idx, 3)) (kk : ∀ (r : Int64) (M' : Mem), post r M' → Z X M' (pc + 3) L (.long r :: st)) : Z X M pc L (v1 :: .ref (adX X k) :: st) := r_cVl_g (As := [v1]) hX hV hl0 hci hR2 hM rfl rfl hcat hd kk
theorem r_cSl1 {X : CT} {own : String} {cc : ByteArray} {f lo : Nat} {M : Mem} {pc : Nat} {L : List (Option Value)} {st : List Value} (hX : okX X own cc f lo) {idx nl f' lo' : Nat} {y : MethodName} {cb : ByteArray} {ret : Option FieldType} {v1 : Value} {post : Int64 → Mem → Prop} (hV : FS own idx y cb nl ret 1) (hR2 : f' + 1 ≤ f ∧ 8 + (nl + 11) + lo' ≤ lo) (hM : CtL (lnX X) (dgX X) (csX X) (adX X) y cb nl ret f' lo' [v1] M post) (hcat : (st.map fun v => v.category).sum ≤ 8) (hd : decode cc pc = .ok (.invokestatic idx, 3)) (kk : ∀ (r : Int64) (M' : Mem), post r M' → Z X M' (pc + 3) L (.long r :: st)) : Z X M pc L (v1 :: st) := r_cSl_g (As := [v1]) hX hV hR2 hM rfl rfl hcat hd kk
theorem r_cVl2 {X : CT} {own : String} {cc : ByteArray} {f lo : Nat} {M : Mem} {pc : Nat} {L : List (Option Value)} {st : List Value} (hX : okX X own cc f lo) {k ci N idx nl f' lo' : Nat} {T : u_T} {C : String} {y : MethodName} {cb : ByteArray} {ret : Option FieldType} {fl : List (Option Nat)} {v1 v2 : Value} {post : Int64 → Mem → Prop} (hV : FV own idx C y cb nl ret 2) (hl0 : lyl[k]? = some (.inl (ci, fl))) (hci : vwCl[ci]? = some (C, T, N)) (hR2 : f' + 1 ≤ f ∧ 8 + (nl + 11) + lo' ≤ lo) (hM : CtL (lnX X) (dgX X) (csX X) (adX X) y cb nl ret f' lo' (.ref (adX X k) :: [v1, v2]) M post) (hcat : (st.map fun v => v.category).sum ≤ 8) (hd : decode cc pc = .ok (.invokevirtual idx, 3)) (kk : ∀ (r : Int64) (M' : Mem), post r M' → Z X M' (pc + 3) L (.long r :: st)) : Z X M pc L (v2 :: v1 :: .ref (adX X k) :: st) := r_cVl_g (As := [v1, v2]) hX hV hl0 hci hR2 hM rfl rfl hcat hd kk
theorem r_cSl2 {X : CT} {own : String} {cc : ByteArray} {f lo : Nat} {M : Mem} {pc : Nat} {L : List (Option Value)} {st : List Value} (hX : okX X own cc f lo) {idx nl f' lo' : Nat} {y : MethodName} {cb : ByteArray} {ret : Option FieldType} {v1 v2 : Value} {post : Int64 → Mem → Prop} (hV : FS own idx y cb nl ret 2) (hR2 : f' + 1 ≤ f ∧ 8 + (nl + 11) + lo' ≤ lo) (hM : CtL (lnX X) (dgX X) (csX X) (adX X) y cb nl ret f' lo' [v1, v2] M post) (hcat : (st.map fun v => v.category).sum ≤ 8) (hd : decode cc pc = .ok (.invokestatic idx, 3)) (kk : ∀ (r : Int64) (M' : Mem), post r M' → Z X M' (pc + 3) L (.long r :: st)) : Z X M pc L (v2 :: v1 :: st) := r_cSl_g (As := [v1, v2]) hX hV hR2 hM rfl rfl hcat hd kk
theorem r_cVl3 {X : CT} {own : String} {cc : ByteArray} {f lo : Nat} {M : Mem} {pc : Nat} {L : List (Option Value)} {st : List Value} (hX : okX X own cc f lo) {k ci N idx nl f' lo' : Nat} {T : u_T} {C : String} {y : MethodName} {cb : ByteArray} {ret : Option FieldType} {fl : List (Option Nat)} {v1 v2 v3 : Value} {post : Int64 → Mem → Prop} (hV : FV own idx C y cb nl ret 3) (hl0 : lyl[k]? = some (.inl (ci, fl))) (hci : vwCl[ci]? = some (C, T, N)) (hR2 : f' + 1 ≤ f ∧ 8 + (nl + 11) + lo' ≤ lo) (hM : CtL (lnX X) (dgX X) (csX X) (adX X) y cb nl ret f' lo' (.ref (adX X k) :: [v1, v2, v3]) M post) (hcat : (st.map fun v => v.category).sum ≤ 8) (hd : decode cc pc = .ok (.invokevirtual idx, 3)) (kk : ∀ (r : Int64) (M' : Mem), post r M' → Z X M' (pc + 3) L (.long r :: st)) : Z X M pc L (v3 :: v2 :: v1 :: .ref (adX X k) :: st) := r_cVl_g (As := [v1, v2, v3]) hX hV hl0 hci hR2 hM rfl rfl hcat hd kk
theorem r_cSl3 {X : CT} {own : String} {cc : ByteArray} {f lo : Nat} {M : Mem} {pc : Nat} {L : List (Option Value)} {st : List Value} (hX : okX X own cc f lo) {idx nl f' lo' : Nat} {y : MethodName} {cb : ByteArray} {ret : Option FieldType} {v1 v2 v3 : Value} {post : Int64 → Mem → Prop} (hV : FS own idx y cb nl ret 3) (hR2 : f' + 1 ≤ f ∧ 8 + (nl + 11) + lo' ≤ lo) (hM : CtL (lnX X) (dgX X) (csX X) (adX X) y cb nl ret f' lo' [v1, v2, v3] M post) (hcat : (st.map fun v => v.category).sum ≤ 8) (hd : decode cc pc = .ok (.invokestatic idx, 3)) (kk : ∀ (r : Int64) (M' : Mem), post r M' → Z X M' (pc + 3) L (.long r :: st)) : Z X M pc L (v3 :: v2 :: v1 :: st) := r_cSl_g (As := [v1, v2, v3]) hX hV hR2 hM rfl rfl hcat hd kk
theorem r_cVl4 {X : CT} {own : String} {cc : ByteArray} {f lo : Nat} {M : Mem} {pc : Nat} {L : List (Option Value)} {st : List Value} (hX : okX X own cc f lo) {k ci N idx nl f' lo' : Nat} {T : u_T} {C : String} {y : MethodName} {cb : ByteArray} {ret : Option FieldType} {fl : List (Option Nat)} {v1 v2 v3 v4 : Value} {post : Int64 → Mem → Prop} (hV : FV own idx C y cb nl ret 4) (hl0 : lyl[k]? = some (.inl (ci, fl))) (hci : vwCl[ci]? = some (C, T, N)) (hR2 : f' + 1 ≤ f ∧ 8 + (nl + 11) + lo' ≤ lo) (hM : CtL (lnX X) (dgX X) (csX X) (adX X) y cb nl ret f' lo' (.ref (adX X k) :: [v1, v2, v3, v4]) M post) (hcat : (st.map fun v => v.category).sum ≤ 8) (hd : decode cc pc = .ok (.invokevirtual idx, 3)) (kk : ∀ (r : Int64) (M' : Mem), post r M' → Z X M' (pc + 3) L (.long r :: st)) : Z X M pc L (v4 :: v3 :: v2 :: v1 :: .ref (adX X k) :: st) := r_cVl_g (As := [v1, v2, v3, v4]) hX hV hl0 hci hR2 hM rfl rfl hcat hd kk
theorem r_cSl4 {X : CT} {own : String} {cc : ByteArray} {f lo : Nat} {M : Mem} {pc : Nat} {L : List (Option Value)} {st : List Value} (hX : okX X own cc f lo) {idx nl f' lo' : Nat} {y : MethodName} {cb : ByteArray} {ret : Option FieldType} {v1 v2 v3 v4 : Value} {post : Int64 → Mem → Prop} (hV : FS own idx y cb nl ret 4) (hR2 : f' + 1 ≤ f ∧ 8 + (nl + 11) + lo' ≤ lo) (hM : CtL (lnX X) (dgX X) (csX X) (adX X) y cb nl ret f' lo' [v1, v2, v3, v4] M post) (hcat : (st.map fun v => v.category).sum ≤ 8) (hd : decode cc pc = .ok (.invokestatic idx, 3)) (kk : ∀ (r : Int64) (M' : Mem), post r M' → Z X M' (pc + 3) L (.long r :: st)) : Z X M pc L (v4 :: v3 :: v2 :: v1 :: st) := r_cSl_g (As := [v1, v2, v3, v4]) hX hV hR2 hM rfl rfl hcat hd kk
theorem r_cVl5 {X : CT} {own : String} {cc : ByteArray} {f lo : Nat} {M : Mem} {pc : Nat} {L : List (Option Value)} {st : List Value} (hX : okX X own cc f lo) {k ci N idx nl f' lo' : Nat} {T : u_T} {C : String} {y : MethodName} {cb : ByteArray} {ret : Option FieldType} {fl : List (Option Nat)} {v1 v2 v3 v4 v5 : Value} {post : Int64 → Mem → Prop} (hV : FV own idx C y cb nl ret 5) (hl0 : lyl[k]? = some (.inl (ci, fl))) (hci : vwCl[ci]? = some (C, T, N)) (hR2 : f' + 1 ≤ f ∧ 8 + (nl + 11) + lo' ≤ lo) (hM : CtL (lnX X) (dgX X) (csX X) (adX X) y cb nl ret f' lo' (.ref (adX X k) :: [v1, v2, v3, v4, v5]) M post) (hcat : (st.map fun v => v.category).sum ≤ 8) (hd : decode cc pc = .ok (.invokevirtual idx, 3)) (kk : ∀ (r : Int64) (M' : Mem), post r M' → Z X M' (pc + 3) L (.long r :: st)) : Z X M pc L (v5 :: v4 :: v3 :: v2 :: v1 :: .ref (adX X k) :: st) := r_cVl_g (As := [v1, v2, v3, v4, v5]) hX hV hl0 hci hR2 hM rfl rfl hcat hd kk
theorem r_cSl5 {X : CT} {own : String} {cc : ByteArray} {f lo : Nat} {M : Mem} {pc : Nat} {L : List (Option Value)} {st : List Value} (hX : okX X own cc f lo) {idx nl f' lo' : Nat} {y : MethodName} {cb : ByteArray} {ret : Option FieldType} {v1 v2 v3 v4 v5 : Value} {post : Int64 → Mem → Prop} (hV : FS own idx y cb nl ret 5) (hR2 : f' + 1 ≤ f ∧ 8 + (nl + 11) + lo' ≤ lo) (hM : CtL (lnX X) (dgX X) (csX X) (adX X) y cb nl ret f' lo' [v1, v2, v3, v4, v5] M post) (hcat : (st.map fun v => v.category).sum ≤ 8) (hd : decode cc pc = .ok (.invokestatic idx, 3)) (kk : ∀ (r : Int64) (M' : Mem), post r M' → Z X M' (pc + 3) L (.long r :: st)) : Z X M pc L (v5 :: v4 :: v3 :: v2 :: v1 :: st) := r_cSl_g (As := [v1, v2, v3, v4, v5]) hX hV hR2 hM rfl rfl hcat hd kk
theorem r_cVv_g {X : CT} {own : String} {cc : ByteArray} {f lo : Nat} {M : Mem} {pc : Nat} {L : List (Option Value)} {st st0 : List Value} (hX : okX X own cc f lo) {k ci N idx nl n f' lo' : Nat} {T : u_T} {C : String} {y : MethodName} {cb : ByteArray} {ret : Option FieldType} {fl : List (Option Nat)} {As : List Value} {post : Mem → Prop} (hV : FV own idx C y cb nl ret n) (hl0 : lyl[k]? = some (.inl (ci, fl))) (hci : vwCl[ci]? = some (C, T, N)) (hR2 : f' + 1 ≤ f ∧ 8 + (nl + 11) + lo' ≤ lo)
    (hM : CtV (lnX X) (dgX X) (csX X) (adX X) y cb nl ret f' lo' (.ref (adX X k) :: As) M post) (hn : As.length = n) (hst : st0 = As.reverse ++ .ref (adX X k) :: st) (hcat : (st.map fun v => v.category).sum ≤ 8) (hd : decode cc pc = .ok (.invokevirtual idx, 3)) (kk : ∀ (M' : Mem), post M' → Z X M' (pc + 3) L st) : Z X M pc L st0 := by
  obtain ⟨⟨p, l, e, R, s, m, args, below, meth, c⟩, A, ad, cs, D, cells, slots, Q⟩ := X
  obtain ⟨hx, hb, hown, hts, hK, hA, hR⟩ := hX
  intro H locs ls hP hS hl
  obtain ⟨v1, v2, v3, v4, v5, v6, v7⟩ := hV
  obtain ⟨r1, r2, r3, r4⟩ := hR
  have hT : GoodIn gtb (wsV own idx C y (Cond.code y cb nl ret :: gtb)) := by
    intro w hw
    rcases List.mem_append.mp (show w ∈ _ ++ _ from hw) with h | h
    · refine good_sub (ws := [.methodLink own idx y, .instanceMethod y, .selects C y y, .initialized C]) ?_ w h
      intro q hq
      simp only [List.mem_cons, List.not_mem_nil, or_false] at hq
      rcases hq with rfl | rfl | rfl | rfl
      · exact v1
      · exact v2
      · exact v3
      · exact v4
    · exact cons_good v5 w h
  refine va_callv (va_runV (As := As) (rest := st) ⟨hx, hb, rfl, hown, hts⟩ hM (cwV n hts hT rfl rfl rfl ⟨v6, v7⟩ (by rw [r1, r2]; exact hR2)) ⟨PcM_blind, va_recv hK hP hci (wld_get hl0), fun U hU hW => ⟨rfl, by rw [hU]; exact hP, va_K.moved hW.alike hK, hA.1⟩⟩ rfl hn hl.2.1 hst (lv_room hcat) hd ⟨r3, r4⟩) hS (fun q _ h => hA.2 q h) hA.2 (fun u t H1 locs1 ht hvm hp hB hz1 hk1 hS1 => kk u hp H1 locs1 ls (by unfold BM at hB; rw [ht] at hB; exact hB) hS1 hl)
theorem r_cSv_g {X : CT} {own : String} {cc : ByteArray} {f lo : Nat} {M : Mem} {pc : Nat} {L : List (Option Value)} {st st0 : List Value} (hX : okX X own cc f lo) {idx nl n f' lo' : Nat} {y : MethodName} {cb : ByteArray} {ret : Option FieldType} {As : List Value} {post : Mem → Prop} (hV : FS own idx y cb nl ret n) (hR2 : f' + 1 ≤ f ∧ 8 + (nl + 11) + lo' ≤ lo)
    (hM : CtV (lnX X) (dgX X) (csX X) (adX X) y cb nl ret f' lo' As M post) (hn : As.length = n) (hst : st0 = As.reverse ++ st) (hcat : (st.map fun v => v.category).sum ≤ 8) (hd : decode cc pc = .ok (.invokestatic idx, 3)) (kk : ∀ (M' : Mem), post M' → Z X M' (pc + 3) L st) : Z X M pc L st0 := by
  obtain ⟨⟨p, l, e, R, s, m, args, below, meth, c⟩, A, ad, cs, D, cells, slots, Q⟩ := X
  obtain ⟨hx, hb, hown, hts, hK, hA, hR⟩ := hX
  intro H locs ls hP hS hl
  obtain ⟨v1, v2, v3, v4, v5⟩ := hV
  obtain ⟨r1, r2, r3, r4⟩ := hR
  refine va_callv (va_runS (As := As) (rest := st) ⟨hx, hb, rfl, hown, hts⟩ hM ⟨callB_of n hts (cons_good v4) rfl rfl rfl (hts _ v3) (hts _ v1) v5 (by rw [r1, r2]; exact hR2), hts _ v2⟩ ⟨PcM_blind, fun U hU hW => ⟨rfl, by rw [hU]; exact hP, va_K.moved hW.alike hK, hA.1⟩⟩ rfl hn hl.2.1 hst (lv_room hcat) hd ⟨r3, r4⟩) hS (fun q _ h => hA.2 q h) hA.2 (fun u t H1 locs1 ht hvm hp hB hz1 hk1 hS1 => kk u hp H1 locs1 ls (by unfold BM at hB; rw [ht] at hB; exact hB) hS1 hl)
theorem r_cVv0 {X : CT} {own : String} {cc : ByteArray} {f lo : Nat} {M : Mem} {pc : Nat} {L : List (Option Value)} {st : List Value} (hX : okX X own cc f lo) {k ci N idx nl f' lo' : Nat} {T : u_T} {C : String} {y : MethodName} {cb : ByteArray} {ret : Option FieldType} {fl : List (Option Nat)} {post : Mem → Prop} (hV : FV own idx C y cb nl ret 0) (hl0 : lyl[k]? = some (.inl (ci, fl))) (hci : vwCl[ci]? = some (C, T, N)) (hR2 : f' + 1 ≤ f ∧ 8 + (nl + 11) + lo' ≤ lo) (hM : CtV (lnX X) (dgX X) (csX X) (adX X) y cb nl ret f' lo' (.ref (adX X k) :: []) M post) (hcat : (st.map fun v => v.category).sum ≤ 8) (hd : decode cc pc = .ok (.invokevirtual idx, 3)) (kk : ∀ (M' : Mem), post M' → Z X M' (pc + 3) L st) : Z X M pc L (.ref (adX X k) :: st) := r_cVv_g (As := []) hX hV hl0 hci hR2 hM rfl rfl hcat hd kk
theorem r_cVv1 {X : CT} {own : String} {cc : ByteArray} {f lo : Nat} {M : Mem} {pc : Nat} {L : List (Option Value)} {st : List Value} (hX : okX X own cc f lo) {k ci N idx nl f' lo' : Nat} {T : u_T} {C : String} {y : MethodName} {cb : ByteArray} {ret : Option FieldType} {fl : List (Option Nat)} {v1 : Value} {post : Mem → Prop} (hV : FV own idx C y cb nl ret 1) (hl0 : lyl[k]? = some (.inl (ci, fl))) (hci : vwCl[ci]? = some (C, T, N)) (hR2 : f' + 1 ≤ f ∧ 8 + (nl + 11) + lo' ≤ lo) (hM : CtV (lnX X) (dgX X) (csX X) (adX X) y cb nl ret f' lo' (.ref (adX X k) :: [v1]) M post) (hcat : (st.map fun v => v.category).sum ≤ 8) (hd : decode cc pc = .ok (.invokevirtual idx, 3)) (kk : ∀ (M' : Mem), post M' → Z X M' (pc + 3) L st) : Z X M pc L (v1 :: .ref (adX X k) :: st) := r_cVv_g (As := [v1]) hX hV hl0 hci hR2 hM rfl rfl hcat hd kk
theorem r_cSv1 {X : CT} {own : String} {cc : ByteArray} {f lo : Nat} {M : Mem} {pc : Nat} {L : List (Option Value)} {st : List Value} (hX : okX X own cc f lo) {idx nl f' lo' : Nat} {y : MethodName} {cb : ByteArray} {ret : Option FieldType} {v1 : Value} {post : Mem → Prop} (hV : FS own idx y cb nl ret 1) (hR2 : f' + 1 ≤ f ∧ 8 + (nl + 11) + lo' ≤ lo) (hM : CtV (lnX X) (dgX X) (csX X) (adX X) y cb nl ret f' lo' [v1] M post) (hcat : (st.map fun v => v.category).sum ≤ 8) (hd : decode cc pc = .ok (.invokestatic idx, 3)) (kk : ∀ (M' : Mem), post M' → Z X M' (pc + 3) L st) : Z X M pc L (v1 :: st) := r_cSv_g (As := [v1]) hX hV hR2 hM rfl rfl hcat hd kk
theorem r_cVv2 {X : CT} {own : String} {cc : ByteArray} {f lo : Nat} {M : Mem} {pc : Nat} {L : List (Option Value)} {st : List Value} (hX : okX X own cc f lo) {k ci N idx nl f' lo' : Nat} {T : u_T} {C : String} {y : MethodName} {cb : ByteArray} {ret : Option FieldType} {fl : List (Option Nat)} {v1 v2 : Value} {post : Mem → Prop} (hV : FV own idx C y cb nl ret 2) (hl0 : lyl[k]? = some (.inl (ci, fl))) (hci : vwCl[ci]? = some (C, T, N)) (hR2 : f' + 1 ≤ f ∧ 8 + (nl + 11) + lo' ≤ lo) (hM : CtV (lnX X) (dgX X) (csX X) (adX X) y cb nl ret f' lo' (.ref (adX X k) :: [v1, v2]) M post) (hcat : (st.map fun v => v.category).sum ≤ 8) (hd : decode cc pc = .ok (.invokevirtual idx, 3)) (kk : ∀ (M' : Mem), post M' → Z X M' (pc + 3) L st) : Z X M pc L (v2 :: v1 :: .ref (adX X k) :: st) := r_cVv_g (As := [v1, v2]) hX hV hl0 hci hR2 hM rfl rfl hcat hd kk
theorem r_cSv2 {X : CT} {own : String} {cc : ByteArray} {f lo : Nat} {M : Mem} {pc : Nat} {L : List (Option Value)} {st : List Value} (hX : okX X own cc f lo) {idx nl f' lo' : Nat} {y : MethodName} {cb : ByteArray} {ret : Option FieldType} {v1 v2 : Value} {post : Mem → Prop} (hV : FS own idx y cb nl ret 2) (hR2 : f' + 1 ≤ f ∧ 8 + (nl + 11) + lo' ≤ lo) (hM : CtV (lnX X) (dgX X) (csX X) (adX X) y cb nl ret f' lo' [v1, v2] M post) (hcat : (st.map fun v => v.category).sum ≤ 8) (hd : decode cc pc = .ok (.invokestatic idx, 3)) (kk : ∀ (M' : Mem), post M' → Z X M' (pc + 3) L st) : Z X M pc L (v2 :: v1 :: st) := r_cSv_g (As := [v1, v2]) hX hV hR2 hM rfl rfl hcat hd kk
theorem r_cVv3 {X : CT} {own : String} {cc : ByteArray} {f lo : Nat} {M : Mem} {pc : Nat} {L : List (Option Value)} {st : List Value} (hX : okX X own cc f lo) {k ci N idx nl f' lo' : Nat} {T : u_T} {C : String} {y : MethodName} {cb : ByteArray} {ret : Option FieldType} {fl : List (Option Nat)} {v1 v2 v3 : Value} {post : Mem → Prop} (hV : FV own idx C y cb nl ret 3) (hl0 : lyl[k]? = some (.inl (ci, fl))) (hci : vwCl[ci]? = some (C, T, N)) (hR2 : f' + 1 ≤ f ∧ 8 + (nl + 11) + lo' ≤ lo) (hM : CtV (lnX X) (dgX X) (csX X) (adX X) y cb nl ret f' lo' (.ref (adX X k) :: [v1, v2, v3]) M post) (hcat : (st.map fun v => v.category).sum ≤ 8) (hd : decode cc pc = .ok (.invokevirtual idx, 3)) (kk : ∀ (M' : Mem), post M' → Z X M' (pc + 3) L st) : Z X M pc L (v3 :: v2 :: v1 :: .ref (adX X k) :: st) := r_cVv_g (As := [v1, v2, v3]) hX hV hl0 hci hR2 hM rfl rfl hcat hd kk
theorem r_cSv3 {X : CT} {own : String} {cc : ByteArray} {f lo : Nat} {M : Mem} {pc : Nat} {L : List (Option Value)} {st : List Value} (hX : okX X own cc f lo) {idx nl f' lo' : Nat} {y : MethodName} {cb : ByteArray} {ret : Option FieldType} {v1 v2 v3 : Value} {post : Mem → Prop} (hV : FS own idx y cb nl ret 3) (hR2 : f' + 1 ≤ f ∧ 8 + (nl + 11) + lo' ≤ lo) (hM : CtV (lnX X) (dgX X) (csX X) (adX X) y cb nl ret f' lo' [v1, v2, v3] M post) (hcat : (st.map fun v => v.category).sum ≤ 8) (hd : decode cc pc = .ok (.invokestatic idx, 3)) (kk : ∀ (M' : Mem), post M' → Z X M' (pc + 3) L st) : Z X M pc L (v3 :: v2 :: v1 :: st) := r_cSv_g (As := [v1, v2, v3]) hX hV hR2 hM rfl rfl hcat hd kk
theorem r_cVv4 {X : CT} {own : String} {cc : ByteArray} {f lo : Nat} {M : Mem} {pc : Nat} {L : List (Option Value)} {st : List Value} (hX : okX X own cc f lo) {k ci N idx nl f' lo' : Nat} {T : u_T} {C : String} {y : MethodName} {cb : ByteArray} {ret : Option FieldType} {fl : List (Option Nat)} {v1 v2 v3 v4 : Value} {post : Mem → Prop} (hV : FV own idx C y cb nl ret 4) (hl0 : lyl[k]? = some (.inl (ci, fl))) (hci : vwCl[ci]? = some (C, T, N)) (hR2 : f' + 1 ≤ f ∧ 8 + (nl + 11) + lo' ≤ lo) (hM : CtV (lnX X) (dgX X) (csX X) (adX X) y cb nl ret f' lo' (.ref (adX X k) :: [v1, v2, v3, v4]) M post) (hcat : (st.map fun v => v.category).sum ≤ 8) (hd : decode cc pc = .ok (.invokevirtual idx, 3)) (kk : ∀ (M' : Mem), post M' → Z X M' (pc + 3) L st) : Z X M pc L (v4 :: v3 :: v2 :: v1 :: .ref (adX X k) :: st) := r_cVv_g (As := [v1, v2, v3, v4]) hX hV hl0 hci hR2 hM rfl rfl hcat hd kk
theorem r_cSv4 {X : CT} {own : String} {cc : ByteArray} {f lo : Nat} {M : Mem} {pc : Nat} {L : List (Option Value)} {st : List Value} (hX : okX X own cc f lo) {idx nl f' lo' : Nat} {y : MethodName} {cb : ByteArray} {ret : Option FieldType} {v1 v2 v3 v4 : Value} {post : Mem → Prop} (hV : FS own idx y cb nl ret 4) (hR2 : f' + 1 ≤ f ∧ 8 + (nl + 11) + lo' ≤ lo) (hM : CtV (lnX X) (dgX X) (csX X) (adX X) y cb nl ret f' lo' [v1, v2, v3, v4] M post) (hcat : (st.map fun v => v.category).sum ≤ 8) (hd : decode cc pc = .ok (.invokestatic idx, 3)) (kk : ∀ (M' : Mem), post M' → Z X M' (pc + 3) L st) : Z X M pc L (v4 :: v3 :: v2 :: v1 :: st) := r_cSv_g (As := [v1, v2, v3, v4]) hX hV hR2 hM rfl rfl hcat hd kk
theorem r_cVv5 {X : CT} {own : String} {cc : ByteArray} {f lo : Nat} {M : Mem} {pc : Nat} {L : List (Option Value)} {st : List Value} (hX : okX X own cc f lo) {k ci N idx nl f' lo' : Nat} {T : u_T} {C : String} {y : MethodName} {cb : ByteArray} {ret : Option FieldType} {fl : List (Option Nat)} {v1 v2 v3 v4 v5 : Value} {post : Mem → Prop} (hV : FV own idx C y cb nl ret 5) (hl0 : lyl[k]? = some (.inl (ci, fl))) (hci : vwCl[ci]? = some (C, T, N)) (hR2 : f' + 1 ≤ f ∧ 8 + (nl + 11) + lo' ≤ lo) (hM : CtV (lnX X) (dgX X) (csX X) (adX X) y cb nl ret f' lo' (.ref (adX X k) :: [v1, v2, v3, v4, v5]) M post) (hcat : (st.map fun v => v.category).sum ≤ 8) (hd : decode cc pc = .ok (.invokevirtual idx, 3)) (kk : ∀ (M' : Mem), post M' → Z X M' (pc + 3) L st) : Z X M pc L (v5 :: v4 :: v3 :: v2 :: v1 :: .ref (adX X k) :: st) := r_cVv_g (As := [v1, v2, v3, v4, v5]) hX hV hl0 hci hR2 hM rfl rfl hcat hd kk
theorem r_cSv5 {X : CT} {own : String} {cc : ByteArray} {f lo : Nat} {M : Mem} {pc : Nat} {L : List (Option Value)} {st : List Value} (hX : okX X own cc f lo) {idx nl f' lo' : Nat} {y : MethodName} {cb : ByteArray} {ret : Option FieldType} {v1 v2 v3 v4 v5 : Value} {post : Mem → Prop} (hV : FS own idx y cb nl ret 5) (hR2 : f' + 1 ≤ f ∧ 8 + (nl + 11) + lo' ≤ lo) (hM : CtV (lnX X) (dgX X) (csX X) (adX X) y cb nl ret f' lo' [v1, v2, v3, v4, v5] M post) (hcat : (st.map fun v => v.category).sum ≤ 8) (hd : decode cc pc = .ok (.invokestatic idx, 3)) (kk : ∀ (M' : Mem), post M' → Z X M' (pc + 3) L st) : Z X M pc L (v5 :: v4 :: v3 :: v2 :: v1 :: st) := r_cSv_g (As := [v1, v2, v3, v4, v5]) hX hV hR2 hM rfl rfl hcat hd kk
/-! rows of a kind: three Notes, four Sheets -/
def isN (c : Nat) : Prop := c = 5 ∨ c = 9 ∨ c = 13
def isS (c : Nat) : Prop := c = 26 ∨ c = 27 ∨ c = 28 ∨ c = 29
theorem isN.l0 {c : Nat} (h : isN c) : lyl[c]? = some (.inl (2, [some (c + 1), some (c + 2), some (c + 3), none])) := by rcases h with rfl | rfl | rfl <;> rfl
theorem isN.l1 {c : Nat} (h : isN c) : lyl[c + 1]? = some (.inr (0, 8)) := by rcases h with rfl | rfl | rfl <;> rfl
theorem isN.l2 {c : Nat} (h : isN c) : lyl[c + 2]? = some (.inr (0, 8)) := by rcases h with rfl | rfl | rfl <;> rfl
theorem isN.l3 {c : Nat} (h : isN c) : lyl[c + 3]? = some (.inr (0, 8)) := by rcases h with rfl | rfl | rfl <;> rfl
theorem isS.l0 {c : Nat} (h : isS c) : lyl[c]? = some (.inl (4, [some (c + 4), none, none])) := by rcases h with rfl | rfl | rfl | rfl <;> rfl
theorem isS.l4 {c : Nat} (h : isS c) : lyl[c + 4]? = some (.inr (0, 60)) := by rcases h with rfl | rfl | rfl | rfl <;> rfl
theorem isS.of {i : Int32} (h : vp_in i 4) : isS (26 + i.toNatClampNeg) := by
  have h1 : i.toNatClampNeg < 4 := Nat.not_le.mp fun q => h (Or.inr q)
  unfold isS
  omega
