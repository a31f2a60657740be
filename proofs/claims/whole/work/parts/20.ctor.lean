/-! worlds that grow: the constructors -/
theorem nb8 {N b : Nat} (h : N ≤ 1000) (hb : b ≤ 8) : N * b ≤ 536870912 := Nat.le_trans (Nat.mul_le_mul h hb) (by decide)
abbrev CY : Type := (Program × Launch × Env × Room × State × MethodId × Array Value × List Frame × Method × Code) × ((Nat → Prop) × CS3 × va_G × (State → Prop))
def lnY (C : CY) : Launch := C.1.2.1
def csY (C : CY) : CS3 := C.2.2.1
def dgY (C : CY) : va_G := C.2.2.2.1
def Y (C : CY) (ws : va_W) (cells slots : Nat) (pc : Nat) (L : List (Option Value)) (st : List Value) : Prop := match C with
  | ((p, l, e, R, s, m, args, below, meth, c), (A, _, D, Q)) => ∀ (H : Heap) (locs : List Loc) (ls : Array Slot), va_P D vwCl ws H → va_D A ws → va_S A s.heap H locs → lh ls c.maxLocals L → W p l e R s m args below meth c H locs cells slots Q (F0 m pc ls st)
def okY (C : CY) (own : String) (cc : ByteArray) (f lo mc ms : Nat) : Prop := match C with
  | ((p, _, _, R, s, m, args, _, _, c), (A, cs, D, _)) => p.tables.exec = Jvm.exec ∧ c.code = cc ∧ s.vm.findClass own = some m.cls ∧ (∀ w ∈ gtb, w.before args s = true) ∧ va_K D vwCl (tyS cs) s ∧ (∀ q, s.heap.size ≤ q → A q) ∧ va_AO "ChairGrudge$Sheet" s ∧ (R.frames = f ∧ R.locals = lo ∧ R.cells = mc ∧ R.slots = ms)
def inY (C : CY) : Prop := C.1.2.2.2.2.2.2.2.2.1.name = "<init>"
def RetY (C : CY) (cb : ByteArray) (ws : va_W) (cells slots : Nat) : Prop := match C with
  | ((p, l, e, R, s, m, args, below, meth, c), (A, _, D, Q)) => ∀ (pc : Nat) (ls : Array Slot) (H : Heap) (locs : List Loc), decode cb pc = .ok (.return_, 1) → va_P D vwCl ws H → va_D A ws → va_S A s.heap H locs → W p l e R s m args below meth c H locs cells slots Q (F0 m pc ls [])

theorem y_iconst {C : CY} {own : String} {cc : ByteArray} {f lo mc ms : Nat} {ws : va_W} {cells slots : Nat} {pc : Nat} {L : List (Option Value)} {st : List Value} (hC : okY C own cc f lo mc ms) {n : Int} {v : Int32} (hd : decode cc pc = .ok (.iconst n, 1)) (hv : Int32.ofInt n = v) (k : Y C ws cells slots (pc + 1) L (.int v :: st)) : Y C ws cells slots pc L (st) := by
  obtain ⟨⟨p, l, e, R, s, m, args, below, meth, c⟩, A, cs, D, Q⟩ := C
  obtain ⟨hx, hb, hown, hts, hK, hA, hAO, hR1, hR2, hR3, hR4⟩ := hC
  intro H locs ls hP hD hS hl
  exact lv_iconst hx hb hd hv (k H locs ls hP hD hS hl)
theorem y_bipush {C : CY} {own : String} {cc : ByteArray} {f lo mc ms : Nat} {ws : va_W} {cells slots : Nat} {pc : Nat} {L : List (Option Value)} {st : List Value} (hC : okY C own cc f lo mc ms) {n : Int} {v : Int32} (hd : decode cc pc = .ok (.bipush n, 2)) (hv : (Int8.ofInt n).toInt32 = v) (k : Y C ws cells slots (pc + 2) L (.int v :: st)) : Y C ws cells slots pc L (st) := by
  obtain ⟨⟨p, l, e, R, s, m, args, below, meth, c⟩, A, cs, D, Q⟩ := C
  obtain ⟨hx, hb, hown, hts, hK, hA, hAO, hR1, hR2, hR3, hR4⟩ := hC
  intro H locs ls hP hD hS hl
  exact lv_bipush hx hb hd hv (k H locs ls hP hD hS hl)
theorem y_sipush {C : CY} {own : String} {cc : ByteArray} {f lo mc ms : Nat} {ws : va_W} {cells slots : Nat} {pc : Nat} {L : List (Option Value)} {st : List Value} (hC : okY C own cc f lo mc ms) {n : Int} {v : Int32} (hd : decode cc pc = .ok (.sipush n, 3)) (hv : (Int16.ofInt n).toInt32 = v) (k : Y C ws cells slots (pc + 3) L (.int v :: st)) : Y C ws cells slots pc L (st) := by
  obtain ⟨⟨p, l, e, R, s, m, args, below, meth, c⟩, A, cs, D, Q⟩ := C
  obtain ⟨hx, hb, hown, hts, hK, hA, hAO, hR1, hR2, hR3, hR4⟩ := hC
  intro H locs ls hP hD hS hl
  exact lv_sipush hx hb hd hv (k H locs ls hP hD hS hl)
theorem y_iload_n {C : CY} {own : String} {cc : ByteArray} {f lo mc ms : Nat} {ws : va_W} {cells slots : Nat} {pc : Nat} {L : List (Option Value)} {st : List Value} (hC : okY C own cc f lo mc ms) {k : Fin 4} {i : Nat} {x : Int32} (hd : decode cc pc = .ok (.iload_n k, 1)) (hi : (k : Nat) = i) (hL : L[i]? = some (some (.int x))) (k : Y C ws cells slots (pc + 1) L (.int x :: st)) : Y C ws cells slots pc L (st) := by
  obtain ⟨⟨p, l, e, R, s, m, args, below, meth, c⟩, A, cs, D, Q⟩ := C
  obtain ⟨hx, hb, hown, hts, hK, hA, hAO, hR1, hR2, hR3, hR4⟩ := hC
  intro H locs ls hP hD hS hl
  exact lv_iload_n hx hb hd hi (hl.2.2.2 _ _ hL) (k H locs ls hP hD hS hl)
theorem y_istore_n {C : CY} {own : String} {cc : ByteArray} {f lo mc ms : Nat} {ws : va_W} {cells slots : Nat} {pc : Nat} {L : List (Option Value)} {st : List Value} (hC : okY C own cc f lo mc ms) {k : Fin 4} {i : Nat} {x : Int32} {L' : List (Option Value)} (hd : decode cc pc = .ok (.istore_n k, 1)) (hi : (k : Nat) = i) (hn : i < L.length) (hf : lfr L i = true) (hL : L.set i (some (.int x)) = L') (k : Y C ws cells slots (pc + 1) L' (st)) : Y C ws cells slots pc L (.int x :: st) := by
  obtain ⟨⟨p, l, e, R, s, m, args, below, meth, c⟩, A, cs, D, Q⟩ := C
  obtain ⟨hx, hb, hown, hts, hK, hA, hAO, hR1, hR2, hR3, hR4⟩ := hC
  intro H locs ls hP hD hS hl
  subst hL
  exact lv_istore_n hx hb hd hi hl.has (by rw [← hl.1]; exact hn) rfl (fun ls2 h2 => k H locs ls2 hP hD hS (hl.set1 hf h2))
theorem y_aload_n {C : CY} {own : String} {cc : ByteArray} {f lo mc ms : Nat} {ws : va_W} {cells slots : Nat} {pc : Nat} {L : List (Option Value)} {st : List Value} (hC : okY C own cc f lo mc ms) {k : Fin 4} {i : Nat} {x : Nat} (hd : decode cc pc = .ok (.aload_n k, 1)) (hi : (k : Nat) = i) (hL : L[i]? = some (some (.ref x))) (k : Y C ws cells slots (pc + 1) L (.ref x :: st)) : Y C ws cells slots pc L (st) := by
  obtain ⟨⟨p, l, e, R, s, m, args, below, meth, c⟩, A, cs, D, Q⟩ := C
  obtain ⟨hx, hb, hown, hts, hK, hA, hAO, hR1, hR2, hR3, hR4⟩ := hC
  intro H locs ls hP hD hS hl
  exact lv_aload_n hx hb hd hi (hl.2.2.2 _ _ hL) (k H locs ls hP hD hS hl)
theorem y_astore_n {C : CY} {own : String} {cc : ByteArray} {f lo mc ms : Nat} {ws : va_W} {cells slots : Nat} {pc : Nat} {L : List (Option Value)} {st : List Value} (hC : okY C own cc f lo mc ms) {k : Fin 4} {i : Nat} {x : Nat} {L' : List (Option Value)} (hd : decode cc pc = .ok (.astore_n k, 1)) (hi : (k : Nat) = i) (hn : i < L.length) (hf : lfr L i = true) (hL : L.set i (some (.ref x)) = L') (k : Y C ws cells slots (pc + 1) L' (st)) : Y C ws cells slots pc L (.ref x :: st) := by
  obtain ⟨⟨p, l, e, R, s, m, args, below, meth, c⟩, A, cs, D, Q⟩ := C
  obtain ⟨hx, hb, hown, hts, hK, hA, hAO, hR1, hR2, hR3, hR4⟩ := hC
  intro H locs ls hP hD hS hl
  subst hL
  exact lv_astore_n hx hb hd hi hl.has (by rw [← hl.1]; exact hn) rfl (fun ls2 h2 => k H locs ls2 hP hD hS (hl.set1 hf h2))
theorem y_iinc {C : CY} {own : String} {cc : ByteArray} {f lo mc ms : Nat} {ws : va_W} {cells slots : Nat} {pc : Nat} {L : List (Option Value)} {st : List Value} (hC : okY C own cc f lo mc ms) {i : Nat} {n : Int} {x v : Int32} {L' : List (Option Value)} (hd : decode cc pc = .ok (.iinc i n, 3)) (hL0 : L[i]? = some (some (.int x))) (hv : x + Int32.ofInt n = v) (hf : lfr L i = true) (hL : L.set i (some (.int v)) = L') (k : Y C ws cells slots (pc + 3) L' (st)) : Y C ws cells slots pc L (st) := by
  obtain ⟨⟨p, l, e, R, s, m, args, below, meth, c⟩, A, cs, D, Q⟩ := C
  obtain ⟨hx, hb, hown, hts, hK, hA, hAO, hR1, hR2, hR3, hR4⟩ := hC
  intro H locs ls hP hD hS hl
  subst hL
  obtain ⟨kk, hk⟩ := List.getElem?_of_mem (lA_mem.mpr hL0)
  exact lv_iinc hx hb hd hl.has hk hv (by rw [← hl.1]; exact (List.getElem?_eq_some_iff.mp hL0).1) rfl (fun ls2 h2 => k H locs ls2 hP hD hS (hl.set1 hf h2))
theorem y_dup {C : CY} {own : String} {cc : ByteArray} {f lo mc ms : Nat} {ws : va_W} {cells slots : Nat} {pc : Nat} {L : List (Option Value)} {st : List Value} (hC : okY C own cc f lo mc ms) {va : Value} (hd : decode cc pc = .ok (.dup, 1)) (hva : va.category = 1) (k : Y C ws cells slots (pc + 1) L (va :: va :: st)) : Y C ws cells slots pc L (va :: st) := by
  obtain ⟨⟨p, l, e, R, s, m, args, below, meth, c⟩, A, cs, D, Q⟩ := C
  obtain ⟨hx, hb, hown, hts, hK, hA, hAO, hR1, hR2, hR3, hR4⟩ := hC
  intro H locs ls hP hD hS hl
  exact lv_dup hx hb hd hva (k H locs ls hP hD hS hl)
theorem y_icmp_ge {C : CY} {own : String} {cc : ByteArray} {f lo mc ms : Nat} {ws : va_W} {cells slots : Nat} {pc : Nat} {L : List (Option Value)} {st : List Value} (hC : okY C own cc f lo mc ms) {x y : Int32} {off : Int} (t : Nat) (hd : decode cc pc = .ok (.if_icmp .ge off, 3)) (ht : (pc : Int) + off = (t : Int)) (kt : y ≤ x → Y C ws cells slots t L st) (kf : ¬ y ≤ x → Y C ws cells slots (pc + 3) L st) : Y C ws cells slots pc L (.int y :: .int x :: st) := by
  obtain ⟨⟨p, l, e, R, s, m, args, below, meth, c⟩, A, cs, D, Q⟩ := C
  obtain ⟨hx, hb, hown, hts, hK, hA, hAO, hR1, hR2, hR3, hR4⟩ := hC
  intro H locs ls hP hD hS hl
  exact lv_icmp_ge hx hb hd ht (fun q => kt q H locs ls hP hD hS hl) (fun q => kf q H locs ls hP hD hS hl)
theorem y_goto {C : CY} {own : String} {cc : ByteArray} {f lo mc ms : Nat} {ws : va_W} {cells slots : Nat} {pc : Nat} {L : List (Option Value)} {st : List Value} (hC : okY C own cc f lo mc ms) {off : Int} (t : Nat) (hd : decode cc pc = .ok (.goto off, 3)) (ht : (pc : Int) + off = (t : Int)) (k : Y C ws cells slots t L st) : Y C ws cells slots pc L (st) := by
  obtain ⟨⟨p, l, e, R, s, m, args, below, meth, c⟩, A, cs, D, Q⟩ := C
  obtain ⟨hx, hb, hown, hts, hK, hA, hAO, hR1, hR2, hR3, hR4⟩ := hC
  intro H locs ls hP hD hS hl
  exact lv_goto hx hb hd ht (k H locs ls hP hD hS hl)
theorem y_objInit {C : CY} {own : String} {cc : ByteArray} {f lo mc ms : Nat} {ws : va_W} {cells slots : Nat} {pc : Nat} {L : List (Option Value)} {st : List Value} (hC : okY C own cc f lo mc ms) {a idx : Nat} (hw : Cond.methodLink own idx objectInit ∈ gtb ∧ Cond.instanceMethod objectInit ∈ gtb ∧ Cond.code objectInit ⟨#[0xb1]⟩ 1 none ∈ gtb) (hfr : 1 ≤ f) (hlo : (st.map fun v => v.category).sum + 12 ≤ lo) (hd : decode cc pc = .ok (.invokespecial idx, 3)) (k : Y C ws cells slots (pc + 3) L (st)) : Y C ws cells slots pc L (.ref a :: st) := by
  obtain ⟨⟨p, l, e, R, s, m, args, below, meth, c⟩, A, cs, D, Q⟩ := C
  obtain ⟨hx, hb, hown, hts, hK, hA, hAO, hR1, hR2, hR3, hR4⟩ := hC
  intro H locs ls hP hD hS hl
  refine W.objInit hx hb hown (hts _ hw.1) (hts _ hw.2.1) (hts _ hw.2.2) rfl hl.2.1 rfl hd (by rw [hR1]; exact hfr) (by show 2 * 0 + _ + 12 ≤ _; rw [hR2]; omega) ?_
  exact W.eq (g2 := F0 m (pc + 3) ls st) rfl (k H locs ls hP hD hS hl)
def FNw (own : String) (idx ci N : Nat) (fs : List Value) : Prop := ∃ (C : String) (T : u_T) (ty : Nat → FieldType), vwCl[ci]? = some (C, T, N) ∧ (∀ w ∈ u_ws C T N, w ∈ gtb) ∧ (∀ k, k < N → parseFieldDescriptor (T k).2.2.1 = some (ty k)) ∧ Cond.classLink own idx C ∈ gtb ∧ Cond.instantiable C N ∈ gtb ∧ Cond.initialized C ∈ gtb ∧ ∀ j, j < N → defaultValue (ty j) = vp_V fs j
def FPF (own : String) (idx ci j : Nat) (ty : FieldType) : Prop := ∃ (C : String) (T : u_T) (N : Nat) (ty0 : Nat → FieldType), vwCl[ci]? = some (C, T, N) ∧ (∀ w ∈ u_ws C T N, w ∈ gtb) ∧ j < N ∧ Cond.fieldLink own idx C (T j).2.1 (T j).2.2.1 ∈ gtb ∧ (T j).1 = C ∧ C = own ∧ (∀ k, k < N → parseFieldDescriptor (T k).2.2.1 = some (ty0 k)) ∧ (∀ a, a < N → ∀ b, b < N → a ≠ b → (T a).2.1 ≠ (T b).2.1) ∧ (T j).2.2.2 = true ∧ parseFieldDescriptor (T j).2.2.1 = some ty
theorem y_new {C : CY} {own : String} {cc : ByteArray} {f lo mc ms : Nat} {ws : va_W} {cells slots : Nat} {pc : Nat} {L : List (Option Value)} {st : List Value} (hC : okY C own cc f lo mc ms) {idx ci N : Nat} {fs : List Value} (hw : FNw own idx ci N fs) (hc : cells + 1 ≤ mc) (hs : slots + N ≤ ms) (hd : decode cc pc = .ok (.new idx, 3)) (k : ∀ q, Y C (ws ++ [(q, .inr (ci, fs))]) (cells + 1) (slots + N) (pc + 3) L (.ref q :: st)) : Y C ws cells slots pc L (st) := by
  obtain ⟨⟨p, l, e, R, s, m, args, below, meth, c⟩, A, cs, D, Q⟩ := C
  obtain ⟨hx, hb, hown, hts, hK, hA, hAO, hR1, hR2, hR3, hR4⟩ := hC
  intro H locs ls hP hD hS hl
  obtain ⟨C', T, ty, h1, h2, h3, h4, h5, h6, h7⟩ := hw
  exact va_new hx hb hts h2 ty h3 hown (hts _ h4) (hts _ h5) (hts _ h6) hK hP hD hS hA h1 h7 (by rw [hR3]; exact hc) (by rw [hR4]; exact hs) hd (fun q H1 hP1 hD1 hS1 => k q H1 locs ls hP1 hD1 hS1 hl)
theorem y_newaI {C : CY} {own : String} {cc : ByteArray} {f lo mc ms : Nat} {ws : va_W} {cells slots : Nat} {pc : Nat} {L : List (Option Value)} {st : List Value} (hC : okY C own cc f lo mc ms) {n : Int32} {N : Nat} (hw : Cond.arrayClass .int ∈ gtb) (hn : ¬ n < 0) (hN : n.toNatClampNeg = N) (hN2 : N ≤ 1000) (hc : cells + 1 ≤ mc) (hs : slots + N ≤ ms) (hd : decode cc pc = .ok (.newarray .int, 2)) (k : ∀ q, Y C (ws ++ [(q, .inl ((csY C).1, N, .inl (fun _ => 0)))]) (cells + 1) (slots + N) (pc + 2) L (.ref q :: st)) : Y C ws cells slots pc L (.int n :: st) := by
  obtain ⟨⟨p, l, e, R, s, m, args, below, meth, c⟩, A, cs, D, Q⟩ := C
  obtain ⟨hx, hb, hown, hts, hK, hA, hAO, hR1, hR2, hR3, hR4⟩ := hC
  intro H locs ls hP hD hS hl
  refine va_newa (atype := .int) (ty := .int) (a0 := (N, .inl (fun _ => 0))) hx hb (hts _ hw) rfl hK hP hD hS hA (fun cA => rfl) hn hN (nb8 hN2 (show componentBytes .int ≤ 8 by decide)) (by rw [hR3]; exact hc) (by rw [hR4]; exact hs) hd (fun q cA H1 hK1 hP1 hD1 hS1 => ?_)
  have e1 : s.vm.findClass ("[" ++ (FieldType.int).toString) = some cA := (hK1.2 3 (cA, .int) rfl).2
  have e2 : s.vm.findClass ("[" ++ (FieldType.int).toString) = some cs.1 := (hK.2 0 (cs.1, .int) rfl).2
  have e3 : cA = cs.1 := Option.some.inj (e1.symm.trans e2)
  subst e3
  exact k q H1 locs ls hP1 hD1 hS1 hl
theorem y_newaZ {C : CY} {own : String} {cc : ByteArray} {f lo mc ms : Nat} {ws : va_W} {cells slots : Nat} {pc : Nat} {L : List (Option Value)} {st : List Value} (hC : okY C own cc f lo mc ms) {n : Int32} {N : Nat} (hw : Cond.arrayClass .boolean ∈ gtb) (hn : ¬ n < 0) (hN : n.toNatClampNeg = N) (hN2 : N ≤ 1000) (hc : cells + 1 ≤ mc) (hs : slots + N ≤ ms) (hd : decode cc pc = .ok (.newarray .boolean, 2)) (k : ∀ q, Y C (ws ++ [(q, .inl ((csY C).2.1, N, .inl (fun _ => 0)))]) (cells + 1) (slots + N) (pc + 2) L (.ref q :: st)) : Y C ws cells slots pc L (.int n :: st) := by
  obtain ⟨⟨p, l, e, R, s, m, args, below, meth, c⟩, A, cs, D, Q⟩ := C
  obtain ⟨hx, hb, hown, hts, hK, hA, hAO, hR1, hR2, hR3, hR4⟩ := hC
  intro H locs ls hP hD hS hl
  refine va_newa (atype := .boolean) (ty := .boolean) (a0 := (N, .inl (fun _ => 0))) hx hb (hts _ hw) rfl hK hP hD hS hA (fun cA => rfl) hn hN (nb8 hN2 (show componentBytes .boolean ≤ 8 by decide)) (by rw [hR3]; exact hc) (by rw [hR4]; exact hs) hd (fun q cA H1 hK1 hP1 hD1 hS1 => ?_)
  have e1 : s.vm.findClass ("[" ++ (FieldType.boolean).toString) = some cA := (hK1.2 3 (cA, .boolean) rfl).2
  have e2 : s.vm.findClass ("[" ++ (FieldType.boolean).toString) = some cs.2.1 := (hK.2 1 (cs.2.1, .boolean) rfl).2
  have e3 : cA = cs.2.1 := Option.some.inj (e1.symm.trans e2)
  subst e3
  exact k q H1 locs ls hP1 hD1 hS1 hl
theorem y_newq {C : CY} {own : String} {cc : ByteArray} {f lo mc ms : Nat} {ws : va_W} {cells slots : Nat} {pc : Nat} {L : List (Option Value)} {st : List Value} (hC : okY C own cc f lo mc ms) {n : Int32} {N idx : Nat} (hw : Cond.classLink own idx "ChairGrudge$Sheet" ∈ gtb) (hn : ¬ n < 0) (hN : n.toNatClampNeg = N) (hN2 : N * 4 ≤ 536870912) (hc : cells + 1 ≤ mc) (hs : slots + N ≤ ms) (hd : decode cc pc = .ok (.anewarray idx, 3)) (k : ∀ q, Y C (ws ++ [(q, .inl ((csY C).2.2, N, .inr (.inr (.inr (.inr (fun _ => none))))))]) (cells + 1) (slots + N) (pc + 3) L (.ref q :: st)) : Y C ws cells slots pc L (.int n :: st) := by
  obtain ⟨⟨p, l, e, R, s, m, args, below, meth, c⟩, A, cs, D, Q⟩ := C
  obtain ⟨hx, hb, hown, hts, hK, hA, hAO, hR1, hR2, hR3, hR4⟩ := hC
  intro H locs ls hP hD hS hl
  refine va_newq hx hb hown (hts _ hw) hAO hK hP hD hS hA hn hN hN2 (by rw [hR3]; exact hc) (by rw [hR4]; exact hs) hd (fun q cA H1 hK1 hP1 hD1 hS1 => ?_)
  obtain ⟨kA, comp, -, -, -, e1⟩ := (hK1.2 3 (cA, .object "ChairGrudge$Sheet") rfl).2
  obtain ⟨kB, comp2, -, -, -, e2⟩ := (hK.2 2 (cs.2.2, .object "ChairGrudge$Sheet") rfl).2
  have e3 : cA = cs.2.2 := Option.some.inj (e1.symm.trans e2)
  subst e3
  exact k q H1 locs ls hP1 hD1 hS1 hl
theorem y_getf {C : CY} {own : String} {cc : ByteArray} {f lo mc ms : Nat} {ws : va_W} {cells slots : Nat} {pc : Nat} {L : List (Option Value)} {st : List Value} (hC : okY C own cc f lo mc ms) {q0 a ci j idx : Nat} {v : Value} {fs : List Value} (hg : FG own idx ci j) (he : ws[q0]? = some (a, .inr (ci, fs))) (hv : fs[j]? = some v) (hd : decode cc pc = .ok (.getfield idx, 3)) (k : Y C ws cells slots (pc + 3) L (v :: st)) : Y C ws cells slots pc L (.ref a :: st) := by
  obtain ⟨⟨p, l, e, R, s, m, args, below, meth, c⟩, A, cs, D, Q⟩ := C
  obtain ⟨hx, hb, hown, hts, hK, hA, hAO, hR1, hR2, hR3, hR4⟩ := hC
  intro H locs ls hP hD hS hl
  obtain ⟨C', T, N, h1, h2, h3, h4, h5⟩ := hg
  exact va_get hx hb hts h2 hown hK hP q0 he h1 j h3 (hts _ h4) (fun x q => by rw [h5] at q; exact q) hv hd (k H locs ls hP hD hS hl)
theorem y_putI {C : CY} {own : String} {cc : ByteArray} {f lo mc ms : Nat} {ws : va_W} {cells slots : Nat} {pc : Nat} {L : List (Option Value)} {st : List Value} (hC : okY C own cc f lo mc ms) {q0 a ci j idx : Nat} {v : Int32} {fs : List Value} {ws2 : va_W} (hg : FP own idx ci j) (he : ws[q0]? = some (a, .inr (ci, fs))) (hj : j < fs.length) (hd : decode cc pc = .ok (.putfield idx, 3)) (hws : ws.set q0 (a, .inr (ci, fs.set j (.int v))) = ws2) (k : Y C ws2 cells slots (pc + 3) L st) : Y C ws cells slots pc L (.int v :: .ref a :: st) := by
  obtain ⟨⟨p, l, e, R, s, m, args, below, meth, c⟩, A, cs, D, Q⟩ := C
  obtain ⟨hx, hb, hown, hts, hK, hA, hAO, hR1, hR2, hR3, hR4⟩ := hC
  intro H locs ls hP hD hS hl
  obtain ⟨C', T, N, ty0, h1, h2, h3, h4, h5, h6, h7, h8, h9⟩ := hg
  subst hws
  exact va_put hx hb hts h2 ty0 h6 h7 hown hK hP hD hS q0 he h1 j h3 (hts _ h4) (fun x q => by rw [h5] at q; exact q) h8 h9 rfl rfl hj hd (fun H1 locs1 hP1 hD1 hS1 => k H1 locs1 ls hP1 hD1 hS1 hl)
theorem y_putF {C : CY} {own : String} {cc : ByteArray} {f lo mc ms : Nat} {ws : va_W} {cells slots : Nat} {pc : Nat} {L : List (Option Value)} {st : List Value} (hC : okY C own cc f lo mc ms) {q0 a ci j idx b : Nat} {ty : FieldType} {fs : List Value} {ws2 : va_W} (hin : inY C) (hg : FPF own idx ci j ty) (hn : narrow ty (.ref b) = .ref b) (hfit : fits ty (.ref b) = true) (he : ws[q0]? = some (a, .inr (ci, fs))) (hj : j < fs.length) (hd : decode cc pc = .ok (.putfield idx, 3)) (hws : ws.set q0 (a, .inr (ci, fs.set j (.ref b))) = ws2) (k : Y C ws2 cells slots (pc + 3) L st) : Y C ws cells slots pc L (.ref b :: .ref a :: st) := by
  obtain ⟨⟨p, l, e, R, s, m, args, below, meth, c⟩, A, cs, D, Q⟩ := C
  obtain ⟨hx, hb, hown, hts, hK, hA, hAO, hR1, hR2, hR3, hR4⟩ := hC
  intro H locs ls hP hD hS hl
  obtain ⟨C', T, N, ty0, h1, h2, h3, h4, h5, h5b, h6, h7, h8, h9⟩ := hg
  subst hws
  exact va_putF hx hb hts h2 ty0 h6 h7 hown hK hP hD hS q0 he h1 j h3 (hts _ h4) (fun x q => by rw [h5] at q; exact q) h8 hin (by rw [h5]; exact h5b) h9 hn hfit hj hd (fun H1 locs1 hP1 hD1 hS1 => k H1 locs1 ls hP1 hD1 hS1 hl)
theorem y_iast {C : CY} {own : String} {cc : ByteArray} {f lo mc ms : Nat} {ws : va_W} {cells slots : Nat} {pc : Nat} {L : List (Option Value)} {st : List Value} (hC : okY C own cc f lo mc ms) {q0 a n : Nat} {i x : Int32} {g : Nat → Int32} {ws2 : va_W} (he : ws[q0]? = some (a, .inl ((csY C).1, n, .inl g))) (hi : vp_in i n) (hd : decode cc pc = .ok (.iastore, 1)) (hws : ws.set q0 (a, .inl ((csY C).1, n, .inl (upd g i.toNatClampNeg x))) = ws2) (k : Y C ws2 cells slots (pc + 1) L st) : Y C ws cells slots pc L (.int x :: .int i :: .ref a :: st) := by
  obtain ⟨⟨p, l, e, R, s, m, args, below, meth, c⟩, A, cs, D, Q⟩ := C
  obtain ⟨hx, hb, hown, hts, hK, hA, hAO, hR1, hR2, hR3, hR4⟩ := hC
  intro H locs ls hP hD hS hl
  subst hws
  exact va_iast hx hb hK hP hD hS q0 0 he rfl hi hd (fun H1 locs1 hP1 hD1 hS1 => k H1 locs1 ls hP1 hD1 hS1 hl)
theorem y_aast {C : CY} {own : String} {cc : ByteArray} {f lo mc ms : Nat} {ws : va_W} {cells slots : Nat} {pc : Nat} {L : List (Option Value)} {st : List Value} (hC : okY C own cc f lo mc ms) {q0 qk a b n : Nat} {i : Int32} {vs : List Value} {g : Nat → Option Nat} {ws2 : va_W} (he : ws[q0]? = some (a, .inl ((csY C).2.2, n, .inr (.inr (.inr (.inr g)))))) (hb2 : ws[qk]? = some (b, .inr (4, vs))) (hi : vp_in i n) (hd : decode cc pc = .ok (.aastore, 1)) (hws : ws.set q0 (a, .inl ((csY C).2.2, n, .inr (.inr (.inr (.inr (va_up g i.toNatClampNeg (some b))))))) = ws2) (k : Y C ws2 cells slots (pc + 1) L st) : Y C ws cells slots pc L (.ref b :: .int i :: .ref a :: st) := by
  obtain ⟨⟨p, l, e, R, s, m, args, below, meth, c⟩, A, cs, D, Q⟩ := C
  obtain ⟨hx, hb, hown, hts, hK, hA, hAO, hR1, hR2, hR3, hR4⟩ := hC
  intro H locs ls hP hD hS hl
  subst hws
  exact va_astq (r := (RX4, TX4, 3)) hx hb hK hP hD hS q0 2 qk 4 he rfl hb2 rfl hi hd (fun H1 locs1 hP1 hD1 hS1 => k H1 locs1 ls hP1 hD1 hS1 hl)
theorem y_ret {C : CY} {cc : ByteArray} {ws : va_W} {cells slots pc : Nat} {L : List (Option Value)} (h : RetY C cc ws cells slots) (hd : decode cc pc = .ok (.return_, 1)) : Y C ws cells slots pc L [] := by
  obtain ⟨⟨p, l, e, R, s, m, args, below, meth, c⟩, A, cs, D, Q⟩ := C
  intro H locs ls hP hD hS hl
  exact h pc ls H locs hd hP hD hS
def CtN (l : Launch) (D : va_G) (cs : CS3) (y : MethodName) (cb : ByteArray) (nl f lo mc ms : Nat) (av : List Value) (w0 : va_W) (post : va_W → Prop) : Prop := ∀ sz : Nat,
  Met l y (.code y cb nl none :: gtb) { frames := f, cells := mc, slots := ms, locals := lo } (va_Pc av (fun U => U.heap.size = sz ∧ va_P D vwCl w0 U.heap ∧ va_K D vwCl (tyS cs) U ∧ va_D (fun _ => True) w0 ∧ va_AO "ChairGrudge$Sheet" U)) (va_Qv post (fun w1 t => va_P D vwCl w1 t.heap ∧ va_D (va_A w0 sz) w1) (va_A w0 sz)) mc ms (va_A w0 sz)
theorem met_N {l : Launch} {D : va_G} {cs : CS3} {y : MethodName} {cb : ByteArray} {nl f lo mc ms k : Nat} {av : List Value} {L0 : List (Option Value)} {w0 : va_W} {post : va_W → Prop} (hy : plainFor y = true) (hyn : y.name = "<init>") (hlen : (lg_sl av).length ≤ nl) (hL : L0 = lvL av ++ List.replicate k none) (hn : L0.length = nl)
    (hz : ∀ C : CY, csY C = cs → dgY C = D → lnY C = l → okY C y.cls cb f lo mc ms → inY C → (∀ ws, post ws → RetY C cb ws mc ms) → Y C w0 0 0 0 L0 []) : CtN l D cs y cb nl f lo mc ms av w0 post := by
  intro sz
  refine met_ofW (cc := cb) (maxL := nl) (ret := none) hy rfl ?_
  intro p e s m args below meth c s₁ B hml hv
  obtain ⟨rfl, rfl, hP, hK, hD, hAO⟩ := hv
  have hts := atoms_spec (ws := Cond.code y cb nl none :: gtb) B.pre
  have hl := lh_entry hlen hL hn
  rw [← hml] at hl
  rw [lg_entry_eq]
  rw [← hml]
  exact hz ((p, l, e, (headSpec (Cond.code y cb nl none :: gtb) { frames := f, cells := mc, slots := ms, locals := lo }).room, s, m, av.toArray, below, meth, c), (va_A w0 s.heap.size, cs, D, MQ below (va_Qv post (fun w1 t => va_P D vwCl w1 t.heap ∧ va_D (va_A w0 s.heap.size) w1) (va_A w0 s.heap.size)) av.toArray s mc ms (va_A w0 s.heap.size))) rfl rfl rfl ⟨B.exec, B.bytes, findClass_of_methodNamed B.named, fun w hw => hts w (List.mem_cons_of_mem _ hw), hK, fun _ h => Or.inr h, hAO, rfl, rfl, rfl, rfl⟩ ((name_of_methodNamed B.named B.method).1.trans hyn) (fun ws hp => fun pc ls H locs hd hP hD hS => W.vret B.exec B.bytes B.returns (fun t ht hW => ⟨⟨ws, rfl, hp, by rw [ht]; exact hP, hD⟩, hS.F ht⟩) hS.2.2 hd B.notSynchronized) s.heap [] _ hP hD.self va_S.rf hl
theorem join1 {A0 : Nat → Prop} {D : va_G} {wr w1 : va_W} {x : Nat × va_E} {H H1 : Heap} (hP : va_P D vwCl (wr ++ [x]) H) (hD : va_D A0 (wr ++ [x])) (hk : ∀ q : Nat, q < H.size → ¬ va_A [x] H.size q → H1[q]? = H[q]?) (hF : ∀ q, va_A [x] H.size q → A0 q) (hP1 : va_P D vwCl w1 H1) (hD1 : va_D (va_A [x] H.size) w1) : va_P D vwCl (wr ++ w1) H1 ∧ va_D A0 (wr ++ w1) := by
  have hlt : ∀ (k : Nat) (q : Nat × va_E), wr[k]? = some q → k < wr.length := fun k q h => (List.getElem?_eq_some_iff.mp h).1
  have hin : ∀ (k : Nat) (q : Nat × va_E), wr[k]? = some q → (wr ++ [x])[k]? = some q := fun k q h => by rw [List.getElem?_append_left (hlt k q h)]; exact h
  have hx : (wr ++ [x])[wr.length]? = some x := by simp
  have apart : ∀ (k : Nat) (q : Nat × va_E), wr[k]? = some q → q.1 < H.size ∧ ¬ va_A [x] H.size q.1 := by
    intro k q hq
    have hl := (hP k q (hin k q hq)).lt
    refine ⟨hl, fun h => ?_⟩
    rcases h with ⟨k2, e, h⟩ | h
    · have hk2 : k2 < 1 := (List.getElem?_eq_some_iff.mp h).1
      rw [show k2 = 0 by omega] at h
      have e1 : x = (q.1, e) := by simpa using h
      have := hD.1 k wr.length q x (hin k q hq) hx (by rw [e1])
      have := hlt k q hq
      omega
    · omega
  refine ⟨va_P.app (fun k q hq => ?_) hP1, va_D.app ⟨fun i j a b ha hb hab => hD.1 i j a b (hin i a ha) (hin j b hb) hab, fun k q hq => hD.2 k q (hin k q hq)⟩ (hD1.weaken (fun k q _ h => hF q.1 h)) (fun i j a b ha hb hab => ?_)⟩
  · obtain ⟨g1, g2⟩ := apart k q hq
    exact (hP k q (hin k q hq)).kept (hk q.1 g1 g2)
  · exact (apart i a ha).2 (by rw [hab]; exact hD1.2 j b hb)
def FI (own : String) (idx : Nat) (y : MethodName) (cb : ByteArray) (nl n : Nat) : Prop := Cond.methodLink own idx y ∈ gtb ∧ Cond.instanceMethod y ∈ gtb ∧ Cond.initialized y.cls ∈ gtb ∧ Cond.code y cb nl none ∈ gtb ∧ y.name = "<init>" ∧ (y.cls ≠ "java/lang/invoke/MethodHandle" ∧ y.cls ≠ "java/lang/invoke/VarHandle" ∧ (parseMethodDescriptor y.desc).map (fun d => d.parameters.length) = some n)
theorem y_call {C : CY} {own : String} {cc : ByteArray} {f lo mc ms : Nat} {wr : va_W} {cells slots : Nat} {pc : Nat} {L : List (Option Value)} {st st0 : List Value} (hC : okY C own cc f lo mc ms) {idx nl n f' lo' mc' ms' a : Nat} {en : va_E} {y : MethodName} {cb : ByteArray} {As : List Value} {post : va_W → Prop} (hV : FI own idx y cb nl n) (hR2 : f' + 1 ≤ f ∧ 8 + (nl + 11) + lo' ≤ lo) (hcs : cells + mc' ≤ mc ∧ slots + ms' ≤ ms)
    (hM : CtN (lnY C) (dgY C) (csY C) y cb nl f' lo' mc' ms' (.ref a :: As) [(a, en)] post) (hn : As.length = n) (hst : st0 = As.reverse ++ .ref a :: st) (hcat : (st.map fun v => v.category).sum ≤ 8) (hd : decode cc pc = .ok (.invokespecial idx, 3)) (kk : ∀ w1, post w1 → Y C (wr ++ w1) (cells + mc') (slots + ms') (pc + 3) L st) : Y C (wr ++ [(a, en)]) cells slots pc L st0 := by
  obtain ⟨⟨p, l, e, R, s, m, args, below, meth, c⟩, A, cs, D, Q⟩ := C
  obtain ⟨hx, hb, hown, hts, hK, hA, hAO, hR1, hR2', hR3, hR4⟩ := hC
  intro H locs ls hP hD hS hl
  obtain ⟨v1, v2, v3, v4, v5, v6⟩ := hV
  have hx1 : (wr ++ [(a, en)])[wr.length]? = some (a, en) := by simp
  have hF : ∀ q, va_A [(a, en)] H.size q → A q := by
    intro q h
    rcases h with ⟨k2, e2, h⟩ | h
    · have hk2 : k2 < 1 := (List.getElem?_eq_some_iff.mp h).1
      rw [show k2 = 0 by omega] at h
      have e1 : (a, en) = (q, e2) := by simpa using h
      have := hD.2 wr.length (a, en) hx1
      cases e1
      exact this
    · exact hA q (Nat.le_trans hS.1 h)
  have hPc : va_P D vwCl [(a, en)] H := fun k q hk => by
    have hk2 : k < 1 := (List.getElem?_eq_some_iff.mp hk).1
    rw [show k = 0 by omega] at hk
    have e1 : (a, en) = q := by simpa using hk
    rw [← e1]
    exact hP wr.length _ hx1
  have hDc : va_D (fun _ => True) [(a, en)] := ⟨fun i j p q hi hj _ => by
    have h1 : i < 1 := (List.getElem?_eq_some_iff.mp hi).1
    have h2 : j < 1 := (List.getElem?_eq_some_iff.mp hj).1
    omega, fun _ _ _ => trivial⟩
  refine va_callv (va_runI (As := As) (rest := st) ⟨hx, hb, rfl, hown, hts⟩ (hM H.size) ⟨callB_of n hts (cons_good v4) rfl rfl rfl (hts _ v3) (hts _ v1) v6 (by rw [hR1, hR2']; exact hR2), v5, hts _ v2⟩ ⟨fun av U g mk q => by obtain ⟨q0, q1, qP, qK, qD, qA⟩ := q; exact ⟨q0, q1, qP, va_K.moved (u := U) (U := U.calling g mk av) (Vm.Alike.refl U.vm) qK, qD, va_AO.moved (u := U) (U := U.calling g mk av) (Vm.Alike.refl U.vm) qA⟩, fun U hU hW => ⟨rfl, by rw [hU], by rw [hU]; exact hPc, va_K.moved hW.alike hK, hDc, va_AO.moved hW.alike hAO⟩⟩ rfl hn hl.2.1 hst (lv_room hcat) hd (by rw [hR3, hR4]; exact hcs)) hS (fun q _ h => hF q h) hF (fun u t H1 locs1 ht hvm hp hB hz1 hk1 hS1 => ?_)
  obtain ⟨hP1, hD1⟩ := hB
  rw [ht] at hP1
  obtain ⟨hP2, hD2⟩ := join1 hP hD hk1 hF hP1 hD1
  exact kk u hp H1 locs1 ls hP2 hD2 hS1 hl
theorem aw_I : Cond.arrayClass .int ∈ gtb := by decide +kernel
theorem aw_Z : Cond.arrayClass .boolean ∈ gtb := by decide +kernel
theorem ko_X5_3 : Cond.methodLink RX5 3 objectInit ∈ gtb ∧ Cond.instanceMethod objectInit ∈ gtb ∧ Cond.code objectInit ⟨#[0xb1]⟩ 1 none ∈ gtb := ⟨in_g (List.mem_append_right _ (List.mem_of_getElem? (i := 16) (by decide +kernel))) rfl, in_g (List.mem_append_right _ (List.mem_of_getElem? (i := 17) (by decide +kernel))) rfl, in_g (List.mem_append_right _ (List.mem_of_getElem? (i := 18) (by decide +kernel))) rfl⟩
theorem fw_X5_9 : FNw RX5 9 0 5 [.null, .null, .null, .int 0, .int 0] := ⟨_, _, tyX0, rfl, i_X0, tyX0_ok, in_g (List.mem_append_right _ (List.mem_of_getElem? (i := 19) (by decide +kernel))) rfl, in_g (List.mem_append_right _ (List.mem_of_getElem? (i := 20) (by decide +kernel))) rfl, in_g (List.mem_append_right _ (List.mem_of_getElem? (i := 2) (by decide +kernel))) rfl, by decide +kernel⟩
theorem ko_X0_3 : Cond.methodLink RX0 3 objectInit ∈ gtb ∧ Cond.instanceMethod objectInit ∈ gtb ∧ Cond.code objectInit ⟨#[0xb1]⟩ 1 none ∈ gtb := ⟨in_g (List.mem_append_right _ (List.mem_of_getElem? (i := 24) (by decide +kernel))) rfl, in_g (List.mem_append_right _ (List.mem_of_getElem? (i := 17) (by decide +kernel))) rfl, in_g (List.mem_append_right _ (List.mem_of_getElem? (i := 18) (by decide +kernel))) rfl⟩
theorem ff_X0_9 : FPF RX0 9 0 0 (.array .int) := ⟨_, _, _, tyX0, rfl, i_X0, by decide, in_g (List.mem_append_right _ (List.mem_of_getElem? (i := 25) (by decide +kernel))) rfl, rfl, rfl, tyX0_ok, nmX0, rfl, by decide +kernel⟩
theorem ff_X0_15 : FPF RX0 15 0 1 (.array .int) := ⟨_, _, _, tyX0, rfl, i_X0, by decide, in_g (List.mem_append_right _ (List.mem_of_getElem? (i := 28) (by decide +kernel))) rfl, rfl, rfl, tyX0_ok, nmX0, rfl, by decide +kernel⟩
theorem ff_X0_18 : FPF RX0 18 0 2 (.array .int) := ⟨_, _, _, tyX0, rfl, i_X0, by decide, in_g (List.mem_append_right _ (List.mem_of_getElem? (i := 31) (by decide +kernel))) rfl, rfl, rfl, tyX0_ok, nmX0, rfl, by decide +kernel⟩
theorem fq_X0_21 : FP RX0 21 0 3 := ⟨_, _, _, tyX0, rfl, i_X0, by decide, in_g (List.mem_append_right _ (List.mem_of_getElem? (i := 34) (by decide +kernel))) rfl, rfl, tyX0_ok, nmX0, rfl, by decide +kernel⟩
theorem fq_X0_25 : FP RX0 25 0 4 := ⟨_, _, _, tyX0, rfl, i_X0, by decide, in_g (List.mem_append_right _ (List.mem_of_getElem? (i := 38) (by decide +kernel))) rfl, rfl, tyX0_ok, nmX0, rfl, by decide +kernel⟩
theorem fi_X5_11 : FI RX5 11 yX0_init cX0_init 1 0 := ⟨in_g (List.mem_append_right _ (List.mem_of_getElem? (i := 21) (by decide +kernel))) rfl, in_g (List.mem_append_right _ (List.mem_of_getElem? (i := 22) (by decide +kernel))) rfl, in_g (List.mem_append_right _ (List.mem_of_getElem? (i := 2) (by decide +kernel))) rfl, in_g (List.mem_append_right _ (List.mem_of_getElem? (i := 23) (by decide +kernel))) rfl, rfl, by decide +kernel⟩
theorem ff_X5_12 : FPF RX5 12 5 0 (.object "ChairGrudge$Hall") := ⟨_, _, _, tyX5, rfl, i_X5, by decide, in_g (List.mem_append_right _ (List.mem_of_getElem? (i := 153) (by decide +kernel))) rfl, rfl, rfl, tyX5_ok, nmX5, rfl, by decide +kernel⟩
theorem fw_X5_18 : FNw RX5 18 2 4 [.null, .null, .null, .int 0] := ⟨_, _, tyX2, rfl, i_X2, tyX2_ok, in_g (List.mem_append_right _ (List.mem_of_getElem? (i := 54) (by decide +kernel))) rfl, in_g (List.mem_append_right _ (List.mem_of_getElem? (i := 55) (by decide +kernel))) rfl, in_g (List.mem_append_right _ (List.mem_of_getElem? (i := 3) (by decide +kernel))) rfl, by decide +kernel⟩
theorem ko_X2_3 : Cond.methodLink RX2 3 objectInit ∈ gtb ∧ Cond.instanceMethod objectInit ∈ gtb ∧ Cond.code objectInit ⟨#[0xb1]⟩ 1 none ∈ gtb := ⟨in_g (List.mem_append_right _ (List.mem_of_getElem? (i := 59) (by decide +kernel))) rfl, in_g (List.mem_append_right _ (List.mem_of_getElem? (i := 17) (by decide +kernel))) rfl, in_g (List.mem_append_right _ (List.mem_of_getElem? (i := 18) (by decide +kernel))) rfl⟩
theorem ff_X2_9 : FPF RX2 9 2 0 (.array .int) := ⟨_, _, _, tyX2, rfl, i_X2, by decide, in_g (List.mem_append_right _ (List.mem_of_getElem? (i := 60) (by decide +kernel))) rfl, rfl, rfl, tyX2_ok, nmX2, rfl, by decide +kernel⟩
theorem ff_X2_15 : FPF RX2 15 2 1 (.array .int) := ⟨_, _, _, tyX2, rfl, i_X2, by decide, in_g (List.mem_append_right _ (List.mem_of_getElem? (i := 63) (by decide +kernel))) rfl, rfl, rfl, tyX2_ok, nmX2, rfl, by decide +kernel⟩
theorem ff_X2_18 : FPF RX2 18 2 2 (.array .int) := ⟨_, _, _, tyX2, rfl, i_X2, by decide, in_g (List.mem_append_right _ (List.mem_of_getElem? (i := 66) (by decide +kernel))) rfl, rfl, rfl, tyX2_ok, nmX2, rfl, by decide +kernel⟩
theorem fq_X2_21 : FP RX2 21 2 3 := ⟨_, _, _, tyX2, rfl, i_X2, by decide, in_g (List.mem_append_right _ (List.mem_of_getElem? (i := 69) (by decide +kernel))) rfl, rfl, tyX2_ok, nmX2, rfl, by decide +kernel⟩
theorem fi_X5_20 : FI RX5 20 yX2_init cX2_init 1 0 := ⟨in_g (List.mem_append_right _ (List.mem_of_getElem? (i := 56) (by decide +kernel))) rfl, in_g (List.mem_append_right _ (List.mem_of_getElem? (i := 57) (by decide +kernel))) rfl, in_g (List.mem_append_right _ (List.mem_of_getElem? (i := 3) (by decide +kernel))) rfl, in_g (List.mem_append_right _ (List.mem_of_getElem? (i := 58) (by decide +kernel))) rfl, rfl, by decide +kernel⟩
theorem ff_X5_21 : FPF RX5 21 5 1 (.object "ChairGrudge$Notes") := ⟨_, _, _, tyX5, rfl, i_X5, by decide, in_g (List.mem_append_right _ (List.mem_of_getElem? (i := 154) (by decide +kernel))) rfl, rfl, rfl, tyX5_ok, nmX5, rfl, by decide +kernel⟩
theorem ff_X5_25 : FPF RX5 25 5 2 (.object "ChairGrudge$Notes") := ⟨_, _, _, tyX5, rfl, i_X5, by decide, in_g (List.mem_append_right _ (List.mem_of_getElem? (i := 155) (by decide +kernel))) rfl, rfl, rfl, tyX5_ok, nmX5, rfl, by decide +kernel⟩
theorem ff_X5_28 : FPF RX5 28 5 3 (.object "ChairGrudge$Notes") := ⟨_, _, _, tyX5, rfl, i_X5, by decide, in_g (List.mem_append_right _ (List.mem_of_getElem? (i := 156) (by decide +kernel))) rfl, rfl, rfl, tyX5_ok, nmX5, rfl, by decide +kernel⟩
theorem ff_X5_31 : FPF RX5 31 5 4 (.array .boolean) := ⟨_, _, _, tyX5, rfl, i_X5, by decide, in_g (List.mem_append_right _ (List.mem_of_getElem? (i := 157) (by decide +kernel))) rfl, rfl, rfl, tyX5_ok, nmX5, rfl, by decide +kernel⟩
theorem fw_X5_35 : FNw RX5 35 1 6 [.null, .null, .null, .null, .null, .null] := ⟨_, _, tyX1, rfl, i_X1, tyX1_ok, in_g (List.mem_append_right _ (List.mem_of_getElem? (i := 81) (by decide +kernel))) rfl, in_g (List.mem_append_right _ (List.mem_of_getElem? (i := 82) (by decide +kernel))) rfl, in_g (List.mem_append_right _ (List.mem_of_getElem? (i := 4) (by decide +kernel))) rfl, by decide +kernel⟩
theorem fh_X5_12 : FG RX5 12 5 0 := ⟨_, _, _, rfl, i_X5, by decide, in_g (List.mem_append_right _ (List.mem_of_getElem? (i := 153) (by decide +kernel))) rfl, rfl⟩
theorem fh_X5_21 : FG RX5 21 5 1 := ⟨_, _, _, rfl, i_X5, by decide, in_g (List.mem_append_right _ (List.mem_of_getElem? (i := 154) (by decide +kernel))) rfl, rfl⟩
theorem fh_X5_25 : FG RX5 25 5 2 := ⟨_, _, _, rfl, i_X5, by decide, in_g (List.mem_append_right _ (List.mem_of_getElem? (i := 155) (by decide +kernel))) rfl, rfl⟩
theorem ko_X1_3 : Cond.methodLink RX1 3 objectInit ∈ gtb ∧ Cond.instanceMethod objectInit ∈ gtb ∧ Cond.code objectInit ⟨#[0xb1]⟩ 1 none ∈ gtb := ⟨in_g (List.mem_append_right _ (List.mem_of_getElem? (i := 86) (by decide +kernel))) rfl, in_g (List.mem_append_right _ (List.mem_of_getElem? (i := 17) (by decide +kernel))) rfl, in_g (List.mem_append_right _ (List.mem_of_getElem? (i := 18) (by decide +kernel))) rfl⟩
theorem ff_X1_9 : FPF RX1 9 1 0 (.object "ChairGrudge$Hall") := ⟨_, _, _, tyX1, rfl, i_X1, by decide, in_g (List.mem_append_right _ (List.mem_of_getElem? (i := 87) (by decide +kernel))) rfl, rfl, rfl, tyX1_ok, nmX1, rfl, by decide +kernel⟩
theorem ff_X1_15 : FPF RX1 15 1 1 (.object "ChairGrudge$Notes") := ⟨_, _, _, tyX1, rfl, i_X1, by decide, in_g (List.mem_append_right _ (List.mem_of_getElem? (i := 88) (by decide +kernel))) rfl, rfl, rfl, tyX1_ok, nmX1, rfl, by decide +kernel⟩
theorem ff_X1_19 : FPF RX1 19 1 2 (.object "ChairGrudge$Notes") := ⟨_, _, _, tyX1, rfl, i_X1, by decide, in_g (List.mem_append_right _ (List.mem_of_getElem? (i := 89) (by decide +kernel))) rfl, rfl, rfl, tyX1_ok, nmX1, rfl, by decide +kernel⟩
theorem ff_X1_22 : FPF RX1 22 1 3 (.array .int) := ⟨_, _, _, tyX1, rfl, i_X1, by decide, in_g (List.mem_append_right _ (List.mem_of_getElem? (i := 90) (by decide +kernel))) rfl, rfl, rfl, tyX1_ok, nmX1, rfl, by decide +kernel⟩
theorem ff_X1_26 : FPF RX1 26 1 4 (.array .int) := ⟨_, _, _, tyX1, rfl, i_X1, by decide, in_g (List.mem_append_right _ (List.mem_of_getElem? (i := 91) (by decide +kernel))) rfl, rfl, rfl, tyX1_ok, nmX1, rfl, by decide +kernel⟩
theorem ff_X1_29 : FPF RX1 29 1 5 (.array .int) := ⟨_, _, _, tyX1, rfl, i_X1, by decide, in_g (List.mem_append_right _ (List.mem_of_getElem? (i := 92) (by decide +kernel))) rfl, rfl, rfl, tyX1_ok, nmX1, rfl, by decide +kernel⟩
theorem fi_X5_37 : FI RX5 37 yX1_init cX1_init 4 3 := ⟨in_g (List.mem_append_right _ (List.mem_of_getElem? (i := 83) (by decide +kernel))) rfl, in_g (List.mem_append_right _ (List.mem_of_getElem? (i := 84) (by decide +kernel))) rfl, in_g (List.mem_append_right _ (List.mem_of_getElem? (i := 4) (by decide +kernel))) rfl, in_g (List.mem_append_right _ (List.mem_of_getElem? (i := 85) (by decide +kernel))) rfl, rfl, by decide +kernel⟩
theorem ff_X5_40 : FPF RX5 40 5 5 (.object "ChairGrudge$Memory") := ⟨_, _, _, tyX5, rfl, i_X5, by decide, in_g (List.mem_append_right _ (List.mem_of_getElem? (i := 158) (by decide +kernel))) rfl, rfl, rfl, tyX5_ok, nmX5, rfl, by decide +kernel⟩
theorem fw_X5_44 : FNw RX5 44 3 6 [.null, .null, .null, .null, .int 0, .int 0] := ⟨_, _, tyX3, rfl, i_X3, tyX3_ok, in_g (List.mem_append_right _ (List.mem_of_getElem? (i := 108) (by decide +kernel))) rfl, in_g (List.mem_append_right _ (List.mem_of_getElem? (i := 109) (by decide +kernel))) rfl, in_g (List.mem_append_right _ (List.mem_of_getElem? (i := 5) (by decide +kernel))) rfl, by decide +kernel⟩
theorem fh_X5_40 : FG RX5 40 5 5 := ⟨_, _, _, rfl, i_X5, by decide, in_g (List.mem_append_right _ (List.mem_of_getElem? (i := 158) (by decide +kernel))) rfl, rfl⟩
theorem fh_X5_46 : FG RX5 46 1 5 := ⟨_, _, _, rfl, i_X1, by decide, in_g (List.mem_append_right _ (List.mem_of_getElem? (i := 93) (by decide +kernel))) rfl, rfl⟩
theorem ko_X3_3 : Cond.methodLink RX3 3 objectInit ∈ gtb ∧ Cond.instanceMethod objectInit ∈ gtb ∧ Cond.code objectInit ⟨#[0xb1]⟩ 1 none ∈ gtb := ⟨in_g (List.mem_append_right _ (List.mem_of_getElem? (i := 113) (by decide +kernel))) rfl, in_g (List.mem_append_right _ (List.mem_of_getElem? (i := 17) (by decide +kernel))) rfl, in_g (List.mem_append_right _ (List.mem_of_getElem? (i := 18) (by decide +kernel))) rfl⟩
theorem ff_X3_9 : FPF RX3 9 3 0 (.object "ChairGrudge$Hall") := ⟨_, _, _, tyX3, rfl, i_X3, by decide, in_g (List.mem_append_right _ (List.mem_of_getElem? (i := 114) (by decide +kernel))) rfl, rfl, rfl, tyX3_ok, nmX3, rfl, by decide +kernel⟩
theorem ff_X3_15 : FPF RX3 15 3 1 (.array .int) := ⟨_, _, _, tyX3, rfl, i_X3, by decide, in_g (List.mem_append_right _ (List.mem_of_getElem? (i := 115) (by decide +kernel))) rfl, rfl, rfl, tyX3_ok, nmX3, rfl, by decide +kernel⟩
theorem ff_X3_19 : FPF RX3 19 3 2 (.array .int) := ⟨_, _, _, tyX3, rfl, i_X3, by decide, in_g (List.mem_append_right _ (List.mem_of_getElem? (i := 116) (by decide +kernel))) rfl, rfl, rfl, tyX3_ok, nmX3, rfl, by decide +kernel⟩
theorem ff_X3_22 : FPF RX3 22 3 3 (.array .int) := ⟨_, _, _, tyX3, rfl, i_X3, by decide, in_g (List.mem_append_right _ (List.mem_of_getElem? (i := 117) (by decide +kernel))) rfl, rfl, rfl, tyX3_ok, nmX3, rfl, by decide +kernel⟩
theorem fq_X3_25 : FP RX3 25 3 4 := ⟨_, _, _, tyX3, rfl, i_X3, by decide, in_g (List.mem_append_right _ (List.mem_of_getElem? (i := 119) (by decide +kernel))) rfl, rfl, tyX3_ok, nmX3, rfl, by decide +kernel⟩
theorem fq_X3_29 : FP RX3 29 3 5 := ⟨_, _, _, tyX3, rfl, i_X3, by decide, in_g (List.mem_append_right _ (List.mem_of_getElem? (i := 120) (by decide +kernel))) rfl, rfl, tyX3_ok, nmX3, rfl, by decide +kernel⟩
theorem fi_X5_50 : FI RX5 50 yX3_init cX3_init 3 2 := ⟨in_g (List.mem_append_right _ (List.mem_of_getElem? (i := 110) (by decide +kernel))) rfl, in_g (List.mem_append_right _ (List.mem_of_getElem? (i := 111) (by decide +kernel))) rfl, in_g (List.mem_append_right _ (List.mem_of_getElem? (i := 5) (by decide +kernel))) rfl, in_g (List.mem_append_right _ (List.mem_of_getElem? (i := 112) (by decide +kernel))) rfl, rfl, by decide +kernel⟩
theorem ff_X5_53 : FPF RX5 53 5 6 (.object "ChairGrudge$Seating") := ⟨_, _, _, tyX5, rfl, i_X5, by decide, in_g (List.mem_append_right _ (List.mem_of_getElem? (i := 159) (by decide +kernel))) rfl, rfl, rfl, tyX5_ok, nmX5, rfl, by decide +kernel⟩
theorem cl_X5_57 : Cond.classLink RX5 57 "ChairGrudge$Sheet" ∈ gtb := in_g (List.mem_append_right _ (List.mem_of_getElem? (i := 134) (by decide +kernel))) rfl
theorem ff_X5_59 : FPF RX5 59 5 7 (.array (.object "ChairGrudge$Sheet")) := ⟨_, _, _, tyX5, rfl, i_X5, by decide, in_g (List.mem_append_right _ (List.mem_of_getElem? (i := 160) (by decide +kernel))) rfl, rfl, rfl, tyX5_ok, nmX5, rfl, by decide +kernel⟩
theorem fh_X5_59 : FG RX5 59 5 7 := ⟨_, _, _, rfl, i_X5, by decide, in_g (List.mem_append_right _ (List.mem_of_getElem? (i := 160) (by decide +kernel))) rfl, rfl⟩
theorem fw_X5_57 : FNw RX5 57 4 3 [.null, .int 0, .int 0] := ⟨_, _, tyX4, rfl, i_X4, tyX4_ok, in_g (List.mem_append_right _ (List.mem_of_getElem? (i := 134) (by decide +kernel))) rfl, in_g (List.mem_append_right _ (List.mem_of_getElem? (i := 136) (by decide +kernel))) rfl, in_g (List.mem_append_right _ (List.mem_of_getElem? (i := 6) (by decide +kernel))) rfl, by decide +kernel⟩
theorem ko_X4_3 : Cond.methodLink RX4 3 objectInit ∈ gtb ∧ Cond.instanceMethod objectInit ∈ gtb ∧ Cond.code objectInit ⟨#[0xb1]⟩ 1 none ∈ gtb := ⟨in_g (List.mem_append_right _ (List.mem_of_getElem? (i := 140) (by decide +kernel))) rfl, in_g (List.mem_append_right _ (List.mem_of_getElem? (i := 17) (by decide +kernel))) rfl, in_g (List.mem_append_right _ (List.mem_of_getElem? (i := 18) (by decide +kernel))) rfl⟩
theorem ff_X4_9 : FPF RX4 9 4 0 (.array .int) := ⟨_, _, _, tyX4, rfl, i_X4, by decide, in_g (List.mem_append_right _ (List.mem_of_getElem? (i := 141) (by decide +kernel))) rfl, rfl, rfl, tyX4_ok, nmX4, rfl, by decide +kernel⟩
theorem fq_X4_15 : FP RX4 15 4 1 := ⟨_, _, _, tyX4, rfl, i_X4, by decide, in_g (List.mem_append_right _ (List.mem_of_getElem? (i := 143) (by decide +kernel))) rfl, rfl, tyX4_ok, nmX4, rfl, by decide +kernel⟩
theorem fq_X4_19 : FP RX4 19 4 2 := ⟨_, _, _, tyX4, rfl, i_X4, by decide, in_g (List.mem_append_right _ (List.mem_of_getElem? (i := 145) (by decide +kernel))) rfl, rfl, tyX4_ok, nmX4, rfl, by decide +kernel⟩
theorem fi_X5_63 : FI RX5 63 yX4_init cX4_init 1 0 := ⟨in_g (List.mem_append_right _ (List.mem_of_getElem? (i := 137) (by decide +kernel))) rfl, in_g (List.mem_append_right _ (List.mem_of_getElem? (i := 138) (by decide +kernel))) rfl, in_g (List.mem_append_right _ (List.mem_of_getElem? (i := 6) (by decide +kernel))) rfl, in_g (List.mem_append_right _ (List.mem_of_getElem? (i := 139) (by decide +kernel))) rfl, rfl, by decide +kernel⟩
theorem fq_X5_64 : FP RX5 64 5 8 := ⟨_, _, _, tyX5, rfl, i_X5, by decide, in_g (List.mem_append_right _ (List.mem_of_getElem? (i := 161) (by decide +kernel))) rfl, rfl, tyX5_ok, nmX5, rfl, by decide +kernel⟩
theorem fq_X5_68 : FP RX5 68 5 9 := ⟨_, _, _, tyX5, rfl, i_X5, by decide, in_g (List.mem_append_right _ (List.mem_of_getElem? (i := 162) (by decide +kernel))) rfl, rfl, tyX5_ok, nmX5, rfl, by decide +kernel⟩
theorem ko_X6_1 : Cond.methodLink RX6 1 objectInit ∈ gtb ∧ Cond.instanceMethod objectInit ∈ gtb ∧ Cond.code objectInit ⟨#[0xb1]⟩ 1 none ∈ gtb := ⟨in_g (List.mem_append_right _ (List.mem_of_getElem? (i := 540) (by decide +kernel))) rfl, in_g (List.mem_append_right _ (List.mem_of_getElem? (i := 17) (by decide +kernel))) rfl, in_g (List.mem_append_right _ (List.mem_of_getElem? (i := 18) (by decide +kernel))) rfl⟩
theorem ff_X6_9 : FPF RX6 9 6 2 (.array .int) := ⟨_, _, _, tyX6, rfl, i_X6, by decide, in_g (List.mem_append_right _ (List.mem_of_getElem? (i := 543) (by decide +kernel))) rfl, rfl, rfl, tyX6_ok, nmX6, rfl, by decide +kernel⟩
theorem ff_X6_13 : FPF RX6 13 6 3 (.array .int) := ⟨_, _, _, tyX6, rfl, i_X6, by decide, in_g (List.mem_append_right _ (List.mem_of_getElem? (i := 544) (by decide +kernel))) rfl, rfl, rfl, tyX6_ok, nmX6, rfl, by decide +kernel⟩
theorem ff_X6_16 : FPF RX6 16 6 4 (.array .int) := ⟨_, _, _, tyX6, rfl, i_X6, by decide, in_g (List.mem_append_right _ (List.mem_of_getElem? (i := 545) (by decide +kernel))) rfl, rfl, rfl, tyX6_ok, nmX6, rfl, by decide +kernel⟩
theorem ff_X6_19 : FPF RX6 19 6 7 (.array .int) := ⟨_, _, _, tyX6, rfl, i_X6, by decide, in_g (List.mem_append_right _ (List.mem_of_getElem? (i := 548) (by decide +kernel))) rfl, rfl, rfl, tyX6_ok, nmX6, rfl, by decide +kernel⟩
theorem ff_X6_22 : FPF RX6 22 6 8 (.array .int) := ⟨_, _, _, tyX6, rfl, i_X6, by decide, in_g (List.mem_append_right _ (List.mem_of_getElem? (i := 549) (by decide +kernel))) rfl, rfl, rfl, tyX6_ok, nmX6, rfl, by decide +kernel⟩
theorem ff_X6_25 : FPF RX6 25 6 9 (.array .int) := ⟨_, _, _, tyX6, rfl, i_X6, by decide, in_g (List.mem_append_right _ (List.mem_of_getElem? (i := 550) (by decide +kernel))) rfl, rfl, rfl, tyX6_ok, nmX6, rfl, by decide +kernel⟩
theorem ff_X6_28 : FPF RX6 28 6 11 (.array .int) := ⟨_, _, _, tyX6, rfl, i_X6, by decide, in_g (List.mem_append_right _ (List.mem_of_getElem? (i := 552) (by decide +kernel))) rfl, rfl, rfl, tyX6_ok, nmX6, rfl, by decide +kernel⟩
theorem ff_X6_31 : FPF RX6 31 6 12 (.array .int) := ⟨_, _, _, tyX6, rfl, i_X6, by decide, in_g (List.mem_append_right _ (List.mem_of_getElem? (i := 553) (by decide +kernel))) rfl, rfl, rfl, tyX6_ok, nmX6, rfl, by decide +kernel⟩
theorem ff_X6_34 : FPF RX6 34 6 13 (.array .int) := ⟨_, _, _, tyX6, rfl, i_X6, by decide, in_g (List.mem_append_right _ (List.mem_of_getElem? (i := 554) (by decide +kernel))) rfl, rfl, rfl, tyX6_ok, nmX6, rfl, by decide +kernel⟩
theorem ff_X6_37 : FPF RX6 37 6 15 (.array .int) := ⟨_, _, _, tyX6, rfl, i_X6, by decide, in_g (List.mem_append_right _ (List.mem_of_getElem? (i := 556) (by decide +kernel))) rfl, rfl, rfl, tyX6_ok, nmX6, rfl, by decide +kernel⟩
theorem ff_X6_40 : FPF RX6 40 6 16 (.array .int) := ⟨_, _, _, tyX6, rfl, i_X6, by decide, in_g (List.mem_append_right _ (List.mem_of_getElem? (i := 557) (by decide +kernel))) rfl, rfl, rfl, tyX6_ok, nmX6, rfl, by decide +kernel⟩
theorem ff_X6_43 : FPF RX6 43 6 17 (.array .int) := ⟨_, _, _, tyX6, rfl, i_X6, by decide, in_g (List.mem_append_right _ (List.mem_of_getElem? (i := 558) (by decide +kernel))) rfl, rfl, rfl, tyX6_ok, nmX6, rfl, by decide +kernel⟩
theorem fq_X6_46 : FP RX6 46 6 19 := ⟨_, _, _, tyX6, rfl, i_X6, by decide, in_g (List.mem_append_right _ (List.mem_of_getElem? (i := 560) (by decide +kernel))) rfl, rfl, tyX6_ok, nmX6, rfl, by decide +kernel⟩
theorem ff_X6_50 : FPF RX6 50 6 23 (.array .int) := ⟨_, _, _, tyX6, rfl, i_X6, by decide, in_g (List.mem_append_right _ (List.mem_of_getElem? (i := 564) (by decide +kernel))) rfl, rfl, rfl, tyX6_ok, nmX6, rfl, by decide +kernel⟩
theorem ff_X6_53 : FPF RX6 53 6 24 (.array .int) := ⟨_, _, _, tyX6, rfl, i_X6, by decide, in_g (List.mem_append_right _ (List.mem_of_getElem? (i := 565) (by decide +kernel))) rfl, rfl, rfl, tyX6_ok, nmX6, rfl, by decide +kernel⟩
theorem ff_X6_56 : FPF RX6 56 6 25 (.array .boolean) := ⟨_, _, _, tyX6, rfl, i_X6, by decide, in_g (List.mem_append_right _ (List.mem_of_getElem? (i := 566) (by decide +kernel))) rfl, rfl, rfl, tyX6_ok, nmX6, rfl, by decide +kernel⟩
theorem ff_X6_60 : FPF RX6 60 6 26 (.array .int) := ⟨_, _, _, tyX6, rfl, i_X6, by decide, in_g (List.mem_append_right _ (List.mem_of_getElem? (i := 567) (by decide +kernel))) rfl, rfl, rfl, tyX6_ok, nmX6, rfl, by decide +kernel⟩
theorem ff_X6_63 : FPF RX6 63 6 27 (.array .int) := ⟨_, _, _, tyX6, rfl, i_X6, by decide, in_g (List.mem_append_right _ (List.mem_of_getElem? (i := 568) (by decide +kernel))) rfl, rfl, rfl, tyX6_ok, nmX6, rfl, by decide +kernel⟩
theorem ff_X6_66 : FPF RX6 66 6 29 (.array .int) := ⟨_, _, _, tyX6, rfl, i_X6, by decide, in_g (List.mem_append_right _ (List.mem_of_getElem? (i := 570) (by decide +kernel))) rfl, rfl, rfl, tyX6_ok, nmX6, rfl, by decide +kernel⟩
theorem ff_X6_69 : FPF RX6 69 6 30 (.array .int) := ⟨_, _, _, tyX6, rfl, i_X6, by decide, in_g (List.mem_append_right _ (List.mem_of_getElem? (i := 571) (by decide +kernel))) rfl, rfl, rfl, tyX6_ok, nmX6, rfl, by decide +kernel⟩
theorem ff_X6_72 : FPF RX6 72 6 31 (.array .int) := ⟨_, _, _, tyX6, rfl, i_X6, by decide, in_g (List.mem_append_right _ (List.mem_of_getElem? (i := 572) (by decide +kernel))) rfl, rfl, rfl, tyX6_ok, nmX6, rfl, by decide +kernel⟩
theorem ff_X6_75 : FPF RX6 75 6 32 (.array .boolean) := ⟨_, _, _, tyX6, rfl, i_X6, by decide, in_g (List.mem_append_right _ (List.mem_of_getElem? (i := 573) (by decide +kernel))) rfl, rfl, rfl, tyX6_ok, nmX6, rfl, by decide +kernel⟩
