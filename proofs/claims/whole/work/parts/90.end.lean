/-! THE CLAIM OUT OF ONE WALK OF THE LAW'S BODY. Your part is whole_start (and what it stands on); all else here is the same for every law, but numbers. -/
def R_law : String := "ChairGrudgeLaw"
def lw_P (b : Addr) (xs : List Int32) (args : Array Value) (s : State) : Prop := args = #[.ref b] ∧ s.IntsAt b xs ∧ xs.length ≤ 384 ∧ (Jvm.Cond.and given_1 narrow_1).before args s = true
def lw_Q (_ : Array Value) (s : State) (o : Outcome) (t : State) : Prop := o = .returned (some (.int 1)) ∧ Framed s o t [] 600000 7302250
def lw_Z (below : List Frame) (a : Array Value) (s : State) : State → Prop := fun t => ∃ o, t.status = .running ∧ Ended t below o ∧ lw_Q a s o t
/-- the law's own end, with 1 on the stack, nothing written that was there before, its room as the claim has it -/
theorem lw_ret {p : Program} {l : Launch} {e : Env} {s : State} {m : MethodId} {below : List Frame} {meth : Method} {c : Code} {b : Nat} (hx : p.tables.exec = Jvm.exec) (hb : c.code = code) (hr : meth.sig.returnType = ret) (hlocks : meth.locks = false) {pc : Nat} {H : Heap} {ls : Array Slot} (hdg : decode code pc = .ok (.ireturn, 1)) : W p l e room_1 s m #[Value.ref b] below meth c H [] 600000 7302250 (lw_Z below #[Value.ref b] s) (F0 m pc ls [.int 1]) := by
  intro T hT X
  obtain ⟨fs, hret, hrun, hended, hW, hframe⟩ := X.leave (v := some (.int 1)) (hlocks := hlocks) (fun h => by rw [hr] at h; cases h)
  have hmeth' : T.vm.method? m = some meth := X.method'
  refine ⟨T.setFrames fs, ?_, .returned (some (.int 1)), hrun, hended, rfl, ⟨_, rfl⟩, hW, hframe⟩
  jvm_step X.here [X.here.top, hx, hb, hdg, hmeth', hr, ret, narrow_b1]
  (try refine ⟨rfl, ?_⟩); (try refine ⟨rfl, ?_⟩)
  first | (intro acts; rw [hret _ acts rfl rfl rfl]) | rw [hret _ _ rfl rfl rfl]
  exact Steps.refl _
/-- what holds at the law's entry: the machine, the code, the tables' words (any of lw_tbl by 'hts w (by decide +kernel)'), the script of L ints xs at the cell b, what the Statement gives of the start (any of its parts by flat_of_before) -/
def lw_At (p : Program) (s : State) (m : MethodId) (meth : Method) (c : Code) (b L : Nat) (xs : Nat → Int32) : Prop :=
  p.tables.exec = Jvm.exec ∧ c.code = code ∧ meth.sig.returnType = ret ∧ c.maxLocals = 4 ∧ s.vm.findClass R_law = some m.cls ∧ (∀ w ∈ lw_tbl, w.before #[Value.ref b] s = true) ∧ va_X b L xs s s.heap ∧ b < s.heap.size ∧ meth.locks = false ∧ (Jvm.Cond.and given_1 narrow_1).before #[Value.ref b] s = true
theorem fw_L_7 : FNw RL 7 5 10 [.null, .null, .null, .null, .null, .null, .null, .null, .int 0, .int 0] := ⟨_, _, tyX5, rfl, i_X5, tyX5_ok, in_g (List.mem_append_right _ (List.mem_of_getElem? (i := 11) (by decide +kernel))) rfl, in_g (List.mem_append_right _ (List.mem_of_getElem? (i := 12) (by decide +kernel))) rfl, in_g (List.mem_append_right _ (List.mem_of_getElem? (i := 1) (by decide +kernel))) rfl, by decide +kernel⟩
theorem fw_L_10 : FNw RL 10 6 33 [.int 0, .int 0, .null, .null, .null, .int 0, .int 0, .null, .null, .null, .int 0, .null, .null, .null, .int 0, .null, .null, .null, .int 0, .int 0, .int 0, .int 0, .int 0, .null, .null, .null, .null, .null, .int 0, .null, .null, .null, .null] := ⟨_, _, tyX6, rfl, i_X6, tyX6_ok, in_g (List.mem_append_right _ (List.mem_of_getElem? (i := 535) (by decide +kernel))) rfl, in_g (List.mem_append_right _ (List.mem_of_getElem? (i := 536) (by decide +kernel))) rfl, in_g (List.mem_append_right _ (List.mem_of_getElem? (i := 7) (by decide +kernel))) rfl, by decide +kernel⟩
theorem fi_L_9 : FI RL 9 yX5_init cX5_init 2 0 := ⟨in_g (List.mem_append_right _ (List.mem_of_getElem? (i := 13) (by decide +kernel))) rfl, in_g (List.mem_append_right _ (List.mem_of_getElem? (i := 14) (by decide +kernel))) rfl, in_g (List.mem_append_right _ (List.mem_of_getElem? (i := 1) (by decide +kernel))) rfl, in_g (List.mem_append_right _ (List.mem_of_getElem? (i := 15) (by decide +kernel))) rfl, rfl, by decide +kernel⟩
theorem fi_L_12 : FI RL 12 yX6_init cX6_init 1 0 := ⟨in_g (List.mem_append_right _ (List.mem_of_getElem? (i := 537) (by decide +kernel))) rfl, in_g (List.mem_append_right _ (List.mem_of_getElem? (i := 538) (by decide +kernel))) rfl, in_g (List.mem_append_right _ (List.mem_of_getElem? (i := 7) (by decide +kernel))) rfl, in_g (List.mem_append_right _ (List.mem_of_getElem? (i := 539) (by decide +kernel))) rfl, rfl, by decide +kernel⟩
theorem arrV_cong {cA : ClassId} {n : Nat} {f g : Nat → Value} (h : ∀ j, j < n → f j = g j) : arrV cA n f = arrV cA n g := by
  unfold arrV
  congr 2
  funext j
  exact h j.val j.isLt
theorem vq_at {D : va_G} {cA : ClassId} {a n : Nat} {H : Heap} {g g' : Nat → Option Nat} (hg : ∀ j, j < n → g j = g' j) (h : va_at D vwCl (a, .inl (cA, n, .inr (.inr (.inr (.inr g))))) H) : va_at D vwCl (a, .inl (cA, n, .inr (.inr (.inr (.inr g'))))) H := by
  have h1 : H[a]? = some (arrV cA n (fun j => va_rf (g j))) := h
  show H[a]? = some (arrV cA n (fun j => va_rf (g' j)))
  rw [h1]
  exact congrArg some (arrV_cong (fun j hj => by rw [hg j hj]))
theorem sheets_at {D : va_G} {cA : ClassId} {a : Nat} {H : Heap} {f : Nat → Nat} (h : va_at D vwCl (a, .inl (cA, 4, .inr (.inr (.inr (.inr (va_up (va_up (va_up (va_up (fun _ => none) 0 (some (f 0))) 1 (some (f 1))) 2 (some (f 2))) 3 (some (f 3)))))))) H) : va_at D vwCl (a, .inl (cA, 4, .inr (.inr (.inr (.inr (fun j => some (f j))))))) H := by
  refine vq_at (fun j hj => ?_) h
  match j, hj with
  | 0, _ => rfl
  | 1, _ => rfl
  | 2, _ => rfl
  | 3, _ => rfl
  | j + 4, hj => omega
set_option maxRecDepth 100000 in
set_option maxHeartbeats 4000000 in
theorem to_wld {D : va_G} {cs : CS3} {H : Heap} (g0 g1 g2 g3 g4 g5 g6 g7 g8 g9 g10 g11 g12 g13 g14 g15 g16 g17 g18 g19 g20 g21 g22 g23 g24 g25 g26 g27 g28 g29 g30 g31 g32 g33 u0 u1 u2 u3 u4 u5 u6 u7 u8 u9 u10 u11 u12 u13 u14 u15 u16 u17 u18 u19 u20 u21 : Nat) (hP : va_P D vwCl [(g0, .inr (5, [.ref g1, .ref g5, .ref g9, .ref g13, .ref g17, .ref g18, .ref g22, .ref g25, .int 0, .int 0])), (g1, .inr (0, [.ref g2, .ref g3, .ref g4, .int 0, .int 0])), (g2, .inl (cs.1, 5, .inl (fun _ => 0))), (g3, .inl (cs.1, 5, .inl (fun _ => 0))), (g4, .inl (cs.1, 5, .inl (fun _ => 0))), (g5, .inr (2, [.ref g6, .ref g7, .ref g8, .int 0])), (g6, .inl (cs.1, 8, .inl (fun _ => 0))), (g7, .inl (cs.1, 8, .inl (fun _ => 0))), (g8, .inl (cs.1, 8, .inl (fun _ => 0))), (g9, .inr (2, [.ref g10, .ref g11, .ref g12, .int 0])), (g10, .inl (cs.1, 8, .inl (fun _ => 0))), (g11, .inl (cs.1, 8, .inl (fun _ => 0))), (g12, .inl (cs.1, 8, .inl (fun _ => 0))), (g13, .inr (2, [.ref g14, .ref g15, .ref g16, .int 0])), (g14, .inl (cs.1, 8, .inl (fun _ => 0))), (g15, .inl (cs.1, 8, .inl (fun _ => 0))), (g16, .inl (cs.1, 8, .inl (fun _ => 0))), (g17, .inl (cs.2.1, 8, .inl (fun _ => 0))), (g18, .inr (1, [.ref g1, .ref g5, .ref g9, .ref g19, .ref g20, .ref g21])), (g19, .inl (cs.1, 5, .inl (fun _ => 0))), (g20, .inl (cs.1, 5, .inl (fun _ => 0))), (g21, .inl (cs.1, 5, .inl (fun _ => 0))), (g22, .inr (3, [.ref g1, .ref g21, .ref g23, .ref g24, .int 0, .int 0])), (g23, .inl (cs.1, 192, .inl (fun _ => 0))), (g24, .inl (cs.1, 5, .inl (fun _ => 0))), (g25, .inl (cs.2.2, 4, .inr (.inr (.inr (.inr (va_up (va_up (va_up (va_up (fun _ => none) 0 (some g26)) 1 (some g28)) 2 (some g30)) 3 (some g32))))))), (g26, .inr (4, [.ref g27, .int 0, .int (-1)])), (g27, .inl (cs.1, 60, .inl (fun _ => 0))), (g28, .inr (4, [.ref g29, .int 0, .int (-1)])), (g29, .inl (cs.1, 60, .inl (fun _ => 0))), (g30, .inr (4, [.ref g31, .int 0, .int (-1)])), (g31, .inl (cs.1, 60, .inl (fun _ => 0))), (g32, .inr (4, [.ref g33, .int 0, .int (-1)])), (g33, .inl (cs.1, 60, .inl (fun _ => 0))), (u0, .inr (6, [.int 0, .int 0, .ref u1, .ref u2, .ref u3, .int 0, .int 0, .ref u4, .ref u5, .ref u6, .int 0, .ref u7, .ref u8, .ref u9, .int 0, .ref u10, .ref u11, .ref u12, .int 0, .int (-9), .int 0, .int 0, .int 0, .ref u13, .ref u14, .ref u15, .ref u16, .ref u17, .int 0, .ref u18, .ref u19, .ref u20, .ref u21])), (u1, .inl (cs.1, 4, .inl (upd (upd (upd (upd (fun _ => 0) 0 (-9)) 1 (-9)) 2 (-9)) 3 (-9)))), (u2, .inl (cs.1, 4, .inl (fun _ => 0))), (u3, .inl (cs.1, 240, .inl (fun _ => 0))), (u4, .inl (cs.1, 5, .inl (fun _ => 0))), (u5, .inl (cs.1, 5, .inl (fun _ => 0))), (u6, .inl (cs.1, 5, .inl (fun _ => 0))), (u7, .inl (cs.1, 8, .inl (fun _ => 0))), (u8, .inl (cs.1, 8, .inl (fun _ => 0))), (u9, .inl (cs.1, 8, .inl (fun _ => 0))), (u10, .inl (cs.1, 8, .inl (fun _ => 0))), (u11, .inl (cs.1, 8, .inl (fun _ => 0))), (u12, .inl (cs.1, 8, .inl (fun _ => 0))), (u13, .inl (cs.1, 15, .inl (fun _ => 0))), (u14, .inl (cs.1, 5, .inl (fun _ => 0))), (u15, .inl (cs.2.1, 32, .inl (fun _ => 0))), (u16, .inl (cs.1, 5, .inl (fun _ => 0))), (u17, .inl (cs.1, 5, .inl (fun _ => 0))), (u18, .inl (cs.1, 8, .inl (fun _ => 0))), (u19, .inl (cs.1, 8, .inl (fun _ => 0))), (u20, .inl (cs.1, 8, .inl (fun _ => 0))), (u21, .inl (cs.2.1, 8, .inl (fun _ => 0)))] H) : va_P D vwCl (wld cs (fun k => ([g0, g1, g2, g3, g4, g5, g6, g7, g8, g9, g10, g11, g12, g13, g14, g15, g16, g17, g18, g19, g20, g21, g22, g23, g24, g25, g26, g28, g30, g32, g27, g29, g31, g33, u0, u1, u2, u3, u4, u5, u6, u7, u8, u9, u10, u11, u12, u13, u14, u15, u16, u17, u18, u19, u20, u21] : List Nat).getD k 0) M0) H := by
  intro k q hk
  rw [wld_at] at hk
  have hlt : k < 56 := by
    cases hq : lyl[k]? with
    | none => rw [hq] at hk; simp at hk
    | some e => exact (List.getElem?_eq_some_iff.mp hq).1
  have key : ∀ j, j < 56 → ∀ q, (lyl[j]?).map (fun q => (([g0, g1, g2, g3, g4, g5, g6, g7, g8, g9, g10, g11, g12, g13, g14, g15, g16, g17, g18, g19, g20, g21, g22, g23, g24, g25, g26, g28, g30, g32, g27, g29, g31, g33, u0, u1, u2, u3, u4, u5, u6, u7, u8, u9, u10, u11, u12, u13, u14, u15, u16, u17, u18, u19, u20, u21] : List Nat).getD j 0, ceE cs (fun k => ([g0, g1, g2, g3, g4, g5, g6, g7, g8, g9, g10, g11, g12, g13, g14, g15, g16, g17, g18, g19, g20, g21, g22, g23, g24, g25, g26, g28, g30, g32, g27, g29, g31, g33, u0, u1, u2, u3, u4, u5, u6, u7, u8, u9, u10, u11, u12, u13, u14, u15, u16, u17, u18, u19, u20, u21] : List Nat).getD k 0) (M0 j) q)) = some q → va_at D vwCl q H := by
    intro j hj q hq
    match j, hj, hq with
    | 0, _, hq => exact (Option.some.inj hq) ▸ hP 0 _ rfl
    | 1, _, hq => exact (Option.some.inj hq) ▸ hP 1 _ rfl
    | 2, _, hq => exact (Option.some.inj hq) ▸ hP 2 _ rfl
    | 3, _, hq => exact (Option.some.inj hq) ▸ hP 3 _ rfl
    | 4, _, hq => exact (Option.some.inj hq) ▸ hP 4 _ rfl
    | 5, _, hq => exact (Option.some.inj hq) ▸ hP 5 _ rfl
    | 6, _, hq => exact (Option.some.inj hq) ▸ hP 6 _ rfl
    | 7, _, hq => exact (Option.some.inj hq) ▸ hP 7 _ rfl
    | 8, _, hq => exact (Option.some.inj hq) ▸ hP 8 _ rfl
    | 9, _, hq => exact (Option.some.inj hq) ▸ hP 9 _ rfl
    | 10, _, hq => exact (Option.some.inj hq) ▸ hP 10 _ rfl
    | 11, _, hq => exact (Option.some.inj hq) ▸ hP 11 _ rfl
    | 12, _, hq => exact (Option.some.inj hq) ▸ hP 12 _ rfl
    | 13, _, hq => exact (Option.some.inj hq) ▸ hP 13 _ rfl
    | 14, _, hq => exact (Option.some.inj hq) ▸ hP 14 _ rfl
    | 15, _, hq => exact (Option.some.inj hq) ▸ hP 15 _ rfl
    | 16, _, hq => exact (Option.some.inj hq) ▸ hP 16 _ rfl
    | 17, _, hq => exact (Option.some.inj hq) ▸ hP 17 _ rfl
    | 18, _, hq => exact (Option.some.inj hq) ▸ hP 18 _ rfl
    | 19, _, hq => exact (Option.some.inj hq) ▸ hP 19 _ rfl
    | 20, _, hq => exact (Option.some.inj hq) ▸ hP 20 _ rfl
    | 21, _, hq => exact (Option.some.inj hq) ▸ hP 21 _ rfl
    | 22, _, hq => exact (Option.some.inj hq) ▸ hP 22 _ rfl
    | 23, _, hq => exact (Option.some.inj hq) ▸ hP 23 _ rfl
    | 24, _, hq => exact (Option.some.inj hq) ▸ hP 24 _ rfl
    | 25, _, hq => exact (Option.some.inj hq) ▸ (sheets_at (f := fun j => ([g0, g1, g2, g3, g4, g5, g6, g7, g8, g9, g10, g11, g12, g13, g14, g15, g16, g17, g18, g19, g20, g21, g22, g23, g24, g25, g26, g28, g30, g32, g27, g29, g31, g33, u0, u1, u2, u3, u4, u5, u6, u7, u8, u9, u10, u11, u12, u13, u14, u15, u16, u17, u18, u19, u20, u21] : List Nat).getD (26 + j) 0) (hP 25 _ rfl))
    | 26, _, hq => exact (Option.some.inj hq) ▸ hP 26 _ rfl
    | 27, _, hq => exact (Option.some.inj hq) ▸ hP 28 _ rfl
    | 28, _, hq => exact (Option.some.inj hq) ▸ hP 30 _ rfl
    | 29, _, hq => exact (Option.some.inj hq) ▸ hP 32 _ rfl
    | 30, _, hq => exact (Option.some.inj hq) ▸ hP 27 _ rfl
    | 31, _, hq => exact (Option.some.inj hq) ▸ hP 29 _ rfl
    | 32, _, hq => exact (Option.some.inj hq) ▸ hP 31 _ rfl
    | 33, _, hq => exact (Option.some.inj hq) ▸ hP 33 _ rfl
    | 34, _, hq => exact (Option.some.inj hq) ▸ hP 34 _ rfl
    | 35, _, hq => exact (Option.some.inj hq) ▸ hP 35 _ rfl
    | 36, _, hq => exact (Option.some.inj hq) ▸ hP 36 _ rfl
    | 37, _, hq => exact (Option.some.inj hq) ▸ hP 37 _ rfl
    | 38, _, hq => exact (Option.some.inj hq) ▸ hP 38 _ rfl
    | 39, _, hq => exact (Option.some.inj hq) ▸ hP 39 _ rfl
    | 40, _, hq => exact (Option.some.inj hq) ▸ hP 40 _ rfl
    | 41, _, hq => exact (Option.some.inj hq) ▸ hP 41 _ rfl
    | 42, _, hq => exact (Option.some.inj hq) ▸ hP 42 _ rfl
    | 43, _, hq => exact (Option.some.inj hq) ▸ hP 43 _ rfl
    | 44, _, hq => exact (Option.some.inj hq) ▸ hP 44 _ rfl
    | 45, _, hq => exact (Option.some.inj hq) ▸ hP 45 _ rfl
    | 46, _, hq => exact (Option.some.inj hq) ▸ hP 46 _ rfl
    | 47, _, hq => exact (Option.some.inj hq) ▸ hP 47 _ rfl
    | 48, _, hq => exact (Option.some.inj hq) ▸ hP 48 _ rfl
    | 49, _, hq => exact (Option.some.inj hq) ▸ hP 49 _ rfl
    | 50, _, hq => exact (Option.some.inj hq) ▸ hP 50 _ rfl
    | 51, _, hq => exact (Option.some.inj hq) ▸ hP 51 _ rfl
    | 52, _, hq => exact (Option.some.inj hq) ▸ hP 52 _ rfl
    | 53, _, hq => exact (Option.some.inj hq) ▸ hP 53 _ rfl
    | 54, _, hq => exact (Option.some.inj hq) ▸ hP 54 _ rfl
    | 55, _, hq => exact (Option.some.inj hq) ▸ hP 55 _ rfl
    | j + 56, hj, hq => omega
  exact key k hlt q hk
set_option maxRecDepth 100000 in
set_option maxHeartbeats 4000000 in
theorem to_ad {A : Nat → Prop} {cs : CS3} (g0 g1 g2 g3 g4 g5 g6 g7 g8 g9 g10 g11 g12 g13 g14 g15 g16 g17 g18 g19 g20 g21 g22 g23 g24 g25 g26 g27 g28 g29 g30 g31 g32 g33 u0 u1 u2 u3 u4 u5 u6 u7 u8 u9 u10 u11 u12 u13 u14 u15 u16 u17 u18 u19 u20 u21 : Nat) (hD : va_D A [(g0, .inr (5, [.ref g1, .ref g5, .ref g9, .ref g13, .ref g17, .ref g18, .ref g22, .ref g25, .int 0, .int 0])), (g1, .inr (0, [.ref g2, .ref g3, .ref g4, .int 0, .int 0])), (g2, .inl (cs.1, 5, .inl (fun _ => 0))), (g3, .inl (cs.1, 5, .inl (fun _ => 0))), (g4, .inl (cs.1, 5, .inl (fun _ => 0))), (g5, .inr (2, [.ref g6, .ref g7, .ref g8, .int 0])), (g6, .inl (cs.1, 8, .inl (fun _ => 0))), (g7, .inl (cs.1, 8, .inl (fun _ => 0))), (g8, .inl (cs.1, 8, .inl (fun _ => 0))), (g9, .inr (2, [.ref g10, .ref g11, .ref g12, .int 0])), (g10, .inl (cs.1, 8, .inl (fun _ => 0))), (g11, .inl (cs.1, 8, .inl (fun _ => 0))), (g12, .inl (cs.1, 8, .inl (fun _ => 0))), (g13, .inr (2, [.ref g14, .ref g15, .ref g16, .int 0])), (g14, .inl (cs.1, 8, .inl (fun _ => 0))), (g15, .inl (cs.1, 8, .inl (fun _ => 0))), (g16, .inl (cs.1, 8, .inl (fun _ => 0))), (g17, .inl (cs.2.1, 8, .inl (fun _ => 0))), (g18, .inr (1, [.ref g1, .ref g5, .ref g9, .ref g19, .ref g20, .ref g21])), (g19, .inl (cs.1, 5, .inl (fun _ => 0))), (g20, .inl (cs.1, 5, .inl (fun _ => 0))), (g21, .inl (cs.1, 5, .inl (fun _ => 0))), (g22, .inr (3, [.ref g1, .ref g21, .ref g23, .ref g24, .int 0, .int 0])), (g23, .inl (cs.1, 192, .inl (fun _ => 0))), (g24, .inl (cs.1, 5, .inl (fun _ => 0))), (g25, .inl (cs.2.2, 4, .inr (.inr (.inr (.inr (va_up (va_up (va_up (va_up (fun _ => none) 0 (some g26)) 1 (some g28)) 2 (some g30)) 3 (some g32))))))), (g26, .inr (4, [.ref g27, .int 0, .int (-1)])), (g27, .inl (cs.1, 60, .inl (fun _ => 0))), (g28, .inr (4, [.ref g29, .int 0, .int (-1)])), (g29, .inl (cs.1, 60, .inl (fun _ => 0))), (g30, .inr (4, [.ref g31, .int 0, .int (-1)])), (g31, .inl (cs.1, 60, .inl (fun _ => 0))), (g32, .inr (4, [.ref g33, .int 0, .int (-1)])), (g33, .inl (cs.1, 60, .inl (fun _ => 0))), (u0, .inr (6, [.int 0, .int 0, .ref u1, .ref u2, .ref u3, .int 0, .int 0, .ref u4, .ref u5, .ref u6, .int 0, .ref u7, .ref u8, .ref u9, .int 0, .ref u10, .ref u11, .ref u12, .int 0, .int (-9), .int 0, .int 0, .int 0, .ref u13, .ref u14, .ref u15, .ref u16, .ref u17, .int 0, .ref u18, .ref u19, .ref u20, .ref u21])), (u1, .inl (cs.1, 4, .inl (upd (upd (upd (upd (fun _ => 0) 0 (-9)) 1 (-9)) 2 (-9)) 3 (-9)))), (u2, .inl (cs.1, 4, .inl (fun _ => 0))), (u3, .inl (cs.1, 240, .inl (fun _ => 0))), (u4, .inl (cs.1, 5, .inl (fun _ => 0))), (u5, .inl (cs.1, 5, .inl (fun _ => 0))), (u6, .inl (cs.1, 5, .inl (fun _ => 0))), (u7, .inl (cs.1, 8, .inl (fun _ => 0))), (u8, .inl (cs.1, 8, .inl (fun _ => 0))), (u9, .inl (cs.1, 8, .inl (fun _ => 0))), (u10, .inl (cs.1, 8, .inl (fun _ => 0))), (u11, .inl (cs.1, 8, .inl (fun _ => 0))), (u12, .inl (cs.1, 8, .inl (fun _ => 0))), (u13, .inl (cs.1, 15, .inl (fun _ => 0))), (u14, .inl (cs.1, 5, .inl (fun _ => 0))), (u15, .inl (cs.2.1, 32, .inl (fun _ => 0))), (u16, .inl (cs.1, 5, .inl (fun _ => 0))), (u17, .inl (cs.1, 5, .inl (fun _ => 0))), (u18, .inl (cs.1, 8, .inl (fun _ => 0))), (u19, .inl (cs.1, 8, .inl (fun _ => 0))), (u20, .inl (cs.1, 8, .inl (fun _ => 0))), (u21, .inl (cs.2.1, 8, .inl (fun _ => 0)))]) : adI (fun k => ([g0, g1, g2, g3, g4, g5, g6, g7, g8, g9, g10, g11, g12, g13, g14, g15, g16, g17, g18, g19, g20, g21, g22, g23, g24, g25, g26, g28, g30, g32, g27, g29, g31, g33, u0, u1, u2, u3, u4, u5, u6, u7, u8, u9, u10, u11, u12, u13, u14, u15, u16, u17, u18, u19, u20, u21] : List Nat).getD k 0) ∧ ∀ q, AW (fun k => ([g0, g1, g2, g3, g4, g5, g6, g7, g8, g9, g10, g11, g12, g13, g14, g15, g16, g17, g18, g19, g20, g21, g22, g23, g24, g25, g26, g28, g30, g32, g27, g29, g31, g33, u0, u1, u2, u3, u4, u5, u6, u7, u8, u9, u10, u11, u12, u13, u14, u15, u16, u17, u18, u19, u20, u21] : List Nat).getD k 0) q → A q := by
  have hw : ∃ o : Nat → Nat, (∀ i, i < 56 → o i < 56) ∧ (∀ i, i < 56 → ∀ j, j < 56 → o i = o j → i = j) ∧ ∀ i, i < 56 → ∃ en, ([(g0, .inr (5, [.ref g1, .ref g5, .ref g9, .ref g13, .ref g17, .ref g18, .ref g22, .ref g25, .int 0, .int 0])), (g1, .inr (0, [.ref g2, .ref g3, .ref g4, .int 0, .int 0])), (g2, .inl (cs.1, 5, .inl (fun _ => 0))), (g3, .inl (cs.1, 5, .inl (fun _ => 0))), (g4, .inl (cs.1, 5, .inl (fun _ => 0))), (g5, .inr (2, [.ref g6, .ref g7, .ref g8, .int 0])), (g6, .inl (cs.1, 8, .inl (fun _ => 0))), (g7, .inl (cs.1, 8, .inl (fun _ => 0))), (g8, .inl (cs.1, 8, .inl (fun _ => 0))), (g9, .inr (2, [.ref g10, .ref g11, .ref g12, .int 0])), (g10, .inl (cs.1, 8, .inl (fun _ => 0))), (g11, .inl (cs.1, 8, .inl (fun _ => 0))), (g12, .inl (cs.1, 8, .inl (fun _ => 0))), (g13, .inr (2, [.ref g14, .ref g15, .ref g16, .int 0])), (g14, .inl (cs.1, 8, .inl (fun _ => 0))), (g15, .inl (cs.1, 8, .inl (fun _ => 0))), (g16, .inl (cs.1, 8, .inl (fun _ => 0))), (g17, .inl (cs.2.1, 8, .inl (fun _ => 0))), (g18, .inr (1, [.ref g1, .ref g5, .ref g9, .ref g19, .ref g20, .ref g21])), (g19, .inl (cs.1, 5, .inl (fun _ => 0))), (g20, .inl (cs.1, 5, .inl (fun _ => 0))), (g21, .inl (cs.1, 5, .inl (fun _ => 0))), (g22, .inr (3, [.ref g1, .ref g21, .ref g23, .ref g24, .int 0, .int 0])), (g23, .inl (cs.1, 192, .inl (fun _ => 0))), (g24, .inl (cs.1, 5, .inl (fun _ => 0))), (g25, .inl (cs.2.2, 4, .inr (.inr (.inr (.inr (va_up (va_up (va_up (va_up (fun _ => none) 0 (some g26)) 1 (some g28)) 2 (some g30)) 3 (some g32))))))), (g26, .inr (4, [.ref g27, .int 0, .int (-1)])), (g27, .inl (cs.1, 60, .inl (fun _ => 0))), (g28, .inr (4, [.ref g29, .int 0, .int (-1)])), (g29, .inl (cs.1, 60, .inl (fun _ => 0))), (g30, .inr (4, [.ref g31, .int 0, .int (-1)])), (g31, .inl (cs.1, 60, .inl (fun _ => 0))), (g32, .inr (4, [.ref g33, .int 0, .int (-1)])), (g33, .inl (cs.1, 60, .inl (fun _ => 0))), (u0, .inr (6, [.int 0, .int 0, .ref u1, .ref u2, .ref u3, .int 0, .int 0, .ref u4, .ref u5, .ref u6, .int 0, .ref u7, .ref u8, .ref u9, .int 0, .ref u10, .ref u11, .ref u12, .int 0, .int (-9), .int 0, .int 0, .int 0, .ref u13, .ref u14, .ref u15, .ref u16, .ref u17, .int 0, .ref u18, .ref u19, .ref u20, .ref u21])), (u1, .inl (cs.1, 4, .inl (upd (upd (upd (upd (fun _ => 0) 0 (-9)) 1 (-9)) 2 (-9)) 3 (-9)))), (u2, .inl (cs.1, 4, .inl (fun _ => 0))), (u3, .inl (cs.1, 240, .inl (fun _ => 0))), (u4, .inl (cs.1, 5, .inl (fun _ => 0))), (u5, .inl (cs.1, 5, .inl (fun _ => 0))), (u6, .inl (cs.1, 5, .inl (fun _ => 0))), (u7, .inl (cs.1, 8, .inl (fun _ => 0))), (u8, .inl (cs.1, 8, .inl (fun _ => 0))), (u9, .inl (cs.1, 8, .inl (fun _ => 0))), (u10, .inl (cs.1, 8, .inl (fun _ => 0))), (u11, .inl (cs.1, 8, .inl (fun _ => 0))), (u12, .inl (cs.1, 8, .inl (fun _ => 0))), (u13, .inl (cs.1, 15, .inl (fun _ => 0))), (u14, .inl (cs.1, 5, .inl (fun _ => 0))), (u15, .inl (cs.2.1, 32, .inl (fun _ => 0))), (u16, .inl (cs.1, 5, .inl (fun _ => 0))), (u17, .inl (cs.1, 5, .inl (fun _ => 0))), (u18, .inl (cs.1, 8, .inl (fun _ => 0))), (u19, .inl (cs.1, 8, .inl (fun _ => 0))), (u20, .inl (cs.1, 8, .inl (fun _ => 0))), (u21, .inl (cs.2.1, 8, .inl (fun _ => 0)))] : va_W)[o i]? = some (([g0, g1, g2, g3, g4, g5, g6, g7, g8, g9, g10, g11, g12, g13, g14, g15, g16, g17, g18, g19, g20, g21, g22, g23, g24, g25, g26, g28, g30, g32, g27, g29, g31, g33, u0, u1, u2, u3, u4, u5, u6, u7, u8, u9, u10, u11, u12, u13, u14, u15, u16, u17, u18, u19, u20, u21] : List Nat).getD i 0, en) := by
    refine ⟨fun i => ([0, 1, 2, 3, 4, 5, 6, 7, 8, 9, 10, 11, 12, 13, 14, 15, 16, 17, 18, 19, 20, 21, 22, 23, 24, 25, 26, 28, 30, 32, 27, 29, 31, 33, 34, 35, 36, 37, 38, 39, 40, 41, 42, 43, 44, 45, 46, 47, 48, 49, 50, 51, 52, 53, 54, 55] : List Nat).getD i 0, by decide +kernel, by decide +kernel, ?_⟩
    intro i hi
    match i, hi with
    | 0, _ => exact ⟨_, rfl⟩
    | 1, _ => exact ⟨_, rfl⟩
    | 2, _ => exact ⟨_, rfl⟩
    | 3, _ => exact ⟨_, rfl⟩
    | 4, _ => exact ⟨_, rfl⟩
    | 5, _ => exact ⟨_, rfl⟩
    | 6, _ => exact ⟨_, rfl⟩
    | 7, _ => exact ⟨_, rfl⟩
    | 8, _ => exact ⟨_, rfl⟩
    | 9, _ => exact ⟨_, rfl⟩
    | 10, _ => exact ⟨_, rfl⟩
    | 11, _ => exact ⟨_, rfl⟩
    | 12, _ => exact ⟨_, rfl⟩
    | 13, _ => exact ⟨_, rfl⟩
    | 14, _ => exact ⟨_, rfl⟩
    | 15, _ => exact ⟨_, rfl⟩
    | 16, _ => exact ⟨_, rfl⟩
    | 17, _ => exact ⟨_, rfl⟩
    | 18, _ => exact ⟨_, rfl⟩
    | 19, _ => exact ⟨_, rfl⟩
    | 20, _ => exact ⟨_, rfl⟩
    | 21, _ => exact ⟨_, rfl⟩
    | 22, _ => exact ⟨_, rfl⟩
    | 23, _ => exact ⟨_, rfl⟩
    | 24, _ => exact ⟨_, rfl⟩
    | 25, _ => exact ⟨_, rfl⟩
    | 26, _ => exact ⟨_, rfl⟩
    | 27, _ => exact ⟨_, rfl⟩
    | 28, _ => exact ⟨_, rfl⟩
    | 29, _ => exact ⟨_, rfl⟩
    | 30, _ => exact ⟨_, rfl⟩
    | 31, _ => exact ⟨_, rfl⟩
    | 32, _ => exact ⟨_, rfl⟩
    | 33, _ => exact ⟨_, rfl⟩
    | 34, _ => exact ⟨_, rfl⟩
    | 35, _ => exact ⟨_, rfl⟩
    | 36, _ => exact ⟨_, rfl⟩
    | 37, _ => exact ⟨_, rfl⟩
    | 38, _ => exact ⟨_, rfl⟩
    | 39, _ => exact ⟨_, rfl⟩
    | 40, _ => exact ⟨_, rfl⟩
    | 41, _ => exact ⟨_, rfl⟩
    | 42, _ => exact ⟨_, rfl⟩
    | 43, _ => exact ⟨_, rfl⟩
    | 44, _ => exact ⟨_, rfl⟩
    | 45, _ => exact ⟨_, rfl⟩
    | 46, _ => exact ⟨_, rfl⟩
    | 47, _ => exact ⟨_, rfl⟩
    | 48, _ => exact ⟨_, rfl⟩
    | 49, _ => exact ⟨_, rfl⟩
    | 50, _ => exact ⟨_, rfl⟩
    | 51, _ => exact ⟨_, rfl⟩
    | 52, _ => exact ⟨_, rfl⟩
    | 53, _ => exact ⟨_, rfl⟩
    | 54, _ => exact ⟨_, rfl⟩
    | 55, _ => exact ⟨_, rfl⟩
    | i + 56, hi => omega
  obtain ⟨o, h1, h2, h3⟩ := hw
  refine ⟨fun i j hi hj e => ?_, fun q hq => ?_⟩
  · obtain ⟨e1, g1⟩ := h3 i hi
    obtain ⟨e2, g2⟩ := h3 j hj
    exact h2 i hi j hj (hD.1 _ _ _ _ g1 g2 e)
  · obtain ⟨k, hk, rfl⟩ := hq
    obtain ⟨e1, g1⟩ := h3 k hk
    exact hD.2 _ _ g1
set_option maxRecDepth 100000 in
set_option maxHeartbeats 4000000 in
/-- THE LAW, from its entry -/
theorem whole_start {p : Program} {e : Env} {s : State} {m : MethodId} {below : List Frame} {meth : Method} {c : Code} (l : Launch) {b L : Nat} {xs : Nat → Int32} (hL : L ≤ 384) (C0 : lw_At p s m meth c b L xs) : W p l e room_1 s m #[Value.ref b] below meth c s.heap [] 0 0 (lw_Z below #[Value.ref b] s) (entryFrame m ([Value.ref b] : List Value).toArray 4) := by
  obtain ⟨hx, hb, hr, hml, hown, hts0, hX, hbl, hlocks, hgv⟩ := C0
  have hts : ∀ w ∈ gtb, w.before #[Value.ref b] s = true := fun w hw => hts0 w (List.mem_filter.mp hw).1
  obtain ⟨c0, i0, hk0⟩ := u_known (C := RX0) (T := TX0) (N := 5) (n := 5) hts i_X0 (hts (.instantiable RX0 5) (by decide +kernel))
  obtain ⟨c1, i1, hk1⟩ := u_known (C := RX1) (T := TX1) (N := 6) (n := 6) hts i_X1 (hts (.instantiable RX1 6) (by decide +kernel))
  obtain ⟨c2, i2, hk2⟩ := u_known (C := RX2) (T := TX2) (N := 4) (n := 4) hts i_X2 (hts (.instantiable RX2 4) (by decide +kernel))
  obtain ⟨c3, i3, hk3⟩ := u_known (C := RX3) (T := TX3) (N := 6) (n := 6) hts i_X3 (hts (.instantiable RX3 6) (by decide +kernel))
  obtain ⟨c4, i4, hk4⟩ := u_known (C := RX4) (T := TX4) (N := 3) (n := 3) hts i_X4 (hts (.instantiable RX4 3) (by decide +kernel))
  obtain ⟨c5, i5, hk5⟩ := u_known (C := RX5) (T := TX5) (N := 10) (n := 10) hts i_X5 (hts (.instantiable RX5 10) (by decide +kernel))
  obtain ⟨c6, i6, hk6⟩ := u_known (C := RX6) (T := TX6) (N := 33) (n := 33) hts i_X6 (hts (.instantiable RX6 33) (by decide +kernel))
  obtain ⟨cI, kI, mI, a1, a2, a3⟩ := Cond.arrayClass_spec (hts _ aw_I)
  obtain ⟨cZ, kZ, mZ, b1, b2, b3⟩ := Cond.arrayClass_spec (hts _ aw_Z)
  have hAO : va_AO "ChairGrudge$Sheet" s := va_AO.of (hts0 (Cond.arrayOver (.object "ChairGrudge$Sheet")) (List.mem_append_right _ (List.mem_of_getElem? (i := 135) (by decide +kernel))))
  obtain ⟨mS, cS, kS, f1, f2, f3, f4, f5⟩ := Cond.arrayOver_spec hAO
  obtain ⟨D, hKc⟩ : ∃ D : va_G, ∀ (k : Nat) (q : vw_C), vwCl[k]? = some q → u_Kn s q.1 q.2.1 q.2.2 (D.1 k) (D.2 k) := by
    refine ⟨(fun k => [c0, c1, c2, c3, c4, c5, c6].getD k 0, fun k => [i0, i1, i2, i3, i4, i5, i6].getD k (fun _ => 0)), ?_⟩
    intro k q hq
    match k, hq with
    | 0, hq => cases hq; exact hk0
    | 1, hq => cases hq; exact hk1
    | 2, hq => cases hq; exact hk2
    | 3, hq => cases hq; exact hk3
    | 4, hq => cases hq; exact hk4
    | 5, hq => cases hq; exact hk5
    | 6, hq => cases hq; exact hk6
    | k + 7, hq => simp [vwCl] at hq
  obtain ⟨cs, hcs⟩ : ∃ cs : CS3, cs = (cI, cZ, cS) := ⟨_, rfl⟩
  have hK : va_K D vwCl (tyS cs) s := by
    refine ⟨hKc, fun k q hq => ?_⟩
    subst hcs
    match k, hq with
    | 0, hq => cases hq; exact ⟨fun n z => ⟨fun k h => (by cases h), kI, a2, mI, a3⟩, a1⟩
    | 1, hq => cases hq; exact ⟨fun n z => ⟨fun k h => (by cases h), kZ, b2, mZ, b3⟩, b1⟩
    | 2, hq => cases hq; exact ⟨fun n z => ⟨fun k h => (by cases h), kS, f3, mS, f4⟩, kS, mS, f3, f4, f1, f5⟩
    | k + 3, hq => simp [tyS] at hq
  have hA : ∀ q : Nat, s.heap.size ≤ q → (fun q : Nat => s.heap.size ≤ q) q := fun _ h => h
  have hbA : ¬ (fun q : Nat => s.heap.size ≤ q) b := Nat.not_le.mpr hbl
  obtain ⟨C, hCe⟩ : ∃ C : CY, C = ((p, l, e, room_1, s, m, #[Value.ref b], below, meth, c), ((fun q : Nat => s.heap.size ≤ q), cs, D, lw_Z below #[Value.ref b] s)) := ⟨_, rfl⟩
  have hC : okY C RL cL_law 9 324 600000 7302250 := by
    subst hCe
    exact ⟨hx, hb, hown, hts, hK, hA, hAO, rfl, rfl, rfl, rfl⟩
  have ecs : csY C = cs := by subst hCe; rfl
  have hl := lh_entry (vs := [.ref b]) (n := 4) (k := 3) (L := [some (.ref b), none, none, none]) (Nat.le_of_ble_eq_true rfl) rfl rfl
  rw [← hml] at hl
  have main : Y C [] 0 0 0 [some (.ref b), none, none, none] [] := by
    refine y_new hC fw_L_7 (Nat.le_of_ble_eq_true rfl) (Nat.le_of_ble_eq_true rfl) dL_law_0 (fun g0 => ?_)
    refine y_dup hC dL_law_3 rfl ?_
    refine y_call (wr := []) (cells := 1) (slots := 10) (a := g0) (en := .inr (5, [.null, .null, .null, .null, .null, .null, .null, .null, .int 0, .int 0])) (As := []) (st := [.ref g0]) hC fi_L_9 ⟨Nat.le_of_ble_eq_true rfl, Nat.le_of_ble_eq_true rfl⟩ ⟨Nat.le_of_ble_eq_true rfl, Nat.le_of_ble_eq_true rfl⟩ (c_X5_init (lnY C) (dgY C) (csY C) g0) rfl rfl (Nat.le_of_ble_eq_true rfl) dL_law_4 (fun w1 hw1 => ?_)
    obtain ⟨g1, g2, g3, g4, g5, g6, g7, g8, g9, g10, g11, g12, g13, g14, g15, g16, g17, g18, g19, g20, g21, g22, g23, g24, g25, g26, g27, g28, g29, g30, g31, g32, g33, rfl⟩ := hw1
    rw [ecs]
    show Y C [(g0, .inr (5, [.ref g1, .ref g5, .ref g9, .ref g13, .ref g17, .ref g18, .ref g22, .ref g25, .int 0, .int 0])), (g1, .inr (0, [.ref g2, .ref g3, .ref g4, .int 0, .int 0])), (g2, .inl (cs.1, 5, .inl (fun _ => 0))), (g3, .inl (cs.1, 5, .inl (fun _ => 0))), (g4, .inl (cs.1, 5, .inl (fun _ => 0))), (g5, .inr (2, [.ref g6, .ref g7, .ref g8, .int 0])), (g6, .inl (cs.1, 8, .inl (fun _ => 0))), (g7, .inl (cs.1, 8, .inl (fun _ => 0))), (g8, .inl (cs.1, 8, .inl (fun _ => 0))), (g9, .inr (2, [.ref g10, .ref g11, .ref g12, .int 0])), (g10, .inl (cs.1, 8, .inl (fun _ => 0))), (g11, .inl (cs.1, 8, .inl (fun _ => 0))), (g12, .inl (cs.1, 8, .inl (fun _ => 0))), (g13, .inr (2, [.ref g14, .ref g15, .ref g16, .int 0])), (g14, .inl (cs.1, 8, .inl (fun _ => 0))), (g15, .inl (cs.1, 8, .inl (fun _ => 0))), (g16, .inl (cs.1, 8, .inl (fun _ => 0))), (g17, .inl (cs.2.1, 8, .inl (fun _ => 0))), (g18, .inr (1, [.ref g1, .ref g5, .ref g9, .ref g19, .ref g20, .ref g21])), (g19, .inl (cs.1, 5, .inl (fun _ => 0))), (g20, .inl (cs.1, 5, .inl (fun _ => 0))), (g21, .inl (cs.1, 5, .inl (fun _ => 0))), (g22, .inr (3, [.ref g1, .ref g21, .ref g23, .ref g24, .int 0, .int 0])), (g23, .inl (cs.1, 192, .inl (fun _ => 0))), (g24, .inl (cs.1, 5, .inl (fun _ => 0))), (g25, .inl (cs.2.2, 4, .inr (.inr (.inr (.inr (va_up (va_up (va_up (va_up (fun _ => none) 0 (some g26)) 1 (some g28)) 2 (some g30)) 3 (some g32))))))), (g26, .inr (4, [.ref g27, .int 0, .int (-1)])), (g27, .inl (cs.1, 60, .inl (fun _ => 0))), (g28, .inr (4, [.ref g29, .int 0, .int (-1)])), (g29, .inl (cs.1, 60, .inl (fun _ => 0))), (g30, .inr (4, [.ref g31, .int 0, .int (-1)])), (g31, .inl (cs.1, 60, .inl (fun _ => 0))), (g32, .inr (4, [.ref g33, .int 0, .int (-1)])), (g33, .inl (cs.1, 60, .inl (fun _ => 0)))] 34 602 7 [some (.ref b), none, none, none] [.ref g0]
    refine y_astore_n (L' := [some (.ref b), some (.ref g0), none, none]) hC dL_law_7 rfl (Nat.lt_of_ble rfl) rfl rfl ?_
    refine y_new hC fw_L_10 (Nat.le_of_ble_eq_true rfl) (Nat.le_of_ble_eq_true rfl) dL_law_8 (fun u0 => ?_)
    show Y C ([(g0, .inr (5, [.ref g1, .ref g5, .ref g9, .ref g13, .ref g17, .ref g18, .ref g22, .ref g25, .int 0, .int 0])), (g1, .inr (0, [.ref g2, .ref g3, .ref g4, .int 0, .int 0])), (g2, .inl (cs.1, 5, .inl (fun _ => 0))), (g3, .inl (cs.1, 5, .inl (fun _ => 0))), (g4, .inl (cs.1, 5, .inl (fun _ => 0))), (g5, .inr (2, [.ref g6, .ref g7, .ref g8, .int 0])), (g6, .inl (cs.1, 8, .inl (fun _ => 0))), (g7, .inl (cs.1, 8, .inl (fun _ => 0))), (g8, .inl (cs.1, 8, .inl (fun _ => 0))), (g9, .inr (2, [.ref g10, .ref g11, .ref g12, .int 0])), (g10, .inl (cs.1, 8, .inl (fun _ => 0))), (g11, .inl (cs.1, 8, .inl (fun _ => 0))), (g12, .inl (cs.1, 8, .inl (fun _ => 0))), (g13, .inr (2, [.ref g14, .ref g15, .ref g16, .int 0])), (g14, .inl (cs.1, 8, .inl (fun _ => 0))), (g15, .inl (cs.1, 8, .inl (fun _ => 0))), (g16, .inl (cs.1, 8, .inl (fun _ => 0))), (g17, .inl (cs.2.1, 8, .inl (fun _ => 0))), (g18, .inr (1, [.ref g1, .ref g5, .ref g9, .ref g19, .ref g20, .ref g21])), (g19, .inl (cs.1, 5, .inl (fun _ => 0))), (g20, .inl (cs.1, 5, .inl (fun _ => 0))), (g21, .inl (cs.1, 5, .inl (fun _ => 0))), (g22, .inr (3, [.ref g1, .ref g21, .ref g23, .ref g24, .int 0, .int 0])), (g23, .inl (cs.1, 192, .inl (fun _ => 0))), (g24, .inl (cs.1, 5, .inl (fun _ => 0))), (g25, .inl (cs.2.2, 4, .inr (.inr (.inr (.inr (va_up (va_up (va_up (va_up (fun _ => none) 0 (some g26)) 1 (some g28)) 2 (some g30)) 3 (some g32))))))), (g26, .inr (4, [.ref g27, .int 0, .int (-1)])), (g27, .inl (cs.1, 60, .inl (fun _ => 0))), (g28, .inr (4, [.ref g29, .int 0, .int (-1)])), (g29, .inl (cs.1, 60, .inl (fun _ => 0))), (g30, .inr (4, [.ref g31, .int 0, .int (-1)])), (g31, .inl (cs.1, 60, .inl (fun _ => 0))), (g32, .inr (4, [.ref g33, .int 0, .int (-1)])), (g33, .inl (cs.1, 60, .inl (fun _ => 0)))] ++ [(u0, .inr (6, [.int 0, .int 0, .null, .null, .null, .int 0, .int 0, .null, .null, .null, .int 0, .null, .null, .null, .int 0, .null, .null, .null, .int 0, .int 0, .int 0, .int 0, .int 0, .null, .null, .null, .null, .null, .int 0, .null, .null, .null, .null]))]) 35 635 11 [some (.ref b), some (.ref g0), none, none] [.ref u0]
    refine y_dup hC dL_law_11 rfl ?_
    refine y_call (wr := [(g0, .inr (5, [.ref g1, .ref g5, .ref g9, .ref g13, .ref g17, .ref g18, .ref g22, .ref g25, .int 0, .int 0])), (g1, .inr (0, [.ref g2, .ref g3, .ref g4, .int 0, .int 0])), (g2, .inl (cs.1, 5, .inl (fun _ => 0))), (g3, .inl (cs.1, 5, .inl (fun _ => 0))), (g4, .inl (cs.1, 5, .inl (fun _ => 0))), (g5, .inr (2, [.ref g6, .ref g7, .ref g8, .int 0])), (g6, .inl (cs.1, 8, .inl (fun _ => 0))), (g7, .inl (cs.1, 8, .inl (fun _ => 0))), (g8, .inl (cs.1, 8, .inl (fun _ => 0))), (g9, .inr (2, [.ref g10, .ref g11, .ref g12, .int 0])), (g10, .inl (cs.1, 8, .inl (fun _ => 0))), (g11, .inl (cs.1, 8, .inl (fun _ => 0))), (g12, .inl (cs.1, 8, .inl (fun _ => 0))), (g13, .inr (2, [.ref g14, .ref g15, .ref g16, .int 0])), (g14, .inl (cs.1, 8, .inl (fun _ => 0))), (g15, .inl (cs.1, 8, .inl (fun _ => 0))), (g16, .inl (cs.1, 8, .inl (fun _ => 0))), (g17, .inl (cs.2.1, 8, .inl (fun _ => 0))), (g18, .inr (1, [.ref g1, .ref g5, .ref g9, .ref g19, .ref g20, .ref g21])), (g19, .inl (cs.1, 5, .inl (fun _ => 0))), (g20, .inl (cs.1, 5, .inl (fun _ => 0))), (g21, .inl (cs.1, 5, .inl (fun _ => 0))), (g22, .inr (3, [.ref g1, .ref g21, .ref g23, .ref g24, .int 0, .int 0])), (g23, .inl (cs.1, 192, .inl (fun _ => 0))), (g24, .inl (cs.1, 5, .inl (fun _ => 0))), (g25, .inl (cs.2.2, 4, .inr (.inr (.inr (.inr (va_up (va_up (va_up (va_up (fun _ => none) 0 (some g26)) 1 (some g28)) 2 (some g30)) 3 (some g32))))))), (g26, .inr (4, [.ref g27, .int 0, .int (-1)])), (g27, .inl (cs.1, 60, .inl (fun _ => 0))), (g28, .inr (4, [.ref g29, .int 0, .int (-1)])), (g29, .inl (cs.1, 60, .inl (fun _ => 0))), (g30, .inr (4, [.ref g31, .int 0, .int (-1)])), (g31, .inl (cs.1, 60, .inl (fun _ => 0))), (g32, .inr (4, [.ref g33, .int 0, .int (-1)])), (g33, .inl (cs.1, 60, .inl (fun _ => 0)))]) (cells := 35) (slots := 635) (a := u0) (en := .inr (6, [.int 0, .int 0, .null, .null, .null, .int 0, .int 0, .null, .null, .null, .int 0, .null, .null, .null, .int 0, .null, .null, .null, .int 0, .int 0, .int 0, .int 0, .int 0, .null, .null, .null, .null, .null, .int 0, .null, .null, .null, .null])) (As := []) (st := [.ref u0]) hC fi_L_12 ⟨Nat.le_of_ble_eq_true rfl, Nat.le_of_ble_eq_true rfl⟩ ⟨Nat.le_of_ble_eq_true rfl, Nat.le_of_ble_eq_true rfl⟩ (c_X6_init (lnY C) (dgY C) (csY C) u0) rfl rfl (Nat.le_of_ble_eq_true rfl) dL_law_12 (fun w1 hw1 => ?_)
    obtain ⟨u1, u2, u3, u4, u5, u6, u7, u8, u9, u10, u11, u12, u13, u14, u15, u16, u17, u18, u19, u20, u21, rfl⟩ := hw1
    rw [ecs]
    show Y C [(g0, .inr (5, [.ref g1, .ref g5, .ref g9, .ref g13, .ref g17, .ref g18, .ref g22, .ref g25, .int 0, .int 0])), (g1, .inr (0, [.ref g2, .ref g3, .ref g4, .int 0, .int 0])), (g2, .inl (cs.1, 5, .inl (fun _ => 0))), (g3, .inl (cs.1, 5, .inl (fun _ => 0))), (g4, .inl (cs.1, 5, .inl (fun _ => 0))), (g5, .inr (2, [.ref g6, .ref g7, .ref g8, .int 0])), (g6, .inl (cs.1, 8, .inl (fun _ => 0))), (g7, .inl (cs.1, 8, .inl (fun _ => 0))), (g8, .inl (cs.1, 8, .inl (fun _ => 0))), (g9, .inr (2, [.ref g10, .ref g11, .ref g12, .int 0])), (g10, .inl (cs.1, 8, .inl (fun _ => 0))), (g11, .inl (cs.1, 8, .inl (fun _ => 0))), (g12, .inl (cs.1, 8, .inl (fun _ => 0))), (g13, .inr (2, [.ref g14, .ref g15, .ref g16, .int 0])), (g14, .inl (cs.1, 8, .inl (fun _ => 0))), (g15, .inl (cs.1, 8, .inl (fun _ => 0))), (g16, .inl (cs.1, 8, .inl (fun _ => 0))), (g17, .inl (cs.2.1, 8, .inl (fun _ => 0))), (g18, .inr (1, [.ref g1, .ref g5, .ref g9, .ref g19, .ref g20, .ref g21])), (g19, .inl (cs.1, 5, .inl (fun _ => 0))), (g20, .inl (cs.1, 5, .inl (fun _ => 0))), (g21, .inl (cs.1, 5, .inl (fun _ => 0))), (g22, .inr (3, [.ref g1, .ref g21, .ref g23, .ref g24, .int 0, .int 0])), (g23, .inl (cs.1, 192, .inl (fun _ => 0))), (g24, .inl (cs.1, 5, .inl (fun _ => 0))), (g25, .inl (cs.2.2, 4, .inr (.inr (.inr (.inr (va_up (va_up (va_up (va_up (fun _ => none) 0 (some g26)) 1 (some g28)) 2 (some g30)) 3 (some g32))))))), (g26, .inr (4, [.ref g27, .int 0, .int (-1)])), (g27, .inl (cs.1, 60, .inl (fun _ => 0))), (g28, .inr (4, [.ref g29, .int 0, .int (-1)])), (g29, .inl (cs.1, 60, .inl (fun _ => 0))), (g30, .inr (4, [.ref g31, .int 0, .int (-1)])), (g31, .inl (cs.1, 60, .inl (fun _ => 0))), (g32, .inr (4, [.ref g33, .int 0, .int (-1)])), (g33, .inl (cs.1, 60, .inl (fun _ => 0))), (u0, .inr (6, [.int 0, .int 0, .ref u1, .ref u2, .ref u3, .int 0, .int 0, .ref u4, .ref u5, .ref u6, .int 0, .ref u7, .ref u8, .ref u9, .int 0, .ref u10, .ref u11, .ref u12, .int 0, .int (-9), .int 0, .int 0, .int 0, .ref u13, .ref u14, .ref u15, .ref u16, .ref u17, .int 0, .ref u18, .ref u19, .ref u20, .ref u21])), (u1, .inl (cs.1, 4, .inl (upd (upd (upd (upd (fun _ => 0) 0 (-9)) 1 (-9)) 2 (-9)) 3 (-9)))), (u2, .inl (cs.1, 4, .inl (fun _ => 0))), (u3, .inl (cs.1, 240, .inl (fun _ => 0))), (u4, .inl (cs.1, 5, .inl (fun _ => 0))), (u5, .inl (cs.1, 5, .inl (fun _ => 0))), (u6, .inl (cs.1, 5, .inl (fun _ => 0))), (u7, .inl (cs.1, 8, .inl (fun _ => 0))), (u8, .inl (cs.1, 8, .inl (fun _ => 0))), (u9, .inl (cs.1, 8, .inl (fun _ => 0))), (u10, .inl (cs.1, 8, .inl (fun _ => 0))), (u11, .inl (cs.1, 8, .inl (fun _ => 0))), (u12, .inl (cs.1, 8, .inl (fun _ => 0))), (u13, .inl (cs.1, 15, .inl (fun _ => 0))), (u14, .inl (cs.1, 5, .inl (fun _ => 0))), (u15, .inl (cs.2.1, 32, .inl (fun _ => 0))), (u16, .inl (cs.1, 5, .inl (fun _ => 0))), (u17, .inl (cs.1, 5, .inl (fun _ => 0))), (u18, .inl (cs.1, 8, .inl (fun _ => 0))), (u19, .inl (cs.1, 8, .inl (fun _ => 0))), (u20, .inl (cs.1, 8, .inl (fun _ => 0))), (u21, .inl (cs.2.1, 8, .inl (fun _ => 0)))] 56 1040 15 [some (.ref b), some (.ref g0), none, none] [.ref u0]
    refine y_astore_n (L' := [some (.ref b), some (.ref g0), some (.ref u0), none]) hC dL_law_15 rfl (Nat.lt_of_ble rfl) rfl rfl ?_
    refine y_iconst (v := 0) hC dL_law_16 (by decide) ?_
    refine y_istore_n (L' := [some (.ref b), some (.ref g0), some (.ref u0), some (.int 0)]) hC dL_law_17 rfl (Nat.lt_of_ble rfl) rfl rfl ?_
    subst hCe
    intro H locs ls hP hD hS hl
    have hP : va_P D vwCl [(g0, .inr (5, [.ref g1, .ref g5, .ref g9, .ref g13, .ref g17, .ref g18, .ref g22, .ref g25, .int 0, .int 0])), (g1, .inr (0, [.ref g2, .ref g3, .ref g4, .int 0, .int 0])), (g2, .inl (cs.1, 5, .inl (fun _ => 0))), (g3, .inl (cs.1, 5, .inl (fun _ => 0))), (g4, .inl (cs.1, 5, .inl (fun _ => 0))), (g5, .inr (2, [.ref g6, .ref g7, .ref g8, .int 0])), (g6, .inl (cs.1, 8, .inl (fun _ => 0))), (g7, .inl (cs.1, 8, .inl (fun _ => 0))), (g8, .inl (cs.1, 8, .inl (fun _ => 0))), (g9, .inr (2, [.ref g10, .ref g11, .ref g12, .int 0])), (g10, .inl (cs.1, 8, .inl (fun _ => 0))), (g11, .inl (cs.1, 8, .inl (fun _ => 0))), (g12, .inl (cs.1, 8, .inl (fun _ => 0))), (g13, .inr (2, [.ref g14, .ref g15, .ref g16, .int 0])), (g14, .inl (cs.1, 8, .inl (fun _ => 0))), (g15, .inl (cs.1, 8, .inl (fun _ => 0))), (g16, .inl (cs.1, 8, .inl (fun _ => 0))), (g17, .inl (cs.2.1, 8, .inl (fun _ => 0))), (g18, .inr (1, [.ref g1, .ref g5, .ref g9, .ref g19, .ref g20, .ref g21])), (g19, .inl (cs.1, 5, .inl (fun _ => 0))), (g20, .inl (cs.1, 5, .inl (fun _ => 0))), (g21, .inl (cs.1, 5, .inl (fun _ => 0))), (g22, .inr (3, [.ref g1, .ref g21, .ref g23, .ref g24, .int 0, .int 0])), (g23, .inl (cs.1, 192, .inl (fun _ => 0))), (g24, .inl (cs.1, 5, .inl (fun _ => 0))), (g25, .inl (cs.2.2, 4, .inr (.inr (.inr (.inr (va_up (va_up (va_up (va_up (fun _ => none) 0 (some g26)) 1 (some g28)) 2 (some g30)) 3 (some g32))))))), (g26, .inr (4, [.ref g27, .int 0, .int (-1)])), (g27, .inl (cs.1, 60, .inl (fun _ => 0))), (g28, .inr (4, [.ref g29, .int 0, .int (-1)])), (g29, .inl (cs.1, 60, .inl (fun _ => 0))), (g30, .inr (4, [.ref g31, .int 0, .int (-1)])), (g31, .inl (cs.1, 60, .inl (fun _ => 0))), (g32, .inr (4, [.ref g33, .int 0, .int (-1)])), (g33, .inl (cs.1, 60, .inl (fun _ => 0))), (u0, .inr (6, [.int 0, .int 0, .ref u1, .ref u2, .ref u3, .int 0, .int 0, .ref u4, .ref u5, .ref u6, .int 0, .ref u7, .ref u8, .ref u9, .int 0, .ref u10, .ref u11, .ref u12, .int 0, .int (-9), .int 0, .int 0, .int 0, .ref u13, .ref u14, .ref u15, .ref u16, .ref u17, .int 0, .ref u18, .ref u19, .ref u20, .ref u21])), (u1, .inl (cs.1, 4, .inl (upd (upd (upd (upd (fun _ => 0) 0 (-9)) 1 (-9)) 2 (-9)) 3 (-9)))), (u2, .inl (cs.1, 4, .inl (fun _ => 0))), (u3, .inl (cs.1, 240, .inl (fun _ => 0))), (u4, .inl (cs.1, 5, .inl (fun _ => 0))), (u5, .inl (cs.1, 5, .inl (fun _ => 0))), (u6, .inl (cs.1, 5, .inl (fun _ => 0))), (u7, .inl (cs.1, 8, .inl (fun _ => 0))), (u8, .inl (cs.1, 8, .inl (fun _ => 0))), (u9, .inl (cs.1, 8, .inl (fun _ => 0))), (u10, .inl (cs.1, 8, .inl (fun _ => 0))), (u11, .inl (cs.1, 8, .inl (fun _ => 0))), (u12, .inl (cs.1, 8, .inl (fun _ => 0))), (u13, .inl (cs.1, 15, .inl (fun _ => 0))), (u14, .inl (cs.1, 5, .inl (fun _ => 0))), (u15, .inl (cs.2.1, 32, .inl (fun _ => 0))), (u16, .inl (cs.1, 5, .inl (fun _ => 0))), (u17, .inl (cs.1, 5, .inl (fun _ => 0))), (u18, .inl (cs.1, 8, .inl (fun _ => 0))), (u19, .inl (cs.1, 8, .inl (fun _ => 0))), (u20, .inl (cs.1, 8, .inl (fun _ => 0))), (u21, .inl (cs.2.1, 8, .inl (fun _ => 0)))] H := hP
    have hD : va_D (fun q : Nat => s.heap.size ≤ q) [(g0, .inr (5, [.ref g1, .ref g5, .ref g9, .ref g13, .ref g17, .ref g18, .ref g22, .ref g25, .int 0, .int 0])), (g1, .inr (0, [.ref g2, .ref g3, .ref g4, .int 0, .int 0])), (g2, .inl (cs.1, 5, .inl (fun _ => 0))), (g3, .inl (cs.1, 5, .inl (fun _ => 0))), (g4, .inl (cs.1, 5, .inl (fun _ => 0))), (g5, .inr (2, [.ref g6, .ref g7, .ref g8, .int 0])), (g6, .inl (cs.1, 8, .inl (fun _ => 0))), (g7, .inl (cs.1, 8, .inl (fun _ => 0))), (g8, .inl (cs.1, 8, .inl (fun _ => 0))), (g9, .inr (2, [.ref g10, .ref g11, .ref g12, .int 0])), (g10, .inl (cs.1, 8, .inl (fun _ => 0))), (g11, .inl (cs.1, 8, .inl (fun _ => 0))), (g12, .inl (cs.1, 8, .inl (fun _ => 0))), (g13, .inr (2, [.ref g14, .ref g15, .ref g16, .int 0])), (g14, .inl (cs.1, 8, .inl (fun _ => 0))), (g15, .inl (cs.1, 8, .inl (fun _ => 0))), (g16, .inl (cs.1, 8, .inl (fun _ => 0))), (g17, .inl (cs.2.1, 8, .inl (fun _ => 0))), (g18, .inr (1, [.ref g1, .ref g5, .ref g9, .ref g19, .ref g20, .ref g21])), (g19, .inl (cs.1, 5, .inl (fun _ => 0))), (g20, .inl (cs.1, 5, .inl (fun _ => 0))), (g21, .inl (cs.1, 5, .inl (fun _ => 0))), (g22, .inr (3, [.ref g1, .ref g21, .ref g23, .ref g24, .int 0, .int 0])), (g23, .inl (cs.1, 192, .inl (fun _ => 0))), (g24, .inl (cs.1, 5, .inl (fun _ => 0))), (g25, .inl (cs.2.2, 4, .inr (.inr (.inr (.inr (va_up (va_up (va_up (va_up (fun _ => none) 0 (some g26)) 1 (some g28)) 2 (some g30)) 3 (some g32))))))), (g26, .inr (4, [.ref g27, .int 0, .int (-1)])), (g27, .inl (cs.1, 60, .inl (fun _ => 0))), (g28, .inr (4, [.ref g29, .int 0, .int (-1)])), (g29, .inl (cs.1, 60, .inl (fun _ => 0))), (g30, .inr (4, [.ref g31, .int 0, .int (-1)])), (g31, .inl (cs.1, 60, .inl (fun _ => 0))), (g32, .inr (4, [.ref g33, .int 0, .int (-1)])), (g33, .inl (cs.1, 60, .inl (fun _ => 0))), (u0, .inr (6, [.int 0, .int 0, .ref u1, .ref u2, .ref u3, .int 0, .int 0, .ref u4, .ref u5, .ref u6, .int 0, .ref u7, .ref u8, .ref u9, .int 0, .ref u10, .ref u11, .ref u12, .int 0, .int (-9), .int 0, .int 0, .int 0, .ref u13, .ref u14, .ref u15, .ref u16, .ref u17, .int 0, .ref u18, .ref u19, .ref u20, .ref u21])), (u1, .inl (cs.1, 4, .inl (upd (upd (upd (upd (fun _ => 0) 0 (-9)) 1 (-9)) 2 (-9)) 3 (-9)))), (u2, .inl (cs.1, 4, .inl (fun _ => 0))), (u3, .inl (cs.1, 240, .inl (fun _ => 0))), (u4, .inl (cs.1, 5, .inl (fun _ => 0))), (u5, .inl (cs.1, 5, .inl (fun _ => 0))), (u6, .inl (cs.1, 5, .inl (fun _ => 0))), (u7, .inl (cs.1, 8, .inl (fun _ => 0))), (u8, .inl (cs.1, 8, .inl (fun _ => 0))), (u9, .inl (cs.1, 8, .inl (fun _ => 0))), (u10, .inl (cs.1, 8, .inl (fun _ => 0))), (u11, .inl (cs.1, 8, .inl (fun _ => 0))), (u12, .inl (cs.1, 8, .inl (fun _ => 0))), (u13, .inl (cs.1, 15, .inl (fun _ => 0))), (u14, .inl (cs.1, 5, .inl (fun _ => 0))), (u15, .inl (cs.2.1, 32, .inl (fun _ => 0))), (u16, .inl (cs.1, 5, .inl (fun _ => 0))), (u17, .inl (cs.1, 5, .inl (fun _ => 0))), (u18, .inl (cs.1, 8, .inl (fun _ => 0))), (u19, .inl (cs.1, 8, .inl (fun _ => 0))), (u20, .inl (cs.1, 8, .inl (fun _ => 0))), (u21, .inl (cs.2.1, 8, .inl (fun _ => 0)))] := hD
    obtain ⟨nn, hlp⟩ := law_pure b L xs hL
    have hZ := wl_L_law_18 (X := ((p, l, e, room_1, s, m, #[Value.ref b], below, meth, c), ((fun q : Nat => s.heap.size ≤ q), (fun k => ([g0, g1, g2, g3, g4, g5, g6, g7, g8, g9, g10, g11, g12, g13, g14, g15, g16, g17, g18, g19, g20, g21, g22, g23, g24, g25, g26, g28, g30, g32, g27, g29, g31, g33, u0, u1, u2, u3, u4, u5, u6, u7, u8, u9, u10, u11, u12, u13, u14, u15, u16, u17, u18, u19, u20, u21] : List Nat).getD k 0), cs, D, 56, 1040, lw_Z below #[Value.ref b] s))) b L xs ⟨hX, hbl, hbA⟩ ⟨hx, hb, hown, hts, hK, to_ad g0 g1 g2 g3 g4 g5 g6 g7 g8 g9 g10 g11 g12 g13 g14 g15 g16 g17 g18 g19 g20 g21 g22 g23 g24 g25 g26 g27 g28 g29 g30 g31 g32 g33 u0 u1 u2 u3 u4 u5 u6 u7 u8 u9 u10 u11 u12 u13 u14 u15 u16 u17 u18 u19 u20 u21 hD, rfl, rfl, Nat.le_of_ble_eq_true rfl, Nat.le_of_ble_eq_true rfl⟩ (post := fun r _ => r = 1) (fun r M' _ hr1 => ?_) nn 0 M0 hlp
    · exact hZ H locs ls (to_wld g0 g1 g2 g3 g4 g5 g6 g7 g8 g9 g10 g11 g12 g13 g14 g15 g16 g17 g18 g19 g20 g21 g22 g23 g24 g25 g26 g27 g28 g29 g30 g31 g32 g33 u0 u1 u2 u3 u4 u5 u6 u7 u8 u9 u10 u11 u12 u13 u14 u15 u16 u17 u18 u19 u20 u21 hP) hS hl
    · subst hr1
      intro pc ls H locs hd hP hS
      refine va_forget (fun q hq => hS.2.2 q hq) ?_
      refine W.widen (k := 600000) (n := 7302250) (Nat.le_of_ble_eq_true rfl) (Nat.le_of_ble_eq_true rfl) ?_
      exact lw_ret hx hb hr hlocks hd
  subst hCe
  rw [lg_entry_eq]
  rw [← hml]
  exact main s.heap [] _ (fun k q h => by simp at h) ⟨fun i j p q h => by simp at h, fun k q h => by simp at h⟩ va_S.rf hl
-- ===== YOUR PART ENDS =====
set_option maxHeartbeats 4000000 in
theorem lw_walk (l : Launch) (b : Addr) (xs : List Int32) : MetFree l x (headSpec (Jvm.Cond.code x code maxLocals ret :: tables_1) room_1) (lw_P b xs) (fun _ _ _ _ _ => True) lw_Q := by
  refine MetFree.of_bodyS (code := code) (maxLocals := maxLocals) (ret := ret) (by decide) ?_ ?_
  · intro args s m h hn
    obtain ⟨meth, c, h1, h2, h3, h4, h5, h6, -, -⟩ := Cond.code_spec hn (atoms_spec (ws := Jvm.Cond.code x code maxLocals ret :: tables_1) h _ List.mem_cons_self)
    exact ⟨meth, c, h1, h2, h3, h4, h5, h6⟩
  · intro p e s m args below meth c s₁ B hml0 hP _
    obtain ⟨rfl, hx, hbd, hgv⟩ := hP
    obtain ⟨scr, harrAt, hlist, hof, hsmall⟩ := hx
    obtain ⟨hcb, hkn, -, -⟩ := State.arrayAt?_spec harrAt
    have hown : s.vm.findClass R_law = some m.cls := findClass_of_methodNamed B.named
    have hts0 : ∀ c ∈ (Jvm.Cond.code x code maxLocals ret :: tables_1), c.before #[Value.ref b] s = true := atoms_spec (ws := Jvm.Cond.code x code maxLocals ret :: tables_1) B.pre
    have hts : ∀ w ∈ lw_tbl, w.before #[Value.ref b] s = true := k2_hts_sels lw_privs (fun w hw => hts0 w (List.mem_cons_of_mem _ hw)) lw_privs_ok
    have hml : c.maxLocals = 4 := B.maxLocals_eq (hts0 _ List.mem_cons_self)
    have X₀ : Stand p l e room_1 s m #[Value.ref b] below meth c s₁ [] 0 0 := Stand.of_body B
    have hh0 : s₁.heap = s.heap := by rw [B.state]; rfl
    have hsz : scr.slots.size = xs.length := by rw [← Array.length_toList, hlist, List.length_map]
    have hval : ∀ j : Nat, j < xs.length → scr.slots[j]? = some (.int (xs.getD j 0)) := fun j hj => by
      rw [← Array.getElem?_toList, hlist]
      simp [hj]
    have hbl : b < s.heap.size := (Array.getElem?_eq_some_iff.mp hcb).1
    have hX : va_X b xs.length (fun j => xs.getD j 0) s s.heap := ⟨scr, hcb, hof, hkn, hsz, hval⟩
    have K : W p l e room_1 s m #[Value.ref b] below meth c s₁.heap [] 0 0 (lw_Z below #[Value.ref b] s) (entryFrame m ([Value.ref b] : List Value).toArray 4) := by
      rw [hh0]
      exact whole_start l hbd ⟨B.exec, B.bytes, B.returns, hml, hown, hts, hX, hbl, B.notSynchronized, hgv⟩
    obtain ⟨t, a1, o, b1, b2, b3⟩ := K s₁ rfl X₀
    exact ⟨t, o, a1, b1, b2, b3⟩
theorem lw_pre_spec {args : Array Value} {s : State} (h : (Jvm.Cond.and given_1 narrow_1).before args s = true) (hr : rest_1_c.before args s = true) : ∃ (b : Addr) (xs : List Int32), lw_P b xs args s := by
  have hs := flat_of_before _ h
  have hq := flat_of_before _ hr
  have hc : (Cond.count 1).before args s = true := hs _ (by decide +kernel)
  have harr : (Cond.arrayOf (.arg 0) .int).before args s = true := hs _ (by decide +kernel)
  have hle : (Cond.le (.length (.arg 0)) (.int 384)).before args s = true := hs _ (by decide +kernel)
  have hlen : (Cond.isInt (.length (.arg 0))).before args s = true := hq _ (by decide +kernel)
  have hall : (Cond.all (.arg 0) (.isInt (.elem (.arg 0) (.index 0)))).before args s = true := hq _ (by decide +kernel)
  obtain ⟨b, xs, hb, hx⟩ := State.ints_of_pre rfl harr hlen hall
  have hsm : xs.length < 2 ^ 31 := hx.choose_spec.2.2.2
  have hev : (Term.length (.arg 0)).eval args s none [] s = some (.int xs.length.toInt32) := hx.length_eval hb
  have hv := Cond.le_ints hev (show (Term.int 384).eval args s none [] s = some (.int 384) from rfl)
  have hd : xs.length.toInt32 ≤ 384 := by
    simpa [Cond.before, Cond.holds, hv] using hle
  have hN : xs.length ≤ 384 := (Int32.ofNat_le_ofNat hsm (by decide)).mp (show Int32.ofNat xs.length ≤ Int32.ofNat 384 from hd)
  exact ⟨b, xs, Cond.one_arg hc (show args[0]? = some (.ref b) from hb), hx, hN, h⟩
theorem lw_comes (l : Launch) : Comes l x (Jvm.Cond.code x code maxLocals ret :: tables_1) room_1 (fun tb e args s => Calls_1 tb e args s ∧ rest_1 tb e args s ∧ Pre_1 tb e args s)
    (fun _ _ args s o t => lw_Q args s o t) := by
  intro p e ha hc hk s m args below hf hfit hheap happ hpre
  obtain ⟨b, xs, hP⟩ := lw_pre_spec hpre.2.2 hpre.2.1
  obtain ⟨k, o, h1, h2, h3, hQ⟩ := lw_walk l b xs p e ha hc hk s m args below hf ((Spec.applies_iff_loose hf).mp happ).1 hP trivial
  exact ⟨k, o, h1, h2, h3, hQ⟩
theorem lw_frame {s t : State} {o : Outcome} {args : Array Value} (h : Framed s o t [] 600000 7302250) :
    Framed s o t (fieldLocs frame_1_writes args s ++ arrayLocs frame_1_arrays args s ++ staticLocs frame_1_statics s) 600000 7302250 := h
theorem lw_limb (L : Cond) (hL : ∀ (args : Array Value) (s t : State), L.after args s (.returned (some (.int 1))) t = true) :
    ArmFor flags0 classFile x code maxLocals ret World_1 tables_1 room_1 Calls_1 rest_1 Pre_1
      (fun tb e a s o t => postC L tb e a s o t ∧ Framed s o t (fieldLocs frame_1_writes a s ++ arrayLocs frame_1_arrays a s ++ staticLocs frame_1_statics s) 600000 7302250) := by
  intro l _ _ _ p e ha hc hk s m args below hf hfit hheap happ hpre
  obtain ⟨k, o, h1, h2, h3, rfl, hF⟩ := lw_comes l p e ha hc hk s m args below hf hfit hheap happ hpre
  exact ⟨k, _, h1, h2, h3, hL args s _, lw_frame hF⟩
theorem i_vc : Claimed_1_1 ∧ Claimed_1_2 := ⟨lw_limb limb_1_1 (fun args s t => by simp [limb_1_1, Cond.after, Cond.holds, Cond.value]), lw_limb limb_1_2 (fun args s t => Cond.after_iff.mpr (by
  first | (rw [show limb_1_2 = Cond.eq .result (.int 1) from rfl, Cond.eq_ints (x := 1) (y := 1) rfl rfl]; simp; done) | (simp [limb_1_2, Cond.value, Term.eval]; done)))⟩
