def wp_X3_at (p0 : Int32) (p1 : Int32) (M : Mem) (post : Int32 → Mem → Prop) : Prop := post ((p0 <<< (5 &&& 31)) + p1) M
set_option maxRecDepth 100000 in
theorem wk_X3_at {X : CT} (p0 : Int32) (p1 : Int32) (hX : okX X RX3 cX3_at 0 0) {M : Mem} {post : Int32 → Mem → Prop} (hret : ∀ (r : Int32) (M' : Mem), narrow .int (.int r) = .int r → post r M' → RetI X cX3_at r M') (h : wp_X3_at p0 p1 M post) : Z X M 0 [some (.int p0), some (.int p1)] [] := by
  unfold wp_X3_at at h
  refine r_iload_n hX dX3_at_0 rfl rfl ?_
  refine r_iconst (v := 5) hX dX3_at_1 (by decide) ?_
  refine r_ishl hX dX3_at_2 ?_
  refine r_iload_n hX dX3_at_3 rfl rfl ?_
  refine r_iadd hX dX3_at_4 ?_
  exact r_iret (hret _ _ rfl h) dX3_at_5
set_option maxRecDepth 100000 in
theorem c_X3_at {l : Launch} {D : va_G} {cs : CS3} {ad : Nat → Nat} (p0 : Int32) (p1 : Int32) {M : Mem} {post : Int32 → Mem → Prop} (h : wp_X3_at p0 p1 M post) : CtI l D cs ad yX3_at cX3_at 2 (some .int) 0 0 [.int p0, .int p1] M post := met_I (k := 0) (fun ad => [.int p0, .int p1]) (fun ad => [some (.int p0), some (.int p1)]) (by decide +kernel) (fun _ => Nat.le_of_ble_eq_true rfl) (fun _ => rfl) (fun _ => rfl) (fun X hX hret => wk_X3_at p0 p1 hX hret h)
def jn_X3_costOf_45 (p1 : Int32) (p2 : Int32) (p3 : Int32) (post : Int32 → Mem → Prop) (s0 : Int32) (M : Mem) : Prop := (wp_X3_at (p1 + 1) (p2 ||| (1 <<< (p3 &&& 31))) M (fun r1 M2 => (vp_in r1 192 ∧ post (s0 + (M2 23 r1.toNatClampNeg)) M2)))
set_option maxRecDepth 100000 in
theorem wj_X3_costOf_45 {X : CT} (p1 : Int32) (p2 : Int32) (p3 : Int32) (hX : okX X RX3 cX3_costOf 1 21) {post : Int32 → Mem → Prop} (hret : ∀ (r : Int32) (M' : Mem), narrow .int (.int r) = .int r → post r M' → RetI X cX3_costOf r M') (s0 : Int32) (M : Mem) (h : jn_X3_costOf_45 p1 p2 p3 post s0 M) : Z X M 45 [some (.ref (adX X 22)), some (.int p1), some (.int p2), some (.int p3), none] [.int s0] := by
  unfold jn_X3_costOf_45 at h
  refine r_istore (L' := [some (.ref (adX X 22)), some (.int p1), some (.int p2), some (.int p3), some (.int s0)]) hX dX3_costOf_45 (Nat.lt_of_ble rfl) rfl rfl ?_
  refine r_iload hX dX3_costOf_47 rfl ?_
  refine r_aload_n hX dX3_costOf_49 rfl rfl ?_
  refine r_getR hX fg_X3_19 ly_22 rfl dX3_costOf_50 ?_
  refine r_iload_n hX dX3_costOf_53 rfl rfl ?_
  refine r_iconst (v := 1) hX dX3_costOf_54 (by decide) ?_
  refine r_iadd hX dX3_costOf_55 ?_
  refine r_iload_n hX dX3_costOf_56 rfl rfl ?_
  refine r_iconst (v := 1) hX dX3_costOf_57 (by decide) ?_
  refine r_iload_n hX dX3_costOf_58 rfl rfl ?_
  refine r_ishl hX dX3_costOf_59 ?_
  refine r_ior hX dX3_costOf_60 ?_
  refine r_cSi2 hX fs_X3_44 ⟨Nat.le_of_ble_eq_true rfl, Nat.le_of_ble_eq_true rfl⟩ (c_X3_at (p1 + 1) (p2 ||| (1 <<< (p3 &&& 31))) h) (Nat.le_of_ble_eq_true rfl) dX3_costOf_61 (fun r1 M2 h => ?_)
  refine r_iald hX ly_23 h.1 dX3_costOf_64 ?_
  have h := h.2
  refine r_iadd hX dX3_costOf_65 ?_
  exact r_iret (hret _ _ rfl h) dX3_costOf_66
def wp_X3_costOf (p1 : Int32) (p2 : Int32) (p3 : Int32) (M : Mem) (post : Int32 → Mem → Prop) : Prop := ((¬ p3 = (-9) → (vp_in p3 5 ∧ (((((M 21 p3.toNatClampNeg) >>> (p1 &&& 31)) &&& 1) = 0 → jn_X3_costOf_45 p1 p2 p3 post (M 22 4) M) ∧ (¬ (((M 21 p3.toNatClampNeg) >>> (p1 &&& 31)) &&& 1) = 0 → jn_X3_costOf_45 p1 p2 p3 post 0 M)))) ∧ (p3 = (-9) → (wp_X3_at (p1 + 1) p2 M (fun r3 M4 => (vp_in r3 192 ∧ post ((M 22 5) + (M4 23 r3.toNatClampNeg)) M4)))))
set_option maxRecDepth 100000 in
theorem wk_X3_costOf {X : CT} (p1 : Int32) (p2 : Int32) (p3 : Int32) (hX : okX X RX3 cX3_costOf 1 21) {M : Mem} {post : Int32 → Mem → Prop} (hret : ∀ (r : Int32) (M' : Mem), narrow .int (.int r) = .int r → post r M' → RetI X cX3_costOf r M') (h : wp_X3_costOf p1 p2 p3 M post) : Z X M 0 [some (.ref (adX X 22)), some (.int p1), some (.int p2), some (.int p3), none] [] := by
  unfold wp_X3_costOf at h
  refine r_iload_n hX dX3_costOf_0 rfl rfl ?_
  refine r_bipush (v := (-9)) hX dX3_costOf_1 (by decide) ?_
  refine r_icmp_ne hX 24 dX3_costOf_3 (by decide) (fun hc => ?_) (fun hc => ?_)
  · have h := h.1 hc
    refine r_aload_n hX dX3_costOf_24 rfl rfl ?_
    refine r_getR hX fg_X3_15 ly_22 rfl dX3_costOf_25 ?_
    refine r_iload_n hX dX3_costOf_28 rfl rfl ?_
    refine r_iald hX ly_21 h.1 dX3_costOf_29 ?_
    have h := h.2
    refine r_iload_n hX dX3_costOf_30 rfl rfl ?_
    refine r_ishr hX dX3_costOf_31 ?_
    refine r_iconst (v := 1) hX dX3_costOf_32 (by decide) ?_
    refine r_iand hX dX3_costOf_33 ?_
    refine r_if_eq hX 41 dX3_costOf_34 (by decide) (fun hc => ?_) (fun hc => ?_)
    · have h := h.1 hc
      refine r_aload_n hX dX3_costOf_41 rfl rfl ?_
      refine r_getI hX fg_X3_25 ly_22 rfl dX3_costOf_42 ?_
      refine r_sub [some (.ref (adX X 22)), some (.int p1), some (.int p2), some (.int p3), none] (And.intro rfl (And.intro rfl (And.intro rfl (And.intro rfl trivial)))) ?_
      exact wj_X3_costOf_45 p1 p2 p3 hX hret _ _ h
    · have h := h.2 hc
      refine r_iconst (v := 0) hX dX3_costOf_37 (by decide) ?_
      refine r_goto hX 45 dX3_costOf_38 (by decide) ?_
      refine r_sub [some (.ref (adX X 22)), some (.int p1), some (.int p2), some (.int p3), none] (And.intro rfl (And.intro rfl (And.intro rfl (And.intro rfl trivial)))) ?_
      exact wj_X3_costOf_45 p1 p2 p3 hX hret _ _ h
  · have h := h.2 hc
    refine r_aload_n hX dX3_costOf_6 rfl rfl ?_
    refine r_getI hX fg_X3_29 ly_22 rfl dX3_costOf_7 ?_
    refine r_aload_n hX dX3_costOf_10 rfl rfl ?_
    refine r_getR hX fg_X3_19 ly_22 rfl dX3_costOf_11 ?_
    refine r_iload_n hX dX3_costOf_14 rfl rfl ?_
    refine r_iconst (v := 1) hX dX3_costOf_15 (by decide) ?_
    refine r_iadd hX dX3_costOf_16 ?_
    refine r_iload_n hX dX3_costOf_17 rfl rfl ?_
    refine r_cSi2 hX fs_X3_44 ⟨Nat.le_of_ble_eq_true rfl, Nat.le_of_ble_eq_true rfl⟩ (c_X3_at (p1 + 1) p2 h) (Nat.le_of_ble_eq_true rfl) dX3_costOf_18 (fun r3 M4 h => ?_)
    refine r_iald hX ly_23 h.1 dX3_costOf_21 ?_
    have h := h.2
    refine r_iadd hX dX3_costOf_22 ?_
    exact r_iret (hret _ _ rfl h) dX3_costOf_23
set_option maxRecDepth 100000 in
theorem c_X3_costOf {l : Launch} {D : va_G} {cs : CS3} {ad : Nat → Nat} (p1 : Int32) (p2 : Int32) (p3 : Int32) {M : Mem} {post : Int32 → Mem → Prop} (h : wp_X3_costOf p1 p2 p3 M post) : CtI l D cs ad yX3_costOf cX3_costOf 5 (some .int) 1 21 [.ref (ad 22), .int p1, .int p2, .int p3] M post := met_I (k := 1) (fun ad => [.ref (ad 22), .int p1, .int p2, .int p3]) (fun ad => [some (.ref (ad 22)), some (.int p1), some (.int p2), some (.int p3), none]) (by decide +kernel) (fun _ => Nat.le_of_ble_eq_true rfl) (fun _ => rfl) (fun _ => rfl) (fun X hX hret => wk_X3_costOf p1 p2 p3 hX hret h)
def lp_X3_bestChair_24 (p1 : Int32) (p2 : Int32) (post : Int32 → Mem → Prop) : Nat → Int32 → Int32 → Int32 → Mem → Prop
  | 0, _, _, _, _ => False
  | n + 1, x3, x4, x5, M => ((x5 < 0 → post x3 M) ∧ (¬ x5 < 0 → ((¬ ((p2 >>> (x5 &&& 31)) &&& 1) = 0 → lp_X3_bestChair_24 p1 p2 post n x3 x4 (x5 + (-1)) M) ∧ (((p2 >>> (x5 &&& 31)) &&& 1) = 0 → (wp_X3_costOf p1 p2 x5 M (fun r4 M5 => ((x4 < r4 → lp_X3_bestChair_24 p1 p2 post n x3 x4 (x5 + (-1)) M5) ∧ (¬ x4 < r4 → (wp_X3_costOf p1 p2 x5 M5 (fun r6 M7 => lp_X3_bestChair_24 p1 p2 post n x5 r6 (x5 + (-1)) M7))))))))))
set_option maxRecDepth 100000 in
theorem wl_X3_bestChair_24 {X : CT} (p1 : Int32) (p2 : Int32) (hX : okX X RX3 cX3_bestChair 2 45) {post : Int32 → Mem → Prop} (hret : ∀ (r : Int32) (M' : Mem), narrow .int (.int r) = .int r → post r M' → RetI X cX3_bestChair r M') : ∀ (n : Nat) (x3 : Int32) (x4 : Int32) (x5 : Int32) (M : Mem), lp_X3_bestChair_24 p1 p2 post n x3 x4 x5 M → Z X M 24 [some (.ref (adX X 22)), some (.int p1), some (.int p2), some (.int x3), some (.int x4), some (.int x5)] [] := by
  intro n
  induction n with
  | zero =>
    intro x3 x4 x5 M h
    exact False.elim h
  | succ n ih =>
    intro x3 x4 x5 M h
    unfold lp_X3_bestChair_24 at h
    refine r_iload hX dX3_bestChair_24 rfl ?_
    refine r_if_lt hX 70 dX3_bestChair_26 (by decide) (fun hc => ?_) (fun hc => ?_)
    · have h := h.1 hc
      refine r_iload_n hX dX3_bestChair_70 rfl rfl ?_
      exact r_iret (hret _ _ rfl h) dX3_bestChair_71
    · have h := h.2 hc
      refine r_iload_n hX dX3_bestChair_29 rfl rfl ?_
      refine r_iload hX dX3_bestChair_30 rfl ?_
      refine r_ishr hX dX3_bestChair_32 ?_
      refine r_iconst (v := 1) hX dX3_bestChair_33 (by decide) ?_
      refine r_iand hX dX3_bestChair_34 ?_
      refine r_if_ne hX 64 dX3_bestChair_35 (by decide) (fun hc => ?_) (fun hc => ?_)
      · have h := h.1 hc
        refine r_iinc (v := x5 + (-1)) (L' := [some (.ref (adX X 22)), some (.int p1), some (.int p2), some (.int x3), some (.int x4), some (.int (x5 + (-1)))]) hX dX3_bestChair_64 rfl rfl rfl rfl ?_
        refine r_goto hX 24 dX3_bestChair_67 (by decide) ?_
        refine r_sub [some (.ref (adX X 22)), some (.int p1), some (.int p2), some (.int x3), some (.int x4), some (.int (x5 + (-1)))] (And.intro rfl (And.intro rfl (And.intro rfl (And.intro rfl (And.intro rfl (And.intro rfl trivial)))))) ?_
        exact ih _ _ _ _ h
      · have h := h.2 hc
        refine r_aload_n hX dX3_bestChair_38 rfl rfl ?_
        refine r_iload_n hX dX3_bestChair_39 rfl rfl ?_
        refine r_iload_n hX dX3_bestChair_40 rfl rfl ?_
        refine r_iload hX dX3_bestChair_41 rfl ?_
        refine r_cVi3 hX fv_X3_51 ly_22 rfl ⟨Nat.le_of_ble_eq_true rfl, Nat.le_of_ble_eq_true rfl⟩ (c_X3_costOf p1 p2 x5 h) (Nat.le_of_ble_eq_true rfl) dX3_bestChair_43 (fun r4 M5 h => ?_)
        refine r_iload hX dX3_bestChair_46 rfl ?_
        refine r_icmp_gt hX 64 dX3_bestChair_48 (by decide) (fun hc => ?_) (fun hc => ?_)
        · have h := h.1 hc
          refine r_iinc (v := x5 + (-1)) (L' := [some (.ref (adX X 22)), some (.int p1), some (.int p2), some (.int x3), some (.int x4), some (.int (x5 + (-1)))]) hX dX3_bestChair_64 rfl rfl rfl rfl ?_
          refine r_goto hX 24 dX3_bestChair_67 (by decide) ?_
          refine r_sub [some (.ref (adX X 22)), some (.int p1), some (.int p2), some (.int x3), some (.int x4), some (.int (x5 + (-1)))] (And.intro rfl (And.intro rfl (And.intro rfl (And.intro rfl (And.intro rfl (And.intro rfl trivial)))))) ?_
          exact ih _ _ _ _ h
        · have h := h.2 hc
          refine r_iload hX dX3_bestChair_51 rfl ?_
          refine r_istore_n (L' := [some (.ref (adX X 22)), some (.int p1), some (.int p2), some (.int x5), some (.int x4), some (.int x5)]) hX dX3_bestChair_53 rfl (Nat.lt_of_ble rfl) rfl rfl ?_
          refine r_aload_n hX dX3_bestChair_54 rfl rfl ?_
          refine r_iload_n hX dX3_bestChair_55 rfl rfl ?_
          refine r_iload_n hX dX3_bestChair_56 rfl rfl ?_
          refine r_iload hX dX3_bestChair_57 rfl ?_
          refine r_cVi3 hX fv_X3_51 ly_22 rfl ⟨Nat.le_of_ble_eq_true rfl, Nat.le_of_ble_eq_true rfl⟩ (c_X3_costOf p1 p2 x5 h) (Nat.le_of_ble_eq_true rfl) dX3_bestChair_59 (fun r6 M7 h => ?_)
          refine r_istore (L' := [some (.ref (adX X 22)), some (.int p1), some (.int p2), some (.int x5), some (.int r6), some (.int x5)]) hX dX3_bestChair_62 (Nat.lt_of_ble rfl) rfl rfl ?_
          refine r_iinc (v := x5 + (-1)) (L' := [some (.ref (adX X 22)), some (.int p1), some (.int p2), some (.int x5), some (.int r6), some (.int (x5 + (-1)))]) hX dX3_bestChair_64 rfl rfl rfl rfl ?_
          refine r_goto hX 24 dX3_bestChair_67 (by decide) ?_
          refine r_sub [some (.ref (adX X 22)), some (.int p1), some (.int p2), some (.int x5), some (.int r6), some (.int (x5 + (-1)))] (And.intro rfl (And.intro rfl (And.intro rfl (And.intro rfl (And.intro rfl (And.intro rfl trivial)))))) ?_
          exact ih _ _ _ _ h
def wp_X3_bestChair (p1 : Int32) (p2 : Int32) (M : Mem) (post : Int32 → Mem → Prop) : Prop := (wp_X3_costOf p1 p2 (-9) M (fun r1 M2 => (∀ v3 : Int32, v3 = (M2 1 3) - 1 → (∃ k, lp_X3_bestChair_24 p1 p2 post k (-9) r1 v3 M2))))
set_option maxRecDepth 100000 in
theorem wk_X3_bestChair {X : CT} (p1 : Int32) (p2 : Int32) (hX : okX X RX3 cX3_bestChair 2 45) {M : Mem} {post : Int32 → Mem → Prop} (hret : ∀ (r : Int32) (M' : Mem), narrow .int (.int r) = .int r → post r M' → RetI X cX3_bestChair r M') (h : wp_X3_bestChair p1 p2 M post) : Z X M 0 [some (.ref (adX X 22)), some (.int p1), some (.int p2), none, none, none] [] := by
  unfold wp_X3_bestChair at h
  refine r_bipush (v := (-9)) hX dX3_bestChair_0 (by decide) ?_
  refine r_istore_n (L' := [some (.ref (adX X 22)), some (.int p1), some (.int p2), some (.int (-9)), none, none]) hX dX3_bestChair_2 rfl (Nat.lt_of_ble rfl) rfl rfl ?_
  refine r_aload_n hX dX3_bestChair_3 rfl rfl ?_
  refine r_iload_n hX dX3_bestChair_4 rfl rfl ?_
  refine r_iload_n hX dX3_bestChair_5 rfl rfl ?_
  refine r_bipush (v := (-9)) hX dX3_bestChair_6 (by decide) ?_
  refine r_cVi3 hX fv_X3_51 ly_22 rfl ⟨Nat.le_of_ble_eq_true rfl, Nat.le_of_ble_eq_true rfl⟩ (c_X3_costOf p1 p2 (-9) h) (Nat.le_of_ble_eq_true rfl) dX3_bestChair_8 (fun r1 M2 h => ?_)
  refine r_istore (L' := [some (.ref (adX X 22)), some (.int p1), some (.int p2), some (.int (-9)), some (.int r1), none]) hX dX3_bestChair_11 (Nat.lt_of_ble rfl) rfl rfl ?_
  refine r_aload_n hX dX3_bestChair_13 rfl rfl ?_
  refine r_getR hX fg_X3_9 ly_22 rfl dX3_bestChair_14 ?_
  refine r_getI hX fg_X3_41 ly_1 rfl dX3_bestChair_17 ?_
  refine r_iconst (v := 1) hX dX3_bestChair_20 (by decide) ?_
  refine r_isub hX dX3_bestChair_21 ?_
  refine r_nm (fun v3 ev3 => ?_)
  have h := h v3 ev3
  refine r_istore (L' := [some (.ref (adX X 22)), some (.int p1), some (.int p2), some (.int (-9)), some (.int r1), some (.int v3)]) hX dX3_bestChair_22 (Nat.lt_of_ble rfl) rfl rfl ?_
  obtain ⟨n8, h⟩ := h
  refine r_sub [some (.ref (adX X 22)), some (.int p1), some (.int p2), some (.int (-9)), some (.int r1), some (.int v3)] (And.intro rfl (And.intro rfl (And.intro rfl (And.intro rfl (And.intro rfl (And.intro rfl trivial)))))) ?_
  exact wl_X3_bestChair_24 p1 p2 hX hret n8 _ _ _ _ h
set_option maxRecDepth 100000 in
theorem c_X3_bestChair {l : Launch} {D : va_G} {cs : CS3} {ad : Nat → Nat} (p1 : Int32) (p2 : Int32) {M : Mem} {post : Int32 → Mem → Prop} (h : wp_X3_bestChair p1 p2 M post) : CtI l D cs ad yX3_bestChair cX3_bestChair 6 (some .int) 2 45 [.ref (ad 22), .int p1, .int p2] M post := met_I (k := 3) (fun ad => [.ref (ad 22), .int p1, .int p2]) (fun ad => [some (.ref (ad 22)), some (.int p1), some (.int p2), none, none, none]) (by decide +kernel) (fun _ => Nat.le_of_ble_eq_true rfl) (fun _ => rfl) (fun _ => rfl) (fun X hX hret => wk_X3_bestChair p1 p2 hX hret h)
def lp_X3_seatCheapest_99 (post : Int32 → Mem → Prop) : Nat → Int32 → Int32 → Mem → Prop
  | 0, _, _, _ => False
  | n + 1, x2, x3, M => (((M 1 4) ≤ x3 → (wp_X3_at 0 0 M (fun r3 M4 => (vp_in r3 192 ∧ post (M4 23 r3.toNatClampNeg) M4)))) ∧ (¬ (M 1 4) ≤ x3 → (wp_X3_bestChair x3 x2 M (fun r5 M6 => (vp_in x3 5 ∧ ∀ M7 : Mem, M7 = up2 M6 24 x3.toNatClampNeg r5 → (vp_in x3 5 ∧ (((M7 24 x3.toNatClampNeg) = (-9) → lp_X3_seatCheapest_99 post n x2 (x3 + 1) M7) ∧ (¬ (M7 24 x3.toNatClampNeg) = (-9) → (vp_in x3 5 ∧ (∀ v8 : Int32, v8 = x2 ||| (1 <<< ((M7 24 x3.toNatClampNeg) &&& 31)) → lp_X3_seatCheapest_99 post n v8 (x3 + 1) M7))))))))))
set_option maxRecDepth 100000 in
theorem wl_X3_seatCheapest_99 {X : CT} (hX : okX X RX3 cX3_seatCheapest 3 70) {post : Int32 → Mem → Prop} (hret : ∀ (r : Int32) (M' : Mem), narrow .int (.int r) = .int r → post r M' → RetI X cX3_seatCheapest r M') : ∀ (n : Nat) (x2 : Int32) (x3 : Int32) (M : Mem), lp_X3_seatCheapest_99 post n x2 x3 M → Z X M 99 [some (.ref (adX X 22)), none, some (.int x2), some (.int x3)] [] := by
  intro n
  induction n with
  | zero =>
    intro x2 x3 M h
    exact False.elim h
  | succ n ih =>
    intro x2 x3 M h
    unfold lp_X3_seatCheapest_99 at h
    refine r_iload_n hX dX3_seatCheapest_99 rfl rfl ?_
    refine r_aload_n hX dX3_seatCheapest_100 rfl rfl ?_
    refine r_getR hX fg_X3_9 ly_22 rfl dX3_seatCheapest_101 ?_
    refine r_getI hX fg_X3_32 ly_1 rfl dX3_seatCheapest_104 ?_
    refine r_icmp_ge hX 150 dX3_seatCheapest_107 (by decide) (fun hc => ?_) (fun hc => ?_)
    · have h := h.1 hc
      refine r_aload_n hX dX3_seatCheapest_150 rfl rfl ?_
      refine r_getR hX fg_X3_19 ly_22 rfl dX3_seatCheapest_151 ?_
      refine r_iconst (v := 0) hX dX3_seatCheapest_154 (by decide) ?_
      refine r_iconst (v := 0) hX dX3_seatCheapest_155 (by decide) ?_
      refine r_cSi2 hX fs_X3_44 ⟨Nat.le_of_ble_eq_true rfl, Nat.le_of_ble_eq_true rfl⟩ (c_X3_at 0 0 h) (Nat.le_of_ble_eq_true rfl) dX3_seatCheapest_156 (fun r3 M4 h => ?_)
      refine r_iald hX ly_23 h.1 dX3_seatCheapest_159 ?_
      have h := h.2
      exact r_iret (hret _ _ rfl h) dX3_seatCheapest_160
    · have h := h.2 hc
      refine r_aload_n hX dX3_seatCheapest_110 rfl rfl ?_
      refine r_getR hX fg_X3_22 ly_22 rfl dX3_seatCheapest_111 ?_
      refine r_iload_n hX dX3_seatCheapest_114 rfl rfl ?_
      refine r_aload_n hX dX3_seatCheapest_115 rfl rfl ?_
      refine r_iload_n hX dX3_seatCheapest_116 rfl rfl ?_
      refine r_iload_n hX dX3_seatCheapest_117 rfl rfl ?_
      refine r_cVi2 hX fv_X3_48 ly_22 rfl ⟨Nat.le_of_ble_eq_true rfl, Nat.le_of_ble_eq_true rfl⟩ (c_X3_bestChair x3 x2 h) (Nat.le_of_ble_eq_true rfl) dX3_seatCheapest_118 (fun r5 M6 h => ?_)
      refine r_iast hX ly_24 h.1 dX3_seatCheapest_121 ?_
      refine r_nmM (fun M7 eM7 => ?_)
      have h := h.2 M7 eM7
      refine r_aload_n hX dX3_seatCheapest_122 rfl rfl ?_
      refine r_getR hX fg_X3_22 ly_22 rfl dX3_seatCheapest_123 ?_
      refine r_iload_n hX dX3_seatCheapest_126 rfl rfl ?_
      refine r_iald hX ly_24 h.1 dX3_seatCheapest_127 ?_
      have h := h.2
      refine r_bipush (v := (-9)) hX dX3_seatCheapest_128 (by decide) ?_
      refine r_icmp_eq hX 144 dX3_seatCheapest_130 (by decide) (fun hc => ?_) (fun hc => ?_)
      · have h := h.1 hc
        refine r_iinc (v := x3 + 1) (L' := [some (.ref (adX X 22)), none, some (.int x2), some (.int (x3 + 1))]) hX dX3_seatCheapest_144 rfl rfl rfl rfl ?_
        refine r_goto hX 99 dX3_seatCheapest_147 (by decide) ?_
        refine r_sub [some (.ref (adX X 22)), none, some (.int x2), some (.int (x3 + 1))] (And.intro rfl (And.intro rfl (And.intro rfl trivial))) ?_
        exact ih _ _ _ h
      · have h := h.2 hc
        refine r_iload_n hX dX3_seatCheapest_133 rfl rfl ?_
        refine r_iconst (v := 1) hX dX3_seatCheapest_134 (by decide) ?_
        refine r_aload_n hX dX3_seatCheapest_135 rfl rfl ?_
        refine r_getR hX fg_X3_22 ly_22 rfl dX3_seatCheapest_136 ?_
        refine r_iload_n hX dX3_seatCheapest_139 rfl rfl ?_
        refine r_iald hX ly_24 h.1 dX3_seatCheapest_140 ?_
        have h := h.2
        refine r_ishl hX dX3_seatCheapest_141 ?_
        refine r_ior hX dX3_seatCheapest_142 ?_
        refine r_nm (fun v8 ev8 => ?_)
        have h := h v8 ev8
        refine r_istore_n (L' := [some (.ref (adX X 22)), none, some (.int v8), some (.int x3)]) hX dX3_seatCheapest_143 rfl (Nat.lt_of_ble rfl) rfl rfl ?_
        refine r_iinc (v := x3 + 1) (L' := [some (.ref (adX X 22)), none, some (.int v8), some (.int (x3 + 1))]) hX dX3_seatCheapest_144 rfl rfl rfl rfl ?_
        refine r_goto hX 99 dX3_seatCheapest_147 (by decide) ?_
        refine r_sub [some (.ref (adX X 22)), none, some (.int v8), some (.int (x3 + 1))] (And.intro rfl (And.intro rfl (And.intro rfl trivial))) ?_
        exact ih _ _ _ h
def lp_X3_seatCheapest_56 (post : Int32 → Mem → Prop) (B_50 : Int32 → Int32 → Mem → Prop) : Nat → Int32 → Int32 → Int32 → Mem → Prop
  | 0, _, _, _, _ => False
  | n + 1, x1, x2, x3, M => ((x1 ≤ x3 → B_50 x1 (x2 + (-1)) M) ∧ (¬ x1 ≤ x3 → (wp_X3_at x2 x3 M (fun r10 M11 => (wp_X3_bestChair x2 x3 M11 (fun r12 M13 => (wp_X3_costOf x2 x3 r12 M13 (fun r14 M15 => (vp_in r10 192 ∧ ∀ M16 : Mem, M16 = up2 M15 23 r10.toNatClampNeg r14 → lp_X3_seatCheapest_56 post B_50 n x1 x2 (x3 + 1) M16)))))))))
set_option maxRecDepth 100000 in
theorem wl_X3_seatCheapest_56 {X : CT} (hX : okX X RX3 cX3_seatCheapest 3 70) {post : Int32 → Mem → Prop} (hret : ∀ (r : Int32) (M' : Mem), narrow .int (.int r) = .int r → post r M' → RetI X cX3_seatCheapest r M') {B_50 : Int32 → Int32 → Mem → Prop} (hB_50 : ∀ (x1 : Int32) (x2 : Int32) (M : Mem), B_50 x1 x2 M → Z X M 50 [some (.ref (adX X 22)), some (.int x1), some (.int x2), none] []) : ∀ (n : Nat) (x1 : Int32) (x2 : Int32) (x3 : Int32) (M : Mem), lp_X3_seatCheapest_56 post B_50 n x1 x2 x3 M → Z X M 56 [some (.ref (adX X 22)), some (.int x1), some (.int x2), some (.int x3)] [] := by
  intro n
  induction n with
  | zero =>
    intro x1 x2 x3 M h
    exact False.elim h
  | succ n ih =>
    intro x1 x2 x3 M h
    unfold lp_X3_seatCheapest_56 at h
    refine r_iload_n hX dX3_seatCheapest_56 rfl rfl ?_
    refine r_iload_n hX dX3_seatCheapest_57 rfl rfl ?_
    refine r_icmp_ge hX 89 dX3_seatCheapest_58 (by decide) (fun hc => ?_) (fun hc => ?_)
    · have h := h.1 hc
      refine r_iinc (v := x2 + (-1)) (L' := [some (.ref (adX X 22)), some (.int x1), some (.int (x2 + (-1))), some (.int x3)]) hX dX3_seatCheapest_89 rfl rfl rfl rfl ?_
      refine r_goto hX 50 dX3_seatCheapest_92 (by decide) ?_
      refine r_sub [some (.ref (adX X 22)), some (.int x1), some (.int (x2 + (-1))), none] (And.intro rfl (And.intro rfl (And.intro rfl trivial))) ?_
      exact hB_50 _ _ _ h
    · have h := h.2 hc
      refine r_aload_n hX dX3_seatCheapest_61 rfl rfl ?_
      refine r_getR hX fg_X3_19 ly_22 rfl dX3_seatCheapest_62 ?_
      refine r_iload_n hX dX3_seatCheapest_65 rfl rfl ?_
      refine r_iload_n hX dX3_seatCheapest_66 rfl rfl ?_
      refine r_cSi2 hX fs_X3_44 ⟨Nat.le_of_ble_eq_true rfl, Nat.le_of_ble_eq_true rfl⟩ (c_X3_at x2 x3 h) (Nat.le_of_ble_eq_true rfl) dX3_seatCheapest_67 (fun r10 M11 h => ?_)
      refine r_aload_n hX dX3_seatCheapest_70 rfl rfl ?_
      refine r_iload_n hX dX3_seatCheapest_71 rfl rfl ?_
      refine r_iload_n hX dX3_seatCheapest_72 rfl rfl ?_
      refine r_aload_n hX dX3_seatCheapest_73 rfl rfl ?_
      refine r_iload_n hX dX3_seatCheapest_74 rfl rfl ?_
      refine r_iload_n hX dX3_seatCheapest_75 rfl rfl ?_
      refine r_cVi2 hX fv_X3_48 ly_22 rfl ⟨Nat.le_of_ble_eq_true rfl, Nat.le_of_ble_eq_true rfl⟩ (c_X3_bestChair x2 x3 h) (Nat.le_of_ble_eq_true rfl) dX3_seatCheapest_76 (fun r12 M13 h => ?_)
      refine r_cVi3 hX fv_X3_51 ly_22 rfl ⟨Nat.le_of_ble_eq_true rfl, Nat.le_of_ble_eq_true rfl⟩ (c_X3_costOf x2 x3 r12 h) (Nat.le_of_ble_eq_true rfl) dX3_seatCheapest_79 (fun r14 M15 h => ?_)
      refine r_iast hX ly_23 h.1 dX3_seatCheapest_82 ?_
      refine r_nmM (fun M16 eM16 => ?_)
      have h := h.2 M16 eM16
      refine r_iinc (v := x3 + 1) (L' := [some (.ref (adX X 22)), some (.int x1), some (.int x2), some (.int (x3 + 1))]) hX dX3_seatCheapest_83 rfl rfl rfl rfl ?_
      refine r_goto hX 56 dX3_seatCheapest_86 (by decide) ?_
      refine r_sub [some (.ref (adX X 22)), some (.int x1), some (.int x2), some (.int (x3 + 1))] (And.intro rfl (And.intro rfl (And.intro rfl (And.intro rfl trivial)))) ?_
      exact ih _ _ _ _ h
def lp_X3_seatCheapest_50 (post : Int32 → Mem → Prop) : Nat → Int32 → Int32 → Mem → Prop
  | 0, _, _, _ => False
  | n + 1, x1, x2, M => ((x2 < 0 → (∃ k, lp_X3_seatCheapest_99 post k 0 0 M)) ∧ (¬ x2 < 0 → (∃ k, lp_X3_seatCheapest_56 post (fun y1 y2 M' => lp_X3_seatCheapest_50 post n y1 y2 M') k x1 x2 0 M)))
set_option maxRecDepth 100000 in
theorem wl_X3_seatCheapest_50 {X : CT} (hX : okX X RX3 cX3_seatCheapest 3 70) {post : Int32 → Mem → Prop} (hret : ∀ (r : Int32) (M' : Mem), narrow .int (.int r) = .int r → post r M' → RetI X cX3_seatCheapest r M') : ∀ (n : Nat) (x1 : Int32) (x2 : Int32) (M : Mem), lp_X3_seatCheapest_50 post n x1 x2 M → Z X M 50 [some (.ref (adX X 22)), some (.int x1), some (.int x2), none] [] := by
  intro n
  induction n with
  | zero =>
    intro x1 x2 M h
    exact False.elim h
  | succ n ih =>
    intro x1 x2 M h
    unfold lp_X3_seatCheapest_50 at h
    refine r_iload_n hX dX3_seatCheapest_50 rfl rfl ?_
    refine r_if_lt hX 95 dX3_seatCheapest_51 (by decide) (fun hc => ?_) (fun hc => ?_)
    · have h := h.1 hc
      refine r_iconst (v := 0) hX dX3_seatCheapest_95 (by decide) ?_
      refine r_istore_n (L' := [some (.ref (adX X 22)), some (.int x1), some (.int 0), none]) hX dX3_seatCheapest_96 rfl (Nat.lt_of_ble rfl) rfl rfl ?_
      refine r_iconst (v := 0) hX dX3_seatCheapest_97 (by decide) ?_
      refine r_istore_n (L' := [some (.ref (adX X 22)), some (.int x1), some (.int 0), some (.int 0)]) hX dX3_seatCheapest_98 rfl (Nat.lt_of_ble rfl) rfl rfl ?_
      obtain ⟨n9, h⟩ := h
      refine r_sub [some (.ref (adX X 22)), none, some (.int 0), some (.int 0)] (And.intro rfl (And.intro rfl (And.intro rfl trivial))) ?_
      exact wl_X3_seatCheapest_99 hX hret n9 _ _ _ h
    · have h := h.2 hc
      refine r_iconst (v := 0) hX dX3_seatCheapest_54 (by decide) ?_
      refine r_istore_n (L' := [some (.ref (adX X 22)), some (.int x1), some (.int x2), some (.int 0)]) hX dX3_seatCheapest_55 rfl (Nat.lt_of_ble rfl) rfl rfl ?_
      obtain ⟨n17, h⟩ := h
      refine r_sub [some (.ref (adX X 22)), some (.int x1), some (.int x2), some (.int 0)] (And.intro rfl (And.intro rfl (And.intro rfl (And.intro rfl trivial)))) ?_
      exact wl_X3_seatCheapest_56 hX hret (fun y1 y2 M' h' => ih y1 y2 M' h') n17 _ _ _ _ h
def lp_X3_seatCheapest_12 (post : Int32 → Mem → Prop) : Nat → Int32 → Int32 → Mem → Prop
  | 0, _, _, _ => False
  | n + 1, x1, x2, M => ((x1 ≤ x2 → (∀ v2 : Int32, v2 = (M 1 4) - 1 → (∃ k, lp_X3_seatCheapest_50 post k x1 v2 M))) ∧ (¬ x1 ≤ x2 → (wp_X3_at (M 1 4) x2 M (fun r19 M20 => (vp_in r19 192 ∧ ∀ M21 : Mem, M21 = up2 M20 23 r19.toNatClampNeg 0 → lp_X3_seatCheapest_12 post n x1 (x2 + 1) M21)))))
set_option maxRecDepth 100000 in
theorem wl_X3_seatCheapest_12 {X : CT} (hX : okX X RX3 cX3_seatCheapest 3 70) {post : Int32 → Mem → Prop} (hret : ∀ (r : Int32) (M' : Mem), narrow .int (.int r) = .int r → post r M' → RetI X cX3_seatCheapest r M') : ∀ (n : Nat) (x1 : Int32) (x2 : Int32) (M : Mem), lp_X3_seatCheapest_12 post n x1 x2 M → Z X M 12 [some (.ref (adX X 22)), some (.int x1), some (.int x2), none] [] := by
  intro n
  induction n with
  | zero =>
    intro x1 x2 M h
    exact False.elim h
  | succ n ih =>
    intro x1 x2 M h
    unfold lp_X3_seatCheapest_12 at h
    refine r_iload_n hX dX3_seatCheapest_12 rfl rfl ?_
    refine r_iload_n hX dX3_seatCheapest_13 rfl rfl ?_
    refine r_icmp_ge hX 40 dX3_seatCheapest_14 (by decide) (fun hc => ?_) (fun hc => ?_)
    · have h := h.1 hc
      refine r_aload_n hX dX3_seatCheapest_40 rfl rfl ?_
      refine r_getR hX fg_X3_9 ly_22 rfl dX3_seatCheapest_41 ?_
      refine r_getI hX fg_X3_32 ly_1 rfl dX3_seatCheapest_44 ?_
      refine r_iconst (v := 1) hX dX3_seatCheapest_47 (by decide) ?_
      refine r_isub hX dX3_seatCheapest_48 ?_
      refine r_nm (fun v2 ev2 => ?_)
      have h := h v2 ev2
      refine r_istore_n (L' := [some (.ref (adX X 22)), some (.int x1), some (.int v2), none]) hX dX3_seatCheapest_49 rfl (Nat.lt_of_ble rfl) rfl rfl ?_
      obtain ⟨n18, h⟩ := h
      refine r_sub [some (.ref (adX X 22)), some (.int x1), some (.int v2), none] (And.intro rfl (And.intro rfl (And.intro rfl trivial))) ?_
      exact wl_X3_seatCheapest_50 hX hret n18 _ _ _ h
    · have h := h.2 hc
      refine r_aload_n hX dX3_seatCheapest_17 rfl rfl ?_
      refine r_getR hX fg_X3_19 ly_22 rfl dX3_seatCheapest_18 ?_
      refine r_aload_n hX dX3_seatCheapest_21 rfl rfl ?_
      refine r_getR hX fg_X3_9 ly_22 rfl dX3_seatCheapest_22 ?_
      refine r_getI hX fg_X3_32 ly_1 rfl dX3_seatCheapest_25 ?_
      refine r_iload_n hX dX3_seatCheapest_28 rfl rfl ?_
      refine r_cSi2 hX fs_X3_44 ⟨Nat.le_of_ble_eq_true rfl, Nat.le_of_ble_eq_true rfl⟩ (c_X3_at (M 1 4) x2 h) (Nat.le_of_ble_eq_true rfl) dX3_seatCheapest_29 (fun r19 M20 h => ?_)
      refine r_iconst (v := 0) hX dX3_seatCheapest_32 (by decide) ?_
      refine r_iast hX ly_23 h.1 dX3_seatCheapest_33 ?_
      refine r_nmM (fun M21 eM21 => ?_)
      have h := h.2 M21 eM21
      refine r_iinc (v := x2 + 1) (L' := [some (.ref (adX X 22)), some (.int x1), some (.int (x2 + 1)), none]) hX dX3_seatCheapest_34 rfl rfl rfl rfl ?_
      refine r_goto hX 12 dX3_seatCheapest_37 (by decide) ?_
      refine r_sub [some (.ref (adX X 22)), some (.int x1), some (.int (x2 + 1)), none] (And.intro rfl (And.intro rfl (And.intro rfl trivial))) ?_
      exact ih _ _ _ h
def wp_X3_seatCheapest (M : Mem) (post : Int32 → Mem → Prop) : Prop := (∀ v1 : Int32, v1 = 1 <<< ((M 1 3) &&& 31) → (∃ k, lp_X3_seatCheapest_12 post k v1 0 M))
set_option maxRecDepth 100000 in
theorem wk_X3_seatCheapest {X : CT} (hX : okX X RX3 cX3_seatCheapest 3 70) {M : Mem} {post : Int32 → Mem → Prop} (hret : ∀ (r : Int32) (M' : Mem), narrow .int (.int r) = .int r → post r M' → RetI X cX3_seatCheapest r M') (h : wp_X3_seatCheapest M post) : Z X M 0 [some (.ref (adX X 22)), none, none, none] [] := by
  unfold wp_X3_seatCheapest at h
  refine r_iconst (v := 1) hX dX3_seatCheapest_0 (by decide) ?_
  refine r_aload_n hX dX3_seatCheapest_1 rfl rfl ?_
  refine r_getR hX fg_X3_9 ly_22 rfl dX3_seatCheapest_2 ?_
  refine r_getI hX fg_X3_41 ly_1 rfl dX3_seatCheapest_5 ?_
  refine r_ishl hX dX3_seatCheapest_8 ?_
  refine r_nm (fun v1 ev1 => ?_)
  have h := h v1 ev1
  refine r_istore_n (L' := [some (.ref (adX X 22)), some (.int v1), none, none]) hX dX3_seatCheapest_9 rfl (Nat.lt_of_ble rfl) rfl rfl ?_
  refine r_iconst (v := 0) hX dX3_seatCheapest_10 (by decide) ?_
  refine r_istore_n (L' := [some (.ref (adX X 22)), some (.int v1), some (.int 0), none]) hX dX3_seatCheapest_11 rfl (Nat.lt_of_ble rfl) rfl rfl ?_
  obtain ⟨n22, h⟩ := h
  refine r_sub [some (.ref (adX X 22)), some (.int v1), some (.int 0), none] (And.intro rfl (And.intro rfl (And.intro rfl trivial))) ?_
  exact wl_X3_seatCheapest_12 hX hret n22 _ _ _ h
set_option maxRecDepth 100000 in
theorem c_X3_seatCheapest {l : Launch} {D : va_G} {cs : CS3} {ad : Nat → Nat} {M : Mem} {post : Int32 → Mem → Prop} (h : wp_X3_seatCheapest M post) : CtI l D cs ad yX3_seatCheapest cX3_seatCheapest 4 (some .int) 3 70 [.ref (ad 22)] M post := met_I (k := 3) (fun ad => [.ref (ad 22)]) (fun ad => [some (.ref (ad 22)), none, none, none]) (by decide +kernel) (fun _ => Nat.le_of_ble_eq_true rfl) (fun _ => rfl) (fun _ => rfl) (fun X hX hret => wk_X3_seatCheapest hX hret h)
def wp_X3_seatMost (M : Mem) (post : Int32 → Mem → Prop) : Prop := (∀ M1 : Mem, M1 = up2 M 22 4 100 → (∀ M2 : Mem, M2 = up2 M1 22 5 1 → (wp_X3_seatCheapest M2 (fun r3 M4 => post ((M2 1 4) - r3) M4))))
set_option maxRecDepth 100000 in
theorem wk_X3_seatMost {X : CT} (hX : okX X RX3 cX3_seatMost 4 93) {M : Mem} {post : Int32 → Mem → Prop} (hret : ∀ (r : Int32) (M' : Mem), narrow .int (.int r) = .int r → post r M' → RetI X cX3_seatMost r M') (h : wp_X3_seatMost M post) : Z X M 0 [some (.ref (adX X 22))] [] := by
  unfold wp_X3_seatMost at h
  refine r_aload_n hX dX3_seatMost_0 rfl rfl ?_
  refine r_bipush (v := 100) hX dX3_seatMost_1 (by decide) ?_
  refine r_putI hX fp_X3_25 ly_22 rfl dX3_seatMost_3 ?_
  refine r_nmM (fun M1 eM1 => ?_)
  have h := h M1 eM1
  refine r_aload_n hX dX3_seatMost_6 rfl rfl ?_
  refine r_iconst (v := 1) hX dX3_seatMost_7 (by decide) ?_
  refine r_putI hX fp_X3_29 ly_22 rfl dX3_seatMost_8 ?_
  refine r_nmM (fun M2 eM2 => ?_)
  have h := h M2 eM2
  refine r_aload_n hX dX3_seatMost_11 rfl rfl ?_
  refine r_getR hX fg_X3_9 ly_22 rfl dX3_seatMost_12 ?_
  refine r_getI hX fg_X3_32 ly_1 rfl dX3_seatMost_15 ?_
  refine r_aload_n hX dX3_seatMost_18 rfl rfl ?_
  refine r_cVi0 hX fv_X3_37 ly_22 rfl ⟨Nat.le_of_ble_eq_true rfl, Nat.le_of_ble_eq_true rfl⟩ (c_X3_seatCheapest h) (Nat.le_of_ble_eq_true rfl) dX3_seatMost_19 (fun r3 M4 h => ?_)
  refine r_isub hX dX3_seatMost_22 ?_
  exact r_iret (hret _ _ rfl h) dX3_seatMost_23
set_option maxRecDepth 100000 in
theorem c_X3_seatMost {l : Launch} {D : va_G} {cs : CS3} {ad : Nat → Nat} {M : Mem} {post : Int32 → Mem → Prop} (h : wp_X3_seatMost M post) : CtI l D cs ad yX3_seatMost cX3_seatMost 1 (some .int) 4 93 [.ref (ad 22)] M post := met_I (k := 0) (fun ad => [.ref (ad 22)]) (fun ad => [some (.ref (ad 22))]) (by decide +kernel) (fun _ => Nat.le_of_ble_eq_true rfl) (fun _ => rfl) (fun _ => rfl) (fun X hX hret => wk_X3_seatMost hX hret h)
def wp_X3_seatAllByButter (M : Mem) (post : Int32 → Mem → Prop) : Prop := (∀ M1 : Mem, M1 = up2 M 22 4 1 → (∀ M2 : Mem, M2 = up2 M1 22 5 100 → (wp_X3_seatCheapest M2 (fun r3 M4 => ((100 ≤ r3 → post (-9) M4) ∧ (¬ 100 ≤ r3 → post r3 M4))))))
set_option maxRecDepth 100000 in
theorem wk_X3_seatAllByButter {X : CT} (hX : okX X RX3 cX3_seatAllByButter 4 93) {M : Mem} {post : Int32 → Mem → Prop} (hret : ∀ (r : Int32) (M' : Mem), narrow .int (.int r) = .int r → post r M' → RetI X cX3_seatAllByButter r M') (h : wp_X3_seatAllByButter M post) : Z X M 0 [some (.ref (adX X 22)), none] [] := by
  unfold wp_X3_seatAllByButter at h
  refine r_aload_n hX dX3_seatAllByButter_0 rfl rfl ?_
  refine r_iconst (v := 1) hX dX3_seatAllByButter_1 (by decide) ?_
  refine r_putI hX fp_X3_25 ly_22 rfl dX3_seatAllByButter_2 ?_
  refine r_nmM (fun M1 eM1 => ?_)
  have h := h M1 eM1
  refine r_aload_n hX dX3_seatAllByButter_5 rfl rfl ?_
  refine r_bipush (v := 100) hX dX3_seatAllByButter_6 (by decide) ?_
  refine r_putI hX fp_X3_29 ly_22 rfl dX3_seatAllByButter_8 ?_
  refine r_nmM (fun M2 eM2 => ?_)
  have h := h M2 eM2
  refine r_aload_n hX dX3_seatAllByButter_11 rfl rfl ?_
  refine r_cVi0 hX fv_X3_37 ly_22 rfl ⟨Nat.le_of_ble_eq_true rfl, Nat.le_of_ble_eq_true rfl⟩ (c_X3_seatCheapest h) (Nat.le_of_ble_eq_true rfl) dX3_seatAllByButter_12 (fun r3 M4 h => ?_)
  refine r_istore_n (L' := [some (.ref (adX X 22)), some (.int r3)]) hX dX3_seatAllByButter_15 rfl (Nat.lt_of_ble rfl) rfl rfl ?_
  refine r_iload_n hX dX3_seatAllByButter_16 rfl rfl ?_
  refine r_bipush (v := 100) hX dX3_seatAllByButter_17 (by decide) ?_
  refine r_icmp_ge hX 26 dX3_seatAllByButter_19 (by decide) (fun hc => ?_) (fun hc => ?_)
  · have h := h.1 hc
    refine r_bipush (v := (-9)) hX dX3_seatAllByButter_26 (by decide) ?_
    exact r_iret (hret _ _ rfl h) dX3_seatAllByButter_28
  · have h := h.2 hc
    refine r_iload_n hX dX3_seatAllByButter_22 rfl rfl ?_
    refine r_goto hX 28 dX3_seatAllByButter_23 (by decide) ?_
    exact r_iret (hret _ _ rfl h) dX3_seatAllByButter_28
set_option maxRecDepth 100000 in
theorem c_X3_seatAllByButter {l : Launch} {D : va_G} {cs : CS3} {ad : Nat → Nat} {M : Mem} {post : Int32 → Mem → Prop} (h : wp_X3_seatAllByButter M post) : CtI l D cs ad yX3_seatAllByButter cX3_seatAllByButter 2 (some .int) 4 93 [.ref (ad 22)] M post := met_I (k := 1) (fun ad => [.ref (ad 22)]) (fun ad => [some (.ref (ad 22)), none]) (by decide +kernel) (fun _ => Nat.le_of_ble_eq_true rfl) (fun _ => rfl) (fun _ => rfl) (fun X hX hret => wk_X3_seatAllByButter hX hret h)
