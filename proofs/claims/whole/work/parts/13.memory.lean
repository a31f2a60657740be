def lp_X1_isForgiven_3 (p1 : Int32) (p2 : Int32) (p3 : Int32) (post : Int32 → Mem → Prop) : Nat → Int32 → Mem → Prop
  | 0, _, _ => False
  | n + 1, x4, M => (((M 9 3) ≤ x4 → post 0 M) ∧ (¬ (M 9 3) ≤ x4 → (vp_in x4 8 ∧ ((¬ (M 12 x4.toNatClampNeg) = p1 → lp_X1_isForgiven_3 p1 p2 p3 post n (x4 + 1) M) ∧ ((M 12 x4.toNatClampNeg) = p1 → (vp_in x4 8 ∧ (vp_in p2 8 ∧ ((¬ (M 11 x4.toNatClampNeg) = (M 7 p2.toNatClampNeg) → lp_X1_isForgiven_3 p1 p2 p3 post n (x4 + 1) M) ∧ ((M 11 x4.toNatClampNeg) = (M 7 p2.toNatClampNeg) → (vp_in x4 8 ∧ (vp_in p2 8 ∧ (((M 10 x4.toNatClampNeg) < (M 6 p2.toNatClampNeg) → lp_X1_isForgiven_3 p1 p2 p3 post n (x4 + 1) M) ∧ (¬ (M 10 x4.toNatClampNeg) < (M 6 p2.toNatClampNeg) → (vp_in x4 8 ∧ ((p3 ≤ (M 10 x4.toNatClampNeg) → lp_X1_isForgiven_3 p1 p2 p3 post n (x4 + 1) M) ∧ (¬ p3 ≤ (M 10 x4.toNatClampNeg) → post 1 M))))))))))))))))
set_option maxRecDepth 100000 in
theorem wl_X1_isForgiven_3 {X : CT} (p1 : Int32) (p2 : Int32) (p3 : Int32) (hX : okX X RX1 cX1_isForgiven 0 0) {post : Int32 → Mem → Prop} (hret : ∀ (r : Int32) (M' : Mem), narrow .boolean (.int r) = .int r → post r M' → RetI X cX1_isForgiven r M') : ∀ (n : Nat) (x4 : Int32) (M : Mem), lp_X1_isForgiven_3 p1 p2 p3 post n x4 M → Z X M 3 [some (.ref (adX X 18)), some (.int p1), some (.int p2), some (.int p3), some (.int x4)] [] := by
  intro n
  induction n with
  | zero =>
    intro x4 M h
    exact False.elim h
  | succ n ih =>
    intro x4 M h
    unfold lp_X1_isForgiven_3 at h
    refine r_iload hX dX1_isForgiven_3 rfl ?_
    refine r_aload_n hX dX1_isForgiven_5 rfl rfl ?_
    refine r_getR hX fg_X1_19 ly_18 rfl dX1_isForgiven_6 ?_
    refine r_getI hX fg_X1_46 ly_9 rfl dX1_isForgiven_9 ?_
    refine r_icmp_ge hX 95 dX1_isForgiven_12 (by decide) (fun hc => ?_) (fun hc => ?_)
    · have h := h.1 hc
      refine r_iconst (v := 0) hX dX1_isForgiven_95 (by decide) ?_
      exact r_iret (hret _ _ rfl h) dX1_isForgiven_96
    · have h := h.2 hc
      refine r_aload_n hX dX1_isForgiven_15 rfl rfl ?_
      refine r_getR hX fg_X1_19 ly_18 rfl dX1_isForgiven_16 ?_
      refine r_getR hX fg_X1_64 ly_9 rfl dX1_isForgiven_19 ?_
      refine r_iload hX dX1_isForgiven_22 rfl ?_
      refine r_iald hX ly_12 h.1 dX1_isForgiven_24 ?_
      have h := h.2
      refine r_iload_n hX dX1_isForgiven_25 rfl rfl ?_
      refine r_icmp_ne hX 89 dX1_isForgiven_26 (by decide) (fun hc => ?_) (fun hc => ?_)
      · have h := h.1 hc
        refine r_iinc (v := x4 + 1) (L' := [some (.ref (adX X 18)), some (.int p1), some (.int p2), some (.int p3), some (.int (x4 + 1))]) hX dX1_isForgiven_89 rfl rfl rfl rfl ?_
        refine r_goto hX 3 dX1_isForgiven_92 (by decide) ?_
        refine r_sub [some (.ref (adX X 18)), some (.int p1), some (.int p2), some (.int p3), some (.int (x4 + 1))] (And.intro rfl (And.intro rfl (And.intro rfl (And.intro rfl (And.intro rfl trivial))))) ?_
        exact ih _ _ h
      · have h := h.2 hc
        refine r_aload_n hX dX1_isForgiven_29 rfl rfl ?_
        refine r_getR hX fg_X1_19 ly_18 rfl dX1_isForgiven_30 ?_
        refine r_getR hX fg_X1_79 ly_9 rfl dX1_isForgiven_33 ?_
        refine r_iload hX dX1_isForgiven_36 rfl ?_
        refine r_iald hX ly_11 h.1 dX1_isForgiven_38 ?_
        have h := h.2
        refine r_aload_n hX dX1_isForgiven_39 rfl rfl ?_
        refine r_getR hX fg_X1_15 ly_18 rfl dX1_isForgiven_40 ?_
        refine r_getR hX fg_X1_79 ly_5 rfl dX1_isForgiven_43 ?_
        refine r_iload_n hX dX1_isForgiven_46 rfl rfl ?_
        refine r_iald hX ly_7 h.1 dX1_isForgiven_47 ?_
        have h := h.2
        refine r_icmp_ne hX 89 dX1_isForgiven_48 (by decide) (fun hc => ?_) (fun hc => ?_)
        · have h := h.1 hc
          refine r_iinc (v := x4 + 1) (L' := [some (.ref (adX X 18)), some (.int p1), some (.int p2), some (.int p3), some (.int (x4 + 1))]) hX dX1_isForgiven_89 rfl rfl rfl rfl ?_
          refine r_goto hX 3 dX1_isForgiven_92 (by decide) ?_
          refine r_sub [some (.ref (adX X 18)), some (.int p1), some (.int p2), some (.int p3), some (.int (x4 + 1))] (And.intro rfl (And.intro rfl (And.intro rfl (And.intro rfl (And.intro rfl trivial))))) ?_
          exact ih _ _ h
        · have h := h.2 hc
          refine r_aload_n hX dX1_isForgiven_51 rfl rfl ?_
          refine r_getR hX fg_X1_19 ly_18 rfl dX1_isForgiven_52 ?_
          refine r_getR hX fg_X1_55 ly_9 rfl dX1_isForgiven_55 ?_
          refine r_iload hX dX1_isForgiven_58 rfl ?_
          refine r_iald hX ly_10 h.1 dX1_isForgiven_60 ?_
          have h := h.2
          refine r_aload_n hX dX1_isForgiven_61 rfl rfl ?_
          refine r_getR hX fg_X1_15 ly_18 rfl dX1_isForgiven_62 ?_
          refine r_getR hX fg_X1_55 ly_5 rfl dX1_isForgiven_65 ?_
          refine r_iload_n hX dX1_isForgiven_68 rfl rfl ?_
          refine r_iald hX ly_6 h.1 dX1_isForgiven_69 ?_
          have h := h.2
          refine r_icmp_lt hX 89 dX1_isForgiven_70 (by decide) (fun hc => ?_) (fun hc => ?_)
          · have h := h.1 hc
            refine r_iinc (v := x4 + 1) (L' := [some (.ref (adX X 18)), some (.int p1), some (.int p2), some (.int p3), some (.int (x4 + 1))]) hX dX1_isForgiven_89 rfl rfl rfl rfl ?_
            refine r_goto hX 3 dX1_isForgiven_92 (by decide) ?_
            refine r_sub [some (.ref (adX X 18)), some (.int p1), some (.int p2), some (.int p3), some (.int (x4 + 1))] (And.intro rfl (And.intro rfl (And.intro rfl (And.intro rfl (And.intro rfl trivial))))) ?_
            exact ih _ _ h
          · have h := h.2 hc
            refine r_aload_n hX dX1_isForgiven_73 rfl rfl ?_
            refine r_getR hX fg_X1_19 ly_18 rfl dX1_isForgiven_74 ?_
            refine r_getR hX fg_X1_55 ly_9 rfl dX1_isForgiven_77 ?_
            refine r_iload hX dX1_isForgiven_80 rfl ?_
            refine r_iald hX ly_10 h.1 dX1_isForgiven_82 ?_
            have h := h.2
            refine r_iload_n hX dX1_isForgiven_83 rfl rfl ?_
            refine r_icmp_ge hX 89 dX1_isForgiven_84 (by decide) (fun hc => ?_) (fun hc => ?_)
            · have h := h.1 hc
              refine r_iinc (v := x4 + 1) (L' := [some (.ref (adX X 18)), some (.int p1), some (.int p2), some (.int p3), some (.int (x4 + 1))]) hX dX1_isForgiven_89 rfl rfl rfl rfl ?_
              refine r_goto hX 3 dX1_isForgiven_92 (by decide) ?_
              refine r_sub [some (.ref (adX X 18)), some (.int p1), some (.int p2), some (.int p3), some (.int (x4 + 1))] (And.intro rfl (And.intro rfl (And.intro rfl (And.intro rfl (And.intro rfl trivial))))) ?_
              exact ih _ _ h
            · have h := h.2 hc
              refine r_iconst (v := 1) hX dX1_isForgiven_87 (by decide) ?_
              exact r_iret (hret _ _ rfl h) dX1_isForgiven_88
def wp_X1_isForgiven (p1 : Int32) (p2 : Int32) (p3 : Int32) (M : Mem) (post : Int32 → Mem → Prop) : Prop := (∃ k, lp_X1_isForgiven_3 p1 p2 p3 post k 0 M)
set_option maxRecDepth 100000 in
theorem wk_X1_isForgiven {X : CT} (p1 : Int32) (p2 : Int32) (p3 : Int32) (hX : okX X RX1 cX1_isForgiven 0 0) {M : Mem} {post : Int32 → Mem → Prop} (hret : ∀ (r : Int32) (M' : Mem), narrow .boolean (.int r) = .int r → post r M' → RetI X cX1_isForgiven r M') (h : wp_X1_isForgiven p1 p2 p3 M post) : Z X M 0 [some (.ref (adX X 18)), some (.int p1), some (.int p2), some (.int p3), none] [] := by
  unfold wp_X1_isForgiven at h
  refine r_iconst (v := 0) hX dX1_isForgiven_0 (by decide) ?_
  refine r_istore (L' := [some (.ref (adX X 18)), some (.int p1), some (.int p2), some (.int p3), some (.int 0)]) hX dX1_isForgiven_1 (Nat.lt_of_ble rfl) rfl rfl ?_
  obtain ⟨n1, h⟩ := h
  refine r_sub [some (.ref (adX X 18)), some (.int p1), some (.int p2), some (.int p3), some (.int 0)] (And.intro rfl (And.intro rfl (And.intro rfl (And.intro rfl (And.intro rfl trivial))))) ?_
  exact wl_X1_isForgiven_3 p1 p2 p3 hX hret n1 _ _ h
set_option maxRecDepth 100000 in
theorem c_X1_isForgiven {l : Launch} {D : va_G} {cs : CS3} {ad : Nat → Nat} (p1 : Int32) (p2 : Int32) (p3 : Int32) {M : Mem} {post : Int32 → Mem → Prop} (h : wp_X1_isForgiven p1 p2 p3 M post) : CtI l D cs ad yX1_isForgiven cX1_isForgiven 5 (some .boolean) 0 0 [.ref (ad 18), .int p1, .int p2, .int p3] M post := met_I (k := 1) (fun ad => [.ref (ad 18), .int p1, .int p2, .int p3]) (fun ad => [some (.ref (ad 18)), some (.int p1), some (.int p2), some (.int p3), none]) (by decide +kernel) (fun _ => Nat.le_of_ble_eq_true rfl) (fun _ => rfl) (fun _ => rfl) (fun X hX hret => wk_X1_isForgiven p1 p2 p3 hX hret h)
def jn_X1_isHeld_49 (p1 : Int32) (p2 : Int32) (p3 : Int32) (post : Int32 → Mem → Prop) (x4 : Int32) (s0 : Int32) (M : Mem) : Prop := ((x4 < 1 → post 0 M) ∧ (¬ x4 < 1 → ((s0 < x4 → post 0 M) ∧ (¬ s0 < x4 → (vp_in p2 8 ∧ (wp_J9_abs_0f7a4 (p1 - (M 8 p2.toNatClampNeg)) M (fun r2 M3 => (vp_in p1 5 ∧ (((M3 3 p1.toNatClampNeg) < r2 → post 0 M3) ∧ (¬ (M3 3 p1.toNatClampNeg) < r2 → (wp_X1_isForgiven p1 p2 p3 M3 (fun r4 M5 => ((¬ r4 = 0 → post 0 M5) ∧ (r4 = 0 → post 1 M5))))))))))))))
set_option maxRecDepth 100000 in
theorem wj_X1_isHeld_49 {X : CT} (p1 : Int32) (p2 : Int32) (p3 : Int32) (hX : okX X RX1 cX1_isHeld 1 24) {post : Int32 → Mem → Prop} (hret : ∀ (r : Int32) (M' : Mem), narrow .boolean (.int r) = .int r → post r M' → RetI X cX1_isHeld r M') (x4 : Int32) (s0 : Int32) (M : Mem) (h : jn_X1_isHeld_49 p1 p2 p3 post x4 s0 M) : Z X M 49 [some (.ref (adX X 18)), some (.int p1), some (.int p2), some (.int p3), some (.int x4), none] [.int s0] := by
  unfold jn_X1_isHeld_49 at h
  refine r_istore (L' := [some (.ref (adX X 18)), some (.int p1), some (.int p2), some (.int p3), some (.int x4), some (.int s0)]) hX dX1_isHeld_49 (Nat.lt_of_ble rfl) rfl rfl ?_
  refine r_iload hX dX1_isHeld_51 rfl ?_
  refine r_iconst (v := 1) hX dX1_isHeld_53 (by decide) ?_
  refine r_icmp_lt hX 104 dX1_isHeld_54 (by decide) (fun hc => ?_) (fun hc => ?_)
  · have h := h.1 hc
    refine r_iconst (v := 0) hX dX1_isHeld_104 (by decide) ?_
    exact r_iret (hret _ _ rfl h) dX1_isHeld_105
  · have h := h.2 hc
    refine r_iload hX dX1_isHeld_57 rfl ?_
    refine r_iload hX dX1_isHeld_59 rfl ?_
    refine r_icmp_gt hX 104 dX1_isHeld_61 (by decide) (fun hc => ?_) (fun hc => ?_)
    · have h := h.1 hc
      refine r_iconst (v := 0) hX dX1_isHeld_104 (by decide) ?_
      exact r_iret (hret _ _ rfl h) dX1_isHeld_105
    · have h := h.2 hc
      refine r_iload_n hX dX1_isHeld_64 rfl rfl ?_
      refine r_aload_n hX dX1_isHeld_65 rfl rfl ?_
      refine r_getR hX fg_X1_15 ly_18 rfl dX1_isHeld_66 ?_
      refine r_getR hX fg_X1_64 ly_5 rfl dX1_isHeld_69 ?_
      refine r_iload_n hX dX1_isHeld_72 rfl rfl ?_
      refine r_iald hX ly_8 h.1 dX1_isHeld_73 ?_
      have h := h.2
      refine r_isub hX dX1_isHeld_74 ?_
      refine r_cSi1 hX fs_X1_67 ⟨Nat.le_of_ble_eq_true rfl, Nat.le_of_ble_eq_true rfl⟩ (c_J9_abs_0f7a4 (p1 - (M 8 p2.toNatClampNeg)) h) (Nat.le_of_ble_eq_true rfl) dX1_isHeld_75 (fun r2 M3 h => ?_)
      refine r_aload_n hX dX1_isHeld_78 rfl rfl ?_
      refine r_getR hX fg_X1_9 ly_18 rfl dX1_isHeld_79 ?_
      refine r_getR hX fg_X1_73 ly_1 rfl dX1_isHeld_82 ?_
      refine r_iload_n hX dX1_isHeld_85 rfl rfl ?_
      refine r_iald hX ly_3 h.1 dX1_isHeld_86 ?_
      have h := h.2
      refine r_icmp_gt hX 104 dX1_isHeld_87 (by decide) (fun hc => ?_) (fun hc => ?_)
      · have h := h.1 hc
        refine r_iconst (v := 0) hX dX1_isHeld_104 (by decide) ?_
        exact r_iret (hret _ _ rfl h) dX1_isHeld_105
      · have h := h.2 hc
        refine r_aload_n hX dX1_isHeld_90 rfl rfl ?_
        refine r_iload_n hX dX1_isHeld_91 rfl rfl ?_
        refine r_iload_n hX dX1_isHeld_92 rfl rfl ?_
        refine r_iload_n hX dX1_isHeld_93 rfl rfl ?_
        refine r_cVi3 hX fv_X1_76 ly_18 rfl ⟨Nat.le_of_ble_eq_true rfl, Nat.le_of_ble_eq_true rfl⟩ (c_X1_isForgiven p1 p2 p3 h) (Nat.le_of_ble_eq_true rfl) dX1_isHeld_94 (fun r4 M5 h => ?_)
        refine r_if_ne hX 104 dX1_isHeld_97 (by decide) (fun hc => ?_) (fun hc => ?_)
        · have h := h.1 hc
          refine r_iconst (v := 0) hX dX1_isHeld_104 (by decide) ?_
          exact r_iret (hret _ _ rfl h) dX1_isHeld_105
        · have h := h.2 hc
          refine r_iconst (v := 1) hX dX1_isHeld_100 (by decide) ?_
          refine r_goto hX 105 dX1_isHeld_101 (by decide) ?_
          exact r_iret (hret _ _ rfl h) dX1_isHeld_105
def wp_X1_isHeld (p1 : Int32) (p2 : Int32) (p3 : Int32) (M : Mem) (post : Int32 → Mem → Prop) : Prop := (vp_in p2 8 ∧ (∀ v1 : Int32, v1 = p3 - (M 6 p2.toNatClampNeg) → (vp_in p1 5 ∧ ((¬ (M 2 p1.toNatClampNeg) = 2 → (vp_in p1 5 ∧ jn_X1_isHeld_49 p1 p2 p3 post v1 (M 4 p1.toNatClampNeg) M)) ∧ ((M 2 p1.toNatClampNeg) = 2 → (vp_in p1 5 ∧ jn_X1_isHeld_49 p1 p2 p3 post v1 (2 * (M 4 p1.toNatClampNeg)) M))))))
set_option maxRecDepth 100000 in
theorem wk_X1_isHeld {X : CT} (p1 : Int32) (p2 : Int32) (p3 : Int32) (hX : okX X RX1 cX1_isHeld 1 24) {M : Mem} {post : Int32 → Mem → Prop} (hret : ∀ (r : Int32) (M' : Mem), narrow .boolean (.int r) = .int r → post r M' → RetI X cX1_isHeld r M') (h : wp_X1_isHeld p1 p2 p3 M post) : Z X M 0 [some (.ref (adX X 18)), some (.int p1), some (.int p2), some (.int p3), none, none] [] := by
  unfold wp_X1_isHeld at h
  refine r_iload_n hX dX1_isHeld_0 rfl rfl ?_
  refine r_aload_n hX dX1_isHeld_1 rfl rfl ?_
  refine r_getR hX fg_X1_15 ly_18 rfl dX1_isHeld_2 ?_
  refine r_getR hX fg_X1_55 ly_5 rfl dX1_isHeld_5 ?_
  refine r_iload_n hX dX1_isHeld_8 rfl rfl ?_
  refine r_iald hX ly_6 h.1 dX1_isHeld_9 ?_
  have h := h.2
  refine r_isub hX dX1_isHeld_10 ?_
  refine r_nm (fun v1 ev1 => ?_)
  have h := h v1 ev1
  refine r_istore (L' := [some (.ref (adX X 18)), some (.int p1), some (.int p2), some (.int p3), some (.int v1), none]) hX dX1_isHeld_11 (Nat.lt_of_ble rfl) rfl rfl ?_
  refine r_aload_n hX dX1_isHeld_13 rfl rfl ?_
  refine r_getR hX fg_X1_9 ly_18 rfl dX1_isHeld_14 ?_
  refine r_getR hX fg_X1_58 ly_1 rfl dX1_isHeld_17 ?_
  refine r_iload_n hX dX1_isHeld_20 rfl rfl ?_
  refine r_iald hX ly_2 h.1 dX1_isHeld_21 ?_
  have h := h.2
  refine r_iconst (v := 2) hX dX1_isHeld_22 (by decide) ?_
  refine r_icmp_ne hX 40 dX1_isHeld_23 (by decide) (fun hc => ?_) (fun hc => ?_)
  · have h := h.1 hc
    refine r_aload_n hX dX1_isHeld_40 rfl rfl ?_
    refine r_getR hX fg_X1_9 ly_18 rfl dX1_isHeld_41 ?_
    refine r_getR hX fg_X1_61 ly_1 rfl dX1_isHeld_44 ?_
    refine r_iload_n hX dX1_isHeld_47 rfl rfl ?_
    refine r_iald hX ly_4 h.1 dX1_isHeld_48 ?_
    have h := h.2
    refine r_sub [some (.ref (adX X 18)), some (.int p1), some (.int p2), some (.int p3), some (.int v1), none] (And.intro rfl (And.intro rfl (And.intro rfl (And.intro rfl (And.intro rfl trivial))))) ?_
    exact wj_X1_isHeld_49 p1 p2 p3 hX hret _ _ _ h
  · have h := h.2 hc
    refine r_iconst (v := 2) hX dX1_isHeld_26 (by decide) ?_
    refine r_aload_n hX dX1_isHeld_27 rfl rfl ?_
    refine r_getR hX fg_X1_9 ly_18 rfl dX1_isHeld_28 ?_
    refine r_getR hX fg_X1_61 ly_1 rfl dX1_isHeld_31 ?_
    refine r_iload_n hX dX1_isHeld_34 rfl rfl ?_
    refine r_iald hX ly_4 h.1 dX1_isHeld_35 ?_
    have h := h.2
    refine r_imul hX dX1_isHeld_36 ?_
    refine r_goto hX 49 dX1_isHeld_37 (by decide) ?_
    refine r_sub [some (.ref (adX X 18)), some (.int p1), some (.int p2), some (.int p3), some (.int v1), none] (And.intro rfl (And.intro rfl (And.intro rfl (And.intro rfl (And.intro rfl trivial))))) ?_
    exact wj_X1_isHeld_49 p1 p2 p3 hX hret _ _ _ h
set_option maxRecDepth 100000 in
theorem c_X1_isHeld {l : Launch} {D : va_G} {cs : CS3} {ad : Nat → Nat} (p1 : Int32) (p2 : Int32) (p3 : Int32) {M : Mem} {post : Int32 → Mem → Prop} (h : wp_X1_isHeld p1 p2 p3 M post) : CtI l D cs ad yX1_isHeld cX1_isHeld 6 (some .boolean) 1 24 [.ref (ad 18), .int p1, .int p2, .int p3] M post := met_I (k := 2) (fun ad => [.ref (ad 18), .int p1, .int p2, .int p3]) (fun ad => [some (.ref (ad 18)), some (.int p1), some (.int p2), some (.int p3), none, none]) (by decide +kernel) (fun _ => Nat.le_of_ble_eq_true rfl) (fun _ => rfl) (fun _ => rfl) (fun X hX hret => wk_X1_isHeld p1 p2 p3 hX hret h)
def lp_X1_recall_22 (p1 : Int32) (post : Mem → Prop) (B_2 : Int32 → Mem → Prop) : Nat → Int32 → Int32 → Mem → Prop
  | 0, _, _, _ => False
  | n + 1, x2, x3, M => (((M 5 3) ≤ x3 → B_2 (x2 + 1) M) ∧ (¬ (M 5 3) ≤ x3 → (wp_X1_isHeld x2 x3 p1 M (fun r2 M3 => ((r2 = 0 → lp_X1_recall_22 p1 post B_2 n x2 (x3 + 1) M3) ∧ (¬ r2 = 0 → (vp_in x2 5 ∧ (vp_in x2 5 ∧ ∀ M4 : Mem, M4 = up2 M3 19 x2.toNatClampNeg ((M3 19 x2.toNatClampNeg) ||| (1 <<< (x3 &&& 31))) → lp_X1_recall_22 p1 post B_2 n x2 (x3 + 1) M4))))))))
set_option maxRecDepth 100000 in
theorem wl_X1_recall_22 {X : CT} (p1 : Int32) (hX : okX X RX1 cX1_recall 2 49) {post : Mem → Prop} (hret : ∀ (M' : Mem), post M' → RetV X cX1_recall M') {B_2 : Int32 → Mem → Prop} (hB_2 : ∀ (x2 : Int32) (M : Mem), B_2 x2 M → Z X M 2 [some (.ref (adX X 18)), some (.int p1), some (.int x2), none] []) : ∀ (n : Nat) (x2 : Int32) (x3 : Int32) (M : Mem), lp_X1_recall_22 p1 post B_2 n x2 x3 M → Z X M 22 [some (.ref (adX X 18)), some (.int p1), some (.int x2), some (.int x3)] [] := by
  intro n
  induction n with
  | zero =>
    intro x2 x3 M h
    exact False.elim h
  | succ n ih =>
    intro x2 x3 M h
    unfold lp_X1_recall_22 at h
    refine r_iload_n hX dX1_recall_22 rfl rfl ?_
    refine r_aload_n hX dX1_recall_23 rfl rfl ?_
    refine r_getR hX fg_X1_15 ly_18 rfl dX1_recall_24 ?_
    refine r_getI hX fg_X1_46 ly_5 rfl dX1_recall_27 ?_
    refine r_icmp_ge hX 61 dX1_recall_30 (by decide) (fun hc => ?_) (fun hc => ?_)
    · have h := h.1 hc
      refine r_iinc (v := x2 + 1) (L' := [some (.ref (adX X 18)), some (.int p1), some (.int (x2 + 1)), some (.int x3)]) hX dX1_recall_61 rfl rfl rfl rfl ?_
      refine r_goto hX 2 dX1_recall_64 (by decide) ?_
      refine r_sub [some (.ref (adX X 18)), some (.int p1), some (.int (x2 + 1)), none] (And.intro rfl (And.intro rfl (And.intro rfl trivial))) ?_
      exact hB_2 _ _ h
    · have h := h.2 hc
      refine r_aload_n hX dX1_recall_33 rfl rfl ?_
      refine r_iload_n hX dX1_recall_34 rfl rfl ?_
      refine r_iload_n hX dX1_recall_35 rfl rfl ?_
      refine r_iload_n hX dX1_recall_36 rfl rfl ?_
      refine r_cVi3 hX fv_X1_51 ly_18 rfl ⟨Nat.le_of_ble_eq_true rfl, Nat.le_of_ble_eq_true rfl⟩ (c_X1_isHeld x2 x3 p1 h) (Nat.le_of_ble_eq_true rfl) dX1_recall_37 (fun r2 M3 h => ?_)
      refine r_if_eq hX 55 dX1_recall_40 (by decide) (fun hc => ?_) (fun hc => ?_)
      · have h := h.1 hc
        refine r_iinc (v := x3 + 1) (L' := [some (.ref (adX X 18)), some (.int p1), some (.int x2), some (.int (x3 + 1))]) hX dX1_recall_55 rfl rfl rfl rfl ?_
        refine r_goto hX 22 dX1_recall_58 (by decide) ?_
        refine r_sub [some (.ref (adX X 18)), some (.int p1), some (.int x2), some (.int (x3 + 1))] (And.intro rfl (And.intro rfl (And.intro rfl (And.intro rfl trivial)))) ?_
        exact ih _ _ _ h
      · have h := h.2 hc
        refine r_aload_n hX dX1_recall_43 rfl rfl ?_
        refine r_getR hX fg_X1_22 ly_18 rfl dX1_recall_44 ?_
        refine r_iload_n hX dX1_recall_47 rfl rfl ?_
        refine r_dup2 hX dX1_recall_48 rfl rfl ?_
        refine r_iald hX ly_19 h.1 dX1_recall_49 ?_
        have h := h.2
        refine r_iconst (v := 1) hX dX1_recall_50 (by decide) ?_
        refine r_iload_n hX dX1_recall_51 rfl rfl ?_
        refine r_ishl hX dX1_recall_52 ?_
        refine r_ior hX dX1_recall_53 ?_
        refine r_iast hX ly_19 h.1 dX1_recall_54 ?_
        refine r_nmM (fun M4 eM4 => ?_)
        have h := h.2 M4 eM4
        refine r_iinc (v := x3 + 1) (L' := [some (.ref (adX X 18)), some (.int p1), some (.int x2), some (.int (x3 + 1))]) hX dX1_recall_55 rfl rfl rfl rfl ?_
        refine r_goto hX 22 dX1_recall_58 (by decide) ?_
        refine r_sub [some (.ref (adX X 18)), some (.int p1), some (.int x2), some (.int (x3 + 1))] (And.intro rfl (And.intro rfl (And.intro rfl (And.intro rfl trivial)))) ?_
        exact ih _ _ _ h
def lp_X1_recall_2 (p1 : Int32) (post : Mem → Prop) : Nat → Int32 → Mem → Prop
  | 0, _, _ => False
  | n + 1, x2, M => (((M 1 3) ≤ x2 → post M) ∧ (¬ (M 1 3) ≤ x2 → (vp_in x2 5 ∧ ∀ M1 : Mem, M1 = up2 M 19 x2.toNatClampNeg 0 → (∃ k, lp_X1_recall_22 p1 post (fun y2 M' => lp_X1_recall_2 p1 post n y2 M') k x2 0 M1))))
set_option maxRecDepth 100000 in
theorem wl_X1_recall_2 {X : CT} (p1 : Int32) (hX : okX X RX1 cX1_recall 2 49) {post : Mem → Prop} (hret : ∀ (M' : Mem), post M' → RetV X cX1_recall M') : ∀ (n : Nat) (x2 : Int32) (M : Mem), lp_X1_recall_2 p1 post n x2 M → Z X M 2 [some (.ref (adX X 18)), some (.int p1), some (.int x2), none] [] := by
  intro n
  induction n with
  | zero =>
    intro x2 M h
    exact False.elim h
  | succ n ih =>
    intro x2 M h
    unfold lp_X1_recall_2 at h
    refine r_iload_n hX dX1_recall_2 rfl rfl ?_
    refine r_aload_n hX dX1_recall_3 rfl rfl ?_
    refine r_getR hX fg_X1_9 ly_18 rfl dX1_recall_4 ?_
    refine r_getI hX fg_X1_40 ly_1 rfl dX1_recall_7 ?_
    refine r_icmp_ge hX 67 dX1_recall_10 (by decide) (fun hc => ?_) (fun hc => ?_)
    · have h := h.1 hc
      exact r_vret (hret _ h) dX1_recall_67
    · have h := h.2 hc
      refine r_aload_n hX dX1_recall_13 rfl rfl ?_
      refine r_getR hX fg_X1_22 ly_18 rfl dX1_recall_14 ?_
      refine r_iload_n hX dX1_recall_17 rfl rfl ?_
      refine r_iconst (v := 0) hX dX1_recall_18 (by decide) ?_
      refine r_iast hX ly_19 h.1 dX1_recall_19 ?_
      refine r_nmM (fun M1 eM1 => ?_)
      have h := h.2 M1 eM1
      refine r_iconst (v := 0) hX dX1_recall_20 (by decide) ?_
      refine r_istore_n (L' := [some (.ref (adX X 18)), some (.int p1), some (.int x2), some (.int 0)]) hX dX1_recall_21 rfl (Nat.lt_of_ble rfl) rfl rfl ?_
      obtain ⟨n5, h⟩ := h
      refine r_sub [some (.ref (adX X 18)), some (.int p1), some (.int x2), some (.int 0)] (And.intro rfl (And.intro rfl (And.intro rfl (And.intro rfl trivial)))) ?_
      exact wl_X1_recall_22 p1 hX hret (fun y2 M' h' => ih y2 M' h') n5 _ _ _ h
def wp_X1_recall (p1 : Int32) (M : Mem) (post : Mem → Prop) : Prop := (∃ k, lp_X1_recall_2 p1 post k 0 M)
set_option maxRecDepth 100000 in
theorem wk_X1_recall {X : CT} (p1 : Int32) (hX : okX X RX1 cX1_recall 2 49) {M : Mem} {post : Mem → Prop} (hret : ∀ (M' : Mem), post M' → RetV X cX1_recall M') (h : wp_X1_recall p1 M post) : Z X M 0 [some (.ref (adX X 18)), some (.int p1), none, none] [] := by
  unfold wp_X1_recall at h
  refine r_iconst (v := 0) hX dX1_recall_0 (by decide) ?_
  refine r_istore_n (L' := [some (.ref (adX X 18)), some (.int p1), some (.int 0), none]) hX dX1_recall_1 rfl (Nat.lt_of_ble rfl) rfl rfl ?_
  obtain ⟨n6, h⟩ := h
  refine r_sub [some (.ref (adX X 18)), some (.int p1), some (.int 0), none] (And.intro rfl (And.intro rfl (And.intro rfl trivial))) ?_
  exact wl_X1_recall_2 p1 hX hret n6 _ _ h
set_option maxRecDepth 100000 in
theorem c_X1_recall {l : Launch} {D : va_G} {cs : CS3} {ad : Nat → Nat} (p1 : Int32) {M : Mem} {post : Mem → Prop} (h : wp_X1_recall p1 M post) : CtV l D cs ad yX1_recall cX1_recall 4 none 2 49 [.ref (ad 18), .int p1] M post := met_V (k := 2) (fun ad => [.ref (ad 18), .int p1]) (fun ad => [some (.ref (ad 18)), some (.int p1), none, none]) (by decide +kernel) (fun _ => Nat.le_of_ble_eq_true rfl) (fun _ => rfl) (fun _ => rfl) (fun X hX hret => wk_X1_recall p1 hX hret h)
def lp_X1_guestsOf_4 (p1 : Int32) (post : Int32 → Mem → Prop) : Nat → Int32 → Int32 → Mem → Prop
  | 0, _, _, _ => False
  | n + 1, x2, x3, M => (((M 5 3) ≤ x3 → post x2 M) ∧ (¬ (M 5 3) ≤ x3 → ((((p1 >>> (x3 &&& 31)) &&& 1) = 0 → lp_X1_guestsOf_4 p1 post n x2 (x3 + 1) M) ∧ (¬ ((p1 >>> (x3 &&& 31)) &&& 1) = 0 → (vp_in x3 8 ∧ (∀ v1 : Int32, v1 = x2 ||| (1 <<< ((M 7 x3.toNatClampNeg) &&& 31)) → lp_X1_guestsOf_4 p1 post n v1 (x3 + 1) M))))))
set_option maxRecDepth 100000 in
theorem wl_X1_guestsOf_4 {X : CT} (p1 : Int32) (hX : okX X RX1 cX1_guestsOf 0 0) {post : Int32 → Mem → Prop} (hret : ∀ (r : Int32) (M' : Mem), narrow .int (.int r) = .int r → post r M' → RetI X cX1_guestsOf r M') : ∀ (n : Nat) (x2 : Int32) (x3 : Int32) (M : Mem), lp_X1_guestsOf_4 p1 post n x2 x3 M → Z X M 4 [some (.ref (adX X 18)), some (.int p1), some (.int x2), some (.int x3)] [] := by
  intro n
  induction n with
  | zero =>
    intro x2 x3 M h
    exact False.elim h
  | succ n ih =>
    intro x2 x3 M h
    unfold lp_X1_guestsOf_4 at h
    refine r_iload_n hX dX1_guestsOf_4 rfl rfl ?_
    refine r_aload_n hX dX1_guestsOf_5 rfl rfl ?_
    refine r_getR hX fg_X1_15 ly_18 rfl dX1_guestsOf_6 ?_
    refine r_getI hX fg_X1_46 ly_5 rfl dX1_guestsOf_9 ?_
    refine r_icmp_ge hX 43 dX1_guestsOf_12 (by decide) (fun hc => ?_) (fun hc => ?_)
    · have h := h.1 hc
      refine r_iload_n hX dX1_guestsOf_43 rfl rfl ?_
      exact r_iret (hret _ _ rfl h) dX1_guestsOf_44
    · have h := h.2 hc
      refine r_iload_n hX dX1_guestsOf_15 rfl rfl ?_
      refine r_iload_n hX dX1_guestsOf_16 rfl rfl ?_
      refine r_ishr hX dX1_guestsOf_17 ?_
      refine r_iconst (v := 1) hX dX1_guestsOf_18 (by decide) ?_
      refine r_iand hX dX1_guestsOf_19 ?_
      refine r_if_eq hX 37 dX1_guestsOf_20 (by decide) (fun hc => ?_) (fun hc => ?_)
      · have h := h.1 hc
        refine r_iinc (v := x3 + 1) (L' := [some (.ref (adX X 18)), some (.int p1), some (.int x2), some (.int (x3 + 1))]) hX dX1_guestsOf_37 rfl rfl rfl rfl ?_
        refine r_goto hX 4 dX1_guestsOf_40 (by decide) ?_
        refine r_sub [some (.ref (adX X 18)), some (.int p1), some (.int x2), some (.int (x3 + 1))] (And.intro rfl (And.intro rfl (And.intro rfl (And.intro rfl trivial)))) ?_
        exact ih _ _ _ h
      · have h := h.2 hc
        refine r_iload_n hX dX1_guestsOf_23 rfl rfl ?_
        refine r_iconst (v := 1) hX dX1_guestsOf_24 (by decide) ?_
        refine r_aload_n hX dX1_guestsOf_25 rfl rfl ?_
        refine r_getR hX fg_X1_15 ly_18 rfl dX1_guestsOf_26 ?_
        refine r_getR hX fg_X1_79 ly_5 rfl dX1_guestsOf_29 ?_
        refine r_iload_n hX dX1_guestsOf_32 rfl rfl ?_
        refine r_iald hX ly_7 h.1 dX1_guestsOf_33 ?_
        have h := h.2
        refine r_ishl hX dX1_guestsOf_34 ?_
        refine r_ior hX dX1_guestsOf_35 ?_
        refine r_nm (fun v1 ev1 => ?_)
        have h := h v1 ev1
        refine r_istore_n (L' := [some (.ref (adX X 18)), some (.int p1), some (.int v1), some (.int x3)]) hX dX1_guestsOf_36 rfl (Nat.lt_of_ble rfl) rfl rfl ?_
        refine r_iinc (v := x3 + 1) (L' := [some (.ref (adX X 18)), some (.int p1), some (.int v1), some (.int (x3 + 1))]) hX dX1_guestsOf_37 rfl rfl rfl rfl ?_
        refine r_goto hX 4 dX1_guestsOf_40 (by decide) ?_
        refine r_sub [some (.ref (adX X 18)), some (.int p1), some (.int v1), some (.int (x3 + 1))] (And.intro rfl (And.intro rfl (And.intro rfl (And.intro rfl trivial)))) ?_
        exact ih _ _ _ h
def wp_X1_guestsOf (p1 : Int32) (M : Mem) (post : Int32 → Mem → Prop) : Prop := (∃ k, lp_X1_guestsOf_4 p1 post k 0 0 M)
set_option maxRecDepth 100000 in
theorem wk_X1_guestsOf {X : CT} (p1 : Int32) (hX : okX X RX1 cX1_guestsOf 0 0) {M : Mem} {post : Int32 → Mem → Prop} (hret : ∀ (r : Int32) (M' : Mem), narrow .int (.int r) = .int r → post r M' → RetI X cX1_guestsOf r M') (h : wp_X1_guestsOf p1 M post) : Z X M 0 [some (.ref (adX X 18)), some (.int p1), none, none] [] := by
  unfold wp_X1_guestsOf at h
  refine r_iconst (v := 0) hX dX1_guestsOf_0 (by decide) ?_
  refine r_istore_n (L' := [some (.ref (adX X 18)), some (.int p1), some (.int 0), none]) hX dX1_guestsOf_1 rfl (Nat.lt_of_ble rfl) rfl rfl ?_
  refine r_iconst (v := 0) hX dX1_guestsOf_2 (by decide) ?_
  refine r_istore_n (L' := [some (.ref (adX X 18)), some (.int p1), some (.int 0), some (.int 0)]) hX dX1_guestsOf_3 rfl (Nat.lt_of_ble rfl) rfl rfl ?_
  obtain ⟨n2, h⟩ := h
  refine r_sub [some (.ref (adX X 18)), some (.int p1), some (.int 0), some (.int 0)] (And.intro rfl (And.intro rfl (And.intro rfl (And.intro rfl trivial)))) ?_
  exact wl_X1_guestsOf_4 p1 hX hret n2 _ _ _ h
set_option maxRecDepth 100000 in
theorem c_X1_guestsOf {l : Launch} {D : va_G} {cs : CS3} {ad : Nat → Nat} (p1 : Int32) {M : Mem} {post : Int32 → Mem → Prop} (h : wp_X1_guestsOf p1 M post) : CtI l D cs ad yX1_guestsOf cX1_guestsOf 4 (some .int) 0 0 [.ref (ad 18), .int p1] M post := met_I (k := 2) (fun ad => [.ref (ad 18), .int p1]) (fun ad => [some (.ref (ad 18)), some (.int p1), none, none]) (by decide +kernel) (fun _ => Nat.le_of_ble_eq_true rfl) (fun _ => rfl) (fun _ => rfl) (fun X hX hret => wk_X1_guestsOf p1 hX hret h)
def jn_X1_judge_156 (p1 : Int32) (p2 : Int32) (post : Mem → Prop) (B_93 : Int32 → Int32 → Int32 → Mem → Prop) (x3 : Int32) (x4 : Int32) (x5 : Int32) (s0 : Int32) (s1 : Int32) (s2 : Int32) (M : Mem) : Prop := (vp_in s2 5 ∧ ∀ M2 : Mem, M2 = up2 M 21 s2.toNatClampNeg (s1 &&& (s0 ^^^ (-1))) → B_93 x3 x4 (x5 + 1) M2)
set_option maxRecDepth 100000 in
theorem wj_X1_judge_156 {X : CT} (p1 : Int32) (p2 : Int32) (hX : okX X RX1 cX1_judge 1 23) {post : Mem → Prop} (hret : ∀ (M' : Mem), post M' → RetV X cX1_judge M') {B_93 : Int32 → Int32 → Int32 → Mem → Prop} (hB_93 : ∀ (x3 : Int32) (x4 : Int32) (x5 : Int32) (M : Mem), B_93 x3 x4 x5 M → Z X M 93 [some (.ref (adX X 18)), none, some (.int p2), some (.int x3), some (.int x4), some (.int x5), none] []) (x3 : Int32) (x4 : Int32) (x5 : Int32) (s0 : Int32) (s1 : Int32) (s2 : Int32) (M : Mem) (h : jn_X1_judge_156 p1 p2 post B_93 x3 x4 x5 s0 s1 s2 M) : Z X M 156 [some (.ref (adX X 18)), none, some (.int p2), some (.int x3), some (.int x4), some (.int x5), none] [.int s0, .int s1, .int s2, .ref (adX X 21)] := by
  unfold jn_X1_judge_156 at h
  refine r_iconst (v := (-1)) hX dX1_judge_156 (by decide) ?_
  refine r_ixor hX dX1_judge_157 ?_
  refine r_iand hX dX1_judge_158 ?_
  refine r_iast hX ly_21 h.1 dX1_judge_159 ?_
  refine r_nmM (fun M2 eM2 => ?_)
  have h := h.2 M2 eM2
  refine r_iinc (v := x5 + 1) (L' := [some (.ref (adX X 18)), none, some (.int p2), some (.int x3), some (.int x4), some (.int (x5 + 1)), none]) hX dX1_judge_160 rfl rfl rfl rfl ?_
  refine r_goto hX 93 dX1_judge_163 (by decide) ?_
  refine r_sub [some (.ref (adX X 18)), none, some (.int p2), some (.int x3), some (.int x4), some (.int (x5 + 1)), none] (And.intro rfl (And.intro rfl (And.intro rfl (And.intro rfl (And.intro rfl trivial))))) ?_
  exact hB_93 _ _ _ _ h
def jn_X1_judge_130 (p1 : Int32) (p2 : Int32) (post : Mem → Prop) (B_93 : Int32 → Int32 → Int32 → Mem → Prop) (x3 : Int32) (x4 : Int32) (x5 : Int32) (s0 : Int32) (M : Mem) : Prop := ((s0 = 0 → (vp_in x5 5 ∧ jn_X1_judge_156 p1 p2 post B_93 x3 x4 x5 (M 20 x5.toNatClampNeg) x4 x5 M)) ∧ (¬ s0 = 0 → jn_X1_judge_156 p1 p2 post B_93 x3 x4 x5 x3 x4 x5 M))
set_option maxRecDepth 100000 in
theorem wj_X1_judge_130 {X : CT} (p1 : Int32) (p2 : Int32) (hX : okX X RX1 cX1_judge 1 23) {post : Mem → Prop} (hret : ∀ (M' : Mem), post M' → RetV X cX1_judge M') {B_93 : Int32 → Int32 → Int32 → Mem → Prop} (hB_93 : ∀ (x3 : Int32) (x4 : Int32) (x5 : Int32) (M : Mem), B_93 x3 x4 x5 M → Z X M 93 [some (.ref (adX X 18)), none, some (.int p2), some (.int x3), some (.int x4), some (.int x5), none] []) (x3 : Int32) (x4 : Int32) (x5 : Int32) (s0 : Int32) (M : Mem) (h : jn_X1_judge_130 p1 p2 post B_93 x3 x4 x5 s0 M) : Z X M 130 [some (.ref (adX X 18)), none, some (.int p2), some (.int x3), some (.int x4), some (.int x5), none] [.int s0] := by
  unfold jn_X1_judge_130 at h
  refine r_istore (L' := [some (.ref (adX X 18)), none, some (.int p2), some (.int x3), some (.int x4), some (.int x5), some (.int s0)]) hX dX1_judge_130 (Nat.lt_of_ble rfl) rfl rfl ?_
  refine r_aload_n hX dX1_judge_132 rfl rfl ?_
  refine r_getR hX fg_X1_29 ly_18 rfl dX1_judge_133 ?_
  refine r_iload hX dX1_judge_136 rfl ?_
  refine r_iload hX dX1_judge_138 rfl ?_
  refine r_iload hX dX1_judge_140 rfl ?_
  refine r_if_eq hX 149 dX1_judge_142 (by decide) (fun hc => ?_) (fun hc => ?_)
  · have h := h.1 hc
    refine r_aload_n hX dX1_judge_149 rfl rfl ?_
    refine r_getR hX fg_X1_26 ly_18 rfl dX1_judge_150 ?_
    refine r_iload hX dX1_judge_153 rfl ?_
    refine r_iald hX ly_20 h.1 dX1_judge_155 ?_
    have h := h.2
    refine r_sub [some (.ref (adX X 18)), none, some (.int p2), some (.int x3), some (.int x4), some (.int x5), none] (And.intro rfl (And.intro rfl (And.intro rfl (And.intro rfl (And.intro rfl trivial))))) ?_
    exact wj_X1_judge_156 p1 p2 hX hret hB_93 _ _ _ _ _ _ _ h
  · have h := h.2 hc
    refine r_iload_n hX dX1_judge_145 rfl rfl ?_
    refine r_goto hX 156 dX1_judge_146 (by decide) ?_
    refine r_sub [some (.ref (adX X 18)), none, some (.int p2), some (.int x3), some (.int x4), some (.int x5), none] (And.intro rfl (And.intro rfl (And.intro rfl (And.intro rfl (And.intro rfl trivial))))) ?_
    exact wj_X1_judge_156 p1 p2 hX hret hB_93 _ _ _ _ _ _ _ h
def jn_X1_judge_129 (p1 : Int32) (p2 : Int32) (post : Mem → Prop) (B_93 : Int32 → Int32 → Int32 → Mem → Prop) (x3 : Int32) (x4 : Int32) (x5 : Int32) (M : Mem) : Prop := jn_X1_judge_130 p1 p2 post B_93 x3 x4 x5 0 M
set_option maxRecDepth 100000 in
theorem wj_X1_judge_129 {X : CT} (p1 : Int32) (p2 : Int32) (hX : okX X RX1 cX1_judge 1 23) {post : Mem → Prop} (hret : ∀ (M' : Mem), post M' → RetV X cX1_judge M') {B_93 : Int32 → Int32 → Int32 → Mem → Prop} (hB_93 : ∀ (x3 : Int32) (x4 : Int32) (x5 : Int32) (M : Mem), B_93 x3 x4 x5 M → Z X M 93 [some (.ref (adX X 18)), none, some (.int p2), some (.int x3), some (.int x4), some (.int x5), none] []) (x3 : Int32) (x4 : Int32) (x5 : Int32) (M : Mem) (h : jn_X1_judge_129 p1 p2 post B_93 x3 x4 x5 M) : Z X M 129 [some (.ref (adX X 18)), none, some (.int p2), some (.int x3), some (.int x4), some (.int x5), none] [] := by
  unfold jn_X1_judge_129 at h
  refine r_iconst (v := 0) hX dX1_judge_129 (by decide) ?_
  refine r_sub [some (.ref (adX X 18)), none, some (.int p2), some (.int x3), some (.int x4), some (.int x5), none] (And.intro rfl (And.intro rfl (And.intro rfl (And.intro rfl (And.intro rfl trivial))))) ?_
  exact wj_X1_judge_130 p1 p2 hX hret hB_93 _ _ _ _ _ h
def lp_X1_judge_93 (p1 : Int32) (p2 : Int32) (post : Mem → Prop) : Nat → Int32 → Int32 → Int32 → Mem → Prop
  | 0, _, _, _, _ => False
  | n + 1, x3, x4, x5, M => (((M 1 3) ≤ x5 → post M) ∧ (¬ (M 1 3) ≤ x5 → (vp_in x5 5 ∧ ((¬ (M 2 x5.toNatClampNeg) = 1 → jn_X1_judge_129 p1 p2 post (fun y3 y4 y5 M' => lp_X1_judge_93 p1 p2 post n y3 y4 y5 M') x3 x4 x5 M) ∧ ((M 2 x5.toNatClampNeg) = 1 → ((x5 = p2 → jn_X1_judge_129 p1 p2 post (fun y3 y4 y5 M' => lp_X1_judge_93 p1 p2 post n y3 y4 y5 M') x3 x4 x5 M) ∧ (¬ x5 = p2 → jn_X1_judge_130 p1 p2 post (fun y3 y4 y5 M' => lp_X1_judge_93 p1 p2 post n y3 y4 y5 M') x3 x4 x5 1 M)))))))
set_option maxRecDepth 100000 in
theorem wl_X1_judge_93 {X : CT} (p1 : Int32) (p2 : Int32) (hX : okX X RX1 cX1_judge 1 23) {post : Mem → Prop} (hret : ∀ (M' : Mem), post M' → RetV X cX1_judge M') : ∀ (n : Nat) (x3 : Int32) (x4 : Int32) (x5 : Int32) (M : Mem), lp_X1_judge_93 p1 p2 post n x3 x4 x5 M → Z X M 93 [some (.ref (adX X 18)), none, some (.int p2), some (.int x3), some (.int x4), some (.int x5), none] [] := by
  intro n
  induction n with
  | zero =>
    intro x3 x4 x5 M h
    exact False.elim h
  | succ n ih =>
    intro x3 x4 x5 M h
    unfold lp_X1_judge_93 at h
    refine r_iload hX dX1_judge_93 rfl ?_
    refine r_aload_n hX dX1_judge_95 rfl rfl ?_
    refine r_getR hX fg_X1_9 ly_18 rfl dX1_judge_96 ?_
    refine r_getI hX fg_X1_40 ly_1 rfl dX1_judge_99 ?_
    refine r_icmp_ge hX 166 dX1_judge_102 (by decide) (fun hc => ?_) (fun hc => ?_)
    · have h := h.1 hc
      exact r_vret (hret _ h) dX1_judge_166
    · have h := h.2 hc
      refine r_aload_n hX dX1_judge_105 rfl rfl ?_
      refine r_getR hX fg_X1_9 ly_18 rfl dX1_judge_106 ?_
      refine r_getR hX fg_X1_58 ly_1 rfl dX1_judge_109 ?_
      refine r_iload hX dX1_judge_112 rfl ?_
      refine r_iald hX ly_2 h.1 dX1_judge_114 ?_
      have h := h.2
      refine r_iconst (v := 1) hX dX1_judge_115 (by decide) ?_
      refine r_icmp_ne hX 129 dX1_judge_116 (by decide) (fun hc => ?_) (fun hc => ?_)
      · have h := h.1 hc
        refine r_sub [some (.ref (adX X 18)), none, some (.int p2), some (.int x3), some (.int x4), some (.int x5), none] (And.intro rfl (And.intro rfl (And.intro rfl (And.intro rfl (And.intro rfl trivial))))) ?_
        exact wj_X1_judge_129 p1 p2 hX hret (fun y3 y4 y5 M' h' => ih y3 y4 y5 M' h') _ _ _ _ h
      · have h := h.2 hc
        refine r_iload hX dX1_judge_119 rfl ?_
        refine r_iload_n hX dX1_judge_121 rfl rfl ?_
        refine r_icmp_eq hX 129 dX1_judge_122 (by decide) (fun hc => ?_) (fun hc => ?_)
        · have h := h.1 hc
          refine r_sub [some (.ref (adX X 18)), none, some (.int p2), some (.int x3), some (.int x4), some (.int x5), none] (And.intro rfl (And.intro rfl (And.intro rfl (And.intro rfl (And.intro rfl trivial))))) ?_
          exact wj_X1_judge_129 p1 p2 hX hret (fun y3 y4 y5 M' h' => ih y3 y4 y5 M' h') _ _ _ _ h
        · have h := h.2 hc
          refine r_iconst (v := 1) hX dX1_judge_125 (by decide) ?_
          refine r_goto hX 130 dX1_judge_126 (by decide) ?_
          refine r_sub [some (.ref (adX X 18)), none, some (.int p2), some (.int x3), some (.int x4), some (.int x5), none] (And.intro rfl (And.intro rfl (And.intro rfl (And.intro rfl (And.intro rfl trivial))))) ?_
          exact wj_X1_judge_130 p1 p2 hX hret (fun y3 y4 y5 M' h' => ih y3 y4 y5 M' h') _ _ _ _ _ h
def jn_X1_judge_46 (p1 : Int32) (p2 : Int32) (post : Mem → Prop) (B_5 : Int32 → Int32 → Mem → Prop) (x3 : Int32) (x4 : Int32) (s0 : Int32) (s1 : Int32) (M : Mem) : Prop := (vp_in s1 5 ∧ ∀ M6 : Mem, M6 = up2 M 20 s1.toNatClampNeg s0 → (vp_in x4 5 ∧ ((¬ (M6 2 x4.toNatClampNeg) = 1 → B_5 x3 (x4 + 1) M6) ∧ ((M6 2 x4.toNatClampNeg) = 1 → (vp_in x4 5 ∧ (∀ v7 : Int32, v7 = x3 ||| (M6 20 x4.toNatClampNeg) → B_5 v7 (x4 + 1) M6))))))
set_option maxRecDepth 100000 in
theorem wj_X1_judge_46 {X : CT} (p1 : Int32) (p2 : Int32) (hX : okX X RX1 cX1_judge 1 23) {post : Mem → Prop} (hret : ∀ (M' : Mem), post M' → RetV X cX1_judge M') {B_5 : Int32 → Int32 → Mem → Prop} (hB_5 : ∀ (x3 : Int32) (x4 : Int32) (M : Mem), B_5 x3 x4 M → Z X M 5 [some (.ref (adX X 18)), some (.int p1), some (.int p2), some (.int x3), some (.int x4), none, none] []) (x3 : Int32) (x4 : Int32) (s0 : Int32) (s1 : Int32) (M : Mem) (h : jn_X1_judge_46 p1 p2 post B_5 x3 x4 s0 s1 M) : Z X M 46 [some (.ref (adX X 18)), some (.int p1), some (.int p2), some (.int x3), some (.int x4), none, none] [.int s0, .int s1, .ref (adX X 20)] := by
  unfold jn_X1_judge_46 at h
  refine r_iast hX ly_20 h.1 dX1_judge_46 ?_
  refine r_nmM (fun M6 eM6 => ?_)
  have h := h.2 M6 eM6
  refine r_aload_n hX dX1_judge_47 rfl rfl ?_
  refine r_getR hX fg_X1_9 ly_18 rfl dX1_judge_48 ?_
  refine r_getR hX fg_X1_58 ly_1 rfl dX1_judge_51 ?_
  refine r_iload hX dX1_judge_54 rfl ?_
  refine r_iald hX ly_2 h.1 dX1_judge_56 ?_
  have h := h.2
  refine r_iconst (v := 1) hX dX1_judge_57 (by decide) ?_
  refine r_icmp_ne hX 71 dX1_judge_58 (by decide) (fun hc => ?_) (fun hc => ?_)
  · have h := h.1 hc
    refine r_iinc (v := x4 + 1) (L' := [some (.ref (adX X 18)), some (.int p1), some (.int p2), some (.int x3), some (.int (x4 + 1)), none, none]) hX dX1_judge_71 rfl rfl rfl rfl ?_
    refine r_goto hX 5 dX1_judge_74 (by decide) ?_
    refine r_sub [some (.ref (adX X 18)), some (.int p1), some (.int p2), some (.int x3), some (.int (x4 + 1)), none, none] (And.intro rfl (And.intro rfl (And.intro rfl (And.intro rfl (And.intro rfl trivial))))) ?_
    exact hB_5 _ _ _ h
  · have h := h.2 hc
    refine r_iload_n hX dX1_judge_61 rfl rfl ?_
    refine r_aload_n hX dX1_judge_62 rfl rfl ?_
    refine r_getR hX fg_X1_26 ly_18 rfl dX1_judge_63 ?_
    refine r_iload hX dX1_judge_66 rfl ?_
    refine r_iald hX ly_20 h.1 dX1_judge_68 ?_
    have h := h.2
    refine r_ior hX dX1_judge_69 ?_
    refine r_nm (fun v7 ev7 => ?_)
    have h := h v7 ev7
    refine r_istore_n (L' := [some (.ref (adX X 18)), some (.int p1), some (.int p2), some (.int v7), some (.int x4), none, none]) hX dX1_judge_70 rfl (Nat.lt_of_ble rfl) rfl rfl ?_
    refine r_iinc (v := x4 + 1) (L' := [some (.ref (adX X 18)), some (.int p1), some (.int p2), some (.int v7), some (.int (x4 + 1)), none, none]) hX dX1_judge_71 rfl rfl rfl rfl ?_
    refine r_goto hX 5 dX1_judge_74 (by decide) ?_
    refine r_sub [some (.ref (adX X 18)), some (.int p1), some (.int p2), some (.int v7), some (.int (x4 + 1)), none, none] (And.intro rfl (And.intro rfl (And.intro rfl (And.intro rfl (And.intro rfl trivial))))) ?_
    exact hB_5 _ _ _ h
def lp_X1_judge_5 (p1 : Int32) (p2 : Int32) (post : Mem → Prop) : Nat → Int32 → Int32 → Mem → Prop
  | 0, _, _, _ => False
  | n + 1, x3, x4, M => (((M 1 3) ≤ x4 → (∀ v1 : Int32, v1 = (1 <<< ((M 1 4) &&& 31)) - 1 → (∃ k, lp_X1_judge_93 p1 p2 post k x3 v1 0 M))) ∧ (¬ (M 1 3) ≤ x4 → ((¬ x4 = p2 → (vp_in x4 5 ∧ (wp_X1_guestsOf ((M 19 x4.toNatClampNeg) &&& p1) M (fun r4 M5 => jn_X1_judge_46 p1 p2 post (fun y3 y4 M' => lp_X1_judge_5 p1 p2 post n y3 y4 M') x3 x4 r4 x4 M5)))) ∧ (x4 = p2 → jn_X1_judge_46 p1 p2 post (fun y3 y4 M' => lp_X1_judge_5 p1 p2 post n y3 y4 M') x3 x4 0 x4 M))))
set_option maxRecDepth 100000 in
theorem wl_X1_judge_5 {X : CT} (p1 : Int32) (p2 : Int32) (hX : okX X RX1 cX1_judge 1 23) {post : Mem → Prop} (hret : ∀ (M' : Mem), post M' → RetV X cX1_judge M') : ∀ (n : Nat) (x3 : Int32) (x4 : Int32) (M : Mem), lp_X1_judge_5 p1 p2 post n x3 x4 M → Z X M 5 [some (.ref (adX X 18)), some (.int p1), some (.int p2), some (.int x3), some (.int x4), none, none] [] := by
  intro n
  induction n with
  | zero =>
    intro x3 x4 M h
    exact False.elim h
  | succ n ih =>
    intro x3 x4 M h
    unfold lp_X1_judge_5 at h
    refine r_iload hX dX1_judge_5 rfl ?_
    refine r_aload_n hX dX1_judge_7 rfl rfl ?_
    refine r_getR hX fg_X1_9 ly_18 rfl dX1_judge_8 ?_
    refine r_getI hX fg_X1_40 ly_1 rfl dX1_judge_11 ?_
    refine r_icmp_ge hX 77 dX1_judge_14 (by decide) (fun hc => ?_) (fun hc => ?_)
    · have h := h.1 hc
      refine r_iconst (v := 1) hX dX1_judge_77 (by decide) ?_
      refine r_aload_n hX dX1_judge_78 rfl rfl ?_
      refine r_getR hX fg_X1_9 ly_18 rfl dX1_judge_79 ?_
      refine r_getI hX fg_X1_85 ly_1 rfl dX1_judge_82 ?_
      refine r_ishl hX dX1_judge_85 ?_
      refine r_iconst (v := 1) hX dX1_judge_86 (by decide) ?_
      refine r_isub hX dX1_judge_87 ?_
      refine r_nm (fun v1 ev1 => ?_)
      have h := h v1 ev1
      refine r_istore (L' := [some (.ref (adX X 18)), some (.int p1), some (.int p2), some (.int x3), some (.int v1), none, none]) hX dX1_judge_88 (Nat.lt_of_ble rfl) rfl rfl ?_
      refine r_iconst (v := 0) hX dX1_judge_90 (by decide) ?_
      refine r_istore (L' := [some (.ref (adX X 18)), some (.int p1), some (.int p2), some (.int x3), some (.int v1), some (.int 0), none]) hX dX1_judge_91 (Nat.lt_of_ble rfl) rfl rfl ?_
      obtain ⟨n3, h⟩ := h
      refine r_sub [some (.ref (adX X 18)), none, some (.int p2), some (.int x3), some (.int v1), some (.int 0), none] (And.intro rfl (And.intro rfl (And.intro rfl (And.intro rfl (And.intro rfl trivial))))) ?_
      exact wl_X1_judge_93 p1 p2 hX hret n3 _ _ _ _ h
    · have h := h.2 hc
      refine r_aload_n hX dX1_judge_17 rfl rfl ?_
      refine r_getR hX fg_X1_26 ly_18 rfl dX1_judge_18 ?_
      refine r_iload hX dX1_judge_21 rfl ?_
      refine r_iload hX dX1_judge_23 rfl ?_
      refine r_iload_n hX dX1_judge_25 rfl rfl ?_
      refine r_icmp_ne hX 33 dX1_judge_26 (by decide) (fun hc => ?_) (fun hc => ?_)
      · have h := h.1 hc
        refine r_aload_n hX dX1_judge_33 rfl rfl ?_
        refine r_aload_n hX dX1_judge_34 rfl rfl ?_
        refine r_getR hX fg_X1_22 ly_18 rfl dX1_judge_35 ?_
        refine r_iload hX dX1_judge_38 rfl ?_
        refine r_iald hX ly_19 h.1 dX1_judge_40 ?_
        have h := h.2
        refine r_iload_n hX dX1_judge_41 rfl rfl ?_
        refine r_iand hX dX1_judge_42 ?_
        refine r_cVi1 hX fv_X1_82 ly_18 rfl ⟨Nat.le_of_ble_eq_true rfl, Nat.le_of_ble_eq_true rfl⟩ (c_X1_guestsOf ((M 19 x4.toNatClampNeg) &&& p1) h) (Nat.le_of_ble_eq_true rfl) dX1_judge_43 (fun r4 M5 h => ?_)
        refine r_sub [some (.ref (adX X 18)), some (.int p1), some (.int p2), some (.int x3), some (.int x4), none, none] (And.intro rfl (And.intro rfl (And.intro rfl (And.intro rfl (And.intro rfl trivial))))) ?_
        exact wj_X1_judge_46 p1 p2 hX hret (fun y3 y4 M' h' => ih y3 y4 M' h') _ _ _ _ _ h
      · have h := h.2 hc
        refine r_iconst (v := 0) hX dX1_judge_29 (by decide) ?_
        refine r_goto hX 46 dX1_judge_30 (by decide) ?_
        refine r_sub [some (.ref (adX X 18)), some (.int p1), some (.int p2), some (.int x3), some (.int x4), none, none] (And.intro rfl (And.intro rfl (And.intro rfl (And.intro rfl (And.intro rfl trivial))))) ?_
        exact wj_X1_judge_46 p1 p2 hX hret (fun y3 y4 M' h' => ih y3 y4 M' h') _ _ _ _ _ h
def wp_X1_judge (p1 : Int32) (p2 : Int32) (M : Mem) (post : Mem → Prop) : Prop := (∃ k, lp_X1_judge_5 p1 p2 post k 0 0 M)
set_option maxRecDepth 100000 in
theorem wk_X1_judge {X : CT} (p1 : Int32) (p2 : Int32) (hX : okX X RX1 cX1_judge 1 23) {M : Mem} {post : Mem → Prop} (hret : ∀ (M' : Mem), post M' → RetV X cX1_judge M') (h : wp_X1_judge p1 p2 M post) : Z X M 0 [some (.ref (adX X 18)), some (.int p1), some (.int p2), none, none, none, none] [] := by
  unfold wp_X1_judge at h
  refine r_iconst (v := 0) hX dX1_judge_0 (by decide) ?_
  refine r_istore_n (L' := [some (.ref (adX X 18)), some (.int p1), some (.int p2), some (.int 0), none, none, none]) hX dX1_judge_1 rfl (Nat.lt_of_ble rfl) rfl rfl ?_
  refine r_iconst (v := 0) hX dX1_judge_2 (by decide) ?_
  refine r_istore (L' := [some (.ref (adX X 18)), some (.int p1), some (.int p2), some (.int 0), some (.int 0), none, none]) hX dX1_judge_3 (Nat.lt_of_ble rfl) rfl rfl ?_
  obtain ⟨n8, h⟩ := h
  refine r_sub [some (.ref (adX X 18)), some (.int p1), some (.int p2), some (.int 0), some (.int 0), none, none] (And.intro rfl (And.intro rfl (And.intro rfl (And.intro rfl (And.intro rfl trivial))))) ?_
  exact wl_X1_judge_5 p1 p2 hX hret n8 _ _ _ h
set_option maxRecDepth 100000 in
theorem c_X1_judge {l : Launch} {D : va_G} {cs : CS3} {ad : Nat → Nat} (p1 : Int32) (p2 : Int32) {M : Mem} {post : Mem → Prop} (h : wp_X1_judge p1 p2 M post) : CtV l D cs ad yX1_judge cX1_judge 7 none 1 23 [.ref (ad 18), .int p1, .int p2] M post := met_V (k := 4) (fun ad => [.ref (ad 18), .int p1, .int p2]) (fun ad => [some (.ref (ad 18)), some (.int p1), some (.int p2), none, none, none, none]) (by decide +kernel) (fun _ => Nat.le_of_ble_eq_true rfl) (fun _ => rfl) (fun _ => rfl) (fun X hX hret => wk_X1_judge p1 p2 hX hret h)
def wp_X1_judgeDinner (p1 : Int32) (M : Mem) (post : Mem → Prop) : Prop := (wp_X1_recall p1 M (fun M2 => (wp_X1_judge (-1) (-1) M2 (fun M4 => post M4))))
set_option maxRecDepth 100000 in
theorem wk_X1_judgeDinner {X : CT} (p1 : Int32) (hX : okX X RX1 cX1_judgeDinner 3 72) {M : Mem} {post : Mem → Prop} (hret : ∀ (M' : Mem), post M' → RetV X cX1_judgeDinner M') (h : wp_X1_judgeDinner p1 M post) : Z X M 0 [some (.ref (adX X 18)), some (.int p1)] [] := by
  unfold wp_X1_judgeDinner at h
  refine r_aload_n hX dX1_judgeDinner_0 rfl rfl ?_
  refine r_iload_n hX dX1_judgeDinner_1 rfl rfl ?_
  refine r_cVv1 hX fv_X1_32 ly_18 rfl ⟨Nat.le_of_ble_eq_true rfl, Nat.le_of_ble_eq_true rfl⟩ (c_X1_recall p1 h) (Nat.le_of_ble_eq_true rfl) dX1_judgeDinner_2 (fun M2 h => ?_)
  refine r_aload_n hX dX1_judgeDinner_5 rfl rfl ?_
  refine r_iconst (v := (-1)) hX dX1_judgeDinner_6 (by decide) ?_
  refine r_iconst (v := (-1)) hX dX1_judgeDinner_7 (by decide) ?_
  refine r_cVv2 hX fv_X1_36 ly_18 rfl ⟨Nat.le_of_ble_eq_true rfl, Nat.le_of_ble_eq_true rfl⟩ (c_X1_judge (-1) (-1) h) (Nat.le_of_ble_eq_true rfl) dX1_judgeDinner_8 (fun M4 h => ?_)
  exact r_vret (hret _ h) dX1_judgeDinner_11
set_option maxRecDepth 100000 in
theorem c_X1_judgeDinner {l : Launch} {D : va_G} {cs : CS3} {ad : Nat → Nat} (p1 : Int32) {M : Mem} {post : Mem → Prop} (h : wp_X1_judgeDinner p1 M post) : CtV l D cs ad yX1_judgeDinner cX1_judgeDinner 2 none 3 72 [.ref (ad 18), .int p1] M post := met_V (k := 0) (fun ad => [.ref (ad 18), .int p1]) (fun ad => [some (.ref (ad 18)), some (.int p1)]) (by decide +kernel) (fun _ => Nat.le_of_ble_eq_true rfl) (fun _ => rfl) (fun _ => rfl) (fun X hX hret => wk_X1_judgeDinner p1 hX hret h)
def wp_X1_isBorne (p1 : Int32) (p2 : Int32) (M : Mem) (post : Int32 → Mem → Prop) : Prop := (vp_in p1 5 ∧ (((((M 21 p1.toNatClampNeg) >>> (p2 &&& 31)) &&& 1) = 0 → post 0 M) ∧ (¬ (((M 21 p1.toNatClampNeg) >>> (p2 &&& 31)) &&& 1) = 0 → post 1 M)))
set_option maxRecDepth 100000 in
theorem wk_X1_isBorne {X : CT} (p1 : Int32) (p2 : Int32) (hX : okX X RX1 cX1_isBorne 0 0) {M : Mem} {post : Int32 → Mem → Prop} (hret : ∀ (r : Int32) (M' : Mem), narrow .boolean (.int r) = .int r → post r M' → RetI X cX1_isBorne r M') (h : wp_X1_isBorne p1 p2 M post) : Z X M 0 [some (.ref (adX X 18)), some (.int p1), some (.int p2)] [] := by
  unfold wp_X1_isBorne at h
  refine r_aload_n hX dX1_isBorne_0 rfl rfl ?_
  refine r_getR hX fg_X1_29 ly_18 rfl dX1_isBorne_1 ?_
  refine r_iload_n hX dX1_isBorne_4 rfl rfl ?_
  refine r_iald hX ly_21 h.1 dX1_isBorne_5 ?_
  have h := h.2
  refine r_iload_n hX dX1_isBorne_6 rfl rfl ?_
  refine r_ishr hX dX1_isBorne_7 ?_
  refine r_iconst (v := 1) hX dX1_isBorne_8 (by decide) ?_
  refine r_iand hX dX1_isBorne_9 ?_
  refine r_if_eq hX 17 dX1_isBorne_10 (by decide) (fun hc => ?_) (fun hc => ?_)
  · have h := h.1 hc
    refine r_iconst (v := 0) hX dX1_isBorne_17 (by decide) ?_
    exact r_iret (hret _ _ rfl h) dX1_isBorne_18
  · have h := h.2 hc
    refine r_iconst (v := 1) hX dX1_isBorne_13 (by decide) ?_
    refine r_goto hX 18 dX1_isBorne_14 (by decide) ?_
    exact r_iret (hret _ _ rfl h) dX1_isBorne_18
set_option maxRecDepth 100000 in
theorem c_X1_isBorne {l : Launch} {D : va_G} {cs : CS3} {ad : Nat → Nat} (p1 : Int32) (p2 : Int32) {M : Mem} {post : Int32 → Mem → Prop} (h : wp_X1_isBorne p1 p2 M post) : CtI l D cs ad yX1_isBorne cX1_isBorne 3 (some .boolean) 0 0 [.ref (ad 18), .int p1, .int p2] M post := met_I (k := 0) (fun ad => [.ref (ad 18), .int p1, .int p2]) (fun ad => [some (.ref (ad 18)), some (.int p1), some (.int p2)]) (by decide +kernel) (fun _ => Nat.le_of_ble_eq_true rfl) (fun _ => rfl) (fun _ => rfl) (fun X hX hret => wk_X1_isBorne p1 p2 hX hret h)
def lp_X1_isShort_4 (p1 : Int32) (post : Int32 → Mem → Prop) : Nat → Int32 → Int32 → Mem → Prop
  | 0, _, _, _ => False
  | n + 1, x2, x3, M => (((M 1 3) ≤ x3 → (wp_J6_bitCount_0f7a4 p1 M (fun r1 M2 => ((r1 ≤ x2 → post 0 M2) ∧ (¬ r1 ≤ x2 → post 1 M2))))) ∧ (¬ (M 1 3) ≤ x3 → (vp_in x3 5 ∧ ((((M 21 x3.toNatClampNeg) &&& p1) = 0 → lp_X1_isShort_4 p1 post n x2 (x3 + 1) M) ∧ (¬ ((M 21 x3.toNatClampNeg) &&& p1) = 0 → lp_X1_isShort_4 p1 post n (x2 + 1) (x3 + 1) M)))))
set_option maxRecDepth 100000 in
theorem wl_X1_isShort_4 {X : CT} (p1 : Int32) (hX : okX X RX1 cX1_isShort 1 20) {post : Int32 → Mem → Prop} (hret : ∀ (r : Int32) (M' : Mem), narrow .boolean (.int r) = .int r → post r M' → RetI X cX1_isShort r M') : ∀ (n : Nat) (x2 : Int32) (x3 : Int32) (M : Mem), lp_X1_isShort_4 p1 post n x2 x3 M → Z X M 4 [some (.ref (adX X 18)), some (.int p1), some (.int x2), some (.int x3)] [] := by
  intro n
  induction n with
  | zero =>
    intro x2 x3 M h
    exact False.elim h
  | succ n ih =>
    intro x2 x3 M h
    unfold lp_X1_isShort_4 at h
    refine r_iload_n hX dX1_isShort_4 rfl rfl ?_
    refine r_aload_n hX dX1_isShort_5 rfl rfl ?_
    refine r_getR hX fg_X1_9 ly_18 rfl dX1_isShort_6 ?_
    refine r_getI hX fg_X1_40 ly_1 rfl dX1_isShort_9 ?_
    refine r_icmp_ge hX 35 dX1_isShort_12 (by decide) (fun hc => ?_) (fun hc => ?_)
    · have h := h.1 hc
      refine r_iload_n hX dX1_isShort_35 rfl rfl ?_
      refine r_iload_n hX dX1_isShort_36 rfl rfl ?_
      refine r_cSi1 hX fs_X1_92 ⟨Nat.le_of_ble_eq_true rfl, Nat.le_of_ble_eq_true rfl⟩ (c_J6_bitCount_0f7a4 p1 h) (Nat.le_of_ble_eq_true rfl) dX1_isShort_37 (fun r1 M2 h => ?_)
      refine r_icmp_ge hX 47 dX1_isShort_40 (by decide) (fun hc => ?_) (fun hc => ?_)
      · have h := h.1 hc
        refine r_iconst (v := 0) hX dX1_isShort_47 (by decide) ?_
        exact r_iret (hret _ _ rfl h) dX1_isShort_48
      · have h := h.2 hc
        refine r_iconst (v := 1) hX dX1_isShort_43 (by decide) ?_
        refine r_goto hX 48 dX1_isShort_44 (by decide) ?_
        exact r_iret (hret _ _ rfl h) dX1_isShort_48
    · have h := h.2 hc
      refine r_aload_n hX dX1_isShort_15 rfl rfl ?_
      refine r_getR hX fg_X1_29 ly_18 rfl dX1_isShort_16 ?_
      refine r_iload_n hX dX1_isShort_19 rfl rfl ?_
      refine r_iald hX ly_21 h.1 dX1_isShort_20 ?_
      have h := h.2
      refine r_iload_n hX dX1_isShort_21 rfl rfl ?_
      refine r_iand hX dX1_isShort_22 ?_
      refine r_if_eq hX 29 dX1_isShort_23 (by decide) (fun hc => ?_) (fun hc => ?_)
      · have h := h.1 hc
        refine r_iinc (v := x3 + 1) (L' := [some (.ref (adX X 18)), some (.int p1), some (.int x2), some (.int (x3 + 1))]) hX dX1_isShort_29 rfl rfl rfl rfl ?_
        refine r_goto hX 4 dX1_isShort_32 (by decide) ?_
        refine r_sub [some (.ref (adX X 18)), some (.int p1), some (.int x2), some (.int (x3 + 1))] (And.intro rfl (And.intro rfl (And.intro rfl (And.intro rfl trivial)))) ?_
        exact ih _ _ _ h
      · have h := h.2 hc
        refine r_iinc (v := x2 + 1) (L' := [some (.ref (adX X 18)), some (.int p1), some (.int (x2 + 1)), some (.int x3)]) hX dX1_isShort_26 rfl rfl rfl rfl ?_
        refine r_iinc (v := x3 + 1) (L' := [some (.ref (adX X 18)), some (.int p1), some (.int (x2 + 1)), some (.int (x3 + 1))]) hX dX1_isShort_29 rfl rfl rfl rfl ?_
        refine r_goto hX 4 dX1_isShort_32 (by decide) ?_
        refine r_sub [some (.ref (adX X 18)), some (.int p1), some (.int (x2 + 1)), some (.int (x3 + 1))] (And.intro rfl (And.intro rfl (And.intro rfl (And.intro rfl trivial)))) ?_
        exact ih _ _ _ h
def wp_X1_isShort (p1 : Int32) (M : Mem) (post : Int32 → Mem → Prop) : Prop := (∃ k, lp_X1_isShort_4 p1 post k 0 0 M)
set_option maxRecDepth 100000 in
theorem wk_X1_isShort {X : CT} (p1 : Int32) (hX : okX X RX1 cX1_isShort 1 20) {M : Mem} {post : Int32 → Mem → Prop} (hret : ∀ (r : Int32) (M' : Mem), narrow .boolean (.int r) = .int r → post r M' → RetI X cX1_isShort r M') (h : wp_X1_isShort p1 M post) : Z X M 0 [some (.ref (adX X 18)), some (.int p1), none, none] [] := by
  unfold wp_X1_isShort at h
  refine r_iconst (v := 0) hX dX1_isShort_0 (by decide) ?_
  refine r_istore_n (L' := [some (.ref (adX X 18)), some (.int p1), some (.int 0), none]) hX dX1_isShort_1 rfl (Nat.lt_of_ble rfl) rfl rfl ?_
  refine r_iconst (v := 0) hX dX1_isShort_2 (by decide) ?_
  refine r_istore_n (L' := [some (.ref (adX X 18)), some (.int p1), some (.int 0), some (.int 0)]) hX dX1_isShort_3 rfl (Nat.lt_of_ble rfl) rfl rfl ?_
  obtain ⟨n3, h⟩ := h
  refine r_sub [some (.ref (adX X 18)), some (.int p1), some (.int 0), some (.int 0)] (And.intro rfl (And.intro rfl (And.intro rfl (And.intro rfl trivial)))) ?_
  exact wl_X1_isShort_4 p1 hX hret n3 _ _ _ h
set_option maxRecDepth 100000 in
theorem c_X1_isShort {l : Launch} {D : va_G} {cs : CS3} {ad : Nat → Nat} (p1 : Int32) {M : Mem} {post : Int32 → Mem → Prop} (h : wp_X1_isShort p1 M post) : CtI l D cs ad yX1_isShort cX1_isShort 4 (some .boolean) 1 20 [.ref (ad 18), .int p1] M post := met_I (k := 2) (fun ad => [.ref (ad 18), .int p1]) (fun ad => [some (.ref (ad 18)), some (.int p1), none, none]) (by decide +kernel) (fun _ => Nat.le_of_ble_eq_true rfl) (fun _ => rfl) (fun _ => rfl) (fun X hX hret => wk_X1_isShort p1 hX hret h)
def lp_X1_allCanSit_2 (post : Int32 → Mem → Prop) : Nat → Int32 → Mem → Prop
  | 0, _, _ => False
  | n + 1, x1, M => (((1 <<< ((M 1 4) &&& 31)) ≤ x1 → post 1 M) ∧ (¬ (1 <<< ((M 1 4) &&& 31)) ≤ x1 → (wp_X1_isShort x1 M (fun r1 M2 => ((r1 = 0 → lp_X1_allCanSit_2 post n (x1 + 1) M2) ∧ (¬ r1 = 0 → post 0 M2))))))
set_option maxRecDepth 100000 in
theorem wl_X1_allCanSit_2 {X : CT} (hX : okX X RX1 cX1_allCanSit 2 43) {post : Int32 → Mem → Prop} (hret : ∀ (r : Int32) (M' : Mem), narrow .boolean (.int r) = .int r → post r M' → RetI X cX1_allCanSit r M') : ∀ (n : Nat) (x1 : Int32) (M : Mem), lp_X1_allCanSit_2 post n x1 M → Z X M 2 [some (.ref (adX X 18)), some (.int x1)] [] := by
  intro n
  induction n with
  | zero =>
    intro x1 M h
    exact False.elim h
  | succ n ih =>
    intro x1 M h
    unfold lp_X1_allCanSit_2 at h
    refine r_iload_n hX dX1_allCanSit_2 rfl rfl ?_
    refine r_iconst (v := 1) hX dX1_allCanSit_3 (by decide) ?_
    refine r_aload_n hX dX1_allCanSit_4 rfl rfl ?_
    refine r_getR hX fg_X1_9 ly_18 rfl dX1_allCanSit_5 ?_
    refine r_getI hX fg_X1_85 ly_1 rfl dX1_allCanSit_8 ?_
    refine r_ishl hX dX1_allCanSit_11 ?_
    refine r_icmp_ge hX 31 dX1_allCanSit_12 (by decide) (fun hc => ?_) (fun hc => ?_)
    · have h := h.1 hc
      refine r_iconst (v := 1) hX dX1_allCanSit_31 (by decide) ?_
      exact r_iret (hret _ _ rfl h) dX1_allCanSit_32
    · have h := h.2 hc
      refine r_aload_n hX dX1_allCanSit_15 rfl rfl ?_
      refine r_iload_n hX dX1_allCanSit_16 rfl rfl ?_
      refine r_cVi1 hX fv_X1_88 ly_18 rfl ⟨Nat.le_of_ble_eq_true rfl, Nat.le_of_ble_eq_true rfl⟩ (c_X1_isShort x1 h) (Nat.le_of_ble_eq_true rfl) dX1_allCanSit_17 (fun r1 M2 h => ?_)
      refine r_if_eq hX 25 dX1_allCanSit_20 (by decide) (fun hc => ?_) (fun hc => ?_)
      · have h := h.1 hc
        refine r_iinc (v := x1 + 1) (L' := [some (.ref (adX X 18)), some (.int (x1 + 1))]) hX dX1_allCanSit_25 rfl rfl rfl rfl ?_
        refine r_goto hX 2 dX1_allCanSit_28 (by decide) ?_
        refine r_sub [some (.ref (adX X 18)), some (.int (x1 + 1))] (And.intro rfl (And.intro rfl trivial)) ?_
        exact ih _ _ h
      · have h := h.2 hc
        refine r_iconst (v := 0) hX dX1_allCanSit_23 (by decide) ?_
        exact r_iret (hret _ _ rfl h) dX1_allCanSit_24
def wp_X1_allCanSit (M : Mem) (post : Int32 → Mem → Prop) : Prop := (∃ k, lp_X1_allCanSit_2 post k 1 M)
set_option maxRecDepth 100000 in
theorem wk_X1_allCanSit {X : CT} (hX : okX X RX1 cX1_allCanSit 2 43) {M : Mem} {post : Int32 → Mem → Prop} (hret : ∀ (r : Int32) (M' : Mem), narrow .boolean (.int r) = .int r → post r M' → RetI X cX1_allCanSit r M') (h : wp_X1_allCanSit M post) : Z X M 0 [some (.ref (adX X 18)), none] [] := by
  unfold wp_X1_allCanSit at h
  refine r_iconst (v := 1) hX dX1_allCanSit_0 (by decide) ?_
  refine r_istore_n (L' := [some (.ref (adX X 18)), some (.int 1)]) hX dX1_allCanSit_1 rfl (Nat.lt_of_ble rfl) rfl rfl ?_
  obtain ⟨n3, h⟩ := h
  refine r_sub [some (.ref (adX X 18)), some (.int 1)] (And.intro rfl (And.intro rfl trivial)) ?_
  exact wl_X1_allCanSit_2 hX hret n3 _ _ h
set_option maxRecDepth 100000 in
theorem c_X1_allCanSit {l : Launch} {D : va_G} {cs : CS3} {ad : Nat → Nat} {M : Mem} {post : Int32 → Mem → Prop} (h : wp_X1_allCanSit M post) : CtI l D cs ad yX1_allCanSit cX1_allCanSit 2 (some .boolean) 2 43 [.ref (ad 18)] M post := met_I (k := 1) (fun ad => [.ref (ad 18)]) (fun ad => [some (.ref (ad 18)), none]) (by decide +kernel) (fun _ => Nat.le_of_ble_eq_true rfl) (fun _ => rfl) (fun _ => rfl) (fun X hX hret => wk_X1_allCanSit hX hret h)
def lp_X1_smallestShortSet_8 (post : Int32 → Mem → Prop) : Nat → Int32 → Int32 → Int32 → Mem → Prop
  | 0, _, _, _, _ => False
  | n + 1, x1, x2, x3, M => (((1 <<< ((M 1 4) &&& 31)) ≤ x3 → post x1 M) ∧ (¬ (1 <<< ((M 1 4) &&& 31)) ≤ x3 → (wp_J6_bitCount_0f7a4 x3 M (fun r1 M2 => ((x2 ≤ r1 → lp_X1_smallestShortSet_8 post n x1 x2 (x3 + 1) M2) ∧ (¬ x2 ≤ r1 → (wp_X1_isShort x3 M2 (fun r3 M4 => ((r3 = 0 → lp_X1_smallestShortSet_8 post n x1 x2 (x3 + 1) M4) ∧ (¬ r3 = 0 → (wp_J6_bitCount_0f7a4 x3 M4 (fun r5 M6 => lp_X1_smallestShortSet_8 post n x3 r5 (x3 + 1) M6))))))))))))
set_option maxRecDepth 100000 in
theorem wl_X1_smallestShortSet_8 {X : CT} (hX : okX X RX1 cX1_smallestShortSet 2 43) {post : Int32 → Mem → Prop} (hret : ∀ (r : Int32) (M' : Mem), narrow .int (.int r) = .int r → post r M' → RetI X cX1_smallestShortSet r M') : ∀ (n : Nat) (x1 : Int32) (x2 : Int32) (x3 : Int32) (M : Mem), lp_X1_smallestShortSet_8 post n x1 x2 x3 M → Z X M 8 [some (.ref (adX X 18)), some (.int x1), some (.int x2), some (.int x3)] [] := by
  intro n
  induction n with
  | zero =>
    intro x1 x2 x3 M h
    exact False.elim h
  | succ n ih =>
    intro x1 x2 x3 M h
    unfold lp_X1_smallestShortSet_8 at h
    refine r_iload_n hX dX1_smallestShortSet_8 rfl rfl ?_
    refine r_iconst (v := 1) hX dX1_smallestShortSet_9 (by decide) ?_
    refine r_aload_n hX dX1_smallestShortSet_10 rfl rfl ?_
    refine r_getR hX fg_X1_9 ly_18 rfl dX1_smallestShortSet_11 ?_
    refine r_getI hX fg_X1_85 ly_1 rfl dX1_smallestShortSet_14 ?_
    refine r_ishl hX dX1_smallestShortSet_17 ?_
    refine r_icmp_ge hX 50 dX1_smallestShortSet_18 (by decide) (fun hc => ?_) (fun hc => ?_)
    · have h := h.1 hc
      refine r_iload_n hX dX1_smallestShortSet_50 rfl rfl ?_
      exact r_iret (hret _ _ rfl h) dX1_smallestShortSet_51
    · have h := h.2 hc
      refine r_iload_n hX dX1_smallestShortSet_21 rfl rfl ?_
      refine r_cSi1 hX fs_X1_92 ⟨Nat.le_of_ble_eq_true rfl, Nat.le_of_ble_eq_true rfl⟩ (c_J6_bitCount_0f7a4 x3 h) (Nat.le_of_ble_eq_true rfl) dX1_smallestShortSet_22 (fun r1 M2 h => ?_)
      refine r_iload_n hX dX1_smallestShortSet_25 rfl rfl ?_
      refine r_icmp_ge hX 44 dX1_smallestShortSet_26 (by decide) (fun hc => ?_) (fun hc => ?_)
      · have h := h.1 hc
        refine r_iinc (v := x3 + 1) (L' := [some (.ref (adX X 18)), some (.int x1), some (.int x2), some (.int (x3 + 1))]) hX dX1_smallestShortSet_44 rfl rfl rfl rfl ?_
        refine r_goto hX 8 dX1_smallestShortSet_47 (by decide) ?_
        refine r_sub [some (.ref (adX X 18)), some (.int x1), some (.int x2), some (.int (x3 + 1))] (And.intro rfl (And.intro rfl (And.intro rfl (And.intro rfl trivial)))) ?_
        exact ih _ _ _ _ h
      · have h := h.2 hc
        refine r_aload_n hX dX1_smallestShortSet_29 rfl rfl ?_
        refine r_iload_n hX dX1_smallestShortSet_30 rfl rfl ?_
        refine r_cVi1 hX fv_X1_88 ly_18 rfl ⟨Nat.le_of_ble_eq_true rfl, Nat.le_of_ble_eq_true rfl⟩ (c_X1_isShort x3 h) (Nat.le_of_ble_eq_true rfl) dX1_smallestShortSet_31 (fun r3 M4 h => ?_)
        refine r_if_eq hX 44 dX1_smallestShortSet_34 (by decide) (fun hc => ?_) (fun hc => ?_)
        · have h := h.1 hc
          refine r_iinc (v := x3 + 1) (L' := [some (.ref (adX X 18)), some (.int x1), some (.int x2), some (.int (x3 + 1))]) hX dX1_smallestShortSet_44 rfl rfl rfl rfl ?_
          refine r_goto hX 8 dX1_smallestShortSet_47 (by decide) ?_
          refine r_sub [some (.ref (adX X 18)), some (.int x1), some (.int x2), some (.int (x3 + 1))] (And.intro rfl (And.intro rfl (And.intro rfl (And.intro rfl trivial)))) ?_
          exact ih _ _ _ _ h
        · have h := h.2 hc
          refine r_iload_n hX dX1_smallestShortSet_37 rfl rfl ?_
          refine r_istore_n (L' := [some (.ref (adX X 18)), some (.int x3), some (.int x2), some (.int x3)]) hX dX1_smallestShortSet_38 rfl (Nat.lt_of_ble rfl) rfl rfl ?_
          refine r_iload_n hX dX1_smallestShortSet_39 rfl rfl ?_
          refine r_cSi1 hX fs_X1_92 ⟨Nat.le_of_ble_eq_true rfl, Nat.le_of_ble_eq_true rfl⟩ (c_J6_bitCount_0f7a4 x3 h) (Nat.le_of_ble_eq_true rfl) dX1_smallestShortSet_40 (fun r5 M6 h => ?_)
          refine r_istore_n (L' := [some (.ref (adX X 18)), some (.int x3), some (.int r5), some (.int x3)]) hX dX1_smallestShortSet_43 rfl (Nat.lt_of_ble rfl) rfl rfl ?_
          refine r_iinc (v := x3 + 1) (L' := [some (.ref (adX X 18)), some (.int x3), some (.int r5), some (.int (x3 + 1))]) hX dX1_smallestShortSet_44 rfl rfl rfl rfl ?_
          refine r_goto hX 8 dX1_smallestShortSet_47 (by decide) ?_
          refine r_sub [some (.ref (adX X 18)), some (.int x3), some (.int r5), some (.int (x3 + 1))] (And.intro rfl (And.intro rfl (And.intro rfl (And.intro rfl trivial)))) ?_
          exact ih _ _ _ _ h
def wp_X1_smallestShortSet (M : Mem) (post : Int32 → Mem → Prop) : Prop := (∃ k, lp_X1_smallestShortSet_8 post k (-9) 6 1 M)
set_option maxRecDepth 100000 in
theorem wk_X1_smallestShortSet {X : CT} (hX : okX X RX1 cX1_smallestShortSet 2 43) {M : Mem} {post : Int32 → Mem → Prop} (hret : ∀ (r : Int32) (M' : Mem), narrow .int (.int r) = .int r → post r M' → RetI X cX1_smallestShortSet r M') (h : wp_X1_smallestShortSet M post) : Z X M 0 [some (.ref (adX X 18)), none, none, none] [] := by
  unfold wp_X1_smallestShortSet at h
  refine r_bipush (v := (-9)) hX dX1_smallestShortSet_0 (by decide) ?_
  refine r_istore_n (L' := [some (.ref (adX X 18)), some (.int (-9)), none, none]) hX dX1_smallestShortSet_2 rfl (Nat.lt_of_ble rfl) rfl rfl ?_
  refine r_bipush (v := 6) hX dX1_smallestShortSet_3 (by decide) ?_
  refine r_istore_n (L' := [some (.ref (adX X 18)), some (.int (-9)), some (.int 6), none]) hX dX1_smallestShortSet_5 rfl (Nat.lt_of_ble rfl) rfl rfl ?_
  refine r_iconst (v := 1) hX dX1_smallestShortSet_6 (by decide) ?_
  refine r_istore_n (L' := [some (.ref (adX X 18)), some (.int (-9)), some (.int 6), some (.int 1)]) hX dX1_smallestShortSet_7 rfl (Nat.lt_of_ble rfl) rfl rfl ?_
  obtain ⟨n7, h⟩ := h
  refine r_sub [some (.ref (adX X 18)), some (.int (-9)), some (.int 6), some (.int 1)] (And.intro rfl (And.intro rfl (And.intro rfl (And.intro rfl trivial)))) ?_
  exact wl_X1_smallestShortSet_8 hX hret n7 _ _ _ _ h
set_option maxRecDepth 100000 in
theorem c_X1_smallestShortSet {l : Launch} {D : va_G} {cs : CS3} {ad : Nat → Nat} {M : Mem} {post : Int32 → Mem → Prop} (h : wp_X1_smallestShortSet M post) : CtI l D cs ad yX1_smallestShortSet cX1_smallestShortSet 4 (some .int) 2 43 [.ref (ad 18)] M post := met_I (k := 3) (fun ad => [.ref (ad 18)]) (fun ad => [some (.ref (ad 18)), none, none, none]) (by decide +kernel) (fun _ => Nat.le_of_ble_eq_true rfl) (fun _ => rfl) (fun _ => rfl) (fun X hX hret => wk_X1_smallestShortSet hX hret h)
def lp_X1_firstTipped_6 (a1 : Nat) (n1 : Nat) (p2 : Int32) (p3 : Int32) (post : Int32 → Mem → Prop) : Nat → Int32 → Int32 → Mem → Prop
  | 0, _, _, _ => False
  | n + 1, x4, x5, M => ((p3 ≤ x5 → post (-9) M) ∧ (¬ p3 ≤ x5 → (vp_in (p2 + x5) n1 ∧ (∀ v1 : Int32, v1 = M a1 (p2 + x5).toNatClampNeg → ((¬ v1 = (-9) → (wp_X1_isBorne v1 x5 M (fun r2 M3 => ((r2 = 0 → post x5 M3) ∧ (¬ r2 = 0 → ((((x4 >>> (v1 &&& 31)) &&& 1) = 0 → (∀ v4 : Int32, v4 = x4 ||| (1 <<< (v1 &&& 31)) → lp_X1_firstTipped_6 a1 n1 p2 p3 post n v4 (x5 + 1) M3)) ∧ (¬ ((x4 >>> (v1 &&& 31)) &&& 1) = 0 → post x5 M3))))))) ∧ (v1 = (-9) → lp_X1_firstTipped_6 a1 n1 p2 p3 post n x4 (x5 + 1) M))))))
set_option maxRecDepth 100000 in
theorem wl_X1_firstTipped_6 {X : CT} (a1 : Nat) (n1 : Nat) (p2 : Int32) (p3 : Int32) (hc1 : lyl[a1]? = some (.inr (0, n1))) (hX : okX X RX1 cX1_firstTipped 1 22) {post : Int32 → Mem → Prop} (hret : ∀ (r : Int32) (M' : Mem), narrow .int (.int r) = .int r → post r M' → RetI X cX1_firstTipped r M') : ∀ (n : Nat) (x4 : Int32) (x5 : Int32) (M : Mem), lp_X1_firstTipped_6 a1 n1 p2 p3 post n x4 x5 M → Z X M 6 [some (.ref (adX X 18)), some (.ref (adX X a1)), some (.int p2), some (.int p3), some (.int x4), some (.int x5), none] [] := by
  intro n
  induction n with
  | zero =>
    intro x4 x5 M h
    exact False.elim h
  | succ n ih =>
    intro x4 x5 M h
    unfold lp_X1_firstTipped_6 at h
    refine r_iload hX dX1_firstTipped_6 rfl ?_
    refine r_iload_n hX dX1_firstTipped_8 rfl rfl ?_
    refine r_icmp_ge hX 69 dX1_firstTipped_9 (by decide) (fun hc => ?_) (fun hc => ?_)
    · have h := h.1 hc
      refine r_bipush (v := (-9)) hX dX1_firstTipped_69 (by decide) ?_
      exact r_iret (hret _ _ rfl h) dX1_firstTipped_71
    · have h := h.2 hc
      refine r_aload_n hX dX1_firstTipped_12 rfl rfl ?_
      refine r_iload_n hX dX1_firstTipped_13 rfl rfl ?_
      refine r_iload hX dX1_firstTipped_14 rfl ?_
      refine r_iadd hX dX1_firstTipped_16 ?_
      refine r_iald hX hc1 h.1 dX1_firstTipped_17 ?_
      have h := h.2
      refine r_nm (fun v1 ev1 => ?_)
      have h := h v1 ev1
      refine r_istore (L' := [some (.ref (adX X 18)), some (.ref (adX X a1)), some (.int p2), some (.int p3), some (.int x4), some (.int x5), some (.int v1)]) hX dX1_firstTipped_18 (Nat.lt_of_ble rfl) rfl rfl ?_
      refine r_iload hX dX1_firstTipped_20 rfl ?_
      refine r_bipush (v := (-9)) hX dX1_firstTipped_22 (by decide) ?_
      refine r_icmp_ne hX 30 dX1_firstTipped_24 (by decide) (fun hc => ?_) (fun hc => ?_)
      · have h := h.1 hc
        refine r_aload_n hX dX1_firstTipped_30 rfl rfl ?_
        refine r_iload hX dX1_firstTipped_31 rfl ?_
        refine r_iload hX dX1_firstTipped_33 rfl ?_
        refine r_cVi2 hX fv_X1_97 ly_18 rfl ⟨Nat.le_of_ble_eq_true rfl, Nat.le_of_ble_eq_true rfl⟩ (c_X1_isBorne v1 x5 h) (Nat.le_of_ble_eq_true rfl) dX1_firstTipped_35 (fun r2 M3 h => ?_)
        refine r_if_eq hX 51 dX1_firstTipped_38 (by decide) (fun hc => ?_) (fun hc => ?_)
        · have h := h.1 hc
          refine r_iload hX dX1_firstTipped_51 rfl ?_
          exact r_iret (hret _ _ rfl h) dX1_firstTipped_53
        · have h := h.2 hc
          refine r_iload hX dX1_firstTipped_41 rfl ?_
          refine r_iload hX dX1_firstTipped_43 rfl ?_
          refine r_ishr hX dX1_firstTipped_45 ?_
          refine r_iconst (v := 1) hX dX1_firstTipped_46 (by decide) ?_
          refine r_iand hX dX1_firstTipped_47 ?_
          refine r_if_eq hX 54 dX1_firstTipped_48 (by decide) (fun hc => ?_) (fun hc => ?_)
          · have h := h.1 hc
            refine r_iload hX dX1_firstTipped_54 rfl ?_
            refine r_iconst (v := 1) hX dX1_firstTipped_56 (by decide) ?_
            refine r_iload hX dX1_firstTipped_57 rfl ?_
            refine r_ishl hX dX1_firstTipped_59 ?_
            refine r_ior hX dX1_firstTipped_60 ?_
            refine r_nm (fun v4 ev4 => ?_)
            have h := h v4 ev4
            refine r_istore (L' := [some (.ref (adX X 18)), some (.ref (adX X a1)), some (.int p2), some (.int p3), some (.int v4), some (.int x5), some (.int v1)]) hX dX1_firstTipped_61 (Nat.lt_of_ble rfl) rfl rfl ?_
            refine r_iinc (v := x5 + 1) (L' := [some (.ref (adX X 18)), some (.ref (adX X a1)), some (.int p2), some (.int p3), some (.int v4), some (.int (x5 + 1)), some (.int v1)]) hX dX1_firstTipped_63 rfl rfl rfl rfl ?_
            refine r_goto hX 6 dX1_firstTipped_66 (by decide) ?_
            refine r_sub [some (.ref (adX X 18)), some (.ref (adX X a1)), some (.int p2), some (.int p3), some (.int v4), some (.int (x5 + 1)), none] (And.intro rfl (And.intro rfl (And.intro rfl (And.intro rfl (And.intro rfl (And.intro rfl trivial)))))) ?_
            exact ih _ _ _ h
          · have h := h.2 hc
            refine r_iload hX dX1_firstTipped_51 rfl ?_
            exact r_iret (hret _ _ rfl h) dX1_firstTipped_53
      · have h := h.2 hc
        refine r_goto hX 63 dX1_firstTipped_27 (by decide) ?_
        refine r_iinc (v := x5 + 1) (L' := [some (.ref (adX X 18)), some (.ref (adX X a1)), some (.int p2), some (.int p3), some (.int x4), some (.int (x5 + 1)), some (.int v1)]) hX dX1_firstTipped_63 rfl rfl rfl rfl ?_
        refine r_goto hX 6 dX1_firstTipped_66 (by decide) ?_
        refine r_sub [some (.ref (adX X 18)), some (.ref (adX X a1)), some (.int p2), some (.int p3), some (.int x4), some (.int (x5 + 1)), none] (And.intro rfl (And.intro rfl (And.intro rfl (And.intro rfl (And.intro rfl (And.intro rfl trivial)))))) ?_
        exact ih _ _ _ h
def wp_X1_firstTipped (a1 : Nat) (n1 : Nat) (p2 : Int32) (p3 : Int32) (M : Mem) (post : Int32 → Mem → Prop) : Prop := (∃ k, lp_X1_firstTipped_6 a1 n1 p2 p3 post k 0 0 M)
set_option maxRecDepth 100000 in
theorem wk_X1_firstTipped {X : CT} (a1 : Nat) (n1 : Nat) (p2 : Int32) (p3 : Int32) (hc1 : lyl[a1]? = some (.inr (0, n1))) (hX : okX X RX1 cX1_firstTipped 1 22) {M : Mem} {post : Int32 → Mem → Prop} (hret : ∀ (r : Int32) (M' : Mem), narrow .int (.int r) = .int r → post r M' → RetI X cX1_firstTipped r M') (h : wp_X1_firstTipped a1 n1 p2 p3 M post) : Z X M 0 [some (.ref (adX X 18)), some (.ref (adX X a1)), some (.int p2), some (.int p3), none, none, none] [] := by
  unfold wp_X1_firstTipped at h
  refine r_iconst (v := 0) hX dX1_firstTipped_0 (by decide) ?_
  refine r_istore (L' := [some (.ref (adX X 18)), some (.ref (adX X a1)), some (.int p2), some (.int p3), some (.int 0), none, none]) hX dX1_firstTipped_1 (Nat.lt_of_ble rfl) rfl rfl ?_
  refine r_iconst (v := 0) hX dX1_firstTipped_3 (by decide) ?_
  refine r_istore (L' := [some (.ref (adX X 18)), some (.ref (adX X a1)), some (.int p2), some (.int p3), some (.int 0), some (.int 0), none]) hX dX1_firstTipped_4 (Nat.lt_of_ble rfl) rfl rfl ?_
  obtain ⟨n5, h⟩ := h
  refine r_sub [some (.ref (adX X 18)), some (.ref (adX X a1)), some (.int p2), some (.int p3), some (.int 0), some (.int 0), none] (And.intro rfl (And.intro rfl (And.intro rfl (And.intro rfl (And.intro rfl (And.intro rfl trivial)))))) ?_
  exact wl_X1_firstTipped_6 a1 n1 p2 p3 hc1 hX hret n5 _ _ _ h
set_option maxRecDepth 100000 in
theorem c_X1_firstTipped {l : Launch} {D : va_G} {cs : CS3} {ad : Nat → Nat} (a1 : Nat) (n1 : Nat) (p2 : Int32) (p3 : Int32) (hc1 : lyl[a1]? = some (.inr (0, n1))) {M : Mem} {post : Int32 → Mem → Prop} (h : wp_X1_firstTipped a1 n1 p2 p3 M post) : CtI l D cs ad yX1_firstTipped cX1_firstTipped 7 (some .int) 1 22 [.ref (ad 18), .ref (ad a1), .int p2, .int p3] M post := met_I (k := 3) (fun ad => [.ref (ad 18), .ref (ad a1), .int p2, .int p3]) (fun ad => [some (.ref (ad 18)), some (.ref (ad a1)), some (.int p2), some (.int p3), none, none, none]) (by decide +kernel) (fun _ => Nat.le_of_ble_eq_true rfl) (fun _ => rfl) (fun _ => rfl) (fun X hX hret => wk_X1_firstTipped a1 n1 p2 p3 hc1 hX hret h)
