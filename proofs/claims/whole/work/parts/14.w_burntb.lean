def m_X6_rename (fu : Nat) (x1 : Int32) (x2 : Int32) (x3 : Int32) (S : ST) : Option (Int32 × ST) :=
  bd (m_X0_has fu x1 S) (fun v_2 => (if v_2 = (0 : Int32) then some ((-101 : Int32), S) else bd (m_X6_isLetter fu x2) (fun v_5 => (if v_5 = (0 : Int32) then some ((-101 : Int32), S) else bd (m_X6_isLetter fu x3) (fun v_8 => (if v_8 = (0 : Int32) then some ((-101 : Int32), S) else (if x2 = x3 then some ((-101 : Int32), S) else bd (m_X0_mayRename fu ((stL S 0)) x1 x2 x3 S) (fun v_12 => (if v_12 = (0 : Int32) then some ((-103 : Int32), S) else bd (m_X5_moved fu ((stL S 0)) x1 x2 x3) (fun v_15 => nm (puL S 0 v_15) (fun S_16 => bd (m_X5_fullness fu ((stL S_16 0)) x3) (fun v_18 => some (v_18, S_16)))))))))))))
set_option maxRecDepth 100000 in
set_option maxHeartbeats 4000000 in
theorem k_X6_rename (l : Launch) (D : va_G) (cy : ClassId) (a : Nat → Nat) (fu : Nat) (x1 : Int32) (x2 : Int32) (x3 : Int32) (S : ST) (r : Int32) (S' : ST) (h : m_X6_rename fu x1 x2 x3 S = some (r, S')) : CtI l yX6_rename cX6_rename 4 (some .int) 4 [.ref (a 0), .int x1, .int x2, .int x3] D cy (wD cy a) S r S' := by
  refine CtI_of (by decide) (Nat.le_of_ble_eq_true rfl) ?_
  intro p e s m args below meth c A ls hC hr hk hw hl
  have hC : Cx p s m c RX6 cX6_rename 4 args D cy := hC
  have hx := hC.1
  have hb := hC.2.1
  have hl : lv_has ls 4 [(0, .ref (a 0)), (1, .int x1), (2, .int x2), (3, .int x3)] := hl
  obtain ⟨H, eH⟩ : ∃ z : Heap, z = s.heap := ⟨_, rfl⟩
  obtain ⟨locs, elocs⟩ : ∃ z : List Loc, z = [] := ⟨_, rfl⟩
  have hw : InW D (wD cy a) A s.heap H locs S := by rw [eH, elocs]; exact hw
  suffices hsu : W p l e (rmN 4) s m args below meth c H locs 0 0 (QI below args s D (wD cy a) A r S') (F0 m 0 ls []) by rw [eH, elocs] at hsu; exact hsu
  unfold m_X6_rename at h
  refine lv_aload_n hx hb dX6_rename_0 rfl (lv_at hl 0 rfl) ?_
  refine gf (v := .ref (a 5)) hC hw in_X6 0 4 2 (cD_0 cy a S) rfl (by decide) lf_RX6_28 rfl rfl dX6_rename_1 ?_
  refine lv_iload_n hx hb dX6_rename_4 rfl (lv_at hl 1 rfl) ?_
  obtain ⟨v_2, hc_1, h⟩ := bd_at h
  refine caVI (As := [.int x1]) (rest := []) hC hw hl.1 lm_RX6_119 li_RX0 lk_yX0_has li_yX0_has ll_yX0_has 5 0 (cD_5 cy a S) rfl 1 rfl hd_X0_has (by decide) (by decide) (Nat.le_of_ble_eq_true rfl) dX6_rename_5 (k_X0_has l D cy a fu x1 S _ hc_1) (fun H locs hw => ?_)
  refine lv_if_eq (tgt := 30) hx hb dX6_rename_8 (by decide) (fun c_3 => ?_) (fun c_3 => ?_)
  · have h := if_at_t c_3 h
    refine lv_bipush (v := -101) hx hb dX6_rename_30 (by decide) ?_
    exact rtI hC hr hk hw (so_at2 h).1 (so_at2 h).2 dX6_rename_32
  · have h := if_at_f c_3 h
    refine lv_iload_n hx hb dX6_rename_11 rfl (lv_at hl 2 rfl) ?_
    obtain ⟨v_5, hc_4, h⟩ := bd_at h
    refine caSI (As := [.int x2]) (rest := []) hC hw hl.1 lm_RX6_79 li_RX6 lk_yX6_isLetter ls_yX6_isLetter 1 rfl hd_X6_isLetter (by decide) (by decide) (Nat.le_of_ble_eq_true rfl) dX6_rename_12 (k_X6_isLetter l D cy (wD cy a) S fu x2 _ hc_4) (fun H locs hw => ?_)
    refine lv_if_eq (tgt := 30) hx hb dX6_rename_15 (by decide) (fun c_6 => ?_) (fun c_6 => ?_)
    · have h := if_at_t c_6 h
      refine lv_bipush (v := -101) hx hb dX6_rename_30 (by decide) ?_
      exact rtI hC hr hk hw (so_at2 h).1 (so_at2 h).2 dX6_rename_32
    · have h := if_at_f c_6 h
      refine lv_iload_n hx hb dX6_rename_18 rfl (lv_at hl 3 rfl) ?_
      obtain ⟨v_8, hc_7, h⟩ := bd_at h
      refine caSI (As := [.int x3]) (rest := []) hC hw hl.1 lm_RX6_79 li_RX6 lk_yX6_isLetter ls_yX6_isLetter 1 rfl hd_X6_isLetter (by decide) (by decide) (Nat.le_of_ble_eq_true rfl) dX6_rename_19 (k_X6_isLetter l D cy (wD cy a) S fu x3 _ hc_7) (fun H locs hw => ?_)
      refine lv_if_eq (tgt := 30) hx hb dX6_rename_22 (by decide) (fun c_9 => ?_) (fun c_9 => ?_)
      · have h := if_at_t c_9 h
        refine lv_bipush (v := -101) hx hb dX6_rename_30 (by decide) ?_
        exact rtI hC hr hk hw (so_at2 h).1 (so_at2 h).2 dX6_rename_32
      · have h := if_at_f c_9 h
        refine lv_iload_n hx hb dX6_rename_25 rfl (lv_at hl 2 rfl) ?_
        refine lv_iload_n hx hb dX6_rename_26 rfl (lv_at hl 3 rfl) ?_
        refine lv_icmp_ne (tgt := 33) hx hb dX6_rename_27 (by decide) (fun c_10 => ?_) (fun c_10 => ?_)
        · have h := if_at_f c_10 h
          refine lv_aload_n hx hb dX6_rename_33 rfl (lv_at hl 0 rfl) ?_
          refine gf (v := .ref (a 5)) hC hw in_X6 0 4 2 (cD_0 cy a S) rfl (by decide) lf_RX6_28 rfl rfl dX6_rename_34 ?_
          refine lv_aload_n hx hb dX6_rename_37 rfl (lv_at hl 0 rfl) ?_
          refine gf (v := .ref (a 5)) hC hw in_X6 0 4 2 (cD_0 cy a S) rfl (by decide) lf_RX6_28 rfl rfl dX6_rename_38 ?_
          refine gfN (v := .long (stL S 0)) hC hw in_X0 5 0 5 (cD_5 cy a S) rfl (by decide) lf_RX6_90 rfl rfl dX6_rename_41 ?_
          refine lv_iload_n hx hb dX6_rename_44 rfl (lv_at hl 1 rfl) ?_
          refine lv_iload_n hx hb dX6_rename_45 rfl (lv_at hl 2 rfl) ?_
          refine lv_iload_n hx hb dX6_rename_46 rfl (lv_at hl 3 rfl) ?_
          obtain ⟨v_12, hc_11, h⟩ := bd_at h
          refine caVI (As := [.long (stL S 0), .int x1, .int x2, .int x3]) (rest := []) hC hw hl.1 lm_RX6_157 li_RX0 lk_yX0_mayRename li_yX0_mayRename ll_yX0_mayRename 5 0 (cD_5 cy a S) rfl 4 rfl hd_X0_mayRename (by decide) (by decide) (Nat.le_of_ble_eq_true rfl) dX6_rename_47 (k_X0_mayRename l D cy a fu ((stL S 0)) x1 x2 x3 S _ hc_11) (fun H locs hw => ?_)
          refine lv_if_ne (tgt := 56) hx hb dX6_rename_50 (by decide) (fun c_13 => ?_) (fun c_13 => ?_)
          · have h := if_at_f c_13 h
            refine lv_aload_n hx hb dX6_rename_56 rfl (lv_at hl 0 rfl) ?_
            refine gf (v := .ref (a 5)) hC hw in_X6 0 4 2 (cD_0 cy a S) rfl (by decide) lf_RX6_28 rfl rfl dX6_rename_57 ?_
            refine lv_aload_n hx hb dX6_rename_60 rfl (lv_at hl 0 rfl) ?_
            refine gf (v := .ref (a 5)) hC hw in_X6 0 4 2 (cD_0 cy a S) rfl (by decide) lf_RX6_28 rfl rfl dX6_rename_61 ?_
            refine gfN (v := .long (stL S 0)) hC hw in_X0 5 0 5 (cD_5 cy a S) rfl (by decide) lf_RX6_90 rfl rfl dX6_rename_64 ?_
            refine lv_iload_n hx hb dX6_rename_67 rfl (lv_at hl 1 rfl) ?_
            refine lv_iload_n hx hb dX6_rename_68 rfl (lv_at hl 2 rfl) ?_
            refine lv_iload_n hx hb dX6_rename_69 rfl (lv_at hl 3 rfl) ?_
            obtain ⟨v_15, hc_14, h⟩ := bd_at h
            refine caSL (As := [.long (stL S 0), .int x1, .int x2, .int x3]) (rest := [.ref (a 5)]) hC hw hl.1 lm_RX6_161 li_RX5 lk_yX5_moved ls_yX5_moved 4 rfl hd_X5_moved (by decide) (by decide) (Nat.le_of_ble_eq_true rfl) dX6_rename_70 (k_X5_moved l D cy (wD cy a) S fu ((stL S 0)) x1 x2 x3 _ hc_14) (fun H locs hw => ?_)
            refine pfN (ty := .long) (v := .long v_15) hC hw in_X0 tyX0_ok nmX0 5 0 5 (cD_5 cy a S) rfl (by decide) lf_RX6_90 rfl rfl (by decide +kernel) rfl rfl (Nat.le_of_ble_eq_true rfl) (sD_5_5 cy a S v_15) dX6_rename_73 (fun H locs hw => ?_)
            obtain ⟨S_16, hw, h⟩ := nmw (P := fun z => InW D (wD cy a) A s.heap H locs z) hw h
            refine lv_aload_n hx hb dX6_rename_76 rfl (lv_at hl 0 rfl) ?_
            refine gf (v := .ref (a 5)) hC hw in_X6 0 4 2 (cD_0 cy a S_16) rfl (by decide) lf_RX6_28 rfl rfl dX6_rename_77 ?_
            refine gfN (v := .long (stL S_16 0)) hC hw in_X0 5 0 5 (cD_5 cy a S_16) rfl (by decide) lf_RX6_90 rfl rfl dX6_rename_80 ?_
            refine lv_iload_n hx hb dX6_rename_83 rfl (lv_at hl 3 rfl) ?_
            obtain ⟨v_18, hc_17, h⟩ := bd_at h
            refine caSI (As := [.long (stL S_16 0), .int x3]) (rest := []) hC hw hl.1 lm_RX6_94 li_RX5 lk_yX5_fullness ls_yX5_fullness 2 rfl hd_X5_fullness (by decide) (by decide) (Nat.le_of_ble_eq_true rfl) dX6_rename_84 (k_X5_fullness l D cy (wD cy a) S_16 fu ((stL S_16 0)) x3 _ hc_17) (fun H locs hw => ?_)
            exact rtI hC hr hk hw (so_at2 h).1 (so_at2 h).2 dX6_rename_87
          · have h := if_at_t c_13 h
            refine lv_bipush (v := -103) hx hb dX6_rename_53 (by decide) ?_
            exact rtI hC hr hk hw (so_at2 h).1 (so_at2 h).2 dX6_rename_55
        · have h := if_at_t c_10 h
          refine lv_bipush (v := -101) hx hb dX6_rename_30 (by decide) ?_
          exact rtI hC hr hk hw (so_at2 h).1 (so_at2 h).2 dX6_rename_32
def m_X6_point (fu : Nat) (x1 : Int32) (x2 : Int32) (S : ST) : Option (Int32 × ST) :=
  bd (m_X0_has fu x1 S) (fun v_2 => (if v_2 = (0 : Int32) then some ((-101 : Int32), S) else jn0 ((if x1 = x2 then some ((-101 : Int32), S) else bd (m_X5_lives fu ((stL S 0)) x1) (fun v_7 => (if v_7 = (0 : Int32) then some ((-103 : Int32), S) else bd2 (m_X0_retarget fu x1 x2 S) (fun v_10 S_11 => some (v_10, S_11)))))) (fun j_4 => (if x2 = (-1 : Int32) then j_4 else bd (m_X0_has fu x2 S) (fun v_14 => (if v_14 = (0 : Int32) then some ((-101 : Int32), S) else j_4))))))
set_option maxRecDepth 100000 in
set_option maxHeartbeats 4000000 in
theorem k_X6_point (l : Launch) (D : va_G) (cy : ClassId) (a : Nat → Nat) (fu : Nat) (x1 : Int32) (x2 : Int32) (S : ST) (r : Int32) (S' : ST) (h : m_X6_point fu x1 x2 S = some (r, S')) : CtI l yX6_point cX6_point 3 (some .int) 2 [.ref (a 0), .int x1, .int x2] D cy (wD cy a) S r S' := by
  refine CtI_of (by decide) (Nat.le_of_ble_eq_true rfl) ?_
  intro p e s m args below meth c A ls hC hr hk hw hl
  have hC : Cx p s m c RX6 cX6_point 3 args D cy := hC
  have hx := hC.1
  have hb := hC.2.1
  have hl : lv_has ls 3 [(0, .ref (a 0)), (1, .int x1), (2, .int x2)] := hl
  obtain ⟨H, eH⟩ : ∃ z : Heap, z = s.heap := ⟨_, rfl⟩
  obtain ⟨locs, elocs⟩ : ∃ z : List Loc, z = [] := ⟨_, rfl⟩
  have hw : InW D (wD cy a) A s.heap H locs S := by rw [eH, elocs]; exact hw
  suffices hsu : W p l e (rmN 2) s m args below meth c H locs 0 0 (QI below args s D (wD cy a) A r S') (F0 m 0 ls []) by rw [eH, elocs] at hsu; exact hsu
  unfold m_X6_point at h
  refine lv_aload_n hx hb dX6_point_0 rfl (lv_at hl 0 rfl) ?_
  refine gf (v := .ref (a 5)) hC hw in_X6 0 4 2 (cD_0 cy a S) rfl (by decide) lf_RX6_28 rfl rfl dX6_point_1 ?_
  refine lv_iload_n hx hb dX6_point_4 rfl (lv_at hl 1 rfl) ?_
  obtain ⟨v_2, hc_1, h⟩ := bd_at h
  refine caVI (As := [.int x1]) (rest := []) hC hw hl.1 lm_RX6_119 li_RX0 lk_yX0_has li_yX0_has ll_yX0_has 5 0 (cD_5 cy a S) rfl 1 rfl hd_X0_has (by decide) (by decide) (Nat.le_of_ble_eq_true rfl) dX6_point_5 (k_X0_has l D cy a fu x1 S _ hc_1) (fun H locs hw => ?_)
  refine lv_if_eq (tgt := 32) hx hb dX6_point_8 (by decide) (fun c_3 => ?_) (fun c_3 => ?_)
  · have h := if_at_t c_3 h
    refine lv_bipush (v := -101) hx hb dX6_point_32 (by decide) ?_
    exact rtI hC hr hk hw (so_at2 h).1 (so_at2 h).2 dX6_point_34
  · have h := if_at_f c_3 h
    refine lv_iload_n hx hb dX6_point_11 rfl (lv_at hl 2 rfl) ?_
    refine lv_iconst (v := -1) hx hb dX6_point_12 (by decide) ?_
    refine jn0_ok (∀ (H : Heap) (locs : List Loc) (ls : Array Slot), InW D (wD cy a) A s.heap H locs S → lv_has ls 3 [(0, .ref (a 0)), (1, .int x1), (2, .int x2)] → W p l e (rmN 2) s m args below meth c H locs 0 0 (QI below args s D (wD cy a) A r S') (F0 m 27 ls [])) ?_ ?_ h
    · intro h H locs ls hw hl
      refine lv_iload_n hx hb dX6_point_27 rfl (lv_at hl 1 rfl) ?_
      refine lv_iload_n hx hb dX6_point_28 rfl (lv_at hl 2 rfl) ?_
      refine lv_icmp_ne (tgt := 35) hx hb dX6_point_29 (by decide) (fun c_5 => ?_) (fun c_5 => ?_)
      · have h := if_at_f c_5 h
        refine lv_aload_n hx hb dX6_point_35 rfl (lv_at hl 0 rfl) ?_
        refine gf (v := .ref (a 5)) hC hw in_X6 0 4 2 (cD_0 cy a S) rfl (by decide) lf_RX6_28 rfl rfl dX6_point_36 ?_
        refine gfN (v := .long (stL S 0)) hC hw in_X0 5 0 5 (cD_5 cy a S) rfl (by decide) lf_RX6_90 rfl rfl dX6_point_39 ?_
        refine lv_iload_n hx hb dX6_point_42 rfl (lv_at hl 1 rfl) ?_
        obtain ⟨v_7, hc_6, h⟩ := bd_at h
        refine caSI (As := [.long (stL S 0), .int x1]) (rest := []) hC hw hl.1 lm_RX6_134 li_RX5 lk_yX5_lives ls_yX5_lives 2 rfl hd_X5_lives (by decide) (by decide) (Nat.le_of_ble_eq_true rfl) dX6_point_43 (k_X5_lives l D cy (wD cy a) S fu ((stL S 0)) x1 _ hc_6) (fun H locs hw => ?_)
        refine lv_if_ne (tgt := 52) hx hb dX6_point_46 (by decide) (fun c_8 => ?_) (fun c_8 => ?_)
        · have h := if_at_f c_8 h
          refine lv_aload_n hx hb dX6_point_52 rfl (lv_at hl 0 rfl) ?_
          refine gf (v := .ref (a 5)) hC hw in_X6 0 4 2 (cD_0 cy a S) rfl (by decide) lf_RX6_28 rfl rfl dX6_point_53 ?_
          refine lv_iload_n hx hb dX6_point_56 rfl (lv_at hl 1 rfl) ?_
          refine lv_iload_n hx hb dX6_point_57 rfl (lv_at hl 2 rfl) ?_
          obtain ⟨v_10, S_11, hc_9, h⟩ := bd2_at h
          refine caVI (As := [.int x1, .int x2]) (rest := []) hC hw hl.1 lm_RX6_165 li_RX0 lk_yX0_retarget li_yX0_retarget ll_yX0_retarget 5 0 (cD_5 cy a S) rfl 2 rfl hd_X0_retarget (by decide) (by decide) (Nat.le_of_ble_eq_true rfl) dX6_point_58 (k_X0_retarget l D cy a fu x1 x2 S _ _ hc_9) (fun H locs hw => ?_)
          exact rtI hC hr hk hw (so_at2 h).1 (so_at2 h).2 dX6_point_61
        · have h := if_at_t c_8 h
          refine lv_bipush (v := -103) hx hb dX6_point_49 (by decide) ?_
          exact rtI hC hr hk hw (so_at2 h).1 (so_at2 h).2 dX6_point_51
      · have h := if_at_t c_5 h
        refine lv_bipush (v := -101) hx hb dX6_point_32 (by decide) ?_
        exact rtI hC hr hk hw (so_at2 h).1 (so_at2 h).2 dX6_point_34
    · intro j_4 hj_4 h
      refine lv_icmp_eq (tgt := 27) hx hb dX6_point_13 (by decide) (fun c_12 => ?_) (fun c_12 => ?_)
      · have h := if_at_t c_12 h
        exact hj_4 h H locs ls hw (lv_sub hl [0, 1, 2] rfl)
      · have h := if_at_f c_12 h
        refine lv_aload_n hx hb dX6_point_16 rfl (lv_at hl 0 rfl) ?_
        refine gf (v := .ref (a 5)) hC hw in_X6 0 4 2 (cD_0 cy a S) rfl (by decide) lf_RX6_28 rfl rfl dX6_point_17 ?_
        refine lv_iload_n hx hb dX6_point_20 rfl (lv_at hl 2 rfl) ?_
        obtain ⟨v_14, hc_13, h⟩ := bd_at h
        refine caVI (As := [.int x2]) (rest := []) hC hw hl.1 lm_RX6_119 li_RX0 lk_yX0_has li_yX0_has ll_yX0_has 5 0 (cD_5 cy a S) rfl 1 rfl hd_X0_has (by decide) (by decide) (Nat.le_of_ble_eq_true rfl) dX6_point_21 (k_X0_has l D cy a fu x2 S _ hc_13) (fun H locs hw => ?_)
        refine lv_if_eq (tgt := 32) hx hb dX6_point_24 (by decide) (fun c_15 => ?_) (fun c_15 => ?_)
        · have h := if_at_t c_15 h
          refine lv_bipush (v := -101) hx hb dX6_point_32 (by decide) ?_
          exact rtI hC hr hk hw (so_at2 h).1 (so_at2 h).2 dX6_point_34
        · have h := if_at_f c_15 h
          exact hj_4 h H locs ls hw (lv_sub hl [0, 1, 2] rfl)
def m_X6_burn (fu : Nat) (x1 : Int32) (S : ST) : Option (Int32 × ST) :=
  bd (m_X6_isLetter fu x1) (fun v_2 => (if v_2 = (0 : Int32) then some ((-101 : Int32), S) else bd (m_X3_stands fu S) (fun v_5 => (if v_5 = (0 : Int32) then some ((-103 : Int32), S) else bd2 (m_X0_passYear fu x1 S) (fun v_8 S_9 => some (v_8, S_9))))))
set_option maxRecDepth 100000 in
set_option maxHeartbeats 4000000 in
theorem k_X6_burn (l : Launch) (D : va_G) (cy : ClassId) (a : Nat → Nat) (fu : Nat) (x1 : Int32) (S : ST) (r : Int32) (S' : ST) (h : m_X6_burn fu x1 S = some (r, S')) : CtI l yX6_burn cX6_burn 2 (some .int) 5 [.ref (a 0), .int x1] D cy (wD cy a) S r S' := by
  refine CtI_of (by decide) (Nat.le_of_ble_eq_true rfl) ?_
  intro p e s m args below meth c A ls hC hr hk hw hl
  have hC : Cx p s m c RX6 cX6_burn 2 args D cy := hC
  have hx := hC.1
  have hb := hC.2.1
  have hl : lv_has ls 2 [(0, .ref (a 0)), (1, .int x1)] := hl
  obtain ⟨H, eH⟩ : ∃ z : Heap, z = s.heap := ⟨_, rfl⟩
  obtain ⟨locs, elocs⟩ : ∃ z : List Loc, z = [] := ⟨_, rfl⟩
  have hw : InW D (wD cy a) A s.heap H locs S := by rw [eH, elocs]; exact hw
  suffices hsu : W p l e (rmN 5) s m args below meth c H locs 0 0 (QI below args s D (wD cy a) A r S') (F0 m 0 ls []) by rw [eH, elocs] at hsu; exact hsu
  unfold m_X6_burn at h
  refine lv_iload_n hx hb dX6_burn_0 rfl (lv_at hl 1 rfl) ?_
  obtain ⟨v_2, hc_1, h⟩ := bd_at h
  refine caSI (As := [.int x1]) (rest := []) hC hw hl.1 lm_RX6_79 li_RX6 lk_yX6_isLetter ls_yX6_isLetter 1 rfl hd_X6_isLetter (by decide) (by decide) (Nat.le_of_ble_eq_true rfl) dX6_burn_1 (k_X6_isLetter l D cy (wD cy a) S fu x1 _ hc_1) (fun H locs hw => ?_)
  refine lv_if_ne (tgt := 10) hx hb dX6_burn_4 (by decide) (fun c_3 => ?_) (fun c_3 => ?_)
  · have h := if_at_f c_3 h
    refine lv_aload_n hx hb dX6_burn_10 rfl (lv_at hl 0 rfl) ?_
    refine gf (v := .ref (a 3)) hC hw in_X6 0 4 1 (cD_0 cy a S) rfl (by decide) lf_RX6_19 rfl rfl dX6_burn_11 ?_
    obtain ⟨v_5, hc_4, h⟩ := bd_at h
    refine caVI (As := []) (rest := []) hC hw hl.1 lm_RX6_105 li_RX3 lk_yX3_stands li_yX3_stands ll_yX3_stands 3 2 (cD_3 cy a S) rfl 0 rfl hd_X3_stands (by decide) (by decide) (Nat.le_of_ble_eq_true rfl) dX6_burn_14 (k_X3_stands l D cy a fu S _ hc_4) (fun H locs hw => ?_)
    refine lv_if_ne (tgt := 23) hx hb dX6_burn_17 (by decide) (fun c_6 => ?_) (fun c_6 => ?_)
    · have h := if_at_f c_6 h
      refine lv_aload_n hx hb dX6_burn_23 rfl (lv_at hl 0 rfl) ?_
      refine gf (v := .ref (a 5)) hC hw in_X6 0 4 2 (cD_0 cy a S) rfl (by decide) lf_RX6_28 rfl rfl dX6_burn_24 ?_
      refine lv_iload_n hx hb dX6_burn_27 rfl (lv_at hl 1 rfl) ?_
      obtain ⟨v_8, S_9, hc_7, h⟩ := bd2_at h
      refine caVI (As := [.int x1]) (rest := []) hC hw hl.1 lm_RX6_168 li_RX0 lk_yX0_passYear li_yX0_passYear ll_yX0_passYear 5 0 (cD_5 cy a S) rfl 1 rfl hd_X0_passYear (by decide) (by decide) (Nat.le_of_ble_eq_true rfl) dX6_burn_28 (k_X0_passYear l D cy a fu x1 S _ _ hc_7) (fun H locs hw => ?_)
      exact rtI hC hr hk hw (so_at2 h).1 (so_at2 h).2 dX6_burn_31
    · have h := if_at_t c_6 h
      refine lv_bipush (v := -103) hx hb dX6_burn_20 (by decide) ?_
      exact rtI hC hr hk hw (so_at2 h).1 (so_at2 h).2 dX6_burn_22
  · have h := if_at_t c_3 h
    refine lv_bipush (v := -101) hx hb dX6_burn_7 (by decide) ?_
    exact rtI hC hr hk hw (so_at2 h).1 (so_at2 h).2 dX6_burn_9
def m_X6_odds (fu : Nat) (x1 : Int32) (x2 : Int32) (x3 : Int32) (S : ST) : Option Int32 :=
  bd (m_X0_has fu x1 S) (fun v_2 => (if v_2 = (0 : Int32) then some (-101 : Int32) else bd (m_X6_within fu x2 (0 : Int32) (4 : Int32)) (fun v_5 => (if v_5 = (0 : Int32) then some (-102 : Int32) else bd (m_X6_within fu x3 (0 : Int32) (1 : Int32)) (fun v_8 => (if v_8 = (0 : Int32) then some (-102 : Int32) else bd (m_X1_waysToLive fu 8 ((stL S 0)) x1 x2 S) (fun v_11 => bd (m_X6_inLowestTerms fu v_11 x2 x3) (fun v_13 => some v_13))))))))
set_option maxRecDepth 100000 in
set_option maxHeartbeats 4000000 in
theorem k_X6_odds (l : Launch) (D : va_G) (cy : ClassId) (a : Nat → Nat) (fu : Nat) (x1 : Int32) (x2 : Int32) (x3 : Int32) (S : ST) (r : Int32) (h : m_X6_odds fu x1 x2 x3 S = some r) : CtI l yX6_odds cX6_odds 5 (some .int) 13 [.ref (a 0), .int x1, .int x2, .int x3] D cy (wD cy a) S r S := by
  refine CtI_of (by decide) (Nat.le_of_ble_eq_true rfl) ?_
  intro p e s m args below meth c A ls hC hr hk hw hl
  have hC : Cx p s m c RX6 cX6_odds 5 args D cy := hC
  have hx := hC.1
  have hb := hC.2.1
  have hl : lv_has ls 5 [(0, .ref (a 0)), (1, .int x1), (2, .int x2), (3, .int x3)] := hl
  obtain ⟨H, eH⟩ : ∃ z : Heap, z = s.heap := ⟨_, rfl⟩
  obtain ⟨locs, elocs⟩ : ∃ z : List Loc, z = [] := ⟨_, rfl⟩
  have hw : InW D (wD cy a) A s.heap H locs S := by rw [eH, elocs]; exact hw
  suffices hsu : W p l e (rmN 13) s m args below meth c H locs 0 0 (QI below args s D (wD cy a) A r S) (F0 m 0 ls []) by rw [eH, elocs] at hsu; exact hsu
  unfold m_X6_odds at h
  refine lv_aload_n hx hb dX6_odds_0 rfl (lv_at hl 0 rfl) ?_
  refine gf (v := .ref (a 5)) hC hw in_X6 0 4 2 (cD_0 cy a S) rfl (by decide) lf_RX6_28 rfl rfl dX6_odds_1 ?_
  refine lv_iload_n hx hb dX6_odds_4 rfl (lv_at hl 1 rfl) ?_
  obtain ⟨v_2, hc_1, h⟩ := bd_at h
  refine caVI (As := [.int x1]) (rest := []) hC hw hl.1 lm_RX6_119 li_RX0 lk_yX0_has li_yX0_has ll_yX0_has 5 0 (cD_5 cy a S) rfl 1 rfl hd_X0_has (by decide) (by decide) (Nat.le_of_ble_eq_true rfl) dX6_odds_5 (k_X0_has l D cy a fu x1 S _ hc_1) (fun H locs hw => ?_)
  refine lv_if_ne (tgt := 14) hx hb dX6_odds_8 (by decide) (fun c_3 => ?_) (fun c_3 => ?_)
  · have h := if_at_f c_3 h
    refine lv_iload_n hx hb dX6_odds_14 rfl (lv_at hl 2 rfl) ?_
    refine lv_iconst (v := 0) hx hb dX6_odds_15 (by decide) ?_
    refine lv_iconst (v := 4) hx hb dX6_odds_16 (by decide) ?_
    obtain ⟨v_5, hc_4, h⟩ := bd_at h
    refine caSI (As := [.int x2, .int (0 : Int32), .int (4 : Int32)]) (rest := []) hC hw hl.1 lm_RX6_83 li_RX6 lk_yX6_within ls_yX6_within 3 rfl hd_X6_within (by decide) (by decide) (Nat.le_of_ble_eq_true rfl) dX6_odds_17 (k_X6_within l D cy (wD cy a) S fu x2 (0 : Int32) (4 : Int32) _ hc_4) (fun H locs hw => ?_)
    refine lv_if_eq (tgt := 32) hx hb dX6_odds_20 (by decide) (fun c_6 => ?_) (fun c_6 => ?_)
    · have h := if_at_t c_6 h
      refine lv_bipush (v := -102) hx hb dX6_odds_32 (by decide) ?_
      exact rtI hC hr hk hw (so_at h) rfl dX6_odds_34
    · have h := if_at_f c_6 h
      refine lv_iload_n hx hb dX6_odds_23 rfl (lv_at hl 3 rfl) ?_
      refine lv_iconst (v := 0) hx hb dX6_odds_24 (by decide) ?_
      refine lv_iconst (v := 1) hx hb dX6_odds_25 (by decide) ?_
      obtain ⟨v_8, hc_7, h⟩ := bd_at h
      refine caSI (As := [.int x3, .int (0 : Int32), .int (1 : Int32)]) (rest := []) hC hw hl.1 lm_RX6_83 li_RX6 lk_yX6_within ls_yX6_within 3 rfl hd_X6_within (by decide) (by decide) (Nat.le_of_ble_eq_true rfl) dX6_odds_26 (k_X6_within l D cy (wD cy a) S fu x3 (0 : Int32) (1 : Int32) _ hc_7) (fun H locs hw => ?_)
      refine lv_if_ne (tgt := 35) hx hb dX6_odds_29 (by decide) (fun c_9 => ?_) (fun c_9 => ?_)
      · have h := if_at_f c_9 h
        refine lv_aload_n hx hb dX6_odds_35 rfl (lv_at hl 0 rfl) ?_
        refine gf (v := .ref (a 13)) hC hw in_X6 0 4 4 (cD_0 cy a S) rfl (by decide) lf_RX6_40 rfl rfl dX6_odds_36 ?_
        refine lv_aload_n hx hb dX6_odds_39 rfl (lv_at hl 0 rfl) ?_
        refine gf (v := .ref (a 5)) hC hw in_X6 0 4 2 (cD_0 cy a S) rfl (by decide) lf_RX6_28 rfl rfl dX6_odds_40 ?_
        refine gfN (v := .long (stL S 0)) hC hw in_X0 5 0 5 (cD_5 cy a S) rfl (by decide) lf_RX6_90 rfl rfl dX6_odds_43 ?_
        refine lv_iload_n hx hb dX6_odds_46 rfl (lv_at hl 1 rfl) ?_
        refine lv_iload_n hx hb dX6_odds_47 rfl (lv_at hl 2 rfl) ?_
        obtain ⟨v_11, hc_10, h⟩ := bd_at h
        refine caVNI (As := [.long (stL S 0), .int x1, .int x2]) (rest := []) hC hw hl.1 lm_RX6_171 li_RX1 lk_yX1_waysToLive li_yX1_waysToLive ll_yX1_waysToLive 13 1 (cD_13 cy a S) rfl 3 rfl hd_X1_waysToLive (by decide) (by decide) (Nat.le_of_ble_eq_true rfl) dX6_odds_48 (k_X1_waysToLive l D cy a fu 8 ((stL S 0)) x1 x2 S _ hc_10) (fun H locs hw => ?_)
        refine lv_istore (lv' := [(4, .int v_11), (0, .ref (a 0)), (1, .int x1), (2, .int x2), (3, .int x3)]) hx hb dX6_odds_51 hl (by decide) rfl (fun ls hl => ?_)
        refine lv_iload hx hb dX6_odds_53 (lv_at hl 0 rfl) ?_
        refine lv_iload_n hx hb dX6_odds_55 rfl (lv_at hl 3 rfl) ?_
        refine lv_iload_n hx hb dX6_odds_56 rfl (lv_at hl 4 rfl) ?_
        obtain ⟨v_13, hc_12, h⟩ := bd_at h
        refine caSI (As := [.int v_11, .int x2, .int x3]) (rest := []) hC hw hl.1 lm_RX6_175 li_RX6 lk_yX6_inLowestTerms ls_yX6_inLowestTerms 3 rfl hd_X6_inLowestTerms (by decide) (by decide) (Nat.le_of_ble_eq_true rfl) dX6_odds_57 (k_X6_inLowestTerms l D cy (wD cy a) S fu v_11 x2 x3 _ hc_12) (fun H locs hw => ?_)
        exact rtI hC hr hk hw (so_at h) rfl dX6_odds_60
      · have h := if_at_t c_9 h
        refine lv_bipush (v := -102) hx hb dX6_odds_32 (by decide) ?_
        exact rtI hC hr hk hw (so_at h) rfl dX6_odds_34
  · have h := if_at_t c_3 h
    refine lv_bipush (v := -101) hx hb dX6_odds_11 (by decide) ?_
    exact rtI hC hr hk hw (so_at h) rfl dX6_odds_13
def m_X6_where (fu : Nat) (x1 : Int32) (x2 : Int32) (S : ST) : Option Int32 :=
  bd (m_X0_has fu x1 S) (fun v_2 => (if v_2 = (0 : Int32) then some (-101 : Int32) else bd (m_X6_within fu x2 (0 : Int32) (4 : Int32)) (fun v_5 => (if v_5 = (0 : Int32) then some (-102 : Int32) else bd (m_X1_bestCopy fu x1 x2 S) (fun v_8 => some v_8)))))
set_option maxRecDepth 100000 in
set_option maxHeartbeats 4000000 in
theorem k_X6_where (l : Launch) (D : va_G) (cy : ClassId) (a : Nat → Nat) (fu : Nat) (x1 : Int32) (x2 : Int32) (S : ST) (r : Int32) (h : m_X6_where fu x1 x2 S = some r) : CtI l yX6_where cX6_where 3 (some .int) 14 [.ref (a 0), .int x1, .int x2] D cy (wD cy a) S r S := by
  refine CtI_of (by decide) (Nat.le_of_ble_eq_true rfl) ?_
  intro p e s m args below meth c A ls hC hr hk hw hl
  have hC : Cx p s m c RX6 cX6_where 3 args D cy := hC
  have hx := hC.1
  have hb := hC.2.1
  have hl : lv_has ls 3 [(0, .ref (a 0)), (1, .int x1), (2, .int x2)] := hl
  obtain ⟨H, eH⟩ : ∃ z : Heap, z = s.heap := ⟨_, rfl⟩
  obtain ⟨locs, elocs⟩ : ∃ z : List Loc, z = [] := ⟨_, rfl⟩
  have hw : InW D (wD cy a) A s.heap H locs S := by rw [eH, elocs]; exact hw
  suffices hsu : W p l e (rmN 14) s m args below meth c H locs 0 0 (QI below args s D (wD cy a) A r S) (F0 m 0 ls []) by rw [eH, elocs] at hsu; exact hsu
  unfold m_X6_where at h
  refine lv_aload_n hx hb dX6_where_0 rfl (lv_at hl 0 rfl) ?_
  refine gf (v := .ref (a 5)) hC hw in_X6 0 4 2 (cD_0 cy a S) rfl (by decide) lf_RX6_28 rfl rfl dX6_where_1 ?_
  refine lv_iload_n hx hb dX6_where_4 rfl (lv_at hl 1 rfl) ?_
  obtain ⟨v_2, hc_1, h⟩ := bd_at h
  refine caVI (As := [.int x1]) (rest := []) hC hw hl.1 lm_RX6_119 li_RX0 lk_yX0_has li_yX0_has ll_yX0_has 5 0 (cD_5 cy a S) rfl 1 rfl hd_X0_has (by decide) (by decide) (Nat.le_of_ble_eq_true rfl) dX6_where_5 (k_X0_has l D cy a fu x1 S _ hc_1) (fun H locs hw => ?_)
  refine lv_if_ne (tgt := 14) hx hb dX6_where_8 (by decide) (fun c_3 => ?_) (fun c_3 => ?_)
  · have h := if_at_f c_3 h
    refine lv_iload_n hx hb dX6_where_14 rfl (lv_at hl 2 rfl) ?_
    refine lv_iconst (v := 0) hx hb dX6_where_15 (by decide) ?_
    refine lv_iconst (v := 4) hx hb dX6_where_16 (by decide) ?_
    obtain ⟨v_5, hc_4, h⟩ := bd_at h
    refine caSI (As := [.int x2, .int (0 : Int32), .int (4 : Int32)]) (rest := []) hC hw hl.1 lm_RX6_83 li_RX6 lk_yX6_within ls_yX6_within 3 rfl hd_X6_within (by decide) (by decide) (Nat.le_of_ble_eq_true rfl) dX6_where_17 (k_X6_within l D cy (wD cy a) S fu x2 (0 : Int32) (4 : Int32) _ hc_4) (fun H locs hw => ?_)
    refine lv_if_ne (tgt := 26) hx hb dX6_where_20 (by decide) (fun c_6 => ?_) (fun c_6 => ?_)
    · have h := if_at_f c_6 h
      refine lv_aload_n hx hb dX6_where_26 rfl (lv_at hl 0 rfl) ?_
      refine gf (v := .ref (a 13)) hC hw in_X6 0 4 4 (cD_0 cy a S) rfl (by decide) lf_RX6_40 rfl rfl dX6_where_27 ?_
      refine lv_iload_n hx hb dX6_where_30 rfl (lv_at hl 1 rfl) ?_
      refine lv_iload_n hx hb dX6_where_31 rfl (lv_at hl 2 rfl) ?_
      obtain ⟨v_8, hc_7, h⟩ := bd_at h
      refine caVI (As := [.int x1, .int x2]) (rest := []) hC hw hl.1 lm_RX6_179 li_RX1 lk_yX1_bestCopy li_yX1_bestCopy ll_yX1_bestCopy 13 1 (cD_13 cy a S) rfl 2 rfl hd_X1_bestCopy (by decide) (by decide) (Nat.le_of_ble_eq_true rfl) dX6_where_32 (k_X1_bestCopy l D cy a fu x1 x2 S _ hc_7) (fun H locs hw => ?_)
      exact rtI hC hr hk hw (so_at h) rfl dX6_where_35
    · have h := if_at_t c_6 h
      refine lv_bipush (v := -102) hx hb dX6_where_23 (by decide) ?_
      exact rtI hC hr hk hw (so_at h) rfl dX6_where_25
  · have h := if_at_t c_3 h
    refine lv_bipush (v := -101) hx hb dX6_where_11 (by decide) ?_
    exact rtI hC hr hk hw (so_at h) rfl dX6_where_13
def m_X6_sure (fu : Nat) (x1 : Int32) (x2 : Int32) (x3 : Int32) (S : ST) : Option (Int32 × ST) :=
  jn1 (fun (v_1 : Int32) => (if v_1 = (0 : Int32) then some ((-102 : Int32), S) else bd (m_X6_within fu x2 (0 : Int32) (4 : Int32)) (fun v_5 => (if v_5 = (0 : Int32) then some ((-102 : Int32), S) else bd (m_X6_within fu x3 (0 : Int32) (1 : Int32)) (fun v_8 => (if v_8 = (0 : Int32) then some ((-102 : Int32), S) else bd (m_X3_stands fu S) (fun v_11 => (if v_11 = (0 : Int32) then some ((-103 : Int32), S) else (if (stI S 2) < (30 : Int32) then nm (puI S 2 (((stI S 2) + (1 : Int32)))) (fun S_14 => bd (m_X1_fewestSure fu x1 x2 S_14) (fun v_16 => (if v_16 = (-1 : Int32) then some ((-1 : Int32), S_14) else (if x3 = (0 : Int32) then bd (m_J6_bitCount_0f7a4 fu v_16) (fun v_20 => some (v_20, S_14)) else some (v_16, S_14))))) else some ((-103 : Int32), S)))))))))) (fun j_2 => jn0 (j_2 (1 : Int32)) (fun j_21 => (if x1 = (0 : Int32) then j_21 else (if x1 = (3 : Int32) then j_21 else (if x1 = (4 : Int32) then j_21 else j_2 (0 : Int32))))))
set_option maxRecDepth 100000 in
set_option maxHeartbeats 4000000 in
theorem k_X6_sure (l : Launch) (D : va_G) (cy : ClassId) (a : Nat → Nat) (fu : Nat) (x1 : Int32) (x2 : Int32) (x3 : Int32) (S : ST) (r : Int32) (S' : ST) (h : m_X6_sure fu x1 x2 x3 S = some (r, S')) : CtI l yX6_sure cX6_sure 6 (some .int) 12 [.ref (a 0), .int x1, .int x2, .int x3] D cy (wD cy a) S r S' := by
  refine CtI_of (by decide) (Nat.le_of_ble_eq_true rfl) ?_
  intro p e s m args below meth c A ls hC hr hk hw hl
  have hC : Cx p s m c RX6 cX6_sure 6 args D cy := hC
  have hx := hC.1
  have hb := hC.2.1
  have hl : lv_has ls 6 [(0, .ref (a 0)), (1, .int x1), (2, .int x2), (3, .int x3)] := hl
  obtain ⟨H, eH⟩ : ∃ z : Heap, z = s.heap := ⟨_, rfl⟩
  obtain ⟨locs, elocs⟩ : ∃ z : List Loc, z = [] := ⟨_, rfl⟩
  have hw : InW D (wD cy a) A s.heap H locs S := by rw [eH, elocs]; exact hw
  suffices hsu : W p l e (rmN 12) s m args below meth c H locs 0 0 (QI below args s D (wD cy a) A r S') (F0 m 0 ls []) by rw [eH, elocs] at hsu; exact hsu
  unfold m_X6_sure at h
  refine lv_iload_n hx hb dX6_sure_0 rfl (lv_at hl 1 rfl) ?_
  refine jn1_ok (fun (v_1 : Int32) => ∀ (H : Heap) (locs : List Loc) (ls : Array Slot), InW D (wD cy a) A s.heap H locs S → lv_has ls 6 [(0, .ref (a 0)), (1, .int x1), (2, .int x2), (3, .int x3)] → W p l e (rmN 12) s m args below meth c H locs 0 0 (QI below args s D (wD cy a) A r S') (F0 m 19 ls [.int v_1])) ?_ ?_ h
  · intro v_1 h H locs ls hw hl
    refine lv_istore (lv' := [(4, .int v_1), (0, .ref (a 0)), (1, .int x1), (2, .int x2), (3, .int x3)]) hx hb dX6_sure_19 hl (by decide) rfl (fun ls hl => ?_)
    refine lv_iload hx hb dX6_sure_21 (lv_at hl 0 rfl) ?_
    refine lv_if_eq (tgt := 44) hx hb dX6_sure_23 (by decide) (fun c_3 => ?_) (fun c_3 => ?_)
    · have h := if_at_t c_3 h
      refine lv_bipush (v := -102) hx hb dX6_sure_44 (by decide) ?_
      exact rtI hC hr hk hw (so_at2 h).1 (so_at2 h).2 dX6_sure_46
    · have h := if_at_f c_3 h
      refine lv_iload_n hx hb dX6_sure_26 rfl (lv_at hl 3 rfl) ?_
      refine lv_iconst (v := 0) hx hb dX6_sure_27 (by decide) ?_
      refine lv_iconst (v := 4) hx hb dX6_sure_28 (by decide) ?_
      obtain ⟨v_5, hc_4, h⟩ := bd_at h
      refine caSI (As := [.int x2, .int (0 : Int32), .int (4 : Int32)]) (rest := []) hC hw hl.1 lm_RX6_83 li_RX6 lk_yX6_within ls_yX6_within 3 rfl hd_X6_within (by decide) (by decide) (Nat.le_of_ble_eq_true rfl) dX6_sure_29 (k_X6_within l D cy (wD cy a) S fu x2 (0 : Int32) (4 : Int32) _ hc_4) (fun H locs hw => ?_)
      refine lv_if_eq (tgt := 44) hx hb dX6_sure_32 (by decide) (fun c_6 => ?_) (fun c_6 => ?_)
      · have h := if_at_t c_6 h
        refine lv_bipush (v := -102) hx hb dX6_sure_44 (by decide) ?_
        exact rtI hC hr hk hw (so_at2 h).1 (so_at2 h).2 dX6_sure_46
      · have h := if_at_f c_6 h
        refine lv_iload_n hx hb dX6_sure_35 rfl (lv_at hl 4 rfl) ?_
        refine lv_iconst (v := 0) hx hb dX6_sure_36 (by decide) ?_
        refine lv_iconst (v := 1) hx hb dX6_sure_37 (by decide) ?_
        obtain ⟨v_8, hc_7, h⟩ := bd_at h
        refine caSI (As := [.int x3, .int (0 : Int32), .int (1 : Int32)]) (rest := []) hC hw hl.1 lm_RX6_83 li_RX6 lk_yX6_within ls_yX6_within 3 rfl hd_X6_within (by decide) (by decide) (Nat.le_of_ble_eq_true rfl) dX6_sure_38 (k_X6_within l D cy (wD cy a) S fu x3 (0 : Int32) (1 : Int32) _ hc_7) (fun H locs hw => ?_)
        refine lv_if_ne (tgt := 47) hx hb dX6_sure_41 (by decide) (fun c_9 => ?_) (fun c_9 => ?_)
        · have h := if_at_f c_9 h
          refine lv_aload_n hx hb dX6_sure_47 rfl (lv_at hl 1 rfl) ?_
          refine gf (v := .ref (a 3)) hC hw in_X6 0 4 1 (cD_0 cy a S) rfl (by decide) lf_RX6_19 rfl rfl dX6_sure_48 ?_
          obtain ⟨v_11, hc_10, h⟩ := bd_at h
          refine caVI (As := []) (rest := []) hC hw hl.1 lm_RX6_105 li_RX3 lk_yX3_stands li_yX3_stands ll_yX3_stands 3 2 (cD_3 cy a S) rfl 0 rfl hd_X3_stands (by decide) (by decide) (Nat.le_of_ble_eq_true rfl) dX6_sure_51 (k_X3_stands l D cy a fu S _ hc_10) (fun H locs hw => ?_)
          refine lv_if_eq (tgt := 66) hx hb dX6_sure_54 (by decide) (fun c_12 => ?_) (fun c_12 => ?_)
          · have h := if_at_t c_12 h
            refine lv_bipush (v := -103) hx hb dX6_sure_66 (by decide) ?_
            exact rtI hC hr hk hw (so_at2 h).1 (so_at2 h).2 dX6_sure_68
          · have h := if_at_f c_12 h
            refine lv_aload_n hx hb dX6_sure_57 rfl (lv_at hl 1 rfl) ?_
            refine gf (v := .int (stI S 2)) hC hw in_X6 0 4 7 (cD_0 cy a S) rfl (by decide) lf_RX6_182 rfl rfl dX6_sure_58 ?_
            refine lv_bipush (v := 30) hx hb dX6_sure_61 (by decide) ?_
            refine lv_icmp_lt (tgt := 69) hx hb dX6_sure_63 (by decide) (fun c_13 => ?_) (fun c_13 => ?_)
            · have h := if_at_t c_13 h
              refine lv_aload_n hx hb dX6_sure_69 rfl (lv_at hl 1 rfl) ?_
              refine lv_dup hx hb dX6_sure_70 rfl ?_
              refine gf (v := .int (stI S 2)) hC hw in_X6 0 4 7 (cD_0 cy a S) rfl (by decide) lf_RX6_182 rfl rfl dX6_sure_71 ?_
              refine lv_iconst (v := 1) hx hb dX6_sure_74 (by decide) ?_
              refine lv_iadd hx hb dX6_sure_75 ?_
              refine pf (ty := .int) (v := .int (((stI S 2) + (1 : Int32)))) hC hw in_X6 tyX6_ok nmX6 0 4 7 (cD_0 cy a S) rfl (by decide) lf_RX6_182 rfl rfl (by decide +kernel) rfl rfl (Nat.le_of_ble_eq_true rfl) (sD_0_7 cy a S (((stI S 2) + (1 : Int32)))) dX6_sure_76 (fun H locs hw => ?_)
              obtain ⟨S_14, hw, h⟩ := nmw (P := fun z => InW D (wD cy a) A s.heap H locs z) hw h
              refine lv_aload_n hx hb dX6_sure_79 rfl (lv_at hl 1 rfl) ?_
              refine gf (v := .ref (a 13)) hC hw in_X6 0 4 4 (cD_0 cy a S_14) rfl (by decide) lf_RX6_40 rfl rfl dX6_sure_80 ?_
              refine lv_iload_n hx hb dX6_sure_83 rfl (lv_at hl 2 rfl) ?_
              refine lv_iload_n hx hb dX6_sure_84 rfl (lv_at hl 3 rfl) ?_
              obtain ⟨v_16, hc_15, h⟩ := bd_at h
              refine caVI (As := [.int x1, .int x2]) (rest := []) hC hw hl.1 lm_RX6_185 li_RX1 lk_yX1_fewestSure li_yX1_fewestSure ll_yX1_fewestSure 13 1 (cD_13 cy a S_14) rfl 2 rfl hd_X1_fewestSure (by decide) (by decide) (Nat.le_of_ble_eq_true rfl) dX6_sure_85 (k_X1_fewestSure l D cy a fu x1 x2 S_14 _ hc_15) (fun H locs hw => ?_)
              refine lv_istore (lv' := [(5, .int v_16), (4, .int v_1), (0, .ref (a 0)), (1, .int x1), (2, .int x2), (3, .int x3)]) hx hb dX6_sure_88 hl (by decide) rfl (fun ls hl => ?_)
              refine lv_iload hx hb dX6_sure_90 (lv_at hl 0 rfl) ?_
              refine lv_iconst (v := -1) hx hb dX6_sure_92 (by decide) ?_
              refine lv_icmp_ne (tgt := 98) hx hb dX6_sure_93 (by decide) (fun c_17 => ?_) (fun c_17 => ?_)
              · have h := if_at_f c_17 h
                refine lv_iload_n hx hb dX6_sure_98 rfl (lv_at hl 5 rfl) ?_
                refine lv_if_ne (tgt := 110) hx hb dX6_sure_99 (by decide) (fun c_18 => ?_) (fun c_18 => ?_)
                · have h := if_at_f c_18 h
                  refine lv_iload hx hb dX6_sure_110 (lv_at hl 0 rfl) ?_
                  exact rtI hC hr hk hw (so_at2 h).1 (so_at2 h).2 dX6_sure_112
                · have h := if_at_t c_18 h
                  refine lv_iload hx hb dX6_sure_102 (lv_at hl 0 rfl) ?_
                  obtain ⟨v_20, hc_19, h⟩ := bd_at h
                  refine caSI (As := [.int v_16]) (rest := []) hC hw hl.1 lm_RX6_152 li_RJ6 lk_yJ6_bitCount_0f7a4 ls_yJ6_bitCount_0f7a4 1 rfl hd_J6_bitCount_0f7a4 (by decide) (by decide) (Nat.le_of_ble_eq_true rfl) dX6_sure_104 (k_J6_bitCount_0f7a4 l D cy (wD cy a) S_14 fu v_16 _ hc_19) (fun H locs hw => ?_)
                  refine lv_goto (tgt := 112) hx hb dX6_sure_107 (by decide) ?_
                  exact rtI hC hr hk hw (so_at2 h).1 (so_at2 h).2 dX6_sure_112
              · have h := if_at_t c_17 h
                refine lv_iconst (v := -1) hx hb dX6_sure_96 (by decide) ?_
                exact rtI hC hr hk hw (so_at2 h).1 (so_at2 h).2 dX6_sure_97
            · have h := if_at_f c_13 h
              refine lv_bipush (v := -103) hx hb dX6_sure_66 (by decide) ?_
              exact rtI hC hr hk hw (so_at2 h).1 (so_at2 h).2 dX6_sure_68
        · have h := if_at_t c_9 h
          refine lv_bipush (v := -102) hx hb dX6_sure_44 (by decide) ?_
          exact rtI hC hr hk hw (so_at2 h).1 (so_at2 h).2 dX6_sure_46
  · intro j_2 hj_2 h
    refine jn0_ok (∀ (H : Heap) (locs : List Loc) (ls : Array Slot), InW D (wD cy a) A s.heap H locs S → lv_has ls 6 [(0, .ref (a 0)), (1, .int x1), (2, .int x2), (3, .int x3)] → W p l e (rmN 12) s m args below meth c H locs 0 0 (QI below args s D (wD cy a) A r S') (F0 m 14 ls [])) ?_ ?_ h
    · intro h H locs ls hw hl
      refine lv_iconst (v := 1) hx hb dX6_sure_14 (by decide) ?_
      refine lv_goto (tgt := 19) hx hb dX6_sure_15 (by decide) ?_
      exact hj_2 (1 : Int32) h H locs ls hw (lv_sub hl [0, 1, 2, 3] rfl)
    · intro j_21 hj_21 h
      refine lv_if_eq (tgt := 14) hx hb dX6_sure_1 (by decide) (fun c_22 => ?_) (fun c_22 => ?_)
      · have h := if_at_t c_22 h
        exact hj_21 h H locs ls hw (lv_sub hl [0, 1, 2, 3] rfl)
      · have h := if_at_f c_22 h
        refine lv_iload_n hx hb dX6_sure_4 rfl (lv_at hl 1 rfl) ?_
        refine lv_iconst (v := 3) hx hb dX6_sure_5 (by decide) ?_
        refine lv_icmp_eq (tgt := 14) hx hb dX6_sure_6 (by decide) (fun c_23 => ?_) (fun c_23 => ?_)
        · have h := if_at_t c_23 h
          exact hj_21 h H locs ls hw (lv_sub hl [0, 1, 2, 3] rfl)
        · have h := if_at_f c_23 h
          refine lv_iload_n hx hb dX6_sure_9 rfl (lv_at hl 1 rfl) ?_
          refine lv_iconst (v := 4) hx hb dX6_sure_10 (by decide) ?_
          refine lv_icmp_ne (tgt := 18) hx hb dX6_sure_11 (by decide) (fun c_24 => ?_) (fun c_24 => ?_)
          · have h := if_at_f c_24 h
            refine lv_iconst (v := 0) hx hb dX6_sure_18 (by decide) ?_
            exact hj_2 (0 : Int32) h H locs ls hw (lv_sub hl [0, 1, 2, 3] rfl)
          · have h := if_at_t c_24 h
            exact hj_21 h H locs ls hw (lv_sub hl [0, 1, 2, 3] rfl)
def m_X6_nowhere (fu : Nat) (S : ST) : Option Int32 :=
  bd (m_X0_pointingNowhere fu S) (fun v_2 => some v_2)
set_option maxRecDepth 100000 in
set_option maxHeartbeats 4000000 in
theorem k_X6_nowhere (l : Launch) (D : va_G) (cy : ClassId) (a : Nat → Nat) (fu : Nat) (S : ST) (r : Int32) (h : m_X6_nowhere fu S = some r) : CtI l yX6_nowhere cX6_nowhere 1 (some .int) 3 [.ref (a 0)] D cy (wD cy a) S r S := by
  refine CtI_of (by decide) (Nat.le_of_ble_eq_true rfl) ?_
  intro p e s m args below meth c A ls hC hr hk hw hl
  have hC : Cx p s m c RX6 cX6_nowhere 1 args D cy := hC
  have hx := hC.1
  have hb := hC.2.1
  have hl : lv_has ls 1 [(0, .ref (a 0))] := hl
  obtain ⟨H, eH⟩ : ∃ z : Heap, z = s.heap := ⟨_, rfl⟩
  obtain ⟨locs, elocs⟩ : ∃ z : List Loc, z = [] := ⟨_, rfl⟩
  have hw : InW D (wD cy a) A s.heap H locs S := by rw [eH, elocs]; exact hw
  suffices hsu : W p l e (rmN 3) s m args below meth c H locs 0 0 (QI below args s D (wD cy a) A r S) (F0 m 0 ls []) by rw [eH, elocs] at hsu; exact hsu
  unfold m_X6_nowhere at h
  refine lv_aload_n hx hb dX6_nowhere_0 rfl (lv_at hl 0 rfl) ?_
  refine gf (v := .ref (a 5)) hC hw in_X6 0 4 2 (cD_0 cy a S) rfl (by decide) lf_RX6_28 rfl rfl dX6_nowhere_1 ?_
  obtain ⟨v_2, hc_1, h⟩ := bd_at h
  refine caVI (As := []) (rest := []) hC hw hl.1 lm_RX6_188 li_RX0 lk_yX0_pointingNowhere li_yX0_pointingNowhere ll_yX0_pointingNowhere 5 0 (cD_5 cy a S) rfl 0 rfl hd_X0_pointingNowhere (by decide) (by decide) (Nat.le_of_ble_eq_true rfl) dX6_nowhere_4 (k_X0_pointingNowhere l D cy a fu S _ hc_1) (fun H locs hw => ?_)
  exact rtI hC hr hk hw (so_at h) rfl dX6_nowhere_7
def m_X6_moving (fu : Nat) (x1 : Int32) (S : ST) : Option (Int32 × ST) :=
  bd (m_X6_within fu x1 (1 : Int32) (9 : Int32)) (fun v_2 => (if v_2 = (0 : Int32) then some ((-102 : Int32), S) else bd (m_X3_stands fu S) (fun v_5 => (if v_5 = (0 : Int32) then some ((-103 : Int32), S) else (if (stI S 3) < (10 : Int32) then nm (puI S 3 (((stI S 3) + (1 : Int32)))) (fun S_8 => bd (m_X1_fewestRenamings fu x1 S_8) (fun v_10 => some (v_10, S_8))) else some ((-103 : Int32), S))))))
set_option maxRecDepth 100000 in
set_option maxHeartbeats 4000000 in
theorem k_X6_moving (l : Launch) (D : va_G) (cy : ClassId) (a : Nat → Nat) (fu : Nat) (x1 : Int32) (S : ST) (r : Int32) (S' : ST) (h : m_X6_moving fu x1 S = some (r, S')) : CtI l yX6_moving cX6_moving 2 (some .int) 3 [.ref (a 0), .int x1] D cy (wD cy a) S r S' := by
  refine CtI_of (by decide) (Nat.le_of_ble_eq_true rfl) ?_
  intro p e s m args below meth c A ls hC hr hk hw hl
  have hC : Cx p s m c RX6 cX6_moving 2 args D cy := hC
  have hx := hC.1
  have hb := hC.2.1
  have hl : lv_has ls 2 [(0, .ref (a 0)), (1, .int x1)] := hl
  obtain ⟨H, eH⟩ : ∃ z : Heap, z = s.heap := ⟨_, rfl⟩
  obtain ⟨locs, elocs⟩ : ∃ z : List Loc, z = [] := ⟨_, rfl⟩
  have hw : InW D (wD cy a) A s.heap H locs S := by rw [eH, elocs]; exact hw
  suffices hsu : W p l e (rmN 3) s m args below meth c H locs 0 0 (QI below args s D (wD cy a) A r S') (F0 m 0 ls []) by rw [eH, elocs] at hsu; exact hsu
  unfold m_X6_moving at h
  refine lv_iload_n hx hb dX6_moving_0 rfl (lv_at hl 1 rfl) ?_
  refine lv_iconst (v := 1) hx hb dX6_moving_1 (by decide) ?_
  refine lv_bipush (v := 9) hx hb dX6_moving_2 (by decide) ?_
  obtain ⟨v_2, hc_1, h⟩ := bd_at h
  refine caSI (As := [.int x1, .int (1 : Int32), .int (9 : Int32)]) (rest := []) hC hw hl.1 lm_RX6_83 li_RX6 lk_yX6_within ls_yX6_within 3 rfl hd_X6_within (by decide) (by decide) (Nat.le_of_ble_eq_true rfl) dX6_moving_4 (k_X6_within l D cy (wD cy a) S fu x1 (1 : Int32) (9 : Int32) _ hc_1) (fun H locs hw => ?_)
  refine lv_if_ne (tgt := 13) hx hb dX6_moving_7 (by decide) (fun c_3 => ?_) (fun c_3 => ?_)
  · have h := if_at_f c_3 h
    refine lv_aload_n hx hb dX6_moving_13 rfl (lv_at hl 0 rfl) ?_
    refine gf (v := .ref (a 3)) hC hw in_X6 0 4 1 (cD_0 cy a S) rfl (by decide) lf_RX6_19 rfl rfl dX6_moving_14 ?_
    obtain ⟨v_5, hc_4, h⟩ := bd_at h
    refine caVI (As := []) (rest := []) hC hw hl.1 lm_RX6_105 li_RX3 lk_yX3_stands li_yX3_stands ll_yX3_stands 3 2 (cD_3 cy a S) rfl 0 rfl hd_X3_stands (by decide) (by decide) (Nat.le_of_ble_eq_true rfl) dX6_moving_17 (k_X3_stands l D cy a fu S _ hc_4) (fun H locs hw => ?_)
    refine lv_if_eq (tgt := 32) hx hb dX6_moving_20 (by decide) (fun c_6 => ?_) (fun c_6 => ?_)
    · have h := if_at_t c_6 h
      refine lv_bipush (v := -103) hx hb dX6_moving_32 (by decide) ?_
      exact rtI hC hr hk hw (so_at2 h).1 (so_at2 h).2 dX6_moving_34
    · have h := if_at_f c_6 h
      refine lv_aload_n hx hb dX6_moving_23 rfl (lv_at hl 0 rfl) ?_
      refine gf (v := .int (stI S 3)) hC hw in_X6 0 4 8 (cD_0 cy a S) rfl (by decide) lf_RX6_191 rfl rfl dX6_moving_24 ?_
      refine lv_bipush (v := 10) hx hb dX6_moving_27 (by decide) ?_
      refine lv_icmp_lt (tgt := 35) hx hb dX6_moving_29 (by decide) (fun c_7 => ?_) (fun c_7 => ?_)
      · have h := if_at_t c_7 h
        refine lv_aload_n hx hb dX6_moving_35 rfl (lv_at hl 0 rfl) ?_
        refine lv_dup hx hb dX6_moving_36 rfl ?_
        refine gf (v := .int (stI S 3)) hC hw in_X6 0 4 8 (cD_0 cy a S) rfl (by decide) lf_RX6_191 rfl rfl dX6_moving_37 ?_
        refine lv_iconst (v := 1) hx hb dX6_moving_40 (by decide) ?_
        refine lv_iadd hx hb dX6_moving_41 ?_
        refine pf (ty := .int) (v := .int (((stI S 3) + (1 : Int32)))) hC hw in_X6 tyX6_ok nmX6 0 4 8 (cD_0 cy a S) rfl (by decide) lf_RX6_191 rfl rfl (by decide +kernel) rfl rfl (Nat.le_of_ble_eq_true rfl) (sD_0_8 cy a S (((stI S 3) + (1 : Int32)))) dX6_moving_42 (fun H locs hw => ?_)
        obtain ⟨S_8, hw, h⟩ := nmw (P := fun z => InW D (wD cy a) A s.heap H locs z) hw h
        refine lv_aload_n hx hb dX6_moving_45 rfl (lv_at hl 0 rfl) ?_
        refine gf (v := .ref (a 13)) hC hw in_X6 0 4 4 (cD_0 cy a S_8) rfl (by decide) lf_RX6_40 rfl rfl dX6_moving_46 ?_
        refine lv_iload_n hx hb dX6_moving_49 rfl (lv_at hl 1 rfl) ?_
        obtain ⟨v_10, hc_9, h⟩ := bd_at h
        refine caVI (As := [.int x1]) (rest := []) hC hw hl.1 lm_RX6_194 li_RX1 lk_yX1_fewestRenamings li_yX1_fewestRenamings ll_yX1_fewestRenamings 13 1 (cD_13 cy a S_8) rfl 1 rfl hd_X1_fewestRenamings (by decide) (by decide) (Nat.le_of_ble_eq_true rfl) dX6_moving_50 (k_X1_fewestRenamings l D cy a fu x1 S_8 _ hc_9) (fun H locs hw => ?_)
        exact rtI hC hr hk hw (so_at2 h).1 (so_at2 h).2 dX6_moving_53
      · have h := if_at_f c_7 h
        refine lv_bipush (v := -103) hx hb dX6_moving_32 (by decide) ?_
        exact rtI hC hr hk hw (so_at2 h).1 (so_at2 h).2 dX6_moving_34
  · have h := if_at_t c_3 h
    refine lv_bipush (v := -102) hx hb dX6_moving_10 (by decide) ?_
    exact rtI hC hr hk hw (so_at2 h).1 (so_at2 h).2 dX6_moving_12
def m_X6_ashes (fu : Nat) (x1 : Int32) (S : ST) : Option (Int32 × ST) :=
  (if x1 < (-1 : Int32) then some ((-102 : Int32), S) else (if x1 < ((1 : Int32) <<< ((stI S 6) &&& (31 : Int32))) then (if (stI S 8) < (5 : Int32) then bd2 (m_X0_addAshes fu x1 S) (fun v_5 S_6 => some (v_5, S_6)) else some ((-104 : Int32), S)) else some ((-102 : Int32), S)))
set_option maxRecDepth 100000 in
set_option maxHeartbeats 4000000 in
theorem k_X6_ashes (l : Launch) (D : va_G) (cy : ClassId) (a : Nat → Nat) (fu : Nat) (x1 : Int32) (S : ST) (r : Int32) (S' : ST) (h : m_X6_ashes fu x1 S = some (r, S')) : CtI l yX6_ashes cX6_ashes 2 (some .int) 1 [.ref (a 0), .int x1] D cy (wD cy a) S r S' := by
  refine CtI_of (by decide) (Nat.le_of_ble_eq_true rfl) ?_
  intro p e s m args below meth c A ls hC hr hk hw hl
  have hC : Cx p s m c RX6 cX6_ashes 2 args D cy := hC
  have hx := hC.1
  have hb := hC.2.1
  have hl : lv_has ls 2 [(0, .ref (a 0)), (1, .int x1)] := hl
  obtain ⟨H, eH⟩ : ∃ z : Heap, z = s.heap := ⟨_, rfl⟩
  obtain ⟨locs, elocs⟩ : ∃ z : List Loc, z = [] := ⟨_, rfl⟩
  have hw : InW D (wD cy a) A s.heap H locs S := by rw [eH, elocs]; exact hw
  suffices hsu : W p l e (rmN 1) s m args below meth c H locs 0 0 (QI below args s D (wD cy a) A r S') (F0 m 0 ls []) by rw [eH, elocs] at hsu; exact hsu
  unfold m_X6_ashes at h
  refine lv_iload_n hx hb dX6_ashes_0 rfl (lv_at hl 1 rfl) ?_
  refine lv_iconst (v := -1) hx hb dX6_ashes_1 (by decide) ?_
  refine lv_icmp_lt (tgt := 18) hx hb dX6_ashes_2 (by decide) (fun c_1 => ?_) (fun c_1 => ?_)
  · have h := if_at_t c_1 h
    refine lv_bipush (v := -102) hx hb dX6_ashes_18 (by decide) ?_
    exact rtI hC hr hk hw (so_at2 h).1 (so_at2 h).2 dX6_ashes_20
  · have h := if_at_f c_1 h
    refine lv_iload_n hx hb dX6_ashes_5 rfl (lv_at hl 1 rfl) ?_
    refine lv_iconst (v := 1) hx hb dX6_ashes_6 (by decide) ?_
    refine lv_aload_n hx hb dX6_ashes_7 rfl (lv_at hl 0 rfl) ?_
    refine gf (v := .ref (a 5)) hC hw in_X6 0 4 2 (cD_0 cy a S) rfl (by decide) lf_RX6_28 rfl rfl dX6_ashes_8 ?_
    refine gfN (v := .int (stI S 6)) hC hw in_X0 5 0 4 (cD_5 cy a S) rfl (by decide) lf_RX6_112 rfl rfl dX6_ashes_11 ?_
    refine lv_ishl hx hb dX6_ashes_14 ?_
    refine lv_icmp_lt (tgt := 21) hx hb dX6_ashes_15 (by decide) (fun c_2 => ?_) (fun c_2 => ?_)
    · have h := if_at_t c_2 h
      refine lv_aload_n hx hb dX6_ashes_21 rfl (lv_at hl 0 rfl) ?_
      refine gf (v := .ref (a 5)) hC hw in_X6 0 4 2 (cD_0 cy a S) rfl (by decide) lf_RX6_28 rfl rfl dX6_ashes_22 ?_
      refine gfN (v := .int (stI S 8)) hC hw in_X0 5 0 7 (cD_5 cy a S) rfl (by decide) lf_RX6_197 rfl rfl dX6_ashes_25 ?_
      refine lv_iconst (v := 5) hx hb dX6_ashes_28 (by decide) ?_
      refine lv_icmp_lt (tgt := 35) hx hb dX6_ashes_29 (by decide) (fun c_3 => ?_) (fun c_3 => ?_)
      · have h := if_at_t c_3 h
        refine lv_aload_n hx hb dX6_ashes_35 rfl (lv_at hl 0 rfl) ?_
        refine gf (v := .ref (a 5)) hC hw in_X6 0 4 2 (cD_0 cy a S) rfl (by decide) lf_RX6_28 rfl rfl dX6_ashes_36 ?_
        refine lv_iload_n hx hb dX6_ashes_39 rfl (lv_at hl 1 rfl) ?_
        obtain ⟨v_5, S_6, hc_4, h⟩ := bd2_at h
        refine caVI (As := [.int x1]) (rest := []) hC hw hl.1 lm_RX6_200 li_RX0 lk_yX0_addAshes li_yX0_addAshes ll_yX0_addAshes 5 0 (cD_5 cy a S) rfl 1 rfl hd_X0_addAshes (by decide) (by decide) (Nat.le_of_ble_eq_true rfl) dX6_ashes_40 (k_X0_addAshes l D cy a fu x1 S _ _ hc_4) (fun H locs hw => ?_)
        exact rtI hC hr hk hw (so_at2 h).1 (so_at2 h).2 dX6_ashes_43
      · have h := if_at_f c_3 h
        refine lv_bipush (v := -104) hx hb dX6_ashes_32 (by decide) ?_
        exact rtI hC hr hk hw (so_at2 h).1 (so_at2 h).2 dX6_ashes_34
    · have h := if_at_f c_2 h
      refine lv_bipush (v := -102) hx hb dX6_ashes_18 (by decide) ?_
      exact rtI hC hr hk hw (so_at2 h).1 (so_at2 h).2 dX6_ashes_20
