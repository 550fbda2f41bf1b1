def m_X6_forget (fu : Nat) (S : ST) : Option (Int32 × ST) :=
  bd2 (m_X0_clearAshes fu S) (fun v_2 S_3 => some (v_2, S_3))
set_option maxRecDepth 100000 in
set_option maxHeartbeats 4000000 in
theorem k_X6_forget (l : Launch) (D : va_G) (cy : ClassId) (a : Nat → Nat) (fu : Nat) (S : ST) (r : Int32) (S' : ST) (h : m_X6_forget fu S = some (r, S')) : CtI l yX6_forget cX6_forget 1 (some .int) 1 [.ref (a 0)] D cy (wD cy a) S r S' := by
  refine CtI_of (by decide) (Nat.le_of_ble_eq_true rfl) ?_
  intro p e s m args below meth c A ls hC hr hk hw hl
  have hC : Cx p s m c RX6 cX6_forget 1 args D cy := hC
  have hx := hC.1
  have hb := hC.2.1
  have hl : lv_has ls 1 [(0, .ref (a 0))] := hl
  obtain ⟨H, eH⟩ : ∃ z : Heap, z = s.heap := ⟨_, rfl⟩
  obtain ⟨locs, elocs⟩ : ∃ z : List Loc, z = [] := ⟨_, rfl⟩
  have hw : InW D (wD cy a) A s.heap H locs S := by rw [eH, elocs]; exact hw
  suffices hsu : W p l e (rmN 1) s m args below meth c H locs 0 0 (QI below args s D (wD cy a) A r S') (F0 m 0 ls []) by rw [eH, elocs] at hsu; exact hsu
  unfold m_X6_forget at h
  refine lv_aload_n hx hb dX6_forget_0 rfl (lv_at hl 0 rfl) ?_
  refine gf (v := .ref (a 5)) hC hw in_X6 0 4 2 (cD_0 cy a S) rfl (by decide) lf_RX6_28 rfl rfl dX6_forget_1 ?_
  obtain ⟨v_2, S_3, hc_1, h⟩ := bd2_at h
  refine caVI (As := []) (rest := []) hC hw hl.1 lm_RX6_203 li_RX0 lk_yX0_clearAshes li_yX0_clearAshes ll_yX0_clearAshes 5 0 (cD_5 cy a S) rfl 0 rfl hd_X0_clearAshes (by decide) (by decide) (Nat.le_of_ble_eq_true rfl) dX6_forget_4 (k_X0_clearAshes l D cy a fu S _ _ hc_1) (fun H locs hw => ?_)
  exact rtI hC hr hk hw (so_at2 h).1 (so_at2 h).2 dX6_forget_7
def m_X6_fits (fu : Nat) (S : ST) : Option Int32 :=
  bd (m_X3_stands fu S) (fun v_2 => (if v_2 = (0 : Int32) then some (-103 : Int32) else bd (m_X1_rowsThatFit fu S) (fun v_5 => some v_5)))
set_option maxRecDepth 100000 in
set_option maxHeartbeats 4000000 in
theorem k_X6_fits (l : Launch) (D : va_G) (cy : ClassId) (a : Nat → Nat) (fu : Nat) (S : ST) (r : Int32) (h : m_X6_fits fu S = some r) : CtI l yX6_fits cX6_fits 1 (some .int) 14 [.ref (a 0)] D cy (wD cy a) S r S := by
  refine CtI_of (by decide) (Nat.le_of_ble_eq_true rfl) ?_
  intro p e s m args below meth c A ls hC hr hk hw hl
  have hC : Cx p s m c RX6 cX6_fits 1 args D cy := hC
  have hx := hC.1
  have hb := hC.2.1
  have hl : lv_has ls 1 [(0, .ref (a 0))] := hl
  obtain ⟨H, eH⟩ : ∃ z : Heap, z = s.heap := ⟨_, rfl⟩
  obtain ⟨locs, elocs⟩ : ∃ z : List Loc, z = [] := ⟨_, rfl⟩
  have hw : InW D (wD cy a) A s.heap H locs S := by rw [eH, elocs]; exact hw
  suffices hsu : W p l e (rmN 14) s m args below meth c H locs 0 0 (QI below args s D (wD cy a) A r S) (F0 m 0 ls []) by rw [eH, elocs] at hsu; exact hsu
  unfold m_X6_fits at h
  refine lv_aload_n hx hb dX6_fits_0 rfl (lv_at hl 0 rfl) ?_
  refine gf (v := .ref (a 3)) hC hw in_X6 0 4 1 (cD_0 cy a S) rfl (by decide) lf_RX6_19 rfl rfl dX6_fits_1 ?_
  obtain ⟨v_2, hc_1, h⟩ := bd_at h
  refine caVI (As := []) (rest := []) hC hw hl.1 lm_RX6_105 li_RX3 lk_yX3_stands li_yX3_stands ll_yX3_stands 3 2 (cD_3 cy a S) rfl 0 rfl hd_X3_stands (by decide) (by decide) (Nat.le_of_ble_eq_true rfl) dX6_fits_4 (k_X3_stands l D cy a fu S _ hc_1) (fun H locs hw => ?_)
  refine lv_if_ne (tgt := 13) hx hb dX6_fits_7 (by decide) (fun c_3 => ?_) (fun c_3 => ?_)
  · have h := if_at_f c_3 h
    refine lv_aload_n hx hb dX6_fits_13 rfl (lv_at hl 0 rfl) ?_
    refine gf (v := .ref (a 13)) hC hw in_X6 0 4 4 (cD_0 cy a S) rfl (by decide) lf_RX6_40 rfl rfl dX6_fits_14 ?_
    obtain ⟨v_5, hc_4, h⟩ := bd_at h
    refine caVI (As := []) (rest := []) hC hw hl.1 lm_RX6_206 li_RX1 lk_yX1_rowsThatFit li_yX1_rowsThatFit ll_yX1_rowsThatFit 13 1 (cD_13 cy a S) rfl 0 rfl hd_X1_rowsThatFit (by decide) (by decide) (Nat.le_of_ble_eq_true rfl) dX6_fits_17 (k_X1_rowsThatFit l D cy a fu S _ hc_4) (fun H locs hw => ?_)
    exact rtI hC hr hk hw (so_at h) rfl dX6_fits_20
  · have h := if_at_t c_3 h
    refine lv_bipush (v := -103) hx hb dX6_fits_10 (by decide) ?_
    exact rtI hC hr hk hw (so_at h) rfl dX6_fits_12
def m_X6_burnt (fu : Nat) (x1 : Int32) (S : ST) : Option Int32 :=
  bd (m_X6_within fu x1 (0 : Int32) (((stI S 8) - (1 : Int32)))) (fun v_2 => (if v_2 = (0 : Int32) then some (-101 : Int32) else bd (m_X3_stands fu S) (fun v_5 => (if v_5 = (0 : Int32) then some (-103 : Int32) else bd (m_X1_onlyLetterIn fu x1 S) (fun v_8 => some v_8)))))
set_option maxRecDepth 100000 in
set_option maxHeartbeats 4000000 in
theorem k_X6_burnt (l : Launch) (D : va_G) (cy : ClassId) (a : Nat → Nat) (fu : Nat) (x1 : Int32) (S : ST) (r : Int32) (h : m_X6_burnt fu x1 S = some r) : CtI l yX6_burnt cX6_burnt 2 (some .int) 14 [.ref (a 0), .int x1] D cy (wD cy a) S r S := by
  refine CtI_of (by decide) (Nat.le_of_ble_eq_true rfl) ?_
  intro p e s m args below meth c A ls hC hr hk hw hl
  have hC : Cx p s m c RX6 cX6_burnt 2 args D cy := hC
  have hx := hC.1
  have hb := hC.2.1
  have hl : lv_has ls 2 [(0, .ref (a 0)), (1, .int x1)] := hl
  obtain ⟨H, eH⟩ : ∃ z : Heap, z = s.heap := ⟨_, rfl⟩
  obtain ⟨locs, elocs⟩ : ∃ z : List Loc, z = [] := ⟨_, rfl⟩
  have hw : InW D (wD cy a) A s.heap H locs S := by rw [eH, elocs]; exact hw
  suffices hsu : W p l e (rmN 14) s m args below meth c H locs 0 0 (QI below args s D (wD cy a) A r S) (F0 m 0 ls []) by rw [eH, elocs] at hsu; exact hsu
  unfold m_X6_burnt at h
  refine lv_iload_n hx hb dX6_burnt_0 rfl (lv_at hl 1 rfl) ?_
  refine lv_iconst (v := 0) hx hb dX6_burnt_1 (by decide) ?_
  refine lv_aload_n hx hb dX6_burnt_2 rfl (lv_at hl 0 rfl) ?_
  refine gf (v := .ref (a 5)) hC hw in_X6 0 4 2 (cD_0 cy a S) rfl (by decide) lf_RX6_28 rfl rfl dX6_burnt_3 ?_
  refine gfN (v := .int (stI S 8)) hC hw in_X0 5 0 7 (cD_5 cy a S) rfl (by decide) lf_RX6_197 rfl rfl dX6_burnt_6 ?_
  refine lv_iconst (v := 1) hx hb dX6_burnt_9 (by decide) ?_
  refine lv_isub hx hb dX6_burnt_10 ?_
  obtain ⟨v_2, hc_1, h⟩ := bd_at h
  refine caSI (As := [.int x1, .int (0 : Int32), .int ((stI S 8) - (1 : Int32))]) (rest := []) hC hw hl.1 lm_RX6_83 li_RX6 lk_yX6_within ls_yX6_within 3 rfl hd_X6_within (by decide) (by decide) (Nat.le_of_ble_eq_true rfl) dX6_burnt_11 (k_X6_within l D cy (wD cy a) S fu x1 (0 : Int32) (((stI S 8) - (1 : Int32))) _ hc_1) (fun H locs hw => ?_)
  refine lv_if_ne (tgt := 20) hx hb dX6_burnt_14 (by decide) (fun c_3 => ?_) (fun c_3 => ?_)
  · have h := if_at_f c_3 h
    refine lv_aload_n hx hb dX6_burnt_20 rfl (lv_at hl 0 rfl) ?_
    refine gf (v := .ref (a 3)) hC hw in_X6 0 4 1 (cD_0 cy a S) rfl (by decide) lf_RX6_19 rfl rfl dX6_burnt_21 ?_
    obtain ⟨v_5, hc_4, h⟩ := bd_at h
    refine caVI (As := []) (rest := []) hC hw hl.1 lm_RX6_105 li_RX3 lk_yX3_stands li_yX3_stands ll_yX3_stands 3 2 (cD_3 cy a S) rfl 0 rfl hd_X3_stands (by decide) (by decide) (Nat.le_of_ble_eq_true rfl) dX6_burnt_24 (k_X3_stands l D cy a fu S _ hc_4) (fun H locs hw => ?_)
    refine lv_if_ne (tgt := 33) hx hb dX6_burnt_27 (by decide) (fun c_6 => ?_) (fun c_6 => ?_)
    · have h := if_at_f c_6 h
      refine lv_aload_n hx hb dX6_burnt_33 rfl (lv_at hl 0 rfl) ?_
      refine gf (v := .ref (a 13)) hC hw in_X6 0 4 4 (cD_0 cy a S) rfl (by decide) lf_RX6_40 rfl rfl dX6_burnt_34 ?_
      refine lv_iload_n hx hb dX6_burnt_37 rfl (lv_at hl 1 rfl) ?_
      obtain ⟨v_8, hc_7, h⟩ := bd_at h
      refine caVI (As := [.int x1]) (rest := []) hC hw hl.1 lm_RX6_209 li_RX1 lk_yX1_onlyLetterIn li_yX1_onlyLetterIn ll_yX1_onlyLetterIn 13 1 (cD_13 cy a S) rfl 1 rfl hd_X1_onlyLetterIn (by decide) (by decide) (Nat.le_of_ble_eq_true rfl) dX6_burnt_38 (k_X1_onlyLetterIn l D cy a fu x1 S _ hc_7) (fun H locs hw => ?_)
      exact rtI hC hr hk hw (so_at h) rfl dX6_burnt_41
    · have h := if_at_t c_6 h
      refine lv_bipush (v := -103) hx hb dX6_burnt_30 (by decide) ?_
      exact rtI hC hr hk hw (so_at h) rfl dX6_burnt_32
  · have h := if_at_t c_3 h
    refine lv_bipush (v := -101) hx hb dX6_burnt_17 (by decide) ?_
    exact rtI hC hr hk hw (so_at h) rfl dX6_burnt_19
def m_X6_years_L54 (fu : Nat) (x1 : Int32) (x3 : Int32) (S : ST) (j_14 : Int64 → Int32 → Option Int32) (ag_24 : Int64 → Int32 → Int32 → Option Int32) (x4_21 : Int64) (x6_22 : Int32) (x7_23 : Int32) : Option Int32 :=
  (if x1 ≤ x7_23 then j_14 x4_21 x6_22 else bd (m_X6_nextSeed fu x6_22) (fun v_27 => bd (m_X3_letterByDraw fu (((v_27 / (65536 : Int32)) - (v_27 / (65536 : Int32)) / (10 : Int32) * (10 : Int32))) S) (fun v_29 => bd (m_X0_burntDown fu x4_21 v_29 S) (fun v_31 => bd (m_X0_rumoursGrown fu v_31 S) (fun v_33 => nm (x7_23 + (1 : Int32)) (fun x7_34 => ag_24 v_33 v_27 x7_34))))))
def m_X6_years (fu : Nat) (x1 : Int32) (x2 : Int32) (x3 : Int32) (S : ST) : Option Int32 :=
  bd (m_X6_within fu x1 (1 : Int32) (60 : Int32)) (fun v_2 => (if v_2 = (0 : Int32) then some (-102 : Int32) else (if x2 < (0 : Int32) then some (-102 : Int32) else bd (m_X6_within fu x3 (0 : Int32) (2 : Int32)) (fun v_6 => (if v_6 = (0 : Int32) then some (-102 : Int32) else bd (m_X3_stands fu S) (fun v_9 => (if v_9 = (0 : Int32) then some (-103 : Int32) else nm ((stL S 0)) (fun x4_11 => jn2 (fun (x4_12 : Int64) (x6_13 : Int32) => (if x3 = (0 : Int32) then bd (m_X5_living fu x4_12) (fun v_20 => some v_20) else (if x3 = (1 : Int32) then bd (m_X5_allLeaves fu x4_12) (fun v_18 => some v_18) else some x6_13))) (fun j_14 => lq3 (m_X6_years_L54 fu x1 x3 S j_14) fu x4_11 x2 (0 : Int32))))))))))
set_option maxRecDepth 100000 in
set_option maxHeartbeats 4000000 in
theorem k_X6_years (l : Launch) (D : va_G) (cy : ClassId) (a : Nat → Nat) (fu : Nat) (x1 : Int32) (x2 : Int32) (x3 : Int32) (S : ST) (r : Int32) (h : m_X6_years fu x1 x2 x3 S = some r) : CtI l yX6_years cX6_years 9 (some .int) 4 [.ref (a 0), .int x1, .int x2, .int x3] D cy (wD cy a) S r S := by
  refine CtI_of (by decide) (Nat.le_of_ble_eq_true rfl) ?_
  intro p e s m args below meth c A ls hC hr hk hw hl
  have hC : Cx p s m c RX6 cX6_years 9 args D cy := hC
  have hx := hC.1
  have hb := hC.2.1
  have hl : lv_has ls 9 [(0, .ref (a 0)), (1, .int x1), (2, .int x2), (3, .int x3)] := hl
  obtain ⟨H, eH⟩ : ∃ z : Heap, z = s.heap := ⟨_, rfl⟩
  obtain ⟨locs, elocs⟩ : ∃ z : List Loc, z = [] := ⟨_, rfl⟩
  have hw : InW D (wD cy a) A s.heap H locs S := by rw [eH, elocs]; exact hw
  suffices hsu : W p l e (rmN 4) s m args below meth c H locs 0 0 (QI below args s D (wD cy a) A r S) (F0 m 0 ls []) by rw [eH, elocs] at hsu; exact hsu
  unfold m_X6_years at h
  refine lv_iload_n hx hb dX6_years_0 rfl (lv_at hl 1 rfl) ?_
  refine lv_iconst (v := 1) hx hb dX6_years_1 (by decide) ?_
  refine lv_bipush (v := 60) hx hb dX6_years_2 (by decide) ?_
  obtain ⟨v_2, hc_1, h⟩ := bd_at h
  refine caSI (As := [.int x1, .int (1 : Int32), .int (60 : Int32)]) (rest := []) hC hw hl.1 lm_RX6_83 li_RX6 lk_yX6_within ls_yX6_within 3 rfl hd_X6_within (by decide) (by decide) (Nat.le_of_ble_eq_true rfl) dX6_years_4 (k_X6_within l D cy (wD cy a) S fu x1 (1 : Int32) (60 : Int32) _ hc_1) (fun H locs hw => ?_)
  refine lv_if_eq (tgt := 23) hx hb dX6_years_7 (by decide) (fun c_3 => ?_) (fun c_3 => ?_)
  · have h := if_at_t c_3 h
    refine lv_bipush (v := -102) hx hb dX6_years_23 (by decide) ?_
    exact rtI hC hr hk hw (so_at h) rfl dX6_years_25
  · have h := if_at_f c_3 h
    refine lv_iload_n hx hb dX6_years_10 rfl (lv_at hl 2 rfl) ?_
    refine lv_if_lt (tgt := 23) hx hb dX6_years_11 (by decide) (fun c_4 => ?_) (fun c_4 => ?_)
    · have h := if_at_t c_4 h
      refine lv_bipush (v := -102) hx hb dX6_years_23 (by decide) ?_
      exact rtI hC hr hk hw (so_at h) rfl dX6_years_25
    · have h := if_at_f c_4 h
      refine lv_iload_n hx hb dX6_years_14 rfl (lv_at hl 3 rfl) ?_
      refine lv_iconst (v := 0) hx hb dX6_years_15 (by decide) ?_
      refine lv_iconst (v := 2) hx hb dX6_years_16 (by decide) ?_
      obtain ⟨v_6, hc_5, h⟩ := bd_at h
      refine caSI (As := [.int x3, .int (0 : Int32), .int (2 : Int32)]) (rest := []) hC hw hl.1 lm_RX6_83 li_RX6 lk_yX6_within ls_yX6_within 3 rfl hd_X6_within (by decide) (by decide) (Nat.le_of_ble_eq_true rfl) dX6_years_17 (k_X6_within l D cy (wD cy a) S fu x3 (0 : Int32) (2 : Int32) _ hc_5) (fun H locs hw => ?_)
      refine lv_if_ne (tgt := 26) hx hb dX6_years_20 (by decide) (fun c_7 => ?_) (fun c_7 => ?_)
      · have h := if_at_f c_7 h
        refine lv_aload_n hx hb dX6_years_26 rfl (lv_at hl 0 rfl) ?_
        refine gf (v := .ref (a 3)) hC hw in_X6 0 4 1 (cD_0 cy a S) rfl (by decide) lf_RX6_19 rfl rfl dX6_years_27 ?_
        obtain ⟨v_9, hc_8, h⟩ := bd_at h
        refine caVI (As := []) (rest := []) hC hw hl.1 lm_RX6_105 li_RX3 lk_yX3_stands li_yX3_stands ll_yX3_stands 3 2 (cD_3 cy a S) rfl 0 rfl hd_X3_stands (by decide) (by decide) (Nat.le_of_ble_eq_true rfl) dX6_years_30 (k_X3_stands l D cy a fu S _ hc_8) (fun H locs hw => ?_)
        refine lv_if_ne (tgt := 39) hx hb dX6_years_33 (by decide) (fun c_10 => ?_) (fun c_10 => ?_)
        · have h := if_at_f c_10 h
          refine lv_aload_n hx hb dX6_years_39 rfl (lv_at hl 0 rfl) ?_
          refine gf (v := .ref (a 5)) hC hw in_X6 0 4 2 (cD_0 cy a S) rfl (by decide) lf_RX6_28 rfl rfl dX6_years_40 ?_
          refine gfN (v := .long (stL S 0)) hC hw in_X0 5 0 5 (cD_5 cy a S) rfl (by decide) lf_RX6_90 rfl rfl dX6_years_43 ?_
          refine lv_topl (fun x4_11 ex4_11 => ?_)
          have h := nm_at ex4_11 h
          refine lv_lstore (lv' := [(4, .long x4_11), (0, .ref (a 0)), (1, .int x1), (2, .int x2), (3, .int x3)]) hx hb dX6_years_46 hl (by decide) rfl (fun ls hl => ?_)
          refine lv_iload_n hx hb dX6_years_48 rfl (lv_at hl 3 rfl) ?_
          refine lv_istore (lv' := [(6, .int x2), (4, .long x4_11), (0, .ref (a 0)), (1, .int x1), (2, .int x2), (3, .int x3)]) hx hb dX6_years_49 hl (by decide) rfl (fun ls hl => ?_)
          refine lv_iconst (v := 0) hx hb dX6_years_51 (by decide) ?_
          refine lv_istore (lv' := [(7, .int (0 : Int32)), (6, .int x2), (4, .long x4_11), (0, .ref (a 0)), (1, .int x1), (2, .int x2), (3, .int x3)]) hx hb dX6_years_52 hl (by decide) rfl (fun ls hl => ?_)
          refine jn2_ok (fun (x4_12 : Int64) (x6_13 : Int32) => ∀ (H : Heap) (locs : List Loc) (ls : Array Slot), InW D (wD cy a) A s.heap H locs S → lv_has ls 9 [(3, .int x3), (4, .long x4_12), (6, .int x6_13)] → W p l e (rmN 4) s m args below meth c H locs 0 0 (QI below args s D (wD cy a) A r S) (F0 m 110 ls [])) ?_ ?_ h
          · intro x4_12 x6_13 h H locs ls hw hl
            refine lv_iload_n hx hb dX6_years_110 rfl (lv_at hl 0 rfl) ?_
            refine lv_if_ne (tgt := 120) hx hb dX6_years_111 (by decide) (fun c_15 => ?_) (fun c_15 => ?_)
            · have h := if_at_f c_15 h
              refine lv_iload_n hx hb dX6_years_120 rfl (lv_at hl 0 rfl) ?_
              refine lv_iconst (v := 1) hx hb dX6_years_121 (by decide) ?_
              refine lv_icmp_ne (tgt := 133) hx hb dX6_years_122 (by decide) (fun c_16 => ?_) (fun c_16 => ?_)
              · have h := if_at_f c_16 h
                refine lv_iload hx hb dX6_years_133 (lv_at hl 2 rfl) ?_
                exact rtI hC hr hk hw (so_at h) rfl dX6_years_135
              · have h := if_at_t c_16 h
                refine lv_lload hx hb dX6_years_125 (lv_at hl 1 rfl) ?_
                obtain ⟨v_18, hc_17, h⟩ := bd_at h
                refine caSI (As := [.long x4_12]) (rest := []) hC hw hl.1 lm_RX6_231 li_RX5 lk_yX5_allLeaves ls_yX5_allLeaves 1 rfl hd_X5_allLeaves (by decide) (by decide) (Nat.le_of_ble_eq_true rfl) dX6_years_127 (k_X5_allLeaves l D cy (wD cy a) S fu x4_12 _ hc_17) (fun H locs hw => ?_)
                refine lv_goto (tgt := 135) hx hb dX6_years_130 (by decide) ?_
                exact rtI hC hr hk hw (so_at h) rfl dX6_years_135
            · have h := if_at_t c_15 h
              refine lv_lload hx hb dX6_years_114 (lv_at hl 1 rfl) ?_
              obtain ⟨v_20, hc_19, h⟩ := bd_at h
              refine caSI (As := [.long x4_12]) (rest := []) hC hw hl.1 lm_RX6_227 li_RX5 lk_yX5_living ls_yX5_living 1 rfl hd_X5_living (by decide) (by decide) (Nat.le_of_ble_eq_true rfl) dX6_years_116 (k_X5_living l D cy (wD cy a) S fu x4_12 _ hc_19) (fun H locs hw => ?_)
              exact rtI hC hr hk hw (so_at h) rfl dX6_years_119
          · intro j_14 hj_14 h
            refine lq3_ok (fun (x4_21 : Int64) (x6_22 : Int32) (x7_23 : Int32) => ∀ (H : Heap) (locs : List Loc) (ls : Array Slot), InW D (wD cy a) A s.heap H locs S → lv_has ls 9 [(0, .ref (a 0)), (1, .int x1), (3, .int x3), (4, .long x4_21), (6, .int x6_22), (7, .int x7_23)] → W p l e (rmN 4) s m args below meth c H locs 0 0 (QI below args s D (wD cy a) A r S) (F0 m 54 ls [])) ?_ fu x4_11 x2 (0 : Int32) h H locs ls hw (lv_sub hl [3, 4, 6, 2, 1, 0] rfl)
            intro ag_24 hag_24 x4_21 x6_22 x7_23 h H locs ls hw hl
            unfold m_X6_years_L54 at h
            refine lv_iload hx hb dX6_years_54 (lv_at hl 5 rfl) ?_
            refine lv_iload_n hx hb dX6_years_56 rfl (lv_at hl 1 rfl) ?_
            refine lv_icmp_ge (tgt := 110) hx hb dX6_years_57 (by decide) (fun c_25 => ?_) (fun c_25 => ?_)
            · have h := if_at_t c_25 h
              exact hj_14 x4_21 x6_22 h H locs ls hw (lv_sub hl [2, 3, 4] rfl)
            · have h := if_at_f c_25 h
              refine lv_iload hx hb dX6_years_60 (lv_at hl 4 rfl) ?_
              obtain ⟨v_27, hc_26, h⟩ := bd_at h
              refine caSI (As := [.int x6_22]) (rest := []) hC hw hl.1 lm_RX6_212 li_RX6 lk_yX6_nextSeed ls_yX6_nextSeed 1 rfl hd_X6_nextSeed (by decide) (by decide) (Nat.le_of_ble_eq_true rfl) dX6_years_62 (k_X6_nextSeed l D cy (wD cy a) S fu x6_22 _ hc_26) (fun H locs hw => ?_)
              refine lv_istore (lv' := [(6, .int v_27), (0, .ref (a 0)), (1, .int x1), (3, .int x3), (4, .long x4_21), (7, .int x7_23)]) hx hb dX6_years_65 hl (by decide) rfl (fun ls hl => ?_)
              refine lv_aload_n hx hb dX6_years_67 rfl (lv_at hl 1 rfl) ?_
              refine gf (v := .ref (a 3)) hC hw in_X6 0 4 1 (cD_0 cy a S) rfl (by decide) lf_RX6_19 rfl rfl dX6_years_68 ?_
              refine lv_iload hx hb dX6_years_71 (lv_at hl 0 rfl) ?_
              refine lv_ldc hx hb hC.2.2.2.1 (hC.2.2.2.2.1 _ lc_RX6_215) dX6_years_73 ?_
              refine lv_idiv hx hb dX6_years_75 (by decide) ?_
              refine lv_bipush (v := 10) hx hb dX6_years_76 (by decide) ?_
              refine lv_irem hx hb dX6_years_78 (by decide) ?_
              obtain ⟨v_29, hc_28, h⟩ := bd_at h
              refine caVI (As := [.int ((v_27 / (65536 : Int32)) - (v_27 / (65536 : Int32)) / (10 : Int32) * (10 : Int32))]) (rest := []) hC hw hl.1 lm_RX6_216 li_RX3 lk_yX3_letterByDraw li_yX3_letterByDraw ll_yX3_letterByDraw 3 2 (cD_3 cy a S) rfl 1 rfl hd_X3_letterByDraw (by decide) (by decide) (Nat.le_of_ble_eq_true rfl) dX6_years_79 (k_X3_letterByDraw l D cy a fu (((v_27 / (65536 : Int32)) - (v_27 / (65536 : Int32)) / (10 : Int32) * (10 : Int32))) S _ hc_28) (fun H locs hw => ?_)
              refine lv_istore (lv' := [(8, .int v_29), (6, .int v_27), (0, .ref (a 0)), (1, .int x1), (3, .int x3), (4, .long x4_21), (7, .int x7_23)]) hx hb dX6_years_82 hl (by decide) rfl (fun ls hl => ?_)
              refine lv_aload_n hx hb dX6_years_84 rfl (lv_at hl 2 rfl) ?_
              refine gf (v := .ref (a 5)) hC hw in_X6 0 4 2 (cD_0 cy a S) rfl (by decide) lf_RX6_28 rfl rfl dX6_years_85 ?_
              refine lv_aload_n hx hb dX6_years_88 rfl (lv_at hl 2 rfl) ?_
              refine gf (v := .ref (a 5)) hC hw in_X6 0 4 2 (cD_0 cy a S) rfl (by decide) lf_RX6_28 rfl rfl dX6_years_89 ?_
              refine lv_lload hx hb dX6_years_92 (lv_at hl 5 rfl) ?_
              refine lv_iload hx hb dX6_years_94 (lv_at hl 0 rfl) ?_
              obtain ⟨v_31, hc_30, h⟩ := bd_at h
              refine caVL (As := [.long x4_21, .int v_29]) (rest := [.ref (a 5)]) hC hw hl.1 lm_RX6_219 li_RX0 lk_yX0_burntDown li_yX0_burntDown ll_yX0_burntDown 5 0 (cD_5 cy a S) rfl 2 rfl hd_X0_burntDown (by decide) (by decide) (Nat.le_of_ble_eq_true rfl) dX6_years_96 (k_X0_burntDown l D cy a fu x4_21 v_29 S _ hc_30) (fun H locs hw => ?_)
              obtain ⟨v_33, hc_32, h⟩ := bd_at h
              refine caVL (As := [.long v_31]) (rest := []) hC hw hl.1 lm_RX6_223 li_RX0 lk_yX0_rumoursGrown li_yX0_rumoursGrown ll_yX0_rumoursGrown 5 0 (cD_5 cy a S) rfl 1 rfl hd_X0_rumoursGrown (by decide) (by decide) (Nat.le_of_ble_eq_true rfl) dX6_years_99 (k_X0_rumoursGrown l D cy a fu v_31 S _ hc_32) (fun H locs hw => ?_)
              refine lv_lstore (lv' := [(4, .long v_33), (8, .int v_29), (6, .int v_27), (0, .ref (a 0)), (1, .int x1), (3, .int x3), (7, .int x7_23)]) hx hb dX6_years_102 hl (by decide) rfl (fun ls hl => ?_)
              obtain ⟨x7_34, ex7_34⟩ : ∃ z : Int32, z = x7_23 + (1 : Int32) := ⟨_, rfl⟩
              have h := nm_at ex7_34 h
              refine lv_iinc (v := x7_34) (lv' := [(7, .int x7_34), (4, .long v_33), (8, .int v_29), (6, .int v_27), (0, .ref (a 0)), (1, .int x1), (3, .int x3)]) hx hb dX6_years_104 hl (k := 6) rfl (by rw [ex7_34]; rfl) (by decide) rfl (fun ls hl => ?_)
              refine lv_goto (tgt := 54) hx hb dX6_years_107 (by decide) ?_
              exact hag_24 v_33 v_27 x7_34 h H locs ls hw (lv_sub hl [4, 5, 6, 1, 3, 0] rfl)
        · have h := if_at_t c_10 h
          refine lv_bipush (v := -103) hx hb dX6_years_36 (by decide) ?_
          exact rtI hC hr hk hw (so_at h) rfl dX6_years_38
      · have h := if_at_t c_7 h
        refine lv_bipush (v := -102) hx hb dX6_years_23 (by decide) ?_
        exact rtI hC hr hk hw (so_at h) rfl dX6_years_25
def m_X6_image (fu : Nat) (S : ST) : Option (Int32 × ST) :=
  bd (m_X3_stands fu S) (fun v_2 => (if v_2 = (0 : Int32) then some ((-103 : Int32), S) else bd (m_X0_become_9_5 fu S) (fun S_5 => nm (puI S_5 0 (1 : Int32)) (fun S_6 => some ((stI S_6 7), S_6)))))
set_option maxRecDepth 100000 in
set_option maxHeartbeats 4000000 in
theorem k_X6_image (l : Launch) (D : va_G) (cy : ClassId) (a : Nat → Nat) (fu : Nat) (S : ST) (r : Int32) (S' : ST) (h : m_X6_image fu S = some (r, S')) : CtI l yX6_image cX6_image 1 (some .int) 3 [.ref (a 0)] D cy (wD cy a) S r S' := by
  refine CtI_of (by decide) (Nat.le_of_ble_eq_true rfl) ?_
  intro p e s m args below meth c A ls hC hr hk hw hl
  have hC : Cx p s m c RX6 cX6_image 1 args D cy := hC
  have hx := hC.1
  have hb := hC.2.1
  have hl : lv_has ls 1 [(0, .ref (a 0))] := hl
  obtain ⟨H, eH⟩ : ∃ z : Heap, z = s.heap := ⟨_, rfl⟩
  obtain ⟨locs, elocs⟩ : ∃ z : List Loc, z = [] := ⟨_, rfl⟩
  have hw : InW D (wD cy a) A s.heap H locs S := by rw [eH, elocs]; exact hw
  suffices hsu : W p l e (rmN 3) s m args below meth c H locs 0 0 (QI below args s D (wD cy a) A r S') (F0 m 0 ls []) by rw [eH, elocs] at hsu; exact hsu
  unfold m_X6_image at h
  refine lv_aload_n hx hb dX6_image_0 rfl (lv_at hl 0 rfl) ?_
  refine gf (v := .ref (a 3)) hC hw in_X6 0 4 1 (cD_0 cy a S) rfl (by decide) lf_RX6_19 rfl rfl dX6_image_1 ?_
  obtain ⟨v_2, hc_1, h⟩ := bd_at h
  refine caVI (As := []) (rest := []) hC hw hl.1 lm_RX6_105 li_RX3 lk_yX3_stands li_yX3_stands ll_yX3_stands 3 2 (cD_3 cy a S) rfl 0 rfl hd_X3_stands (by decide) (by decide) (Nat.le_of_ble_eq_true rfl) dX6_image_4 (k_X3_stands l D cy a fu S _ hc_1) (fun H locs hw => ?_)
  refine lv_if_ne (tgt := 13) hx hb dX6_image_7 (by decide) (fun c_3 => ?_) (fun c_3 => ?_)
  · have h := if_at_f c_3 h
    refine lv_aload_n hx hb dX6_image_13 rfl (lv_at hl 0 rfl) ?_
    refine gf (v := .ref (a 9)) hC hw in_X6 0 4 3 (cD_0 cy a S) rfl (by decide) lf_RX6_32 rfl rfl dX6_image_14 ?_
    refine lv_aload_n hx hb dX6_image_17 rfl (lv_at hl 0 rfl) ?_
    refine gf (v := .ref (a 5)) hC hw in_X6 0 4 2 (cD_0 cy a S) rfl (by decide) lf_RX6_28 rfl rfl dX6_image_18 ?_
    obtain ⟨S_5, hc_4, h⟩ := bd_at h
    refine caVV (As := [.ref (a 5)]) (rest := []) hC hw hl.1 lm_RX6_234 li_RX0 lk_yX0_become li_yX0_become ll_yX0_become 9 0 (cD_9 cy a S) rfl 1 rfl hd_X0_become (by decide) (by decide) (Nat.le_of_ble_eq_true rfl) dX6_image_21 (k_X0_become_9_5 l D cy a fu S _ hc_4) (fun H locs hw => ?_)
    refine lv_aload_n hx hb dX6_image_24 rfl (lv_at hl 0 rfl) ?_
    refine lv_iconst (v := 1) hx hb dX6_image_25 (by decide) ?_
    refine pf (ty := .boolean) (v := .int (1 : Int32)) hC hw in_X6 tyX6_ok nmX6 0 4 5 (cD_0 cy a S_5) rfl (by decide) lf_RX6_68 rfl rfl (by decide +kernel) rfl rfl (Nat.le_of_ble_eq_true rfl) (sD_0_5 cy a S_5 (1 : Int32)) dX6_image_26 (fun H locs hw => ?_)
    obtain ⟨S_6, hw, h⟩ := nmw (P := fun z => InW D (wD cy a) A s.heap H locs z) hw h
    refine lv_aload_n hx hb dX6_image_29 rfl (lv_at hl 0 rfl) ?_
    refine gf (v := .ref (a 5)) hC hw in_X6 0 4 2 (cD_0 cy a S_6) rfl (by decide) lf_RX6_28 rfl rfl dX6_image_30 ?_
    refine gfN (v := .int (stI S_6 7)) hC hw in_X0 5 0 6 (cD_5 cy a S_6) rfl (by decide) lf_RX6_238 rfl rfl dX6_image_33 ?_
    exact rtI hC hr hk hw (so_at2 h).1 (so_at2 h).2 dX6_image_36
  · have h := if_at_t c_3 h
    refine lv_bipush (v := -103) hx hb dX6_image_10 (by decide) ?_
    exact rtI hC hr hk hw (so_at2 h).1 (so_at2 h).2 dX6_image_12
def m_X6_restore (fu : Nat) (S : ST) : Option (Int32 × ST) :=
  (if (stI S 0) = (0 : Int32) then some ((-103 : Int32), S) else bd (m_X0_become_9 fu S) (fun S_3 => some ((stI S_3 7), S_3)))
set_option maxRecDepth 100000 in
set_option maxHeartbeats 4000000 in
theorem k_X6_restore (l : Launch) (D : va_G) (cy : ClassId) (a : Nat → Nat) (fu : Nat) (S : ST) (r : Int32) (S' : ST) (h : m_X6_restore fu S = some (r, S')) : CtI l yX6_restore cX6_restore 1 (some .int) 3 [.ref (a 0)] D cy (wD cy a) S r S' := by
  refine CtI_of (by decide) (Nat.le_of_ble_eq_true rfl) ?_
  intro p e s m args below meth c A ls hC hr hk hw hl
  have hC : Cx p s m c RX6 cX6_restore 1 args D cy := hC
  have hx := hC.1
  have hb := hC.2.1
  have hl : lv_has ls 1 [(0, .ref (a 0))] := hl
  obtain ⟨H, eH⟩ : ∃ z : Heap, z = s.heap := ⟨_, rfl⟩
  obtain ⟨locs, elocs⟩ : ∃ z : List Loc, z = [] := ⟨_, rfl⟩
  have hw : InW D (wD cy a) A s.heap H locs S := by rw [eH, elocs]; exact hw
  suffices hsu : W p l e (rmN 3) s m args below meth c H locs 0 0 (QI below args s D (wD cy a) A r S') (F0 m 0 ls []) by rw [eH, elocs] at hsu; exact hsu
  unfold m_X6_restore at h
  refine lv_aload_n hx hb dX6_restore_0 rfl (lv_at hl 0 rfl) ?_
  refine gf (v := .int (stI S 0)) hC hw in_X6 0 4 5 (cD_0 cy a S) rfl (by decide) lf_RX6_68 rfl rfl dX6_restore_1 ?_
  refine lv_if_ne (tgt := 10) hx hb dX6_restore_4 (by decide) (fun c_1 => ?_) (fun c_1 => ?_)
  · have h := if_at_f c_1 h
    refine lv_aload_n hx hb dX6_restore_10 rfl (lv_at hl 0 rfl) ?_
    refine gf (v := .ref (a 5)) hC hw in_X6 0 4 2 (cD_0 cy a S) rfl (by decide) lf_RX6_28 rfl rfl dX6_restore_11 ?_
    refine lv_aload_n hx hb dX6_restore_14 rfl (lv_at hl 0 rfl) ?_
    refine gf (v := .ref (a 9)) hC hw in_X6 0 4 3 (cD_0 cy a S) rfl (by decide) lf_RX6_32 rfl rfl dX6_restore_15 ?_
    obtain ⟨S_3, hc_2, h⟩ := bd_at h
    refine caVV (As := [.ref (a 9)]) (rest := []) hC hw hl.1 lm_RX6_234 li_RX0 lk_yX0_become li_yX0_become ll_yX0_become 5 0 (cD_5 cy a S) rfl 1 rfl hd_X0_become (by decide) (by decide) (Nat.le_of_ble_eq_true rfl) dX6_restore_18 (k_X0_become_9 l D cy a fu S _ hc_2) (fun H locs hw => ?_)
    refine lv_aload_n hx hb dX6_restore_21 rfl (lv_at hl 0 rfl) ?_
    refine gf (v := .ref (a 5)) hC hw in_X6 0 4 2 (cD_0 cy a S_3) rfl (by decide) lf_RX6_28 rfl rfl dX6_restore_22 ?_
    refine gfN (v := .int (stI S_3 7)) hC hw in_X0 5 0 6 (cD_5 cy a S_3) rfl (by decide) lf_RX6_238 rfl rfl dX6_restore_25 ?_
    exact rtI hC hr hk hw (so_at2 h).1 (so_at2 h).2 dX6_restore_28
  · have h := if_at_t c_1 h
    refine lv_bipush (v := -103) hx hb dX6_restore_7 (by decide) ?_
    exact rtI hC hr hk hw (so_at2 h).1 (so_at2 h).2 dX6_restore_9
def m_X6_count (fu : Nat) (x1 : Int32) (S : ST) : Option Int32 :=
  (if x1 = (0 : Int32) then some ((stI S 5)) else (if x1 = (1 : Int32) then some ((stI S 6)) else (if x1 = (2 : Int32) then bd (m_X5_living fu ((stL S 0))) (fun v_12 => bd (m_J6_bitCount_0f7a4 fu v_12) (fun v_14 => some v_14)) else (if x1 = (3 : Int32) then bd (m_X5_allLeaves fu ((stL S 0))) (fun v_16 => some v_16) else (if x1 = (4 : Int32) then some ((stI S 7)) else (if x1 = (5 : Int32) then some ((stI S 8)) else (if x1 = (6 : Int32) then some ((stI S 4)) else (if x1 = (7 : Int32) then some ((stI S 1)) else (if x1 = (8 : Int32) then some ((stI S 2)) else (if x1 = (9 : Int32) then some ((stI S 3)) else some (-102 : Int32)))))))))))
set_option maxRecDepth 100000 in
set_option maxHeartbeats 4000000 in
theorem k_X6_count (l : Launch) (D : va_G) (cy : ClassId) (a : Nat → Nat) (fu : Nat) (x1 : Int32) (S : ST) (r : Int32) (h : m_X6_count fu x1 S = some r) : CtI l yX6_count cX6_count 2 (some .int) 3 [.ref (a 0), .int x1] D cy (wD cy a) S r S := by
  refine CtI_of (by decide) (Nat.le_of_ble_eq_true rfl) ?_
  intro p e s m args below meth c A ls hC hr hk hw hl
  have hC : Cx p s m c RX6 cX6_count 2 args D cy := hC
  have hx := hC.1
  have hb := hC.2.1
  have hl : lv_has ls 2 [(0, .ref (a 0)), (1, .int x1)] := hl
  obtain ⟨H, eH⟩ : ∃ z : Heap, z = s.heap := ⟨_, rfl⟩
  obtain ⟨locs, elocs⟩ : ∃ z : List Loc, z = [] := ⟨_, rfl⟩
  have hw : InW D (wD cy a) A s.heap H locs S := by rw [eH, elocs]; exact hw
  suffices hsu : W p l e (rmN 3) s m args below meth c H locs 0 0 (QI below args s D (wD cy a) A r S) (F0 m 0 ls []) by rw [eH, elocs] at hsu; exact hsu
  unfold m_X6_count at h
  refine lv_iload_n hx hb dX6_count_0 rfl (lv_at hl 1 rfl) ?_
  by_cases c_1 : x1 = (0 : Int32)
  · have h := if_at_t c_1 h
    refine lv_tableIn (off := 55) (tgt := 56) hx hb dX6_count_1 (by rw [c_1]; decide) (by rw [c_1]; decide) (by rw [c_1]; rfl) (by decide) ?_
    refine lv_aload_n hx hb dX6_count_56 rfl (lv_at hl 0 rfl) ?_
    refine gf (v := .ref (a 3)) hC hw in_X6 0 4 1 (cD_0 cy a S) rfl (by decide) lf_RX6_19 rfl rfl dX6_count_57 ?_
    refine gfN (v := .int (stI S 5)) hC hw in_X3 3 2 1 (cD_3 cy a S) rfl (by decide) lf_RX6_76 rfl rfl dX6_count_60 ?_
    exact rtI hC hr hk hw (so_at h) rfl dX6_count_63
  have h := if_at_f c_1 h
  by_cases c_2 : x1 = (1 : Int32)
  · have h := if_at_t c_2 h
    refine lv_tableIn (off := 63) (tgt := 64) hx hb dX6_count_1 (by rw [c_2]; decide) (by rw [c_2]; decide) (by rw [c_2]; rfl) (by decide) ?_
    refine lv_aload_n hx hb dX6_count_64 rfl (lv_at hl 0 rfl) ?_
    refine gf (v := .ref (a 5)) hC hw in_X6 0 4 2 (cD_0 cy a S) rfl (by decide) lf_RX6_28 rfl rfl dX6_count_65 ?_
    refine gfN (v := .int (stI S 6)) hC hw in_X0 5 0 4 (cD_5 cy a S) rfl (by decide) lf_RX6_112 rfl rfl dX6_count_68 ?_
    exact rtI hC hr hk hw (so_at h) rfl dX6_count_71
  have h := if_at_f c_2 h
  by_cases c_3 : x1 = (2 : Int32)
  · have h := if_at_t c_3 h
    refine lv_tableIn (off := 71) (tgt := 72) hx hb dX6_count_1 (by rw [c_3]; decide) (by rw [c_3]; decide) (by rw [c_3]; rfl) (by decide) ?_
    refine lv_aload_n hx hb dX6_count_72 rfl (lv_at hl 0 rfl) ?_
    refine gf (v := .ref (a 5)) hC hw in_X6 0 4 2 (cD_0 cy a S) rfl (by decide) lf_RX6_28 rfl rfl dX6_count_73 ?_
    refine gfN (v := .long (stL S 0)) hC hw in_X0 5 0 5 (cD_5 cy a S) rfl (by decide) lf_RX6_90 rfl rfl dX6_count_76 ?_
    obtain ⟨v_12, hc_11, h⟩ := bd_at h
    refine caSI (As := [.long (stL S 0)]) (rest := []) hC hw hl.1 lm_RX6_227 li_RX5 lk_yX5_living ls_yX5_living 1 rfl hd_X5_living (by decide) (by decide) (Nat.le_of_ble_eq_true rfl) dX6_count_79 (k_X5_living l D cy (wD cy a) S fu ((stL S 0)) _ hc_11) (fun H locs hw => ?_)
    obtain ⟨v_14, hc_13, h⟩ := bd_at h
    refine caSI (As := [.int v_12]) (rest := []) hC hw hl.1 lm_RX6_152 li_RJ6 lk_yJ6_bitCount_0f7a4 ls_yJ6_bitCount_0f7a4 1 rfl hd_J6_bitCount_0f7a4 (by decide) (by decide) (Nat.le_of_ble_eq_true rfl) dX6_count_82 (k_J6_bitCount_0f7a4 l D cy (wD cy a) S fu v_12 _ hc_13) (fun H locs hw => ?_)
    exact rtI hC hr hk hw (so_at h) rfl dX6_count_85
  have h := if_at_f c_3 h
  by_cases c_4 : x1 = (3 : Int32)
  · have h := if_at_t c_4 h
    refine lv_tableIn (off := 85) (tgt := 86) hx hb dX6_count_1 (by rw [c_4]; decide) (by rw [c_4]; decide) (by rw [c_4]; rfl) (by decide) ?_
    refine lv_aload_n hx hb dX6_count_86 rfl (lv_at hl 0 rfl) ?_
    refine gf (v := .ref (a 5)) hC hw in_X6 0 4 2 (cD_0 cy a S) rfl (by decide) lf_RX6_28 rfl rfl dX6_count_87 ?_
    refine gfN (v := .long (stL S 0)) hC hw in_X0 5 0 5 (cD_5 cy a S) rfl (by decide) lf_RX6_90 rfl rfl dX6_count_90 ?_
    obtain ⟨v_16, hc_15, h⟩ := bd_at h
    refine caSI (As := [.long (stL S 0)]) (rest := []) hC hw hl.1 lm_RX6_231 li_RX5 lk_yX5_allLeaves ls_yX5_allLeaves 1 rfl hd_X5_allLeaves (by decide) (by decide) (Nat.le_of_ble_eq_true rfl) dX6_count_93 (k_X5_allLeaves l D cy (wD cy a) S fu ((stL S 0)) _ hc_15) (fun H locs hw => ?_)
    exact rtI hC hr hk hw (so_at h) rfl dX6_count_96
  have h := if_at_f c_4 h
  by_cases c_5 : x1 = (4 : Int32)
  · have h := if_at_t c_5 h
    refine lv_tableIn (off := 96) (tgt := 97) hx hb dX6_count_1 (by rw [c_5]; decide) (by rw [c_5]; decide) (by rw [c_5]; rfl) (by decide) ?_
    refine lv_aload_n hx hb dX6_count_97 rfl (lv_at hl 0 rfl) ?_
    refine gf (v := .ref (a 5)) hC hw in_X6 0 4 2 (cD_0 cy a S) rfl (by decide) lf_RX6_28 rfl rfl dX6_count_98 ?_
    refine gfN (v := .int (stI S 7)) hC hw in_X0 5 0 6 (cD_5 cy a S) rfl (by decide) lf_RX6_238 rfl rfl dX6_count_101 ?_
    exact rtI hC hr hk hw (so_at h) rfl dX6_count_104
  have h := if_at_f c_5 h
  by_cases c_6 : x1 = (5 : Int32)
  · have h := if_at_t c_6 h
    refine lv_tableIn (off := 104) (tgt := 105) hx hb dX6_count_1 (by rw [c_6]; decide) (by rw [c_6]; decide) (by rw [c_6]; rfl) (by decide) ?_
    refine lv_aload_n hx hb dX6_count_105 rfl (lv_at hl 0 rfl) ?_
    refine gf (v := .ref (a 5)) hC hw in_X6 0 4 2 (cD_0 cy a S) rfl (by decide) lf_RX6_28 rfl rfl dX6_count_106 ?_
    refine gfN (v := .int (stI S 8)) hC hw in_X0 5 0 7 (cD_5 cy a S) rfl (by decide) lf_RX6_197 rfl rfl dX6_count_109 ?_
    exact rtI hC hr hk hw (so_at h) rfl dX6_count_112
  have h := if_at_f c_6 h
  by_cases c_7 : x1 = (6 : Int32)
  · have h := if_at_t c_7 h
    refine lv_tableIn (off := 112) (tgt := 113) hx hb dX6_count_1 (by rw [c_7]; decide) (by rw [c_7]; decide) (by rw [c_7]; rfl) (by decide) ?_
    refine lv_aload_n hx hb dX6_count_113 rfl (lv_at hl 0 rfl) ?_
    refine gf (v := .ref (a 1)) hC hw in_X6 0 4 0 (cD_0 cy a S) rfl (by decide) lf_RX6_10 rfl rfl dX6_count_114 ?_
    refine gfN (v := .int (stI S 4)) hC hw in_X4 1 3 1 (cD_1 cy a S) rfl (by decide) lf_RX6_241 rfl rfl dX6_count_117 ?_
    exact rtI hC hr hk hw (so_at h) rfl dX6_count_120
  have h := if_at_f c_7 h
  by_cases c_8 : x1 = (7 : Int32)
  · have h := if_at_t c_8 h
    refine lv_tableIn (off := 120) (tgt := 121) hx hb dX6_count_1 (by rw [c_8]; decide) (by rw [c_8]; decide) (by rw [c_8]; rfl) (by decide) ?_
    refine lv_aload_n hx hb dX6_count_121 rfl (lv_at hl 0 rfl) ?_
    refine gf (v := .int (stI S 1)) hC hw in_X6 0 4 6 (cD_0 cy a S) rfl (by decide) lf_RX6_72 rfl rfl dX6_count_122 ?_
    exact rtI hC hr hk hw (so_at h) rfl dX6_count_125
  have h := if_at_f c_8 h
  by_cases c_9 : x1 = (8 : Int32)
  · have h := if_at_t c_9 h
    refine lv_tableIn (off := 125) (tgt := 126) hx hb dX6_count_1 (by rw [c_9]; decide) (by rw [c_9]; decide) (by rw [c_9]; rfl) (by decide) ?_
    refine lv_aload_n hx hb dX6_count_126 rfl (lv_at hl 0 rfl) ?_
    refine gf (v := .int (stI S 2)) hC hw in_X6 0 4 7 (cD_0 cy a S) rfl (by decide) lf_RX6_182 rfl rfl dX6_count_127 ?_
    exact rtI hC hr hk hw (so_at h) rfl dX6_count_130
  have h := if_at_f c_9 h
  by_cases c_10 : x1 = (9 : Int32)
  · have h := if_at_t c_10 h
    refine lv_tableIn (off := 130) (tgt := 131) hx hb dX6_count_1 (by rw [c_10]; decide) (by rw [c_10]; decide) (by rw [c_10]; rfl) (by decide) ?_
    refine lv_aload_n hx hb dX6_count_131 rfl (lv_at hl 0 rfl) ?_
    refine gf (v := .int (stI S 3)) hC hw in_X6 0 4 8 (cD_0 cy a S) rfl (by decide) lf_RX6_191 rfl rfl dX6_count_132 ?_
    exact rtI hC hr hk hw (so_at h) rfl dX6_count_135
  have h := if_at_f c_10 h
  refine lv_tableOut (tgt := 136) hx hb dX6_count_1 (tsw_out 9 (by decide) (fun j hj => by match j, hj with | 0, _ => exact c_1 | 1, _ => exact c_2 | 2, _ => exact c_3 | 3, _ => exact c_4 | 4, _ => exact c_5 | 5, _ => exact c_6 | 6, _ => exact c_7 | 7, _ => exact c_8 | 8, _ => exact c_9 | 9, _ => exact c_10 | n + 10, hj => omega)) (by decide) ?_
  refine lv_bipush (v := -102) hx hb dX6_count_136 (by decide) ?_
  exact rtI hC hr hk hw (so_at h) rfl dX6_count_138
def m_X6_mixedWithFile_L6 (fu : Nat) (x3 : Int32) (S : ST) (j_2 : Int64 → Option Int64) (ag_19 : Int64 → Int32 → Option Int64) (x4_17 : Int64) (x6_18 : Int32) : Option Int64 :=
  (if (6 : Int32) ≤ x6_18 then j_2 x4_17 else bd (m_X6_about fu x3 x6_18 S) (fun v_22 => bd (m_X6_mixed fu x4_17 ((v_22).toInt64)) (fun v_24 => nm (x6_18 + (1 : Int32)) (fun x6_25 => ag_19 v_24 x6_25))))
def m_X6_mixedWithFile (fu : Nat) (x1 : Int64) (x3 : Int32) (S : ST) : Option Int64 :=
  jn1 (fun (x4_1 : Int64) => bd (m_X1_waysToLive fu 8 ((stL S 0)) x3 (2 : Int32) S) (fun v_4 => bd (m_X6_inLowestTerms fu v_4 (2 : Int32) (0 : Int32)) (fun v_6 => bd (m_X6_mixed fu x4_1 ((v_6).toInt64)) (fun v_8 => bd (m_X6_inLowestTerms fu v_4 (2 : Int32) (1 : Int32)) (fun v_10 => bd (m_X6_mixed fu v_8 ((v_10).toInt64)) (fun v_12 => bd (m_X1_bestCopy fu x3 (2 : Int32) S) (fun v_14 => bd (m_X6_mixed fu v_12 ((v_14).toInt64)) (fun v_16 => some v_16)))))))) (fun j_2 => lq2 (m_X6_mixedWithFile_L6 fu x3 S j_2) fu x1 (0 : Int32))
set_option maxRecDepth 100000 in
set_option maxHeartbeats 4000000 in
theorem k_X6_mixedWithFile (l : Launch) (D : va_G) (cy : ClassId) (a : Nat → Nat) (fu : Nat) (x1 : Int64) (x3 : Int32) (S : ST) (r : Int64) (h : m_X6_mixedWithFile fu x1 x3 S = some r) : CtL l yX6_mixedWithFile cX6_mixedWithFile 7 (some .long) 14 [.ref (a 0), .long x1, .int x3] D cy (wD cy a) S r S := by
  refine CtL_of (by decide) (Nat.le_of_ble_eq_true rfl) ?_
  intro p e s m args below meth c A ls hC hr hk hw hl
  have hC : Cx p s m c RX6 cX6_mixedWithFile 7 args D cy := hC
  have hx := hC.1
  have hb := hC.2.1
  have hl : lv_has ls 7 [(0, .ref (a 0)), (1, .long x1), (3, .int x3)] := hl
  obtain ⟨H, eH⟩ : ∃ z : Heap, z = s.heap := ⟨_, rfl⟩
  obtain ⟨locs, elocs⟩ : ∃ z : List Loc, z = [] := ⟨_, rfl⟩
  have hw : InW D (wD cy a) A s.heap H locs S := by rw [eH, elocs]; exact hw
  suffices hsu : W p l e (rmN 14) s m args below meth c H locs 0 0 (QL below args s D (wD cy a) A r S) (F0 m 0 ls []) by rw [eH, elocs] at hsu; exact hsu
  unfold m_X6_mixedWithFile at h
  refine lv_lload_n hx hb dX6_mixedWithFile_0 rfl (lv_at hl 1 rfl) ?_
  refine lv_lstore (lv' := [(4, .long x1), (0, .ref (a 0)), (1, .long x1), (3, .int x3)]) hx hb dX6_mixedWithFile_1 hl (by decide) rfl (fun ls hl => ?_)
  refine lv_iconst (v := 0) hx hb dX6_mixedWithFile_3 (by decide) ?_
  refine lv_istore (lv' := [(6, .int (0 : Int32)), (4, .long x1), (0, .ref (a 0)), (1, .long x1), (3, .int x3)]) hx hb dX6_mixedWithFile_4 hl (by decide) rfl (fun ls hl => ?_)
  refine jn1_ok (fun (x4_1 : Int64) => ∀ (H : Heap) (locs : List Loc) (ls : Array Slot), InW D (wD cy a) A s.heap H locs S → lv_has ls 7 [(0, .ref (a 0)), (3, .int x3), (4, .long x4_1)] → W p l e (rmN 14) s m args below meth c H locs 0 0 (QL below args s D (wD cy a) A r S) (F0 m 34 ls [])) ?_ ?_ h
  · intro x4_1 h H locs ls hw hl
    refine lv_aload_n hx hb dX6_mixedWithFile_34 rfl (lv_at hl 0 rfl) ?_
    refine gf (v := .ref (a 13)) hC hw in_X6 0 4 4 (cD_0 cy a S) rfl (by decide) lf_RX6_40 rfl rfl dX6_mixedWithFile_35 ?_
    refine lv_aload_n hx hb dX6_mixedWithFile_38 rfl (lv_at hl 0 rfl) ?_
    refine gf (v := .ref (a 5)) hC hw in_X6 0 4 2 (cD_0 cy a S) rfl (by decide) lf_RX6_28 rfl rfl dX6_mixedWithFile_39 ?_
    refine gfN (v := .long (stL S 0)) hC hw in_X0 5 0 5 (cD_5 cy a S) rfl (by decide) lf_RX6_90 rfl rfl dX6_mixedWithFile_42 ?_
    refine lv_iload_n hx hb dX6_mixedWithFile_45 rfl (lv_at hl 1 rfl) ?_
    refine lv_iconst (v := 2) hx hb dX6_mixedWithFile_46 (by decide) ?_
    obtain ⟨v_4, hc_3, h⟩ := bd_at h
    refine caVNI (As := [.long (stL S 0), .int x3, .int (2 : Int32)]) (rest := []) hC hw hl.1 lm_RX6_171 li_RX1 lk_yX1_waysToLive li_yX1_waysToLive ll_yX1_waysToLive 13 1 (cD_13 cy a S) rfl 3 rfl hd_X1_waysToLive (by decide) (by decide) (Nat.le_of_ble_eq_true rfl) dX6_mixedWithFile_47 (k_X1_waysToLive l D cy a fu 8 ((stL S 0)) x3 (2 : Int32) S _ hc_3) (fun H locs hw => ?_)
    refine lv_istore (lv' := [(6, .int v_4), (0, .ref (a 0)), (3, .int x3), (4, .long x4_1)]) hx hb dX6_mixedWithFile_50 hl (by decide) rfl (fun ls hl => ?_)
    refine lv_lload hx hb dX6_mixedWithFile_52 (lv_at hl 3 rfl) ?_
    refine lv_iload hx hb dX6_mixedWithFile_54 (lv_at hl 0 rfl) ?_
    refine lv_iconst (v := 2) hx hb dX6_mixedWithFile_56 (by decide) ?_
    refine lv_iconst (v := 0) hx hb dX6_mixedWithFile_57 (by decide) ?_
    obtain ⟨v_6, hc_5, h⟩ := bd_at h
    refine caSI (As := [.int v_4, .int (2 : Int32), .int (0 : Int32)]) (rest := [.long x4_1]) hC hw hl.1 lm_RX6_175 li_RX6 lk_yX6_inLowestTerms ls_yX6_inLowestTerms 3 rfl hd_X6_inLowestTerms (by decide) (by decide) (Nat.le_of_ble_eq_true rfl) dX6_mixedWithFile_58 (k_X6_inLowestTerms l D cy (wD cy a) S fu v_4 (2 : Int32) (0 : Int32) _ hc_5) (fun H locs hw => ?_)
    refine lv_i2l hx hb dX6_mixedWithFile_61 rfl ?_
    obtain ⟨v_8, hc_7, h⟩ := bd_at h
    refine caSL (As := [.long x4_1, .long (v_6).toInt64]) (rest := []) hC hw hl.1 lm_RX6_249 li_RX6 lk_yX6_mixed ls_yX6_mixed 2 rfl hd_X6_mixed (by decide) (by decide) (Nat.le_of_ble_eq_true rfl) dX6_mixedWithFile_62 (k_X6_mixed l D cy (wD cy a) S fu x4_1 ((v_6).toInt64) _ hc_7) (fun H locs hw => ?_)
    refine lv_lstore (lv' := [(4, .long v_8), (6, .int v_4), (0, .ref (a 0)), (3, .int x3)]) hx hb dX6_mixedWithFile_65 hl (by decide) rfl (fun ls hl => ?_)
    refine lv_lload hx hb dX6_mixedWithFile_67 (lv_at hl 0 rfl) ?_
    refine lv_iload hx hb dX6_mixedWithFile_69 (lv_at hl 1 rfl) ?_
    refine lv_iconst (v := 2) hx hb dX6_mixedWithFile_71 (by decide) ?_
    refine lv_iconst (v := 1) hx hb dX6_mixedWithFile_72 (by decide) ?_
    obtain ⟨v_10, hc_9, h⟩ := bd_at h
    refine caSI (As := [.int v_4, .int (2 : Int32), .int (1 : Int32)]) (rest := [.long v_8]) hC hw hl.1 lm_RX6_175 li_RX6 lk_yX6_inLowestTerms ls_yX6_inLowestTerms 3 rfl hd_X6_inLowestTerms (by decide) (by decide) (Nat.le_of_ble_eq_true rfl) dX6_mixedWithFile_73 (k_X6_inLowestTerms l D cy (wD cy a) S fu v_4 (2 : Int32) (1 : Int32) _ hc_9) (fun H locs hw => ?_)
    refine lv_i2l hx hb dX6_mixedWithFile_76 rfl ?_
    obtain ⟨v_12, hc_11, h⟩ := bd_at h
    refine caSL (As := [.long v_8, .long (v_10).toInt64]) (rest := []) hC hw hl.1 lm_RX6_249 li_RX6 lk_yX6_mixed ls_yX6_mixed 2 rfl hd_X6_mixed (by decide) (by decide) (Nat.le_of_ble_eq_true rfl) dX6_mixedWithFile_77 (k_X6_mixed l D cy (wD cy a) S fu v_8 ((v_10).toInt64) _ hc_11) (fun H locs hw => ?_)
    refine lv_lstore (lv' := [(4, .long v_12), (6, .int v_4), (0, .ref (a 0)), (3, .int x3)]) hx hb dX6_mixedWithFile_80 hl (by decide) rfl (fun ls hl => ?_)
    refine lv_lload hx hb dX6_mixedWithFile_82 (lv_at hl 0 rfl) ?_
    refine lv_aload_n hx hb dX6_mixedWithFile_84 rfl (lv_at hl 2 rfl) ?_
    refine gf (v := .ref (a 13)) hC hw in_X6 0 4 4 (cD_0 cy a S) rfl (by decide) lf_RX6_40 rfl rfl dX6_mixedWithFile_85 ?_
    refine lv_iload_n hx hb dX6_mixedWithFile_88 rfl (lv_at hl 3 rfl) ?_
    refine lv_iconst (v := 2) hx hb dX6_mixedWithFile_89 (by decide) ?_
    obtain ⟨v_14, hc_13, h⟩ := bd_at h
    refine caVI (As := [.int x3, .int (2 : Int32)]) (rest := [.long v_12]) hC hw hl.1 lm_RX6_179 li_RX1 lk_yX1_bestCopy li_yX1_bestCopy ll_yX1_bestCopy 13 1 (cD_13 cy a S) rfl 2 rfl hd_X1_bestCopy (by decide) (by decide) (Nat.le_of_ble_eq_true rfl) dX6_mixedWithFile_90 (k_X1_bestCopy l D cy a fu x3 (2 : Int32) S _ hc_13) (fun H locs hw => ?_)
    refine lv_i2l hx hb dX6_mixedWithFile_93 rfl ?_
    obtain ⟨v_16, hc_15, h⟩ := bd_at h
    refine caSL (As := [.long v_12, .long (v_14).toInt64]) (rest := []) hC hw hl.1 lm_RX6_249 li_RX6 lk_yX6_mixed ls_yX6_mixed 2 rfl hd_X6_mixed (by decide) (by decide) (Nat.le_of_ble_eq_true rfl) dX6_mixedWithFile_94 (k_X6_mixed l D cy (wD cy a) S fu v_12 ((v_14).toInt64) _ hc_15) (fun H locs hw => ?_)
    exact rtL hC hr hk hw (so_at h) rfl dX6_mixedWithFile_97
  · intro j_2 hj_2 h
    refine lq2_ok (fun (x4_17 : Int64) (x6_18 : Int32) => ∀ (H : Heap) (locs : List Loc) (ls : Array Slot), InW D (wD cy a) A s.heap H locs S → lv_has ls 7 [(0, .ref (a 0)), (3, .int x3), (4, .long x4_17), (6, .int x6_18)] → W p l e (rmN 14) s m args below meth c H locs 0 0 (QL below args s D (wD cy a) A r S) (F0 m 6 ls [])) ?_ fu x1 (0 : Int32) h H locs ls hw (lv_sub hl [2, 4, 1, 0] rfl)
    intro ag_19 hag_19 x4_17 x6_18 h H locs ls hw hl
    unfold m_X6_mixedWithFile_L6 at h
    refine lv_iload hx hb dX6_mixedWithFile_6 (lv_at hl 3 rfl) ?_
    refine lv_bipush (v := 6) hx hb dX6_mixedWithFile_8 (by decide) ?_
    refine lv_icmp_ge (tgt := 34) hx hb dX6_mixedWithFile_10 (by decide) (fun c_20 => ?_) (fun c_20 => ?_)
    · have h := if_at_t c_20 h
      exact hj_2 x4_17 h H locs ls hw (lv_sub hl [0, 1, 2] rfl)
    · have h := if_at_f c_20 h
      refine lv_lload hx hb dX6_mixedWithFile_13 (lv_at hl 2 rfl) ?_
      refine lv_aload_n hx hb dX6_mixedWithFile_15 rfl (lv_at hl 0 rfl) ?_
      refine lv_iload_n hx hb dX6_mixedWithFile_16 rfl (lv_at hl 1 rfl) ?_
      refine lv_iload hx hb dX6_mixedWithFile_17 (lv_at hl 3 rfl) ?_
      obtain ⟨v_22, hc_21, h⟩ := bd_at h
      refine caVI (As := [.int x3, .int x6_18]) (rest := [.long x4_17]) hC hw hl.1 lm_RX6_268 li_RX6 lk_yX6_about li_yX6_about ll_yX6_about 0 4 (cD_0 cy a S) rfl 2 rfl hd_X6_about (by decide) (by decide) (Nat.le_of_ble_eq_true rfl) dX6_mixedWithFile_19 (k_X6_about l D cy a fu x3 x6_18 S _ hc_21) (fun H locs hw => ?_)
      refine lv_i2l hx hb dX6_mixedWithFile_22 rfl ?_
      obtain ⟨v_24, hc_23, h⟩ := bd_at h
      refine caSL (As := [.long x4_17, .long (v_22).toInt64]) (rest := []) hC hw hl.1 lm_RX6_249 li_RX6 lk_yX6_mixed ls_yX6_mixed 2 rfl hd_X6_mixed (by decide) (by decide) (Nat.le_of_ble_eq_true rfl) dX6_mixedWithFile_23 (k_X6_mixed l D cy (wD cy a) S fu x4_17 ((v_22).toInt64) _ hc_23) (fun H locs hw => ?_)
      refine lv_lstore (lv' := [(4, .long v_24), (0, .ref (a 0)), (3, .int x3), (6, .int x6_18)]) hx hb dX6_mixedWithFile_26 hl (by decide) rfl (fun ls hl => ?_)
      obtain ⟨x6_25, ex6_25⟩ : ∃ z : Int32, z = x6_18 + (1 : Int32) := ⟨_, rfl⟩
      have h := nm_at ex6_25 h
      refine lv_iinc (v := x6_25) (lv' := [(6, .int x6_25), (4, .long v_24), (0, .ref (a 0)), (3, .int x3)]) hx hb dX6_mixedWithFile_28 hl (k := 3) rfl (by rw [ex6_25]; rfl) (by decide) rfl (fun ls hl => ?_)
      refine lv_goto (tgt := 6) hx hb dX6_mixedWithFile_31 (by decide) ?_
      exact hag_19 v_24 x6_25 h H locs ls hw (lv_sub hl [2, 3, 1, 0] rfl)
def m_X6_digest_L138 (fu : Nat) (S : ST) (ag_17 : Int64 → Int32 → Option Int64) (x1_15 : Int64) (x3_16 : Int32) : Option Int64 :=
  (if (10 : Int32) ≤ x3_16 then some x1_15 else bd (m_X6_count fu x3_16 S) (fun v_20 => bd (m_X6_mixed fu x1_15 ((v_20).toInt64)) (fun v_22 => nm (x3_16 + (1 : Int32)) (fun x3_23 => ag_17 v_22 x3_23))))
def m_X6_digest_L105 (fu : Nat) (S : ST) (j_14 : Int64 → Option Int64) (ag_26 : Int64 → Int32 → Option Int64) (x1_24 : Int64) (x3_25 : Int32) : Option Int64 :=
  (if (stI S 4) ≤ x3_25 then j_14 x1_24 else bd (m_X4_codeAt fu x3_25 S) (fun v_29 => bd (m_X6_mixed fu x1_24 ((v_29).toInt64)) (fun v_31 => nm (x3_25 + (1 : Int32)) (fun x3_32 => ag_26 v_31 x3_32))))
def m_X6_digest_L44 (fu : Nat) (S : ST) (j_4 : Int64 → Option Int64) (ag_40 : Int64 → Int32 → Option Int64) (x1_38 : Int64) (x3_39 : Int32) : Option Int64 :=
  (if (5 : Int32) ≤ x3_39 then j_4 x1_38 else bd (m_X0_has fu x3_39 S) (fun v_43 => jn1 (fun (x1_44 : Int64) => nm (x3_39 + (1 : Int32)) (fun x3_46 => ag_40 x1_44 x3_46)) (fun j_45 => (if v_43 = (0 : Int32) then j_45 x1_38 else bd (m_X6_mixedWithFile fu x1_38 x3_39 S) (fun v_49 => j_45 v_49)))))
def m_X6_digest_L6 (fu : Nat) (S : ST) (j_2 : Int64 → Option Int64) (ag_52 : Int64 → Int32 → Option Int64) (x1_50 : Int64) (x3_51 : Int32) : Option Int64 :=
  (if (6 : Int32) ≤ x3_51 then j_2 x1_50 else bd (m_X6_under fu x3_51 (0 : Int32) S) (fun v_55 => bd (m_X6_mixed fu x1_50 ((v_55).toInt64)) (fun v_57 => bd (m_X6_under fu x3_51 (1 : Int32) S) (fun v_59 => bd (m_X6_mixed fu v_57 ((v_59).toInt64)) (fun v_61 => nm (x3_51 + (1 : Int32)) (fun x3_62 => ag_52 v_61 x3_62))))))
def m_X6_digest (fu : Nat) (S : ST) : Option Int64 :=
  jn1 (fun (x1_1 : Int64) => jn1 (fun (x1_3 : Int64) => bd (m_X6_nowhere fu S) (fun v_6 => bd (m_X6_mixed fu x1_3 ((v_6).toInt64)) (fun v_8 => bd (m_X3_stands fu S) (fun v_10 => jn1 (fun (x1_11 : Int64) => jn1 (fun (x1_13 : Int64) => lq2 (m_X6_digest_L138 fu S) fu x1_13 (0 : Int32)) (fun j_14 => lq2 (m_X6_digest_L105 fu S j_14) fu x1_11 (0 : Int32))) (fun j_12 => (if v_10 = (0 : Int32) then j_12 v_8 else bd (m_X6_fits fu S) (fun v_35 => bd (m_X6_mixed fu v_8 ((v_35).toInt64)) (fun v_37 => j_12 v_37)))))))) (fun j_4 => lq2 (m_X6_digest_L44 fu S j_4) fu x1_1 (0 : Int32))) (fun j_2 => lq2 (m_X6_digest_L6 fu S j_2) fu (769 : Int64) (0 : Int32))
set_option maxRecDepth 100000 in
set_option maxHeartbeats 4000000 in
theorem k_X6_digest (l : Launch) (D : va_G) (cy : ClassId) (a : Nat → Nat) (fu : Nat) (S : ST) (r : Int64) (h : m_X6_digest fu S = some r) : CtL l yX6_digest cX6_digest 4 (some .long) 15 [.ref (a 0)] D cy (wD cy a) S r S := by
  refine CtL_of (by decide) (Nat.le_of_ble_eq_true rfl) ?_
  intro p e s m args below meth c A ls hC hr hk hw hl
  have hC : Cx p s m c RX6 cX6_digest 4 args D cy := hC
  have hx := hC.1
  have hb := hC.2.1
  have hl : lv_has ls 4 [(0, .ref (a 0))] := hl
  obtain ⟨H, eH⟩ : ∃ z : Heap, z = s.heap := ⟨_, rfl⟩
  obtain ⟨locs, elocs⟩ : ∃ z : List Loc, z = [] := ⟨_, rfl⟩
  have hw : InW D (wD cy a) A s.heap H locs S := by rw [eH, elocs]; exact hw
  suffices hsu : W p l e (rmN 15) s m args below meth c H locs 0 0 (QL below args s D (wD cy a) A r S) (F0 m 0 ls []) by rw [eH, elocs] at hsu; exact hsu
  unfold m_X6_digest at h
  refine lv_ldc2 hx hb hC.2.2.2.1 (hC.2.2.2.2.1 _ lc_RX6_244) dX6_digest_0 ?_
  refine lv_lstore_n (lv' := [(1, .long (769 : Int64)), (0, .ref (a 0))]) hx hb dX6_digest_3 rfl hl (by decide) rfl (fun ls hl => ?_)
  refine lv_iconst (v := 0) hx hb dX6_digest_4 (by decide) ?_
  refine lv_istore_n (lv' := [(3, .int (0 : Int32)), (1, .long (769 : Int64)), (0, .ref (a 0))]) hx hb dX6_digest_5 rfl hl (by decide) rfl (fun ls hl => ?_)
  refine jn1_ok (fun (x1_1 : Int64) => ∀ (H : Heap) (locs : List Loc) (ls : Array Slot), InW D (wD cy a) A s.heap H locs S → lv_has ls 4 [(0, .ref (a 0)), (1, .long x1_1)] → W p l e (rmN 15) s m args below meth c H locs 0 0 (QL below args s D (wD cy a) A r S) (F0 m 42 ls [])) ?_ ?_ h
  · intro x1_1 h H locs ls hw hl
    refine lv_iconst (v := 0) hx hb dX6_digest_42 (by decide) ?_
    refine lv_istore_n (lv' := [(3, .int (0 : Int32)), (0, .ref (a 0)), (1, .long x1_1)]) hx hb dX6_digest_43 rfl hl (by decide) rfl (fun ls hl => ?_)
    refine jn1_ok (fun (x1_3 : Int64) => ∀ (H : Heap) (locs : List Loc) (ls : Array Slot), InW D (wD cy a) A s.heap H locs S → lv_has ls 4 [(0, .ref (a 0)), (1, .long x1_3)] → W p l e (rmN 15) s m args below meth c H locs 0 0 (QL below args s D (wD cy a) A r S) (F0 m 73 ls [])) ?_ ?_ h
    · intro x1_3 h H locs ls hw hl
      refine lv_lload_n hx hb dX6_digest_73 rfl (lv_at hl 1 rfl) ?_
      refine lv_aload_n hx hb dX6_digest_74 rfl (lv_at hl 0 rfl) ?_
      obtain ⟨v_6, hc_5, h⟩ := bd_at h
      refine caVI (As := []) (rest := [.long x1_3]) hC hw hl.1 lm_RX6_256 li_RX6 lk_yX6_nowhere li_yX6_nowhere ll_yX6_nowhere 0 4 (cD_0 cy a S) rfl 0 rfl hd_X6_nowhere (by decide) (by decide) (Nat.le_of_ble_eq_true rfl) dX6_digest_75 (k_X6_nowhere l D cy a fu S _ hc_5) (fun H locs hw => ?_)
      refine lv_i2l hx hb dX6_digest_78 rfl ?_
      obtain ⟨v_8, hc_7, h⟩ := bd_at h
      refine caSL (As := [.long x1_3, .long (v_6).toInt64]) (rest := []) hC hw hl.1 lm_RX6_249 li_RX6 lk_yX6_mixed ls_yX6_mixed 2 rfl hd_X6_mixed (by decide) (by decide) (Nat.le_of_ble_eq_true rfl) dX6_digest_79 (k_X6_mixed l D cy (wD cy a) S fu x1_3 ((v_6).toInt64) _ hc_7) (fun H locs hw => ?_)
      refine lv_lstore_n (lv' := [(1, .long v_8), (0, .ref (a 0))]) hx hb dX6_digest_82 rfl hl (by decide) rfl (fun ls hl => ?_)
      refine lv_aload_n hx hb dX6_digest_83 rfl (lv_at hl 1 rfl) ?_
      refine gf (v := .ref (a 3)) hC hw in_X6 0 4 1 (cD_0 cy a S) rfl (by decide) lf_RX6_19 rfl rfl dX6_digest_84 ?_
      obtain ⟨v_10, hc_9, h⟩ := bd_at h
      refine caVI (As := []) (rest := []) hC hw hl.1 lm_RX6_105 li_RX3 lk_yX3_stands li_yX3_stands ll_yX3_stands 3 2 (cD_3 cy a S) rfl 0 rfl hd_X3_stands (by decide) (by decide) (Nat.le_of_ble_eq_true rfl) dX6_digest_87 (k_X3_stands l D cy a fu S _ hc_9) (fun H locs hw => ?_)
      refine jn1_ok (fun (x1_11 : Int64) => ∀ (H : Heap) (locs : List Loc) (ls : Array Slot), InW D (wD cy a) A s.heap H locs S → lv_has ls 4 [(0, .ref (a 0)), (1, .long x1_11)] → W p l e (rmN 15) s m args below meth c H locs 0 0 (QL below args s D (wD cy a) A r S) (F0 m 103 ls [])) ?_ ?_ h
      · intro x1_11 h H locs ls hw hl
        refine lv_iconst (v := 0) hx hb dX6_digest_103 (by decide) ?_
        refine lv_istore_n (lv' := [(3, .int (0 : Int32)), (0, .ref (a 0)), (1, .long x1_11)]) hx hb dX6_digest_104 rfl hl (by decide) rfl (fun ls hl => ?_)
        refine jn1_ok (fun (x1_13 : Int64) => ∀ (H : Heap) (locs : List Loc) (ls : Array Slot), InW D (wD cy a) A s.heap H locs S → lv_has ls 4 [(0, .ref (a 0)), (1, .long x1_13)] → W p l e (rmN 15) s m args below meth c H locs 0 0 (QL below args s D (wD cy a) A r S) (F0 m 136 ls [])) ?_ ?_ h
        · intro x1_13 h H locs ls hw hl
          refine lv_iconst (v := 0) hx hb dX6_digest_136 (by decide) ?_
          refine lv_istore_n (lv' := [(3, .int (0 : Int32)), (0, .ref (a 0)), (1, .long x1_13)]) hx hb dX6_digest_137 rfl hl (by decide) rfl (fun ls hl => ?_)
          refine lq2_ok (fun (x1_15 : Int64) (x3_16 : Int32) => ∀ (H : Heap) (locs : List Loc) (ls : Array Slot), InW D (wD cy a) A s.heap H locs S → lv_has ls 4 [(0, .ref (a 0)), (1, .long x1_15), (3, .int x3_16)] → W p l e (rmN 15) s m args below meth c H locs 0 0 (QL below args s D (wD cy a) A r S) (F0 m 138 ls [])) ?_ fu x1_13 (0 : Int32) h H locs ls hw (lv_sub hl [1, 2, 0] rfl)
          intro ag_17 hag_17 x1_15 x3_16 h H locs ls hw hl
          unfold m_X6_digest_L138 at h
          refine lv_iload_n hx hb dX6_digest_138 rfl (lv_at hl 2 rfl) ?_
          refine lv_bipush (v := 10) hx hb dX6_digest_139 (by decide) ?_
          refine lv_icmp_ge (tgt := 161) hx hb dX6_digest_141 (by decide) (fun c_18 => ?_) (fun c_18 => ?_)
          · have h := if_at_t c_18 h
            refine lv_lload_n hx hb dX6_digest_161 rfl (lv_at hl 1 rfl) ?_
            exact rtL hC hr hk hw (so_at h) rfl dX6_digest_162
          · have h := if_at_f c_18 h
            refine lv_lload_n hx hb dX6_digest_144 rfl (lv_at hl 1 rfl) ?_
            refine lv_aload_n hx hb dX6_digest_145 rfl (lv_at hl 0 rfl) ?_
            refine lv_iload_n hx hb dX6_digest_146 rfl (lv_at hl 2 rfl) ?_
            obtain ⟨v_20, hc_19, h⟩ := bd_at h
            refine caVI (As := [.int x3_16]) (rest := [.long x1_15]) hC hw hl.1 lm_RX6_265 li_RX6 lk_yX6_count li_yX6_count ll_yX6_count 0 4 (cD_0 cy a S) rfl 1 rfl hd_X6_count (by decide) (by decide) (Nat.le_of_ble_eq_true rfl) dX6_digest_147 (k_X6_count l D cy a fu x3_16 S _ hc_19) (fun H locs hw => ?_)
            refine lv_i2l hx hb dX6_digest_150 rfl ?_
            obtain ⟨v_22, hc_21, h⟩ := bd_at h
            refine caSL (As := [.long x1_15, .long (v_20).toInt64]) (rest := []) hC hw hl.1 lm_RX6_249 li_RX6 lk_yX6_mixed ls_yX6_mixed 2 rfl hd_X6_mixed (by decide) (by decide) (Nat.le_of_ble_eq_true rfl) dX6_digest_151 (k_X6_mixed l D cy (wD cy a) S fu x1_15 ((v_20).toInt64) _ hc_21) (fun H locs hw => ?_)
            refine lv_lstore_n (lv' := [(1, .long v_22), (0, .ref (a 0)), (3, .int x3_16)]) hx hb dX6_digest_154 rfl hl (by decide) rfl (fun ls hl => ?_)
            obtain ⟨x3_23, ex3_23⟩ : ∃ z : Int32, z = x3_16 + (1 : Int32) := ⟨_, rfl⟩
            have h := nm_at ex3_23 h
            refine lv_iinc (v := x3_23) (lv' := [(3, .int x3_23), (1, .long v_22), (0, .ref (a 0))]) hx hb dX6_digest_155 hl (k := 2) rfl (by rw [ex3_23]; rfl) (by decide) rfl (fun ls hl => ?_)
            refine lv_goto (tgt := 138) hx hb dX6_digest_158 (by decide) ?_
            exact hag_17 v_22 x3_23 h H locs ls hw (lv_sub hl [2, 1, 0] rfl)
        · intro j_14 hj_14 h
          refine lq2_ok (fun (x1_24 : Int64) (x3_25 : Int32) => ∀ (H : Heap) (locs : List Loc) (ls : Array Slot), InW D (wD cy a) A s.heap H locs S → lv_has ls 4 [(0, .ref (a 0)), (1, .long x1_24), (3, .int x3_25)] → W p l e (rmN 15) s m args below meth c H locs 0 0 (QL below args s D (wD cy a) A r S) (F0 m 105 ls [])) ?_ fu x1_11 (0 : Int32) h H locs ls hw (lv_sub hl [1, 2, 0] rfl)
          intro ag_26 hag_26 x1_24 x3_25 h H locs ls hw hl
          unfold m_X6_digest_L105 at h
          refine lv_iload_n hx hb dX6_digest_105 rfl (lv_at hl 2 rfl) ?_
          refine lv_aload_n hx hb dX6_digest_106 rfl (lv_at hl 0 rfl) ?_
          refine gf (v := .ref (a 1)) hC hw in_X6 0 4 0 (cD_0 cy a S) rfl (by decide) lf_RX6_10 rfl rfl dX6_digest_107 ?_
          refine gfN (v := .int (stI S 4)) hC hw in_X4 1 3 1 (cD_1 cy a S) rfl (by decide) lf_RX6_241 rfl rfl dX6_digest_110 ?_
          refine lv_icmp_ge (tgt := 136) hx hb dX6_digest_113 (by decide) (fun c_27 => ?_) (fun c_27 => ?_)
          · have h := if_at_t c_27 h
            exact hj_14 x1_24 h H locs ls hw (lv_sub hl [0, 1] rfl)
          · have h := if_at_f c_27 h
            refine lv_lload_n hx hb dX6_digest_116 rfl (lv_at hl 1 rfl) ?_
            refine lv_aload_n hx hb dX6_digest_117 rfl (lv_at hl 0 rfl) ?_
            refine gf (v := .ref (a 1)) hC hw in_X6 0 4 0 (cD_0 cy a S) rfl (by decide) lf_RX6_10 rfl rfl dX6_digest_118 ?_
            refine lv_iload_n hx hb dX6_digest_121 rfl (lv_at hl 2 rfl) ?_
            obtain ⟨v_29, hc_28, h⟩ := bd_at h
            refine caVI (As := [.int x3_25]) (rest := [.long x1_24]) hC hw hl.1 lm_RX6_262 li_RX4 lk_yX4_codeAt li_yX4_codeAt ll_yX4_codeAt 1 3 (cD_1 cy a S) rfl 1 rfl hd_X4_codeAt (by decide) (by decide) (Nat.le_of_ble_eq_true rfl) dX6_digest_122 (k_X4_codeAt l D cy a fu x3_25 S _ hc_28) (fun H locs hw => ?_)
            refine lv_i2l hx hb dX6_digest_125 rfl ?_
            obtain ⟨v_31, hc_30, h⟩ := bd_at h
            refine caSL (As := [.long x1_24, .long (v_29).toInt64]) (rest := []) hC hw hl.1 lm_RX6_249 li_RX6 lk_yX6_mixed ls_yX6_mixed 2 rfl hd_X6_mixed (by decide) (by decide) (Nat.le_of_ble_eq_true rfl) dX6_digest_126 (k_X6_mixed l D cy (wD cy a) S fu x1_24 ((v_29).toInt64) _ hc_30) (fun H locs hw => ?_)
            refine lv_lstore_n (lv' := [(1, .long v_31), (0, .ref (a 0)), (3, .int x3_25)]) hx hb dX6_digest_129 rfl hl (by decide) rfl (fun ls hl => ?_)
            obtain ⟨x3_32, ex3_32⟩ : ∃ z : Int32, z = x3_25 + (1 : Int32) := ⟨_, rfl⟩
            have h := nm_at ex3_32 h
            refine lv_iinc (v := x3_32) (lv' := [(3, .int x3_32), (1, .long v_31), (0, .ref (a 0))]) hx hb dX6_digest_130 hl (k := 2) rfl (by rw [ex3_32]; rfl) (by decide) rfl (fun ls hl => ?_)
            refine lv_goto (tgt := 105) hx hb dX6_digest_133 (by decide) ?_
            exact hag_26 v_31 x3_32 h H locs ls hw (lv_sub hl [2, 1, 0] rfl)
      · intro j_12 hj_12 h
        refine lv_if_eq (tgt := 103) hx hb dX6_digest_90 (by decide) (fun c_33 => ?_) (fun c_33 => ?_)
        · have h := if_at_t c_33 h
          exact hj_12 v_8 h H locs ls hw (lv_sub hl [1, 0] rfl)
        · have h := if_at_f c_33 h
          refine lv_lload_n hx hb dX6_digest_93 rfl (lv_at hl 0 rfl) ?_
          refine lv_aload_n hx hb dX6_digest_94 rfl (lv_at hl 1 rfl) ?_
          obtain ⟨v_35, hc_34, h⟩ := bd_at h
          refine caVI (As := []) (rest := [.long v_8]) hC hw hl.1 lm_RX6_259 li_RX6 lk_yX6_fits li_yX6_fits ll_yX6_fits 0 4 (cD_0 cy a S) rfl 0 rfl hd_X6_fits (by decide) (by decide) (Nat.le_of_ble_eq_true rfl) dX6_digest_95 (k_X6_fits l D cy a fu S _ hc_34) (fun H locs hw => ?_)
          refine lv_i2l hx hb dX6_digest_98 rfl ?_
          obtain ⟨v_37, hc_36, h⟩ := bd_at h
          refine caSL (As := [.long v_8, .long (v_35).toInt64]) (rest := []) hC hw hl.1 lm_RX6_249 li_RX6 lk_yX6_mixed ls_yX6_mixed 2 rfl hd_X6_mixed (by decide) (by decide) (Nat.le_of_ble_eq_true rfl) dX6_digest_99 (k_X6_mixed l D cy (wD cy a) S fu v_8 ((v_35).toInt64) _ hc_36) (fun H locs hw => ?_)
          refine lv_lstore_n (lv' := [(1, .long v_37), (0, .ref (a 0))]) hx hb dX6_digest_102 rfl hl (by decide) rfl (fun ls hl => ?_)
          exact hj_12 v_37 h H locs ls hw (lv_sub hl [1, 0] rfl)
    · intro j_4 hj_4 h
      refine lq2_ok (fun (x1_38 : Int64) (x3_39 : Int32) => ∀ (H : Heap) (locs : List Loc) (ls : Array Slot), InW D (wD cy a) A s.heap H locs S → lv_has ls 4 [(0, .ref (a 0)), (1, .long x1_38), (3, .int x3_39)] → W p l e (rmN 15) s m args below meth c H locs 0 0 (QL below args s D (wD cy a) A r S) (F0 m 44 ls [])) ?_ fu x1_1 (0 : Int32) h H locs ls hw (lv_sub hl [1, 2, 0] rfl)
      intro ag_40 hag_40 x1_38 x3_39 h H locs ls hw hl
      unfold m_X6_digest_L44 at h
      refine lv_iload_n hx hb dX6_digest_44 rfl (lv_at hl 2 rfl) ?_
      refine lv_iconst (v := 5) hx hb dX6_digest_45 (by decide) ?_
      refine lv_icmp_ge (tgt := 73) hx hb dX6_digest_46 (by decide) (fun c_41 => ?_) (fun c_41 => ?_)
      · have h := if_at_t c_41 h
        exact hj_4 x1_38 h H locs ls hw (lv_sub hl [0, 1] rfl)
      · have h := if_at_f c_41 h
        refine lv_aload_n hx hb dX6_digest_49 rfl (lv_at hl 0 rfl) ?_
        refine gf (v := .ref (a 5)) hC hw in_X6 0 4 2 (cD_0 cy a S) rfl (by decide) lf_RX6_28 rfl rfl dX6_digest_50 ?_
        refine lv_iload_n hx hb dX6_digest_53 rfl (lv_at hl 2 rfl) ?_
        obtain ⟨v_43, hc_42, h⟩ := bd_at h
        refine caVI (As := [.int x3_39]) (rest := []) hC hw hl.1 lm_RX6_119 li_RX0 lk_yX0_has li_yX0_has ll_yX0_has 5 0 (cD_5 cy a S) rfl 1 rfl hd_X0_has (by decide) (by decide) (Nat.le_of_ble_eq_true rfl) dX6_digest_54 (k_X0_has l D cy a fu x3_39 S _ hc_42) (fun H locs hw => ?_)
        refine jn1_ok (fun (x1_44 : Int64) => ∀ (H : Heap) (locs : List Loc) (ls : Array Slot), InW D (wD cy a) A s.heap H locs S → lv_has ls 4 [(0, .ref (a 0)), (1, .long x1_44), (3, .int x3_39)] → W p l e (rmN 15) s m args below meth c H locs 0 0 (QL below args s D (wD cy a) A r S) (F0 m 67 ls [])) ?_ ?_ h
        · intro x1_44 h H locs ls hw hl
          obtain ⟨x3_46, ex3_46⟩ : ∃ z : Int32, z = x3_39 + (1 : Int32) := ⟨_, rfl⟩
          have h := nm_at ex3_46 h
          refine lv_iinc (v := x3_46) (lv' := [(3, .int x3_46), (0, .ref (a 0)), (1, .long x1_44)]) hx hb dX6_digest_67 hl (k := 2) rfl (by rw [ex3_46]; rfl) (by decide) rfl (fun ls hl => ?_)
          refine lv_goto (tgt := 44) hx hb dX6_digest_70 (by decide) ?_
          exact hag_40 x1_44 x3_46 h H locs ls hw (lv_sub hl [1, 2, 0] rfl)
        · intro j_45 hj_45 h
          refine lv_if_eq (tgt := 67) hx hb dX6_digest_57 (by decide) (fun c_47 => ?_) (fun c_47 => ?_)
          · have h := if_at_t c_47 h
            exact hj_45 x1_38 h H locs ls hw (lv_sub hl [0, 1, 2] rfl)
          · have h := if_at_f c_47 h
            refine lv_aload_n hx hb dX6_digest_60 rfl (lv_at hl 0 rfl) ?_
            refine lv_lload_n hx hb dX6_digest_61 rfl (lv_at hl 1 rfl) ?_
            refine lv_iload_n hx hb dX6_digest_62 rfl (lv_at hl 2 rfl) ?_
            obtain ⟨v_49, hc_48, h⟩ := bd_at h
            refine caVL (As := [.long x1_38, .int x3_39]) (rest := []) hC hw hl.1 lm_RX6_253 li_RX6 lk_yX6_mixedWithFile li_yX6_mixedWithFile ll_yX6_mixedWithFile 0 4 (cD_0 cy a S) rfl 2 rfl hd_X6_mixedWithFile (by decide) (by decide) (Nat.le_of_ble_eq_true rfl) dX6_digest_63 (k_X6_mixedWithFile l D cy a fu x1_38 x3_39 S _ hc_48) (fun H locs hw => ?_)
            refine lv_lstore_n (lv' := [(1, .long v_49), (0, .ref (a 0)), (3, .int x3_39)]) hx hb dX6_digest_66 rfl hl (by decide) rfl (fun ls hl => ?_)
            exact hj_45 v_49 h H locs ls hw (lv_sub hl [1, 0, 2] rfl)
  · intro j_2 hj_2 h
    refine lq2_ok (fun (x1_50 : Int64) (x3_51 : Int32) => ∀ (H : Heap) (locs : List Loc) (ls : Array Slot), InW D (wD cy a) A s.heap H locs S → lv_has ls 4 [(0, .ref (a 0)), (1, .long x1_50), (3, .int x3_51)] → W p l e (rmN 15) s m args below meth c H locs 0 0 (QL below args s D (wD cy a) A r S) (F0 m 6 ls [])) ?_ fu (769 : Int64) (0 : Int32) h H locs ls hw (lv_sub hl [2, 1, 0] rfl)
    intro ag_52 hag_52 x1_50 x3_51 h H locs ls hw hl
    unfold m_X6_digest_L6 at h
    refine lv_iload_n hx hb dX6_digest_6 rfl (lv_at hl 2 rfl) ?_
    refine lv_bipush (v := 6) hx hb dX6_digest_7 (by decide) ?_
    refine lv_icmp_ge (tgt := 42) hx hb dX6_digest_9 (by decide) (fun c_53 => ?_) (fun c_53 => ?_)
    · have h := if_at_t c_53 h
      exact hj_2 x1_50 h H locs ls hw (lv_sub hl [0, 1] rfl)
    · have h := if_at_f c_53 h
      refine lv_lload_n hx hb dX6_digest_12 rfl (lv_at hl 1 rfl) ?_
      refine lv_aload_n hx hb dX6_digest_13 rfl (lv_at hl 0 rfl) ?_
      refine lv_iload_n hx hb dX6_digest_14 rfl (lv_at hl 2 rfl) ?_
      refine lv_iconst (v := 0) hx hb dX6_digest_15 (by decide) ?_
      obtain ⟨v_55, hc_54, h⟩ := bd_at h
      refine caVI (As := [.int x3_51, .int (0 : Int32)]) (rest := [.long x1_50]) hC hw hl.1 lm_RX6_246 li_RX6 lk_yX6_under li_yX6_under ll_yX6_under 0 4 (cD_0 cy a S) rfl 2 rfl hd_X6_under (by decide) (by decide) (Nat.le_of_ble_eq_true rfl) dX6_digest_16 (k_X6_under l D cy a fu x3_51 (0 : Int32) S _ hc_54) (fun H locs hw => ?_)
      refine lv_i2l hx hb dX6_digest_19 rfl ?_
      obtain ⟨v_57, hc_56, h⟩ := bd_at h
      refine caSL (As := [.long x1_50, .long (v_55).toInt64]) (rest := []) hC hw hl.1 lm_RX6_249 li_RX6 lk_yX6_mixed ls_yX6_mixed 2 rfl hd_X6_mixed (by decide) (by decide) (Nat.le_of_ble_eq_true rfl) dX6_digest_20 (k_X6_mixed l D cy (wD cy a) S fu x1_50 ((v_55).toInt64) _ hc_56) (fun H locs hw => ?_)
      refine lv_lstore_n (lv' := [(1, .long v_57), (0, .ref (a 0)), (3, .int x3_51)]) hx hb dX6_digest_23 rfl hl (by decide) rfl (fun ls hl => ?_)
      refine lv_lload_n hx hb dX6_digest_24 rfl (lv_at hl 0 rfl) ?_
      refine lv_aload_n hx hb dX6_digest_25 rfl (lv_at hl 1 rfl) ?_
      refine lv_iload_n hx hb dX6_digest_26 rfl (lv_at hl 2 rfl) ?_
      refine lv_iconst (v := 1) hx hb dX6_digest_27 (by decide) ?_
      obtain ⟨v_59, hc_58, h⟩ := bd_at h
      refine caVI (As := [.int x3_51, .int (1 : Int32)]) (rest := [.long v_57]) hC hw hl.1 lm_RX6_246 li_RX6 lk_yX6_under li_yX6_under ll_yX6_under 0 4 (cD_0 cy a S) rfl 2 rfl hd_X6_under (by decide) (by decide) (Nat.le_of_ble_eq_true rfl) dX6_digest_28 (k_X6_under l D cy a fu x3_51 (1 : Int32) S _ hc_58) (fun H locs hw => ?_)
      refine lv_i2l hx hb dX6_digest_31 rfl ?_
      obtain ⟨v_61, hc_60, h⟩ := bd_at h
      refine caSL (As := [.long v_57, .long (v_59).toInt64]) (rest := []) hC hw hl.1 lm_RX6_249 li_RX6 lk_yX6_mixed ls_yX6_mixed 2 rfl hd_X6_mixed (by decide) (by decide) (Nat.le_of_ble_eq_true rfl) dX6_digest_32 (k_X6_mixed l D cy (wD cy a) S fu v_57 ((v_59).toInt64) _ hc_60) (fun H locs hw => ?_)
      refine lv_lstore_n (lv' := [(1, .long v_61), (0, .ref (a 0)), (3, .int x3_51)]) hx hb dX6_digest_35 rfl hl (by decide) rfl (fun ls hl => ?_)
      obtain ⟨x3_62, ex3_62⟩ : ∃ z : Int32, z = x3_51 + (1 : Int32) := ⟨_, rfl⟩
      have h := nm_at ex3_62 h
      refine lv_iinc (v := x3_62) (lv' := [(3, .int x3_62), (1, .long v_61), (0, .ref (a 0))]) hx hb dX6_digest_36 hl (k := 2) rfl (by rw [ex3_62]; rfl) (by decide) rfl (fun ls hl => ?_)
      refine lv_goto (tgt := 6) hx hb dX6_digest_39 (by decide) ?_
      exact hag_52 v_61 x3_62 h H locs ls hw (lv_sub hl [2, 1, 0] rfl)
