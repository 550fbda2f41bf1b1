def m_X6_letter (fu : Nat) (x1 : Int32) (S : ST) : Option (Int32 × ST) :=
  (if x1 < (1 : Int32) then some ((-102 : Int32), S) else (if x1 ≤ (126 : Int32) then bd (m_X4_isFull fu S) (fun v_4 => (if v_4 = (0 : Int32) then bd2 (m_X4_append fu x1 S) (fun v_7 S_8 => some (v_7, S_8)) else some ((-104 : Int32), S))) else some ((-102 : Int32), S)))
set_option maxRecDepth 100000 in
set_option maxHeartbeats 4000000 in
theorem k_X6_letter (l : Launch) (D : va_G) (cy : ClassId) (a : Nat → Nat) (fu : Nat) (x1 : Int32) (S : ST) (r : Int32) (S' : ST) (h : m_X6_letter fu x1 S = some (r, S')) : CtI l yX6_letter cX6_letter 2 (some .int) 1 [.ref (a 0), .int x1] D cy (wD cy a) S r S' := by
  refine CtI_of (by decide) (Nat.le_of_ble_eq_true rfl) ?_
  intro p e s m args below meth c A ls hC hr hk hw hl
  have hC : Cx p s m c RX6 cX6_letter 2 args D cy := hC
  have hx := hC.1
  have hb := hC.2.1
  have hl : lv_has ls 2 [(0, .ref (a 0)), (1, .int x1)] := hl
  obtain ⟨H, eH⟩ : ∃ z : Heap, z = s.heap := ⟨_, rfl⟩
  obtain ⟨locs, elocs⟩ : ∃ z : List Loc, z = [] := ⟨_, rfl⟩
  have hw : InW D (wD cy a) A s.heap H locs S := by rw [eH, elocs]; exact hw
  suffices hsu : W p l e (rmN 1) s m args below meth c H locs 0 0 (QI below args s D (wD cy a) A r S') (F0 m 0 ls []) by rw [eH, elocs] at hsu; exact hsu
  unfold m_X6_letter at h
  refine lv_iload_n hx hb dX6_letter_0 rfl (lv_at hl 1 rfl) ?_
  refine lv_iconst (v := 1) hx hb dX6_letter_1 (by decide) ?_
  refine lv_icmp_lt (tgt := 11) hx hb dX6_letter_2 (by decide) (fun c_1 => ?_) (fun c_1 => ?_)
  · have h := if_at_t c_1 h
    refine lv_bipush (v := -102) hx hb dX6_letter_11 (by decide) ?_
    exact rtI hC hr hk hw (so_at2 h).1 (so_at2 h).2 dX6_letter_13
  · have h := if_at_f c_1 h
    refine lv_iload_n hx hb dX6_letter_5 rfl (lv_at hl 1 rfl) ?_
    refine lv_bipush (v := 126) hx hb dX6_letter_6 (by decide) ?_
    refine lv_icmp_le (tgt := 14) hx hb dX6_letter_8 (by decide) (fun c_2 => ?_) (fun c_2 => ?_)
    · have h := if_at_t c_2 h
      refine lv_aload_n hx hb dX6_letter_14 rfl (lv_at hl 0 rfl) ?_
      refine gf (v := .ref (a 1)) hC hw in_X6 0 4 0 (cD_0 cy a S) rfl (by decide) lf_RX6_10 rfl rfl dX6_letter_15 ?_
      obtain ⟨v_4, hc_3, h⟩ := bd_at h
      refine caVI (As := []) (rest := []) hC hw hl.1 lm_RX6_44 li_RX4 lk_yX4_isFull li_yX4_isFull ll_yX4_isFull 1 3 (cD_1 cy a S) rfl 0 rfl hd_X4_isFull (by decide) (by decide) (Nat.le_of_ble_eq_true rfl) dX6_letter_18 (k_X4_isFull l D cy a fu S _ hc_3) (fun H locs hw => ?_)
      refine lv_if_eq (tgt := 27) hx hb dX6_letter_21 (by decide) (fun c_5 => ?_) (fun c_5 => ?_)
      · have h := if_at_t c_5 h
        refine lv_aload_n hx hb dX6_letter_27 rfl (lv_at hl 0 rfl) ?_
        refine gf (v := .ref (a 1)) hC hw in_X6 0 4 0 (cD_0 cy a S) rfl (by decide) lf_RX6_10 rfl rfl dX6_letter_28 ?_
        refine lv_iload_n hx hb dX6_letter_31 rfl (lv_at hl 1 rfl) ?_
        obtain ⟨v_7, S_8, hc_6, h⟩ := bd2_at h
        refine caVI (As := [.int x1]) (rest := []) hC hw hl.1 lm_RX6_48 li_RX4 lk_yX4_append li_yX4_append ll_yX4_append 1 3 (cD_1 cy a S) rfl 1 rfl hd_X4_append (by decide) (by decide) (Nat.le_of_ble_eq_true rfl) dX6_letter_32 (k_X4_append l D cy a fu x1 S _ _ hc_6) (fun H locs hw => ?_)
        exact rtI hC hr hk hw (so_at2 h).1 (so_at2 h).2 dX6_letter_35
      · have h := if_at_f c_5 h
        refine lv_bipush (v := -104) hx hb dX6_letter_24 (by decide) ?_
        exact rtI hC hr hk hw (so_at2 h).1 (so_at2 h).2 dX6_letter_26
    · have h := if_at_f c_2 h
      refine lv_bipush (v := -102) hx hb dX6_letter_11 (by decide) ?_
      exact rtI hC hr hk hw (so_at2 h).1 (so_at2 h).2 dX6_letter_13
def m_X6_blank (fu : Nat) (S : ST) : Option (Int32 × ST) :=
  bd2 (m_X4_clear fu S) (fun v_2 S_3 => some (v_2, S_3))
set_option maxRecDepth 100000 in
set_option maxHeartbeats 4000000 in
theorem k_X6_blank (l : Launch) (D : va_G) (cy : ClassId) (a : Nat → Nat) (fu : Nat) (S : ST) (r : Int32) (S' : ST) (h : m_X6_blank fu S = some (r, S')) : CtI l yX6_blank cX6_blank 1 (some .int) 1 [.ref (a 0)] D cy (wD cy a) S r S' := by
  refine CtI_of (by decide) (Nat.le_of_ble_eq_true rfl) ?_
  intro p e s m args below meth c A ls hC hr hk hw hl
  have hC : Cx p s m c RX6 cX6_blank 1 args D cy := hC
  have hx := hC.1
  have hb := hC.2.1
  have hl : lv_has ls 1 [(0, .ref (a 0))] := hl
  obtain ⟨H, eH⟩ : ∃ z : Heap, z = s.heap := ⟨_, rfl⟩
  obtain ⟨locs, elocs⟩ : ∃ z : List Loc, z = [] := ⟨_, rfl⟩
  have hw : InW D (wD cy a) A s.heap H locs S := by rw [eH, elocs]; exact hw
  suffices hsu : W p l e (rmN 1) s m args below meth c H locs 0 0 (QI below args s D (wD cy a) A r S') (F0 m 0 ls []) by rw [eH, elocs] at hsu; exact hsu
  unfold m_X6_blank at h
  refine lv_aload_n hx hb dX6_blank_0 rfl (lv_at hl 0 rfl) ?_
  refine gf (v := .ref (a 1)) hC hw in_X6 0 4 0 (cD_0 cy a S) rfl (by decide) lf_RX6_10 rfl rfl dX6_blank_1 ?_
  obtain ⟨v_2, S_3, hc_1, h⟩ := bd2_at h
  refine caVI (As := []) (rest := []) hC hw hl.1 lm_RX6_52 li_RX4 lk_yX4_clear li_yX4_clear ll_yX4_clear 1 3 (cD_1 cy a S) rfl 0 rfl hd_X4_clear (by decide) (by decide) (Nat.le_of_ble_eq_true rfl) dX6_blank_4 (k_X4_clear l D cy a fu S _ _ hc_1) (fun H locs hw => ?_)
  exact rtI hC hr hk hw (so_at2 h).1 (so_at2 h).2 dX6_blank_7
def m_X6_fault (fu : Nat) (S : ST) : Option Int32 :=
  bd (m_X4_firstFault fu S) (fun v_2 => some v_2)
set_option maxRecDepth 100000 in
set_option maxHeartbeats 4000000 in
theorem k_X6_fault (l : Launch) (D : va_G) (cy : ClassId) (a : Nat → Nat) (fu : Nat) (S : ST) (r : Int32) (h : m_X6_fault fu S = some r) : CtI l yX6_fault cX6_fault 1 (some .int) 4 [.ref (a 0)] D cy (wD cy a) S r S := by
  refine CtI_of (by decide) (Nat.le_of_ble_eq_true rfl) ?_
  intro p e s m args below meth c A ls hC hr hk hw hl
  have hC : Cx p s m c RX6 cX6_fault 1 args D cy := hC
  have hx := hC.1
  have hb := hC.2.1
  have hl : lv_has ls 1 [(0, .ref (a 0))] := hl
  obtain ⟨H, eH⟩ : ∃ z : Heap, z = s.heap := ⟨_, rfl⟩
  obtain ⟨locs, elocs⟩ : ∃ z : List Loc, z = [] := ⟨_, rfl⟩
  have hw : InW D (wD cy a) A s.heap H locs S := by rw [eH, elocs]; exact hw
  suffices hsu : W p l e (rmN 4) s m args below meth c H locs 0 0 (QI below args s D (wD cy a) A r S) (F0 m 0 ls []) by rw [eH, elocs] at hsu; exact hsu
  unfold m_X6_fault at h
  refine lv_aload_n hx hb dX6_fault_0 rfl (lv_at hl 0 rfl) ?_
  refine gf (v := .ref (a 1)) hC hw in_X6 0 4 0 (cD_0 cy a S) rfl (by decide) lf_RX6_10 rfl rfl dX6_fault_1 ?_
  obtain ⟨v_2, hc_1, h⟩ := bd_at h
  refine caVI (As := []) (rest := []) hC hw hl.1 lm_RX6_56 li_RX4 lk_yX4_firstFault li_yX4_firstFault ll_yX4_firstFault 1 3 (cD_1 cy a S) rfl 0 rfl hd_X4_firstFault (by decide) (by decide) (Nat.le_of_ble_eq_true rfl) dX6_fault_4 (k_X4_firstFault l D cy a fu S _ hc_1) (fun H locs hw => ?_)
  exact rtI hC hr hk hw (so_at h) rfl dX6_fault_7
def m_X6_law (fu : Nat) (S : ST) : Option (Int32 × ST) :=
  bd (m_X4_isLaw fu S) (fun v_2 => (if v_2 = (0 : Int32) then some ((-103 : Int32), S) else bd (m_X3_read_1 fu S) (fun S_5 => bd2 (m_X4_clear fu S_5) (fun v_7 S_8 => bd (m_X0_clear fu S_8) (fun S_10 => nm (puI S_10 0 (0 : Int32)) (fun S_11 => nm (puI S_11 1 (((stI S_11 1) + (1 : Int32)))) (fun S_12 => some ((stI S_12 5), S_12))))))))
set_option maxRecDepth 100000 in
set_option maxHeartbeats 4000000 in
theorem k_X6_law (l : Launch) (D : va_G) (cy : ClassId) (a : Nat → Nat) (fu : Nat) (S : ST) (r : Int32) (S' : ST) (h : m_X6_law fu S = some (r, S')) : CtI l yX6_law cX6_law 1 (some .int) 5 [.ref (a 0)] D cy (wD cy a) S r S' := by
  refine CtI_of (by decide) (Nat.le_of_ble_eq_true rfl) ?_
  intro p e s m args below meth c A ls hC hr hk hw hl
  have hC : Cx p s m c RX6 cX6_law 1 args D cy := hC
  have hx := hC.1
  have hb := hC.2.1
  have hl : lv_has ls 1 [(0, .ref (a 0))] := hl
  obtain ⟨H, eH⟩ : ∃ z : Heap, z = s.heap := ⟨_, rfl⟩
  obtain ⟨locs, elocs⟩ : ∃ z : List Loc, z = [] := ⟨_, rfl⟩
  have hw : InW D (wD cy a) A s.heap H locs S := by rw [eH, elocs]; exact hw
  suffices hsu : W p l e (rmN 5) s m args below meth c H locs 0 0 (QI below args s D (wD cy a) A r S') (F0 m 0 ls []) by rw [eH, elocs] at hsu; exact hsu
  unfold m_X6_law at h
  refine lv_aload_n hx hb dX6_law_0 rfl (lv_at hl 0 rfl) ?_
  refine gf (v := .ref (a 1)) hC hw in_X6 0 4 0 (cD_0 cy a S) rfl (by decide) lf_RX6_10 rfl rfl dX6_law_1 ?_
  obtain ⟨v_2, hc_1, h⟩ := bd_at h
  refine caVI (As := []) (rest := []) hC hw hl.1 lm_RX6_59 li_RX4 lk_yX4_isLaw li_yX4_isLaw ll_yX4_isLaw 1 3 (cD_1 cy a S) rfl 0 rfl hd_X4_isLaw (by decide) (by decide) (Nat.le_of_ble_eq_true rfl) dX6_law_4 (k_X4_isLaw l D cy a fu S _ hc_1) (fun H locs hw => ?_)
  refine lv_if_ne (tgt := 13) hx hb dX6_law_7 (by decide) (fun c_3 => ?_) (fun c_3 => ?_)
  · have h := if_at_f c_3 h
    refine lv_aload_n hx hb dX6_law_13 rfl (lv_at hl 0 rfl) ?_
    refine gf (v := .ref (a 3)) hC hw in_X6 0 4 1 (cD_0 cy a S) rfl (by decide) lf_RX6_19 rfl rfl dX6_law_14 ?_
    refine lv_aload_n hx hb dX6_law_17 rfl (lv_at hl 0 rfl) ?_
    refine gf (v := .ref (a 1)) hC hw in_X6 0 4 0 (cD_0 cy a S) rfl (by decide) lf_RX6_10 rfl rfl dX6_law_18 ?_
    obtain ⟨S_5, hc_4, h⟩ := bd_at h
    refine caVV (As := [.ref (a 1)]) (rest := []) hC hw hl.1 lm_RX6_62 li_RX3 lk_yX3_read li_yX3_read ll_yX3_read 3 2 (cD_3 cy a S) rfl 1 rfl hd_X3_read (by decide) (by decide) (Nat.le_of_ble_eq_true rfl) dX6_law_21 (k_X3_read_1 l D cy a fu S _ hc_4) (fun H locs hw => ?_)
    refine lv_aload_n hx hb dX6_law_24 rfl (lv_at hl 0 rfl) ?_
    refine gf (v := .ref (a 1)) hC hw in_X6 0 4 0 (cD_0 cy a S_5) rfl (by decide) lf_RX6_10 rfl rfl dX6_law_25 ?_
    obtain ⟨v_7, S_8, hc_6, h⟩ := bd2_at h
    refine caVI (As := []) (rest := []) hC hw hl.1 lm_RX6_52 li_RX4 lk_yX4_clear li_yX4_clear ll_yX4_clear 1 3 (cD_1 cy a S_5) rfl 0 rfl hd_X4_clear (by decide) (by decide) (Nat.le_of_ble_eq_true rfl) dX6_law_28 (k_X4_clear l D cy a fu S_5 _ _ hc_6) (fun H locs hw => ?_)
    refine lv_pop hx hb dX6_law_31 rfl ?_
    refine lv_aload_n hx hb dX6_law_32 rfl (lv_at hl 0 rfl) ?_
    refine gf (v := .ref (a 5)) hC hw in_X6 0 4 2 (cD_0 cy a S_8) rfl (by decide) lf_RX6_28 rfl rfl dX6_law_33 ?_
    obtain ⟨S_10, hc_9, h⟩ := bd_at h
    refine caVV (As := []) (rest := []) hC hw hl.1 lm_RX6_66 li_RX0 lk_yX0_clear li_yX0_clear ll_yX0_clear 5 0 (cD_5 cy a S_8) rfl 0 rfl hd_X0_clear (by decide) (by decide) (Nat.le_of_ble_eq_true rfl) dX6_law_36 (k_X0_clear l D cy a fu S_8 _ hc_9) (fun H locs hw => ?_)
    refine lv_aload_n hx hb dX6_law_39 rfl (lv_at hl 0 rfl) ?_
    refine lv_iconst (v := 0) hx hb dX6_law_40 (by decide) ?_
    refine pf (ty := .boolean) (v := .int (0 : Int32)) hC hw in_X6 tyX6_ok nmX6 0 4 5 (cD_0 cy a S_10) rfl (by decide) lf_RX6_68 rfl rfl (by decide +kernel) rfl rfl (Nat.le_of_ble_eq_true rfl) (sD_0_5 cy a S_10 (0 : Int32)) dX6_law_41 (fun H locs hw => ?_)
    obtain ⟨S_11, hw, h⟩ := nmw (P := fun z => InW D (wD cy a) A s.heap H locs z) hw h
    refine lv_aload_n hx hb dX6_law_44 rfl (lv_at hl 0 rfl) ?_
    refine lv_dup hx hb dX6_law_45 rfl ?_
    refine gf (v := .int (stI S_11 1)) hC hw in_X6 0 4 6 (cD_0 cy a S_11) rfl (by decide) lf_RX6_72 rfl rfl dX6_law_46 ?_
    refine lv_iconst (v := 1) hx hb dX6_law_49 (by decide) ?_
    refine lv_iadd hx hb dX6_law_50 ?_
    refine pf (ty := .int) (v := .int (((stI S_11 1) + (1 : Int32)))) hC hw in_X6 tyX6_ok nmX6 0 4 6 (cD_0 cy a S_11) rfl (by decide) lf_RX6_72 rfl rfl (by decide +kernel) rfl rfl (Nat.le_of_ble_eq_true rfl) (sD_0_6 cy a S_11 (((stI S_11 1) + (1 : Int32)))) dX6_law_51 (fun H locs hw => ?_)
    obtain ⟨S_12, hw, h⟩ := nmw (P := fun z => InW D (wD cy a) A s.heap H locs z) hw h
    refine lv_aload_n hx hb dX6_law_54 rfl (lv_at hl 0 rfl) ?_
    refine gf (v := .ref (a 3)) hC hw in_X6 0 4 1 (cD_0 cy a S_12) rfl (by decide) lf_RX6_19 rfl rfl dX6_law_55 ?_
    refine gfN (v := .int (stI S_12 5)) hC hw in_X3 3 2 1 (cD_3 cy a S_12) rfl (by decide) lf_RX6_76 rfl rfl dX6_law_58 ?_
    exact rtI hC hr hk hw (so_at2 h).1 (so_at2 h).2 dX6_law_61
  · have h := if_at_t c_3 h
    refine lv_bipush (v := -103) hx hb dX6_law_10 (by decide) ?_
    exact rtI hC hr hk hw (so_at2 h).1 (so_at2 h).2 dX6_law_12
def m_X6_under (fu : Nat) (x1 : Int32) (x2 : Int32) (S : ST) : Option Int32 :=
  bd (m_X6_isLetter fu x1) (fun v_2 => (if v_2 = (0 : Int32) then some (-101 : Int32) else bd (m_X6_within fu x2 (0 : Int32) (1 : Int32)) (fun v_5 => (if v_5 = (0 : Int32) then some (-102 : Int32) else (if x2 = (0 : Int32) then bd (m_X3_tenthsOf fu x1 S) (fun v_11 => some v_11) else bd (m_X5_fullness fu ((stL S 0)) x1) (fun v_9 => some v_9))))))
set_option maxRecDepth 100000 in
set_option maxHeartbeats 4000000 in
theorem k_X6_under (l : Launch) (D : va_G) (cy : ClassId) (a : Nat → Nat) (fu : Nat) (x1 : Int32) (x2 : Int32) (S : ST) (r : Int32) (h : m_X6_under fu x1 x2 S = some r) : CtI l yX6_under cX6_under 3 (some .int) 2 [.ref (a 0), .int x1, .int x2] D cy (wD cy a) S r S := by
  refine CtI_of (by decide) (Nat.le_of_ble_eq_true rfl) ?_
  intro p e s m args below meth c A ls hC hr hk hw hl
  have hC : Cx p s m c RX6 cX6_under 3 args D cy := hC
  have hx := hC.1
  have hb := hC.2.1
  have hl : lv_has ls 3 [(0, .ref (a 0)), (1, .int x1), (2, .int x2)] := hl
  obtain ⟨H, eH⟩ : ∃ z : Heap, z = s.heap := ⟨_, rfl⟩
  obtain ⟨locs, elocs⟩ : ∃ z : List Loc, z = [] := ⟨_, rfl⟩
  have hw : InW D (wD cy a) A s.heap H locs S := by rw [eH, elocs]; exact hw
  suffices hsu : W p l e (rmN 2) s m args below meth c H locs 0 0 (QI below args s D (wD cy a) A r S) (F0 m 0 ls []) by rw [eH, elocs] at hsu; exact hsu
  unfold m_X6_under at h
  refine lv_iload_n hx hb dX6_under_0 rfl (lv_at hl 1 rfl) ?_
  obtain ⟨v_2, hc_1, h⟩ := bd_at h
  refine caSI (As := [.int x1]) (rest := []) hC hw hl.1 lm_RX6_79 li_RX6 lk_yX6_isLetter ls_yX6_isLetter 1 rfl hd_X6_isLetter (by decide) (by decide) (Nat.le_of_ble_eq_true rfl) dX6_under_1 (k_X6_isLetter l D cy (wD cy a) S fu x1 _ hc_1) (fun H locs hw => ?_)
  refine lv_if_ne (tgt := 10) hx hb dX6_under_4 (by decide) (fun c_3 => ?_) (fun c_3 => ?_)
  · have h := if_at_f c_3 h
    refine lv_iload_n hx hb dX6_under_10 rfl (lv_at hl 2 rfl) ?_
    refine lv_iconst (v := 0) hx hb dX6_under_11 (by decide) ?_
    refine lv_iconst (v := 1) hx hb dX6_under_12 (by decide) ?_
    obtain ⟨v_5, hc_4, h⟩ := bd_at h
    refine caSI (As := [.int x2, .int (0 : Int32), .int (1 : Int32)]) (rest := []) hC hw hl.1 lm_RX6_83 li_RX6 lk_yX6_within ls_yX6_within 3 rfl hd_X6_within (by decide) (by decide) (Nat.le_of_ble_eq_true rfl) dX6_under_13 (k_X6_within l D cy (wD cy a) S fu x2 (0 : Int32) (1 : Int32) _ hc_4) (fun H locs hw => ?_)
    refine lv_if_ne (tgt := 22) hx hb dX6_under_16 (by decide) (fun c_6 => ?_) (fun c_6 => ?_)
    · have h := if_at_f c_6 h
      refine lv_iload_n hx hb dX6_under_22 rfl (lv_at hl 2 rfl) ?_
      refine lv_if_ne (tgt := 37) hx hb dX6_under_23 (by decide) (fun c_7 => ?_) (fun c_7 => ?_)
      · have h := if_at_f c_7 h
        refine lv_aload_n hx hb dX6_under_37 rfl (lv_at hl 0 rfl) ?_
        refine gf (v := .ref (a 5)) hC hw in_X6 0 4 2 (cD_0 cy a S) rfl (by decide) lf_RX6_28 rfl rfl dX6_under_38 ?_
        refine gfN (v := .long (stL S 0)) hC hw in_X0 5 0 5 (cD_5 cy a S) rfl (by decide) lf_RX6_90 rfl rfl dX6_under_41 ?_
        refine lv_iload_n hx hb dX6_under_44 rfl (lv_at hl 1 rfl) ?_
        obtain ⟨v_9, hc_8, h⟩ := bd_at h
        refine caSI (As := [.long (stL S 0), .int x1]) (rest := []) hC hw hl.1 lm_RX6_94 li_RX5 lk_yX5_fullness ls_yX5_fullness 2 rfl hd_X5_fullness (by decide) (by decide) (Nat.le_of_ble_eq_true rfl) dX6_under_45 (k_X5_fullness l D cy (wD cy a) S fu ((stL S 0)) x1 _ hc_8) (fun H locs hw => ?_)
        exact rtI hC hr hk hw (so_at h) rfl dX6_under_48
      · have h := if_at_t c_7 h
        refine lv_aload_n hx hb dX6_under_26 rfl (lv_at hl 0 rfl) ?_
        refine gf (v := .ref (a 3)) hC hw in_X6 0 4 1 (cD_0 cy a S) rfl (by decide) lf_RX6_19 rfl rfl dX6_under_27 ?_
        refine lv_iload_n hx hb dX6_under_30 rfl (lv_at hl 1 rfl) ?_
        obtain ⟨v_11, hc_10, h⟩ := bd_at h
        refine caVI (As := [.int x1]) (rest := []) hC hw hl.1 lm_RX6_87 li_RX3 lk_yX3_tenthsOf li_yX3_tenthsOf ll_yX3_tenthsOf 3 2 (cD_3 cy a S) rfl 1 rfl hd_X3_tenthsOf (by decide) (by decide) (Nat.le_of_ble_eq_true rfl) dX6_under_31 (k_X3_tenthsOf l D cy a fu x1 S _ hc_10) (fun H locs hw => ?_)
        refine lv_goto (tgt := 48) hx hb dX6_under_34 (by decide) ?_
        exact rtI hC hr hk hw (so_at h) rfl dX6_under_48
    · have h := if_at_t c_6 h
      refine lv_bipush (v := -102) hx hb dX6_under_19 (by decide) ?_
      exact rtI hC hr hk hw (so_at h) rfl dX6_under_21
  · have h := if_at_t c_3 h
    refine lv_bipush (v := -101) hx hb dX6_under_7 (by decide) ?_
    exact rtI hC hr hk hw (so_at h) rfl dX6_under_9
def m_X6_file (fu : Nat) (x1 : Int32) (x2 : Int32) (S : ST) : Option (Int32 × ST) :=
  bd (m_X2_isKind fu x1) (fun v_2 => (if v_2 = (0 : Int32) then some ((-102 : Int32), S) else bd (m_X6_isLetter fu x2) (fun v_5 => (if v_5 = (0 : Int32) then some ((-101 : Int32), S) else bd (m_X3_stands fu S) (fun v_8 => (if v_8 = (0 : Int32) then some ((-103 : Int32), S) else bd (m_X0_hasRoom fu ((stL S 0)) x2 S) (fun v_11 => (if v_11 = (0 : Int32) then some ((-103 : Int32), S) else (if (stI S 6) < (5 : Int32) then bd2 (m_X0_add fu x1 x2 S) (fun v_15 S_16 => some (v_15, S_16)) else some ((-104 : Int32), S))))))))))
set_option maxRecDepth 100000 in
set_option maxHeartbeats 4000000 in
theorem k_X6_file (l : Launch) (D : va_G) (cy : ClassId) (a : Nat → Nat) (fu : Nat) (x1 : Int32) (x2 : Int32) (S : ST) (r : Int32) (S' : ST) (h : m_X6_file fu x1 x2 S = some (r, S')) : CtI l yX6_file cX6_file 3 (some .int) 3 [.ref (a 0), .int x1, .int x2] D cy (wD cy a) S r S' := by
  refine CtI_of (by decide) (Nat.le_of_ble_eq_true rfl) ?_
  intro p e s m args below meth c A ls hC hr hk hw hl
  have hC : Cx p s m c RX6 cX6_file 3 args D cy := hC
  have hx := hC.1
  have hb := hC.2.1
  have hl : lv_has ls 3 [(0, .ref (a 0)), (1, .int x1), (2, .int x2)] := hl
  obtain ⟨H, eH⟩ : ∃ z : Heap, z = s.heap := ⟨_, rfl⟩
  obtain ⟨locs, elocs⟩ : ∃ z : List Loc, z = [] := ⟨_, rfl⟩
  have hw : InW D (wD cy a) A s.heap H locs S := by rw [eH, elocs]; exact hw
  suffices hsu : W p l e (rmN 3) s m args below meth c H locs 0 0 (QI below args s D (wD cy a) A r S') (F0 m 0 ls []) by rw [eH, elocs] at hsu; exact hsu
  unfold m_X6_file at h
  refine lv_iload_n hx hb dX6_file_0 rfl (lv_at hl 1 rfl) ?_
  obtain ⟨v_2, hc_1, h⟩ := bd_at h
  refine caSI (As := [.int x1]) (rest := []) hC hw hl.1 lm_RX6_100 li_RX2 lk_yX2_isKind ls_yX2_isKind 1 rfl hd_X2_isKind (by decide) (by decide) (Nat.le_of_ble_eq_true rfl) dX6_file_1 (k_X2_isKind l D cy (wD cy a) S fu x1 _ hc_1) (fun H locs hw => ?_)
  refine lv_if_ne (tgt := 10) hx hb dX6_file_4 (by decide) (fun c_3 => ?_) (fun c_3 => ?_)
  · have h := if_at_f c_3 h
    refine lv_iload_n hx hb dX6_file_10 rfl (lv_at hl 2 rfl) ?_
    obtain ⟨v_5, hc_4, h⟩ := bd_at h
    refine caSI (As := [.int x2]) (rest := []) hC hw hl.1 lm_RX6_79 li_RX6 lk_yX6_isLetter ls_yX6_isLetter 1 rfl hd_X6_isLetter (by decide) (by decide) (Nat.le_of_ble_eq_true rfl) dX6_file_11 (k_X6_isLetter l D cy (wD cy a) S fu x2 _ hc_4) (fun H locs hw => ?_)
    refine lv_if_ne (tgt := 20) hx hb dX6_file_14 (by decide) (fun c_6 => ?_) (fun c_6 => ?_)
    · have h := if_at_f c_6 h
      refine lv_aload_n hx hb dX6_file_20 rfl (lv_at hl 0 rfl) ?_
      refine gf (v := .ref (a 3)) hC hw in_X6 0 4 1 (cD_0 cy a S) rfl (by decide) lf_RX6_19 rfl rfl dX6_file_21 ?_
      obtain ⟨v_8, hc_7, h⟩ := bd_at h
      refine caVI (As := []) (rest := []) hC hw hl.1 lm_RX6_105 li_RX3 lk_yX3_stands li_yX3_stands ll_yX3_stands 3 2 (cD_3 cy a S) rfl 0 rfl hd_X3_stands (by decide) (by decide) (Nat.le_of_ble_eq_true rfl) dX6_file_24 (k_X3_stands l D cy a fu S _ hc_7) (fun H locs hw => ?_)
      refine lv_if_eq (tgt := 48) hx hb dX6_file_27 (by decide) (fun c_9 => ?_) (fun c_9 => ?_)
      · have h := if_at_t c_9 h
        refine lv_bipush (v := -103) hx hb dX6_file_48 (by decide) ?_
        exact rtI hC hr hk hw (so_at2 h).1 (so_at2 h).2 dX6_file_50
      · have h := if_at_f c_9 h
        refine lv_aload_n hx hb dX6_file_30 rfl (lv_at hl 0 rfl) ?_
        refine gf (v := .ref (a 5)) hC hw in_X6 0 4 2 (cD_0 cy a S) rfl (by decide) lf_RX6_28 rfl rfl dX6_file_31 ?_
        refine lv_aload_n hx hb dX6_file_34 rfl (lv_at hl 0 rfl) ?_
        refine gf (v := .ref (a 5)) hC hw in_X6 0 4 2 (cD_0 cy a S) rfl (by decide) lf_RX6_28 rfl rfl dX6_file_35 ?_
        refine gfN (v := .long (stL S 0)) hC hw in_X0 5 0 5 (cD_5 cy a S) rfl (by decide) lf_RX6_90 rfl rfl dX6_file_38 ?_
        refine lv_iload_n hx hb dX6_file_41 rfl (lv_at hl 2 rfl) ?_
        obtain ⟨v_11, hc_10, h⟩ := bd_at h
        refine caVI (As := [.long (stL S 0), .int x2]) (rest := []) hC hw hl.1 lm_RX6_108 li_RX0 lk_yX0_hasRoom li_yX0_hasRoom ll_yX0_hasRoom 5 0 (cD_5 cy a S) rfl 2 rfl hd_X0_hasRoom (by decide) (by decide) (Nat.le_of_ble_eq_true rfl) dX6_file_42 (k_X0_hasRoom l D cy a fu ((stL S 0)) x2 S _ hc_10) (fun H locs hw => ?_)
        refine lv_if_ne (tgt := 51) hx hb dX6_file_45 (by decide) (fun c_12 => ?_) (fun c_12 => ?_)
        · have h := if_at_f c_12 h
          refine lv_aload_n hx hb dX6_file_51 rfl (lv_at hl 0 rfl) ?_
          refine gf (v := .ref (a 5)) hC hw in_X6 0 4 2 (cD_0 cy a S) rfl (by decide) lf_RX6_28 rfl rfl dX6_file_52 ?_
          refine gfN (v := .int (stI S 6)) hC hw in_X0 5 0 4 (cD_5 cy a S) rfl (by decide) lf_RX6_112 rfl rfl dX6_file_55 ?_
          refine lv_iconst (v := 5) hx hb dX6_file_58 (by decide) ?_
          refine lv_icmp_lt (tgt := 65) hx hb dX6_file_59 (by decide) (fun c_13 => ?_) (fun c_13 => ?_)
          · have h := if_at_t c_13 h
            refine lv_aload_n hx hb dX6_file_65 rfl (lv_at hl 0 rfl) ?_
            refine gf (v := .ref (a 5)) hC hw in_X6 0 4 2 (cD_0 cy a S) rfl (by decide) lf_RX6_28 rfl rfl dX6_file_66 ?_
            refine lv_iload_n hx hb dX6_file_69 rfl (lv_at hl 1 rfl) ?_
            refine lv_iload_n hx hb dX6_file_70 rfl (lv_at hl 2 rfl) ?_
            obtain ⟨v_15, S_16, hc_14, h⟩ := bd2_at h
            refine caVI (As := [.int x1, .int x2]) (rest := []) hC hw hl.1 lm_RX6_115 li_RX0 lk_yX0_add li_yX0_add ll_yX0_add 5 0 (cD_5 cy a S) rfl 2 rfl hd_X0_add (by decide) (by decide) (Nat.le_of_ble_eq_true rfl) dX6_file_71 (k_X0_add l D cy a fu x1 x2 S _ _ hc_14) (fun H locs hw => ?_)
            exact rtI hC hr hk hw (so_at2 h).1 (so_at2 h).2 dX6_file_74
          · have h := if_at_f c_13 h
            refine lv_bipush (v := -104) hx hb dX6_file_62 (by decide) ?_
            exact rtI hC hr hk hw (so_at2 h).1 (so_at2 h).2 dX6_file_64
        · have h := if_at_t c_12 h
          refine lv_bipush (v := -103) hx hb dX6_file_48 (by decide) ?_
          exact rtI hC hr hk hw (so_at2 h).1 (so_at2 h).2 dX6_file_50
    · have h := if_at_t c_6 h
      refine lv_bipush (v := -101) hx hb dX6_file_17 (by decide) ?_
      exact rtI hC hr hk hw (so_at2 h).1 (so_at2 h).2 dX6_file_19
  · have h := if_at_t c_3 h
    refine lv_bipush (v := -102) hx hb dX6_file_7 (by decide) ?_
    exact rtI hC hr hk hw (so_at2 h).1 (so_at2 h).2 dX6_file_9
def m_X6_about (fu : Nat) (x1 : Int32) (x2 : Int32) (S : ST) : Option Int32 :=
  bd (m_X0_has fu x1 S) (fun v_2 => (if v_2 = (0 : Int32) then some (-101 : Int32) else (if x2 = (0 : Int32) then bd (m_X0_kindOf fu x1 S) (fun v_11 => some v_11) else (if x2 = (1 : Int32) then bd (m_X5_leavesOf fu ((stL S 0)) x1) (fun v_13 => some v_13) else (if x2 = (2 : Int32) then bd (m_X0_targetOf fu x1 S) (fun v_15 => some v_15) else (if x2 = (3 : Int32) then bd (m_X5_keptOf fu ((stL S 0)) x1) (fun v_17 => some v_17) else (if x2 = (4 : Int32) then bd (m_X5_lives fu ((stL S 0)) x1) (fun v_19 => (if v_19 = (0 : Int32) then some (0 : Int32) else some (1 : Int32))) else (if x2 = (5 : Int32) then bd (m_X0_kindOf fu x1 S) (fun v_22 => bd (m_X2_namesOf fu v_22) (fun v_24 => some v_24)) else some (-102 : Int32)))))))))
set_option maxRecDepth 100000 in
set_option maxHeartbeats 4000000 in
theorem k_X6_about (l : Launch) (D : va_G) (cy : ClassId) (a : Nat → Nat) (fu : Nat) (x1 : Int32) (x2 : Int32) (S : ST) (r : Int32) (h : m_X6_about fu x1 x2 S = some r) : CtI l yX6_about cX6_about 3 (some .int) 2 [.ref (a 0), .int x1, .int x2] D cy (wD cy a) S r S := by
  refine CtI_of (by decide) (Nat.le_of_ble_eq_true rfl) ?_
  intro p e s m args below meth c A ls hC hr hk hw hl
  have hC : Cx p s m c RX6 cX6_about 3 args D cy := hC
  have hx := hC.1
  have hb := hC.2.1
  have hl : lv_has ls 3 [(0, .ref (a 0)), (1, .int x1), (2, .int x2)] := hl
  obtain ⟨H, eH⟩ : ∃ z : Heap, z = s.heap := ⟨_, rfl⟩
  obtain ⟨locs, elocs⟩ : ∃ z : List Loc, z = [] := ⟨_, rfl⟩
  have hw : InW D (wD cy a) A s.heap H locs S := by rw [eH, elocs]; exact hw
  suffices hsu : W p l e (rmN 2) s m args below meth c H locs 0 0 (QI below args s D (wD cy a) A r S) (F0 m 0 ls []) by rw [eH, elocs] at hsu; exact hsu
  unfold m_X6_about at h
  refine lv_aload_n hx hb dX6_about_0 rfl (lv_at hl 0 rfl) ?_
  refine gf (v := .ref (a 5)) hC hw in_X6 0 4 2 (cD_0 cy a S) rfl (by decide) lf_RX6_28 rfl rfl dX6_about_1 ?_
  refine lv_iload_n hx hb dX6_about_4 rfl (lv_at hl 1 rfl) ?_
  obtain ⟨v_2, hc_1, h⟩ := bd_at h
  refine caVI (As := [.int x1]) (rest := []) hC hw hl.1 lm_RX6_119 li_RX0 lk_yX0_has li_yX0_has ll_yX0_has 5 0 (cD_5 cy a S) rfl 1 rfl hd_X0_has (by decide) (by decide) (Nat.le_of_ble_eq_true rfl) dX6_about_5 (k_X0_has l D cy a fu x1 S _ hc_1) (fun H locs hw => ?_)
  refine lv_if_ne (tgt := 14) hx hb dX6_about_8 (by decide) (fun c_3 => ?_) (fun c_3 => ?_)
  · have h := if_at_f c_3 h
    refine lv_iload_n hx hb dX6_about_14 rfl (lv_at hl 2 rfl) ?_
    by_cases c_4 : x2 = (0 : Int32)
    · have h := if_at_t c_4 h
      refine lv_tableIn (off := 37) (tgt := 52) hx hb dX6_about_15 (by rw [c_4]; decide) (by rw [c_4]; decide) (by rw [c_4]; rfl) (by decide) ?_
      refine lv_aload_n hx hb dX6_about_52 rfl (lv_at hl 0 rfl) ?_
      refine gf (v := .ref (a 5)) hC hw in_X6 0 4 2 (cD_0 cy a S) rfl (by decide) lf_RX6_28 rfl rfl dX6_about_53 ?_
      refine lv_iload_n hx hb dX6_about_56 rfl (lv_at hl 1 rfl) ?_
      obtain ⟨v_11, hc_10, h⟩ := bd_at h
      refine caVI (As := [.int x1]) (rest := []) hC hw hl.1 lm_RX6_122 li_RX0 lk_yX0_kindOf li_yX0_kindOf ll_yX0_kindOf 5 0 (cD_5 cy a S) rfl 1 rfl hd_X0_kindOf (by decide) (by decide) (Nat.le_of_ble_eq_true rfl) dX6_about_57 (k_X0_kindOf l D cy a fu x1 S _ hc_10) (fun H locs hw => ?_)
      exact rtI hC hr hk hw (so_at h) rfl dX6_about_60
    have h := if_at_f c_4 h
    by_cases c_5 : x2 = (1 : Int32)
    · have h := if_at_t c_5 h
      refine lv_tableIn (off := 46) (tgt := 61) hx hb dX6_about_15 (by rw [c_5]; decide) (by rw [c_5]; decide) (by rw [c_5]; rfl) (by decide) ?_
      refine lv_aload_n hx hb dX6_about_61 rfl (lv_at hl 0 rfl) ?_
      refine gf (v := .ref (a 5)) hC hw in_X6 0 4 2 (cD_0 cy a S) rfl (by decide) lf_RX6_28 rfl rfl dX6_about_62 ?_
      refine gfN (v := .long (stL S 0)) hC hw in_X0 5 0 5 (cD_5 cy a S) rfl (by decide) lf_RX6_90 rfl rfl dX6_about_65 ?_
      refine lv_iload_n hx hb dX6_about_68 rfl (lv_at hl 1 rfl) ?_
      obtain ⟨v_13, hc_12, h⟩ := bd_at h
      refine caSI (As := [.long (stL S 0), .int x1]) (rest := []) hC hw hl.1 lm_RX6_125 li_RX5 lk_yX5_leavesOf ls_yX5_leavesOf 2 rfl hd_X5_leavesOf (by decide) (by decide) (Nat.le_of_ble_eq_true rfl) dX6_about_69 (k_X5_leavesOf l D cy (wD cy a) S fu ((stL S 0)) x1 _ hc_12) (fun H locs hw => ?_)
      exact rtI hC hr hk hw (so_at h) rfl dX6_about_72
    have h := if_at_f c_5 h
    by_cases c_6 : x2 = (2 : Int32)
    · have h := if_at_t c_6 h
      refine lv_tableIn (off := 58) (tgt := 73) hx hb dX6_about_15 (by rw [c_6]; decide) (by rw [c_6]; decide) (by rw [c_6]; rfl) (by decide) ?_
      refine lv_aload_n hx hb dX6_about_73 rfl (lv_at hl 0 rfl) ?_
      refine gf (v := .ref (a 5)) hC hw in_X6 0 4 2 (cD_0 cy a S) rfl (by decide) lf_RX6_28 rfl rfl dX6_about_74 ?_
      refine lv_iload_n hx hb dX6_about_77 rfl (lv_at hl 1 rfl) ?_
      obtain ⟨v_15, hc_14, h⟩ := bd_at h
      refine caVI (As := [.int x1]) (rest := []) hC hw hl.1 lm_RX6_128 li_RX0 lk_yX0_targetOf li_yX0_targetOf ll_yX0_targetOf 5 0 (cD_5 cy a S) rfl 1 rfl hd_X0_targetOf (by decide) (by decide) (Nat.le_of_ble_eq_true rfl) dX6_about_78 (k_X0_targetOf l D cy a fu x1 S _ hc_14) (fun H locs hw => ?_)
      exact rtI hC hr hk hw (so_at h) rfl dX6_about_81
    have h := if_at_f c_6 h
    by_cases c_7 : x2 = (3 : Int32)
    · have h := if_at_t c_7 h
      refine lv_tableIn (off := 67) (tgt := 82) hx hb dX6_about_15 (by rw [c_7]; decide) (by rw [c_7]; decide) (by rw [c_7]; rfl) (by decide) ?_
      refine lv_aload_n hx hb dX6_about_82 rfl (lv_at hl 0 rfl) ?_
      refine gf (v := .ref (a 5)) hC hw in_X6 0 4 2 (cD_0 cy a S) rfl (by decide) lf_RX6_28 rfl rfl dX6_about_83 ?_
      refine gfN (v := .long (stL S 0)) hC hw in_X0 5 0 5 (cD_5 cy a S) rfl (by decide) lf_RX6_90 rfl rfl dX6_about_86 ?_
      refine lv_iload_n hx hb dX6_about_89 rfl (lv_at hl 1 rfl) ?_
      obtain ⟨v_17, hc_16, h⟩ := bd_at h
      refine caSI (As := [.long (stL S 0), .int x1]) (rest := []) hC hw hl.1 lm_RX6_131 li_RX5 lk_yX5_keptOf ls_yX5_keptOf 2 rfl hd_X5_keptOf (by decide) (by decide) (Nat.le_of_ble_eq_true rfl) dX6_about_90 (k_X5_keptOf l D cy (wD cy a) S fu ((stL S 0)) x1 _ hc_16) (fun H locs hw => ?_)
      exact rtI hC hr hk hw (so_at h) rfl dX6_about_93
    have h := if_at_f c_7 h
    by_cases c_8 : x2 = (4 : Int32)
    · have h := if_at_t c_8 h
      refine lv_tableIn (off := 79) (tgt := 94) hx hb dX6_about_15 (by rw [c_8]; decide) (by rw [c_8]; decide) (by rw [c_8]; rfl) (by decide) ?_
      refine lv_aload_n hx hb dX6_about_94 rfl (lv_at hl 0 rfl) ?_
      refine gf (v := .ref (a 5)) hC hw in_X6 0 4 2 (cD_0 cy a S) rfl (by decide) lf_RX6_28 rfl rfl dX6_about_95 ?_
      refine gfN (v := .long (stL S 0)) hC hw in_X0 5 0 5 (cD_5 cy a S) rfl (by decide) lf_RX6_90 rfl rfl dX6_about_98 ?_
      refine lv_iload_n hx hb dX6_about_101 rfl (lv_at hl 1 rfl) ?_
      obtain ⟨v_19, hc_18, h⟩ := bd_at h
      refine caSI (As := [.long (stL S 0), .int x1]) (rest := []) hC hw hl.1 lm_RX6_134 li_RX5 lk_yX5_lives ls_yX5_lives 2 rfl hd_X5_lives (by decide) (by decide) (Nat.le_of_ble_eq_true rfl) dX6_about_102 (k_X5_lives l D cy (wD cy a) S fu ((stL S 0)) x1 _ hc_18) (fun H locs hw => ?_)
      refine lv_if_eq (tgt := 112) hx hb dX6_about_105 (by decide) (fun c_20 => ?_) (fun c_20 => ?_)
      · have h := if_at_t c_20 h
        refine lv_iconst (v := 0) hx hb dX6_about_112 (by decide) ?_
        exact rtI hC hr hk hw (so_at h) rfl dX6_about_113
      · have h := if_at_f c_20 h
        refine lv_iconst (v := 1) hx hb dX6_about_108 (by decide) ?_
        refine lv_goto (tgt := 113) hx hb dX6_about_109 (by decide) ?_
        exact rtI hC hr hk hw (so_at h) rfl dX6_about_113
    have h := if_at_f c_8 h
    by_cases c_9 : x2 = (5 : Int32)
    · have h := if_at_t c_9 h
      refine lv_tableIn (off := 99) (tgt := 114) hx hb dX6_about_15 (by rw [c_9]; decide) (by rw [c_9]; decide) (by rw [c_9]; rfl) (by decide) ?_
      refine lv_aload_n hx hb dX6_about_114 rfl (lv_at hl 0 rfl) ?_
      refine gf (v := .ref (a 5)) hC hw in_X6 0 4 2 (cD_0 cy a S) rfl (by decide) lf_RX6_28 rfl rfl dX6_about_115 ?_
      refine lv_iload_n hx hb dX6_about_118 rfl (lv_at hl 1 rfl) ?_
      obtain ⟨v_22, hc_21, h⟩ := bd_at h
      refine caVI (As := [.int x1]) (rest := []) hC hw hl.1 lm_RX6_122 li_RX0 lk_yX0_kindOf li_yX0_kindOf ll_yX0_kindOf 5 0 (cD_5 cy a S) rfl 1 rfl hd_X0_kindOf (by decide) (by decide) (Nat.le_of_ble_eq_true rfl) dX6_about_119 (k_X0_kindOf l D cy a fu x1 S _ hc_21) (fun H locs hw => ?_)
      obtain ⟨v_24, hc_23, h⟩ := bd_at h
      refine caSI (As := [.int v_22]) (rest := []) hC hw hl.1 lm_RX6_137 li_RX2 lk_yX2_namesOf ls_yX2_namesOf 1 rfl hd_X2_namesOf (by decide) (by decide) (Nat.le_of_ble_eq_true rfl) dX6_about_122 (k_X2_namesOf l D cy (wD cy a) S fu v_22 _ hc_23) (fun H locs hw => ?_)
      exact rtI hC hr hk hw (so_at h) rfl dX6_about_125
    have h := if_at_f c_9 h
    refine lv_tableOut (tgt := 126) hx hb dX6_about_15 (tsw_out 5 (by decide) (fun j hj => by match j, hj with | 0, _ => exact c_4 | 1, _ => exact c_5 | 2, _ => exact c_6 | 3, _ => exact c_7 | 4, _ => exact c_8 | 5, _ => exact c_9 | n + 6, hj => omega)) (by decide) ?_
    refine lv_bipush (v := -102) hx hb dX6_about_126 (by decide) ?_
    exact rtI hC hr hk hw (so_at h) rfl dX6_about_128
  · have h := if_at_t c_3 h
    refine lv_bipush (v := -101) hx hb dX6_about_11 (by decide) ?_
    exact rtI hC hr hk hw (so_at h) rfl dX6_about_13
def m_X6_as (fu : Nat) (x1 : Int32) (x2 : Int32) (S : ST) : Option Int32 :=
  bd (m_X0_has fu x1 S) (fun v_2 => (if v_2 = (0 : Int32) then some (-101 : Int32) else bd (m_X2_isKind fu x2) (fun v_5 => (if v_5 = (0 : Int32) then some (-102 : Int32) else bd (m_X0_kindOf fu x1 S) (fun v_8 => bd (m_X2_isSuch fu v_8 x2) (fun v_10 => (if v_10 = (0 : Int32) then some (-1 : Int32) else some x1)))))))
set_option maxRecDepth 100000 in
set_option maxHeartbeats 4000000 in
theorem k_X6_as (l : Launch) (D : va_G) (cy : ClassId) (a : Nat → Nat) (fu : Nat) (x1 : Int32) (x2 : Int32) (S : ST) (r : Int32) (h : m_X6_as fu x1 x2 S = some r) : CtI l yX6_as cX6_as 3 (some .int) 2 [.ref (a 0), .int x1, .int x2] D cy (wD cy a) S r S := by
  refine CtI_of (by decide) (Nat.le_of_ble_eq_true rfl) ?_
  intro p e s m args below meth c A ls hC hr hk hw hl
  have hC : Cx p s m c RX6 cX6_as 3 args D cy := hC
  have hx := hC.1
  have hb := hC.2.1
  have hl : lv_has ls 3 [(0, .ref (a 0)), (1, .int x1), (2, .int x2)] := hl
  obtain ⟨H, eH⟩ : ∃ z : Heap, z = s.heap := ⟨_, rfl⟩
  obtain ⟨locs, elocs⟩ : ∃ z : List Loc, z = [] := ⟨_, rfl⟩
  have hw : InW D (wD cy a) A s.heap H locs S := by rw [eH, elocs]; exact hw
  suffices hsu : W p l e (rmN 2) s m args below meth c H locs 0 0 (QI below args s D (wD cy a) A r S) (F0 m 0 ls []) by rw [eH, elocs] at hsu; exact hsu
  unfold m_X6_as at h
  refine lv_aload_n hx hb dX6_as_0 rfl (lv_at hl 0 rfl) ?_
  refine gf (v := .ref (a 5)) hC hw in_X6 0 4 2 (cD_0 cy a S) rfl (by decide) lf_RX6_28 rfl rfl dX6_as_1 ?_
  refine lv_iload_n hx hb dX6_as_4 rfl (lv_at hl 1 rfl) ?_
  obtain ⟨v_2, hc_1, h⟩ := bd_at h
  refine caVI (As := [.int x1]) (rest := []) hC hw hl.1 lm_RX6_119 li_RX0 lk_yX0_has li_yX0_has ll_yX0_has 5 0 (cD_5 cy a S) rfl 1 rfl hd_X0_has (by decide) (by decide) (Nat.le_of_ble_eq_true rfl) dX6_as_5 (k_X0_has l D cy a fu x1 S _ hc_1) (fun H locs hw => ?_)
  refine lv_if_ne (tgt := 14) hx hb dX6_as_8 (by decide) (fun c_3 => ?_) (fun c_3 => ?_)
  · have h := if_at_f c_3 h
    refine lv_iload_n hx hb dX6_as_14 rfl (lv_at hl 2 rfl) ?_
    obtain ⟨v_5, hc_4, h⟩ := bd_at h
    refine caSI (As := [.int x2]) (rest := []) hC hw hl.1 lm_RX6_100 li_RX2 lk_yX2_isKind ls_yX2_isKind 1 rfl hd_X2_isKind (by decide) (by decide) (Nat.le_of_ble_eq_true rfl) dX6_as_15 (k_X2_isKind l D cy (wD cy a) S fu x2 _ hc_4) (fun H locs hw => ?_)
    refine lv_if_ne (tgt := 24) hx hb dX6_as_18 (by decide) (fun c_6 => ?_) (fun c_6 => ?_)
    · have h := if_at_f c_6 h
      refine lv_aload_n hx hb dX6_as_24 rfl (lv_at hl 0 rfl) ?_
      refine gf (v := .ref (a 5)) hC hw in_X6 0 4 2 (cD_0 cy a S) rfl (by decide) lf_RX6_28 rfl rfl dX6_as_25 ?_
      refine lv_iload_n hx hb dX6_as_28 rfl (lv_at hl 1 rfl) ?_
      obtain ⟨v_8, hc_7, h⟩ := bd_at h
      refine caVI (As := [.int x1]) (rest := []) hC hw hl.1 lm_RX6_122 li_RX0 lk_yX0_kindOf li_yX0_kindOf ll_yX0_kindOf 5 0 (cD_5 cy a S) rfl 1 rfl hd_X0_kindOf (by decide) (by decide) (Nat.le_of_ble_eq_true rfl) dX6_as_29 (k_X0_kindOf l D cy a fu x1 S _ hc_7) (fun H locs hw => ?_)
      refine lv_iload_n hx hb dX6_as_32 rfl (lv_at hl 2 rfl) ?_
      obtain ⟨v_10, hc_9, h⟩ := bd_at h
      refine caSI (As := [.int v_8, .int x2]) (rest := []) hC hw hl.1 lm_RX6_140 li_RX2 lk_yX2_isSuch ls_yX2_isSuch 2 rfl hd_X2_isSuch (by decide) (by decide) (Nat.le_of_ble_eq_true rfl) dX6_as_33 (k_X2_isSuch l D cy (wD cy a) S fu v_8 x2 _ hc_9) (fun H locs hw => ?_)
      refine lv_if_eq (tgt := 43) hx hb dX6_as_36 (by decide) (fun c_11 => ?_) (fun c_11 => ?_)
      · have h := if_at_t c_11 h
        refine lv_iconst (v := -1) hx hb dX6_as_43 (by decide) ?_
        exact rtI hC hr hk hw (so_at h) rfl dX6_as_44
      · have h := if_at_f c_11 h
        refine lv_iload_n hx hb dX6_as_39 rfl (lv_at hl 1 rfl) ?_
        refine lv_goto (tgt := 44) hx hb dX6_as_40 (by decide) ?_
        exact rtI hC hr hk hw (so_at h) rfl dX6_as_44
    · have h := if_at_t c_6 h
      refine lv_bipush (v := -102) hx hb dX6_as_21 (by decide) ?_
      exact rtI hC hr hk hw (so_at h) rfl dX6_as_23
  · have h := if_at_t c_3 h
    refine lv_bipush (v := -101) hx hb dX6_as_11 (by decide) ?_
    exact rtI hC hr hk hw (so_at h) rfl dX6_as_13
def m_X6_copy (fu : Nat) (x1 : Int32) (x2 : Int32) (S : ST) : Option (Int32 × ST) :=
  bd (m_X0_has fu x1 S) (fun v_2 => (if v_2 = (0 : Int32) then some ((-101 : Int32), S) else bd (m_X6_isLetter fu x2) (fun v_5 => (if v_5 = (0 : Int32) then some ((-101 : Int32), S) else bd (m_X0_mayCopy fu ((stL S 0)) x1 x2 S) (fun v_8 => (if v_8 = (0 : Int32) then some ((-103 : Int32), S) else bd (m_X5_turned fu ((stL S 0)) x1 x2) (fun v_11 => nm (puL S 0 v_11) (fun S_12 => bd (m_X5_leavesOf fu ((stL S_12 0)) x1) (fun v_14 => bd (m_J6_bitCount_0f7a4 fu v_14) (fun v_16 => some (v_16, S_12)))))))))))
set_option maxRecDepth 100000 in
set_option maxHeartbeats 4000000 in
theorem k_X6_copy (l : Launch) (D : va_G) (cy : ClassId) (a : Nat → Nat) (fu : Nat) (x1 : Int32) (x2 : Int32) (S : ST) (r : Int32) (S' : ST) (h : m_X6_copy fu x1 x2 S = some (r, S')) : CtI l yX6_copy cX6_copy 3 (some .int) 4 [.ref (a 0), .int x1, .int x2] D cy (wD cy a) S r S' := by
  refine CtI_of (by decide) (Nat.le_of_ble_eq_true rfl) ?_
  intro p e s m args below meth c A ls hC hr hk hw hl
  have hC : Cx p s m c RX6 cX6_copy 3 args D cy := hC
  have hx := hC.1
  have hb := hC.2.1
  have hl : lv_has ls 3 [(0, .ref (a 0)), (1, .int x1), (2, .int x2)] := hl
  obtain ⟨H, eH⟩ : ∃ z : Heap, z = s.heap := ⟨_, rfl⟩
  obtain ⟨locs, elocs⟩ : ∃ z : List Loc, z = [] := ⟨_, rfl⟩
  have hw : InW D (wD cy a) A s.heap H locs S := by rw [eH, elocs]; exact hw
  suffices hsu : W p l e (rmN 4) s m args below meth c H locs 0 0 (QI below args s D (wD cy a) A r S') (F0 m 0 ls []) by rw [eH, elocs] at hsu; exact hsu
  unfold m_X6_copy at h
  refine lv_aload_n hx hb dX6_copy_0 rfl (lv_at hl 0 rfl) ?_
  refine gf (v := .ref (a 5)) hC hw in_X6 0 4 2 (cD_0 cy a S) rfl (by decide) lf_RX6_28 rfl rfl dX6_copy_1 ?_
  refine lv_iload_n hx hb dX6_copy_4 rfl (lv_at hl 1 rfl) ?_
  obtain ⟨v_2, hc_1, h⟩ := bd_at h
  refine caVI (As := [.int x1]) (rest := []) hC hw hl.1 lm_RX6_119 li_RX0 lk_yX0_has li_yX0_has ll_yX0_has 5 0 (cD_5 cy a S) rfl 1 rfl hd_X0_has (by decide) (by decide) (Nat.le_of_ble_eq_true rfl) dX6_copy_5 (k_X0_has l D cy a fu x1 S _ hc_1) (fun H locs hw => ?_)
  refine lv_if_eq (tgt := 18) hx hb dX6_copy_8 (by decide) (fun c_3 => ?_) (fun c_3 => ?_)
  · have h := if_at_t c_3 h
    refine lv_bipush (v := -101) hx hb dX6_copy_18 (by decide) ?_
    exact rtI hC hr hk hw (so_at2 h).1 (so_at2 h).2 dX6_copy_20
  · have h := if_at_f c_3 h
    refine lv_iload_n hx hb dX6_copy_11 rfl (lv_at hl 2 rfl) ?_
    obtain ⟨v_5, hc_4, h⟩ := bd_at h
    refine caSI (As := [.int x2]) (rest := []) hC hw hl.1 lm_RX6_79 li_RX6 lk_yX6_isLetter ls_yX6_isLetter 1 rfl hd_X6_isLetter (by decide) (by decide) (Nat.le_of_ble_eq_true rfl) dX6_copy_12 (k_X6_isLetter l D cy (wD cy a) S fu x2 _ hc_4) (fun H locs hw => ?_)
    refine lv_if_ne (tgt := 21) hx hb dX6_copy_15 (by decide) (fun c_6 => ?_) (fun c_6 => ?_)
    · have h := if_at_f c_6 h
      refine lv_aload_n hx hb dX6_copy_21 rfl (lv_at hl 0 rfl) ?_
      refine gf (v := .ref (a 5)) hC hw in_X6 0 4 2 (cD_0 cy a S) rfl (by decide) lf_RX6_28 rfl rfl dX6_copy_22 ?_
      refine lv_aload_n hx hb dX6_copy_25 rfl (lv_at hl 0 rfl) ?_
      refine gf (v := .ref (a 5)) hC hw in_X6 0 4 2 (cD_0 cy a S) rfl (by decide) lf_RX6_28 rfl rfl dX6_copy_26 ?_
      refine gfN (v := .long (stL S 0)) hC hw in_X0 5 0 5 (cD_5 cy a S) rfl (by decide) lf_RX6_90 rfl rfl dX6_copy_29 ?_
      refine lv_iload_n hx hb dX6_copy_32 rfl (lv_at hl 1 rfl) ?_
      refine lv_iload_n hx hb dX6_copy_33 rfl (lv_at hl 2 rfl) ?_
      obtain ⟨v_8, hc_7, h⟩ := bd_at h
      refine caVI (As := [.long (stL S 0), .int x1, .int x2]) (rest := []) hC hw hl.1 lm_RX6_144 li_RX0 lk_yX0_mayCopy li_yX0_mayCopy ll_yX0_mayCopy 5 0 (cD_5 cy a S) rfl 3 rfl hd_X0_mayCopy (by decide) (by decide) (Nat.le_of_ble_eq_true rfl) dX6_copy_34 (k_X0_mayCopy l D cy a fu ((stL S 0)) x1 x2 S _ hc_7) (fun H locs hw => ?_)
      refine lv_if_ne (tgt := 43) hx hb dX6_copy_37 (by decide) (fun c_9 => ?_) (fun c_9 => ?_)
      · have h := if_at_f c_9 h
        refine lv_aload_n hx hb dX6_copy_43 rfl (lv_at hl 0 rfl) ?_
        refine gf (v := .ref (a 5)) hC hw in_X6 0 4 2 (cD_0 cy a S) rfl (by decide) lf_RX6_28 rfl rfl dX6_copy_44 ?_
        refine lv_aload_n hx hb dX6_copy_47 rfl (lv_at hl 0 rfl) ?_
        refine gf (v := .ref (a 5)) hC hw in_X6 0 4 2 (cD_0 cy a S) rfl (by decide) lf_RX6_28 rfl rfl dX6_copy_48 ?_
        refine gfN (v := .long (stL S 0)) hC hw in_X0 5 0 5 (cD_5 cy a S) rfl (by decide) lf_RX6_90 rfl rfl dX6_copy_51 ?_
        refine lv_iload_n hx hb dX6_copy_54 rfl (lv_at hl 1 rfl) ?_
        refine lv_iload_n hx hb dX6_copy_55 rfl (lv_at hl 2 rfl) ?_
        obtain ⟨v_11, hc_10, h⟩ := bd_at h
        refine caSL (As := [.long (stL S 0), .int x1, .int x2]) (rest := [.ref (a 5)]) hC hw hl.1 lm_RX6_148 li_RX5 lk_yX5_turned ls_yX5_turned 3 rfl hd_X5_turned (by decide) (by decide) (Nat.le_of_ble_eq_true rfl) dX6_copy_56 (k_X5_turned l D cy (wD cy a) S fu ((stL S 0)) x1 x2 _ hc_10) (fun H locs hw => ?_)
        refine pfN (ty := .long) (v := .long v_11) hC hw in_X0 tyX0_ok nmX0 5 0 5 (cD_5 cy a S) rfl (by decide) lf_RX6_90 rfl rfl (by decide +kernel) rfl rfl (Nat.le_of_ble_eq_true rfl) (sD_5_5 cy a S v_11) dX6_copy_59 (fun H locs hw => ?_)
        obtain ⟨S_12, hw, h⟩ := nmw (P := fun z => InW D (wD cy a) A s.heap H locs z) hw h
        refine lv_aload_n hx hb dX6_copy_62 rfl (lv_at hl 0 rfl) ?_
        refine gf (v := .ref (a 5)) hC hw in_X6 0 4 2 (cD_0 cy a S_12) rfl (by decide) lf_RX6_28 rfl rfl dX6_copy_63 ?_
        refine gfN (v := .long (stL S_12 0)) hC hw in_X0 5 0 5 (cD_5 cy a S_12) rfl (by decide) lf_RX6_90 rfl rfl dX6_copy_66 ?_
        refine lv_iload_n hx hb dX6_copy_69 rfl (lv_at hl 1 rfl) ?_
        obtain ⟨v_14, hc_13, h⟩ := bd_at h
        refine caSI (As := [.long (stL S_12 0), .int x1]) (rest := []) hC hw hl.1 lm_RX6_125 li_RX5 lk_yX5_leavesOf ls_yX5_leavesOf 2 rfl hd_X5_leavesOf (by decide) (by decide) (Nat.le_of_ble_eq_true rfl) dX6_copy_70 (k_X5_leavesOf l D cy (wD cy a) S_12 fu ((stL S_12 0)) x1 _ hc_13) (fun H locs hw => ?_)
        obtain ⟨v_16, hc_15, h⟩ := bd_at h
        refine caSI (As := [.int v_14]) (rest := []) hC hw hl.1 lm_RX6_152 li_RJ6 lk_yJ6_bitCount_0f7a4 ls_yJ6_bitCount_0f7a4 1 rfl hd_J6_bitCount_0f7a4 (by decide) (by decide) (Nat.le_of_ble_eq_true rfl) dX6_copy_73 (k_J6_bitCount_0f7a4 l D cy (wD cy a) S_12 fu v_14 _ hc_15) (fun H locs hw => ?_)
        exact rtI hC hr hk hw (so_at2 h).1 (so_at2 h).2 dX6_copy_76
      · have h := if_at_t c_9 h
        refine lv_bipush (v := -103) hx hb dX6_copy_40 (by decide) ?_
        exact rtI hC hr hk hw (so_at2 h).1 (so_at2 h).2 dX6_copy_42
    · have h := if_at_t c_6 h
      refine lv_bipush (v := -101) hx hb dX6_copy_18 (by decide) ?_
      exact rtI hC hr hk hw (so_at2 h).1 (so_at2 h).2 dX6_copy_20
