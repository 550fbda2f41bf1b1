def m_X0_clear (fu : Nat) (S : ST) : Option ST :=
  nm (puI S 6 (0 : Int32)) (fun S_1 => nm (puL S_1 0 (0 : Int64)) (fun S_2 => nm (puI S_2 7 (0 : Int32)) (fun S_3 => nm (puI S_3 8 (0 : Int32)) (fun S_4 => some S_4))))
set_option maxRecDepth 100000 in
set_option maxHeartbeats 4000000 in
theorem k_X0_clear (l : Launch) (D : va_G) (cy : ClassId) (a : Nat → Nat) (fu : Nat) (S : ST) (S' : ST) (h : m_X0_clear fu S = some S') : CtV l yX0_clear cX0_clear 1 none 0 [.ref (a 5)] D cy (wD cy a) S S' := by
  refine CtV_of (by decide) (Nat.le_of_ble_eq_true rfl) ?_
  intro p e s m args below meth c A ls hC hr hk hw hl
  have hC : Cx p s m c RX0 cX0_clear 1 args D cy := hC
  have hx := hC.1
  have hb := hC.2.1
  have hl : lv_has ls 1 [(0, .ref (a 5))] := hl
  obtain ⟨H, eH⟩ : ∃ z : Heap, z = s.heap := ⟨_, rfl⟩
  obtain ⟨locs, elocs⟩ : ∃ z : List Loc, z = [] := ⟨_, rfl⟩
  have hw : InW D (wD cy a) A s.heap H locs S := by rw [eH, elocs]; exact hw
  suffices hsu : W p l e (rmN 0) s m args below meth c H locs 0 0 (QV below args s D (wD cy a) A S') (F0 m 0 ls []) by rw [eH, elocs] at hsu; exact hsu
  unfold m_X0_clear at h
  refine lv_aload_n hx hb dX0_clear_0 rfl (lv_at hl 0 rfl) ?_
  refine lv_iconst (v := 0) hx hb dX0_clear_1 (by decide) ?_
  refine pf (ty := .int) (v := .int (0 : Int32)) hC hw in_X0 tyX0_ok nmX0 5 0 4 (cD_5 cy a S) rfl (by decide) lf_RX0_25 rfl rfl (by decide +kernel) rfl rfl (Nat.le_of_ble_eq_true rfl) (sD_5_4 cy a S (0 : Int32)) dX0_clear_2 (fun H locs hw => ?_)
  obtain ⟨S_1, hw, h⟩ := nmw (P := fun z => InW D (wD cy a) A s.heap H locs z) hw h
  refine lv_aload_n hx hb dX0_clear_5 rfl (lv_at hl 0 rfl) ?_
  refine lv_lconst (v := 0) hx hb dX0_clear_6 (by decide) ?_
  refine pf (ty := .long) (v := .long (0 : Int64)) hC hw in_X0 tyX0_ok nmX0 5 0 5 (cD_5 cy a S_1) rfl (by decide) lf_RX0_29 rfl rfl (by decide +kernel) rfl rfl (Nat.le_of_ble_eq_true rfl) (sD_5_5 cy a S_1 (0 : Int64)) dX0_clear_7 (fun H locs hw => ?_)
  obtain ⟨S_2, hw, h⟩ := nmw (P := fun z => InW D (wD cy a) A s.heap H locs z) hw h
  refine lv_aload_n hx hb dX0_clear_10 rfl (lv_at hl 0 rfl) ?_
  refine lv_iconst (v := 0) hx hb dX0_clear_11 (by decide) ?_
  refine pf (ty := .int) (v := .int (0 : Int32)) hC hw in_X0 tyX0_ok nmX0 5 0 6 (cD_5 cy a S_2) rfl (by decide) lf_RX0_33 rfl rfl (by decide +kernel) rfl rfl (Nat.le_of_ble_eq_true rfl) (sD_5_6 cy a S_2 (0 : Int32)) dX0_clear_12 (fun H locs hw => ?_)
  obtain ⟨S_3, hw, h⟩ := nmw (P := fun z => InW D (wD cy a) A s.heap H locs z) hw h
  refine lv_aload_n hx hb dX0_clear_15 rfl (lv_at hl 0 rfl) ?_
  refine lv_iconst (v := 0) hx hb dX0_clear_16 (by decide) ?_
  refine pf (ty := .int) (v := .int (0 : Int32)) hC hw in_X0 tyX0_ok nmX0 5 0 7 (cD_5 cy a S_3) rfl (by decide) lf_RX0_36 rfl rfl (by decide +kernel) rfl rfl (Nat.le_of_ble_eq_true rfl) (sD_5_7 cy a S_3 (0 : Int32)) dX0_clear_17 (fun H locs hw => ?_)
  obtain ⟨S_4, hw, h⟩ := nmw (P := fun z => InW D (wD cy a) A s.heap H locs z) hw h
  exact rtV hC hr hk hw (so_at h) dX0_clear_20
def m_X0_hasRoom (fu : Nat) (x1 : Int64) (x3 : Int32) (S : ST) : Option Int32 :=
  bd (m_X5_fullness fu x1 x3) (fun v_2 => (if (stI S 5) ≤ v_2 then some (0 : Int32) else some (1 : Int32)))
set_option maxRecDepth 100000 in
set_option maxHeartbeats 4000000 in
theorem k_X0_hasRoom (l : Launch) (D : va_G) (cy : ClassId) (a : Nat → Nat) (fu : Nat) (x1 : Int64) (x3 : Int32) (S : ST) (r : Int32) (h : m_X0_hasRoom fu x1 x3 S = some r) : CtI l yX0_hasRoom cX0_hasRoom 4 (some .boolean) 2 [.ref (a 5), .long x1, .int x3] D cy (wD cy a) S r S := by
  refine CtI_of (by decide) (Nat.le_of_ble_eq_true rfl) ?_
  intro p e s m args below meth c A ls hC hr hk hw hl
  have hC : Cx p s m c RX0 cX0_hasRoom 4 args D cy := hC
  have hx := hC.1
  have hb := hC.2.1
  have hl : lv_has ls 4 [(0, .ref (a 5)), (1, .long x1), (3, .int x3)] := hl
  obtain ⟨H, eH⟩ : ∃ z : Heap, z = s.heap := ⟨_, rfl⟩
  obtain ⟨locs, elocs⟩ : ∃ z : List Loc, z = [] := ⟨_, rfl⟩
  have hw : InW D (wD cy a) A s.heap H locs S := by rw [eH, elocs]; exact hw
  suffices hsu : W p l e (rmN 2) s m args below meth c H locs 0 0 (QI below args s D (wD cy a) A r S) (F0 m 0 ls []) by rw [eH, elocs] at hsu; exact hsu
  unfold m_X0_hasRoom at h
  refine lv_lload_n hx hb dX0_hasRoom_0 rfl (lv_at hl 1 rfl) ?_
  refine lv_iload_n hx hb dX0_hasRoom_1 rfl (lv_at hl 2 rfl) ?_
  obtain ⟨v_2, hc_1, h⟩ := bd_at h
  refine caSI (As := [.long x1, .int x3]) (rest := []) hC hw hl.1 lm_RX0_61 li_RX5 lk_yX5_fullness ls_yX5_fullness 2 rfl hd_X5_fullness (by decide) (by decide) (Nat.le_of_ble_eq_true rfl) dX0_hasRoom_2 (k_X5_fullness l D cy (wD cy a) S fu x1 x3 _ hc_1) (fun H locs hw => ?_)
  refine lv_aload_n hx hb dX0_hasRoom_5 rfl (lv_at hl 0 rfl) ?_
  refine gf (v := .ref (a 3)) hC hw in_X0 5 0 0 (cD_5 cy a S) rfl (by decide) lf_RX0_21 rfl rfl dX0_hasRoom_6 ?_
  refine gfN (v := .int (stI S 5)) hC hw in_X3 3 2 1 (cD_3 cy a S) rfl (by decide) lf_RX0_65 rfl rfl dX0_hasRoom_9 ?_
  refine lv_icmp_ge (tgt := 19) hx hb dX0_hasRoom_12 (by decide) (fun c_3 => ?_) (fun c_3 => ?_)
  · have h := if_at_t c_3 h
    refine lv_iconst (v := 0) hx hb dX0_hasRoom_19 (by decide) ?_
    exact rtZ hC hr hk hw rfl (so_at h) rfl dX0_hasRoom_20
  · have h := if_at_f c_3 h
    refine lv_iconst (v := 1) hx hb dX0_hasRoom_15 (by decide) ?_
    refine lv_goto (tgt := 20) hx hb dX0_hasRoom_16 (by decide) ?_
    exact rtZ hC hr hk hw rfl (so_at h) rfl dX0_hasRoom_20
def m_X0_add (fu : Nat) (x1 : Int32) (x2 : Int32) (S : ST) : Option (Int32 × ST) :=
  nm ((stI S 6)) (fun x3_1 => (if x3_1 < (0 : Int32) then some (x3_1, S) else (if (5 : Int32) ≤ x3_1 then some (x3_1, S) else gd (inB x3_1 5) (nm (wrA S 2 x3_1 x1) (fun S_4 => gd (inB x3_1 5) (nm (wrA S_4 3 x3_1 (-1 : Int32)) (fun S_5 => bd (m_X5_turned fu ((stL S_5 0)) x3_1 x2) (fun v_7 => nm (puL S_5 0 v_7) (fun S_8 => nm (puI S_8 6 (((stI S_8 6) + (1 : Int32)))) (fun S_9 => some (x3_1, S_9)))))))))))
set_option maxRecDepth 100000 in
set_option maxHeartbeats 4000000 in
theorem k_X0_add (l : Launch) (D : va_G) (cy : ClassId) (a : Nat → Nat) (fu : Nat) (x1 : Int32) (x2 : Int32) (S : ST) (r : Int32) (S' : ST) (h : m_X0_add fu x1 x2 S = some (r, S')) : CtI l yX0_add cX0_add 4 (some .int) 1 [.ref (a 5), .int x1, .int x2] D cy (wD cy a) S r S' := by
  refine CtI_of (by decide) (Nat.le_of_ble_eq_true rfl) ?_
  intro p e s m args below meth c A ls hC hr hk hw hl
  have hC : Cx p s m c RX0 cX0_add 4 args D cy := hC
  have hx := hC.1
  have hb := hC.2.1
  have hl : lv_has ls 4 [(0, .ref (a 5)), (1, .int x1), (2, .int x2)] := hl
  obtain ⟨H, eH⟩ : ∃ z : Heap, z = s.heap := ⟨_, rfl⟩
  obtain ⟨locs, elocs⟩ : ∃ z : List Loc, z = [] := ⟨_, rfl⟩
  have hw : InW D (wD cy a) A s.heap H locs S := by rw [eH, elocs]; exact hw
  suffices hsu : W p l e (rmN 1) s m args below meth c H locs 0 0 (QI below args s D (wD cy a) A r S') (F0 m 0 ls []) by rw [eH, elocs] at hsu; exact hsu
  unfold m_X0_add at h
  refine lv_aload_n hx hb dX0_add_0 rfl (lv_at hl 0 rfl) ?_
  refine gf (v := .int (stI S 6)) hC hw in_X0 5 0 4 (cD_5 cy a S) rfl (by decide) lf_RX0_25 rfl rfl dX0_add_1 ?_
  refine lv_topi (fun x3_1 ex3_1 => ?_)
  have h := nm_at ex3_1 h
  refine lv_istore_n (lv' := [(3, .int x3_1), (0, .ref (a 5)), (1, .int x1), (2, .int x2)]) hx hb dX0_add_4 rfl hl (by decide) rfl (fun ls hl => ?_)
  refine lv_iload_n hx hb dX0_add_5 rfl (lv_at hl 0 rfl) ?_
  refine lv_if_lt (tgt := 51) hx hb dX0_add_6 (by decide) (fun c_2 => ?_) (fun c_2 => ?_)
  · have h := if_at_t c_2 h
    refine lv_iload_n hx hb dX0_add_51 rfl (lv_at hl 0 rfl) ?_
    exact rtI hC hr hk hw (so_at2 h).1 (so_at2 h).2 dX0_add_52
  · have h := if_at_f c_2 h
    refine lv_iload_n hx hb dX0_add_9 rfl (lv_at hl 0 rfl) ?_
    refine lv_iconst (v := 5) hx hb dX0_add_10 (by decide) ?_
    refine lv_icmp_ge (tgt := 51) hx hb dX0_add_11 (by decide) (fun c_3 => ?_) (fun c_3 => ?_)
    · have h := if_at_t c_3 h
      refine lv_iload_n hx hb dX0_add_51 rfl (lv_at hl 0 rfl) ?_
      exact rtI hC hr hk hw (so_at2 h).1 (so_at2 h).2 dX0_add_52
    · have h := if_at_f c_3 h
      refine lv_aload_n hx hb dX0_add_14 rfl (lv_at hl 1 rfl) ?_
      refine gf (v := .ref (a 6)) hC hw in_X0 5 0 1 (cD_5 cy a S) rfl (by decide) lf_RX0_9 rfl rfl dX0_add_15 ?_
      refine lv_iload_n hx hb dX0_add_18 rfl (lv_at hl 0 rfl) ?_
      refine lv_iload_n hx hb dX0_add_19 rfl (lv_at hl 2 rfl) ?_
      obtain ⟨hi, h⟩ := gd_at h
      refine pa hC hw 6 (cD_6 cy a S) hi (rD_6 cy a S) dX0_add_20 (fun H locs hw => ?_)
      obtain ⟨S_4, hw, h⟩ := nmw (P := fun z => InW D (wD cy a) A s.heap H locs z) hw h
      refine lv_aload_n hx hb dX0_add_21 rfl (lv_at hl 1 rfl) ?_
      refine gf (v := .ref (a 7)) hC hw in_X0 5 0 2 (cD_5 cy a S_4) rfl (by decide) lf_RX0_15 rfl rfl dX0_add_22 ?_
      refine lv_iload_n hx hb dX0_add_25 rfl (lv_at hl 0 rfl) ?_
      refine lv_iconst (v := -1) hx hb dX0_add_26 (by decide) ?_
      obtain ⟨hi, h⟩ := gd_at h
      refine pa hC hw 7 (cD_7 cy a S_4) hi (rD_7 cy a S_4) dX0_add_27 (fun H locs hw => ?_)
      obtain ⟨S_5, hw, h⟩ := nmw (P := fun z => InW D (wD cy a) A s.heap H locs z) hw h
      refine lv_aload_n hx hb dX0_add_28 rfl (lv_at hl 1 rfl) ?_
      refine lv_aload_n hx hb dX0_add_29 rfl (lv_at hl 1 rfl) ?_
      refine gf (v := .long (stL S_5 0)) hC hw in_X0 5 0 5 (cD_5 cy a S_5) rfl (by decide) lf_RX0_29 rfl rfl dX0_add_30 ?_
      refine lv_iload_n hx hb dX0_add_33 rfl (lv_at hl 0 rfl) ?_
      refine lv_iload_n hx hb dX0_add_34 rfl (lv_at hl 3 rfl) ?_
      obtain ⟨v_7, hc_6, h⟩ := bd_at h
      refine caSL (As := [.long (stL S_5 0), .int x3_1, .int x2]) (rest := [.ref (a 5)]) hC hw hl.1 lm_RX0_51 li_RX5 lk_yX5_turned ls_yX5_turned 3 rfl hd_X5_turned (by decide) (by decide) (Nat.le_of_ble_eq_true rfl) dX0_add_35 (k_X5_turned l D cy (wD cy a) S_5 fu ((stL S_5 0)) x3_1 x2 _ hc_6) (fun H locs hw => ?_)
      refine pf (ty := .long) (v := .long v_7) hC hw in_X0 tyX0_ok nmX0 5 0 5 (cD_5 cy a S_5) rfl (by decide) lf_RX0_29 rfl rfl (by decide +kernel) rfl rfl (Nat.le_of_ble_eq_true rfl) (sD_5_5 cy a S_5 v_7) dX0_add_38 (fun H locs hw => ?_)
      obtain ⟨S_8, hw, h⟩ := nmw (P := fun z => InW D (wD cy a) A s.heap H locs z) hw h
      refine lv_aload_n hx hb dX0_add_41 rfl (lv_at hl 1 rfl) ?_
      refine lv_dup hx hb dX0_add_42 rfl ?_
      refine gf (v := .int (stI S_8 6)) hC hw in_X0 5 0 4 (cD_5 cy a S_8) rfl (by decide) lf_RX0_25 rfl rfl dX0_add_43 ?_
      refine lv_iconst (v := 1) hx hb dX0_add_46 (by decide) ?_
      refine lv_iadd hx hb dX0_add_47 ?_
      refine pf (ty := .int) (v := .int (((stI S_8 6) + (1 : Int32)))) hC hw in_X0 tyX0_ok nmX0 5 0 4 (cD_5 cy a S_8) rfl (by decide) lf_RX0_25 rfl rfl (by decide +kernel) rfl rfl (Nat.le_of_ble_eq_true rfl) (sD_5_4 cy a S_8 (((stI S_8 6) + (1 : Int32)))) dX0_add_48 (fun H locs hw => ?_)
      obtain ⟨S_9, hw, h⟩ := nmw (P := fun z => InW D (wD cy a) A s.heap H locs z) hw h
      refine lv_iload_n hx hb dX0_add_51 rfl (lv_at hl 0 rfl) ?_
      exact rtI hC hr hk hw (so_at2 h).1 (so_at2 h).2 dX0_add_52
def m_X0_has (fu : Nat) (x1 : Int32) (S : ST) : Option Int32 :=
  bd (m_X6_within fu x1 (0 : Int32) (((stI S 6) - (1 : Int32)))) (fun v_2 => gd (zB v_2) (some v_2))
set_option maxRecDepth 100000 in
set_option maxHeartbeats 4000000 in
theorem k_X0_has (l : Launch) (D : va_G) (cy : ClassId) (a : Nat → Nat) (fu : Nat) (x1 : Int32) (S : ST) (r : Int32) (h : m_X0_has fu x1 S = some r) : CtI l yX0_has cX0_has 2 (some .boolean) 1 [.ref (a 5), .int x1] D cy (wD cy a) S r S := by
  refine CtI_of (by decide) (Nat.le_of_ble_eq_true rfl) ?_
  intro p e s m args below meth c A ls hC hr hk hw hl
  have hC : Cx p s m c RX0 cX0_has 2 args D cy := hC
  have hx := hC.1
  have hb := hC.2.1
  have hl : lv_has ls 2 [(0, .ref (a 5)), (1, .int x1)] := hl
  obtain ⟨H, eH⟩ : ∃ z : Heap, z = s.heap := ⟨_, rfl⟩
  obtain ⟨locs, elocs⟩ : ∃ z : List Loc, z = [] := ⟨_, rfl⟩
  have hw : InW D (wD cy a) A s.heap H locs S := by rw [eH, elocs]; exact hw
  suffices hsu : W p l e (rmN 1) s m args below meth c H locs 0 0 (QI below args s D (wD cy a) A r S) (F0 m 0 ls []) by rw [eH, elocs] at hsu; exact hsu
  unfold m_X0_has at h
  refine lv_iload_n hx hb dX0_has_0 rfl (lv_at hl 1 rfl) ?_
  refine lv_iconst (v := 0) hx hb dX0_has_1 (by decide) ?_
  refine lv_aload_n hx hb dX0_has_2 rfl (lv_at hl 0 rfl) ?_
  refine gf (v := .int (stI S 6)) hC hw in_X0 5 0 4 (cD_5 cy a S) rfl (by decide) lf_RX0_25 rfl rfl dX0_has_3 ?_
  refine lv_iconst (v := 1) hx hb dX0_has_6 (by decide) ?_
  refine lv_isub hx hb dX0_has_7 ?_
  obtain ⟨v_2, hc_1, h⟩ := bd_at h
  refine caSNI (As := [.int x1, .int (0 : Int32), .int ((stI S 6) - (1 : Int32))]) (rest := []) hC hw hl.1 lm_RX0_45 li_RX6 lk_yX6_within ls_yX6_within 3 rfl hd_X6_within (by decide) (by decide) (Nat.le_of_ble_eq_true rfl) dX0_has_8 (k_X6_within l D cy (wD cy a) S fu x1 (0 : Int32) (((stI S 6) - (1 : Int32))) _ hc_1) (fun H locs hw => ?_)
  obtain ⟨hz, h⟩ := gd_at h
  exact rtZ hC hr hk hw hz (so_at h) rfl dX0_has_11
def m_X0_kindOf (fu : Nat) (x1 : Int32) (S : ST) : Option Int32 :=
  (if x1 < (0 : Int32) then some (0 : Int32) else (if (5 : Int32) ≤ x1 then some (0 : Int32) else gd (inB x1 5) (some ((rdA S 2 x1)))))
set_option maxRecDepth 100000 in
set_option maxHeartbeats 4000000 in
theorem k_X0_kindOf (l : Launch) (D : va_G) (cy : ClassId) (a : Nat → Nat) (fu : Nat) (x1 : Int32) (S : ST) (r : Int32) (h : m_X0_kindOf fu x1 S = some r) : CtI l yX0_kindOf cX0_kindOf 2 (some .int) 0 [.ref (a 5), .int x1] D cy (wD cy a) S r S := by
  refine CtI_of (by decide) (Nat.le_of_ble_eq_true rfl) ?_
  intro p e s m args below meth c A ls hC hr hk hw hl
  have hC : Cx p s m c RX0 cX0_kindOf 2 args D cy := hC
  have hx := hC.1
  have hb := hC.2.1
  have hl : lv_has ls 2 [(0, .ref (a 5)), (1, .int x1)] := hl
  obtain ⟨H, eH⟩ : ∃ z : Heap, z = s.heap := ⟨_, rfl⟩
  obtain ⟨locs, elocs⟩ : ∃ z : List Loc, z = [] := ⟨_, rfl⟩
  have hw : InW D (wD cy a) A s.heap H locs S := by rw [eH, elocs]; exact hw
  suffices hsu : W p l e (rmN 0) s m args below meth c H locs 0 0 (QI below args s D (wD cy a) A r S) (F0 m 0 ls []) by rw [eH, elocs] at hsu; exact hsu
  unfold m_X0_kindOf at h
  refine lv_iload_n hx hb dX0_kindOf_0 rfl (lv_at hl 1 rfl) ?_
  refine lv_if_lt (tgt := 18) hx hb dX0_kindOf_1 (by decide) (fun c_1 => ?_) (fun c_1 => ?_)
  · have h := if_at_t c_1 h
    refine lv_iconst (v := 0) hx hb dX0_kindOf_18 (by decide) ?_
    exact rtI hC hr hk hw (so_at h) rfl dX0_kindOf_19
  · have h := if_at_f c_1 h
    refine lv_iload_n hx hb dX0_kindOf_4 rfl (lv_at hl 1 rfl) ?_
    refine lv_iconst (v := 5) hx hb dX0_kindOf_5 (by decide) ?_
    refine lv_icmp_ge (tgt := 18) hx hb dX0_kindOf_6 (by decide) (fun c_2 => ?_) (fun c_2 => ?_)
    · have h := if_at_t c_2 h
      refine lv_iconst (v := 0) hx hb dX0_kindOf_18 (by decide) ?_
      exact rtI hC hr hk hw (so_at h) rfl dX0_kindOf_19
    · have h := if_at_f c_2 h
      refine lv_aload_n hx hb dX0_kindOf_9 rfl (lv_at hl 0 rfl) ?_
      refine gf (v := .ref (a 6)) hC hw in_X0 5 0 1 (cD_5 cy a S) rfl (by decide) lf_RX0_9 rfl rfl dX0_kindOf_10 ?_
      refine lv_iload_n hx hb dX0_kindOf_13 rfl (lv_at hl 1 rfl) ?_
      obtain ⟨hi, h⟩ := gd_at h
      refine ga hC hw 6 (cD_6 cy a S) hi dX0_kindOf_14 ?_
      refine lv_goto (tgt := 19) hx hb dX0_kindOf_15 (by decide) ?_
      exact rtI hC hr hk hw (so_at h) rfl dX0_kindOf_19
def m_X0_targetOf (fu : Nat) (x1 : Int32) (S : ST) : Option Int32 :=
  (if x1 < (0 : Int32) then some (-1 : Int32) else (if (5 : Int32) ≤ x1 then some (-1 : Int32) else gd (inB x1 5) (some ((rdA S 3 x1)))))
set_option maxRecDepth 100000 in
set_option maxHeartbeats 4000000 in
theorem k_X0_targetOf (l : Launch) (D : va_G) (cy : ClassId) (a : Nat → Nat) (fu : Nat) (x1 : Int32) (S : ST) (r : Int32) (h : m_X0_targetOf fu x1 S = some r) : CtI l yX0_targetOf cX0_targetOf 2 (some .int) 0 [.ref (a 5), .int x1] D cy (wD cy a) S r S := by
  refine CtI_of (by decide) (Nat.le_of_ble_eq_true rfl) ?_
  intro p e s m args below meth c A ls hC hr hk hw hl
  have hC : Cx p s m c RX0 cX0_targetOf 2 args D cy := hC
  have hx := hC.1
  have hb := hC.2.1
  have hl : lv_has ls 2 [(0, .ref (a 5)), (1, .int x1)] := hl
  obtain ⟨H, eH⟩ : ∃ z : Heap, z = s.heap := ⟨_, rfl⟩
  obtain ⟨locs, elocs⟩ : ∃ z : List Loc, z = [] := ⟨_, rfl⟩
  have hw : InW D (wD cy a) A s.heap H locs S := by rw [eH, elocs]; exact hw
  suffices hsu : W p l e (rmN 0) s m args below meth c H locs 0 0 (QI below args s D (wD cy a) A r S) (F0 m 0 ls []) by rw [eH, elocs] at hsu; exact hsu
  unfold m_X0_targetOf at h
  refine lv_iload_n hx hb dX0_targetOf_0 rfl (lv_at hl 1 rfl) ?_
  refine lv_if_lt (tgt := 18) hx hb dX0_targetOf_1 (by decide) (fun c_1 => ?_) (fun c_1 => ?_)
  · have h := if_at_t c_1 h
    refine lv_iconst (v := -1) hx hb dX0_targetOf_18 (by decide) ?_
    exact rtI hC hr hk hw (so_at h) rfl dX0_targetOf_19
  · have h := if_at_f c_1 h
    refine lv_iload_n hx hb dX0_targetOf_4 rfl (lv_at hl 1 rfl) ?_
    refine lv_iconst (v := 5) hx hb dX0_targetOf_5 (by decide) ?_
    refine lv_icmp_ge (tgt := 18) hx hb dX0_targetOf_6 (by decide) (fun c_2 => ?_) (fun c_2 => ?_)
    · have h := if_at_t c_2 h
      refine lv_iconst (v := -1) hx hb dX0_targetOf_18 (by decide) ?_
      exact rtI hC hr hk hw (so_at h) rfl dX0_targetOf_19
    · have h := if_at_f c_2 h
      refine lv_aload_n hx hb dX0_targetOf_9 rfl (lv_at hl 0 rfl) ?_
      refine gf (v := .ref (a 7)) hC hw in_X0 5 0 2 (cD_5 cy a S) rfl (by decide) lf_RX0_15 rfl rfl dX0_targetOf_10 ?_
      refine lv_iload_n hx hb dX0_targetOf_13 rfl (lv_at hl 1 rfl) ?_
      obtain ⟨hi, h⟩ := gd_at h
      refine ga hC hw 7 (cD_7 cy a S) hi dX0_targetOf_14 ?_
      refine lv_goto (tgt := 19) hx hb dX0_targetOf_15 (by decide) ?_
      exact rtI hC hr hk hw (so_at h) rfl dX0_targetOf_19
def m_X0_mayCopy (fu : Nat) (x1 : Int64) (x3 : Int32) (x4 : Int32) (S : ST) : Option Int32 :=
  bd (m_X5_leavesOf fu x1 x3) (fun v_2 => (if v_2 = (0 : Int32) then some (0 : Int32) else bd (m_J6_bitCount_0f7a4 fu v_2) (fun v_5 => bd (m_X0_kindOf fu x3 S) (fun v_7 => bd (m_X2_namesOf fu v_7) (fun v_9 => (if v_9 ≤ v_5 then some (0 : Int32) else bd (m_X5_hasLeaf fu x1 x3 x4) (fun v_12 => (if v_12 = (0 : Int32) then bd (m_X0_hasRoom fu x1 x4 S) (fun v_15 => (if v_15 = (0 : Int32) then some (0 : Int32) else some (1 : Int32))) else some (0 : Int32)))))))))
set_option maxRecDepth 100000 in
set_option maxHeartbeats 4000000 in
theorem k_X0_mayCopy (l : Launch) (D : va_G) (cy : ClassId) (a : Nat → Nat) (fu : Nat) (x1 : Int64) (x3 : Int32) (x4 : Int32) (S : ST) (r : Int32) (h : m_X0_mayCopy fu x1 x3 x4 S = some r) : CtI l yX0_mayCopy cX0_mayCopy 6 (some .boolean) 3 [.ref (a 5), .long x1, .int x3, .int x4] D cy (wD cy a) S r S := by
  refine CtI_of (by decide) (Nat.le_of_ble_eq_true rfl) ?_
  intro p e s m args below meth c A ls hC hr hk hw hl
  have hC : Cx p s m c RX0 cX0_mayCopy 6 args D cy := hC
  have hx := hC.1
  have hb := hC.2.1
  have hl : lv_has ls 6 [(0, .ref (a 5)), (1, .long x1), (3, .int x3), (4, .int x4)] := hl
  obtain ⟨H, eH⟩ : ∃ z : Heap, z = s.heap := ⟨_, rfl⟩
  obtain ⟨locs, elocs⟩ : ∃ z : List Loc, z = [] := ⟨_, rfl⟩
  have hw : InW D (wD cy a) A s.heap H locs S := by rw [eH, elocs]; exact hw
  suffices hsu : W p l e (rmN 3) s m args below meth c H locs 0 0 (QI below args s D (wD cy a) A r S) (F0 m 0 ls []) by rw [eH, elocs] at hsu; exact hsu
  unfold m_X0_mayCopy at h
  refine lv_lload_n hx hb dX0_mayCopy_0 rfl (lv_at hl 1 rfl) ?_
  refine lv_iload_n hx hb dX0_mayCopy_1 rfl (lv_at hl 2 rfl) ?_
  obtain ⟨v_2, hc_1, h⟩ := bd_at h
  refine caSI (As := [.long x1, .int x3]) (rest := []) hC hw hl.1 lm_RX0_70 li_RX5 lk_yX5_leavesOf ls_yX5_leavesOf 2 rfl hd_X5_leavesOf (by decide) (by decide) (Nat.le_of_ble_eq_true rfl) dX0_mayCopy_2 (k_X5_leavesOf l D cy (wD cy a) S fu x1 x3 _ hc_1) (fun H locs hw => ?_)
  refine lv_istore (lv' := [(5, .int v_2), (0, .ref (a 5)), (1, .long x1), (3, .int x3), (4, .int x4)]) hx hb dX0_mayCopy_5 hl (by decide) rfl (fun ls hl => ?_)
  refine lv_iload hx hb dX0_mayCopy_7 (lv_at hl 0 rfl) ?_
  refine lv_if_eq (tgt := 52) hx hb dX0_mayCopy_9 (by decide) (fun c_3 => ?_) (fun c_3 => ?_)
  · have h := if_at_t c_3 h
    refine lv_iconst (v := 0) hx hb dX0_mayCopy_52 (by decide) ?_
    exact rtZ hC hr hk hw rfl (so_at h) rfl dX0_mayCopy_53
  · have h := if_at_f c_3 h
    refine lv_iload hx hb dX0_mayCopy_12 (lv_at hl 0 rfl) ?_
    obtain ⟨v_5, hc_4, h⟩ := bd_at h
    refine caSI (As := [.int v_2]) (rest := []) hC hw hl.1 lm_RX0_73 li_RJ6 lk_yJ6_bitCount_0f7a4 ls_yJ6_bitCount_0f7a4 1 rfl hd_J6_bitCount_0f7a4 (by decide) (by decide) (Nat.le_of_ble_eq_true rfl) dX0_mayCopy_14 (k_J6_bitCount_0f7a4 l D cy (wD cy a) S fu v_2 _ hc_4) (fun H locs hw => ?_)
    refine lv_aload_n hx hb dX0_mayCopy_17 rfl (lv_at hl 1 rfl) ?_
    refine lv_iload_n hx hb dX0_mayCopy_18 rfl (lv_at hl 3 rfl) ?_
    obtain ⟨v_7, hc_6, h⟩ := bd_at h
    refine caVI (As := [.int x3]) (rest := [.int v_5]) hC hw hl.1 lm_RX0_78 li_RX0 lk_yX0_kindOf li_yX0_kindOf ll_yX0_kindOf 5 0 (cD_5 cy a S) rfl 1 rfl hd_X0_kindOf (by decide) (by decide) (Nat.le_of_ble_eq_true rfl) dX0_mayCopy_19 (k_X0_kindOf l D cy a fu x3 S _ hc_6) (fun H locs hw => ?_)
    obtain ⟨v_9, hc_8, h⟩ := bd_at h
    refine caSI (As := [.int v_7]) (rest := [.int v_5]) hC hw hl.1 lm_RX0_81 li_RX2 lk_yX2_namesOf ls_yX2_namesOf 1 rfl hd_X2_namesOf (by decide) (by decide) (Nat.le_of_ble_eq_true rfl) dX0_mayCopy_22 (k_X2_namesOf l D cy (wD cy a) S fu v_7 _ hc_8) (fun H locs hw => ?_)
    refine lv_icmp_ge (tgt := 52) hx hb dX0_mayCopy_25 (by decide) (fun c_10 => ?_) (fun c_10 => ?_)
    · have h := if_at_t c_10 h
      refine lv_iconst (v := 0) hx hb dX0_mayCopy_52 (by decide) ?_
      exact rtZ hC hr hk hw rfl (so_at h) rfl dX0_mayCopy_53
    · have h := if_at_f c_10 h
      refine lv_lload_n hx hb dX0_mayCopy_28 rfl (lv_at hl 2 rfl) ?_
      refine lv_iload_n hx hb dX0_mayCopy_29 rfl (lv_at hl 3 rfl) ?_
      refine lv_iload hx hb dX0_mayCopy_30 (lv_at hl 4 rfl) ?_
      obtain ⟨v_12, hc_11, h⟩ := bd_at h
      refine caSI (As := [.long x1, .int x3, .int x4]) (rest := []) hC hw hl.1 lm_RX0_84 li_RX5 lk_yX5_hasLeaf ls_yX5_hasLeaf 3 rfl hd_X5_hasLeaf (by decide) (by decide) (Nat.le_of_ble_eq_true rfl) dX0_mayCopy_32 (k_X5_hasLeaf l D cy (wD cy a) S fu x1 x3 x4 _ hc_11) (fun H locs hw => ?_)
      refine lv_if_ne (tgt := 52) hx hb dX0_mayCopy_35 (by decide) (fun c_13 => ?_) (fun c_13 => ?_)
      · have h := if_at_f c_13 h
        refine lv_iconst (v := 0) hx hb dX0_mayCopy_52 (by decide) ?_
        exact rtZ hC hr hk hw rfl (so_at h) rfl dX0_mayCopy_53
      · have h := if_at_t c_13 h
        refine lv_aload_n hx hb dX0_mayCopy_38 rfl (lv_at hl 1 rfl) ?_
        refine lv_lload_n hx hb dX0_mayCopy_39 rfl (lv_at hl 2 rfl) ?_
        refine lv_iload hx hb dX0_mayCopy_40 (lv_at hl 4 rfl) ?_
        obtain ⟨v_15, hc_14, h⟩ := bd_at h
        refine caVI (As := [.long x1, .int x4]) (rest := []) hC hw hl.1 lm_RX0_88 li_RX0 lk_yX0_hasRoom li_yX0_hasRoom ll_yX0_hasRoom 5 0 (cD_5 cy a S) rfl 2 rfl hd_X0_hasRoom (by decide) (by decide) (Nat.le_of_ble_eq_true rfl) dX0_mayCopy_42 (k_X0_hasRoom l D cy a fu x1 x4 S _ hc_14) (fun H locs hw => ?_)
        refine lv_if_eq (tgt := 52) hx hb dX0_mayCopy_45 (by decide) (fun c_16 => ?_) (fun c_16 => ?_)
        · have h := if_at_t c_16 h
          refine lv_iconst (v := 0) hx hb dX0_mayCopy_52 (by decide) ?_
          exact rtZ hC hr hk hw rfl (so_at h) rfl dX0_mayCopy_53
        · have h := if_at_f c_16 h
          refine lv_iconst (v := 1) hx hb dX0_mayCopy_48 (by decide) ?_
          refine lv_goto (tgt := 53) hx hb dX0_mayCopy_49 (by decide) ?_
          exact rtZ hC hr hk hw rfl (so_at h) rfl dX0_mayCopy_53
def m_X0_mayRename (fu : Nat) (x1 : Int64) (x3 : Int32) (x4 : Int32) (x5 : Int32) (S : ST) : Option Int32 :=
  bd (m_X5_hasLeaf fu x1 x3 x4) (fun v_2 => (if v_2 = (0 : Int32) then some (0 : Int32) else bd (m_X5_hasLeaf fu x1 x3 x5) (fun v_5 => (if v_5 = (0 : Int32) then bd (m_X0_hasRoom fu x1 x5 S) (fun v_8 => (if v_8 = (0 : Int32) then some (0 : Int32) else some (1 : Int32))) else some (0 : Int32)))))
set_option maxRecDepth 100000 in
set_option maxHeartbeats 4000000 in
theorem k_X0_mayRename (l : Launch) (D : va_G) (cy : ClassId) (a : Nat → Nat) (fu : Nat) (x1 : Int64) (x3 : Int32) (x4 : Int32) (x5 : Int32) (S : ST) (r : Int32) (h : m_X0_mayRename fu x1 x3 x4 x5 S = some r) : CtI l yX0_mayRename cX0_mayRename 6 (some .boolean) 3 [.ref (a 5), .long x1, .int x3, .int x4, .int x5] D cy (wD cy a) S r S := by
  refine CtI_of (by decide) (Nat.le_of_ble_eq_true rfl) ?_
  intro p e s m args below meth c A ls hC hr hk hw hl
  have hC : Cx p s m c RX0 cX0_mayRename 6 args D cy := hC
  have hx := hC.1
  have hb := hC.2.1
  have hl : lv_has ls 6 [(0, .ref (a 5)), (1, .long x1), (3, .int x3), (4, .int x4), (5, .int x5)] := hl
  obtain ⟨H, eH⟩ : ∃ z : Heap, z = s.heap := ⟨_, rfl⟩
  obtain ⟨locs, elocs⟩ : ∃ z : List Loc, z = [] := ⟨_, rfl⟩
  have hw : InW D (wD cy a) A s.heap H locs S := by rw [eH, elocs]; exact hw
  suffices hsu : W p l e (rmN 3) s m args below meth c H locs 0 0 (QI below args s D (wD cy a) A r S) (F0 m 0 ls []) by rw [eH, elocs] at hsu; exact hsu
  unfold m_X0_mayRename at h
  refine lv_lload_n hx hb dX0_mayRename_0 rfl (lv_at hl 1 rfl) ?_
  refine lv_iload_n hx hb dX0_mayRename_1 rfl (lv_at hl 2 rfl) ?_
  refine lv_iload hx hb dX0_mayRename_2 (lv_at hl 3 rfl) ?_
  obtain ⟨v_2, hc_1, h⟩ := bd_at h
  refine caSI (As := [.long x1, .int x3, .int x4]) (rest := []) hC hw hl.1 lm_RX0_84 li_RX5 lk_yX5_hasLeaf ls_yX5_hasLeaf 3 rfl hd_X5_hasLeaf (by decide) (by decide) (Nat.le_of_ble_eq_true rfl) dX0_mayRename_4 (k_X5_hasLeaf l D cy (wD cy a) S fu x1 x3 x4 _ hc_1) (fun H locs hw => ?_)
  refine lv_if_eq (tgt := 34) hx hb dX0_mayRename_7 (by decide) (fun c_3 => ?_) (fun c_3 => ?_)
  · have h := if_at_t c_3 h
    refine lv_iconst (v := 0) hx hb dX0_mayRename_34 (by decide) ?_
    exact rtZ hC hr hk hw rfl (so_at h) rfl dX0_mayRename_35
  · have h := if_at_f c_3 h
    refine lv_lload_n hx hb dX0_mayRename_10 rfl (lv_at hl 1 rfl) ?_
    refine lv_iload_n hx hb dX0_mayRename_11 rfl (lv_at hl 2 rfl) ?_
    refine lv_iload hx hb dX0_mayRename_12 (lv_at hl 4 rfl) ?_
    obtain ⟨v_5, hc_4, h⟩ := bd_at h
    refine caSI (As := [.long x1, .int x3, .int x5]) (rest := []) hC hw hl.1 lm_RX0_84 li_RX5 lk_yX5_hasLeaf ls_yX5_hasLeaf 3 rfl hd_X5_hasLeaf (by decide) (by decide) (Nat.le_of_ble_eq_true rfl) dX0_mayRename_14 (k_X5_hasLeaf l D cy (wD cy a) S fu x1 x3 x5 _ hc_4) (fun H locs hw => ?_)
    refine lv_if_ne (tgt := 34) hx hb dX0_mayRename_17 (by decide) (fun c_6 => ?_) (fun c_6 => ?_)
    · have h := if_at_f c_6 h
      refine lv_iconst (v := 0) hx hb dX0_mayRename_34 (by decide) ?_
      exact rtZ hC hr hk hw rfl (so_at h) rfl dX0_mayRename_35
    · have h := if_at_t c_6 h
      refine lv_aload_n hx hb dX0_mayRename_20 rfl (lv_at hl 0 rfl) ?_
      refine lv_lload_n hx hb dX0_mayRename_21 rfl (lv_at hl 1 rfl) ?_
      refine lv_iload hx hb dX0_mayRename_22 (lv_at hl 4 rfl) ?_
      obtain ⟨v_8, hc_7, h⟩ := bd_at h
      refine caVI (As := [.long x1, .int x5]) (rest := []) hC hw hl.1 lm_RX0_88 li_RX0 lk_yX0_hasRoom li_yX0_hasRoom ll_yX0_hasRoom 5 0 (cD_5 cy a S) rfl 2 rfl hd_X0_hasRoom (by decide) (by decide) (Nat.le_of_ble_eq_true rfl) dX0_mayRename_24 (k_X0_hasRoom l D cy a fu x1 x5 S _ hc_7) (fun H locs hw => ?_)
      refine lv_if_eq (tgt := 34) hx hb dX0_mayRename_27 (by decide) (fun c_9 => ?_) (fun c_9 => ?_)
      · have h := if_at_t c_9 h
        refine lv_iconst (v := 0) hx hb dX0_mayRename_34 (by decide) ?_
        exact rtZ hC hr hk hw rfl (so_at h) rfl dX0_mayRename_35
      · have h := if_at_f c_9 h
        refine lv_iconst (v := 1) hx hb dX0_mayRename_30 (by decide) ?_
        refine lv_goto (tgt := 35) hx hb dX0_mayRename_31 (by decide) ?_
        exact rtZ hC hr hk hw rfl (so_at h) rfl dX0_mayRename_35
def m_X0_retarget (fu : Nat) (x1 : Int32) (x2 : Int32) (S : ST) : Option (Int32 × ST) :=
  bd (m_X0_targetOf fu x1 S) (fun v_2 => (if x1 < (0 : Int32) then some (v_2, S) else (if (5 : Int32) ≤ x1 then some (v_2, S) else gd (inB x1 5) (nm (wrA S 3 x1 x2) (fun S_5 => some (v_2, S_5))))))
set_option maxRecDepth 100000 in
set_option maxHeartbeats 4000000 in
theorem k_X0_retarget (l : Launch) (D : va_G) (cy : ClassId) (a : Nat → Nat) (fu : Nat) (x1 : Int32) (x2 : Int32) (S : ST) (r : Int32) (S' : ST) (h : m_X0_retarget fu x1 x2 S = some (r, S')) : CtI l yX0_retarget cX0_retarget 4 (some .int) 1 [.ref (a 5), .int x1, .int x2] D cy (wD cy a) S r S' := by
  refine CtI_of (by decide) (Nat.le_of_ble_eq_true rfl) ?_
  intro p e s m args below meth c A ls hC hr hk hw hl
  have hC : Cx p s m c RX0 cX0_retarget 4 args D cy := hC
  have hx := hC.1
  have hb := hC.2.1
  have hl : lv_has ls 4 [(0, .ref (a 5)), (1, .int x1), (2, .int x2)] := hl
  obtain ⟨H, eH⟩ : ∃ z : Heap, z = s.heap := ⟨_, rfl⟩
  obtain ⟨locs, elocs⟩ : ∃ z : List Loc, z = [] := ⟨_, rfl⟩
  have hw : InW D (wD cy a) A s.heap H locs S := by rw [eH, elocs]; exact hw
  suffices hsu : W p l e (rmN 1) s m args below meth c H locs 0 0 (QI below args s D (wD cy a) A r S') (F0 m 0 ls []) by rw [eH, elocs] at hsu; exact hsu
  unfold m_X0_retarget at h
  refine lv_aload_n hx hb dX0_retarget_0 rfl (lv_at hl 0 rfl) ?_
  refine lv_iload_n hx hb dX0_retarget_1 rfl (lv_at hl 1 rfl) ?_
  obtain ⟨v_2, hc_1, h⟩ := bd_at h
  refine caVI (As := [.int x1]) (rest := []) hC hw hl.1 lm_RX0_57 li_RX0 lk_yX0_targetOf li_yX0_targetOf ll_yX0_targetOf 5 0 (cD_5 cy a S) rfl 1 rfl hd_X0_targetOf (by decide) (by decide) (Nat.le_of_ble_eq_true rfl) dX0_retarget_2 (k_X0_targetOf l D cy a fu x1 S _ hc_1) (fun H locs hw => ?_)
  refine lv_istore_n (lv' := [(3, .int v_2), (0, .ref (a 5)), (1, .int x1), (2, .int x2)]) hx hb dX0_retarget_5 rfl hl (by decide) rfl (fun ls hl => ?_)
  refine lv_iload_n hx hb dX0_retarget_6 rfl (lv_at hl 2 rfl) ?_
  refine lv_if_lt (tgt := 22) hx hb dX0_retarget_7 (by decide) (fun c_3 => ?_) (fun c_3 => ?_)
  · have h := if_at_t c_3 h
    refine lv_iload_n hx hb dX0_retarget_22 rfl (lv_at hl 0 rfl) ?_
    exact rtI hC hr hk hw (so_at2 h).1 (so_at2 h).2 dX0_retarget_23
  · have h := if_at_f c_3 h
    refine lv_iload_n hx hb dX0_retarget_10 rfl (lv_at hl 2 rfl) ?_
    refine lv_iconst (v := 5) hx hb dX0_retarget_11 (by decide) ?_
    refine lv_icmp_ge (tgt := 22) hx hb dX0_retarget_12 (by decide) (fun c_4 => ?_) (fun c_4 => ?_)
    · have h := if_at_t c_4 h
      refine lv_iload_n hx hb dX0_retarget_22 rfl (lv_at hl 0 rfl) ?_
      exact rtI hC hr hk hw (so_at2 h).1 (so_at2 h).2 dX0_retarget_23
    · have h := if_at_f c_4 h
      refine lv_aload_n hx hb dX0_retarget_15 rfl (lv_at hl 1 rfl) ?_
      refine gf (v := .ref (a 7)) hC hw in_X0 5 0 2 (cD_5 cy a S) rfl (by decide) lf_RX0_15 rfl rfl dX0_retarget_16 ?_
      refine lv_iload_n hx hb dX0_retarget_19 rfl (lv_at hl 2 rfl) ?_
      refine lv_iload_n hx hb dX0_retarget_20 rfl (lv_at hl 3 rfl) ?_
      obtain ⟨hi, h⟩ := gd_at h
      refine pa hC hw 7 (cD_7 cy a S) hi (rD_7 cy a S) dX0_retarget_21 (fun H locs hw => ?_)
      obtain ⟨S_5, hw, h⟩ := nmw (P := fun z => InW D (wD cy a) A s.heap H locs z) hw h
      refine lv_iload_n hx hb dX0_retarget_22 rfl (lv_at hl 0 rfl) ?_
      exact rtI hC hr hk hw (so_at2 h).1 (so_at2 h).2 dX0_retarget_23
def m_X0_isPointedTo_L3 (fu : Nat) (x1 : Int64) (x3 : Int32) (S : ST) (ag_2 : Int32 → Option Int32) (x4_1 : Int32) : Option Int32 :=
  (if (stI S 6) ≤ x4_1 then some (0 : Int32) else bd (m_X0_targetOf fu x4_1 S) (fun v_5 => jn0 (nm (x4_1 + (1 : Int32)) (fun x4_7 => ag_2 x4_7)) (fun j_6 => (if v_5 = x3 then bd (m_X5_leavesOf fu x1 x4_1) (fun v_10 => (if v_10 = (0 : Int32) then j_6 else some (1 : Int32))) else j_6))))
def m_X0_isPointedTo (fu : Nat) (x1 : Int64) (x3 : Int32) (S : ST) : Option Int32 :=
  lq1 (m_X0_isPointedTo_L3 fu x1 x3 S) fu (0 : Int32)
set_option maxRecDepth 100000 in
set_option maxHeartbeats 4000000 in
theorem k_X0_isPointedTo (l : Launch) (D : va_G) (cy : ClassId) (a : Nat → Nat) (fu : Nat) (x1 : Int64) (x3 : Int32) (S : ST) (r : Int32) (h : m_X0_isPointedTo fu x1 x3 S = some r) : CtI l yX0_isPointedTo cX0_isPointedTo 5 (some .boolean) 1 [.ref (a 5), .long x1, .int x3] D cy (wD cy a) S r S := by
  refine CtI_of (by decide) (Nat.le_of_ble_eq_true rfl) ?_
  intro p e s m args below meth c A ls hC hr hk hw hl
  have hC : Cx p s m c RX0 cX0_isPointedTo 5 args D cy := hC
  have hx := hC.1
  have hb := hC.2.1
  have hl : lv_has ls 5 [(0, .ref (a 5)), (1, .long x1), (3, .int x3)] := hl
  obtain ⟨H, eH⟩ : ∃ z : Heap, z = s.heap := ⟨_, rfl⟩
  obtain ⟨locs, elocs⟩ : ∃ z : List Loc, z = [] := ⟨_, rfl⟩
  have hw : InW D (wD cy a) A s.heap H locs S := by rw [eH, elocs]; exact hw
  suffices hsu : W p l e (rmN 1) s m args below meth c H locs 0 0 (QI below args s D (wD cy a) A r S) (F0 m 0 ls []) by rw [eH, elocs] at hsu; exact hsu
  unfold m_X0_isPointedTo at h
  refine lv_iconst (v := 0) hx hb dX0_isPointedTo_0 (by decide) ?_
  refine lv_istore (lv' := [(4, .int (0 : Int32)), (0, .ref (a 5)), (1, .long x1), (3, .int x3)]) hx hb dX0_isPointedTo_1 hl (by decide) rfl (fun ls hl => ?_)
  refine lq1_ok (fun (x4_1 : Int32) => ∀ (H : Heap) (locs : List Loc) (ls : Array Slot), InW D (wD cy a) A s.heap H locs S → lv_has ls 5 [(0, .ref (a 5)), (1, .long x1), (3, .int x3), (4, .int x4_1)] → W p l e (rmN 1) s m args below meth c H locs 0 0 (QI below args s D (wD cy a) A r S) (F0 m 3 ls [])) ?_ fu (0 : Int32) h H locs ls hw (lv_sub hl [1, 2, 3, 0] rfl)
  intro ag_2 hag_2 x4_1 h H locs ls hw hl
  unfold m_X0_isPointedTo_L3 at h
  refine lv_iload hx hb dX0_isPointedTo_3 (lv_at hl 3 rfl) ?_
  refine lv_aload_n hx hb dX0_isPointedTo_5 rfl (lv_at hl 0 rfl) ?_
  refine gf (v := .int (stI S 6)) hC hw in_X0 5 0 4 (cD_5 cy a S) rfl (by decide) lf_RX0_25 rfl rfl dX0_isPointedTo_6 ?_
  refine lv_icmp_ge (tgt := 39) hx hb dX0_isPointedTo_9 (by decide) (fun c_3 => ?_) (fun c_3 => ?_)
  · have h := if_at_t c_3 h
    refine lv_iconst (v := 0) hx hb dX0_isPointedTo_39 (by decide) ?_
    exact rtZ hC hr hk hw rfl (so_at h) rfl dX0_isPointedTo_40
  · have h := if_at_f c_3 h
    refine lv_aload_n hx hb dX0_isPointedTo_12 rfl (lv_at hl 0 rfl) ?_
    refine lv_iload hx hb dX0_isPointedTo_13 (lv_at hl 3 rfl) ?_
    obtain ⟨v_5, hc_4, h⟩ := bd_at h
    refine caVI (As := [.int x4_1]) (rest := []) hC hw hl.1 lm_RX0_57 li_RX0 lk_yX0_targetOf li_yX0_targetOf ll_yX0_targetOf 5 0 (cD_5 cy a S) rfl 1 rfl hd_X0_targetOf (by decide) (by decide) (Nat.le_of_ble_eq_true rfl) dX0_isPointedTo_15 (k_X0_targetOf l D cy a fu x4_1 S _ hc_4) (fun H locs hw => ?_)
    refine lv_iload_n hx hb dX0_isPointedTo_18 rfl (lv_at hl 2 rfl) ?_
    refine jn0_ok (∀ (H : Heap) (locs : List Loc) (ls : Array Slot), InW D (wD cy a) A s.heap H locs S → lv_has ls 5 [(0, .ref (a 5)), (1, .long x1), (3, .int x3), (4, .int x4_1)] → W p l e (rmN 1) s m args below meth c H locs 0 0 (QI below args s D (wD cy a) A r S) (F0 m 33 ls [])) ?_ ?_ h
    · intro h H locs ls hw hl
      obtain ⟨x4_7, ex4_7⟩ : ∃ z : Int32, z = x4_1 + (1 : Int32) := ⟨_, rfl⟩
      have h := nm_at ex4_7 h
      refine lv_iinc (v := x4_7) (lv' := [(4, .int x4_7), (0, .ref (a 5)), (1, .long x1), (3, .int x3)]) hx hb dX0_isPointedTo_33 hl (k := 3) rfl (by rw [ex4_7]; rfl) (by decide) rfl (fun ls hl => ?_)
      refine lv_goto (tgt := 3) hx hb dX0_isPointedTo_36 (by decide) ?_
      exact hag_2 x4_7 h H locs ls hw (lv_sub hl [1, 2, 3, 0] rfl)
    · intro j_6 hj_6 h
      refine lv_icmp_ne (tgt := 33) hx hb dX0_isPointedTo_19 (by decide) (fun c_8 => ?_) (fun c_8 => ?_)
      · have h := if_at_f c_8 h
        exact hj_6 h H locs ls hw (lv_sub hl [0, 1, 2, 3] rfl)
      · have h := if_at_t c_8 h
        refine lv_lload_n hx hb dX0_isPointedTo_22 rfl (lv_at hl 1 rfl) ?_
        refine lv_iload hx hb dX0_isPointedTo_23 (lv_at hl 3 rfl) ?_
        obtain ⟨v_10, hc_9, h⟩ := bd_at h
        refine caSI (As := [.long x1, .int x4_1]) (rest := []) hC hw hl.1 lm_RX0_70 li_RX5 lk_yX5_leavesOf ls_yX5_leavesOf 2 rfl hd_X5_leavesOf (by decide) (by decide) (Nat.le_of_ble_eq_true rfl) dX0_isPointedTo_25 (k_X5_leavesOf l D cy (wD cy a) S fu x1 x4_1 _ hc_9) (fun H locs hw => ?_)
        refine lv_if_eq (tgt := 33) hx hb dX0_isPointedTo_28 (by decide) (fun c_11 => ?_) (fun c_11 => ?_)
        · have h := if_at_t c_11 h
          exact hj_6 h H locs ls hw (lv_sub hl [0, 1, 2, 3] rfl)
        · have h := if_at_f c_11 h
          refine lv_iconst (v := 1) hx hb dX0_isPointedTo_31 (by decide) ?_
          exact rtZ hC hr hk hw rfl (so_at h) rfl dX0_isPointedTo_32
def m_X0_isKept (fu : Nat) (x1 : Int64) (x3 : Int32) (S : ST) : Option Int32 :=
  bd (m_X5_leavesOf fu x1 x3) (fun v_2 => bd (m_J6_bitCount_0f7a4 fu v_2) (fun v_4 => (if v_4 = (1 : Int32) then bd (m_X5_keptOf fu x1 x3) (fun v_7 => bd (m_X0_kindOf fu x3 S) (fun v_9 => bd (m_X2_mostKept fu v_9) (fun v_11 => (if v_11 ≤ v_7 then some (0 : Int32) else bd (m_X0_isPointedTo fu x1 x3 S) (fun v_14 => (if v_14 = (0 : Int32) then some (0 : Int32) else some (1 : Int32))))))) else some (0 : Int32))))
set_option maxRecDepth 100000 in
set_option maxHeartbeats 4000000 in
theorem k_X0_isKept (l : Launch) (D : va_G) (cy : ClassId) (a : Nat → Nat) (fu : Nat) (x1 : Int64) (x3 : Int32) (S : ST) (r : Int32) (h : m_X0_isKept fu x1 x3 S = some r) : CtI l yX0_isKept cX0_isKept 4 (some .boolean) 2 [.ref (a 5), .long x1, .int x3] D cy (wD cy a) S r S := by
  refine CtI_of (by decide) (Nat.le_of_ble_eq_true rfl) ?_
  intro p e s m args below meth c A ls hC hr hk hw hl
  have hC : Cx p s m c RX0 cX0_isKept 4 args D cy := hC
  have hx := hC.1
  have hb := hC.2.1
  have hl : lv_has ls 4 [(0, .ref (a 5)), (1, .long x1), (3, .int x3)] := hl
  obtain ⟨H, eH⟩ : ∃ z : Heap, z = s.heap := ⟨_, rfl⟩
  obtain ⟨locs, elocs⟩ : ∃ z : List Loc, z = [] := ⟨_, rfl⟩
  have hw : InW D (wD cy a) A s.heap H locs S := by rw [eH, elocs]; exact hw
  suffices hsu : W p l e (rmN 2) s m args below meth c H locs 0 0 (QI below args s D (wD cy a) A r S) (F0 m 0 ls []) by rw [eH, elocs] at hsu; exact hsu
  unfold m_X0_isKept at h
  refine lv_lload_n hx hb dX0_isKept_0 rfl (lv_at hl 1 rfl) ?_
  refine lv_iload_n hx hb dX0_isKept_1 rfl (lv_at hl 2 rfl) ?_
  obtain ⟨v_2, hc_1, h⟩ := bd_at h
  refine caSI (As := [.long x1, .int x3]) (rest := []) hC hw hl.1 lm_RX0_70 li_RX5 lk_yX5_leavesOf ls_yX5_leavesOf 2 rfl hd_X5_leavesOf (by decide) (by decide) (Nat.le_of_ble_eq_true rfl) dX0_isKept_2 (k_X5_leavesOf l D cy (wD cy a) S fu x1 x3 _ hc_1) (fun H locs hw => ?_)
  obtain ⟨v_4, hc_3, h⟩ := bd_at h
  refine caSI (As := [.int v_2]) (rest := []) hC hw hl.1 lm_RX0_73 li_RJ6 lk_yJ6_bitCount_0f7a4 ls_yJ6_bitCount_0f7a4 1 rfl hd_J6_bitCount_0f7a4 (by decide) (by decide) (Nat.le_of_ble_eq_true rfl) dX0_isKept_5 (k_J6_bitCount_0f7a4 l D cy (wD cy a) S fu v_2 _ hc_3) (fun H locs hw => ?_)
  refine lv_iconst (v := 1) hx hb dX0_isKept_8 (by decide) ?_
  refine lv_icmp_ne (tgt := 41) hx hb dX0_isKept_9 (by decide) (fun c_5 => ?_) (fun c_5 => ?_)
  · have h := if_at_f c_5 h
    refine lv_iconst (v := 0) hx hb dX0_isKept_41 (by decide) ?_
    exact rtZ hC hr hk hw rfl (so_at h) rfl dX0_isKept_42
  · have h := if_at_t c_5 h
    refine lv_lload_n hx hb dX0_isKept_12 rfl (lv_at hl 1 rfl) ?_
    refine lv_iload_n hx hb dX0_isKept_13 rfl (lv_at hl 2 rfl) ?_
    obtain ⟨v_7, hc_6, h⟩ := bd_at h
    refine caSI (As := [.long x1, .int x3]) (rest := []) hC hw hl.1 lm_RX0_117 li_RX5 lk_yX5_keptOf ls_yX5_keptOf 2 rfl hd_X5_keptOf (by decide) (by decide) (Nat.le_of_ble_eq_true rfl) dX0_isKept_14 (k_X5_keptOf l D cy (wD cy a) S fu x1 x3 _ hc_6) (fun H locs hw => ?_)
    refine lv_aload_n hx hb dX0_isKept_17 rfl (lv_at hl 0 rfl) ?_
    refine lv_iload_n hx hb dX0_isKept_18 rfl (lv_at hl 2 rfl) ?_
    obtain ⟨v_9, hc_8, h⟩ := bd_at h
    refine caVI (As := [.int x3]) (rest := [.int v_7]) hC hw hl.1 lm_RX0_78 li_RX0 lk_yX0_kindOf li_yX0_kindOf ll_yX0_kindOf 5 0 (cD_5 cy a S) rfl 1 rfl hd_X0_kindOf (by decide) (by decide) (Nat.le_of_ble_eq_true rfl) dX0_isKept_19 (k_X0_kindOf l D cy a fu x3 S _ hc_8) (fun H locs hw => ?_)
    obtain ⟨v_11, hc_10, h⟩ := bd_at h
    refine caSI (As := [.int v_9]) (rest := [.int v_7]) hC hw hl.1 lm_RX0_120 li_RX2 lk_yX2_mostKept ls_yX2_mostKept 1 rfl hd_X2_mostKept (by decide) (by decide) (Nat.le_of_ble_eq_true rfl) dX0_isKept_22 (k_X2_mostKept l D cy (wD cy a) S fu v_9 _ hc_10) (fun H locs hw => ?_)
    refine lv_icmp_ge (tgt := 41) hx hb dX0_isKept_25 (by decide) (fun c_12 => ?_) (fun c_12 => ?_)
    · have h := if_at_t c_12 h
      refine lv_iconst (v := 0) hx hb dX0_isKept_41 (by decide) ?_
      exact rtZ hC hr hk hw rfl (so_at h) rfl dX0_isKept_42
    · have h := if_at_f c_12 h
      refine lv_aload_n hx hb dX0_isKept_28 rfl (lv_at hl 0 rfl) ?_
      refine lv_lload_n hx hb dX0_isKept_29 rfl (lv_at hl 1 rfl) ?_
      refine lv_iload_n hx hb dX0_isKept_30 rfl (lv_at hl 2 rfl) ?_
      obtain ⟨v_14, hc_13, h⟩ := bd_at h
      refine caVI (As := [.long x1, .int x3]) (rest := []) hC hw hl.1 lm_RX0_123 li_RX0 lk_yX0_isPointedTo li_yX0_isPointedTo ll_yX0_isPointedTo 5 0 (cD_5 cy a S) rfl 2 rfl hd_X0_isPointedTo (by decide) (by decide) (Nat.le_of_ble_eq_true rfl) dX0_isKept_31 (k_X0_isPointedTo l D cy a fu x1 x3 S _ hc_13) (fun H locs hw => ?_)
      refine lv_if_eq (tgt := 41) hx hb dX0_isKept_34 (by decide) (fun c_15 => ?_) (fun c_15 => ?_)
      · have h := if_at_t c_15 h
        refine lv_iconst (v := 0) hx hb dX0_isKept_41 (by decide) ?_
        exact rtZ hC hr hk hw rfl (so_at h) rfl dX0_isKept_42
      · have h := if_at_f c_15 h
        refine lv_iconst (v := 1) hx hb dX0_isKept_37 (by decide) ?_
        refine lv_goto (tgt := 42) hx hb dX0_isKept_38 (by decide) ?_
        exact rtZ hC hr hk hw rfl (so_at h) rfl dX0_isKept_42
def m_X0_burntDown_L6 (fu : Nat) (x1 : Int64) (x3 : Int32) (S : ST) (ag_3 : Int64 → Int32 → Option Int64) (x4_1 : Int64) (x6_2 : Int32) : Option Int64 :=
  (if (stI S 6) ≤ x6_2 then some x4_1 else bd (m_X5_hasLeaf fu x1 x6_2 x3) (fun v_6 => jn1 (fun (x4_7 : Int64) => nm (x6_2 + (1 : Int32)) (fun x6_9 => ag_3 x4_7 x6_9)) (fun j_8 => (if v_6 = (0 : Int32) then j_8 x4_1 else bd (m_X0_isKept fu x1 x6_2 S) (fun v_12 => (if v_12 = (0 : Int32) then bd (m_X0_kindOf fu x6_2 S) (fun v_15 => bd (m_X2_lostWith fu v_15 x3) (fun v_17 => bd (m_X5_without fu x4_1 x6_2 v_17) (fun v_19 => j_8 v_19))) else bd (m_X5_keptOnceMore fu x4_1 x6_2) (fun v_21 => j_8 v_21)))))))
def m_X0_burntDown (fu : Nat) (x1 : Int64) (x3 : Int32) (S : ST) : Option Int64 :=
  lq2 (m_X0_burntDown_L6 fu x1 x3 S) fu x1 (0 : Int32)
set_option maxRecDepth 100000 in
set_option maxHeartbeats 4000000 in
theorem k_X0_burntDown (l : Launch) (D : va_G) (cy : ClassId) (a : Nat → Nat) (fu : Nat) (x1 : Int64) (x3 : Int32) (S : ST) (r : Int64) (h : m_X0_burntDown fu x1 x3 S = some r) : CtL l yX0_burntDown cX0_burntDown 7 (some .long) 3 [.ref (a 5), .long x1, .int x3] D cy (wD cy a) S r S := by
  refine CtL_of (by decide) (Nat.le_of_ble_eq_true rfl) ?_
  intro p e s m args below meth c A ls hC hr hk hw hl
  have hC : Cx p s m c RX0 cX0_burntDown 7 args D cy := hC
  have hx := hC.1
  have hb := hC.2.1
  have hl : lv_has ls 7 [(0, .ref (a 5)), (1, .long x1), (3, .int x3)] := hl
  obtain ⟨H, eH⟩ : ∃ z : Heap, z = s.heap := ⟨_, rfl⟩
  obtain ⟨locs, elocs⟩ : ∃ z : List Loc, z = [] := ⟨_, rfl⟩
  have hw : InW D (wD cy a) A s.heap H locs S := by rw [eH, elocs]; exact hw
  suffices hsu : W p l e (rmN 3) s m args below meth c H locs 0 0 (QL below args s D (wD cy a) A r S) (F0 m 0 ls []) by rw [eH, elocs] at hsu; exact hsu
  unfold m_X0_burntDown at h
  refine lv_lload_n hx hb dX0_burntDown_0 rfl (lv_at hl 1 rfl) ?_
  refine lv_lstore (lv' := [(4, .long x1), (0, .ref (a 5)), (1, .long x1), (3, .int x3)]) hx hb dX0_burntDown_1 hl (by decide) rfl (fun ls hl => ?_)
  refine lv_iconst (v := 0) hx hb dX0_burntDown_3 (by decide) ?_
  refine lv_istore (lv' := [(6, .int (0 : Int32)), (4, .long x1), (0, .ref (a 5)), (1, .long x1), (3, .int x3)]) hx hb dX0_burntDown_4 hl (by decide) rfl (fun ls hl => ?_)
  refine lq2_ok (fun (x4_1 : Int64) (x6_2 : Int32) => ∀ (H : Heap) (locs : List Loc) (ls : Array Slot), InW D (wD cy a) A s.heap H locs S → lv_has ls 7 [(0, .ref (a 5)), (1, .long x1), (3, .int x3), (4, .long x4_1), (6, .int x6_2)] → W p l e (rmN 3) s m args below meth c H locs 0 0 (QL below args s D (wD cy a) A r S) (F0 m 6 ls [])) ?_ fu x1 (0 : Int32) h H locs ls hw (lv_sub hl [2, 3, 4, 1, 0] rfl)
  intro ag_3 hag_3 x4_1 x6_2 h H locs ls hw hl
  unfold m_X0_burntDown_L6 at h
  refine lv_iload hx hb dX0_burntDown_6 (lv_at hl 4 rfl) ?_
  refine lv_aload_n hx hb dX0_burntDown_8 rfl (lv_at hl 0 rfl) ?_
  refine gf (v := .int (stI S 6)) hC hw in_X0 5 0 4 (cD_5 cy a S) rfl (by decide) lf_RX0_25 rfl rfl dX0_burntDown_9 ?_
  refine lv_icmp_ge (tgt := 75) hx hb dX0_burntDown_12 (by decide) (fun c_4 => ?_) (fun c_4 => ?_)
  · have h := if_at_t c_4 h
    refine lv_lload hx hb dX0_burntDown_75 (lv_at hl 3 rfl) ?_
    exact rtL hC hr hk hw (so_at h) rfl dX0_burntDown_77
  · have h := if_at_f c_4 h
    refine lv_lload_n hx hb dX0_burntDown_15 rfl (lv_at hl 1 rfl) ?_
    refine lv_iload hx hb dX0_burntDown_16 (lv_at hl 4 rfl) ?_
    refine lv_iload_n hx hb dX0_burntDown_18 rfl (lv_at hl 2 rfl) ?_
    obtain ⟨v_6, hc_5, h⟩ := bd_at h
    refine caSI (As := [.long x1, .int x6_2, .int x3]) (rest := []) hC hw hl.1 lm_RX0_84 li_RX5 lk_yX5_hasLeaf ls_yX5_hasLeaf 3 rfl hd_X5_hasLeaf (by decide) (by decide) (Nat.le_of_ble_eq_true rfl) dX0_burntDown_19 (k_X5_hasLeaf l D cy (wD cy a) S fu x1 x6_2 x3 _ hc_5) (fun H locs hw => ?_)
    refine jn1_ok (fun (x4_7 : Int64) => ∀ (H : Heap) (locs : List Loc) (ls : Array Slot), InW D (wD cy a) A s.heap H locs S → lv_has ls 7 [(0, .ref (a 5)), (1, .long x1), (3, .int x3), (4, .long x4_7), (6, .int x6_2)] → W p l e (rmN 3) s m args below meth c H locs 0 0 (QL below args s D (wD cy a) A r S) (F0 m 69 ls [])) ?_ ?_ h
    · intro x4_7 h H locs ls hw hl
      obtain ⟨x6_9, ex6_9⟩ : ∃ z : Int32, z = x6_2 + (1 : Int32) := ⟨_, rfl⟩
      have h := nm_at ex6_9 h
      refine lv_iinc (v := x6_9) (lv' := [(6, .int x6_9), (0, .ref (a 5)), (1, .long x1), (3, .int x3), (4, .long x4_7)]) hx hb dX0_burntDown_69 hl (k := 4) rfl (by rw [ex6_9]; rfl) (by decide) rfl (fun ls hl => ?_)
      refine lv_goto (tgt := 6) hx hb dX0_burntDown_72 (by decide) ?_
      exact hag_3 x4_7 x6_9 h H locs ls hw (lv_sub hl [1, 2, 3, 4, 0] rfl)
    · intro j_8 hj_8 h
      refine lv_if_ne (tgt := 28) hx hb dX0_burntDown_22 (by decide) (fun c_10 => ?_) (fun c_10 => ?_)
      · have h := if_at_f c_10 h
        refine lv_aload_n hx hb dX0_burntDown_28 rfl (lv_at hl 0 rfl) ?_
        refine lv_lload_n hx hb dX0_burntDown_29 rfl (lv_at hl 1 rfl) ?_
        refine lv_iload hx hb dX0_burntDown_30 (lv_at hl 4 rfl) ?_
        obtain ⟨v_12, hc_11, h⟩ := bd_at h
        refine caVI (As := [.long x1, .int x6_2]) (rest := []) hC hw hl.1 lm_RX0_104 li_RX0 lk_yX0_isKept li_yX0_isKept ll_yX0_isKept 5 0 (cD_5 cy a S) rfl 2 rfl hd_X0_isKept (by decide) (by decide) (Nat.le_of_ble_eq_true rfl) dX0_burntDown_32 (k_X0_isKept l D cy a fu x1 x6_2 S _ hc_11) (fun H locs hw => ?_)
        refine lv_if_eq (tgt := 50) hx hb dX0_burntDown_35 (by decide) (fun c_13 => ?_) (fun c_13 => ?_)
        · have h := if_at_t c_13 h
          refine lv_lload hx hb dX0_burntDown_50 (lv_at hl 3 rfl) ?_
          refine lv_iload hx hb dX0_burntDown_52 (lv_at hl 4 rfl) ?_
          refine lv_aload_n hx hb dX0_burntDown_54 rfl (lv_at hl 0 rfl) ?_
          refine lv_iload hx hb dX0_burntDown_55 (lv_at hl 4 rfl) ?_
          obtain ⟨v_15, hc_14, h⟩ := bd_at h
          refine caVI (As := [.int x6_2]) (rest := [.int x6_2, .long x4_1]) hC hw hl.1 lm_RX0_78 li_RX0 lk_yX0_kindOf li_yX0_kindOf ll_yX0_kindOf 5 0 (cD_5 cy a S) rfl 1 rfl hd_X0_kindOf (by decide) (by decide) (Nat.le_of_ble_eq_true rfl) dX0_burntDown_57 (k_X0_kindOf l D cy a fu x6_2 S _ hc_14) (fun H locs hw => ?_)
          refine lv_iload_n hx hb dX0_burntDown_60 rfl (lv_at hl 2 rfl) ?_
          obtain ⟨v_17, hc_16, h⟩ := bd_at h
          refine caSI (As := [.int v_15, .int x3]) (rest := [.int x6_2, .long x4_1]) hC hw hl.1 lm_RX0_110 li_RX2 lk_yX2_lostWith ls_yX2_lostWith 2 rfl hd_X2_lostWith (by decide) (by decide) (Nat.le_of_ble_eq_true rfl) dX0_burntDown_61 (k_X2_lostWith l D cy (wD cy a) S fu v_15 x3 _ hc_16) (fun H locs hw => ?_)
          obtain ⟨v_19, hc_18, h⟩ := bd_at h
          refine caSL (As := [.long x4_1, .int x6_2, .int v_17]) (rest := []) hC hw hl.1 lm_RX0_114 li_RX5 lk_yX5_without ls_yX5_without 3 rfl hd_X5_without (by decide) (by decide) (Nat.le_of_ble_eq_true rfl) dX0_burntDown_64 (k_X5_without l D cy (wD cy a) S fu x4_1 x6_2 v_17 _ hc_18) (fun H locs hw => ?_)
          refine lv_lstore (lv' := [(4, .long v_19), (0, .ref (a 5)), (1, .long x1), (3, .int x3), (6, .int x6_2)]) hx hb dX0_burntDown_67 hl (by decide) rfl (fun ls hl => ?_)
          exact hj_8 v_19 h H locs ls hw (lv_sub hl [1, 2, 3, 0, 4] rfl)
        · have h := if_at_f c_13 h
          refine lv_lload hx hb dX0_burntDown_38 (lv_at hl 3 rfl) ?_
          refine lv_iload hx hb dX0_burntDown_40 (lv_at hl 4 rfl) ?_
          obtain ⟨v_21, hc_20, h⟩ := bd_at h
          refine caSL (As := [.long x4_1, .int x6_2]) (rest := []) hC hw hl.1 lm_RX0_107 li_RX5 lk_yX5_keptOnceMore ls_yX5_keptOnceMore 2 rfl hd_X5_keptOnceMore (by decide) (by decide) (Nat.le_of_ble_eq_true rfl) dX0_burntDown_42 (k_X5_keptOnceMore l D cy (wD cy a) S fu x4_1 x6_2 _ hc_20) (fun H locs hw => ?_)
          refine lv_lstore (lv' := [(4, .long v_21), (0, .ref (a 5)), (1, .long x1), (3, .int x3), (6, .int x6_2)]) hx hb dX0_burntDown_45 hl (by decide) rfl (fun ls hl => ?_)
          refine lv_goto (tgt := 69) hx hb dX0_burntDown_47 (by decide) ?_
          exact hj_8 v_21 h H locs ls hw (lv_sub hl [1, 2, 3, 0, 4] rfl)
      · have h := if_at_t c_10 h
        refine lv_goto (tgt := 69) hx hb dX0_burntDown_25 (by decide) ?_
        exact hj_8 x4_1 h H locs ls hw (lv_sub hl [0, 1, 2, 3, 4] rfl)
def m_X0_grown_L3 (fu : Nat) (x1 : Int64) (x3 : Int32) (S : ST) (j_2 : Int32 → Option Int64) (ag_6 : Int32 → Option Int64) (x4_5 : Int32) : Option Int64 :=
  (if (6 : Int32) ≤ x4_5 then some x1 else bd (m_X5_hasLeaf fu x1 x3 x4_5) (fun v_9 => jn0 (nm (x4_5 + (1 : Int32)) (fun x4_11 => ag_6 x4_11)) (fun j_10 => (if v_9 = (0 : Int32) then bd (m_X5_fullness fu x1 x4_5) (fun v_14 => (if (stI S 5) ≤ v_14 then j_10 else j_2 x4_5)) else j_10))))
def m_X0_grown (fu : Nat) (x1 : Int64) (x3 : Int32) (S : ST) : Option Int64 :=
  jn1 (fun (x4_1 : Int32) => bd (m_X5_turned fu x1 x3 x4_1) (fun v_4 => some v_4)) (fun j_2 => lq1 (m_X0_grown_L3 fu x1 x3 S j_2) fu (0 : Int32))
set_option maxRecDepth 100000 in
set_option maxHeartbeats 4000000 in
theorem k_X0_grown (l : Launch) (D : va_G) (cy : ClassId) (a : Nat → Nat) (fu : Nat) (x1 : Int64) (x3 : Int32) (S : ST) (r : Int64) (h : m_X0_grown fu x1 x3 S = some r) : CtL l yX0_grown cX0_grown 5 (some .long) 2 [.ref (a 5), .long x1, .int x3] D cy (wD cy a) S r S := by
  refine CtL_of (by decide) (Nat.le_of_ble_eq_true rfl) ?_
  intro p e s m args below meth c A ls hC hr hk hw hl
  have hC : Cx p s m c RX0 cX0_grown 5 args D cy := hC
  have hx := hC.1
  have hb := hC.2.1
  have hl : lv_has ls 5 [(0, .ref (a 5)), (1, .long x1), (3, .int x3)] := hl
  obtain ⟨H, eH⟩ : ∃ z : Heap, z = s.heap := ⟨_, rfl⟩
  obtain ⟨locs, elocs⟩ : ∃ z : List Loc, z = [] := ⟨_, rfl⟩
  have hw : InW D (wD cy a) A s.heap H locs S := by rw [eH, elocs]; exact hw
  suffices hsu : W p l e (rmN 2) s m args below meth c H locs 0 0 (QL below args s D (wD cy a) A r S) (F0 m 0 ls []) by rw [eH, elocs] at hsu; exact hsu
  unfold m_X0_grown at h
  refine lv_iconst (v := 0) hx hb dX0_grown_0 (by decide) ?_
  refine lv_istore (lv' := [(4, .int (0 : Int32)), (0, .ref (a 5)), (1, .long x1), (3, .int x3)]) hx hb dX0_grown_1 hl (by decide) rfl (fun ls hl => ?_)
  refine jn1_ok (fun (x4_1 : Int32) => ∀ (H : Heap) (locs : List Loc) (ls : Array Slot), InW D (wD cy a) A s.heap H locs S → lv_has ls 5 [(1, .long x1), (3, .int x3), (4, .int x4_1)] → W p l e (rmN 2) s m args below meth c H locs 0 0 (QL below args s D (wD cy a) A r S) (F0 m 36 ls [])) ?_ ?_ h
  · intro x4_1 h H locs ls hw hl
    refine lv_lload_n hx hb dX0_grown_36 rfl (lv_at hl 0 rfl) ?_
    refine lv_iload_n hx hb dX0_grown_37 rfl (lv_at hl 1 rfl) ?_
    refine lv_iload hx hb dX0_grown_38 (lv_at hl 2 rfl) ?_
    obtain ⟨v_4, hc_3, h⟩ := bd_at h
    refine caSL (As := [.long x1, .int x3, .int x4_1]) (rest := []) hC hw hl.1 lm_RX0_51 li_RX5 lk_yX5_turned ls_yX5_turned 3 rfl hd_X5_turned (by decide) (by decide) (Nat.le_of_ble_eq_true rfl) dX0_grown_40 (k_X5_turned l D cy (wD cy a) S fu x1 x3 x4_1 _ hc_3) (fun H locs hw => ?_)
    exact rtL hC hr hk hw (so_at h) rfl dX0_grown_43
  · intro j_2 hj_2 h
    refine lq1_ok (fun (x4_5 : Int32) => ∀ (H : Heap) (locs : List Loc) (ls : Array Slot), InW D (wD cy a) A s.heap H locs S → lv_has ls 5 [(0, .ref (a 5)), (1, .long x1), (3, .int x3), (4, .int x4_5)] → W p l e (rmN 2) s m args below meth c H locs 0 0 (QL below args s D (wD cy a) A r S) (F0 m 3 ls [])) ?_ fu (0 : Int32) h H locs ls hw (lv_sub hl [1, 2, 3, 0] rfl)
    intro ag_6 hag_6 x4_5 h H locs ls hw hl
    unfold m_X0_grown_L3 at h
    refine lv_iload hx hb dX0_grown_3 (lv_at hl 3 rfl) ?_
    refine lv_bipush (v := 6) hx hb dX0_grown_5 (by decide) ?_
    refine lv_icmp_ge (tgt := 50) hx hb dX0_grown_7 (by decide) (fun c_7 => ?_) (fun c_7 => ?_)
    · have h := if_at_t c_7 h
      refine lv_lload_n hx hb dX0_grown_50 rfl (lv_at hl 1 rfl) ?_
      exact rtL hC hr hk hw (so_at h) rfl dX0_grown_51
    · have h := if_at_f c_7 h
      refine lv_lload_n hx hb dX0_grown_10 rfl (lv_at hl 1 rfl) ?_
      refine lv_iload_n hx hb dX0_grown_11 rfl (lv_at hl 2 rfl) ?_
      refine lv_iload hx hb dX0_grown_12 (lv_at hl 3 rfl) ?_
      obtain ⟨v_9, hc_8, h⟩ := bd_at h
      refine caSI (As := [.long x1, .int x3, .int x4_5]) (rest := []) hC hw hl.1 lm_RX0_84 li_RX5 lk_yX5_hasLeaf ls_yX5_hasLeaf 3 rfl hd_X5_hasLeaf (by decide) (by decide) (Nat.le_of_ble_eq_true rfl) dX0_grown_14 (k_X5_hasLeaf l D cy (wD cy a) S fu x1 x3 x4_5 _ hc_8) (fun H locs hw => ?_)
      refine jn0_ok (∀ (H : Heap) (locs : List Loc) (ls : Array Slot), InW D (wD cy a) A s.heap H locs S → lv_has ls 5 [(0, .ref (a 5)), (1, .long x1), (3, .int x3), (4, .int x4_5)] → W p l e (rmN 2) s m args below meth c H locs 0 0 (QL below args s D (wD cy a) A r S) (F0 m 44 ls [])) ?_ ?_ h
      · intro h H locs ls hw hl
        obtain ⟨x4_11, ex4_11⟩ : ∃ z : Int32, z = x4_5 + (1 : Int32) := ⟨_, rfl⟩
        have h := nm_at ex4_11 h
        refine lv_iinc (v := x4_11) (lv' := [(4, .int x4_11), (0, .ref (a 5)), (1, .long x1), (3, .int x3)]) hx hb dX0_grown_44 hl (k := 3) rfl (by rw [ex4_11]; rfl) (by decide) rfl (fun ls hl => ?_)
        refine lv_goto (tgt := 3) hx hb dX0_grown_47 (by decide) ?_
        exact hag_6 x4_11 h H locs ls hw (lv_sub hl [1, 2, 3, 0] rfl)
      · intro j_10 hj_10 h
        refine lv_if_ne (tgt := 44) hx hb dX0_grown_17 (by decide) (fun c_12 => ?_) (fun c_12 => ?_)
        · have h := if_at_f c_12 h
          exact hj_10 h H locs ls hw (lv_sub hl [0, 1, 2, 3] rfl)
        · have h := if_at_t c_12 h
          refine lv_lload_n hx hb dX0_grown_20 rfl (lv_at hl 1 rfl) ?_
          refine lv_iload hx hb dX0_grown_21 (lv_at hl 3 rfl) ?_
          obtain ⟨v_14, hc_13, h⟩ := bd_at h
          refine caSI (As := [.long x1, .int x4_5]) (rest := []) hC hw hl.1 lm_RX0_61 li_RX5 lk_yX5_fullness ls_yX5_fullness 2 rfl hd_X5_fullness (by decide) (by decide) (Nat.le_of_ble_eq_true rfl) dX0_grown_23 (k_X5_fullness l D cy (wD cy a) S fu x1 x4_5 _ hc_13) (fun H locs hw => ?_)
          refine lv_aload_n hx hb dX0_grown_26 rfl (lv_at hl 0 rfl) ?_
          refine gf (v := .ref (a 3)) hC hw in_X0 5 0 0 (cD_5 cy a S) rfl (by decide) lf_RX0_21 rfl rfl dX0_grown_27 ?_
          refine gfN (v := .int (stI S 5)) hC hw in_X3 3 2 1 (cD_3 cy a S) rfl (by decide) lf_RX0_65 rfl rfl dX0_grown_30 ?_
          refine lv_icmp_ge (tgt := 44) hx hb dX0_grown_33 (by decide) (fun c_15 => ?_) (fun c_15 => ?_)
          · have h := if_at_t c_15 h
            exact hj_10 h H locs ls hw (lv_sub hl [0, 1, 2, 3] rfl)
          · have h := if_at_f c_15 h
            exact hj_2 x4_5 h H locs ls hw (lv_sub hl [1, 2, 3] rfl)
def m_X0_rumoursGrown_L5 (fu : Nat) (S : ST) (ag_3 : Int64 → Int32 → Option Int64) (x3_1 : Int64) (x5_2 : Int32) : Option Int64 :=
  (if (stI S 6) ≤ x5_2 then some x3_1 else bd (m_X0_kindOf fu x5_2 S) (fun v_6 => jn1 (fun (x3_7 : Int64) => nm (x5_2 + (1 : Int32)) (fun x5_9 => ag_3 x3_7 x5_9)) (fun j_8 => (if v_6 = (1 : Int32) then bd (m_X5_lives fu x3_1 x5_2) (fun v_12 => (if v_12 = (0 : Int32) then j_8 x3_1 else bd (m_X0_grown fu x3_1 x5_2 S) (fun v_15 => j_8 v_15))) else j_8 x3_1))))
def m_X0_rumoursGrown (fu : Nat) (x1 : Int64) (S : ST) : Option Int64 :=
  lq2 (m_X0_rumoursGrown_L5 fu S) fu x1 (0 : Int32)
set_option maxRecDepth 100000 in
set_option maxHeartbeats 4000000 in
theorem k_X0_rumoursGrown (l : Launch) (D : va_G) (cy : ClassId) (a : Nat → Nat) (fu : Nat) (x1 : Int64) (S : ST) (r : Int64) (h : m_X0_rumoursGrown fu x1 S = some r) : CtL l yX0_rumoursGrown cX0_rumoursGrown 6 (some .long) 3 [.ref (a 5), .long x1] D cy (wD cy a) S r S := by
  refine CtL_of (by decide) (Nat.le_of_ble_eq_true rfl) ?_
  intro p e s m args below meth c A ls hC hr hk hw hl
  have hC : Cx p s m c RX0 cX0_rumoursGrown 6 args D cy := hC
  have hx := hC.1
  have hb := hC.2.1
  have hl : lv_has ls 6 [(0, .ref (a 5)), (1, .long x1)] := hl
  obtain ⟨H, eH⟩ : ∃ z : Heap, z = s.heap := ⟨_, rfl⟩
  obtain ⟨locs, elocs⟩ : ∃ z : List Loc, z = [] := ⟨_, rfl⟩
  have hw : InW D (wD cy a) A s.heap H locs S := by rw [eH, elocs]; exact hw
  suffices hsu : W p l e (rmN 3) s m args below meth c H locs 0 0 (QL below args s D (wD cy a) A r S) (F0 m 0 ls []) by rw [eH, elocs] at hsu; exact hsu
  unfold m_X0_rumoursGrown at h
  refine lv_lload_n hx hb dX0_rumoursGrown_0 rfl (lv_at hl 1 rfl) ?_
  refine lv_lstore_n (lv' := [(3, .long x1), (0, .ref (a 5)), (1, .long x1)]) hx hb dX0_rumoursGrown_1 rfl hl (by decide) rfl (fun ls hl => ?_)
  refine lv_iconst (v := 0) hx hb dX0_rumoursGrown_2 (by decide) ?_
  refine lv_istore (lv' := [(5, .int (0 : Int32)), (3, .long x1), (0, .ref (a 5)), (1, .long x1)]) hx hb dX0_rumoursGrown_3 hl (by decide) rfl (fun ls hl => ?_)
  refine lq2_ok (fun (x3_1 : Int64) (x5_2 : Int32) => ∀ (H : Heap) (locs : List Loc) (ls : Array Slot), InW D (wD cy a) A s.heap H locs S → lv_has ls 6 [(0, .ref (a 5)), (3, .long x3_1), (5, .int x5_2)] → W p l e (rmN 3) s m args below meth c H locs 0 0 (QL below args s D (wD cy a) A r S) (F0 m 5 ls [])) ?_ fu x1 (0 : Int32) h H locs ls hw (lv_sub hl [2, 1, 0] rfl)
  intro ag_3 hag_3 x3_1 x5_2 h H locs ls hw hl
  unfold m_X0_rumoursGrown_L5 at h
  refine lv_iload hx hb dX0_rumoursGrown_5 (lv_at hl 2 rfl) ?_
  refine lv_aload_n hx hb dX0_rumoursGrown_7 rfl (lv_at hl 0 rfl) ?_
  refine gf (v := .int (stI S 6)) hC hw in_X0 5 0 4 (cD_5 cy a S) rfl (by decide) lf_RX0_25 rfl rfl dX0_rumoursGrown_8 ?_
  refine lv_icmp_ge (tgt := 47) hx hb dX0_rumoursGrown_11 (by decide) (fun c_4 => ?_) (fun c_4 => ?_)
  · have h := if_at_t c_4 h
    refine lv_lload_n hx hb dX0_rumoursGrown_47 rfl (lv_at hl 1 rfl) ?_
    exact rtL hC hr hk hw (so_at h) rfl dX0_rumoursGrown_48
  · have h := if_at_f c_4 h
    refine lv_aload_n hx hb dX0_rumoursGrown_14 rfl (lv_at hl 0 rfl) ?_
    refine lv_iload hx hb dX0_rumoursGrown_15 (lv_at hl 2 rfl) ?_
    obtain ⟨v_6, hc_5, h⟩ := bd_at h
    refine caVI (As := [.int x5_2]) (rest := []) hC hw hl.1 lm_RX0_78 li_RX0 lk_yX0_kindOf li_yX0_kindOf ll_yX0_kindOf 5 0 (cD_5 cy a S) rfl 1 rfl hd_X0_kindOf (by decide) (by decide) (Nat.le_of_ble_eq_true rfl) dX0_rumoursGrown_17 (k_X0_kindOf l D cy a fu x5_2 S _ hc_5) (fun H locs hw => ?_)
    refine lv_iconst (v := 1) hx hb dX0_rumoursGrown_20 (by decide) ?_
    refine jn1_ok (fun (x3_7 : Int64) => ∀ (H : Heap) (locs : List Loc) (ls : Array Slot), InW D (wD cy a) A s.heap H locs S → lv_has ls 6 [(0, .ref (a 5)), (3, .long x3_7), (5, .int x5_2)] → W p l e (rmN 3) s m args below meth c H locs 0 0 (QL below args s D (wD cy a) A r S) (F0 m 41 ls [])) ?_ ?_ h
    · intro x3_7 h H locs ls hw hl
      obtain ⟨x5_9, ex5_9⟩ : ∃ z : Int32, z = x5_2 + (1 : Int32) := ⟨_, rfl⟩
      have h := nm_at ex5_9 h
      refine lv_iinc (v := x5_9) (lv' := [(5, .int x5_9), (0, .ref (a 5)), (3, .long x3_7)]) hx hb dX0_rumoursGrown_41 hl (k := 2) rfl (by rw [ex5_9]; rfl) (by decide) rfl (fun ls hl => ?_)
      refine lv_goto (tgt := 5) hx hb dX0_rumoursGrown_44 (by decide) ?_
      exact hag_3 x3_7 x5_9 h H locs ls hw (lv_sub hl [1, 2, 0] rfl)
    · intro j_8 hj_8 h
      refine lv_icmp_ne (tgt := 41) hx hb dX0_rumoursGrown_21 (by decide) (fun c_10 => ?_) (fun c_10 => ?_)
      · have h := if_at_f c_10 h
        exact hj_8 x3_1 h H locs ls hw (lv_sub hl [0, 1, 2] rfl)
      · have h := if_at_t c_10 h
        refine lv_lload_n hx hb dX0_rumoursGrown_24 rfl (lv_at hl 1 rfl) ?_
        refine lv_iload hx hb dX0_rumoursGrown_25 (lv_at hl 2 rfl) ?_
        obtain ⟨v_12, hc_11, h⟩ := bd_at h
        refine caSI (As := [.long x3_1, .int x5_2]) (rest := []) hC hw hl.1 lm_RX0_126 li_RX5 lk_yX5_lives ls_yX5_lives 2 rfl hd_X5_lives (by decide) (by decide) (Nat.le_of_ble_eq_true rfl) dX0_rumoursGrown_27 (k_X5_lives l D cy (wD cy a) S fu x3_1 x5_2 _ hc_11) (fun H locs hw => ?_)
        refine lv_if_eq (tgt := 41) hx hb dX0_rumoursGrown_30 (by decide) (fun c_13 => ?_) (fun c_13 => ?_)
        · have h := if_at_t c_13 h
          exact hj_8 x3_1 h H locs ls hw (lv_sub hl [0, 1, 2] rfl)
        · have h := if_at_f c_13 h
          refine lv_aload_n hx hb dX0_rumoursGrown_33 rfl (lv_at hl 0 rfl) ?_
          refine lv_lload_n hx hb dX0_rumoursGrown_34 rfl (lv_at hl 1 rfl) ?_
          refine lv_iload hx hb dX0_rumoursGrown_35 (lv_at hl 2 rfl) ?_
          obtain ⟨v_15, hc_14, h⟩ := bd_at h
          refine caVL (As := [.long x3_1, .int x5_2]) (rest := []) hC hw hl.1 lm_RX0_129 li_RX0 lk_yX0_grown li_yX0_grown ll_yX0_grown 5 0 (cD_5 cy a S) rfl 2 rfl hd_X0_grown (by decide) (by decide) (Nat.le_of_ble_eq_true rfl) dX0_rumoursGrown_37 (k_X0_grown l D cy a fu x3_1 x5_2 S _ hc_14) (fun H locs hw => ?_)
          refine lv_lstore_n (lv' := [(3, .long v_15), (0, .ref (a 5)), (5, .int x5_2)]) hx hb dX0_rumoursGrown_40 rfl hl (by decide) rfl (fun ls hl => ?_)
          exact hj_8 v_15 h H locs ls hw (lv_sub hl [1, 0, 2] rfl)
def m_X0_passYear (fu : Nat) (x1 : Int32) (S : ST) : Option (Int32 × ST) :=
  bd (m_X0_burntDown fu ((stL S 0)) x1 S) (fun v_2 => bd (m_X5_allLeaves fu ((stL S 0))) (fun v_4 => bd (m_X5_allLeaves fu v_2) (fun v_6 => nm ((v_4 - v_6)) (fun x4_7 => bd (m_X0_rumoursGrown fu v_2 S) (fun v_9 => nm (puL S 0 v_9) (fun S_10 => nm (puI S_10 7 (((stI S_10 7) + (1 : Int32)))) (fun S_11 => some (x4_7, S_11))))))))
set_option maxRecDepth 100000 in
set_option maxHeartbeats 4000000 in
theorem k_X0_passYear (l : Launch) (D : va_G) (cy : ClassId) (a : Nat → Nat) (fu : Nat) (x1 : Int32) (S : ST) (r : Int32) (S' : ST) (h : m_X0_passYear fu x1 S = some (r, S')) : CtI l yX0_passYear cX0_passYear 5 (some .int) 4 [.ref (a 5), .int x1] D cy (wD cy a) S r S' := by
  refine CtI_of (by decide) (Nat.le_of_ble_eq_true rfl) ?_
  intro p e s m args below meth c A ls hC hr hk hw hl
  have hC : Cx p s m c RX0 cX0_passYear 5 args D cy := hC
  have hx := hC.1
  have hb := hC.2.1
  have hl : lv_has ls 5 [(0, .ref (a 5)), (1, .int x1)] := hl
  obtain ⟨H, eH⟩ : ∃ z : Heap, z = s.heap := ⟨_, rfl⟩
  obtain ⟨locs, elocs⟩ : ∃ z : List Loc, z = [] := ⟨_, rfl⟩
  have hw : InW D (wD cy a) A s.heap H locs S := by rw [eH, elocs]; exact hw
  suffices hsu : W p l e (rmN 4) s m args below meth c H locs 0 0 (QI below args s D (wD cy a) A r S') (F0 m 0 ls []) by rw [eH, elocs] at hsu; exact hsu
  unfold m_X0_passYear at h
  refine lv_aload_n hx hb dX0_passYear_0 rfl (lv_at hl 0 rfl) ?_
  refine lv_aload_n hx hb dX0_passYear_1 rfl (lv_at hl 0 rfl) ?_
  refine gf (v := .long (stL S 0)) hC hw in_X0 5 0 5 (cD_5 cy a S) rfl (by decide) lf_RX0_29 rfl rfl dX0_passYear_2 ?_
  refine lv_iload_n hx hb dX0_passYear_5 rfl (lv_at hl 1 rfl) ?_
  obtain ⟨v_2, hc_1, h⟩ := bd_at h
  refine caVL (As := [.long (stL S 0), .int x1]) (rest := []) hC hw hl.1 lm_RX0_92 li_RX0 lk_yX0_burntDown li_yX0_burntDown ll_yX0_burntDown 5 0 (cD_5 cy a S) rfl 2 rfl hd_X0_burntDown (by decide) (by decide) (Nat.le_of_ble_eq_true rfl) dX0_passYear_6 (k_X0_burntDown l D cy a fu ((stL S 0)) x1 S _ hc_1) (fun H locs hw => ?_)
  refine lv_lstore_n (lv' := [(2, .long v_2), (0, .ref (a 5)), (1, .int x1)]) hx hb dX0_passYear_9 rfl hl (by decide) rfl (fun ls hl => ?_)
  refine lv_aload_n hx hb dX0_passYear_10 rfl (lv_at hl 1 rfl) ?_
  refine gf (v := .long (stL S 0)) hC hw in_X0 5 0 5 (cD_5 cy a S) rfl (by decide) lf_RX0_29 rfl rfl dX0_passYear_11 ?_
  obtain ⟨v_4, hc_3, h⟩ := bd_at h
  refine caSI (As := [.long (stL S 0)]) (rest := []) hC hw hl.1 lm_RX0_96 li_RX5 lk_yX5_allLeaves ls_yX5_allLeaves 1 rfl hd_X5_allLeaves (by decide) (by decide) (Nat.le_of_ble_eq_true rfl) dX0_passYear_14 (k_X5_allLeaves l D cy (wD cy a) S fu ((stL S 0)) _ hc_3) (fun H locs hw => ?_)
  refine lv_lload_n hx hb dX0_passYear_17 rfl (lv_at hl 0 rfl) ?_
  obtain ⟨v_6, hc_5, h⟩ := bd_at h
  refine caSI (As := [.long v_2]) (rest := [.int v_4]) hC hw hl.1 lm_RX0_96 li_RX5 lk_yX5_allLeaves ls_yX5_allLeaves 1 rfl hd_X5_allLeaves (by decide) (by decide) (Nat.le_of_ble_eq_true rfl) dX0_passYear_18 (k_X5_allLeaves l D cy (wD cy a) S fu v_2 _ hc_5) (fun H locs hw => ?_)
  refine lv_isub hx hb dX0_passYear_21 ?_
  refine lv_topi (fun x4_7 ex4_7 => ?_)
  have h := nm_at ex4_7 h
  refine lv_istore (lv' := [(4, .int x4_7), (2, .long v_2), (0, .ref (a 5)), (1, .int x1)]) hx hb dX0_passYear_22 hl (by decide) rfl (fun ls hl => ?_)
  refine lv_aload_n hx hb dX0_passYear_24 rfl (lv_at hl 2 rfl) ?_
  refine lv_aload_n hx hb dX0_passYear_25 rfl (lv_at hl 2 rfl) ?_
  refine lv_lload_n hx hb dX0_passYear_26 rfl (lv_at hl 1 rfl) ?_
  obtain ⟨v_9, hc_8, h⟩ := bd_at h
  refine caVL (As := [.long v_2]) (rest := [.ref (a 5)]) hC hw hl.1 lm_RX0_100 li_RX0 lk_yX0_rumoursGrown li_yX0_rumoursGrown ll_yX0_rumoursGrown 5 0 (cD_5 cy a S) rfl 1 rfl hd_X0_rumoursGrown (by decide) (by decide) (Nat.le_of_ble_eq_true rfl) dX0_passYear_27 (k_X0_rumoursGrown l D cy a fu v_2 S _ hc_8) (fun H locs hw => ?_)
  refine pf (ty := .long) (v := .long v_9) hC hw in_X0 tyX0_ok nmX0 5 0 5 (cD_5 cy a S) rfl (by decide) lf_RX0_29 rfl rfl (by decide +kernel) rfl rfl (Nat.le_of_ble_eq_true rfl) (sD_5_5 cy a S v_9) dX0_passYear_30 (fun H locs hw => ?_)
  obtain ⟨S_10, hw, h⟩ := nmw (P := fun z => InW D (wD cy a) A s.heap H locs z) hw h
  refine lv_aload_n hx hb dX0_passYear_33 rfl (lv_at hl 2 rfl) ?_
  refine lv_dup hx hb dX0_passYear_34 rfl ?_
  refine gf (v := .int (stI S_10 7)) hC hw in_X0 5 0 6 (cD_5 cy a S_10) rfl (by decide) lf_RX0_33 rfl rfl dX0_passYear_35 ?_
  refine lv_iconst (v := 1) hx hb dX0_passYear_38 (by decide) ?_
  refine lv_iadd hx hb dX0_passYear_39 ?_
  refine pf (ty := .int) (v := .int (((stI S_10 7) + (1 : Int32)))) hC hw in_X0 tyX0_ok nmX0 5 0 6 (cD_5 cy a S_10) rfl (by decide) lf_RX0_33 rfl rfl (by decide +kernel) rfl rfl (Nat.le_of_ble_eq_true rfl) (sD_5_6 cy a S_10 (((stI S_10 7) + (1 : Int32)))) dX0_passYear_40 (fun H locs hw => ?_)
  obtain ⟨S_11, hw, h⟩ := nmw (P := fun z => InW D (wD cy a) A s.heap H locs z) hw h
  refine lv_iload hx hb dX0_passYear_43 (lv_at hl 0 rfl) ?_
  exact rtI hC hr hk hw (so_at2 h).1 (so_at2 h).2 dX0_passYear_45
def m_X0_pointingNowhere_L4 (fu : Nat) (S : ST) (ag_3 : Int32 → Int32 → Option Int32) (x1_1 : Int32) (x2_2 : Int32) : Option Int32 :=
  (if (stI S 6) ≤ x2_2 then some x1_1 else bd (m_X0_targetOf fu x2_2 S) (fun v_6 => jn1 (fun (x1_7 : Int32) => nm (x2_2 + (1 : Int32)) (fun x2_9 => ag_3 x1_7 x2_9)) (fun j_8 => (if v_6 = (-1 : Int32) then j_8 x1_1 else bd (m_X5_lives fu ((stL S 0)) x2_2) (fun v_12 => (if v_12 = (0 : Int32) then j_8 x1_1 else bd (m_X5_lives fu ((stL S 0)) v_6) (fun v_15 => (if v_15 = (0 : Int32) then nm ((x1_1 ||| ((1 : Int32) <<< (x2_2 &&& (31 : Int32))))) (fun x1_17 => j_8 x1_17) else j_8 x1_1))))))))
def m_X0_pointingNowhere (fu : Nat) (S : ST) : Option Int32 :=
  lq2 (m_X0_pointingNowhere_L4 fu S) fu (0 : Int32) (0 : Int32)
set_option maxRecDepth 100000 in
set_option maxHeartbeats 4000000 in
theorem k_X0_pointingNowhere (l : Launch) (D : va_G) (cy : ClassId) (a : Nat → Nat) (fu : Nat) (S : ST) (r : Int32) (h : m_X0_pointingNowhere fu S = some r) : CtI l yX0_pointingNowhere cX0_pointingNowhere 4 (some .int) 2 [.ref (a 5)] D cy (wD cy a) S r S := by
  refine CtI_of (by decide) (Nat.le_of_ble_eq_true rfl) ?_
  intro p e s m args below meth c A ls hC hr hk hw hl
  have hC : Cx p s m c RX0 cX0_pointingNowhere 4 args D cy := hC
  have hx := hC.1
  have hb := hC.2.1
  have hl : lv_has ls 4 [(0, .ref (a 5))] := hl
  obtain ⟨H, eH⟩ : ∃ z : Heap, z = s.heap := ⟨_, rfl⟩
  obtain ⟨locs, elocs⟩ : ∃ z : List Loc, z = [] := ⟨_, rfl⟩
  have hw : InW D (wD cy a) A s.heap H locs S := by rw [eH, elocs]; exact hw
  suffices hsu : W p l e (rmN 2) s m args below meth c H locs 0 0 (QI below args s D (wD cy a) A r S) (F0 m 0 ls []) by rw [eH, elocs] at hsu; exact hsu
  unfold m_X0_pointingNowhere at h
  refine lv_iconst (v := 0) hx hb dX0_pointingNowhere_0 (by decide) ?_
  refine lv_istore_n (lv' := [(1, .int (0 : Int32)), (0, .ref (a 5))]) hx hb dX0_pointingNowhere_1 rfl hl (by decide) rfl (fun ls hl => ?_)
  refine lv_iconst (v := 0) hx hb dX0_pointingNowhere_2 (by decide) ?_
  refine lv_istore_n (lv' := [(2, .int (0 : Int32)), (1, .int (0 : Int32)), (0, .ref (a 5))]) hx hb dX0_pointingNowhere_3 rfl hl (by decide) rfl (fun ls hl => ?_)
  refine lq2_ok (fun (x1_1 : Int32) (x2_2 : Int32) => ∀ (H : Heap) (locs : List Loc) (ls : Array Slot), InW D (wD cy a) A s.heap H locs S → lv_has ls 4 [(0, .ref (a 5)), (1, .int x1_1), (2, .int x2_2)] → W p l e (rmN 2) s m args below meth c H locs 0 0 (QI below args s D (wD cy a) A r S) (F0 m 4 ls [])) ?_ fu (0 : Int32) (0 : Int32) h H locs ls hw (lv_sub hl [2, 1, 0] rfl)
  intro ag_3 hag_3 x1_1 x2_2 h H locs ls hw hl
  unfold m_X0_pointingNowhere_L4 at h
  refine lv_iload_n hx hb dX0_pointingNowhere_4 rfl (lv_at hl 2 rfl) ?_
  refine lv_aload_n hx hb dX0_pointingNowhere_5 rfl (lv_at hl 0 rfl) ?_
  refine gf (v := .int (stI S 6)) hC hw in_X0 5 0 4 (cD_5 cy a S) rfl (by decide) lf_RX0_25 rfl rfl dX0_pointingNowhere_6 ?_
  refine lv_icmp_ge (tgt := 57) hx hb dX0_pointingNowhere_9 (by decide) (fun c_4 => ?_) (fun c_4 => ?_)
  · have h := if_at_t c_4 h
    refine lv_iload_n hx hb dX0_pointingNowhere_57 rfl (lv_at hl 1 rfl) ?_
    exact rtI hC hr hk hw (so_at h) rfl dX0_pointingNowhere_58
  · have h := if_at_f c_4 h
    refine lv_aload_n hx hb dX0_pointingNowhere_12 rfl (lv_at hl 0 rfl) ?_
    refine lv_iload_n hx hb dX0_pointingNowhere_13 rfl (lv_at hl 2 rfl) ?_
    obtain ⟨v_6, hc_5, h⟩ := bd_at h
    refine caVI (As := [.int x2_2]) (rest := []) hC hw hl.1 lm_RX0_57 li_RX0 lk_yX0_targetOf li_yX0_targetOf ll_yX0_targetOf 5 0 (cD_5 cy a S) rfl 1 rfl hd_X0_targetOf (by decide) (by decide) (Nat.le_of_ble_eq_true rfl) dX0_pointingNowhere_14 (k_X0_targetOf l D cy a fu x2_2 S _ hc_5) (fun H locs hw => ?_)
    refine lv_istore_n (lv' := [(3, .int v_6), (0, .ref (a 5)), (1, .int x1_1), (2, .int x2_2)]) hx hb dX0_pointingNowhere_17 rfl hl (by decide) rfl (fun ls hl => ?_)
    refine lv_iload_n hx hb dX0_pointingNowhere_18 rfl (lv_at hl 0 rfl) ?_
    refine lv_iconst (v := -1) hx hb dX0_pointingNowhere_19 (by decide) ?_
    refine jn1_ok (fun (x1_7 : Int32) => ∀ (H : Heap) (locs : List Loc) (ls : Array Slot), InW D (wD cy a) A s.heap H locs S → lv_has ls 4 [(0, .ref (a 5)), (1, .int x1_7), (2, .int x2_2)] → W p l e (rmN 2) s m args below meth c H locs 0 0 (QI below args s D (wD cy a) A r S) (F0 m 51 ls [])) ?_ ?_ h
    · intro x1_7 h H locs ls hw hl
      obtain ⟨x2_9, ex2_9⟩ : ∃ z : Int32, z = x2_2 + (1 : Int32) := ⟨_, rfl⟩
      have h := nm_at ex2_9 h
      refine lv_iinc (v := x2_9) (lv' := [(2, .int x2_9), (0, .ref (a 5)), (1, .int x1_7)]) hx hb dX0_pointingNowhere_51 hl (k := 2) rfl (by rw [ex2_9]; rfl) (by decide) rfl (fun ls hl => ?_)
      refine lv_goto (tgt := 4) hx hb dX0_pointingNowhere_54 (by decide) ?_
      exact hag_3 x1_7 x2_9 h H locs ls hw (lv_sub hl [1, 2, 0] rfl)
    · intro j_8 hj_8 h
      refine lv_icmp_eq (tgt := 51) hx hb dX0_pointingNowhere_20 (by decide) (fun c_10 => ?_) (fun c_10 => ?_)
      · have h := if_at_t c_10 h
        exact hj_8 x1_1 h H locs ls hw (lv_sub hl [1, 2, 3] rfl)
      · have h := if_at_f c_10 h
        refine lv_aload_n hx hb dX0_pointingNowhere_23 rfl (lv_at hl 1 rfl) ?_
        refine gf (v := .long (stL S 0)) hC hw in_X0 5 0 5 (cD_5 cy a S) rfl (by decide) lf_RX0_29 rfl rfl dX0_pointingNowhere_24 ?_
        refine lv_iload_n hx hb dX0_pointingNowhere_27 rfl (lv_at hl 3 rfl) ?_
        obtain ⟨v_12, hc_11, h⟩ := bd_at h
        refine caSI (As := [.long (stL S 0), .int x2_2]) (rest := []) hC hw hl.1 lm_RX0_126 li_RX5 lk_yX5_lives ls_yX5_lives 2 rfl hd_X5_lives (by decide) (by decide) (Nat.le_of_ble_eq_true rfl) dX0_pointingNowhere_28 (k_X5_lives l D cy (wD cy a) S fu ((stL S 0)) x2_2 _ hc_11) (fun H locs hw => ?_)
        refine lv_if_eq (tgt := 51) hx hb dX0_pointingNowhere_31 (by decide) (fun c_13 => ?_) (fun c_13 => ?_)
        · have h := if_at_t c_13 h
          exact hj_8 x1_1 h H locs ls hw (lv_sub hl [1, 2, 3] rfl)
        · have h := if_at_f c_13 h
          refine lv_aload_n hx hb dX0_pointingNowhere_34 rfl (lv_at hl 1 rfl) ?_
          refine gf (v := .long (stL S 0)) hC hw in_X0 5 0 5 (cD_5 cy a S) rfl (by decide) lf_RX0_29 rfl rfl dX0_pointingNowhere_35 ?_
          refine lv_iload_n hx hb dX0_pointingNowhere_38 rfl (lv_at hl 0 rfl) ?_
          obtain ⟨v_15, hc_14, h⟩ := bd_at h
          refine caSI (As := [.long (stL S 0), .int v_6]) (rest := []) hC hw hl.1 lm_RX0_126 li_RX5 lk_yX5_lives ls_yX5_lives 2 rfl hd_X5_lives (by decide) (by decide) (Nat.le_of_ble_eq_true rfl) dX0_pointingNowhere_39 (k_X5_lives l D cy (wD cy a) S fu ((stL S 0)) v_6 _ hc_14) (fun H locs hw => ?_)
          refine lv_if_ne (tgt := 51) hx hb dX0_pointingNowhere_42 (by decide) (fun c_16 => ?_) (fun c_16 => ?_)
          · have h := if_at_f c_16 h
            exact hj_8 x1_1 h H locs ls hw (lv_sub hl [1, 2, 3] rfl)
          · have h := if_at_t c_16 h
            refine lv_iload_n hx hb dX0_pointingNowhere_45 rfl (lv_at hl 2 rfl) ?_
            refine lv_iconst (v := 1) hx hb dX0_pointingNowhere_46 (by decide) ?_
            refine lv_iload_n hx hb dX0_pointingNowhere_47 rfl (lv_at hl 3 rfl) ?_
            refine lv_ishl hx hb dX0_pointingNowhere_48 ?_
            refine lv_ior hx hb dX0_pointingNowhere_49 ?_
            refine lv_topi (fun x1_17 ex1_17 => ?_)
            have h := nm_at ex1_17 h
            refine lv_istore_n (lv' := [(1, .int x1_17), (3, .int v_6), (0, .ref (a 5)), (2, .int x2_2)]) hx hb dX0_pointingNowhere_50 rfl hl (by decide) rfl (fun ls hl => ?_)
            exact hj_8 x1_17 h H locs ls hw (lv_sub hl [2, 0, 3] rfl)
def m_X0_addAshes (fu : Nat) (x1 : Int32) (S : ST) : Option (Int32 × ST) :=
  (if (stI S 8) < (0 : Int32) then some ((stI S 8), S) else (if (5 : Int32) ≤ (stI S 8) then some ((stI S 8), S) else gd (inB ((stI S 8)) 5) (nm (wrA S 4 ((stI S 8)) x1) (fun S_3 => nm (puI S_3 8 (((stI S_3 8) + (1 : Int32)))) (fun S_4 => some ((stI S_4 8), S_4))))))
set_option maxRecDepth 100000 in
set_option maxHeartbeats 4000000 in
theorem k_X0_addAshes (l : Launch) (D : va_G) (cy : ClassId) (a : Nat → Nat) (fu : Nat) (x1 : Int32) (S : ST) (r : Int32) (S' : ST) (h : m_X0_addAshes fu x1 S = some (r, S')) : CtI l yX0_addAshes cX0_addAshes 2 (some .int) 0 [.ref (a 5), .int x1] D cy (wD cy a) S r S' := by
  refine CtI_of (by decide) (Nat.le_of_ble_eq_true rfl) ?_
  intro p e s m args below meth c A ls hC hr hk hw hl
  have hC : Cx p s m c RX0 cX0_addAshes 2 args D cy := hC
  have hx := hC.1
  have hb := hC.2.1
  have hl : lv_has ls 2 [(0, .ref (a 5)), (1, .int x1)] := hl
  obtain ⟨H, eH⟩ : ∃ z : Heap, z = s.heap := ⟨_, rfl⟩
  obtain ⟨locs, elocs⟩ : ∃ z : List Loc, z = [] := ⟨_, rfl⟩
  have hw : InW D (wD cy a) A s.heap H locs S := by rw [eH, elocs]; exact hw
  suffices hsu : W p l e (rmN 0) s m args below meth c H locs 0 0 (QI below args s D (wD cy a) A r S') (F0 m 0 ls []) by rw [eH, elocs] at hsu; exact hsu
  unfold m_X0_addAshes at h
  refine lv_aload_n hx hb dX0_addAshes_0 rfl (lv_at hl 0 rfl) ?_
  refine gf (v := .int (stI S 8)) hC hw in_X0 5 0 7 (cD_5 cy a S) rfl (by decide) lf_RX0_36 rfl rfl dX0_addAshes_1 ?_
  refine lv_if_lt (tgt := 35) hx hb dX0_addAshes_4 (by decide) (fun c_1 => ?_) (fun c_1 => ?_)
  · have h := if_at_t c_1 h
    refine lv_aload_n hx hb dX0_addAshes_35 rfl (lv_at hl 0 rfl) ?_
    refine gf (v := .int (stI S 8)) hC hw in_X0 5 0 7 (cD_5 cy a S) rfl (by decide) lf_RX0_36 rfl rfl dX0_addAshes_36 ?_
    exact rtI hC hr hk hw (so_at2 h).1 (so_at2 h).2 dX0_addAshes_39
  · have h := if_at_f c_1 h
    refine lv_aload_n hx hb dX0_addAshes_7 rfl (lv_at hl 0 rfl) ?_
    refine gf (v := .int (stI S 8)) hC hw in_X0 5 0 7 (cD_5 cy a S) rfl (by decide) lf_RX0_36 rfl rfl dX0_addAshes_8 ?_
    refine lv_iconst (v := 5) hx hb dX0_addAshes_11 (by decide) ?_
    refine lv_icmp_ge (tgt := 35) hx hb dX0_addAshes_12 (by decide) (fun c_2 => ?_) (fun c_2 => ?_)
    · have h := if_at_t c_2 h
      refine lv_aload_n hx hb dX0_addAshes_35 rfl (lv_at hl 0 rfl) ?_
      refine gf (v := .int (stI S 8)) hC hw in_X0 5 0 7 (cD_5 cy a S) rfl (by decide) lf_RX0_36 rfl rfl dX0_addAshes_36 ?_
      exact rtI hC hr hk hw (so_at2 h).1 (so_at2 h).2 dX0_addAshes_39
    · have h := if_at_f c_2 h
      refine lv_aload_n hx hb dX0_addAshes_15 rfl (lv_at hl 0 rfl) ?_
      refine gf (v := .ref (a 8)) hC hw in_X0 5 0 3 (cD_5 cy a S) rfl (by decide) lf_RX0_18 rfl rfl dX0_addAshes_16 ?_
      refine lv_aload_n hx hb dX0_addAshes_19 rfl (lv_at hl 0 rfl) ?_
      refine gf (v := .int (stI S 8)) hC hw in_X0 5 0 7 (cD_5 cy a S) rfl (by decide) lf_RX0_36 rfl rfl dX0_addAshes_20 ?_
      refine lv_iload_n hx hb dX0_addAshes_23 rfl (lv_at hl 1 rfl) ?_
      obtain ⟨hi, h⟩ := gd_at h
      refine pa hC hw 8 (cD_8 cy a S) hi (rD_8 cy a S) dX0_addAshes_24 (fun H locs hw => ?_)
      obtain ⟨S_3, hw, h⟩ := nmw (P := fun z => InW D (wD cy a) A s.heap H locs z) hw h
      refine lv_aload_n hx hb dX0_addAshes_25 rfl (lv_at hl 0 rfl) ?_
      refine lv_dup hx hb dX0_addAshes_26 rfl ?_
      refine gf (v := .int (stI S_3 8)) hC hw in_X0 5 0 7 (cD_5 cy a S_3) rfl (by decide) lf_RX0_36 rfl rfl dX0_addAshes_27 ?_
      refine lv_iconst (v := 1) hx hb dX0_addAshes_30 (by decide) ?_
      refine lv_iadd hx hb dX0_addAshes_31 ?_
      refine pf (ty := .int) (v := .int (((stI S_3 8) + (1 : Int32)))) hC hw in_X0 tyX0_ok nmX0 5 0 7 (cD_5 cy a S_3) rfl (by decide) lf_RX0_36 rfl rfl (by decide +kernel) rfl rfl (Nat.le_of_ble_eq_true rfl) (sD_5_7 cy a S_3 (((stI S_3 8) + (1 : Int32)))) dX0_addAshes_32 (fun H locs hw => ?_)
      obtain ⟨S_4, hw, h⟩ := nmw (P := fun z => InW D (wD cy a) A s.heap H locs z) hw h
      refine lv_aload_n hx hb dX0_addAshes_35 rfl (lv_at hl 0 rfl) ?_
      refine gf (v := .int (stI S_4 8)) hC hw in_X0 5 0 7 (cD_5 cy a S_4) rfl (by decide) lf_RX0_36 rfl rfl dX0_addAshes_36 ?_
      exact rtI hC hr hk hw (so_at2 h).1 (so_at2 h).2 dX0_addAshes_39
def m_X0_clearAshes (fu : Nat) (S : ST) : Option (Int32 × ST) :=
  nm ((stI S 8)) (fun x1_1 => nm (puI S 8 (0 : Int32)) (fun S_2 => some (x1_1, S_2)))
set_option maxRecDepth 100000 in
set_option maxHeartbeats 4000000 in
theorem k_X0_clearAshes (l : Launch) (D : va_G) (cy : ClassId) (a : Nat → Nat) (fu : Nat) (S : ST) (r : Int32) (S' : ST) (h : m_X0_clearAshes fu S = some (r, S')) : CtI l yX0_clearAshes cX0_clearAshes 2 (some .int) 0 [.ref (a 5)] D cy (wD cy a) S r S' := by
  refine CtI_of (by decide) (Nat.le_of_ble_eq_true rfl) ?_
  intro p e s m args below meth c A ls hC hr hk hw hl
  have hC : Cx p s m c RX0 cX0_clearAshes 2 args D cy := hC
  have hx := hC.1
  have hb := hC.2.1
  have hl : lv_has ls 2 [(0, .ref (a 5))] := hl
  obtain ⟨H, eH⟩ : ∃ z : Heap, z = s.heap := ⟨_, rfl⟩
  obtain ⟨locs, elocs⟩ : ∃ z : List Loc, z = [] := ⟨_, rfl⟩
  have hw : InW D (wD cy a) A s.heap H locs S := by rw [eH, elocs]; exact hw
  suffices hsu : W p l e (rmN 0) s m args below meth c H locs 0 0 (QI below args s D (wD cy a) A r S') (F0 m 0 ls []) by rw [eH, elocs] at hsu; exact hsu
  unfold m_X0_clearAshes at h
  refine lv_aload_n hx hb dX0_clearAshes_0 rfl (lv_at hl 0 rfl) ?_
  refine gf (v := .int (stI S 8)) hC hw in_X0 5 0 7 (cD_5 cy a S) rfl (by decide) lf_RX0_36 rfl rfl dX0_clearAshes_1 ?_
  refine lv_topi (fun x1_1 ex1_1 => ?_)
  have h := nm_at ex1_1 h
  refine lv_istore_n (lv' := [(1, .int x1_1), (0, .ref (a 5))]) hx hb dX0_clearAshes_4 rfl hl (by decide) rfl (fun ls hl => ?_)
  refine lv_aload_n hx hb dX0_clearAshes_5 rfl (lv_at hl 1 rfl) ?_
  refine lv_iconst (v := 0) hx hb dX0_clearAshes_6 (by decide) ?_
  refine pf (ty := .int) (v := .int (0 : Int32)) hC hw in_X0 tyX0_ok nmX0 5 0 7 (cD_5 cy a S) rfl (by decide) lf_RX0_36 rfl rfl (by decide +kernel) rfl rfl (Nat.le_of_ble_eq_true rfl) (sD_5_7 cy a S (0 : Int32)) dX0_clearAshes_7 (fun H locs hw => ?_)
  obtain ⟨S_2, hw, h⟩ := nmw (P := fun z => InW D (wD cy a) A s.heap H locs z) hw h
  refine lv_iload_n hx hb dX0_clearAshes_10 rfl (lv_at hl 0 rfl) ?_
  exact rtI hC hr hk hw (so_at2 h).1 (so_at2 h).2 dX0_clearAshes_11
def m_X0_toldOf (fu : Nat) (x1 : Int32) (S : ST) : Option Int32 :=
  (if x1 < (0 : Int32) then some (-1 : Int32) else (if (5 : Int32) ≤ x1 then some (-1 : Int32) else gd (inB x1 5) (some ((rdA S 4 x1)))))
set_option maxRecDepth 100000 in
set_option maxHeartbeats 4000000 in
theorem k_X0_toldOf (l : Launch) (D : va_G) (cy : ClassId) (a : Nat → Nat) (fu : Nat) (x1 : Int32) (S : ST) (r : Int32) (h : m_X0_toldOf fu x1 S = some r) : CtI l yX0_toldOf cX0_toldOf 2 (some .int) 0 [.ref (a 5), .int x1] D cy (wD cy a) S r S := by
  refine CtI_of (by decide) (Nat.le_of_ble_eq_true rfl) ?_
  intro p e s m args below meth c A ls hC hr hk hw hl
  have hC : Cx p s m c RX0 cX0_toldOf 2 args D cy := hC
  have hx := hC.1
  have hb := hC.2.1
  have hl : lv_has ls 2 [(0, .ref (a 5)), (1, .int x1)] := hl
  obtain ⟨H, eH⟩ : ∃ z : Heap, z = s.heap := ⟨_, rfl⟩
  obtain ⟨locs, elocs⟩ : ∃ z : List Loc, z = [] := ⟨_, rfl⟩
  have hw : InW D (wD cy a) A s.heap H locs S := by rw [eH, elocs]; exact hw
  suffices hsu : W p l e (rmN 0) s m args below meth c H locs 0 0 (QI below args s D (wD cy a) A r S) (F0 m 0 ls []) by rw [eH, elocs] at hsu; exact hsu
  unfold m_X0_toldOf at h
  refine lv_iload_n hx hb dX0_toldOf_0 rfl (lv_at hl 1 rfl) ?_
  refine lv_if_lt (tgt := 18) hx hb dX0_toldOf_1 (by decide) (fun c_1 => ?_) (fun c_1 => ?_)
  · have h := if_at_t c_1 h
    refine lv_iconst (v := -1) hx hb dX0_toldOf_18 (by decide) ?_
    exact rtI hC hr hk hw (so_at h) rfl dX0_toldOf_19
  · have h := if_at_f c_1 h
    refine lv_iload_n hx hb dX0_toldOf_4 rfl (lv_at hl 1 rfl) ?_
    refine lv_iconst (v := 5) hx hb dX0_toldOf_5 (by decide) ?_
    refine lv_icmp_ge (tgt := 18) hx hb dX0_toldOf_6 (by decide) (fun c_2 => ?_) (fun c_2 => ?_)
    · have h := if_at_t c_2 h
      refine lv_iconst (v := -1) hx hb dX0_toldOf_18 (by decide) ?_
      exact rtI hC hr hk hw (so_at h) rfl dX0_toldOf_19
    · have h := if_at_f c_2 h
      refine lv_aload_n hx hb dX0_toldOf_9 rfl (lv_at hl 0 rfl) ?_
      refine gf (v := .ref (a 8)) hC hw in_X0 5 0 3 (cD_5 cy a S) rfl (by decide) lf_RX0_18 rfl rfl dX0_toldOf_10 ?_
      refine lv_iload_n hx hb dX0_toldOf_13 rfl (lv_at hl 1 rfl) ?_
      obtain ⟨hi, h⟩ := gd_at h
      refine ga hC hw 8 (cD_8 cy a S) hi dX0_toldOf_14 ?_
      refine lv_goto (tgt := 19) hx hb dX0_toldOf_15 (by decide) ?_
      exact rtI hC hr hk hw (so_at h) rfl dX0_toldOf_19
def m_X0_become_9_5 (fu : Nat) (S : ST) : Option ST :=
  nm (cpA S 2 5) (fun S_1 => nm (cpA S_1 3 6) (fun S_2 => nm (cpA S_2 4 7) (fun S_3 => nm (puI S_3 9 ((stI S_3 6))) (fun S_4 => nm (puL S_4 1 ((stL S_4 0))) (fun S_5 => nm (puI S_5 10 ((stI S_5 7))) (fun S_6 => nm (puI S_6 11 ((stI S_6 8))) (fun S_7 => some S_7)))))))
set_option maxRecDepth 100000 in
set_option maxHeartbeats 4000000 in
theorem k_X0_become_9_5 (l : Launch) (D : va_G) (cy : ClassId) (a : Nat → Nat) (fu : Nat) (S : ST) (S' : ST) (h : m_X0_become_9_5 fu S = some S') : CtV l yX0_become cX0_become 2 none 2 [.ref (a 9), .ref (a 5)] D cy (wD cy a) S S' := by
  refine CtV_of (by decide) (Nat.le_of_ble_eq_true rfl) ?_
  intro p e s m args below meth c A ls hC hr hk hw hl
  have hC : Cx p s m c RX0 cX0_become 2 args D cy := hC
  have hx := hC.1
  have hb := hC.2.1
  have hl : lv_has ls 2 [(0, .ref (a 9)), (1, .ref (a 5))] := hl
  obtain ⟨H, eH⟩ : ∃ z : Heap, z = s.heap := ⟨_, rfl⟩
  obtain ⟨locs, elocs⟩ : ∃ z : List Loc, z = [] := ⟨_, rfl⟩
  have hw : InW D (wD cy a) A s.heap H locs S := by rw [eH, elocs]; exact hw
  suffices hsu : W p l e (rmN 2) s m args below meth c H locs 0 0 (QV below args s D (wD cy a) A S') (F0 m 0 ls []) by rw [eH, elocs] at hsu; exact hsu
  unfold m_X0_become_9_5 at h
  refine lv_aload_n hx hb dX0_become_0 rfl (lv_at hl 1 rfl) ?_
  refine gf (v := .ref (a 6)) hC hw in_X0 5 0 1 (cD_5 cy a S) rfl (by decide) lf_RX0_9 rfl rfl dX0_become_1 ?_
  refine lv_iconst (v := 0) hx hb dX0_become_4 (by decide) ?_
  refine lv_aload_n hx hb dX0_become_5 rfl (lv_at hl 0 rfl) ?_
  refine gf (v := .ref (a 10)) hC hw in_X0 9 0 1 (cD_9 cy a S) rfl (by decide) lf_RX0_9 rfl rfl dX0_become_6 ?_
  refine lv_iconst (v := 0) hx hb dX0_become_9 (by decide) ?_
  refine lv_iconst (v := 5) hx hb dX0_become_10 (by decide) ?_
  refine acp (rest := []) hC hw hl.1 lm_RX0_39 6 10 (cD_6 cy a S) (cD_10 cy a S) (rD_10 cy a S) (by decide) (Nat.le_of_ble_eq_true rfl) dX0_become_11 (fun H locs hw => ?_)
  obtain ⟨S_1, hw, h⟩ := nmw (P := fun z => InW D (wD cy a) A s.heap H locs z) hw h
  refine lv_aload_n hx hb dX0_become_14 rfl (lv_at hl 1 rfl) ?_
  refine gf (v := .ref (a 7)) hC hw in_X0 5 0 2 (cD_5 cy a S_1) rfl (by decide) lf_RX0_15 rfl rfl dX0_become_15 ?_
  refine lv_iconst (v := 0) hx hb dX0_become_18 (by decide) ?_
  refine lv_aload_n hx hb dX0_become_19 rfl (lv_at hl 0 rfl) ?_
  refine gf (v := .ref (a 11)) hC hw in_X0 9 0 2 (cD_9 cy a S_1) rfl (by decide) lf_RX0_15 rfl rfl dX0_become_20 ?_
  refine lv_iconst (v := 0) hx hb dX0_become_23 (by decide) ?_
  refine lv_iconst (v := 5) hx hb dX0_become_24 (by decide) ?_
  refine acp (rest := []) hC hw hl.1 lm_RX0_39 7 11 (cD_7 cy a S_1) (cD_11 cy a S_1) (rD_11 cy a S_1) (by decide) (Nat.le_of_ble_eq_true rfl) dX0_become_25 (fun H locs hw => ?_)
  obtain ⟨S_2, hw, h⟩ := nmw (P := fun z => InW D (wD cy a) A s.heap H locs z) hw h
  refine lv_aload_n hx hb dX0_become_28 rfl (lv_at hl 1 rfl) ?_
  refine gf (v := .ref (a 8)) hC hw in_X0 5 0 3 (cD_5 cy a S_2) rfl (by decide) lf_RX0_18 rfl rfl dX0_become_29 ?_
  refine lv_iconst (v := 0) hx hb dX0_become_32 (by decide) ?_
  refine lv_aload_n hx hb dX0_become_33 rfl (lv_at hl 0 rfl) ?_
  refine gf (v := .ref (a 12)) hC hw in_X0 9 0 3 (cD_9 cy a S_2) rfl (by decide) lf_RX0_18 rfl rfl dX0_become_34 ?_
  refine lv_iconst (v := 0) hx hb dX0_become_37 (by decide) ?_
  refine lv_iconst (v := 5) hx hb dX0_become_38 (by decide) ?_
  refine acp (rest := []) hC hw hl.1 lm_RX0_39 8 12 (cD_8 cy a S_2) (cD_12 cy a S_2) (rD_12 cy a S_2) (by decide) (Nat.le_of_ble_eq_true rfl) dX0_become_39 (fun H locs hw => ?_)
  obtain ⟨S_3, hw, h⟩ := nmw (P := fun z => InW D (wD cy a) A s.heap H locs z) hw h
  refine lv_aload_n hx hb dX0_become_42 rfl (lv_at hl 0 rfl) ?_
  refine lv_aload_n hx hb dX0_become_43 rfl (lv_at hl 1 rfl) ?_
  refine gf (v := .int (stI S_3 6)) hC hw in_X0 5 0 4 (cD_5 cy a S_3) rfl (by decide) lf_RX0_25 rfl rfl dX0_become_44 ?_
  refine pf (ty := .int) (v := .int ((stI S_3 6))) hC hw in_X0 tyX0_ok nmX0 9 0 4 (cD_9 cy a S_3) rfl (by decide) lf_RX0_25 rfl rfl (by decide +kernel) rfl rfl (Nat.le_of_ble_eq_true rfl) (sD_9_4 cy a S_3 ((stI S_3 6))) dX0_become_47 (fun H locs hw => ?_)
  obtain ⟨S_4, hw, h⟩ := nmw (P := fun z => InW D (wD cy a) A s.heap H locs z) hw h
  refine lv_aload_n hx hb dX0_become_50 rfl (lv_at hl 0 rfl) ?_
  refine lv_aload_n hx hb dX0_become_51 rfl (lv_at hl 1 rfl) ?_
  refine gf (v := .long (stL S_4 0)) hC hw in_X0 5 0 5 (cD_5 cy a S_4) rfl (by decide) lf_RX0_29 rfl rfl dX0_become_52 ?_
  refine pf (ty := .long) (v := .long ((stL S_4 0))) hC hw in_X0 tyX0_ok nmX0 9 0 5 (cD_9 cy a S_4) rfl (by decide) lf_RX0_29 rfl rfl (by decide +kernel) rfl rfl (Nat.le_of_ble_eq_true rfl) (sD_9_5 cy a S_4 ((stL S_4 0))) dX0_become_55 (fun H locs hw => ?_)
  obtain ⟨S_5, hw, h⟩ := nmw (P := fun z => InW D (wD cy a) A s.heap H locs z) hw h
  refine lv_aload_n hx hb dX0_become_58 rfl (lv_at hl 0 rfl) ?_
  refine lv_aload_n hx hb dX0_become_59 rfl (lv_at hl 1 rfl) ?_
  refine gf (v := .int (stI S_5 7)) hC hw in_X0 5 0 6 (cD_5 cy a S_5) rfl (by decide) lf_RX0_33 rfl rfl dX0_become_60 ?_
  refine pf (ty := .int) (v := .int ((stI S_5 7))) hC hw in_X0 tyX0_ok nmX0 9 0 6 (cD_9 cy a S_5) rfl (by decide) lf_RX0_33 rfl rfl (by decide +kernel) rfl rfl (Nat.le_of_ble_eq_true rfl) (sD_9_6 cy a S_5 ((stI S_5 7))) dX0_become_63 (fun H locs hw => ?_)
  obtain ⟨S_6, hw, h⟩ := nmw (P := fun z => InW D (wD cy a) A s.heap H locs z) hw h
  refine lv_aload_n hx hb dX0_become_66 rfl (lv_at hl 0 rfl) ?_
  refine lv_aload_n hx hb dX0_become_67 rfl (lv_at hl 1 rfl) ?_
  refine gf (v := .int (stI S_6 8)) hC hw in_X0 5 0 7 (cD_5 cy a S_6) rfl (by decide) lf_RX0_36 rfl rfl dX0_become_68 ?_
  refine pf (ty := .int) (v := .int ((stI S_6 8))) hC hw in_X0 tyX0_ok nmX0 9 0 7 (cD_9 cy a S_6) rfl (by decide) lf_RX0_36 rfl rfl (by decide +kernel) rfl rfl (Nat.le_of_ble_eq_true rfl) (sD_9_7 cy a S_6 ((stI S_6 8))) dX0_become_71 (fun H locs hw => ?_)
  obtain ⟨S_7, hw, h⟩ := nmw (P := fun z => InW D (wD cy a) A s.heap H locs z) hw h
  exact rtV hC hr hk hw (so_at h) dX0_become_74
def m_X0_become_9 (fu : Nat) (S : ST) : Option ST :=
  nm (cpA S 5 2) (fun S_1 => nm (cpA S_1 6 3) (fun S_2 => nm (cpA S_2 7 4) (fun S_3 => nm (puI S_3 6 ((stI S_3 9))) (fun S_4 => nm (puL S_4 0 ((stL S_4 1))) (fun S_5 => nm (puI S_5 7 ((stI S_5 10))) (fun S_6 => nm (puI S_6 8 ((stI S_6 11))) (fun S_7 => some S_7)))))))
set_option maxRecDepth 100000 in
set_option maxHeartbeats 4000000 in
theorem k_X0_become_9 (l : Launch) (D : va_G) (cy : ClassId) (a : Nat → Nat) (fu : Nat) (S : ST) (S' : ST) (h : m_X0_become_9 fu S = some S') : CtV l yX0_become cX0_become 2 none 2 [.ref (a 5), .ref (a 9)] D cy (wD cy a) S S' := by
  refine CtV_of (by decide) (Nat.le_of_ble_eq_true rfl) ?_
  intro p e s m args below meth c A ls hC hr hk hw hl
  have hC : Cx p s m c RX0 cX0_become 2 args D cy := hC
  have hx := hC.1
  have hb := hC.2.1
  have hl : lv_has ls 2 [(0, .ref (a 5)), (1, .ref (a 9))] := hl
  obtain ⟨H, eH⟩ : ∃ z : Heap, z = s.heap := ⟨_, rfl⟩
  obtain ⟨locs, elocs⟩ : ∃ z : List Loc, z = [] := ⟨_, rfl⟩
  have hw : InW D (wD cy a) A s.heap H locs S := by rw [eH, elocs]; exact hw
  suffices hsu : W p l e (rmN 2) s m args below meth c H locs 0 0 (QV below args s D (wD cy a) A S') (F0 m 0 ls []) by rw [eH, elocs] at hsu; exact hsu
  unfold m_X0_become_9 at h
  refine lv_aload_n hx hb dX0_become_0 rfl (lv_at hl 1 rfl) ?_
  refine gf (v := .ref (a 10)) hC hw in_X0 9 0 1 (cD_9 cy a S) rfl (by decide) lf_RX0_9 rfl rfl dX0_become_1 ?_
  refine lv_iconst (v := 0) hx hb dX0_become_4 (by decide) ?_
  refine lv_aload_n hx hb dX0_become_5 rfl (lv_at hl 0 rfl) ?_
  refine gf (v := .ref (a 6)) hC hw in_X0 5 0 1 (cD_5 cy a S) rfl (by decide) lf_RX0_9 rfl rfl dX0_become_6 ?_
  refine lv_iconst (v := 0) hx hb dX0_become_9 (by decide) ?_
  refine lv_iconst (v := 5) hx hb dX0_become_10 (by decide) ?_
  refine acp (rest := []) hC hw hl.1 lm_RX0_39 10 6 (cD_10 cy a S) (cD_6 cy a S) (rD_6 cy a S) (by decide) (Nat.le_of_ble_eq_true rfl) dX0_become_11 (fun H locs hw => ?_)
  obtain ⟨S_1, hw, h⟩ := nmw (P := fun z => InW D (wD cy a) A s.heap H locs z) hw h
  refine lv_aload_n hx hb dX0_become_14 rfl (lv_at hl 1 rfl) ?_
  refine gf (v := .ref (a 11)) hC hw in_X0 9 0 2 (cD_9 cy a S_1) rfl (by decide) lf_RX0_15 rfl rfl dX0_become_15 ?_
  refine lv_iconst (v := 0) hx hb dX0_become_18 (by decide) ?_
  refine lv_aload_n hx hb dX0_become_19 rfl (lv_at hl 0 rfl) ?_
  refine gf (v := .ref (a 7)) hC hw in_X0 5 0 2 (cD_5 cy a S_1) rfl (by decide) lf_RX0_15 rfl rfl dX0_become_20 ?_
  refine lv_iconst (v := 0) hx hb dX0_become_23 (by decide) ?_
  refine lv_iconst (v := 5) hx hb dX0_become_24 (by decide) ?_
  refine acp (rest := []) hC hw hl.1 lm_RX0_39 11 7 (cD_11 cy a S_1) (cD_7 cy a S_1) (rD_7 cy a S_1) (by decide) (Nat.le_of_ble_eq_true rfl) dX0_become_25 (fun H locs hw => ?_)
  obtain ⟨S_2, hw, h⟩ := nmw (P := fun z => InW D (wD cy a) A s.heap H locs z) hw h
  refine lv_aload_n hx hb dX0_become_28 rfl (lv_at hl 1 rfl) ?_
  refine gf (v := .ref (a 12)) hC hw in_X0 9 0 3 (cD_9 cy a S_2) rfl (by decide) lf_RX0_18 rfl rfl dX0_become_29 ?_
  refine lv_iconst (v := 0) hx hb dX0_become_32 (by decide) ?_
  refine lv_aload_n hx hb dX0_become_33 rfl (lv_at hl 0 rfl) ?_
  refine gf (v := .ref (a 8)) hC hw in_X0 5 0 3 (cD_5 cy a S_2) rfl (by decide) lf_RX0_18 rfl rfl dX0_become_34 ?_
  refine lv_iconst (v := 0) hx hb dX0_become_37 (by decide) ?_
  refine lv_iconst (v := 5) hx hb dX0_become_38 (by decide) ?_
  refine acp (rest := []) hC hw hl.1 lm_RX0_39 12 8 (cD_12 cy a S_2) (cD_8 cy a S_2) (rD_8 cy a S_2) (by decide) (Nat.le_of_ble_eq_true rfl) dX0_become_39 (fun H locs hw => ?_)
  obtain ⟨S_3, hw, h⟩ := nmw (P := fun z => InW D (wD cy a) A s.heap H locs z) hw h
  refine lv_aload_n hx hb dX0_become_42 rfl (lv_at hl 0 rfl) ?_
  refine lv_aload_n hx hb dX0_become_43 rfl (lv_at hl 1 rfl) ?_
  refine gf (v := .int (stI S_3 9)) hC hw in_X0 9 0 4 (cD_9 cy a S_3) rfl (by decide) lf_RX0_25 rfl rfl dX0_become_44 ?_
  refine pf (ty := .int) (v := .int ((stI S_3 9))) hC hw in_X0 tyX0_ok nmX0 5 0 4 (cD_5 cy a S_3) rfl (by decide) lf_RX0_25 rfl rfl (by decide +kernel) rfl rfl (Nat.le_of_ble_eq_true rfl) (sD_5_4 cy a S_3 ((stI S_3 9))) dX0_become_47 (fun H locs hw => ?_)
  obtain ⟨S_4, hw, h⟩ := nmw (P := fun z => InW D (wD cy a) A s.heap H locs z) hw h
  refine lv_aload_n hx hb dX0_become_50 rfl (lv_at hl 0 rfl) ?_
  refine lv_aload_n hx hb dX0_become_51 rfl (lv_at hl 1 rfl) ?_
  refine gf (v := .long (stL S_4 1)) hC hw in_X0 9 0 5 (cD_9 cy a S_4) rfl (by decide) lf_RX0_29 rfl rfl dX0_become_52 ?_
  refine pf (ty := .long) (v := .long ((stL S_4 1))) hC hw in_X0 tyX0_ok nmX0 5 0 5 (cD_5 cy a S_4) rfl (by decide) lf_RX0_29 rfl rfl (by decide +kernel) rfl rfl (Nat.le_of_ble_eq_true rfl) (sD_5_5 cy a S_4 ((stL S_4 1))) dX0_become_55 (fun H locs hw => ?_)
  obtain ⟨S_5, hw, h⟩ := nmw (P := fun z => InW D (wD cy a) A s.heap H locs z) hw h
  refine lv_aload_n hx hb dX0_become_58 rfl (lv_at hl 0 rfl) ?_
  refine lv_aload_n hx hb dX0_become_59 rfl (lv_at hl 1 rfl) ?_
  refine gf (v := .int (stI S_5 10)) hC hw in_X0 9 0 6 (cD_9 cy a S_5) rfl (by decide) lf_RX0_33 rfl rfl dX0_become_60 ?_
  refine pf (ty := .int) (v := .int ((stI S_5 10))) hC hw in_X0 tyX0_ok nmX0 5 0 6 (cD_5 cy a S_5) rfl (by decide) lf_RX0_33 rfl rfl (by decide +kernel) rfl rfl (Nat.le_of_ble_eq_true rfl) (sD_5_6 cy a S_5 ((stI S_5 10))) dX0_become_63 (fun H locs hw => ?_)
  obtain ⟨S_6, hw, h⟩ := nmw (P := fun z => InW D (wD cy a) A s.heap H locs z) hw h
  refine lv_aload_n hx hb dX0_become_66 rfl (lv_at hl 0 rfl) ?_
  refine lv_aload_n hx hb dX0_become_67 rfl (lv_at hl 1 rfl) ?_
  refine gf (v := .int (stI S_6 11)) hC hw in_X0 9 0 7 (cD_9 cy a S_6) rfl (by decide) lf_RX0_36 rfl rfl dX0_become_68 ?_
  refine pf (ty := .int) (v := .int ((stI S_6 11))) hC hw in_X0 tyX0_ok nmX0 5 0 7 (cD_5 cy a S_6) rfl (by decide) lf_RX0_36 rfl rfl (by decide +kernel) rfl rfl (Nat.le_of_ble_eq_true rfl) (sD_5_7 cy a S_6 ((stI S_6 11))) dX0_become_71 (fun H locs hw => ?_)
  obtain ⟨S_7, hw, h⟩ := nmw (P := fun z => InW D (wD cy a) A s.heap H locs z) hw h
  exact rtV hC hr hk hw (so_at h) dX0_become_74
