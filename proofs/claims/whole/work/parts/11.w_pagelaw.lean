def m_X4_isFull (fu : Nat) (S : ST) : Option Int32 :=
  (if (stI S 4) < (10 : Int32) then some (0 : Int32) else some (1 : Int32))
set_option maxRecDepth 100000 in
set_option maxHeartbeats 4000000 in
theorem k_X4_isFull (l : Launch) (D : va_G) (cy : ClassId) (a : Nat → Nat) (fu : Nat) (S : ST) (r : Int32) (h : m_X4_isFull fu S = some r) : CtI l yX4_isFull cX4_isFull 1 (some .boolean) 0 [.ref (a 1)] D cy (wD cy a) S r S := by
  refine CtI_of (by decide) (Nat.le_of_ble_eq_true rfl) ?_
  intro p e s m args below meth c A ls hC hr hk hw hl
  have hC : Cx p s m c RX4 cX4_isFull 1 args D cy := hC
  have hx := hC.1
  have hb := hC.2.1
  have hl : lv_has ls 1 [(0, .ref (a 1))] := hl
  obtain ⟨H, eH⟩ : ∃ z : Heap, z = s.heap := ⟨_, rfl⟩
  obtain ⟨locs, elocs⟩ : ∃ z : List Loc, z = [] := ⟨_, rfl⟩
  have hw : InW D (wD cy a) A s.heap H locs S := by rw [eH, elocs]; exact hw
  suffices hsu : W p l e (rmN 0) s m args below meth c H locs 0 0 (QI below args s D (wD cy a) A r S) (F0 m 0 ls []) by rw [eH, elocs] at hsu; exact hsu
  unfold m_X4_isFull at h
  refine lv_aload_n hx hb dX4_isFull_0 rfl (lv_at hl 0 rfl) ?_
  refine gf (v := .int (stI S 4)) hC hw in_X4 1 3 1 (cD_1 cy a S) rfl (by decide) lf_RX4_15 rfl rfl dX4_isFull_1 ?_
  refine lv_bipush (v := 10) hx hb dX4_isFull_4 (by decide) ?_
  refine lv_icmp_lt (tgt := 13) hx hb dX4_isFull_6 (by decide) (fun c_1 => ?_) (fun c_1 => ?_)
  · have h := if_at_t c_1 h
    refine lv_iconst (v := 0) hx hb dX4_isFull_13 (by decide) ?_
    exact rtZ hC hr hk hw rfl (so_at h) rfl dX4_isFull_14
  · have h := if_at_f c_1 h
    refine lv_iconst (v := 1) hx hb dX4_isFull_9 (by decide) ?_
    refine lv_goto (tgt := 14) hx hb dX4_isFull_10 (by decide) ?_
    exact rtZ hC hr hk hw rfl (so_at h) rfl dX4_isFull_14
def m_X4_append (fu : Nat) (x1 : Int32) (S : ST) : Option (Int32 × ST) :=
  (if (stI S 4) < (0 : Int32) then some ((stI S 4), S) else (if (10 : Int32) ≤ (stI S 4) then some ((stI S 4), S) else gd (inB ((stI S 4)) 10) (nm (wrA S 0 ((stI S 4)) x1) (fun S_3 => nm (puI S_3 4 (((stI S_3 4) + (1 : Int32)))) (fun S_4 => some ((stI S_4 4), S_4))))))
set_option maxRecDepth 100000 in
set_option maxHeartbeats 4000000 in
theorem k_X4_append (l : Launch) (D : va_G) (cy : ClassId) (a : Nat → Nat) (fu : Nat) (x1 : Int32) (S : ST) (r : Int32) (S' : ST) (h : m_X4_append fu x1 S = some (r, S')) : CtI l yX4_append cX4_append 2 (some .int) 0 [.ref (a 1), .int x1] D cy (wD cy a) S r S' := by
  refine CtI_of (by decide) (Nat.le_of_ble_eq_true rfl) ?_
  intro p e s m args below meth c A ls hC hr hk hw hl
  have hC : Cx p s m c RX4 cX4_append 2 args D cy := hC
  have hx := hC.1
  have hb := hC.2.1
  have hl : lv_has ls 2 [(0, .ref (a 1)), (1, .int x1)] := hl
  obtain ⟨H, eH⟩ : ∃ z : Heap, z = s.heap := ⟨_, rfl⟩
  obtain ⟨locs, elocs⟩ : ∃ z : List Loc, z = [] := ⟨_, rfl⟩
  have hw : InW D (wD cy a) A s.heap H locs S := by rw [eH, elocs]; exact hw
  suffices hsu : W p l e (rmN 0) s m args below meth c H locs 0 0 (QI below args s D (wD cy a) A r S') (F0 m 0 ls []) by rw [eH, elocs] at hsu; exact hsu
  unfold m_X4_append at h
  refine lv_aload_n hx hb dX4_append_0 rfl (lv_at hl 0 rfl) ?_
  refine gf (v := .int (stI S 4)) hC hw in_X4 1 3 1 (cD_1 cy a S) rfl (by decide) lf_RX4_15 rfl rfl dX4_append_1 ?_
  refine lv_if_lt (tgt := 36) hx hb dX4_append_4 (by decide) (fun c_1 => ?_) (fun c_1 => ?_)
  · have h := if_at_t c_1 h
    refine lv_aload_n hx hb dX4_append_36 rfl (lv_at hl 0 rfl) ?_
    refine gf (v := .int (stI S 4)) hC hw in_X4 1 3 1 (cD_1 cy a S) rfl (by decide) lf_RX4_15 rfl rfl dX4_append_37 ?_
    exact rtI hC hr hk hw (so_at2 h).1 (so_at2 h).2 dX4_append_40
  · have h := if_at_f c_1 h
    refine lv_aload_n hx hb dX4_append_7 rfl (lv_at hl 0 rfl) ?_
    refine gf (v := .int (stI S 4)) hC hw in_X4 1 3 1 (cD_1 cy a S) rfl (by decide) lf_RX4_15 rfl rfl dX4_append_8 ?_
    refine lv_bipush (v := 10) hx hb dX4_append_11 (by decide) ?_
    refine lv_icmp_ge (tgt := 36) hx hb dX4_append_13 (by decide) (fun c_2 => ?_) (fun c_2 => ?_)
    · have h := if_at_t c_2 h
      refine lv_aload_n hx hb dX4_append_36 rfl (lv_at hl 0 rfl) ?_
      refine gf (v := .int (stI S 4)) hC hw in_X4 1 3 1 (cD_1 cy a S) rfl (by decide) lf_RX4_15 rfl rfl dX4_append_37 ?_
      exact rtI hC hr hk hw (so_at2 h).1 (so_at2 h).2 dX4_append_40
    · have h := if_at_f c_2 h
      refine lv_aload_n hx hb dX4_append_16 rfl (lv_at hl 0 rfl) ?_
      refine gf (v := .ref (a 2)) hC hw in_X4 1 3 0 (cD_1 cy a S) rfl (by decide) lf_RX4_11 rfl rfl dX4_append_17 ?_
      refine lv_aload_n hx hb dX4_append_20 rfl (lv_at hl 0 rfl) ?_
      refine gf (v := .int (stI S 4)) hC hw in_X4 1 3 1 (cD_1 cy a S) rfl (by decide) lf_RX4_15 rfl rfl dX4_append_21 ?_
      refine lv_iload_n hx hb dX4_append_24 rfl (lv_at hl 1 rfl) ?_
      obtain ⟨hi, h⟩ := gd_at h
      refine pa hC hw 2 (cD_2 cy a S) hi (rD_2 cy a S) dX4_append_25 (fun H locs hw => ?_)
      obtain ⟨S_3, hw, h⟩ := nmw (P := fun z => InW D (wD cy a) A s.heap H locs z) hw h
      refine lv_aload_n hx hb dX4_append_26 rfl (lv_at hl 0 rfl) ?_
      refine lv_dup hx hb dX4_append_27 rfl ?_
      refine gf (v := .int (stI S_3 4)) hC hw in_X4 1 3 1 (cD_1 cy a S_3) rfl (by decide) lf_RX4_15 rfl rfl dX4_append_28 ?_
      refine lv_iconst (v := 1) hx hb dX4_append_31 (by decide) ?_
      refine lv_iadd hx hb dX4_append_32 ?_
      refine pf (ty := .int) (v := .int (((stI S_3 4) + (1 : Int32)))) hC hw in_X4 tyX4_ok nmX4 1 3 1 (cD_1 cy a S_3) rfl (by decide) lf_RX4_15 rfl rfl (by decide +kernel) rfl rfl (Nat.le_of_ble_eq_true rfl) (sD_1_1 cy a S_3 (((stI S_3 4) + (1 : Int32)))) dX4_append_33 (fun H locs hw => ?_)
      obtain ⟨S_4, hw, h⟩ := nmw (P := fun z => InW D (wD cy a) A s.heap H locs z) hw h
      refine lv_aload_n hx hb dX4_append_36 rfl (lv_at hl 0 rfl) ?_
      refine gf (v := .int (stI S_4 4)) hC hw in_X4 1 3 1 (cD_1 cy a S_4) rfl (by decide) lf_RX4_15 rfl rfl dX4_append_37 ?_
      exact rtI hC hr hk hw (so_at2 h).1 (so_at2 h).2 dX4_append_40
def m_X4_clear (fu : Nat) (S : ST) : Option (Int32 × ST) :=
  nm ((stI S 4)) (fun x1_1 => nm (puI S 4 (0 : Int32)) (fun S_2 => some (x1_1, S_2)))
set_option maxRecDepth 100000 in
set_option maxHeartbeats 4000000 in
theorem k_X4_clear (l : Launch) (D : va_G) (cy : ClassId) (a : Nat → Nat) (fu : Nat) (S : ST) (r : Int32) (S' : ST) (h : m_X4_clear fu S = some (r, S')) : CtI l yX4_clear cX4_clear 2 (some .int) 0 [.ref (a 1)] D cy (wD cy a) S r S' := by
  refine CtI_of (by decide) (Nat.le_of_ble_eq_true rfl) ?_
  intro p e s m args below meth c A ls hC hr hk hw hl
  have hC : Cx p s m c RX4 cX4_clear 2 args D cy := hC
  have hx := hC.1
  have hb := hC.2.1
  have hl : lv_has ls 2 [(0, .ref (a 1))] := hl
  obtain ⟨H, eH⟩ : ∃ z : Heap, z = s.heap := ⟨_, rfl⟩
  obtain ⟨locs, elocs⟩ : ∃ z : List Loc, z = [] := ⟨_, rfl⟩
  have hw : InW D (wD cy a) A s.heap H locs S := by rw [eH, elocs]; exact hw
  suffices hsu : W p l e (rmN 0) s m args below meth c H locs 0 0 (QI below args s D (wD cy a) A r S') (F0 m 0 ls []) by rw [eH, elocs] at hsu; exact hsu
  unfold m_X4_clear at h
  refine lv_aload_n hx hb dX4_clear_0 rfl (lv_at hl 0 rfl) ?_
  refine gf (v := .int (stI S 4)) hC hw in_X4 1 3 1 (cD_1 cy a S) rfl (by decide) lf_RX4_15 rfl rfl dX4_clear_1 ?_
  refine lv_topi (fun x1_1 ex1_1 => ?_)
  have h := nm_at ex1_1 h
  refine lv_istore_n (lv' := [(1, .int x1_1), (0, .ref (a 1))]) hx hb dX4_clear_4 rfl hl (by decide) rfl (fun ls hl => ?_)
  refine lv_aload_n hx hb dX4_clear_5 rfl (lv_at hl 1 rfl) ?_
  refine lv_iconst (v := 0) hx hb dX4_clear_6 (by decide) ?_
  refine pf (ty := .int) (v := .int (0 : Int32)) hC hw in_X4 tyX4_ok nmX4 1 3 1 (cD_1 cy a S) rfl (by decide) lf_RX4_15 rfl rfl (by decide +kernel) rfl rfl (Nat.le_of_ble_eq_true rfl) (sD_1_1 cy a S (0 : Int32)) dX4_clear_7 (fun H locs hw => ?_)
  obtain ⟨S_2, hw, h⟩ := nmw (P := fun z => InW D (wD cy a) A s.heap H locs z) hw h
  refine lv_iload_n hx hb dX4_clear_10 rfl (lv_at hl 0 rfl) ?_
  exact rtI hC hr hk hw (so_at2 h).1 (so_at2 h).2 dX4_clear_11
def m_X4_codeAt (fu : Nat) (x1 : Int32) (S : ST) : Option Int32 :=
  (if x1 < (0 : Int32) then some (0 : Int32) else (if (10 : Int32) ≤ x1 then some (0 : Int32) else gd (inB x1 10) (some ((rdA S 0 x1)))))
set_option maxRecDepth 100000 in
set_option maxHeartbeats 4000000 in
theorem k_X4_codeAt (l : Launch) (D : va_G) (cy : ClassId) (a : Nat → Nat) (fu : Nat) (x1 : Int32) (S : ST) (r : Int32) (h : m_X4_codeAt fu x1 S = some r) : CtI l yX4_codeAt cX4_codeAt 2 (some .int) 0 [.ref (a 1), .int x1] D cy (wD cy a) S r S := by
  refine CtI_of (by decide) (Nat.le_of_ble_eq_true rfl) ?_
  intro p e s m args below meth c A ls hC hr hk hw hl
  have hC : Cx p s m c RX4 cX4_codeAt 2 args D cy := hC
  have hx := hC.1
  have hb := hC.2.1
  have hl : lv_has ls 2 [(0, .ref (a 1)), (1, .int x1)] := hl
  obtain ⟨H, eH⟩ : ∃ z : Heap, z = s.heap := ⟨_, rfl⟩
  obtain ⟨locs, elocs⟩ : ∃ z : List Loc, z = [] := ⟨_, rfl⟩
  have hw : InW D (wD cy a) A s.heap H locs S := by rw [eH, elocs]; exact hw
  suffices hsu : W p l e (rmN 0) s m args below meth c H locs 0 0 (QI below args s D (wD cy a) A r S) (F0 m 0 ls []) by rw [eH, elocs] at hsu; exact hsu
  unfold m_X4_codeAt at h
  refine lv_iload_n hx hb dX4_codeAt_0 rfl (lv_at hl 1 rfl) ?_
  refine lv_if_lt (tgt := 19) hx hb dX4_codeAt_1 (by decide) (fun c_1 => ?_) (fun c_1 => ?_)
  · have h := if_at_t c_1 h
    refine lv_iconst (v := 0) hx hb dX4_codeAt_19 (by decide) ?_
    exact rtI hC hr hk hw (so_at h) rfl dX4_codeAt_20
  · have h := if_at_f c_1 h
    refine lv_iload_n hx hb dX4_codeAt_4 rfl (lv_at hl 1 rfl) ?_
    refine lv_bipush (v := 10) hx hb dX4_codeAt_5 (by decide) ?_
    refine lv_icmp_ge (tgt := 19) hx hb dX4_codeAt_7 (by decide) (fun c_2 => ?_) (fun c_2 => ?_)
    · have h := if_at_t c_2 h
      refine lv_iconst (v := 0) hx hb dX4_codeAt_19 (by decide) ?_
      exact rtI hC hr hk hw (so_at h) rfl dX4_codeAt_20
    · have h := if_at_f c_2 h
      refine lv_aload_n hx hb dX4_codeAt_10 rfl (lv_at hl 0 rfl) ?_
      refine gf (v := .ref (a 2)) hC hw in_X4 1 3 0 (cD_1 cy a S) rfl (by decide) lf_RX4_11 rfl rfl dX4_codeAt_11 ?_
      refine lv_iload_n hx hb dX4_codeAt_14 rfl (lv_at hl 1 rfl) ?_
      obtain ⟨hi, h⟩ := gd_at h
      refine ga hC hw 2 (cD_2 cy a S) hi dX4_codeAt_15 ?_
      refine lv_goto (tgt := 20) hx hb dX4_codeAt_16 (by decide) ?_
      exact rtI hC hr hk hw (so_at h) rfl dX4_codeAt_20
def m_X4_digitAt (fu : Nat) (x1 : Int32) (S : ST) : Option Int32 :=
  bd (m_X4_codeAt fu x1 S) (fun v_2 => some ((v_2 - (48 : Int32))))
set_option maxRecDepth 100000 in
set_option maxHeartbeats 4000000 in
theorem k_X4_digitAt (l : Launch) (D : va_G) (cy : ClassId) (a : Nat → Nat) (fu : Nat) (x1 : Int32) (S : ST) (r : Int32) (h : m_X4_digitAt fu x1 S = some r) : CtI l yX4_digitAt cX4_digitAt 2 (some .int) 1 [.ref (a 1), .int x1] D cy (wD cy a) S r S := by
  refine CtI_of (by decide) (Nat.le_of_ble_eq_true rfl) ?_
  intro p e s m args below meth c A ls hC hr hk hw hl
  have hC : Cx p s m c RX4 cX4_digitAt 2 args D cy := hC
  have hx := hC.1
  have hb := hC.2.1
  have hl : lv_has ls 2 [(0, .ref (a 1)), (1, .int x1)] := hl
  obtain ⟨H, eH⟩ : ∃ z : Heap, z = s.heap := ⟨_, rfl⟩
  obtain ⟨locs, elocs⟩ : ∃ z : List Loc, z = [] := ⟨_, rfl⟩
  have hw : InW D (wD cy a) A s.heap H locs S := by rw [eH, elocs]; exact hw
  suffices hsu : W p l e (rmN 1) s m args below meth c H locs 0 0 (QI below args s D (wD cy a) A r S) (F0 m 0 ls []) by rw [eH, elocs] at hsu; exact hsu
  unfold m_X4_digitAt at h
  refine lv_aload_n hx hb dX4_digitAt_0 rfl (lv_at hl 0 rfl) ?_
  refine lv_iload_n hx hb dX4_digitAt_1 rfl (lv_at hl 1 rfl) ?_
  obtain ⟨v_2, hc_1, h⟩ := bd_at h
  refine caVI (As := [.int x1]) (rest := []) hC hw hl.1 lm_RX4_19 li_RX4 lk_yX4_codeAt li_yX4_codeAt ll_yX4_codeAt 1 3 (cD_1 cy a S) rfl 1 rfl hd_X4_codeAt (by decide) (by decide) (Nat.le_of_ble_eq_true rfl) dX4_digitAt_2 (k_X4_codeAt l D cy a fu x1 S _ hc_1) (fun H locs hw => ?_)
  refine lv_bipush (v := 48) hx hb dX4_digitAt_5 (by decide) ?_
  refine lv_isub hx hb dX4_digitAt_7 ?_
  exact rtI hC hr hk hw (so_at h) rfl dX4_digitAt_8
def m_X4_mayStand (fu : Nat) (x1 : Int32) (x2 : Int32) (S : ST) : Option Int32 :=
  (if x1 = (6 : Int32) then bd (m_X4_codeAt fu x1 S) (fun v_17 => (if v_17 = (59 : Int32) then some (1 : Int32) else some (0 : Int32))) else (if x1 = (7 : Int32) then bd (m_X4_digitAt fu x1 S) (fun v_13 => bd (m_X6_within fu v_13 (1 : Int32) (9 : Int32)) (fun v_15 => gd (zB v_15) (some v_15))) else (if (7 : Int32) < x1 then some (0 : Int32) else bd (m_X4_digitAt fu x1 S) (fun v_5 => bd (m_X6_within fu v_5 (0 : Int32) (9 : Int32)) (fun v_7 => (if v_7 = (0 : Int32) then some (0 : Int32) else (if x1 = (5 : Int32) then (if x2 = (10 : Int32) then some (1 : Int32) else some (0 : Int32)) else (if (10 : Int32) < x2 then some (0 : Int32) else some (1 : Int32)))))))))
set_option maxRecDepth 100000 in
set_option maxHeartbeats 4000000 in
theorem k_X4_mayStand (l : Launch) (D : va_G) (cy : ClassId) (a : Nat → Nat) (fu : Nat) (x1 : Int32) (x2 : Int32) (S : ST) (r : Int32) (h : m_X4_mayStand fu x1 x2 S = some r) : CtI l yX4_mayStand cX4_mayStand 3 (some .boolean) 2 [.ref (a 1), .int x1, .int x2] D cy (wD cy a) S r S := by
  refine CtI_of (by decide) (Nat.le_of_ble_eq_true rfl) ?_
  intro p e s m args below meth c A ls hC hr hk hw hl
  have hC : Cx p s m c RX4 cX4_mayStand 3 args D cy := hC
  have hx := hC.1
  have hb := hC.2.1
  have hl : lv_has ls 3 [(0, .ref (a 1)), (1, .int x1), (2, .int x2)] := hl
  obtain ⟨H, eH⟩ : ∃ z : Heap, z = s.heap := ⟨_, rfl⟩
  obtain ⟨locs, elocs⟩ : ∃ z : List Loc, z = [] := ⟨_, rfl⟩
  have hw : InW D (wD cy a) A s.heap H locs S := by rw [eH, elocs]; exact hw
  suffices hsu : W p l e (rmN 2) s m args below meth c H locs 0 0 (QI below args s D (wD cy a) A r S) (F0 m 0 ls []) by rw [eH, elocs] at hsu; exact hsu
  unfold m_X4_mayStand at h
  refine lv_iload_n hx hb dX4_mayStand_0 rfl (lv_at hl 1 rfl) ?_
  refine lv_bipush (v := 6) hx hb dX4_mayStand_1 (by decide) ?_
  refine lv_icmp_ne (tgt := 22) hx hb dX4_mayStand_3 (by decide) (fun c_1 => ?_) (fun c_1 => ?_)
  · have h := if_at_f c_1 h
    refine lv_iload_n hx hb dX4_mayStand_22 rfl (lv_at hl 1 rfl) ?_
    refine lv_bipush (v := 7) hx hb dX4_mayStand_23 (by decide) ?_
    refine lv_icmp_ne (tgt := 40) hx hb dX4_mayStand_25 (by decide) (fun c_2 => ?_) (fun c_2 => ?_)
    · have h := if_at_f c_2 h
      refine lv_iload_n hx hb dX4_mayStand_40 rfl (lv_at hl 1 rfl) ?_
      refine lv_bipush (v := 7) hx hb dX4_mayStand_41 (by decide) ?_
      refine lv_icmp_gt (tgt := 60) hx hb dX4_mayStand_43 (by decide) (fun c_3 => ?_) (fun c_3 => ?_)
      · have h := if_at_t c_3 h
        refine lv_iconst (v := 0) hx hb dX4_mayStand_60 (by decide) ?_
        exact rtZ hC hr hk hw rfl (so_at h) rfl dX4_mayStand_61
      · have h := if_at_f c_3 h
        refine lv_aload_n hx hb dX4_mayStand_46 rfl (lv_at hl 0 rfl) ?_
        refine lv_iload_n hx hb dX4_mayStand_47 rfl (lv_at hl 1 rfl) ?_
        obtain ⟨v_5, hc_4, h⟩ := bd_at h
        refine caVI (As := [.int x1]) (rest := []) hC hw hl.1 lm_RX4_27 li_RX4 lk_yX4_digitAt li_yX4_digitAt ll_yX4_digitAt 1 3 (cD_1 cy a S) rfl 1 rfl hd_X4_digitAt (by decide) (by decide) (Nat.le_of_ble_eq_true rfl) dX4_mayStand_48 (k_X4_digitAt l D cy a fu x1 S _ hc_4) (fun H locs hw => ?_)
        refine lv_iconst (v := 0) hx hb dX4_mayStand_51 (by decide) ?_
        refine lv_bipush (v := 9) hx hb dX4_mayStand_52 (by decide) ?_
        obtain ⟨v_7, hc_6, h⟩ := bd_at h
        refine caSNI (As := [.int v_5, .int (0 : Int32), .int (9 : Int32)]) (rest := []) hC hw hl.1 lm_RX4_34 li_RX6 lk_yX6_within ls_yX6_within 3 rfl hd_X6_within (by decide) (by decide) (Nat.le_of_ble_eq_true rfl) dX4_mayStand_54 (k_X6_within l D cy (wD cy a) S fu v_5 (0 : Int32) (9 : Int32) _ hc_6) (fun H locs hw => ?_)
        refine lv_if_ne (tgt := 62) hx hb dX4_mayStand_57 (by decide) (fun c_8 => ?_) (fun c_8 => ?_)
        · have h := if_at_f c_8 h
          refine lv_iload_n hx hb dX4_mayStand_62 rfl (lv_at hl 1 rfl) ?_
          refine lv_iconst (v := 5) hx hb dX4_mayStand_63 (by decide) ?_
          refine lv_icmp_ne (tgt := 81) hx hb dX4_mayStand_64 (by decide) (fun c_9 => ?_) (fun c_9 => ?_)
          · have h := if_at_f c_9 h
            refine lv_iload_n hx hb dX4_mayStand_81 rfl (lv_at hl 2 rfl) ?_
            refine lv_bipush (v := 10) hx hb dX4_mayStand_82 (by decide) ?_
            refine lv_icmp_gt (tgt := 91) hx hb dX4_mayStand_84 (by decide) (fun c_10 => ?_) (fun c_10 => ?_)
            · have h := if_at_t c_10 h
              refine lv_iconst (v := 0) hx hb dX4_mayStand_91 (by decide) ?_
              exact rtZ hC hr hk hw rfl (so_at h) rfl dX4_mayStand_92
            · have h := if_at_f c_10 h
              refine lv_iconst (v := 1) hx hb dX4_mayStand_87 (by decide) ?_
              refine lv_goto (tgt := 92) hx hb dX4_mayStand_88 (by decide) ?_
              exact rtZ hC hr hk hw rfl (so_at h) rfl dX4_mayStand_92
          · have h := if_at_t c_9 h
            refine lv_iload_n hx hb dX4_mayStand_67 rfl (lv_at hl 2 rfl) ?_
            refine lv_bipush (v := 10) hx hb dX4_mayStand_68 (by decide) ?_
            refine lv_icmp_ne (tgt := 77) hx hb dX4_mayStand_70 (by decide) (fun c_11 => ?_) (fun c_11 => ?_)
            · have h := if_at_f c_11 h
              refine lv_iconst (v := 0) hx hb dX4_mayStand_77 (by decide) ?_
              refine lv_goto (tgt := 92) hx hb dX4_mayStand_78 (by decide) ?_
              exact rtZ hC hr hk hw rfl (so_at h) rfl dX4_mayStand_92
            · have h := if_at_t c_11 h
              refine lv_iconst (v := 1) hx hb dX4_mayStand_73 (by decide) ?_
              refine lv_goto (tgt := 92) hx hb dX4_mayStand_74 (by decide) ?_
              exact rtZ hC hr hk hw rfl (so_at h) rfl dX4_mayStand_92
        · have h := if_at_t c_8 h
          refine lv_iconst (v := 0) hx hb dX4_mayStand_60 (by decide) ?_
          exact rtZ hC hr hk hw rfl (so_at h) rfl dX4_mayStand_61
    · have h := if_at_t c_2 h
      refine lv_aload_n hx hb dX4_mayStand_28 rfl (lv_at hl 0 rfl) ?_
      refine lv_iload_n hx hb dX4_mayStand_29 rfl (lv_at hl 1 rfl) ?_
      obtain ⟨v_13, hc_12, h⟩ := bd_at h
      refine caVI (As := [.int x1]) (rest := []) hC hw hl.1 lm_RX4_27 li_RX4 lk_yX4_digitAt li_yX4_digitAt ll_yX4_digitAt 1 3 (cD_1 cy a S) rfl 1 rfl hd_X4_digitAt (by decide) (by decide) (Nat.le_of_ble_eq_true rfl) dX4_mayStand_30 (k_X4_digitAt l D cy a fu x1 S _ hc_12) (fun H locs hw => ?_)
      refine lv_iconst (v := 1) hx hb dX4_mayStand_33 (by decide) ?_
      refine lv_bipush (v := 9) hx hb dX4_mayStand_34 (by decide) ?_
      obtain ⟨v_15, hc_14, h⟩ := bd_at h
      refine caSNI (As := [.int v_13, .int (1 : Int32), .int (9 : Int32)]) (rest := []) hC hw hl.1 lm_RX4_34 li_RX6 lk_yX6_within ls_yX6_within 3 rfl hd_X6_within (by decide) (by decide) (Nat.le_of_ble_eq_true rfl) dX4_mayStand_36 (k_X6_within l D cy (wD cy a) S fu v_13 (1 : Int32) (9 : Int32) _ hc_14) (fun H locs hw => ?_)
      obtain ⟨hz, h⟩ := gd_at h
      exact rtZ hC hr hk hw hz (so_at h) rfl dX4_mayStand_39
  · have h := if_at_t c_1 h
    refine lv_aload_n hx hb dX4_mayStand_6 rfl (lv_at hl 0 rfl) ?_
    refine lv_iload_n hx hb dX4_mayStand_7 rfl (lv_at hl 1 rfl) ?_
    obtain ⟨v_17, hc_16, h⟩ := bd_at h
    refine caVI (As := [.int x1]) (rest := []) hC hw hl.1 lm_RX4_19 li_RX4 lk_yX4_codeAt li_yX4_codeAt ll_yX4_codeAt 1 3 (cD_1 cy a S) rfl 1 rfl hd_X4_codeAt (by decide) (by decide) (Nat.le_of_ble_eq_true rfl) dX4_mayStand_8 (k_X4_codeAt l D cy a fu x1 S _ hc_16) (fun H locs hw => ?_)
    refine lv_bipush (v := 59) hx hb dX4_mayStand_11 (by decide) ?_
    refine lv_icmp_ne (tgt := 20) hx hb dX4_mayStand_13 (by decide) (fun c_18 => ?_) (fun c_18 => ?_)
    · have h := if_at_f c_18 h
      refine lv_iconst (v := 0) hx hb dX4_mayStand_20 (by decide) ?_
      exact rtZ hC hr hk hw rfl (so_at h) rfl dX4_mayStand_21
    · have h := if_at_t c_18 h
      refine lv_iconst (v := 1) hx hb dX4_mayStand_16 (by decide) ?_
      refine lv_goto (tgt := 21) hx hb dX4_mayStand_17 (by decide) ?_
      exact rtZ hC hr hk hw rfl (so_at h) rfl dX4_mayStand_21
def m_X4_firstFault_L4 (fu : Nat) (S : ST) (ag_3 : Int32 → Int32 → Option Int32) (x1_1 : Int32) (x2_2 : Int32) : Option Int32 :=
  (if (stI S 4) ≤ x2_2 then some ((stI S 4)) else jn1 (fun (x1_5 : Int32) => bd (m_X4_mayStand fu x2_2 x1_5 S) (fun v_8 => (if v_8 = (0 : Int32) then some x2_2 else nm (x2_2 + (1 : Int32)) (fun x2_10 => ag_3 x1_5 x2_10)))) (fun j_6 => (if (6 : Int32) ≤ x2_2 then j_6 x1_1 else bd (m_X4_digitAt fu x2_2 S) (fun v_13 => nm ((x1_1 + v_13)) (fun x1_14 => j_6 x1_14)))))
def m_X4_firstFault (fu : Nat) (S : ST) : Option Int32 :=
  lq2 (m_X4_firstFault_L4 fu S) fu (0 : Int32) (0 : Int32)
set_option maxRecDepth 100000 in
set_option maxHeartbeats 4000000 in
theorem k_X4_firstFault (l : Launch) (D : va_G) (cy : ClassId) (a : Nat → Nat) (fu : Nat) (S : ST) (r : Int32) (h : m_X4_firstFault fu S = some r) : CtI l yX4_firstFault cX4_firstFault 3 (some .int) 3 [.ref (a 1)] D cy (wD cy a) S r S := by
  refine CtI_of (by decide) (Nat.le_of_ble_eq_true rfl) ?_
  intro p e s m args below meth c A ls hC hr hk hw hl
  have hC : Cx p s m c RX4 cX4_firstFault 3 args D cy := hC
  have hx := hC.1
  have hb := hC.2.1
  have hl : lv_has ls 3 [(0, .ref (a 1))] := hl
  obtain ⟨H, eH⟩ : ∃ z : Heap, z = s.heap := ⟨_, rfl⟩
  obtain ⟨locs, elocs⟩ : ∃ z : List Loc, z = [] := ⟨_, rfl⟩
  have hw : InW D (wD cy a) A s.heap H locs S := by rw [eH, elocs]; exact hw
  suffices hsu : W p l e (rmN 3) s m args below meth c H locs 0 0 (QI below args s D (wD cy a) A r S) (F0 m 0 ls []) by rw [eH, elocs] at hsu; exact hsu
  unfold m_X4_firstFault at h
  refine lv_iconst (v := 0) hx hb dX4_firstFault_0 (by decide) ?_
  refine lv_istore_n (lv' := [(1, .int (0 : Int32)), (0, .ref (a 1))]) hx hb dX4_firstFault_1 rfl hl (by decide) rfl (fun ls hl => ?_)
  refine lv_iconst (v := 0) hx hb dX4_firstFault_2 (by decide) ?_
  refine lv_istore_n (lv' := [(2, .int (0 : Int32)), (1, .int (0 : Int32)), (0, .ref (a 1))]) hx hb dX4_firstFault_3 rfl hl (by decide) rfl (fun ls hl => ?_)
  refine lq2_ok (fun (x1_1 : Int32) (x2_2 : Int32) => ∀ (H : Heap) (locs : List Loc) (ls : Array Slot), InW D (wD cy a) A s.heap H locs S → lv_has ls 3 [(0, .ref (a 1)), (1, .int x1_1), (2, .int x2_2)] → W p l e (rmN 3) s m args below meth c H locs 0 0 (QI below args s D (wD cy a) A r S) (F0 m 4 ls [])) ?_ fu (0 : Int32) (0 : Int32) h H locs ls hw (lv_sub hl [2, 1, 0] rfl)
  intro ag_3 hag_3 x1_1 x2_2 h H locs ls hw hl
  unfold m_X4_firstFault_L4 at h
  refine lv_iload_n hx hb dX4_firstFault_4 rfl (lv_at hl 2 rfl) ?_
  refine lv_aload_n hx hb dX4_firstFault_5 rfl (lv_at hl 0 rfl) ?_
  refine gf (v := .int (stI S 4)) hC hw in_X4 1 3 1 (cD_1 cy a S) rfl (by decide) lf_RX4_15 rfl rfl dX4_firstFault_6 ?_
  refine lv_icmp_ge (tgt := 43) hx hb dX4_firstFault_9 (by decide) (fun c_4 => ?_) (fun c_4 => ?_)
  · have h := if_at_t c_4 h
    refine lv_aload_n hx hb dX4_firstFault_43 rfl (lv_at hl 0 rfl) ?_
    refine gf (v := .int (stI S 4)) hC hw in_X4 1 3 1 (cD_1 cy a S) rfl (by decide) lf_RX4_15 rfl rfl dX4_firstFault_44 ?_
    exact rtI hC hr hk hw (so_at h) rfl dX4_firstFault_47
  · have h := if_at_f c_4 h
    refine lv_iload_n hx hb dX4_firstFault_12 rfl (lv_at hl 2 rfl) ?_
    refine lv_bipush (v := 6) hx hb dX4_firstFault_13 (by decide) ?_
    refine jn1_ok (fun (x1_5 : Int32) => ∀ (H : Heap) (locs : List Loc) (ls : Array Slot), InW D (wD cy a) A s.heap H locs S → lv_has ls 3 [(0, .ref (a 1)), (1, .int x1_5), (2, .int x2_2)] → W p l e (rmN 3) s m args below meth c H locs 0 0 (QI below args s D (wD cy a) A r S) (F0 m 26 ls [])) ?_ ?_ h
    · intro x1_5 h H locs ls hw hl
      refine lv_aload_n hx hb dX4_firstFault_26 rfl (lv_at hl 0 rfl) ?_
      refine lv_iload_n hx hb dX4_firstFault_27 rfl (lv_at hl 2 rfl) ?_
      refine lv_iload_n hx hb dX4_firstFault_28 rfl (lv_at hl 1 rfl) ?_
      obtain ⟨v_8, hc_7, h⟩ := bd_at h
      refine caVI (As := [.int x2_2, .int x1_5]) (rest := []) hC hw hl.1 lm_RX4_30 li_RX4 lk_yX4_mayStand li_yX4_mayStand ll_yX4_mayStand 1 3 (cD_1 cy a S) rfl 2 rfl hd_X4_mayStand (by decide) (by decide) (Nat.le_of_ble_eq_true rfl) dX4_firstFault_29 (k_X4_mayStand l D cy a fu x2_2 x1_5 S _ hc_7) (fun H locs hw => ?_)
      refine lv_if_ne (tgt := 37) hx hb dX4_firstFault_32 (by decide) (fun c_9 => ?_) (fun c_9 => ?_)
      · have h := if_at_f c_9 h
        obtain ⟨x2_10, ex2_10⟩ : ∃ z : Int32, z = x2_2 + (1 : Int32) := ⟨_, rfl⟩
        have h := nm_at ex2_10 h
        refine lv_iinc (v := x2_10) (lv' := [(2, .int x2_10), (0, .ref (a 1)), (1, .int x1_5)]) hx hb dX4_firstFault_37 hl (k := 2) rfl (by rw [ex2_10]; rfl) (by decide) rfl (fun ls hl => ?_)
        refine lv_goto (tgt := 4) hx hb dX4_firstFault_40 (by decide) ?_
        exact hag_3 x1_5 x2_10 h H locs ls hw (lv_sub hl [1, 2, 0] rfl)
      · have h := if_at_t c_9 h
        refine lv_iload_n hx hb dX4_firstFault_35 rfl (lv_at hl 2 rfl) ?_
        exact rtI hC hr hk hw (so_at h) rfl dX4_firstFault_36
    · intro j_6 hj_6 h
      refine lv_icmp_ge (tgt := 26) hx hb dX4_firstFault_15 (by decide) (fun c_11 => ?_) (fun c_11 => ?_)
      · have h := if_at_t c_11 h
        exact hj_6 x1_1 h H locs ls hw (lv_sub hl [0, 1, 2] rfl)
      · have h := if_at_f c_11 h
        refine lv_iload_n hx hb dX4_firstFault_18 rfl (lv_at hl 1 rfl) ?_
        refine lv_aload_n hx hb dX4_firstFault_19 rfl (lv_at hl 0 rfl) ?_
        refine lv_iload_n hx hb dX4_firstFault_20 rfl (lv_at hl 2 rfl) ?_
        obtain ⟨v_13, hc_12, h⟩ := bd_at h
        refine caVI (As := [.int x2_2]) (rest := [.int x1_1]) hC hw hl.1 lm_RX4_27 li_RX4 lk_yX4_digitAt li_yX4_digitAt ll_yX4_digitAt 1 3 (cD_1 cy a S) rfl 1 rfl hd_X4_digitAt (by decide) (by decide) (Nat.le_of_ble_eq_true rfl) dX4_firstFault_21 (k_X4_digitAt l D cy a fu x2_2 S _ hc_12) (fun H locs hw => ?_)
        refine lv_iadd hx hb dX4_firstFault_24 ?_
        refine lv_topi (fun x1_14 ex1_14 => ?_)
        have h := nm_at ex1_14 h
        refine lv_istore_n (lv' := [(1, .int x1_14), (0, .ref (a 1)), (2, .int x2_2)]) hx hb dX4_firstFault_25 rfl hl (by decide) rfl (fun ls hl => ?_)
        exact hj_6 x1_14 h H locs ls hw (lv_sub hl [1, 0, 2] rfl)
def m_X4_isLaw (fu : Nat) (S : ST) : Option Int32 :=
  (if (stI S 4) = (8 : Int32) then bd (m_X4_firstFault fu S) (fun v_3 => (if v_3 = (8 : Int32) then some (1 : Int32) else some (0 : Int32))) else some (0 : Int32))
set_option maxRecDepth 100000 in
set_option maxHeartbeats 4000000 in
theorem k_X4_isLaw (l : Launch) (D : va_G) (cy : ClassId) (a : Nat → Nat) (fu : Nat) (S : ST) (r : Int32) (h : m_X4_isLaw fu S = some r) : CtI l yX4_isLaw cX4_isLaw 1 (some .boolean) 4 [.ref (a 1)] D cy (wD cy a) S r S := by
  refine CtI_of (by decide) (Nat.le_of_ble_eq_true rfl) ?_
  intro p e s m args below meth c A ls hC hr hk hw hl
  have hC : Cx p s m c RX4 cX4_isLaw 1 args D cy := hC
  have hx := hC.1
  have hb := hC.2.1
  have hl : lv_has ls 1 [(0, .ref (a 1))] := hl
  obtain ⟨H, eH⟩ : ∃ z : Heap, z = s.heap := ⟨_, rfl⟩
  obtain ⟨locs, elocs⟩ : ∃ z : List Loc, z = [] := ⟨_, rfl⟩
  have hw : InW D (wD cy a) A s.heap H locs S := by rw [eH, elocs]; exact hw
  suffices hsu : W p l e (rmN 4) s m args below meth c H locs 0 0 (QI below args s D (wD cy a) A r S) (F0 m 0 ls []) by rw [eH, elocs] at hsu; exact hsu
  unfold m_X4_isLaw at h
  refine lv_aload_n hx hb dX4_isLaw_0 rfl (lv_at hl 0 rfl) ?_
  refine gf (v := .int (stI S 4)) hC hw in_X4 1 3 1 (cD_1 cy a S) rfl (by decide) lf_RX4_15 rfl rfl dX4_isLaw_1 ?_
  refine lv_bipush (v := 8) hx hb dX4_isLaw_4 (by decide) ?_
  refine lv_icmp_ne (tgt := 22) hx hb dX4_isLaw_6 (by decide) (fun c_1 => ?_) (fun c_1 => ?_)
  · have h := if_at_f c_1 h
    refine lv_iconst (v := 0) hx hb dX4_isLaw_22 (by decide) ?_
    exact rtZ hC hr hk hw rfl (so_at h) rfl dX4_isLaw_23
  · have h := if_at_t c_1 h
    refine lv_aload_n hx hb dX4_isLaw_9 rfl (lv_at hl 0 rfl) ?_
    obtain ⟨v_3, hc_2, h⟩ := bd_at h
    refine caVI (As := []) (rest := []) hC hw hl.1 lm_RX4_23 li_RX4 lk_yX4_firstFault li_yX4_firstFault ll_yX4_firstFault 1 3 (cD_1 cy a S) rfl 0 rfl hd_X4_firstFault (by decide) (by decide) (Nat.le_of_ble_eq_true rfl) dX4_isLaw_10 (k_X4_firstFault l D cy a fu S _ hc_2) (fun H locs hw => ?_)
    refine lv_bipush (v := 8) hx hb dX4_isLaw_13 (by decide) ?_
    refine lv_icmp_ne (tgt := 22) hx hb dX4_isLaw_15 (by decide) (fun c_4 => ?_) (fun c_4 => ?_)
    · have h := if_at_f c_4 h
      refine lv_iconst (v := 0) hx hb dX4_isLaw_22 (by decide) ?_
      exact rtZ hC hr hk hw rfl (so_at h) rfl dX4_isLaw_23
    · have h := if_at_t c_4 h
      refine lv_iconst (v := 1) hx hb dX4_isLaw_18 (by decide) ?_
      refine lv_goto (tgt := 23) hx hb dX4_isLaw_19 (by decide) ?_
      exact rtZ hC hr hk hw rfl (so_at h) rfl dX4_isLaw_23
def m_X3_read_1_L2 (fu : Nat) (j_2 : ST → Option ST) (ag_8 : Int32 → ST → Option ST) (x2_6 : Int32) (S_7 : ST) : Option ST :=
  (if (6 : Int32) ≤ x2_6 then j_2 S_7 else bd (m_X4_digitAt fu x2_6 S_7) (fun v_11 => gd (inB x2_6 6) (nm (wrA S_7 1 x2_6 v_11) (fun S_12 => nm (x2_6 + (1 : Int32)) (fun x2_13 => ag_8 x2_13 S_12)))))
def m_X3_read_1 (fu : Nat) (S : ST) : Option ST :=
  jn1 (fun (S_1 : ST) => bd (m_X4_digitAt fu (7 : Int32) S_1) (fun v_4 => nm (puI S_1 5 v_4) (fun S_5 => some S_5))) (fun j_2 => lq2 (m_X3_read_1_L2 fu j_2) fu (0 : Int32) S)
set_option maxRecDepth 100000 in
set_option maxHeartbeats 4000000 in
theorem k_X3_read_1 (l : Launch) (D : va_G) (cy : ClassId) (a : Nat → Nat) (fu : Nat) (S : ST) (S' : ST) (h : m_X3_read_1 fu S = some S') : CtV l yX3_read cX3_read 3 none 2 [.ref (a 3), .ref (a 1)] D cy (wD cy a) S S' := by
  refine CtV_of (by decide) (Nat.le_of_ble_eq_true rfl) ?_
  intro p e s m args below meth c A ls hC hr hk hw hl
  have hC : Cx p s m c RX3 cX3_read 3 args D cy := hC
  have hx := hC.1
  have hb := hC.2.1
  have hl : lv_has ls 3 [(0, .ref (a 3)), (1, .ref (a 1))] := hl
  obtain ⟨H, eH⟩ : ∃ z : Heap, z = s.heap := ⟨_, rfl⟩
  obtain ⟨locs, elocs⟩ : ∃ z : List Loc, z = [] := ⟨_, rfl⟩
  have hw : InW D (wD cy a) A s.heap H locs S := by rw [eH, elocs]; exact hw
  suffices hsu : W p l e (rmN 2) s m args below meth c H locs 0 0 (QV below args s D (wD cy a) A S') (F0 m 0 ls []) by rw [eH, elocs] at hsu; exact hsu
  unfold m_X3_read_1 at h
  refine lv_iconst (v := 0) hx hb dX3_read_0 (by decide) ?_
  refine lv_istore_n (lv' := [(2, .int (0 : Int32)), (0, .ref (a 3)), (1, .ref (a 1))]) hx hb dX3_read_1 rfl hl (by decide) rfl (fun ls hl => ?_)
  refine jn1_ok (fun (S_1 : ST) => ∀ (H : Heap) (locs : List Loc) (ls : Array Slot), InW D (wD cy a) A s.heap H locs S_1 → lv_has ls 3 [(0, .ref (a 3)), (1, .ref (a 1))] → W p l e (rmN 2) s m args below meth c H locs 0 0 (QV below args s D (wD cy a) A S') (F0 m 25 ls [])) ?_ ?_ h
  · intro S_1 h H locs ls hw hl
    refine lv_aload_n hx hb dX3_read_25 rfl (lv_at hl 0 rfl) ?_
    refine lv_aload_n hx hb dX3_read_26 rfl (lv_at hl 1 rfl) ?_
    refine lv_bipush (v := 7) hx hb dX3_read_27 (by decide) ?_
    obtain ⟨v_4, hc_3, h⟩ := bd_at h
    refine caVI (As := [.int (7 : Int32)]) (rest := [.ref (a 3)]) hC hw hl.1 lm_RX3_15 li_RX4 lk_yX4_digitAt li_yX4_digitAt ll_yX4_digitAt 1 3 (cD_1 cy a S_1) rfl 1 rfl hd_X4_digitAt (by decide) (by decide) (Nat.le_of_ble_eq_true rfl) dX3_read_29 (k_X4_digitAt l D cy a fu (7 : Int32) S_1 _ hc_3) (fun H locs hw => ?_)
    refine pf (ty := .int) (v := .int v_4) hC hw in_X3 tyX3_ok nmX3 3 2 1 (cD_3 cy a S_1) rfl (by decide) lf_RX3_21 rfl rfl (by decide +kernel) rfl rfl (Nat.le_of_ble_eq_true rfl) (sD_3_1 cy a S_1 v_4) dX3_read_32 (fun H locs hw => ?_)
    obtain ⟨S_5, hw, h⟩ := nmw (P := fun z => InW D (wD cy a) A s.heap H locs z) hw h
    exact rtV hC hr hk hw (so_at h) dX3_read_35
  · intro j_2 hj_2 h
    refine lq2_ok (fun (x2_6 : Int32) (S_7 : ST) => ∀ (H : Heap) (locs : List Loc) (ls : Array Slot), InW D (wD cy a) A s.heap H locs S_7 → lv_has ls 3 [(0, .ref (a 3)), (1, .ref (a 1)), (2, .int x2_6)] → W p l e (rmN 2) s m args below meth c H locs 0 0 (QV below args s D (wD cy a) A S') (F0 m 2 ls [])) ?_ fu (0 : Int32) S h H locs ls hw (lv_sub hl [1, 2, 0] rfl)
    intro ag_8 hag_8 x2_6 S_7 h H locs ls hw hl
    unfold m_X3_read_1_L2 at h
    refine lv_iload_n hx hb dX3_read_2 rfl (lv_at hl 2 rfl) ?_
    refine lv_bipush (v := 6) hx hb dX3_read_3 (by decide) ?_
    refine lv_icmp_ge (tgt := 25) hx hb dX3_read_5 (by decide) (fun c_9 => ?_) (fun c_9 => ?_)
    · have h := if_at_t c_9 h
      exact hj_2 S_7 h H locs ls hw (lv_sub hl [0, 1] rfl)
    · have h := if_at_f c_9 h
      refine lv_aload_n hx hb dX3_read_8 rfl (lv_at hl 0 rfl) ?_
      refine gf (v := .ref (a 4)) hC hw in_X3 3 2 0 (cD_3 cy a S_7) rfl (by decide) lf_RX3_9 rfl rfl dX3_read_9 ?_
      refine lv_iload_n hx hb dX3_read_12 rfl (lv_at hl 2 rfl) ?_
      refine lv_aload_n hx hb dX3_read_13 rfl (lv_at hl 1 rfl) ?_
      refine lv_iload_n hx hb dX3_read_14 rfl (lv_at hl 2 rfl) ?_
      obtain ⟨v_11, hc_10, h⟩ := bd_at h
      refine caVI (As := [.int x2_6]) (rest := [.int x2_6, .ref (a 4)]) hC hw hl.1 lm_RX3_15 li_RX4 lk_yX4_digitAt li_yX4_digitAt ll_yX4_digitAt 1 3 (cD_1 cy a S_7) rfl 1 rfl hd_X4_digitAt (by decide) (by decide) (Nat.le_of_ble_eq_true rfl) dX3_read_15 (k_X4_digitAt l D cy a fu x2_6 S_7 _ hc_10) (fun H locs hw => ?_)
      obtain ⟨hi, h⟩ := gd_at h
      refine pa hC hw 4 (cD_4 cy a S_7) hi (rD_4 cy a S_7) dX3_read_18 (fun H locs hw => ?_)
      obtain ⟨S_12, hw, h⟩ := nmw (P := fun z => InW D (wD cy a) A s.heap H locs z) hw h
      obtain ⟨x2_13, ex2_13⟩ : ∃ z : Int32, z = x2_6 + (1 : Int32) := ⟨_, rfl⟩
      have h := nm_at ex2_13 h
      refine lv_iinc (v := x2_13) (lv' := [(2, .int x2_13), (0, .ref (a 3)), (1, .ref (a 1))]) hx hb dX3_read_19 hl (k := 2) rfl (by rw [ex2_13]; rfl) (by decide) rfl (fun ls hl => ?_)
      refine lv_goto (tgt := 2) hx hb dX3_read_22 (by decide) ?_
      exact hag_8 x2_13 S_12 h H locs ls hw (lv_sub hl [1, 2, 0] rfl)
def m_X3_tenthsOf (fu : Nat) (x1 : Int32) (S : ST) : Option Int32 :=
  (if x1 < (0 : Int32) then some (0 : Int32) else (if (6 : Int32) ≤ x1 then some (0 : Int32) else gd (inB x1 6) (some ((rdA S 1 x1)))))
set_option maxRecDepth 100000 in
set_option maxHeartbeats 4000000 in
theorem k_X3_tenthsOf (l : Launch) (D : va_G) (cy : ClassId) (a : Nat → Nat) (fu : Nat) (x1 : Int32) (S : ST) (r : Int32) (h : m_X3_tenthsOf fu x1 S = some r) : CtI l yX3_tenthsOf cX3_tenthsOf 2 (some .int) 0 [.ref (a 3), .int x1] D cy (wD cy a) S r S := by
  refine CtI_of (by decide) (Nat.le_of_ble_eq_true rfl) ?_
  intro p e s m args below meth c A ls hC hr hk hw hl
  have hC : Cx p s m c RX3 cX3_tenthsOf 2 args D cy := hC
  have hx := hC.1
  have hb := hC.2.1
  have hl : lv_has ls 2 [(0, .ref (a 3)), (1, .int x1)] := hl
  obtain ⟨H, eH⟩ : ∃ z : Heap, z = s.heap := ⟨_, rfl⟩
  obtain ⟨locs, elocs⟩ : ∃ z : List Loc, z = [] := ⟨_, rfl⟩
  have hw : InW D (wD cy a) A s.heap H locs S := by rw [eH, elocs]; exact hw
  suffices hsu : W p l e (rmN 0) s m args below meth c H locs 0 0 (QI below args s D (wD cy a) A r S) (F0 m 0 ls []) by rw [eH, elocs] at hsu; exact hsu
  unfold m_X3_tenthsOf at h
  refine lv_iload_n hx hb dX3_tenthsOf_0 rfl (lv_at hl 1 rfl) ?_
  refine lv_if_lt (tgt := 19) hx hb dX3_tenthsOf_1 (by decide) (fun c_1 => ?_) (fun c_1 => ?_)
  · have h := if_at_t c_1 h
    refine lv_iconst (v := 0) hx hb dX3_tenthsOf_19 (by decide) ?_
    exact rtI hC hr hk hw (so_at h) rfl dX3_tenthsOf_20
  · have h := if_at_f c_1 h
    refine lv_iload_n hx hb dX3_tenthsOf_4 rfl (lv_at hl 1 rfl) ?_
    refine lv_bipush (v := 6) hx hb dX3_tenthsOf_5 (by decide) ?_
    refine lv_icmp_ge (tgt := 19) hx hb dX3_tenthsOf_7 (by decide) (fun c_2 => ?_) (fun c_2 => ?_)
    · have h := if_at_t c_2 h
      refine lv_iconst (v := 0) hx hb dX3_tenthsOf_19 (by decide) ?_
      exact rtI hC hr hk hw (so_at h) rfl dX3_tenthsOf_20
    · have h := if_at_f c_2 h
      refine lv_aload_n hx hb dX3_tenthsOf_10 rfl (lv_at hl 0 rfl) ?_
      refine gf (v := .ref (a 4)) hC hw in_X3 3 2 0 (cD_3 cy a S) rfl (by decide) lf_RX3_9 rfl rfl dX3_tenthsOf_11 ?_
      refine lv_iload_n hx hb dX3_tenthsOf_14 rfl (lv_at hl 1 rfl) ?_
      obtain ⟨hi, h⟩ := gd_at h
      refine ga hC hw 4 (cD_4 cy a S) hi dX3_tenthsOf_15 ?_
      refine lv_goto (tgt := 20) hx hb dX3_tenthsOf_16 (by decide) ?_
      exact rtI hC hr hk hw (so_at h) rfl dX3_tenthsOf_20
def m_X3_stands (fu : Nat) (S : ST) : Option Int32 :=
  (if (stI S 5) ≤ (0 : Int32) then some (0 : Int32) else some (1 : Int32))
set_option maxRecDepth 100000 in
set_option maxHeartbeats 4000000 in
theorem k_X3_stands (l : Launch) (D : va_G) (cy : ClassId) (a : Nat → Nat) (fu : Nat) (S : ST) (r : Int32) (h : m_X3_stands fu S = some r) : CtI l yX3_stands cX3_stands 1 (some .boolean) 0 [.ref (a 3)] D cy (wD cy a) S r S := by
  refine CtI_of (by decide) (Nat.le_of_ble_eq_true rfl) ?_
  intro p e s m args below meth c A ls hC hr hk hw hl
  have hC : Cx p s m c RX3 cX3_stands 1 args D cy := hC
  have hx := hC.1
  have hb := hC.2.1
  have hl : lv_has ls 1 [(0, .ref (a 3))] := hl
  obtain ⟨H, eH⟩ : ∃ z : Heap, z = s.heap := ⟨_, rfl⟩
  obtain ⟨locs, elocs⟩ : ∃ z : List Loc, z = [] := ⟨_, rfl⟩
  have hw : InW D (wD cy a) A s.heap H locs S := by rw [eH, elocs]; exact hw
  suffices hsu : W p l e (rmN 0) s m args below meth c H locs 0 0 (QI below args s D (wD cy a) A r S) (F0 m 0 ls []) by rw [eH, elocs] at hsu; exact hsu
  unfold m_X3_stands at h
  refine lv_aload_n hx hb dX3_stands_0 rfl (lv_at hl 0 rfl) ?_
  refine gf (v := .int (stI S 5)) hC hw in_X3 3 2 1 (cD_3 cy a S) rfl (by decide) lf_RX3_21 rfl rfl dX3_stands_1 ?_
  refine lv_if_le (tgt := 11) hx hb dX3_stands_4 (by decide) (fun c_1 => ?_) (fun c_1 => ?_)
  · have h := if_at_t c_1 h
    refine lv_iconst (v := 0) hx hb dX3_stands_11 (by decide) ?_
    exact rtZ hC hr hk hw rfl (so_at h) rfl dX3_stands_12
  · have h := if_at_f c_1 h
    refine lv_iconst (v := 1) hx hb dX3_stands_7 (by decide) ?_
    refine lv_goto (tgt := 12) hx hb dX3_stands_8 (by decide) ?_
    exact rtZ hC hr hk hw rfl (so_at h) rfl dX3_stands_12
def m_X3_mayBurn (fu : Nat) (x1 : Int32) (S : ST) : Option Int32 :=
  bd (m_X3_tenthsOf fu x1 S) (fun v_2 => (if v_2 ≤ (0 : Int32) then some (0 : Int32) else some (1 : Int32)))
set_option maxRecDepth 100000 in
set_option maxHeartbeats 4000000 in
theorem k_X3_mayBurn (l : Launch) (D : va_G) (cy : ClassId) (a : Nat → Nat) (fu : Nat) (x1 : Int32) (S : ST) (r : Int32) (h : m_X3_mayBurn fu x1 S = some r) : CtI l yX3_mayBurn cX3_mayBurn 2 (some .boolean) 1 [.ref (a 3), .int x1] D cy (wD cy a) S r S := by
  refine CtI_of (by decide) (Nat.le_of_ble_eq_true rfl) ?_
  intro p e s m args below meth c A ls hC hr hk hw hl
  have hC : Cx p s m c RX3 cX3_mayBurn 2 args D cy := hC
  have hx := hC.1
  have hb := hC.2.1
  have hl : lv_has ls 2 [(0, .ref (a 3)), (1, .int x1)] := hl
  obtain ⟨H, eH⟩ : ∃ z : Heap, z = s.heap := ⟨_, rfl⟩
  obtain ⟨locs, elocs⟩ : ∃ z : List Loc, z = [] := ⟨_, rfl⟩
  have hw : InW D (wD cy a) A s.heap H locs S := by rw [eH, elocs]; exact hw
  suffices hsu : W p l e (rmN 1) s m args below meth c H locs 0 0 (QI below args s D (wD cy a) A r S) (F0 m 0 ls []) by rw [eH, elocs] at hsu; exact hsu
  unfold m_X3_mayBurn at h
  refine lv_aload_n hx hb dX3_mayBurn_0 rfl (lv_at hl 0 rfl) ?_
  refine lv_iload_n hx hb dX3_mayBurn_1 rfl (lv_at hl 1 rfl) ?_
  obtain ⟨v_2, hc_1, h⟩ := bd_at h
  refine caVI (As := [.int x1]) (rest := []) hC hw hl.1 lm_RX3_25 li_RX3 lk_yX3_tenthsOf li_yX3_tenthsOf ll_yX3_tenthsOf 3 2 (cD_3 cy a S) rfl 1 rfl hd_X3_tenthsOf (by decide) (by decide) (Nat.le_of_ble_eq_true rfl) dX3_mayBurn_2 (k_X3_tenthsOf l D cy a fu x1 S _ hc_1) (fun H locs hw => ?_)
  refine lv_if_le (tgt := 12) hx hb dX3_mayBurn_5 (by decide) (fun c_3 => ?_) (fun c_3 => ?_)
  · have h := if_at_t c_3 h
    refine lv_iconst (v := 0) hx hb dX3_mayBurn_12 (by decide) ?_
    exact rtZ hC hr hk hw rfl (so_at h) rfl dX3_mayBurn_13
  · have h := if_at_f c_3 h
    refine lv_iconst (v := 1) hx hb dX3_mayBurn_8 (by decide) ?_
    refine lv_goto (tgt := 13) hx hb dX3_mayBurn_9 (by decide) ?_
    exact rtZ hC hr hk hw rfl (so_at h) rfl dX3_mayBurn_13
def m_X3_lettersThatMayBurn_L4 (fu : Nat) (S : ST) (ag_3 : Int32 → Int32 → Option Int32) (x1_1 : Int32) (x2_2 : Int32) : Option Int32 :=
  (if (6 : Int32) ≤ x2_2 then some x1_1 else bd (m_X3_mayBurn fu x2_2 S) (fun v_6 => jn1 (fun (x1_7 : Int32) => nm (x2_2 + (1 : Int32)) (fun x2_9 => ag_3 x1_7 x2_9)) (fun j_8 => (if v_6 = (0 : Int32) then j_8 x1_1 else nm (x1_1 + (1 : Int32)) (fun x1_11 => j_8 x1_11)))))
def m_X3_lettersThatMayBurn (fu : Nat) (S : ST) : Option Int32 :=
  lq2 (m_X3_lettersThatMayBurn_L4 fu S) fu (0 : Int32) (0 : Int32)
set_option maxRecDepth 100000 in
set_option maxHeartbeats 4000000 in
theorem k_X3_lettersThatMayBurn (l : Launch) (D : va_G) (cy : ClassId) (a : Nat → Nat) (fu : Nat) (S : ST) (r : Int32) (h : m_X3_lettersThatMayBurn fu S = some r) : CtI l yX3_lettersThatMayBurn cX3_lettersThatMayBurn 3 (some .int) 2 [.ref (a 3)] D cy (wD cy a) S r S := by
  refine CtI_of (by decide) (Nat.le_of_ble_eq_true rfl) ?_
  intro p e s m args below meth c A ls hC hr hk hw hl
  have hC : Cx p s m c RX3 cX3_lettersThatMayBurn 3 args D cy := hC
  have hx := hC.1
  have hb := hC.2.1
  have hl : lv_has ls 3 [(0, .ref (a 3))] := hl
  obtain ⟨H, eH⟩ : ∃ z : Heap, z = s.heap := ⟨_, rfl⟩
  obtain ⟨locs, elocs⟩ : ∃ z : List Loc, z = [] := ⟨_, rfl⟩
  have hw : InW D (wD cy a) A s.heap H locs S := by rw [eH, elocs]; exact hw
  suffices hsu : W p l e (rmN 2) s m args below meth c H locs 0 0 (QI below args s D (wD cy a) A r S) (F0 m 0 ls []) by rw [eH, elocs] at hsu; exact hsu
  unfold m_X3_lettersThatMayBurn at h
  refine lv_iconst (v := 0) hx hb dX3_lettersThatMayBurn_0 (by decide) ?_
  refine lv_istore_n (lv' := [(1, .int (0 : Int32)), (0, .ref (a 3))]) hx hb dX3_lettersThatMayBurn_1 rfl hl (by decide) rfl (fun ls hl => ?_)
  refine lv_iconst (v := 0) hx hb dX3_lettersThatMayBurn_2 (by decide) ?_
  refine lv_istore_n (lv' := [(2, .int (0 : Int32)), (1, .int (0 : Int32)), (0, .ref (a 3))]) hx hb dX3_lettersThatMayBurn_3 rfl hl (by decide) rfl (fun ls hl => ?_)
  refine lq2_ok (fun (x1_1 : Int32) (x2_2 : Int32) => ∀ (H : Heap) (locs : List Loc) (ls : Array Slot), InW D (wD cy a) A s.heap H locs S → lv_has ls 3 [(0, .ref (a 3)), (1, .int x1_1), (2, .int x2_2)] → W p l e (rmN 2) s m args below meth c H locs 0 0 (QI below args s D (wD cy a) A r S) (F0 m 4 ls [])) ?_ fu (0 : Int32) (0 : Int32) h H locs ls hw (lv_sub hl [2, 1, 0] rfl)
  intro ag_3 hag_3 x1_1 x2_2 h H locs ls hw hl
  unfold m_X3_lettersThatMayBurn_L4 at h
  refine lv_iload_n hx hb dX3_lettersThatMayBurn_4 rfl (lv_at hl 2 rfl) ?_
  refine lv_bipush (v := 6) hx hb dX3_lettersThatMayBurn_5 (by decide) ?_
  refine lv_icmp_ge (tgt := 27) hx hb dX3_lettersThatMayBurn_7 (by decide) (fun c_4 => ?_) (fun c_4 => ?_)
  · have h := if_at_t c_4 h
    refine lv_iload_n hx hb dX3_lettersThatMayBurn_27 rfl (lv_at hl 1 rfl) ?_
    exact rtI hC hr hk hw (so_at h) rfl dX3_lettersThatMayBurn_28
  · have h := if_at_f c_4 h
    refine lv_aload_n hx hb dX3_lettersThatMayBurn_10 rfl (lv_at hl 0 rfl) ?_
    refine lv_iload_n hx hb dX3_lettersThatMayBurn_11 rfl (lv_at hl 2 rfl) ?_
    obtain ⟨v_6, hc_5, h⟩ := bd_at h
    refine caVI (As := [.int x2_2]) (rest := []) hC hw hl.1 lm_RX3_28 li_RX3 lk_yX3_mayBurn li_yX3_mayBurn ll_yX3_mayBurn 3 2 (cD_3 cy a S) rfl 1 rfl hd_X3_mayBurn (by decide) (by decide) (Nat.le_of_ble_eq_true rfl) dX3_lettersThatMayBurn_12 (k_X3_mayBurn l D cy a fu x2_2 S _ hc_5) (fun H locs hw => ?_)
    refine jn1_ok (fun (x1_7 : Int32) => ∀ (H : Heap) (locs : List Loc) (ls : Array Slot), InW D (wD cy a) A s.heap H locs S → lv_has ls 3 [(0, .ref (a 3)), (1, .int x1_7), (2, .int x2_2)] → W p l e (rmN 2) s m args below meth c H locs 0 0 (QI below args s D (wD cy a) A r S) (F0 m 21 ls [])) ?_ ?_ h
    · intro x1_7 h H locs ls hw hl
      obtain ⟨x2_9, ex2_9⟩ : ∃ z : Int32, z = x2_2 + (1 : Int32) := ⟨_, rfl⟩
      have h := nm_at ex2_9 h
      refine lv_iinc (v := x2_9) (lv' := [(2, .int x2_9), (0, .ref (a 3)), (1, .int x1_7)]) hx hb dX3_lettersThatMayBurn_21 hl (k := 2) rfl (by rw [ex2_9]; rfl) (by decide) rfl (fun ls hl => ?_)
      refine lv_goto (tgt := 4) hx hb dX3_lettersThatMayBurn_24 (by decide) ?_
      exact hag_3 x1_7 x2_9 h H locs ls hw (lv_sub hl [1, 2, 0] rfl)
    · intro j_8 hj_8 h
      refine lv_if_eq (tgt := 21) hx hb dX3_lettersThatMayBurn_15 (by decide) (fun c_10 => ?_) (fun c_10 => ?_)
      · have h := if_at_t c_10 h
        exact hj_8 x1_1 h H locs ls hw (lv_sub hl [0, 1, 2] rfl)
      · have h := if_at_f c_10 h
        obtain ⟨x1_11, ex1_11⟩ : ∃ z : Int32, z = x1_1 + (1 : Int32) := ⟨_, rfl⟩
        have h := nm_at ex1_11 h
        refine lv_iinc (v := x1_11) (lv' := [(1, .int x1_11), (0, .ref (a 3)), (2, .int x2_2)]) hx hb dX3_lettersThatMayBurn_18 hl (k := 1) rfl (by rw [ex1_11]; rfl) (by decide) rfl (fun ls hl => ?_)
        exact hj_8 x1_11 h H locs ls hw (lv_sub hl [1, 0, 2] rfl)
def m_X3_letterByDraw_L4 (fu : Nat) (S : ST) (ag_3 : Int32 → Int32 → Option Int32) (x2_1 : Int32) (x3_2 : Int32) : Option Int32 :=
  (if (5 : Int32) ≤ x3_2 then some (5 : Int32) else bd (m_X3_tenthsOf fu x3_2 S) (fun v_6 => nm ((x2_1 - v_6)) (fun x2_7 => (if (0 : Int32) ≤ x2_7 then nm (x3_2 + (1 : Int32)) (fun x3_9 => ag_3 x2_7 x3_9) else some x3_2))))
def m_X3_letterByDraw (fu : Nat) (x1 : Int32) (S : ST) : Option Int32 :=
  lq2 (m_X3_letterByDraw_L4 fu S) fu x1 (0 : Int32)
set_option maxRecDepth 100000 in
set_option maxHeartbeats 4000000 in
theorem k_X3_letterByDraw (l : Launch) (D : va_G) (cy : ClassId) (a : Nat → Nat) (fu : Nat) (x1 : Int32) (S : ST) (r : Int32) (h : m_X3_letterByDraw fu x1 S = some r) : CtI l yX3_letterByDraw cX3_letterByDraw 4 (some .int) 1 [.ref (a 3), .int x1] D cy (wD cy a) S r S := by
  refine CtI_of (by decide) (Nat.le_of_ble_eq_true rfl) ?_
  intro p e s m args below meth c A ls hC hr hk hw hl
  have hC : Cx p s m c RX3 cX3_letterByDraw 4 args D cy := hC
  have hx := hC.1
  have hb := hC.2.1
  have hl : lv_has ls 4 [(0, .ref (a 3)), (1, .int x1)] := hl
  obtain ⟨H, eH⟩ : ∃ z : Heap, z = s.heap := ⟨_, rfl⟩
  obtain ⟨locs, elocs⟩ : ∃ z : List Loc, z = [] := ⟨_, rfl⟩
  have hw : InW D (wD cy a) A s.heap H locs S := by rw [eH, elocs]; exact hw
  suffices hsu : W p l e (rmN 1) s m args below meth c H locs 0 0 (QI below args s D (wD cy a) A r S) (F0 m 0 ls []) by rw [eH, elocs] at hsu; exact hsu
  unfold m_X3_letterByDraw at h
  refine lv_iload_n hx hb dX3_letterByDraw_0 rfl (lv_at hl 1 rfl) ?_
  refine lv_istore_n (lv' := [(2, .int x1), (0, .ref (a 3)), (1, .int x1)]) hx hb dX3_letterByDraw_1 rfl hl (by decide) rfl (fun ls hl => ?_)
  refine lv_iconst (v := 0) hx hb dX3_letterByDraw_2 (by decide) ?_
  refine lv_istore_n (lv' := [(3, .int (0 : Int32)), (2, .int x1), (0, .ref (a 3)), (1, .int x1)]) hx hb dX3_letterByDraw_3 rfl hl (by decide) rfl (fun ls hl => ?_)
  refine lq2_ok (fun (x2_1 : Int32) (x3_2 : Int32) => ∀ (H : Heap) (locs : List Loc) (ls : Array Slot), InW D (wD cy a) A s.heap H locs S → lv_has ls 4 [(0, .ref (a 3)), (2, .int x2_1), (3, .int x3_2)] → W p l e (rmN 1) s m args below meth c H locs 0 0 (QI below args s D (wD cy a) A r S) (F0 m 4 ls [])) ?_ fu x1 (0 : Int32) h H locs ls hw (lv_sub hl [2, 1, 0] rfl)
  intro ag_3 hag_3 x2_1 x3_2 h H locs ls hw hl
  unfold m_X3_letterByDraw_L4 at h
  refine lv_iload_n hx hb dX3_letterByDraw_4 rfl (lv_at hl 2 rfl) ?_
  refine lv_iconst (v := 5) hx hb dX3_letterByDraw_5 (by decide) ?_
  refine lv_icmp_ge (tgt := 29) hx hb dX3_letterByDraw_6 (by decide) (fun c_4 => ?_) (fun c_4 => ?_)
  · have h := if_at_t c_4 h
    refine lv_iconst (v := 5) hx hb dX3_letterByDraw_29 (by decide) ?_
    exact rtI hC hr hk hw (so_at h) rfl dX3_letterByDraw_30
  · have h := if_at_f c_4 h
    refine lv_iload_n hx hb dX3_letterByDraw_9 rfl (lv_at hl 1 rfl) ?_
    refine lv_aload_n hx hb dX3_letterByDraw_10 rfl (lv_at hl 0 rfl) ?_
    refine lv_iload_n hx hb dX3_letterByDraw_11 rfl (lv_at hl 2 rfl) ?_
    obtain ⟨v_6, hc_5, h⟩ := bd_at h
    refine caVI (As := [.int x3_2]) (rest := [.int x2_1]) hC hw hl.1 lm_RX3_25 li_RX3 lk_yX3_tenthsOf li_yX3_tenthsOf ll_yX3_tenthsOf 3 2 (cD_3 cy a S) rfl 1 rfl hd_X3_tenthsOf (by decide) (by decide) (Nat.le_of_ble_eq_true rfl) dX3_letterByDraw_12 (k_X3_tenthsOf l D cy a fu x3_2 S _ hc_5) (fun H locs hw => ?_)
    refine lv_isub hx hb dX3_letterByDraw_15 ?_
    refine lv_topi (fun x2_7 ex2_7 => ?_)
    have h := nm_at ex2_7 h
    refine lv_istore_n (lv' := [(2, .int x2_7), (0, .ref (a 3)), (3, .int x3_2)]) hx hb dX3_letterByDraw_16 rfl hl (by decide) rfl (fun ls hl => ?_)
    refine lv_iload_n hx hb dX3_letterByDraw_17 rfl (lv_at hl 0 rfl) ?_
    refine lv_if_ge (tgt := 23) hx hb dX3_letterByDraw_18 (by decide) (fun c_8 => ?_) (fun c_8 => ?_)
    · have h := if_at_t c_8 h
      obtain ⟨x3_9, ex3_9⟩ : ∃ z : Int32, z = x3_2 + (1 : Int32) := ⟨_, rfl⟩
      have h := nm_at ex3_9 h
      refine lv_iinc (v := x3_9) (lv' := [(3, .int x3_9), (2, .int x2_7), (0, .ref (a 3))]) hx hb dX3_letterByDraw_23 hl (k := 2) rfl (by rw [ex3_9]; rfl) (by decide) rfl (fun ls hl => ?_)
      refine lv_goto (tgt := 4) hx hb dX3_letterByDraw_26 (by decide) ?_
      exact hag_3 x2_7 x3_9 h H locs ls hw (lv_sub hl [2, 1, 0] rfl)
    · have h := if_at_f c_8 h
      refine lv_iload_n hx hb dX3_letterByDraw_21 rfl (lv_at hl 2 rfl) ?_
      exact rtI hC hr hk hw (so_at h) rfl dX3_letterByDraw_22
