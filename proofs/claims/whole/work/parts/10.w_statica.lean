def m_X6_within (fu : Nat) (x0 : Int32) (x1 : Int32) (x2 : Int32) : Option Int32 :=
  (if x0 < x1 then some (0 : Int32) else (if x2 < x0 then some (0 : Int32) else some (1 : Int32)))
set_option maxRecDepth 100000 in
set_option maxHeartbeats 4000000 in
theorem k_X6_within (l : Launch) (D : va_G) (cy : ClassId) (w : ST → va_W) (S : ST) (fu : Nat) (x0 : Int32) (x1 : Int32) (x2 : Int32) (r : Int32) (h : m_X6_within fu x0 x1 x2 = some r) : CtI l yX6_within cX6_within 3 (some .boolean) 0 [.int x0, .int x1, .int x2] D cy w S r S := by
  refine CtI_of (by decide) (Nat.le_of_ble_eq_true rfl) ?_
  intro p e s m args below meth c A ls hC hr hk hw hl
  have hC : Cx p s m c RX6 cX6_within 3 args D cy := hC
  have hx := hC.1
  have hb := hC.2.1
  have hl : lv_has ls 3 [(0, .int x0), (1, .int x1), (2, .int x2)] := hl
  obtain ⟨H, eH⟩ : ∃ z : Heap, z = s.heap := ⟨_, rfl⟩
  obtain ⟨locs, elocs⟩ : ∃ z : List Loc, z = [] := ⟨_, rfl⟩
  have hw : InW D w A s.heap H locs S := by rw [eH, elocs]; exact hw
  suffices hsu : W p l e (rmN 0) s m args below meth c H locs 0 0 (QI below args s D w A r S) (F0 m 0 ls []) by rw [eH, elocs] at hsu; exact hsu
  unfold m_X6_within at h
  refine lv_iload_n hx hb dX6_within_0 rfl (lv_at hl 0 rfl) ?_
  refine lv_iload_n hx hb dX6_within_1 rfl (lv_at hl 1 rfl) ?_
  refine lv_icmp_lt (tgt := 14) hx hb dX6_within_2 (by decide) (fun c_1 => ?_) (fun c_1 => ?_)
  · have h := if_at_t c_1 h
    refine lv_iconst (v := 0) hx hb dX6_within_14 (by decide) ?_
    exact rtZ hC hr hk hw rfl (so_at h) rfl dX6_within_15
  · have h := if_at_f c_1 h
    refine lv_iload_n hx hb dX6_within_5 rfl (lv_at hl 0 rfl) ?_
    refine lv_iload_n hx hb dX6_within_6 rfl (lv_at hl 2 rfl) ?_
    refine lv_icmp_gt (tgt := 14) hx hb dX6_within_7 (by decide) (fun c_2 => ?_) (fun c_2 => ?_)
    · have h := if_at_t c_2 h
      refine lv_iconst (v := 0) hx hb dX6_within_14 (by decide) ?_
      exact rtZ hC hr hk hw rfl (so_at h) rfl dX6_within_15
    · have h := if_at_f c_2 h
      refine lv_iconst (v := 1) hx hb dX6_within_10 (by decide) ?_
      refine lv_goto (tgt := 15) hx hb dX6_within_11 (by decide) ?_
      exact rtZ hC hr hk hw rfl (so_at h) rfl dX6_within_15
def m_X6_isLetter (fu : Nat) (x0 : Int32) : Option Int32 :=
  bd (m_X6_within fu x0 (0 : Int32) (5 : Int32)) (fun v_2 => gd (zB v_2) (some v_2))
set_option maxRecDepth 100000 in
set_option maxHeartbeats 4000000 in
theorem k_X6_isLetter (l : Launch) (D : va_G) (cy : ClassId) (w : ST → va_W) (S : ST) (fu : Nat) (x0 : Int32) (r : Int32) (h : m_X6_isLetter fu x0 = some r) : CtI l yX6_isLetter cX6_isLetter 1 (some .boolean) 1 [.int x0] D cy w S r S := by
  refine CtI_of (by decide) (Nat.le_of_ble_eq_true rfl) ?_
  intro p e s m args below meth c A ls hC hr hk hw hl
  have hC : Cx p s m c RX6 cX6_isLetter 1 args D cy := hC
  have hx := hC.1
  have hb := hC.2.1
  have hl : lv_has ls 1 [(0, .int x0)] := hl
  obtain ⟨H, eH⟩ : ∃ z : Heap, z = s.heap := ⟨_, rfl⟩
  obtain ⟨locs, elocs⟩ : ∃ z : List Loc, z = [] := ⟨_, rfl⟩
  have hw : InW D w A s.heap H locs S := by rw [eH, elocs]; exact hw
  suffices hsu : W p l e (rmN 1) s m args below meth c H locs 0 0 (QI below args s D w A r S) (F0 m 0 ls []) by rw [eH, elocs] at hsu; exact hsu
  unfold m_X6_isLetter at h
  refine lv_iload_n hx hb dX6_isLetter_0 rfl (lv_at hl 0 rfl) ?_
  refine lv_iconst (v := 0) hx hb dX6_isLetter_1 (by decide) ?_
  refine lv_iconst (v := 5) hx hb dX6_isLetter_2 (by decide) ?_
  obtain ⟨v_2, hc_1, h⟩ := bd_at h
  refine caSI (As := [.int x0, .int (0 : Int32), .int (5 : Int32)]) (rest := []) hC hw hl.1 lm_RX6_83 li_RX6 lk_yX6_within ls_yX6_within 3 rfl hd_X6_within (by decide) (by decide) (Nat.le_of_ble_eq_true rfl) dX6_isLetter_3 (k_X6_within l D cy w S fu x0 (0 : Int32) (5 : Int32) _ hc_1) (fun H locs hw => ?_)
  obtain ⟨hz, h⟩ := gd_at h
  exact rtZ hC hr hk hw hz (so_at h) rfl dX6_isLetter_6
def m_J13_bitCount_95d88 (fu : Nat) (x0 : Int64) : Option Int32 :=
  nm ((x0 - (((x0).toUInt64 >>> (((1 : Int32)).toInt64.toUInt64 &&& Int64.toUInt64 63)).toInt64 &&& (6148914691236517205 : Int64)))) (fun x0_1 => nm (((x0_1 &&& (3689348814741910323 : Int64)) + (((x0_1).toUInt64 >>> (((2 : Int32)).toInt64.toUInt64 &&& Int64.toUInt64 63)).toInt64 &&& (3689348814741910323 : Int64)))) (fun x0_2 => nm (((x0_2 + ((x0_2).toUInt64 >>> (((4 : Int32)).toInt64.toUInt64 &&& Int64.toUInt64 63)).toInt64) &&& (1085102592571150095 : Int64))) (fun x0_3 => nm ((x0_3 + ((x0_3).toUInt64 >>> (((8 : Int32)).toInt64.toUInt64 &&& Int64.toUInt64 63)).toInt64)) (fun x0_4 => nm ((x0_4 + ((x0_4).toUInt64 >>> (((16 : Int32)).toInt64.toUInt64 &&& Int64.toUInt64 63)).toInt64)) (fun x0_5 => nm ((x0_5 + ((x0_5).toUInt64 >>> (((32 : Int32)).toInt64.toUInt64 &&& Int64.toUInt64 63)).toInt64)) (fun x0_6 => some (((x0_6).toInt32 &&& (127 : Int32)))))))))
set_option maxRecDepth 100000 in
set_option maxHeartbeats 4000000 in
theorem k_J13_bitCount_95d88 (l : Launch) (D : va_G) (cy : ClassId) (w : ST → va_W) (S : ST) (fu : Nat) (x0 : Int64) (r : Int32) (h : m_J13_bitCount_95d88 fu x0 = some r) : CtI l yJ13_bitCount_95d88 cJ13_bitCount_95d88 2 (some .int) 0 [.long x0] D cy w S r S := by
  refine CtI_of (by decide) (Nat.le_of_ble_eq_true rfl) ?_
  intro p e s m args below meth c A ls hC hr hk hw hl
  have hC : Cx p s m c RJ13 cJ13_bitCount_95d88 2 args D cy := hC
  have hx := hC.1
  have hb := hC.2.1
  have hl : lv_has ls 2 [(0, .long x0)] := hl
  obtain ⟨H, eH⟩ : ∃ z : Heap, z = s.heap := ⟨_, rfl⟩
  obtain ⟨locs, elocs⟩ : ∃ z : List Loc, z = [] := ⟨_, rfl⟩
  have hw : InW D w A s.heap H locs S := by rw [eH, elocs]; exact hw
  suffices hsu : W p l e (rmN 0) s m args below meth c H locs 0 0 (QI below args s D w A r S) (F0 m 0 ls []) by rw [eH, elocs] at hsu; exact hsu
  unfold m_J13_bitCount_95d88 at h
  refine lv_lload_n hx hb dJ13_bitCount_95d88_0 rfl (lv_at hl 0 rfl) ?_
  refine lv_lload_n hx hb dJ13_bitCount_95d88_1 rfl (lv_at hl 0 rfl) ?_
  refine lv_iconst (v := 1) hx hb dJ13_bitCount_95d88_2 (by decide) ?_
  refine lv_lushr hx hb dJ13_bitCount_95d88_3 rfl ?_
  refine lv_ldc2 hx hb hC.2.2.2.1 (hC.2.2.2.2.1 _ lc_RJ13_314) dJ13_bitCount_95d88_4 ?_
  refine lv_land hx hb dJ13_bitCount_95d88_7 ?_
  refine lv_lsub hx hb dJ13_bitCount_95d88_8 ?_
  refine lv_topl (fun x0_1 ex0_1 => ?_)
  have h := nm_at ex0_1 h
  refine lv_lstore_n (lv' := [(0, .long x0_1)]) hx hb dJ13_bitCount_95d88_9 rfl hl (by decide) rfl (fun ls hl => ?_)
  refine lv_lload_n hx hb dJ13_bitCount_95d88_10 rfl (lv_at hl 0 rfl) ?_
  refine lv_ldc2 hx hb hC.2.2.2.1 (hC.2.2.2.2.1 _ lc_RJ13_316) dJ13_bitCount_95d88_11 ?_
  refine lv_land hx hb dJ13_bitCount_95d88_14 ?_
  refine lv_lload_n hx hb dJ13_bitCount_95d88_15 rfl (lv_at hl 0 rfl) ?_
  refine lv_iconst (v := 2) hx hb dJ13_bitCount_95d88_16 (by decide) ?_
  refine lv_lushr hx hb dJ13_bitCount_95d88_17 rfl ?_
  refine lv_ldc2 hx hb hC.2.2.2.1 (hC.2.2.2.2.1 _ lc_RJ13_316) dJ13_bitCount_95d88_18 ?_
  refine lv_land hx hb dJ13_bitCount_95d88_21 ?_
  refine lv_ladd hx hb dJ13_bitCount_95d88_22 ?_
  refine lv_topl (fun x0_2 ex0_2 => ?_)
  have h := nm_at ex0_2 h
  refine lv_lstore_n (lv' := [(0, .long x0_2)]) hx hb dJ13_bitCount_95d88_23 rfl hl (by decide) rfl (fun ls hl => ?_)
  refine lv_lload_n hx hb dJ13_bitCount_95d88_24 rfl (lv_at hl 0 rfl) ?_
  refine lv_lload_n hx hb dJ13_bitCount_95d88_25 rfl (lv_at hl 0 rfl) ?_
  refine lv_iconst (v := 4) hx hb dJ13_bitCount_95d88_26 (by decide) ?_
  refine lv_lushr hx hb dJ13_bitCount_95d88_27 rfl ?_
  refine lv_ladd hx hb dJ13_bitCount_95d88_28 ?_
  refine lv_ldc2 hx hb hC.2.2.2.1 (hC.2.2.2.2.1 _ lc_RJ13_318) dJ13_bitCount_95d88_29 ?_
  refine lv_land hx hb dJ13_bitCount_95d88_32 ?_
  refine lv_topl (fun x0_3 ex0_3 => ?_)
  have h := nm_at ex0_3 h
  refine lv_lstore_n (lv' := [(0, .long x0_3)]) hx hb dJ13_bitCount_95d88_33 rfl hl (by decide) rfl (fun ls hl => ?_)
  refine lv_lload_n hx hb dJ13_bitCount_95d88_34 rfl (lv_at hl 0 rfl) ?_
  refine lv_lload_n hx hb dJ13_bitCount_95d88_35 rfl (lv_at hl 0 rfl) ?_
  refine lv_bipush (v := 8) hx hb dJ13_bitCount_95d88_36 (by decide) ?_
  refine lv_lushr hx hb dJ13_bitCount_95d88_38 rfl ?_
  refine lv_ladd hx hb dJ13_bitCount_95d88_39 ?_
  refine lv_topl (fun x0_4 ex0_4 => ?_)
  have h := nm_at ex0_4 h
  refine lv_lstore_n (lv' := [(0, .long x0_4)]) hx hb dJ13_bitCount_95d88_40 rfl hl (by decide) rfl (fun ls hl => ?_)
  refine lv_lload_n hx hb dJ13_bitCount_95d88_41 rfl (lv_at hl 0 rfl) ?_
  refine lv_lload_n hx hb dJ13_bitCount_95d88_42 rfl (lv_at hl 0 rfl) ?_
  refine lv_bipush (v := 16) hx hb dJ13_bitCount_95d88_43 (by decide) ?_
  refine lv_lushr hx hb dJ13_bitCount_95d88_45 rfl ?_
  refine lv_ladd hx hb dJ13_bitCount_95d88_46 ?_
  refine lv_topl (fun x0_5 ex0_5 => ?_)
  have h := nm_at ex0_5 h
  refine lv_lstore_n (lv' := [(0, .long x0_5)]) hx hb dJ13_bitCount_95d88_47 rfl hl (by decide) rfl (fun ls hl => ?_)
  refine lv_lload_n hx hb dJ13_bitCount_95d88_48 rfl (lv_at hl 0 rfl) ?_
  refine lv_lload_n hx hb dJ13_bitCount_95d88_49 rfl (lv_at hl 0 rfl) ?_
  refine lv_bipush (v := 32) hx hb dJ13_bitCount_95d88_50 (by decide) ?_
  refine lv_lushr hx hb dJ13_bitCount_95d88_52 rfl ?_
  refine lv_ladd hx hb dJ13_bitCount_95d88_53 ?_
  refine lv_topl (fun x0_6 ex0_6 => ?_)
  have h := nm_at ex0_6 h
  refine lv_lstore_n (lv' := [(0, .long x0_6)]) hx hb dJ13_bitCount_95d88_54 rfl hl (by decide) rfl (fun ls hl => ?_)
  refine lv_lload_n hx hb dJ13_bitCount_95d88_55 rfl (lv_at hl 0 rfl) ?_
  refine lv_l2i hx hb dJ13_bitCount_95d88_56 rfl ?_
  refine lv_bipush (v := 127) hx hb dJ13_bitCount_95d88_57 (by decide) ?_
  refine lv_iand hx hb dJ13_bitCount_95d88_59 ?_
  exact rtI hC hr hk hw (so_at h) rfl dJ13_bitCount_95d88_60
def m_X5_fullness (fu : Nat) (x0 : Int64) (x2 : Int32) : Option Int32 :=
  bd (m_J13_bitCount_95d88 fu ((x0 &&& ((4311810305 : Int64) <<< ((x2).toInt64 &&& (63 : Int64)))))) (fun v_2 => some v_2)
set_option maxRecDepth 100000 in
set_option maxHeartbeats 4000000 in
theorem k_X5_fullness (l : Launch) (D : va_G) (cy : ClassId) (w : ST → va_W) (S : ST) (fu : Nat) (x0 : Int64) (x2 : Int32) (r : Int32) (h : m_X5_fullness fu x0 x2 = some r) : CtI l yX5_fullness cX5_fullness 3 (some .int) 1 [.long x0, .int x2] D cy w S r S := by
  refine CtI_of (by decide) (Nat.le_of_ble_eq_true rfl) ?_
  intro p e s m args below meth c A ls hC hr hk hw hl
  have hC : Cx p s m c RX5 cX5_fullness 3 args D cy := hC
  have hx := hC.1
  have hb := hC.2.1
  have hl : lv_has ls 3 [(0, .long x0), (2, .int x2)] := hl
  obtain ⟨H, eH⟩ : ∃ z : Heap, z = s.heap := ⟨_, rfl⟩
  obtain ⟨locs, elocs⟩ : ∃ z : List Loc, z = [] := ⟨_, rfl⟩
  have hw : InW D w A s.heap H locs S := by rw [eH, elocs]; exact hw
  suffices hsu : W p l e (rmN 1) s m args below meth c H locs 0 0 (QI below args s D w A r S) (F0 m 0 ls []) by rw [eH, elocs] at hsu; exact hsu
  unfold m_X5_fullness at h
  refine lv_lload_n hx hb dX5_fullness_0 rfl (lv_at hl 0 rfl) ?_
  refine lv_ldc2 hx hb hC.2.2.2.1 (hC.2.2.2.2.1 _ lc_RX5_19) dX5_fullness_1 ?_
  refine lv_iload_n hx hb dX5_fullness_4 rfl (lv_at hl 1 rfl) ?_
  refine lv_lshl hx hb dX5_fullness_5 rfl ?_
  refine lv_land hx hb dX5_fullness_6 ?_
  obtain ⟨v_2, hc_1, h⟩ := bd_at h
  refine caSI (As := [.long (x0 &&& ((4311810305 : Int64) <<< ((x2).toInt64 &&& (63 : Int64))))]) (rest := []) hC hw hl.1 lm_RX5_21 li_RJ13 lk_yJ13_bitCount_95d88 ls_yJ13_bitCount_95d88 1 rfl hd_J13_bitCount_95d88 (by decide) (by decide) (Nat.le_of_ble_eq_true rfl) dX5_fullness_7 (k_J13_bitCount_95d88 l D cy w S fu ((x0 &&& ((4311810305 : Int64) <<< ((x2).toInt64 &&& (63 : Int64))))) _ hc_1) (fun H locs hw => ?_)
  exact rtI hC hr hk hw (so_at h) rfl dX5_fullness_10
def m_X2_isKind (fu : Nat) (x0 : Int32) : Option Int32 :=
  bd (m_X6_within fu x0 (0 : Int32) (4 : Int32)) (fun v_2 => gd (zB v_2) (some v_2))
set_option maxRecDepth 100000 in
set_option maxHeartbeats 4000000 in
theorem k_X2_isKind (l : Launch) (D : va_G) (cy : ClassId) (w : ST → va_W) (S : ST) (fu : Nat) (x0 : Int32) (r : Int32) (h : m_X2_isKind fu x0 = some r) : CtI l yX2_isKind cX2_isKind 1 (some .boolean) 1 [.int x0] D cy w S r S := by
  refine CtI_of (by decide) (Nat.le_of_ble_eq_true rfl) ?_
  intro p e s m args below meth c A ls hC hr hk hw hl
  have hC : Cx p s m c RX2 cX2_isKind 1 args D cy := hC
  have hx := hC.1
  have hb := hC.2.1
  have hl : lv_has ls 1 [(0, .int x0)] := hl
  obtain ⟨H, eH⟩ : ∃ z : Heap, z = s.heap := ⟨_, rfl⟩
  obtain ⟨locs, elocs⟩ : ∃ z : List Loc, z = [] := ⟨_, rfl⟩
  have hw : InW D w A s.heap H locs S := by rw [eH, elocs]; exact hw
  suffices hsu : W p l e (rmN 1) s m args below meth c H locs 0 0 (QI below args s D w A r S) (F0 m 0 ls []) by rw [eH, elocs] at hsu; exact hsu
  unfold m_X2_isKind at h
  refine lv_iload_n hx hb dX2_isKind_0 rfl (lv_at hl 0 rfl) ?_
  refine lv_iconst (v := 0) hx hb dX2_isKind_1 (by decide) ?_
  refine lv_iconst (v := 4) hx hb dX2_isKind_2 (by decide) ?_
  obtain ⟨v_2, hc_1, h⟩ := bd_at h
  refine caSNI (As := [.int x0, .int (0 : Int32), .int (4 : Int32)]) (rest := []) hC hw hl.1 lm_RX2_11 li_RX6 lk_yX6_within ls_yX6_within 3 rfl hd_X6_within (by decide) (by decide) (Nat.le_of_ble_eq_true rfl) dX2_isKind_3 (k_X6_within l D cy w S fu x0 (0 : Int32) (4 : Int32) _ hc_1) (fun H locs hw => ?_)
  obtain ⟨hz, h⟩ := gd_at h
  exact rtZ hC hr hk hw hz (so_at h) rfl dX2_isKind_6
def m_X5_turned (fu : Nat) (x0 : Int64) (x2 : Int32) (x3 : Int32) : Option Int64 :=
  some ((x0 ^^^ ((1 : Int64) <<< ((((x2 * (8 : Int32)) + x3)).toInt64 &&& (63 : Int64)))))
set_option maxRecDepth 100000 in
set_option maxHeartbeats 4000000 in
theorem k_X5_turned (l : Launch) (D : va_G) (cy : ClassId) (w : ST → va_W) (S : ST) (fu : Nat) (x0 : Int64) (x2 : Int32) (x3 : Int32) (r : Int64) (h : m_X5_turned fu x0 x2 x3 = some r) : CtL l yX5_turned cX5_turned 4 (some .long) 0 [.long x0, .int x2, .int x3] D cy w S r S := by
  refine CtL_of (by decide) (Nat.le_of_ble_eq_true rfl) ?_
  intro p e s m args below meth c A ls hC hr hk hw hl
  have hC : Cx p s m c RX5 cX5_turned 4 args D cy := hC
  have hx := hC.1
  have hb := hC.2.1
  have hl : lv_has ls 4 [(0, .long x0), (2, .int x2), (3, .int x3)] := hl
  obtain ⟨H, eH⟩ : ∃ z : Heap, z = s.heap := ⟨_, rfl⟩
  obtain ⟨locs, elocs⟩ : ∃ z : List Loc, z = [] := ⟨_, rfl⟩
  have hw : InW D w A s.heap H locs S := by rw [eH, elocs]; exact hw
  suffices hsu : W p l e (rmN 0) s m args below meth c H locs 0 0 (QL below args s D w A r S) (F0 m 0 ls []) by rw [eH, elocs] at hsu; exact hsu
  unfold m_X5_turned at h
  refine lv_lload_n hx hb dX5_turned_0 rfl (lv_at hl 0 rfl) ?_
  refine lv_lconst (v := 1) hx hb dX5_turned_1 (by decide) ?_
  refine lv_iload_n hx hb dX5_turned_2 rfl (lv_at hl 1 rfl) ?_
  refine lv_bipush (v := 8) hx hb dX5_turned_3 (by decide) ?_
  refine lv_imul hx hb dX5_turned_5 ?_
  refine lv_iload_n hx hb dX5_turned_6 rfl (lv_at hl 2 rfl) ?_
  refine lv_iadd hx hb dX5_turned_7 ?_
  refine lv_lshl hx hb dX5_turned_8 rfl ?_
  refine lv_lxor hx hb dX5_turned_9 ?_
  exact rtL hC hr hk hw (so_at h) rfl dX5_turned_10
def m_X5_leavesOf (fu : Nat) (x0 : Int64) (x2 : Int32) : Option Int32 :=
  some (((((x0).toUInt64 >>> (((x2 * (8 : Int32))).toInt64.toUInt64 &&& Int64.toUInt64 63)).toInt64).toInt32 &&& (63 : Int32)))
set_option maxRecDepth 100000 in
set_option maxHeartbeats 4000000 in
theorem k_X5_leavesOf (l : Launch) (D : va_G) (cy : ClassId) (w : ST → va_W) (S : ST) (fu : Nat) (x0 : Int64) (x2 : Int32) (r : Int32) (h : m_X5_leavesOf fu x0 x2 = some r) : CtI l yX5_leavesOf cX5_leavesOf 3 (some .int) 0 [.long x0, .int x2] D cy w S r S := by
  refine CtI_of (by decide) (Nat.le_of_ble_eq_true rfl) ?_
  intro p e s m args below meth c A ls hC hr hk hw hl
  have hC : Cx p s m c RX5 cX5_leavesOf 3 args D cy := hC
  have hx := hC.1
  have hb := hC.2.1
  have hl : lv_has ls 3 [(0, .long x0), (2, .int x2)] := hl
  obtain ⟨H, eH⟩ : ∃ z : Heap, z = s.heap := ⟨_, rfl⟩
  obtain ⟨locs, elocs⟩ : ∃ z : List Loc, z = [] := ⟨_, rfl⟩
  have hw : InW D w A s.heap H locs S := by rw [eH, elocs]; exact hw
  suffices hsu : W p l e (rmN 0) s m args below meth c H locs 0 0 (QI below args s D w A r S) (F0 m 0 ls []) by rw [eH, elocs] at hsu; exact hsu
  unfold m_X5_leavesOf at h
  refine lv_lload_n hx hb dX5_leavesOf_0 rfl (lv_at hl 0 rfl) ?_
  refine lv_iload_n hx hb dX5_leavesOf_1 rfl (lv_at hl 1 rfl) ?_
  refine lv_bipush (v := 8) hx hb dX5_leavesOf_2 (by decide) ?_
  refine lv_imul hx hb dX5_leavesOf_4 ?_
  refine lv_lushr hx hb dX5_leavesOf_5 rfl ?_
  refine lv_l2i hx hb dX5_leavesOf_6 rfl ?_
  refine lv_bipush (v := 63) hx hb dX5_leavesOf_7 (by decide) ?_
  refine lv_iand hx hb dX5_leavesOf_9 ?_
  exact rtI hC hr hk hw (so_at h) rfl dX5_leavesOf_10
def m_X5_keptOf (fu : Nat) (x0 : Int64) (x2 : Int32) : Option Int32 :=
  some (((((x0).toUInt64 >>> ((((x2 * (8 : Int32)) + (6 : Int32))).toInt64.toUInt64 &&& Int64.toUInt64 63)).toInt64).toInt32 &&& (3 : Int32)))
set_option maxRecDepth 100000 in
set_option maxHeartbeats 4000000 in
theorem k_X5_keptOf (l : Launch) (D : va_G) (cy : ClassId) (w : ST → va_W) (S : ST) (fu : Nat) (x0 : Int64) (x2 : Int32) (r : Int32) (h : m_X5_keptOf fu x0 x2 = some r) : CtI l yX5_keptOf cX5_keptOf 3 (some .int) 0 [.long x0, .int x2] D cy w S r S := by
  refine CtI_of (by decide) (Nat.le_of_ble_eq_true rfl) ?_
  intro p e s m args below meth c A ls hC hr hk hw hl
  have hC : Cx p s m c RX5 cX5_keptOf 3 args D cy := hC
  have hx := hC.1
  have hb := hC.2.1
  have hl : lv_has ls 3 [(0, .long x0), (2, .int x2)] := hl
  obtain ⟨H, eH⟩ : ∃ z : Heap, z = s.heap := ⟨_, rfl⟩
  obtain ⟨locs, elocs⟩ : ∃ z : List Loc, z = [] := ⟨_, rfl⟩
  have hw : InW D w A s.heap H locs S := by rw [eH, elocs]; exact hw
  suffices hsu : W p l e (rmN 0) s m args below meth c H locs 0 0 (QI below args s D w A r S) (F0 m 0 ls []) by rw [eH, elocs] at hsu; exact hsu
  unfold m_X5_keptOf at h
  refine lv_lload_n hx hb dX5_keptOf_0 rfl (lv_at hl 0 rfl) ?_
  refine lv_iload_n hx hb dX5_keptOf_1 rfl (lv_at hl 1 rfl) ?_
  refine lv_bipush (v := 8) hx hb dX5_keptOf_2 (by decide) ?_
  refine lv_imul hx hb dX5_keptOf_4 ?_
  refine lv_bipush (v := 6) hx hb dX5_keptOf_5 (by decide) ?_
  refine lv_iadd hx hb dX5_keptOf_7 ?_
  refine lv_lushr hx hb dX5_keptOf_8 rfl ?_
  refine lv_l2i hx hb dX5_keptOf_9 rfl ?_
  refine lv_iconst (v := 3) hx hb dX5_keptOf_10 (by decide) ?_
  refine lv_iand hx hb dX5_keptOf_11 ?_
  exact rtI hC hr hk hw (so_at h) rfl dX5_keptOf_12
