def m_X7_in (fu : Nat) (x0 : Int64) (x2 : Int64) (x4 : Int64) : Option Int32 :=
  (if (lg_cmp x0 x2) < (0 : Int32) then some (0 : Int32) else (if (0 : Int32) < (lg_cmp x0 x4) then some (0 : Int32) else some (1 : Int32)))
set_option maxRecDepth 100000 in
set_option maxHeartbeats 4000000 in
theorem k_X7_in (l : Launch) (D : va_G) (cy : ClassId) (w : ST → va_W) (S : ST) (fu : Nat) (x0 : Int64) (x2 : Int64) (x4 : Int64) (r : Int32) (h : m_X7_in fu x0 x2 x4 = some r) : CtI l yX7_in cX7_in 6 (some .boolean) 0 [.long x0, .long x2, .long x4] D cy w S r S := by
  refine CtI_of (by decide) (Nat.le_of_ble_eq_true rfl) ?_
  intro p e s m args below meth c A ls hC hr hk hw hl
  have hC : Cx p s m c RX7 cX7_in 6 args D cy := hC
  have hx := hC.1
  have hb := hC.2.1
  have hl : lv_has ls 6 [(0, .long x0), (2, .long x2), (4, .long x4)] := hl
  obtain ⟨H, eH⟩ : ∃ z : Heap, z = s.heap := ⟨_, rfl⟩
  obtain ⟨locs, elocs⟩ : ∃ z : List Loc, z = [] := ⟨_, rfl⟩
  have hw : InW D w A s.heap H locs S := by rw [eH, elocs]; exact hw
  suffices hsu : W p l e (rmN 0) s m args below meth c H locs 0 0 (QI below args s D w A r S) (F0 m 0 ls []) by rw [eH, elocs] at hsu; exact hsu
  unfold m_X7_in at h
  refine lv_lload_n hx hb dX7_in_0 rfl (lv_at hl 0 rfl) ?_
  refine lv_lload_n hx hb dX7_in_1 rfl (lv_at hl 1 rfl) ?_
  refine W.lcmp hx hb dX7_in_2 ?_
  refine lv_if_lt (tgt := 17) hx hb dX7_in_3 (by decide) (fun c_1 => ?_) (fun c_1 => ?_)
  · have h := if_at_t c_1 h
    refine lv_iconst (v := 0) hx hb dX7_in_17 (by decide) ?_
    exact rtZ hC hr hk hw rfl (so_at h) rfl dX7_in_18
  · have h := if_at_f c_1 h
    refine lv_lload_n hx hb dX7_in_6 rfl (lv_at hl 0 rfl) ?_
    refine lv_lload hx hb dX7_in_7 (lv_at hl 2 rfl) ?_
    refine W.lcmp hx hb dX7_in_9 ?_
    refine lv_if_gt (tgt := 17) hx hb dX7_in_10 (by decide) (fun c_2 => ?_) (fun c_2 => ?_)
    · have h := if_at_t c_2 h
      refine lv_iconst (v := 0) hx hb dX7_in_17 (by decide) ?_
      exact rtZ hC hr hk hw rfl (so_at h) rfl dX7_in_18
    · have h := if_at_f c_2 h
      refine lv_iconst (v := 1) hx hb dX7_in_13 (by decide) ?_
      refine lv_goto (tgt := 18) hx hb dX7_in_14 (by decide) ?_
      exact rtZ hC hr hk hw rfl (so_at h) rfl dX7_in_18
def m_X7_letter (fu : Nat) (x1 : Int32) (S : ST) : Option (Int32 × ST) :=
  bd (m_X7_in fu ((x1).toInt64) (1 : Int64) (126 : Int64)) (fun v_2 => (if v_2 = (0 : Int32) then some ((-102 : Int32), S) else (if (stI S 0) = (10 : Int32) then some ((-104 : Int32), S) else gd (inB ((stI S 0)) 10) (nm (wrA S 0 ((stI S 0)) x1) (fun S_5 => nm (puI S_5 0 (((stI S_5 0) + (1 : Int32)))) (fun S_6 => some ((stI S_6 0), S_6)))))))
set_option maxRecDepth 100000 in
set_option maxHeartbeats 4000000 in
theorem k_X7_letter (l : Launch) (D : va_G) (cy : ClassId) (a : Nat → Nat) (fu : Nat) (x1 : Int32) (S : ST) (r : Int32) (S' : ST) (h : m_X7_letter fu x1 S = some (r, S')) : CtI l yX7_letter cX7_letter 2 (some .int) 1 [.ref (a 0), .int x1] D cy (wM cy a) S r S' := by
  refine CtI_of (by decide) (Nat.le_of_ble_eq_true rfl) ?_
  intro p e s m args below meth c A ls hC hr hk hw hl
  have hC : Cx p s m c RX7 cX7_letter 2 args D cy := hC
  have hx := hC.1
  have hb := hC.2.1
  have hl : lv_has ls 2 [(0, .ref (a 0)), (1, .int x1)] := hl
  obtain ⟨H, eH⟩ : ∃ z : Heap, z = s.heap := ⟨_, rfl⟩
  obtain ⟨locs, elocs⟩ : ∃ z : List Loc, z = [] := ⟨_, rfl⟩
  have hw : InW D (wM cy a) A s.heap H locs S := by rw [eH, elocs]; exact hw
  suffices hsu : W p l e (rmN 1) s m args below meth c H locs 0 0 (QI below args s D (wM cy a) A r S') (F0 m 0 ls []) by rw [eH, elocs] at hsu; exact hsu
  unfold m_X7_letter at h
  refine lv_iload_n hx hb dX7_letter_0 rfl (lv_at hl 1 rfl) ?_
  refine lv_i2l hx hb dX7_letter_1 rfl ?_
  refine lv_lconst (v := 1) hx hb dX7_letter_2 (by decide) ?_
  refine lv_ldc2 hx hb hC.2.2.2.1 (hC.2.2.2.2.1 _ lc_RX7_59) dX7_letter_3 ?_
  obtain ⟨v_2, hc_1, h⟩ := bd_at h
  refine caSI (As := [.long (x1).toInt64, .long (1 : Int64), .long (126 : Int64)]) (rest := []) hC hw hl.1 lm_RX7_61 li_RX7 lk_yX7_in ls_yX7_in 3 rfl hd_X7_in (by decide) (by decide) (Nat.le_of_ble_eq_true rfl) dX7_letter_6 (k_X7_in l D cy (wM cy a) S fu ((x1).toInt64) (1 : Int64) (126 : Int64) _ hc_1) (fun H locs hw => ?_)
  refine lv_if_ne (tgt := 15) hx hb dX7_letter_9 (by decide) (fun c_3 => ?_) (fun c_3 => ?_)
  · have h := if_at_f c_3 h
    refine lv_aload_n hx hb dX7_letter_15 rfl (lv_at hl 0 rfl) ?_
    refine gf (v := .int (stI S 0)) hC hw in_X7 0 5 1 (cM_0 cy a S) rfl (by decide) lf_RX7_65 rfl rfl dX7_letter_16 ?_
    refine lv_bipush (v := 10) hx hb dX7_letter_19 (by decide) ?_
    refine lv_icmp_ne (tgt := 27) hx hb dX7_letter_21 (by decide) (fun c_4 => ?_) (fun c_4 => ?_)
    · have h := if_at_f c_4 h
      refine lv_aload_n hx hb dX7_letter_27 rfl (lv_at hl 0 rfl) ?_
      refine gf (v := .ref (a 1)) hC hw in_X7 0 5 0 (cM_0 cy a S) rfl (by decide) lf_RX7_7 rfl rfl dX7_letter_28 ?_
      refine lv_aload_n hx hb dX7_letter_31 rfl (lv_at hl 0 rfl) ?_
      refine gf (v := .int (stI S 0)) hC hw in_X7 0 5 1 (cM_0 cy a S) rfl (by decide) lf_RX7_65 rfl rfl dX7_letter_32 ?_
      refine lv_iload_n hx hb dX7_letter_35 rfl (lv_at hl 1 rfl) ?_
      obtain ⟨hi, h⟩ := gd_at h
      refine pa hC hw 1 (cM_1 cy a S) hi (rM_1 cy a S) dX7_letter_36 (fun H locs hw => ?_)
      obtain ⟨S_5, hw, h⟩ := nmw (P := fun z => InW D (wM cy a) A s.heap H locs z) hw h
      refine lv_aload_n hx hb dX7_letter_37 rfl (lv_at hl 0 rfl) ?_
      refine lv_dup hx hb dX7_letter_38 rfl ?_
      refine gf (v := .int (stI S_5 0)) hC hw in_X7 0 5 1 (cM_0 cy a S_5) rfl (by decide) lf_RX7_65 rfl rfl dX7_letter_39 ?_
      refine lv_iconst (v := 1) hx hb dX7_letter_42 (by decide) ?_
      refine lv_iadd hx hb dX7_letter_43 ?_
      refine pf (ty := .int) (v := .int (((stI S_5 0) + (1 : Int32)))) hC hw in_X7 tyX7_ok nmX7 0 5 1 (cM_0 cy a S_5) rfl (by decide) lf_RX7_65 rfl rfl (by decide +kernel) rfl rfl (Nat.le_of_ble_eq_true rfl) (sM_1 cy a S_5 (((stI S_5 0) + (1 : Int32)))) dX7_letter_44 (fun H locs hw => ?_)
      obtain ⟨S_6, hw, h⟩ := nmw (P := fun z => InW D (wM cy a) A s.heap H locs z) hw h
      refine lv_aload_n hx hb dX7_letter_47 rfl (lv_at hl 0 rfl) ?_
      refine gf (v := .int (stI S_6 0)) hC hw in_X7 0 5 1 (cM_0 cy a S_6) rfl (by decide) lf_RX7_65 rfl rfl dX7_letter_48 ?_
      exact rtI hC hr hk hw (so_at2 h).1 (so_at2 h).2 dX7_letter_51
    · have h := if_at_t c_4 h
      refine lv_bipush (v := -104) hx hb dX7_letter_24 (by decide) ?_
      exact rtI hC hr hk hw (so_at2 h).1 (so_at2 h).2 dX7_letter_26
  · have h := if_at_t c_3 h
    refine lv_bipush (v := -102) hx hb dX7_letter_12 (by decide) ?_
    exact rtI hC hr hk hw (so_at2 h).1 (so_at2 h).2 dX7_letter_14
def m_X7_blank (fu : Nat) (S : ST) : Option (Int32 × ST) :=
  nm ((stI S 0)) (fun x1_1 => nm (puI S 0 (0 : Int32)) (fun S_2 => some (x1_1, S_2)))
set_option maxRecDepth 100000 in
set_option maxHeartbeats 4000000 in
theorem k_X7_blank (l : Launch) (D : va_G) (cy : ClassId) (a : Nat → Nat) (fu : Nat) (S : ST) (r : Int32) (S' : ST) (h : m_X7_blank fu S = some (r, S')) : CtI l yX7_blank cX7_blank 2 (some .int) 0 [.ref (a 0)] D cy (wM cy a) S r S' := by
  refine CtI_of (by decide) (Nat.le_of_ble_eq_true rfl) ?_
  intro p e s m args below meth c A ls hC hr hk hw hl
  have hC : Cx p s m c RX7 cX7_blank 2 args D cy := hC
  have hx := hC.1
  have hb := hC.2.1
  have hl : lv_has ls 2 [(0, .ref (a 0))] := hl
  obtain ⟨H, eH⟩ : ∃ z : Heap, z = s.heap := ⟨_, rfl⟩
  obtain ⟨locs, elocs⟩ : ∃ z : List Loc, z = [] := ⟨_, rfl⟩
  have hw : InW D (wM cy a) A s.heap H locs S := by rw [eH, elocs]; exact hw
  suffices hsu : W p l e (rmN 0) s m args below meth c H locs 0 0 (QI below args s D (wM cy a) A r S') (F0 m 0 ls []) by rw [eH, elocs] at hsu; exact hsu
  unfold m_X7_blank at h
  refine lv_aload_n hx hb dX7_blank_0 rfl (lv_at hl 0 rfl) ?_
  refine gf (v := .int (stI S 0)) hC hw in_X7 0 5 1 (cM_0 cy a S) rfl (by decide) lf_RX7_65 rfl rfl dX7_blank_1 ?_
  refine lv_topi (fun x1_1 ex1_1 => ?_)
  have h := nm_at ex1_1 h
  refine lv_istore_n (lv' := [(1, .int x1_1), (0, .ref (a 0))]) hx hb dX7_blank_4 rfl hl (by decide) rfl (fun ls hl => ?_)
  refine lv_aload_n hx hb dX7_blank_5 rfl (lv_at hl 1 rfl) ?_
  refine lv_iconst (v := 0) hx hb dX7_blank_6 (by decide) ?_
  refine pf (ty := .int) (v := .int (0 : Int32)) hC hw in_X7 tyX7_ok nmX7 0 5 1 (cM_0 cy a S) rfl (by decide) lf_RX7_65 rfl rfl (by decide +kernel) rfl rfl (Nat.le_of_ble_eq_true rfl) (sM_1 cy a S (0 : Int32)) dX7_blank_7 (fun H locs hw => ?_)
  obtain ⟨S_2, hw, h⟩ := nmw (P := fun z => InW D (wM cy a) A s.heap H locs z) hw h
  refine lv_iload_n hx hb dX7_blank_10 rfl (lv_at hl 0 rfl) ?_
  exact rtI hC hr hk hw (so_at2 h).1 (so_at2 h).2 dX7_blank_11
def m_X7_isGood (fu : Nat) (x0 : Int32) (x1 : Int32) (x2 : Int32) : Option Int32 :=
  nm ((x1 - (48 : Int32))) (fun x3_1 => (if (6 : Int32) ≤ x0 then (if x0 = (6 : Int32) then (if x1 = (59 : Int32) then some (1 : Int32) else some (0 : Int32)) else (if x0 = (7 : Int32) then bd (m_X7_in fu ((x3_1).toInt64) (1 : Int64) (9 : Int64)) (fun v_6 => (if v_6 = (0 : Int32) then some (0 : Int32) else some (1 : Int32))) else some (0 : Int32))) else bd (m_X7_in fu ((x3_1).toInt64) (0 : Int64) (9 : Int64)) (fun v_10 => (if v_10 = (0 : Int32) then some (0 : Int32) else (if (10 : Int32) < (x2 + x3_1) then some (0 : Int32) else (if x0 < (5 : Int32) then some (1 : Int32) else (if (x2 + x3_1) = (10 : Int32) then some (1 : Int32) else some (0 : Int32))))))))
set_option maxRecDepth 100000 in
set_option maxHeartbeats 4000000 in
theorem k_X7_isGood (l : Launch) (D : va_G) (cy : ClassId) (w : ST → va_W) (S : ST) (fu : Nat) (x0 : Int32) (x1 : Int32) (x2 : Int32) (r : Int32) (h : m_X7_isGood fu x0 x1 x2 = some r) : CtI l yX7_isGood cX7_isGood 4 (some .boolean) 1 [.int x0, .int x1, .int x2] D cy w S r S := by
  refine CtI_of (by decide) (Nat.le_of_ble_eq_true rfl) ?_
  intro p e s m args below meth c A ls hC hr hk hw hl
  have hC : Cx p s m c RX7 cX7_isGood 4 args D cy := hC
  have hx := hC.1
  have hb := hC.2.1
  have hl : lv_has ls 4 [(0, .int x0), (1, .int x1), (2, .int x2)] := hl
  obtain ⟨H, eH⟩ : ∃ z : Heap, z = s.heap := ⟨_, rfl⟩
  obtain ⟨locs, elocs⟩ : ∃ z : List Loc, z = [] := ⟨_, rfl⟩
  have hw : InW D w A s.heap H locs S := by rw [eH, elocs]; exact hw
  suffices hsu : W p l e (rmN 1) s m args below meth c H locs 0 0 (QI below args s D w A r S) (F0 m 0 ls []) by rw [eH, elocs] at hsu; exact hsu
  unfold m_X7_isGood at h
  refine lv_iload_n hx hb dX7_isGood_0 rfl (lv_at hl 1 rfl) ?_
  refine lv_bipush (v := 48) hx hb dX7_isGood_1 (by decide) ?_
  refine lv_isub hx hb dX7_isGood_3 ?_
  refine lv_topi (fun x3_1 ex3_1 => ?_)
  have h := nm_at ex3_1 h
  refine lv_istore_n (lv' := [(3, .int x3_1), (0, .int x0), (1, .int x1), (2, .int x2)]) hx hb dX7_isGood_4 rfl hl (by decide) rfl (fun ls hl => ?_)
  refine lv_iload_n hx hb dX7_isGood_5 rfl (lv_at hl 1 rfl) ?_
  refine lv_bipush (v := 6) hx hb dX7_isGood_6 (by decide) ?_
  refine lv_icmp_ge (tgt := 50) hx hb dX7_isGood_8 (by decide) (fun c_2 => ?_) (fun c_2 => ?_)
  · have h := if_at_t c_2 h
    refine lv_iload_n hx hb dX7_isGood_50 rfl (lv_at hl 1 rfl) ?_
    refine lv_bipush (v := 6) hx hb dX7_isGood_51 (by decide) ?_
    refine lv_icmp_ne (tgt := 70) hx hb dX7_isGood_53 (by decide) (fun c_3 => ?_) (fun c_3 => ?_)
    · have h := if_at_f c_3 h
      refine lv_iload_n hx hb dX7_isGood_70 rfl (lv_at hl 1 rfl) ?_
      refine lv_bipush (v := 7) hx hb dX7_isGood_71 (by decide) ?_
      refine lv_icmp_ne (tgt := 92) hx hb dX7_isGood_73 (by decide) (fun c_4 => ?_) (fun c_4 => ?_)
      · have h := if_at_f c_4 h
        refine lv_iconst (v := 0) hx hb dX7_isGood_92 (by decide) ?_
        exact rtZ hC hr hk hw rfl (so_at h) rfl dX7_isGood_93
      · have h := if_at_t c_4 h
        refine lv_iload_n hx hb dX7_isGood_76 rfl (lv_at hl 0 rfl) ?_
        refine lv_i2l hx hb dX7_isGood_77 rfl ?_
        refine lv_lconst (v := 1) hx hb dX7_isGood_78 (by decide) ?_
        refine lv_ldc2 hx hb hC.2.2.2.1 (hC.2.2.2.2.1 _ lc_RX7_68) dX7_isGood_79 ?_
        obtain ⟨v_6, hc_5, h⟩ := bd_at h
        refine caSI (As := [.long (x3_1).toInt64, .long (1 : Int64), .long (9 : Int64)]) (rest := []) hC hw hl.1 lm_RX7_61 li_RX7 lk_yX7_in ls_yX7_in 3 rfl hd_X7_in (by decide) (by decide) (Nat.le_of_ble_eq_true rfl) dX7_isGood_82 (k_X7_in l D cy w S fu ((x3_1).toInt64) (1 : Int64) (9 : Int64) _ hc_5) (fun H locs hw => ?_)
        refine lv_if_eq (tgt := 92) hx hb dX7_isGood_85 (by decide) (fun c_7 => ?_) (fun c_7 => ?_)
        · have h := if_at_t c_7 h
          refine lv_iconst (v := 0) hx hb dX7_isGood_92 (by decide) ?_
          exact rtZ hC hr hk hw rfl (so_at h) rfl dX7_isGood_93
        · have h := if_at_f c_7 h
          refine lv_iconst (v := 1) hx hb dX7_isGood_88 (by decide) ?_
          refine lv_goto (tgt := 93) hx hb dX7_isGood_89 (by decide) ?_
          exact rtZ hC hr hk hw rfl (so_at h) rfl dX7_isGood_93
    · have h := if_at_t c_3 h
      refine lv_iload_n hx hb dX7_isGood_56 rfl (lv_at hl 2 rfl) ?_
      refine lv_bipush (v := 59) hx hb dX7_isGood_57 (by decide) ?_
      refine lv_icmp_ne (tgt := 66) hx hb dX7_isGood_59 (by decide) (fun c_8 => ?_) (fun c_8 => ?_)
      · have h := if_at_f c_8 h
        refine lv_iconst (v := 0) hx hb dX7_isGood_66 (by decide) ?_
        refine lv_goto (tgt := 93) hx hb dX7_isGood_67 (by decide) ?_
        exact rtZ hC hr hk hw rfl (so_at h) rfl dX7_isGood_93
      · have h := if_at_t c_8 h
        refine lv_iconst (v := 1) hx hb dX7_isGood_62 (by decide) ?_
        refine lv_goto (tgt := 93) hx hb dX7_isGood_63 (by decide) ?_
        exact rtZ hC hr hk hw rfl (so_at h) rfl dX7_isGood_93
  · have h := if_at_f c_2 h
    refine lv_iload_n hx hb dX7_isGood_11 rfl (lv_at hl 0 rfl) ?_
    refine lv_i2l hx hb dX7_isGood_12 rfl ?_
    refine lv_lconst (v := 0) hx hb dX7_isGood_13 (by decide) ?_
    refine lv_ldc2 hx hb hC.2.2.2.1 (hC.2.2.2.2.1 _ lc_RX7_68) dX7_isGood_14 ?_
    obtain ⟨v_10, hc_9, h⟩ := bd_at h
    refine caSI (As := [.long (x3_1).toInt64, .long (0 : Int64), .long (9 : Int64)]) (rest := []) hC hw hl.1 lm_RX7_61 li_RX7 lk_yX7_in ls_yX7_in 3 rfl hd_X7_in (by decide) (by decide) (Nat.le_of_ble_eq_true rfl) dX7_isGood_17 (k_X7_in l D cy w S fu ((x3_1).toInt64) (0 : Int64) (9 : Int64) _ hc_9) (fun H locs hw => ?_)
    refine lv_if_eq (tgt := 48) hx hb dX7_isGood_20 (by decide) (fun c_11 => ?_) (fun c_11 => ?_)
    · have h := if_at_t c_11 h
      refine lv_iconst (v := 0) hx hb dX7_isGood_48 (by decide) ?_
      exact rtZ hC hr hk hw rfl (so_at h) rfl dX7_isGood_49
    · have h := if_at_f c_11 h
      refine lv_iload_n hx hb dX7_isGood_23 rfl (lv_at hl 3 rfl) ?_
      refine lv_iload_n hx hb dX7_isGood_24 rfl (lv_at hl 0 rfl) ?_
      refine lv_iadd hx hb dX7_isGood_25 ?_
      refine lv_bipush (v := 10) hx hb dX7_isGood_26 (by decide) ?_
      refine lv_icmp_gt (tgt := 48) hx hb dX7_isGood_28 (by decide) (fun c_12 => ?_) (fun c_12 => ?_)
      · have h := if_at_t c_12 h
        refine lv_iconst (v := 0) hx hb dX7_isGood_48 (by decide) ?_
        exact rtZ hC hr hk hw rfl (so_at h) rfl dX7_isGood_49
      · have h := if_at_f c_12 h
        refine lv_iload_n hx hb dX7_isGood_31 rfl (lv_at hl 1 rfl) ?_
        refine lv_iconst (v := 5) hx hb dX7_isGood_32 (by decide) ?_
        refine lv_icmp_lt (tgt := 44) hx hb dX7_isGood_33 (by decide) (fun c_13 => ?_) (fun c_13 => ?_)
        · have h := if_at_t c_13 h
          refine lv_iconst (v := 1) hx hb dX7_isGood_44 (by decide) ?_
          refine lv_goto (tgt := 49) hx hb dX7_isGood_45 (by decide) ?_
          exact rtZ hC hr hk hw rfl (so_at h) rfl dX7_isGood_49
        · have h := if_at_f c_13 h
          refine lv_iload_n hx hb dX7_isGood_36 rfl (lv_at hl 3 rfl) ?_
          refine lv_iload_n hx hb dX7_isGood_37 rfl (lv_at hl 0 rfl) ?_
          refine lv_iadd hx hb dX7_isGood_38 ?_
          refine lv_bipush (v := 10) hx hb dX7_isGood_39 (by decide) ?_
          refine lv_icmp_ne (tgt := 48) hx hb dX7_isGood_41 (by decide) (fun c_14 => ?_) (fun c_14 => ?_)
          · have h := if_at_f c_14 h
            refine lv_iconst (v := 0) hx hb dX7_isGood_48 (by decide) ?_
            exact rtZ hC hr hk hw rfl (so_at h) rfl dX7_isGood_49
          · have h := if_at_t c_14 h
            refine lv_iconst (v := 1) hx hb dX7_isGood_44 (by decide) ?_
            refine lv_goto (tgt := 49) hx hb dX7_isGood_45 (by decide) ?_
            exact rtZ hC hr hk hw rfl (so_at h) rfl dX7_isGood_49
def m_X7_faultOf_L4 (fu : Nat) (S : ST) (ag_3 : Int32 → Int32 → Option Int32) (x1_1 : Int32) (x2_2 : Int32) : Option Int32 :=
  (if (stI S 0) ≤ x2_2 then some x2_2 else gd (inB x2_2 10) (bd (m_X7_isGood fu x2_2 ((rdA S 0 x2_2)) x1_1) (fun v_6 => (if v_6 = (0 : Int32) then some x2_2 else jn1 (fun (v_8 : Int32) => nm ((x1_1 + v_8)) (fun x1_10 => nm (x2_2 + (1 : Int32)) (fun x2_11 => ag_3 x1_10 x2_11))) (fun j_9 => (if (6 : Int32) ≤ x2_2 then j_9 (0 : Int32) else gd (inB x2_2 10) (j_9 (((rdA S 0 x2_2) - (48 : Int32))))))))))
def m_X7_faultOf (fu : Nat) (S : ST) : Option Int32 :=
  lq2 (m_X7_faultOf_L4 fu S) fu (0 : Int32) (0 : Int32)
set_option maxRecDepth 100000 in
set_option maxHeartbeats 4000000 in
theorem k_X7_faultOf (l : Launch) (D : va_G) (cy : ClassId) (a : Nat → Nat) (fu : Nat) (S : ST) (r : Int32) (h : m_X7_faultOf fu S = some r) : CtI l yX7_faultOf cX7_faultOf 3 (some .int) 2 [.ref (a 0)] D cy (wM cy a) S r S := by
  refine CtI_of (by decide) (Nat.le_of_ble_eq_true rfl) ?_
  intro p e s m args below meth c A ls hC hr hk hw hl
  have hC : Cx p s m c RX7 cX7_faultOf 3 args D cy := hC
  have hx := hC.1
  have hb := hC.2.1
  have hl : lv_has ls 3 [(0, .ref (a 0))] := hl
  obtain ⟨H, eH⟩ : ∃ z : Heap, z = s.heap := ⟨_, rfl⟩
  obtain ⟨locs, elocs⟩ : ∃ z : List Loc, z = [] := ⟨_, rfl⟩
  have hw : InW D (wM cy a) A s.heap H locs S := by rw [eH, elocs]; exact hw
  suffices hsu : W p l e (rmN 2) s m args below meth c H locs 0 0 (QI below args s D (wM cy a) A r S) (F0 m 0 ls []) by rw [eH, elocs] at hsu; exact hsu
  unfold m_X7_faultOf at h
  refine lv_iconst (v := 0) hx hb dX7_faultOf_0 (by decide) ?_
  refine lv_istore_n (lv' := [(1, .int (0 : Int32)), (0, .ref (a 0))]) hx hb dX7_faultOf_1 rfl hl (by decide) rfl (fun ls hl => ?_)
  refine lv_iconst (v := 0) hx hb dX7_faultOf_2 (by decide) ?_
  refine lv_istore_n (lv' := [(2, .int (0 : Int32)), (1, .int (0 : Int32)), (0, .ref (a 0))]) hx hb dX7_faultOf_3 rfl hl (by decide) rfl (fun ls hl => ?_)
  refine lq2_ok (fun (x1_1 : Int32) (x2_2 : Int32) => ∀ (H : Heap) (locs : List Loc) (ls : Array Slot), InW D (wM cy a) A s.heap H locs S → lv_has ls 3 [(0, .ref (a 0)), (1, .int x1_1), (2, .int x2_2)] → W p l e (rmN 2) s m args below meth c H locs 0 0 (QI below args s D (wM cy a) A r S) (F0 m 4 ls [])) ?_ fu (0 : Int32) (0 : Int32) h H locs ls hw (lv_sub hl [2, 1, 0] rfl)
  intro ag_3 hag_3 x1_1 x2_2 h H locs ls hw hl
  unfold m_X7_faultOf_L4 at h
  refine lv_iload_n hx hb dX7_faultOf_4 rfl (lv_at hl 2 rfl) ?_
  refine lv_aload_n hx hb dX7_faultOf_5 rfl (lv_at hl 0 rfl) ?_
  refine gf (v := .int (stI S 0)) hC hw in_X7 0 5 1 (cM_0 cy a S) rfl (by decide) lf_RX7_65 rfl rfl dX7_faultOf_6 ?_
  refine lv_icmp_ge (tgt := 54) hx hb dX7_faultOf_9 (by decide) (fun c_4 => ?_) (fun c_4 => ?_)
  · have h := if_at_t c_4 h
    refine lv_iload_n hx hb dX7_faultOf_54 rfl (lv_at hl 2 rfl) ?_
    exact rtI hC hr hk hw (so_at h) rfl dX7_faultOf_55
  · have h := if_at_f c_4 h
    refine lv_iload_n hx hb dX7_faultOf_12 rfl (lv_at hl 2 rfl) ?_
    refine lv_aload_n hx hb dX7_faultOf_13 rfl (lv_at hl 0 rfl) ?_
    refine gf (v := .ref (a 1)) hC hw in_X7 0 5 0 (cM_0 cy a S) rfl (by decide) lf_RX7_7 rfl rfl dX7_faultOf_14 ?_
    refine lv_iload_n hx hb dX7_faultOf_17 rfl (lv_at hl 2 rfl) ?_
    obtain ⟨hi, h⟩ := gd_at h
    refine ga hC hw 1 (cM_1 cy a S) hi dX7_faultOf_18 ?_
    refine lv_iload_n hx hb dX7_faultOf_19 rfl (lv_at hl 1 rfl) ?_
    obtain ⟨v_6, hc_5, h⟩ := bd_at h
    refine caSI (As := [.int x2_2, .int (rdA S 0 x2_2), .int x1_1]) (rest := []) hC hw hl.1 lm_RX7_70 li_RX7 lk_yX7_isGood ls_yX7_isGood 3 rfl hd_X7_isGood (by decide) (by decide) (Nat.le_of_ble_eq_true rfl) dX7_faultOf_20 (k_X7_isGood l D cy (wM cy a) S fu x2_2 ((rdA S 0 x2_2)) x1_1 _ hc_5) (fun H locs hw => ?_)
    refine lv_if_eq (tgt := 54) hx hb dX7_faultOf_23 (by decide) (fun c_7 => ?_) (fun c_7 => ?_)
    · have h := if_at_t c_7 h
      refine lv_iload_n hx hb dX7_faultOf_54 rfl (lv_at hl 2 rfl) ?_
      exact rtI hC hr hk hw (so_at h) rfl dX7_faultOf_55
    · have h := if_at_f c_7 h
      refine lv_iload_n hx hb dX7_faultOf_26 rfl (lv_at hl 1 rfl) ?_
      refine lv_iload_n hx hb dX7_faultOf_27 rfl (lv_at hl 2 rfl) ?_
      refine lv_bipush (v := 6) hx hb dX7_faultOf_28 (by decide) ?_
      refine jn1_ok (fun (v_8 : Int32) => ∀ (H : Heap) (locs : List Loc) (ls : Array Slot), InW D (wM cy a) A s.heap H locs S → lv_has ls 3 [(0, .ref (a 0)), (2, .int x2_2)] → W p l e (rmN 2) s m args below meth c H locs 0 0 (QI below args s D (wM cy a) A r S) (F0 m 46 ls [.int v_8, .int x1_1])) ?_ ?_ h
      · intro v_8 h H locs ls hw hl
        refine lv_iadd hx hb dX7_faultOf_46 ?_
        refine lv_topi (fun x1_10 ex1_10 => ?_)
        have h := nm_at ex1_10 h
        refine lv_istore_n (lv' := [(1, .int x1_10), (0, .ref (a 0)), (2, .int x2_2)]) hx hb dX7_faultOf_47 rfl hl (by decide) rfl (fun ls hl => ?_)
        obtain ⟨x2_11, ex2_11⟩ : ∃ z : Int32, z = x2_2 + (1 : Int32) := ⟨_, rfl⟩
        have h := nm_at ex2_11 h
        refine lv_iinc (v := x2_11) (lv' := [(2, .int x2_11), (1, .int x1_10), (0, .ref (a 0))]) hx hb dX7_faultOf_48 hl (k := 2) rfl (by rw [ex2_11]; rfl) (by decide) rfl (fun ls hl => ?_)
        refine lv_goto (tgt := 4) hx hb dX7_faultOf_51 (by decide) ?_
        exact hag_3 x1_10 x2_11 h H locs ls hw (lv_sub hl [2, 1, 0] rfl)
      · intro j_9 hj_9 h
        refine lv_icmp_ge (tgt := 45) hx hb dX7_faultOf_30 (by decide) (fun c_12 => ?_) (fun c_12 => ?_)
        · have h := if_at_t c_12 h
          refine lv_iconst (v := 0) hx hb dX7_faultOf_45 (by decide) ?_
          exact hj_9 (0 : Int32) h H locs ls hw (lv_sub hl [0, 2] rfl)
        · have h := if_at_f c_12 h
          refine lv_aload_n hx hb dX7_faultOf_33 rfl (lv_at hl 0 rfl) ?_
          refine gf (v := .ref (a 1)) hC hw in_X7 0 5 0 (cM_0 cy a S) rfl (by decide) lf_RX7_7 rfl rfl dX7_faultOf_34 ?_
          refine lv_iload_n hx hb dX7_faultOf_37 rfl (lv_at hl 2 rfl) ?_
          obtain ⟨hi, h⟩ := gd_at h
          refine ga hC hw 1 (cM_1 cy a S) hi dX7_faultOf_38 ?_
          refine lv_bipush (v := 48) hx hb dX7_faultOf_39 (by decide) ?_
          refine lv_isub hx hb dX7_faultOf_41 ?_
          refine lv_goto (tgt := 46) hx hb dX7_faultOf_42 (by decide) ?_
          exact hj_9 (((rdA S 0 x2_2) - (48 : Int32))) h H locs ls hw (lv_sub hl [0, 2] rfl)
def m_X7_fault (fu : Nat) (S : ST) : Option Int32 :=
  bd (m_X7_faultOf fu S) (fun v_2 => some v_2)
set_option maxRecDepth 100000 in
set_option maxHeartbeats 4000000 in
theorem k_X7_fault (l : Launch) (D : va_G) (cy : ClassId) (a : Nat → Nat) (fu : Nat) (S : ST) (r : Int32) (h : m_X7_fault fu S = some r) : CtI l yX7_fault cX7_fault 1 (some .int) 3 [.ref (a 0)] D cy (wM cy a) S r S := by
  refine CtI_of (by decide) (Nat.le_of_ble_eq_true rfl) ?_
  intro p e s m args below meth c A ls hC hr hk hw hl
  have hC : Cx p s m c RX7 cX7_fault 1 args D cy := hC
  have hx := hC.1
  have hb := hC.2.1
  have hl : lv_has ls 1 [(0, .ref (a 0))] := hl
  obtain ⟨H, eH⟩ : ∃ z : Heap, z = s.heap := ⟨_, rfl⟩
  obtain ⟨locs, elocs⟩ : ∃ z : List Loc, z = [] := ⟨_, rfl⟩
  have hw : InW D (wM cy a) A s.heap H locs S := by rw [eH, elocs]; exact hw
  suffices hsu : W p l e (rmN 3) s m args below meth c H locs 0 0 (QI below args s D (wM cy a) A r S) (F0 m 0 ls []) by rw [eH, elocs] at hsu; exact hsu
  unfold m_X7_fault at h
  refine lv_aload_n hx hb dX7_fault_0 rfl (lv_at hl 0 rfl) ?_
  obtain ⟨v_2, hc_1, h⟩ := bd_at h
  refine caVI (As := []) (rest := []) hC hw hl.1 lm_RX7_74 li_RX7 lk_yX7_faultOf li_yX7_faultOf ll_yX7_faultOf 0 5 (cM_0 cy a S) rfl 0 rfl hd_X7_faultOf (by decide) (by decide) (Nat.le_of_ble_eq_true rfl) dX7_fault_1 (k_X7_faultOf l D cy a fu S _ hc_1) (fun H locs hw => ?_)
  exact rtI hC hr hk hw (so_at h) rfl dX7_fault_4
def m_X7_law_L23 (fu : Nat) (j_6 : ST → Option (Int32 × ST)) (ag_15 : Int32 → ST → Option (Int32 × ST)) (x1_13 : Int32) (S_14 : ST) : Option (Int32 × ST) :=
  (if (6 : Int32) ≤ x1_13 then j_6 S_14 else gd (inB x1_13 10) (gd (inB x1_13 6) (nm (wrA S_14 1 x1_13 (((rdA S_14 0 x1_13) - (48 : Int32)))) (fun S_17 => nm (x1_13 + (1 : Int32)) (fun x1_18 => ag_15 x1_18 S_17)))))
def m_X7_law (fu : Nat) (S : ST) : Option (Int32 × ST) :=
  (if (stI S 0) = (8 : Int32) then bd (m_X7_faultOf fu S) (fun v_3 => (if (8 : Int32) ≤ v_3 then jn1 (fun (S_5 : ST) => gd (inB (7 : Int32) 10) (nm (puI S_5 1 (((rdA S_5 0 (7 : Int32)) - (48 : Int32)))) (fun S_7 => nm (puI S_7 4 (0 : Int32)) (fun S_8 => nm (puI S_8 2 (0 : Int32)) (fun S_9 => nm (puI S_9 7 (0 : Int32)) (fun S_10 => nm (puI S_10 3 (((stI S_10 3) + (1 : Int32)))) (fun S_11 => nm (puI S_11 0 (0 : Int32)) (fun S_12 => some ((stI S_12 1), S_12))))))))) (fun j_6 => lq2 (m_X7_law_L23 fu j_6) fu (0 : Int32) S) else some ((-103 : Int32), S))) else some ((-103 : Int32), S))
set_option maxRecDepth 100000 in
set_option maxHeartbeats 4000000 in
theorem k_X7_law (l : Launch) (D : va_G) (cy : ClassId) (a : Nat → Nat) (fu : Nat) (S : ST) (r : Int32) (S' : ST) (h : m_X7_law fu S = some (r, S')) : CtI l yX7_law cX7_law 2 (some .int) 3 [.ref (a 0)] D cy (wM cy a) S r S' := by
  refine CtI_of (by decide) (Nat.le_of_ble_eq_true rfl) ?_
  intro p e s m args below meth c A ls hC hr hk hw hl
  have hC : Cx p s m c RX7 cX7_law 2 args D cy := hC
  have hx := hC.1
  have hb := hC.2.1
  have hl : lv_has ls 2 [(0, .ref (a 0))] := hl
  obtain ⟨H, eH⟩ : ∃ z : Heap, z = s.heap := ⟨_, rfl⟩
  obtain ⟨locs, elocs⟩ : ∃ z : List Loc, z = [] := ⟨_, rfl⟩
  have hw : InW D (wM cy a) A s.heap H locs S := by rw [eH, elocs]; exact hw
  suffices hsu : W p l e (rmN 3) s m args below meth c H locs 0 0 (QI below args s D (wM cy a) A r S') (F0 m 0 ls []) by rw [eH, elocs] at hsu; exact hsu
  unfold m_X7_law at h
  refine lv_aload_n hx hb dX7_law_0 rfl (lv_at hl 0 rfl) ?_
  refine gf (v := .int (stI S 0)) hC hw in_X7 0 5 1 (cM_0 cy a S) rfl (by decide) lf_RX7_65 rfl rfl dX7_law_1 ?_
  refine lv_bipush (v := 8) hx hb dX7_law_4 (by decide) ?_
  refine lv_icmp_ne (tgt := 18) hx hb dX7_law_6 (by decide) (fun c_1 => ?_) (fun c_1 => ?_)
  · have h := if_at_f c_1 h
    refine lv_bipush (v := -103) hx hb dX7_law_18 (by decide) ?_
    exact rtI hC hr hk hw (so_at2 h).1 (so_at2 h).2 dX7_law_20
  · have h := if_at_t c_1 h
    refine lv_aload_n hx hb dX7_law_9 rfl (lv_at hl 0 rfl) ?_
    obtain ⟨v_3, hc_2, h⟩ := bd_at h
    refine caVI (As := []) (rest := []) hC hw hl.1 lm_RX7_74 li_RX7 lk_yX7_faultOf li_yX7_faultOf ll_yX7_faultOf 0 5 (cM_0 cy a S) rfl 0 rfl hd_X7_faultOf (by decide) (by decide) (Nat.le_of_ble_eq_true rfl) dX7_law_10 (k_X7_faultOf l D cy a fu S _ hc_2) (fun H locs hw => ?_)
    refine lv_bipush (v := 8) hx hb dX7_law_13 (by decide) ?_
    refine lv_icmp_ge (tgt := 21) hx hb dX7_law_15 (by decide) (fun c_4 => ?_) (fun c_4 => ?_)
    · have h := if_at_t c_4 h
      refine lv_iconst (v := 0) hx hb dX7_law_21 (by decide) ?_
      refine lv_istore_n (lv' := [(1, .int (0 : Int32)), (0, .ref (a 0))]) hx hb dX7_law_22 rfl hl (by decide) rfl (fun ls hl => ?_)
      refine jn1_ok (fun (S_5 : ST) => ∀ (H : Heap) (locs : List Loc) (ls : Array Slot), InW D (wM cy a) A s.heap H locs S_5 → lv_has ls 2 [(0, .ref (a 0))] → W p l e (rmN 3) s m args below meth c H locs 0 0 (QI below args s D (wM cy a) A r S') (F0 m 50 ls [])) ?_ ?_ h
      · intro S_5 h H locs ls hw hl
        refine lv_aload_n hx hb dX7_law_50 rfl (lv_at hl 0 rfl) ?_
        refine lv_aload_n hx hb dX7_law_51 rfl (lv_at hl 0 rfl) ?_
        refine gf (v := .ref (a 1)) hC hw in_X7 0 5 0 (cM_0 cy a S_5) rfl (by decide) lf_RX7_7 rfl rfl dX7_law_52 ?_
        refine lv_bipush (v := 7) hx hb dX7_law_55 (by decide) ?_
        obtain ⟨hi, h⟩ := gd_at h
        refine ga hC hw 1 (cM_1 cy a S_5) hi dX7_law_57 ?_
        refine lv_bipush (v := 48) hx hb dX7_law_58 (by decide) ?_
        refine lv_isub hx hb dX7_law_60 ?_
        refine pf (ty := .int) (v := .int (((rdA S_5 0 (7 : Int32)) - (48 : Int32)))) hC hw in_X7 tyX7_ok nmX7 0 5 2 (cM_0 cy a S_5) rfl (by decide) lf_RX7_78 rfl rfl (by decide +kernel) rfl rfl (Nat.le_of_ble_eq_true rfl) (sM_2 cy a S_5 (((rdA S_5 0 (7 : Int32)) - (48 : Int32)))) dX7_law_61 (fun H locs hw => ?_)
        obtain ⟨S_7, hw, h⟩ := nmw (P := fun z => InW D (wM cy a) A s.heap H locs z) hw h
        refine lv_aload_n hx hb dX7_law_64 rfl (lv_at hl 0 rfl) ?_
        refine lv_iconst (v := 0) hx hb dX7_law_65 (by decide) ?_
        refine pf (ty := .int) (v := .int (0 : Int32)) hC hw in_X7 tyX7_ok nmX7 0 5 6 (cM_0 cy a S_7) rfl (by decide) lf_RX7_81 rfl rfl (by decide +kernel) rfl rfl (Nat.le_of_ble_eq_true rfl) (sM_6 cy a S_7 (0 : Int32)) dX7_law_66 (fun H locs hw => ?_)
        obtain ⟨S_8, hw, h⟩ := nmw (P := fun z => InW D (wM cy a) A s.heap H locs z) hw h
        refine lv_aload_n hx hb dX7_law_69 rfl (lv_at hl 0 rfl) ?_
        refine lv_iconst (v := 0) hx hb dX7_law_70 (by decide) ?_
        refine pf (ty := .int) (v := .int (0 : Int32)) hC hw in_X7 tyX7_ok nmX7 0 5 3 (cM_0 cy a S_8) rfl (by decide) lf_RX7_84 rfl rfl (by decide +kernel) rfl rfl (Nat.le_of_ble_eq_true rfl) (sM_3 cy a S_8 (0 : Int32)) dX7_law_71 (fun H locs hw => ?_)
        obtain ⟨S_9, hw, h⟩ := nmw (P := fun z => InW D (wM cy a) A s.heap H locs z) hw h
        refine lv_aload_n hx hb dX7_law_74 rfl (lv_at hl 0 rfl) ?_
        refine lv_iconst (v := 0) hx hb dX7_law_75 (by decide) ?_
        refine pf (ty := .int) (v := .int (0 : Int32)) hC hw in_X7 tyX7_ok nmX7 0 5 16 (cM_0 cy a S_9) rfl (by decide) lf_RX7_87 rfl rfl (by decide +kernel) rfl rfl (Nat.le_of_ble_eq_true rfl) (sM_16 cy a S_9 (0 : Int32)) dX7_law_76 (fun H locs hw => ?_)
        obtain ⟨S_10, hw, h⟩ := nmw (P := fun z => InW D (wM cy a) A s.heap H locs z) hw h
        refine lv_aload_n hx hb dX7_law_79 rfl (lv_at hl 0 rfl) ?_
        refine lv_dup hx hb dX7_law_80 rfl ?_
        refine gf (v := .int (stI S_10 3)) hC hw in_X7 0 5 4 (cM_0 cy a S_10) rfl (by decide) lf_RX7_90 rfl rfl dX7_law_81 ?_
        refine lv_iconst (v := 1) hx hb dX7_law_84 (by decide) ?_
        refine lv_iadd hx hb dX7_law_85 ?_
        refine pf (ty := .int) (v := .int (((stI S_10 3) + (1 : Int32)))) hC hw in_X7 tyX7_ok nmX7 0 5 4 (cM_0 cy a S_10) rfl (by decide) lf_RX7_90 rfl rfl (by decide +kernel) rfl rfl (Nat.le_of_ble_eq_true rfl) (sM_4 cy a S_10 (((stI S_10 3) + (1 : Int32)))) dX7_law_86 (fun H locs hw => ?_)
        obtain ⟨S_11, hw, h⟩ := nmw (P := fun z => InW D (wM cy a) A s.heap H locs z) hw h
        refine lv_aload_n hx hb dX7_law_89 rfl (lv_at hl 0 rfl) ?_
        refine lv_iconst (v := 0) hx hb dX7_law_90 (by decide) ?_
        refine pf (ty := .int) (v := .int (0 : Int32)) hC hw in_X7 tyX7_ok nmX7 0 5 1 (cM_0 cy a S_11) rfl (by decide) lf_RX7_65 rfl rfl (by decide +kernel) rfl rfl (Nat.le_of_ble_eq_true rfl) (sM_1 cy a S_11 (0 : Int32)) dX7_law_91 (fun H locs hw => ?_)
        obtain ⟨S_12, hw, h⟩ := nmw (P := fun z => InW D (wM cy a) A s.heap H locs z) hw h
        refine lv_aload_n hx hb dX7_law_94 rfl (lv_at hl 0 rfl) ?_
        refine gf (v := .int (stI S_12 1)) hC hw in_X7 0 5 2 (cM_0 cy a S_12) rfl (by decide) lf_RX7_78 rfl rfl dX7_law_95 ?_
        exact rtI hC hr hk hw (so_at2 h).1 (so_at2 h).2 dX7_law_98
      · intro j_6 hj_6 h
        refine lq2_ok (fun (x1_13 : Int32) (S_14 : ST) => ∀ (H : Heap) (locs : List Loc) (ls : Array Slot), InW D (wM cy a) A s.heap H locs S_14 → lv_has ls 2 [(0, .ref (a 0)), (1, .int x1_13)] → W p l e (rmN 3) s m args below meth c H locs 0 0 (QI below args s D (wM cy a) A r S') (F0 m 23 ls [])) ?_ fu (0 : Int32) S h H locs ls hw (lv_sub hl [1, 0] rfl)
        intro ag_15 hag_15 x1_13 S_14 h H locs ls hw hl
        unfold m_X7_law_L23 at h
        refine lv_iload_n hx hb dX7_law_23 rfl (lv_at hl 1 rfl) ?_
        refine lv_bipush (v := 6) hx hb dX7_law_24 (by decide) ?_
        refine lv_icmp_ge (tgt := 50) hx hb dX7_law_26 (by decide) (fun c_16 => ?_) (fun c_16 => ?_)
        · have h := if_at_t c_16 h
          exact hj_6 S_14 h H locs ls hw (lv_sub hl [0] rfl)
        · have h := if_at_f c_16 h
          refine lv_aload_n hx hb dX7_law_29 rfl (lv_at hl 0 rfl) ?_
          refine gf (v := .ref (a 2)) hC hw in_X7 0 5 5 (cM_0 cy a S_14) rfl (by decide) lf_RX7_13 rfl rfl dX7_law_30 ?_
          refine lv_iload_n hx hb dX7_law_33 rfl (lv_at hl 1 rfl) ?_
          refine lv_aload_n hx hb dX7_law_34 rfl (lv_at hl 0 rfl) ?_
          refine gf (v := .ref (a 1)) hC hw in_X7 0 5 0 (cM_0 cy a S_14) rfl (by decide) lf_RX7_7 rfl rfl dX7_law_35 ?_
          refine lv_iload_n hx hb dX7_law_38 rfl (lv_at hl 1 rfl) ?_
          obtain ⟨hi, h⟩ := gd_at h
          refine ga hC hw 1 (cM_1 cy a S_14) hi dX7_law_39 ?_
          refine lv_bipush (v := 48) hx hb dX7_law_40 (by decide) ?_
          refine lv_isub hx hb dX7_law_42 ?_
          obtain ⟨hi, h⟩ := gd_at h
          refine pa hC hw 2 (cM_2 cy a S_14) hi (rM_2 cy a S_14) dX7_law_43 (fun H locs hw => ?_)
          obtain ⟨S_17, hw, h⟩ := nmw (P := fun z => InW D (wM cy a) A s.heap H locs z) hw h
          obtain ⟨x1_18, ex1_18⟩ : ∃ z : Int32, z = x1_13 + (1 : Int32) := ⟨_, rfl⟩
          have h := nm_at ex1_18 h
          refine lv_iinc (v := x1_18) (lv' := [(1, .int x1_18), (0, .ref (a 0))]) hx hb dX7_law_44 hl (k := 1) rfl (by rw [ex1_18]; rfl) (by decide) rfl (fun ls hl => ?_)
          refine lv_goto (tgt := 23) hx hb dX7_law_47 (by decide) ?_
          exact hag_15 x1_18 S_17 h H locs ls hw (lv_sub hl [1, 0] rfl)
    · have h := if_at_f c_4 h
      refine lv_bipush (v := -103) hx hb dX7_law_18 (by decide) ?_
      exact rtI hC hr hk hw (so_at2 h).1 (so_at2 h).2 dX7_law_20
def m_X7_isLetter (fu : Nat) (x0 : Int32) : Option Int32 :=
  bd (m_X7_in fu ((x0).toInt64) (0 : Int64) (5 : Int64)) (fun v_2 => gd (zB v_2) (some v_2))
set_option maxRecDepth 100000 in
set_option maxHeartbeats 4000000 in
theorem k_X7_isLetter (l : Launch) (D : va_G) (cy : ClassId) (w : ST → va_W) (S : ST) (fu : Nat) (x0 : Int32) (r : Int32) (h : m_X7_isLetter fu x0 = some r) : CtI l yX7_isLetter cX7_isLetter 1 (some .boolean) 1 [.int x0] D cy w S r S := by
  refine CtI_of (by decide) (Nat.le_of_ble_eq_true rfl) ?_
  intro p e s m args below meth c A ls hC hr hk hw hl
  have hC : Cx p s m c RX7 cX7_isLetter 1 args D cy := hC
  have hx := hC.1
  have hb := hC.2.1
  have hl : lv_has ls 1 [(0, .int x0)] := hl
  obtain ⟨H, eH⟩ : ∃ z : Heap, z = s.heap := ⟨_, rfl⟩
  obtain ⟨locs, elocs⟩ : ∃ z : List Loc, z = [] := ⟨_, rfl⟩
  have hw : InW D w A s.heap H locs S := by rw [eH, elocs]; exact hw
  suffices hsu : W p l e (rmN 1) s m args below meth c H locs 0 0 (QI below args s D w A r S) (F0 m 0 ls []) by rw [eH, elocs] at hsu; exact hsu
  unfold m_X7_isLetter at h
  refine lv_iload_n hx hb dX7_isLetter_0 rfl (lv_at hl 0 rfl) ?_
  refine lv_i2l hx hb dX7_isLetter_1 rfl ?_
  refine lv_lconst (v := 0) hx hb dX7_isLetter_2 (by decide) ?_
  refine lv_ldc2 hx hb hC.2.2.2.1 (hC.2.2.2.2.1 _ lc_RX7_93) dX7_isLetter_3 ?_
  obtain ⟨v_2, hc_1, h⟩ := bd_at h
  refine caSI (As := [.long (x0).toInt64, .long (0 : Int64), .long (5 : Int64)]) (rest := []) hC hw hl.1 lm_RX7_61 li_RX7 lk_yX7_in ls_yX7_in 3 rfl hd_X7_in (by decide) (by decide) (Nat.le_of_ble_eq_true rfl) dX7_isLetter_6 (k_X7_in l D cy w S fu ((x0).toInt64) (0 : Int64) (5 : Int64) _ hc_1) (fun H locs hw => ?_)
  obtain ⟨hz, h⟩ := gd_at h
  exact rtZ hC hr hk hw hz (so_at h) rfl dX7_isLetter_9
def m_X7_fullness_4_L5 (fu : Nat) (x2 : Int32) (S : ST) (ag_3 : Int32 → Int32 → Option Int32) (x3_1 : Int32) (x4_2 : Int32) : Option Int32 :=
  (if (stI S 4) ≤ x4_2 then some x3_1 else gd (inB x4_2 5) (nm ((x3_1 + (((rdA S 3 x4_2) >>> (x2 &&& (31 : Int32))) &&& (1 : Int32)))) (fun x3_5 => nm (x4_2 + (1 : Int32)) (fun x4_6 => ag_3 x3_5 x4_6))))
def m_X7_fullness_4 (fu : Nat) (x2 : Int32) (S : ST) : Option Int32 :=
  lq2 (m_X7_fullness_4_L5 fu x2 S) fu (0 : Int32) (0 : Int32)
set_option maxRecDepth 100000 in
set_option maxHeartbeats 4000000 in
theorem k_X7_fullness_4 (l : Launch) (D : va_G) (cy : ClassId) (a : Nat → Nat) (fu : Nat) (x2 : Int32) (S : ST) (r : Int32) (h : m_X7_fullness_4 fu x2 S = some r) : CtI l yX7_fullness cX7_fullness 5 (some .int) 0 [.ref (a 0), .ref (a 4), .int x2] D cy (wM cy a) S r S := by
  refine CtI_of (by decide) (Nat.le_of_ble_eq_true rfl) ?_
  intro p e s m args below meth c A ls hC hr hk hw hl
  have hC : Cx p s m c RX7 cX7_fullness 5 args D cy := hC
  have hx := hC.1
  have hb := hC.2.1
  have hl : lv_has ls 5 [(0, .ref (a 0)), (1, .ref (a 4)), (2, .int x2)] := hl
  obtain ⟨H, eH⟩ : ∃ z : Heap, z = s.heap := ⟨_, rfl⟩
  obtain ⟨locs, elocs⟩ : ∃ z : List Loc, z = [] := ⟨_, rfl⟩
  have hw : InW D (wM cy a) A s.heap H locs S := by rw [eH, elocs]; exact hw
  suffices hsu : W p l e (rmN 0) s m args below meth c H locs 0 0 (QI below args s D (wM cy a) A r S) (F0 m 0 ls []) by rw [eH, elocs] at hsu; exact hsu
  unfold m_X7_fullness_4 at h
  refine lv_iconst (v := 0) hx hb dX7_fullness_0 (by decide) ?_
  refine lv_istore_n (lv' := [(3, .int (0 : Int32)), (0, .ref (a 0)), (1, .ref (a 4)), (2, .int x2)]) hx hb dX7_fullness_1 rfl hl (by decide) rfl (fun ls hl => ?_)
  refine lv_iconst (v := 0) hx hb dX7_fullness_2 (by decide) ?_
  refine lv_istore (lv' := [(4, .int (0 : Int32)), (3, .int (0 : Int32)), (0, .ref (a 0)), (1, .ref (a 4)), (2, .int x2)]) hx hb dX7_fullness_3 hl (by decide) rfl (fun ls hl => ?_)
  refine lq2_ok (fun (x3_1 : Int32) (x4_2 : Int32) => ∀ (H : Heap) (locs : List Loc) (ls : Array Slot), InW D (wM cy a) A s.heap H locs S → lv_has ls 5 [(0, .ref (a 0)), (1, .ref (a 4)), (2, .int x2), (3, .int x3_1), (4, .int x4_2)] → W p l e (rmN 0) s m args below meth c H locs 0 0 (QI below args s D (wM cy a) A r S) (F0 m 5 ls [])) ?_ fu (0 : Int32) (0 : Int32) h H locs ls hw (lv_sub hl [2, 3, 4, 1, 0] rfl)
  intro ag_3 hag_3 x3_1 x4_2 h H locs ls hw hl
  unfold m_X7_fullness_4_L5 at h
  refine lv_iload hx hb dX7_fullness_5 (lv_at hl 4 rfl) ?_
  refine lv_aload_n hx hb dX7_fullness_7 rfl (lv_at hl 0 rfl) ?_
  refine gf (v := .int (stI S 4)) hC hw in_X7 0 5 6 (cM_0 cy a S) rfl (by decide) lf_RX7_81 rfl rfl dX7_fullness_8 ?_
  refine lv_icmp_ge (tgt := 31) hx hb dX7_fullness_11 (by decide) (fun c_4 => ?_) (fun c_4 => ?_)
  · have h := if_at_t c_4 h
    refine lv_iload_n hx hb dX7_fullness_31 rfl (lv_at hl 3 rfl) ?_
    exact rtI hC hr hk hw (so_at h) rfl dX7_fullness_32
  · have h := if_at_f c_4 h
    refine lv_iload_n hx hb dX7_fullness_14 rfl (lv_at hl 3 rfl) ?_
    refine lv_aload_n hx hb dX7_fullness_15 rfl (lv_at hl 1 rfl) ?_
    refine lv_iload hx hb dX7_fullness_16 (lv_at hl 4 rfl) ?_
    obtain ⟨hi, h⟩ := gd_at h
    refine ga hC hw 4 (cM_4 cy a S) hi dX7_fullness_18 ?_
    refine lv_iload_n hx hb dX7_fullness_19 rfl (lv_at hl 2 rfl) ?_
    refine lv_ishr hx hb dX7_fullness_20 ?_
    refine lv_iconst (v := 1) hx hb dX7_fullness_21 (by decide) ?_
    refine lv_iand hx hb dX7_fullness_22 ?_
    refine lv_iadd hx hb dX7_fullness_23 ?_
    refine lv_topi (fun x3_5 ex3_5 => ?_)
    have h := nm_at ex3_5 h
    refine lv_istore_n (lv' := [(3, .int x3_5), (0, .ref (a 0)), (1, .ref (a 4)), (2, .int x2), (4, .int x4_2)]) hx hb dX7_fullness_24 rfl hl (by decide) rfl (fun ls hl => ?_)
    obtain ⟨x4_6, ex4_6⟩ : ∃ z : Int32, z = x4_2 + (1 : Int32) := ⟨_, rfl⟩
    have h := nm_at ex4_6 h
    refine lv_iinc (v := x4_6) (lv' := [(4, .int x4_6), (3, .int x3_5), (0, .ref (a 0)), (1, .ref (a 4)), (2, .int x2)]) hx hb dX7_fullness_25 hl (k := 4) rfl (by rw [ex4_6]; rfl) (by decide) rfl (fun ls hl => ?_)
    refine lv_goto (tgt := 5) hx hb dX7_fullness_28 (by decide) ?_
    exact hag_3 x3_5 x4_6 h H locs ls hw (lv_sub hl [2, 3, 4, 1, 0] rfl)
def m_X7_tellUnder (fu : Nat) (x1 : Int32) (x2 : Int32) (S : ST) : Option Int32 :=
  (if x2 = (0 : Int32) then gd (inB x1 6) (some ((rdA S 1 x1))) else bd (m_X7_fullness_4 fu x1 S) (fun v_3 => some v_3))
set_option maxRecDepth 100000 in
set_option maxHeartbeats 4000000 in
theorem k_X7_tellUnder (l : Launch) (D : va_G) (cy : ClassId) (a : Nat → Nat) (fu : Nat) (x1 : Int32) (x2 : Int32) (S : ST) (r : Int32) (h : m_X7_tellUnder fu x1 x2 S = some r) : CtI l yX7_tellUnder cX7_tellUnder 3 (some .int) 1 [.ref (a 0), .int x1, .int x2] D cy (wM cy a) S r S := by
  refine CtI_of (by decide) (Nat.le_of_ble_eq_true rfl) ?_
  intro p e s m args below meth c A ls hC hr hk hw hl
  have hC : Cx p s m c RX7 cX7_tellUnder 3 args D cy := hC
  have hx := hC.1
  have hb := hC.2.1
  have hl : lv_has ls 3 [(0, .ref (a 0)), (1, .int x1), (2, .int x2)] := hl
  obtain ⟨H, eH⟩ : ∃ z : Heap, z = s.heap := ⟨_, rfl⟩
  obtain ⟨locs, elocs⟩ : ∃ z : List Loc, z = [] := ⟨_, rfl⟩
  have hw : InW D (wM cy a) A s.heap H locs S := by rw [eH, elocs]; exact hw
  suffices hsu : W p l e (rmN 1) s m args below meth c H locs 0 0 (QI below args s D (wM cy a) A r S) (F0 m 0 ls []) by rw [eH, elocs] at hsu; exact hsu
  unfold m_X7_tellUnder at h
  refine lv_iload_n hx hb dX7_tellUnder_0 rfl (lv_at hl 2 rfl) ?_
  refine lv_if_ne (tgt := 13) hx hb dX7_tellUnder_1 (by decide) (fun c_1 => ?_) (fun c_1 => ?_)
  · have h := if_at_f c_1 h
    refine lv_aload_n hx hb dX7_tellUnder_13 rfl (lv_at hl 0 rfl) ?_
    refine lv_aload_n hx hb dX7_tellUnder_14 rfl (lv_at hl 0 rfl) ?_
    refine gf (v := .ref (a 4)) hC hw in_X7 0 5 8 (cM_0 cy a S) rfl (by decide) lf_RX7_19 rfl rfl dX7_tellUnder_15 ?_
    refine lv_iload_n hx hb dX7_tellUnder_18 rfl (lv_at hl 1 rfl) ?_
    obtain ⟨v_3, hc_2, h⟩ := bd_at h
    refine caVI (As := [.ref (a 4), .int x1]) (rest := []) hC hw hl.1 lm_RX7_95 li_RX7 lk_yX7_fullness li_yX7_fullness ll_yX7_fullness 0 5 (cM_0 cy a S) rfl 2 rfl hd_X7_fullness (by decide) (by decide) (Nat.le_of_ble_eq_true rfl) dX7_tellUnder_19 (k_X7_fullness_4 l D cy a fu x1 S _ hc_2) (fun H locs hw => ?_)
    exact rtI hC hr hk hw (so_at h) rfl dX7_tellUnder_22
  · have h := if_at_t c_1 h
    refine lv_aload_n hx hb dX7_tellUnder_4 rfl (lv_at hl 0 rfl) ?_
    refine gf (v := .ref (a 2)) hC hw in_X7 0 5 5 (cM_0 cy a S) rfl (by decide) lf_RX7_13 rfl rfl dX7_tellUnder_5 ?_
    refine lv_iload_n hx hb dX7_tellUnder_8 rfl (lv_at hl 1 rfl) ?_
    obtain ⟨hi, h⟩ := gd_at h
    refine ga hC hw 2 (cM_2 cy a S) hi dX7_tellUnder_9 ?_
    refine lv_goto (tgt := 22) hx hb dX7_tellUnder_10 (by decide) ?_
    exact rtI hC hr hk hw (so_at h) rfl dX7_tellUnder_22
def m_X7_under (fu : Nat) (x1 : Int32) (x2 : Int32) (S : ST) : Option Int32 :=
  bd (m_X7_isLetter fu x1) (fun v_2 => (if v_2 = (0 : Int32) then some (-101 : Int32) else bd (m_X7_in fu ((x2).toInt64) (0 : Int64) (1 : Int64)) (fun v_5 => (if v_5 = (0 : Int32) then some (-102 : Int32) else bd (m_X7_tellUnder fu x1 x2 S) (fun v_8 => some v_8)))))
set_option maxRecDepth 100000 in
set_option maxHeartbeats 4000000 in
theorem k_X7_under (l : Launch) (D : va_G) (cy : ClassId) (a : Nat → Nat) (fu : Nat) (x1 : Int32) (x2 : Int32) (S : ST) (r : Int32) (h : m_X7_under fu x1 x2 S = some r) : CtI l yX7_under cX7_under 3 (some .int) 2 [.ref (a 0), .int x1, .int x2] D cy (wM cy a) S r S := by
  refine CtI_of (by decide) (Nat.le_of_ble_eq_true rfl) ?_
  intro p e s m args below meth c A ls hC hr hk hw hl
  have hC : Cx p s m c RX7 cX7_under 3 args D cy := hC
  have hx := hC.1
  have hb := hC.2.1
  have hl : lv_has ls 3 [(0, .ref (a 0)), (1, .int x1), (2, .int x2)] := hl
  obtain ⟨H, eH⟩ : ∃ z : Heap, z = s.heap := ⟨_, rfl⟩
  obtain ⟨locs, elocs⟩ : ∃ z : List Loc, z = [] := ⟨_, rfl⟩
  have hw : InW D (wM cy a) A s.heap H locs S := by rw [eH, elocs]; exact hw
  suffices hsu : W p l e (rmN 2) s m args below meth c H locs 0 0 (QI below args s D (wM cy a) A r S) (F0 m 0 ls []) by rw [eH, elocs] at hsu; exact hsu
  unfold m_X7_under at h
  refine lv_iload_n hx hb dX7_under_0 rfl (lv_at hl 1 rfl) ?_
  obtain ⟨v_2, hc_1, h⟩ := bd_at h
  refine caSI (As := [.int x1]) (rest := []) hC hw hl.1 lm_RX7_99 li_RX7 lk_yX7_isLetter ls_yX7_isLetter 1 rfl hd_X7_isLetter (by decide) (by decide) (Nat.le_of_ble_eq_true rfl) dX7_under_1 (k_X7_isLetter l D cy (wM cy a) S fu x1 _ hc_1) (fun H locs hw => ?_)
  refine lv_if_ne (tgt := 10) hx hb dX7_under_4 (by decide) (fun c_3 => ?_) (fun c_3 => ?_)
  · have h := if_at_f c_3 h
    refine lv_iload_n hx hb dX7_under_10 rfl (lv_at hl 2 rfl) ?_
    refine lv_i2l hx hb dX7_under_11 rfl ?_
    refine lv_lconst (v := 0) hx hb dX7_under_12 (by decide) ?_
    refine lv_lconst (v := 1) hx hb dX7_under_13 (by decide) ?_
    obtain ⟨v_5, hc_4, h⟩ := bd_at h
    refine caSI (As := [.long (x2).toInt64, .long (0 : Int64), .long (1 : Int64)]) (rest := []) hC hw hl.1 lm_RX7_61 li_RX7 lk_yX7_in ls_yX7_in 3 rfl hd_X7_in (by decide) (by decide) (Nat.le_of_ble_eq_true rfl) dX7_under_14 (k_X7_in l D cy (wM cy a) S fu ((x2).toInt64) (0 : Int64) (1 : Int64) _ hc_4) (fun H locs hw => ?_)
    refine lv_if_eq (tgt := 29) hx hb dX7_under_17 (by decide) (fun c_6 => ?_) (fun c_6 => ?_)
    · have h := if_at_t c_6 h
      refine lv_bipush (v := -102) hx hb dX7_under_29 (by decide) ?_
      exact rtI hC hr hk hw (so_at h) rfl dX7_under_31
    · have h := if_at_f c_6 h
      refine lv_aload_n hx hb dX7_under_20 rfl (lv_at hl 0 rfl) ?_
      refine lv_iload_n hx hb dX7_under_21 rfl (lv_at hl 1 rfl) ?_
      refine lv_iload_n hx hb dX7_under_22 rfl (lv_at hl 2 rfl) ?_
      obtain ⟨v_8, hc_7, h⟩ := bd_at h
      refine caVI (As := [.int x1, .int x2]) (rest := []) hC hw hl.1 lm_RX7_103 li_RX7 lk_yX7_tellUnder li_yX7_tellUnder ll_yX7_tellUnder 0 5 (cM_0 cy a S) rfl 2 rfl hd_X7_tellUnder (by decide) (by decide) (Nat.le_of_ble_eq_true rfl) dX7_under_23 (k_X7_tellUnder l D cy a fu x1 x2 S _ hc_7) (fun H locs hw => ?_)
      refine lv_goto (tgt := 31) hx hb dX7_under_26 (by decide) ?_
      exact rtI hC hr hk hw (so_at h) rfl dX7_under_31
  · have h := if_at_t c_3 h
    refine lv_bipush (v := -101) hx hb dX7_under_7 (by decide) ?_
    exact rtI hC hr hk hw (so_at h) rfl dX7_under_9
def m_X7_lacks (fu : Nat) (S : ST) : Option Int32 :=
  (if (stI S 1) = (0 : Int32) then some (1 : Int32) else some (0 : Int32))
set_option maxRecDepth 100000 in
set_option maxHeartbeats 4000000 in
theorem k_X7_lacks (l : Launch) (D : va_G) (cy : ClassId) (a : Nat → Nat) (fu : Nat) (S : ST) (r : Int32) (h : m_X7_lacks fu S = some r) : CtI l yX7_lacks cX7_lacks 1 (some .boolean) 0 [.ref (a 0)] D cy (wM cy a) S r S := by
  refine CtI_of (by decide) (Nat.le_of_ble_eq_true rfl) ?_
  intro p e s m args below meth c A ls hC hr hk hw hl
  have hC : Cx p s m c RX7 cX7_lacks 1 args D cy := hC
  have hx := hC.1
  have hb := hC.2.1
  have hl : lv_has ls 1 [(0, .ref (a 0))] := hl
  obtain ⟨H, eH⟩ : ∃ z : Heap, z = s.heap := ⟨_, rfl⟩
  obtain ⟨locs, elocs⟩ : ∃ z : List Loc, z = [] := ⟨_, rfl⟩
  have hw : InW D (wM cy a) A s.heap H locs S := by rw [eH, elocs]; exact hw
  suffices hsu : W p l e (rmN 0) s m args below meth c H locs 0 0 (QI below args s D (wM cy a) A r S) (F0 m 0 ls []) by rw [eH, elocs] at hsu; exact hsu
  unfold m_X7_lacks at h
  refine lv_aload_n hx hb dX7_lacks_0 rfl (lv_at hl 0 rfl) ?_
  refine gf (v := .int (stI S 1)) hC hw in_X7 0 5 2 (cM_0 cy a S) rfl (by decide) lf_RX7_78 rfl rfl dX7_lacks_1 ?_
  refine lv_if_ne (tgt := 11) hx hb dX7_lacks_4 (by decide) (fun c_1 => ?_) (fun c_1 => ?_)
  · have h := if_at_f c_1 h
    refine lv_iconst (v := 0) hx hb dX7_lacks_11 (by decide) ?_
    exact rtZ hC hr hk hw rfl (so_at h) rfl dX7_lacks_12
  · have h := if_at_t c_1 h
    refine lv_iconst (v := 1) hx hb dX7_lacks_7 (by decide) ?_
    refine lv_goto (tgt := 12) hx hb dX7_lacks_8 (by decide) ?_
    exact rtZ hC hr hk hw rfl (so_at h) rfl dX7_lacks_12
def m_X7_file (fu : Nat) (x1 : Int32) (x2 : Int32) (S : ST) : Option (Int32 × ST) :=
  bd (m_X7_in fu ((x1).toInt64) (0 : Int64) (4 : Int64)) (fun v_2 => (if v_2 = (0 : Int32) then some ((-102 : Int32), S) else bd (m_X7_isLetter fu x2) (fun v_5 => (if v_5 = (0 : Int32) then some ((-101 : Int32), S) else bd (m_X7_lacks fu S) (fun v_8 => (if v_8 = (0 : Int32) then bd (m_X7_fullness_4 fu x2 S) (fun v_11 => (if v_11 < (stI S 1) then (if (stI S 4) = (5 : Int32) then some ((-104 : Int32), S) else gd (inB (((2 : Int32) * (stI S 4))) 10) (nm (wrA S 2 (((2 : Int32) * (stI S 4))) x1) (fun S_14 => gd (inB ((((2 : Int32) * (stI S_14 4)) + (1 : Int32))) 10) (nm (wrA S_14 2 ((((2 : Int32) * (stI S_14 4)) + (1 : Int32))) (-1 : Int32)) (fun S_15 => gd (inB ((stI S_15 4)) 5) (nm (wrA S_15 3 ((stI S_15 4)) (((1 : Int32) <<< (x2 &&& (31 : Int32))))) (fun S_16 => gd (inB ((stI S_16 4)) 5) (nm (wrA S_16 4 ((stI S_16 4)) (0 : Int32)) (fun S_17 => nm (puI S_17 4 (((stI S_17 4) + (1 : Int32)))) (fun S_18 => some (((stI S_18 4) - (1 : Int32)), S_18))))))))))) else some ((-103 : Int32), S))) else some ((-103 : Int32), S)))))))
set_option maxRecDepth 100000 in
set_option maxHeartbeats 4000000 in
theorem k_X7_file (l : Launch) (D : va_G) (cy : ClassId) (a : Nat → Nat) (fu : Nat) (x1 : Int32) (x2 : Int32) (S : ST) (r : Int32) (S' : ST) (h : m_X7_file fu x1 x2 S = some (r, S')) : CtI l yX7_file cX7_file 3 (some .int) 2 [.ref (a 0), .int x1, .int x2] D cy (wM cy a) S r S' := by
  refine CtI_of (by decide) (Nat.le_of_ble_eq_true rfl) ?_
  intro p e s m args below meth c A ls hC hr hk hw hl
  have hC : Cx p s m c RX7 cX7_file 3 args D cy := hC
  have hx := hC.1
  have hb := hC.2.1
  have hl : lv_has ls 3 [(0, .ref (a 0)), (1, .int x1), (2, .int x2)] := hl
  obtain ⟨H, eH⟩ : ∃ z : Heap, z = s.heap := ⟨_, rfl⟩
  obtain ⟨locs, elocs⟩ : ∃ z : List Loc, z = [] := ⟨_, rfl⟩
  have hw : InW D (wM cy a) A s.heap H locs S := by rw [eH, elocs]; exact hw
  suffices hsu : W p l e (rmN 2) s m args below meth c H locs 0 0 (QI below args s D (wM cy a) A r S') (F0 m 0 ls []) by rw [eH, elocs] at hsu; exact hsu
  unfold m_X7_file at h
  refine lv_iload_n hx hb dX7_file_0 rfl (lv_at hl 1 rfl) ?_
  refine lv_i2l hx hb dX7_file_1 rfl ?_
  refine lv_lconst (v := 0) hx hb dX7_file_2 (by decide) ?_
  refine lv_ldc2 hx hb hC.2.2.2.1 (hC.2.2.2.2.1 _ lc_RX7_107) dX7_file_3 ?_
  obtain ⟨v_2, hc_1, h⟩ := bd_at h
  refine caSI (As := [.long (x1).toInt64, .long (0 : Int64), .long (4 : Int64)]) (rest := []) hC hw hl.1 lm_RX7_61 li_RX7 lk_yX7_in ls_yX7_in 3 rfl hd_X7_in (by decide) (by decide) (Nat.le_of_ble_eq_true rfl) dX7_file_6 (k_X7_in l D cy (wM cy a) S fu ((x1).toInt64) (0 : Int64) (4 : Int64) _ hc_1) (fun H locs hw => ?_)
  refine lv_if_ne (tgt := 15) hx hb dX7_file_9 (by decide) (fun c_3 => ?_) (fun c_3 => ?_)
  · have h := if_at_f c_3 h
    refine lv_iload_n hx hb dX7_file_15 rfl (lv_at hl 2 rfl) ?_
    obtain ⟨v_5, hc_4, h⟩ := bd_at h
    refine caSI (As := [.int x2]) (rest := []) hC hw hl.1 lm_RX7_99 li_RX7 lk_yX7_isLetter ls_yX7_isLetter 1 rfl hd_X7_isLetter (by decide) (by decide) (Nat.le_of_ble_eq_true rfl) dX7_file_16 (k_X7_isLetter l D cy (wM cy a) S fu x2 _ hc_4) (fun H locs hw => ?_)
    refine lv_if_ne (tgt := 25) hx hb dX7_file_19 (by decide) (fun c_6 => ?_) (fun c_6 => ?_)
    · have h := if_at_f c_6 h
      refine lv_aload_n hx hb dX7_file_25 rfl (lv_at hl 0 rfl) ?_
      obtain ⟨v_8, hc_7, h⟩ := bd_at h
      refine caVI (As := []) (rest := []) hC hw hl.1 lm_RX7_109 li_RX7 lk_yX7_lacks li_yX7_lacks ll_yX7_lacks 0 5 (cM_0 cy a S) rfl 0 rfl hd_X7_lacks (by decide) (by decide) (Nat.le_of_ble_eq_true rfl) dX7_file_26 (k_X7_lacks l D cy a fu S _ hc_7) (fun H locs hw => ?_)
      refine lv_if_ne (tgt := 48) hx hb dX7_file_29 (by decide) (fun c_9 => ?_) (fun c_9 => ?_)
      · have h := if_at_f c_9 h
        refine lv_bipush (v := -103) hx hb dX7_file_48 (by decide) ?_
        exact rtI hC hr hk hw (so_at2 h).1 (so_at2 h).2 dX7_file_50
      · have h := if_at_t c_9 h
        refine lv_aload_n hx hb dX7_file_32 rfl (lv_at hl 0 rfl) ?_
        refine lv_aload_n hx hb dX7_file_33 rfl (lv_at hl 0 rfl) ?_
        refine gf (v := .ref (a 4)) hC hw in_X7 0 5 8 (cM_0 cy a S) rfl (by decide) lf_RX7_19 rfl rfl dX7_file_34 ?_
        refine lv_iload_n hx hb dX7_file_37 rfl (lv_at hl 2 rfl) ?_
        obtain ⟨v_11, hc_10, h⟩ := bd_at h
        refine caVI (As := [.ref (a 4), .int x2]) (rest := []) hC hw hl.1 lm_RX7_95 li_RX7 lk_yX7_fullness li_yX7_fullness ll_yX7_fullness 0 5 (cM_0 cy a S) rfl 2 rfl hd_X7_fullness (by decide) (by decide) (Nat.le_of_ble_eq_true rfl) dX7_file_38 (k_X7_fullness_4 l D cy a fu x2 S _ hc_10) (fun H locs hw => ?_)
        refine lv_aload_n hx hb dX7_file_41 rfl (lv_at hl 0 rfl) ?_
        refine gf (v := .int (stI S 1)) hC hw in_X7 0 5 2 (cM_0 cy a S) rfl (by decide) lf_RX7_78 rfl rfl dX7_file_42 ?_
        refine lv_icmp_lt (tgt := 51) hx hb dX7_file_45 (by decide) (fun c_12 => ?_) (fun c_12 => ?_)
        · have h := if_at_t c_12 h
          refine lv_aload_n hx hb dX7_file_51 rfl (lv_at hl 0 rfl) ?_
          refine gf (v := .int (stI S 4)) hC hw in_X7 0 5 6 (cM_0 cy a S) rfl (by decide) lf_RX7_81 rfl rfl dX7_file_52 ?_
          refine lv_iconst (v := 5) hx hb dX7_file_55 (by decide) ?_
          refine lv_icmp_ne (tgt := 62) hx hb dX7_file_56 (by decide) (fun c_13 => ?_) (fun c_13 => ?_)
          · have h := if_at_f c_13 h
            refine lv_aload_n hx hb dX7_file_62 rfl (lv_at hl 0 rfl) ?_
            refine gf (v := .ref (a 3)) hC hw in_X7 0 5 7 (cM_0 cy a S) rfl (by decide) lf_RX7_16 rfl rfl dX7_file_63 ?_
            refine lv_iconst (v := 2) hx hb dX7_file_66 (by decide) ?_
            refine lv_aload_n hx hb dX7_file_67 rfl (lv_at hl 0 rfl) ?_
            refine gf (v := .int (stI S 4)) hC hw in_X7 0 5 6 (cM_0 cy a S) rfl (by decide) lf_RX7_81 rfl rfl dX7_file_68 ?_
            refine lv_imul hx hb dX7_file_71 ?_
            refine lv_iload_n hx hb dX7_file_72 rfl (lv_at hl 1 rfl) ?_
            obtain ⟨hi, h⟩ := gd_at h
            refine pa hC hw 3 (cM_3 cy a S) hi (rM_3 cy a S) dX7_file_73 (fun H locs hw => ?_)
            obtain ⟨S_14, hw, h⟩ := nmw (P := fun z => InW D (wM cy a) A s.heap H locs z) hw h
            refine lv_aload_n hx hb dX7_file_74 rfl (lv_at hl 0 rfl) ?_
            refine gf (v := .ref (a 3)) hC hw in_X7 0 5 7 (cM_0 cy a S_14) rfl (by decide) lf_RX7_16 rfl rfl dX7_file_75 ?_
            refine lv_iconst (v := 2) hx hb dX7_file_78 (by decide) ?_
            refine lv_aload_n hx hb dX7_file_79 rfl (lv_at hl 0 rfl) ?_
            refine gf (v := .int (stI S_14 4)) hC hw in_X7 0 5 6 (cM_0 cy a S_14) rfl (by decide) lf_RX7_81 rfl rfl dX7_file_80 ?_
            refine lv_imul hx hb dX7_file_83 ?_
            refine lv_iconst (v := 1) hx hb dX7_file_84 (by decide) ?_
            refine lv_iadd hx hb dX7_file_85 ?_
            refine lv_iconst (v := -1) hx hb dX7_file_86 (by decide) ?_
            obtain ⟨hi, h⟩ := gd_at h
            refine pa hC hw 3 (cM_3 cy a S_14) hi (rM_3 cy a S_14) dX7_file_87 (fun H locs hw => ?_)
            obtain ⟨S_15, hw, h⟩ := nmw (P := fun z => InW D (wM cy a) A s.heap H locs z) hw h
            refine lv_aload_n hx hb dX7_file_88 rfl (lv_at hl 0 rfl) ?_
            refine gf (v := .ref (a 4)) hC hw in_X7 0 5 8 (cM_0 cy a S_15) rfl (by decide) lf_RX7_19 rfl rfl dX7_file_89 ?_
            refine lv_aload_n hx hb dX7_file_92 rfl (lv_at hl 0 rfl) ?_
            refine gf (v := .int (stI S_15 4)) hC hw in_X7 0 5 6 (cM_0 cy a S_15) rfl (by decide) lf_RX7_81 rfl rfl dX7_file_93 ?_
            refine lv_iconst (v := 1) hx hb dX7_file_96 (by decide) ?_
            refine lv_iload_n hx hb dX7_file_97 rfl (lv_at hl 2 rfl) ?_
            refine lv_ishl hx hb dX7_file_98 ?_
            obtain ⟨hi, h⟩ := gd_at h
            refine pa hC hw 4 (cM_4 cy a S_15) hi (rM_4 cy a S_15) dX7_file_99 (fun H locs hw => ?_)
            obtain ⟨S_16, hw, h⟩ := nmw (P := fun z => InW D (wM cy a) A s.heap H locs z) hw h
            refine lv_aload_n hx hb dX7_file_100 rfl (lv_at hl 0 rfl) ?_
            refine gf (v := .ref (a 5)) hC hw in_X7 0 5 9 (cM_0 cy a S_16) rfl (by decide) lf_RX7_22 rfl rfl dX7_file_101 ?_
            refine lv_aload_n hx hb dX7_file_104 rfl (lv_at hl 0 rfl) ?_
            refine gf (v := .int (stI S_16 4)) hC hw in_X7 0 5 6 (cM_0 cy a S_16) rfl (by decide) lf_RX7_81 rfl rfl dX7_file_105 ?_
            refine lv_iconst (v := 0) hx hb dX7_file_108 (by decide) ?_
            obtain ⟨hi, h⟩ := gd_at h
            refine pa hC hw 5 (cM_5 cy a S_16) hi (rM_5 cy a S_16) dX7_file_109 (fun H locs hw => ?_)
            obtain ⟨S_17, hw, h⟩ := nmw (P := fun z => InW D (wM cy a) A s.heap H locs z) hw h
            refine lv_aload_n hx hb dX7_file_110 rfl (lv_at hl 0 rfl) ?_
            refine lv_dup hx hb dX7_file_111 rfl ?_
            refine gf (v := .int (stI S_17 4)) hC hw in_X7 0 5 6 (cM_0 cy a S_17) rfl (by decide) lf_RX7_81 rfl rfl dX7_file_112 ?_
            refine lv_iconst (v := 1) hx hb dX7_file_115 (by decide) ?_
            refine lv_iadd hx hb dX7_file_116 ?_
            refine pf (ty := .int) (v := .int (((stI S_17 4) + (1 : Int32)))) hC hw in_X7 tyX7_ok nmX7 0 5 6 (cM_0 cy a S_17) rfl (by decide) lf_RX7_81 rfl rfl (by decide +kernel) rfl rfl (Nat.le_of_ble_eq_true rfl) (sM_6 cy a S_17 (((stI S_17 4) + (1 : Int32)))) dX7_file_117 (fun H locs hw => ?_)
            obtain ⟨S_18, hw, h⟩ := nmw (P := fun z => InW D (wM cy a) A s.heap H locs z) hw h
            refine lv_aload_n hx hb dX7_file_120 rfl (lv_at hl 0 rfl) ?_
            refine gf (v := .int (stI S_18 4)) hC hw in_X7 0 5 6 (cM_0 cy a S_18) rfl (by decide) lf_RX7_81 rfl rfl dX7_file_121 ?_
            refine lv_iconst (v := 1) hx hb dX7_file_124 (by decide) ?_
            refine lv_isub hx hb dX7_file_125 ?_
            exact rtI hC hr hk hw (so_at2 h).1 (so_at2 h).2 dX7_file_126
          · have h := if_at_t c_13 h
            refine lv_bipush (v := -104) hx hb dX7_file_59 (by decide) ?_
            exact rtI hC hr hk hw (so_at2 h).1 (so_at2 h).2 dX7_file_61
        · have h := if_at_f c_12 h
          refine lv_bipush (v := -103) hx hb dX7_file_48 (by decide) ?_
          exact rtI hC hr hk hw (so_at2 h).1 (so_at2 h).2 dX7_file_50
    · have h := if_at_t c_6 h
      refine lv_bipush (v := -101) hx hb dX7_file_22 (by decide) ?_
      exact rtI hC hr hk hw (so_at2 h).1 (so_at2 h).2 dX7_file_24
  · have h := if_at_t c_3 h
    refine lv_bipush (v := -102) hx hb dX7_file_12 (by decide) ?_
    exact rtI hC hr hk hw (so_at2 h).1 (so_at2 h).2 dX7_file_14
def m_X7_isFile (fu : Nat) (x1 : Int32) (S : ST) : Option Int32 :=
  bd (m_X7_in fu ((x1).toInt64) (0 : Int64) ((((stI S 4) - (1 : Int32))).toInt64)) (fun v_2 => gd (zB v_2) (some v_2))
set_option maxRecDepth 100000 in
set_option maxHeartbeats 4000000 in
theorem k_X7_isFile (l : Launch) (D : va_G) (cy : ClassId) (a : Nat → Nat) (fu : Nat) (x1 : Int32) (S : ST) (r : Int32) (h : m_X7_isFile fu x1 S = some r) : CtI l yX7_isFile cX7_isFile 2 (some .boolean) 1 [.ref (a 0), .int x1] D cy (wM cy a) S r S := by
  refine CtI_of (by decide) (Nat.le_of_ble_eq_true rfl) ?_
  intro p e s m args below meth c A ls hC hr hk hw hl
  have hC : Cx p s m c RX7 cX7_isFile 2 args D cy := hC
  have hx := hC.1
  have hb := hC.2.1
  have hl : lv_has ls 2 [(0, .ref (a 0)), (1, .int x1)] := hl
  obtain ⟨H, eH⟩ : ∃ z : Heap, z = s.heap := ⟨_, rfl⟩
  obtain ⟨locs, elocs⟩ : ∃ z : List Loc, z = [] := ⟨_, rfl⟩
  have hw : InW D (wM cy a) A s.heap H locs S := by rw [eH, elocs]; exact hw
  suffices hsu : W p l e (rmN 1) s m args below meth c H locs 0 0 (QI below args s D (wM cy a) A r S) (F0 m 0 ls []) by rw [eH, elocs] at hsu; exact hsu
  unfold m_X7_isFile at h
  refine lv_iload_n hx hb dX7_isFile_0 rfl (lv_at hl 1 rfl) ?_
  refine lv_i2l hx hb dX7_isFile_1 rfl ?_
  refine lv_lconst (v := 0) hx hb dX7_isFile_2 (by decide) ?_
  refine lv_aload_n hx hb dX7_isFile_3 rfl (lv_at hl 0 rfl) ?_
  refine gf (v := .int (stI S 4)) hC hw in_X7 0 5 6 (cM_0 cy a S) rfl (by decide) lf_RX7_81 rfl rfl dX7_isFile_4 ?_
  refine lv_iconst (v := 1) hx hb dX7_isFile_7 (by decide) ?_
  refine lv_isub hx hb dX7_isFile_8 ?_
  refine lv_i2l hx hb dX7_isFile_9 rfl ?_
  obtain ⟨v_2, hc_1, h⟩ := bd_at h
  refine caSI (As := [.long (x1).toInt64, .long (0 : Int64), .long (((stI S 4) - (1 : Int32))).toInt64]) (rest := []) hC hw hl.1 lm_RX7_61 li_RX7 lk_yX7_in ls_yX7_in 3 rfl hd_X7_in (by decide) (by decide) (Nat.le_of_ble_eq_true rfl) dX7_isFile_10 (k_X7_in l D cy (wM cy a) S fu ((x1).toInt64) (0 : Int64) ((((stI S 4) - (1 : Int32))).toInt64) _ hc_1) (fun H locs hw => ?_)
  obtain ⟨hz, h⟩ := gd_at h
  exact rtZ hC hr hk hw hz (so_at h) rfl dX7_isFile_13
def m_X7_namesOf (fu : Nat) (x1 : Int32) (S : ST) : Option Int32 :=
  gd (inB (((2 : Int32) * x1)) 10) (nm ((rdA S 2 (((2 : Int32) * x1)))) (fun x2_1 => (if x2_1 = (1 : Int32) then some (6 : Int32) else (if x2_1 ≤ (2 : Int32) then some (2 : Int32) else some (3 : Int32)))))
set_option maxRecDepth 100000 in
set_option maxHeartbeats 4000000 in
theorem k_X7_namesOf (l : Launch) (D : va_G) (cy : ClassId) (a : Nat → Nat) (fu : Nat) (x1 : Int32) (S : ST) (r : Int32) (h : m_X7_namesOf fu x1 S = some r) : CtI l yX7_namesOf cX7_namesOf 3 (some .int) 0 [.ref (a 0), .int x1] D cy (wM cy a) S r S := by
  refine CtI_of (by decide) (Nat.le_of_ble_eq_true rfl) ?_
  intro p e s m args below meth c A ls hC hr hk hw hl
  have hC : Cx p s m c RX7 cX7_namesOf 3 args D cy := hC
  have hx := hC.1
  have hb := hC.2.1
  have hl : lv_has ls 3 [(0, .ref (a 0)), (1, .int x1)] := hl
  obtain ⟨H, eH⟩ : ∃ z : Heap, z = s.heap := ⟨_, rfl⟩
  obtain ⟨locs, elocs⟩ : ∃ z : List Loc, z = [] := ⟨_, rfl⟩
  have hw : InW D (wM cy a) A s.heap H locs S := by rw [eH, elocs]; exact hw
  suffices hsu : W p l e (rmN 0) s m args below meth c H locs 0 0 (QI below args s D (wM cy a) A r S) (F0 m 0 ls []) by rw [eH, elocs] at hsu; exact hsu
  unfold m_X7_namesOf at h
  refine lv_aload_n hx hb dX7_namesOf_0 rfl (lv_at hl 0 rfl) ?_
  refine gf (v := .ref (a 3)) hC hw in_X7 0 5 7 (cM_0 cy a S) rfl (by decide) lf_RX7_16 rfl rfl dX7_namesOf_1 ?_
  refine lv_iconst (v := 2) hx hb dX7_namesOf_4 (by decide) ?_
  refine lv_iload_n hx hb dX7_namesOf_5 rfl (lv_at hl 1 rfl) ?_
  refine lv_imul hx hb dX7_namesOf_6 ?_
  obtain ⟨hi, h⟩ := gd_at h
  refine ga hC hw 3 (cM_3 cy a S) hi dX7_namesOf_7 ?_
  refine lv_topi (fun x2_1 ex2_1 => ?_)
  have h := nm_at ex2_1 h
  refine lv_istore_n (lv' := [(2, .int x2_1), (0, .ref (a 0)), (1, .int x1)]) hx hb dX7_namesOf_8 rfl hl (by decide) rfl (fun ls hl => ?_)
  refine lv_iload_n hx hb dX7_namesOf_9 rfl (lv_at hl 0 rfl) ?_
  refine lv_iconst (v := 1) hx hb dX7_namesOf_10 (by decide) ?_
  refine lv_icmp_ne (tgt := 19) hx hb dX7_namesOf_11 (by decide) (fun c_2 => ?_) (fun c_2 => ?_)
  · have h := if_at_f c_2 h
    refine lv_iload_n hx hb dX7_namesOf_19 rfl (lv_at hl 0 rfl) ?_
    refine lv_iconst (v := 2) hx hb dX7_namesOf_20 (by decide) ?_
    refine lv_icmp_le (tgt := 28) hx hb dX7_namesOf_21 (by decide) (fun c_3 => ?_) (fun c_3 => ?_)
    · have h := if_at_t c_3 h
      refine lv_iconst (v := 2) hx hb dX7_namesOf_28 (by decide) ?_
      exact rtI hC hr hk hw (so_at h) rfl dX7_namesOf_29
    · have h := if_at_f c_3 h
      refine lv_iconst (v := 3) hx hb dX7_namesOf_24 (by decide) ?_
      refine lv_goto (tgt := 29) hx hb dX7_namesOf_25 (by decide) ?_
      exact rtI hC hr hk hw (so_at h) rfl dX7_namesOf_29
  · have h := if_at_t c_2 h
    refine lv_bipush (v := 6) hx hb dX7_namesOf_14 (by decide) ?_
    refine lv_goto (tgt := 29) hx hb dX7_namesOf_16 (by decide) ?_
    exact rtI hC hr hk hw (so_at h) rfl dX7_namesOf_29
def m_X7_tell (fu : Nat) (x1 : Int32) (x2 : Int32) (S : ST) : Option Int32 :=
  (if x2 = (0 : Int32) then gd (inB (((2 : Int32) * x1)) 10) (some ((rdA S 2 (((2 : Int32) * x1))))) else (if x2 = (1 : Int32) then gd (inB x1 5) (some ((rdA S 3 x1))) else (if x2 = (2 : Int32) then gd (inB ((((2 : Int32) * x1) + (1 : Int32))) 10) (some ((rdA S 2 ((((2 : Int32) * x1) + (1 : Int32)))))) else (if x2 = (3 : Int32) then gd (inB x1 5) (some ((rdA S 4 x1))) else (if x2 = (4 : Int32) then gd (inB x1 5) ((if (rdA S 3 x1) = (0 : Int32) then some (0 : Int32) else some (1 : Int32))) else (if x2 = (5 : Int32) then bd (m_X7_namesOf fu x1 S) (fun v_9 => some v_9) else some (-102 : Int32)))))))
set_option maxRecDepth 100000 in
set_option maxHeartbeats 4000000 in
theorem k_X7_tell (l : Launch) (D : va_G) (cy : ClassId) (a : Nat → Nat) (fu : Nat) (x1 : Int32) (x2 : Int32) (S : ST) (r : Int32) (h : m_X7_tell fu x1 x2 S = some r) : CtI l yX7_tell cX7_tell 3 (some .int) 1 [.ref (a 0), .int x1, .int x2] D cy (wM cy a) S r S := by
  refine CtI_of (by decide) (Nat.le_of_ble_eq_true rfl) ?_
  intro p e s m args below meth c A ls hC hr hk hw hl
  have hC : Cx p s m c RX7 cX7_tell 3 args D cy := hC
  have hx := hC.1
  have hb := hC.2.1
  have hl : lv_has ls 3 [(0, .ref (a 0)), (1, .int x1), (2, .int x2)] := hl
  obtain ⟨H, eH⟩ : ∃ z : Heap, z = s.heap := ⟨_, rfl⟩
  obtain ⟨locs, elocs⟩ : ∃ z : List Loc, z = [] := ⟨_, rfl⟩
  have hw : InW D (wM cy a) A s.heap H locs S := by rw [eH, elocs]; exact hw
  suffices hsu : W p l e (rmN 1) s m args below meth c H locs 0 0 (QI below args s D (wM cy a) A r S) (F0 m 0 ls []) by rw [eH, elocs] at hsu; exact hsu
  unfold m_X7_tell at h
  refine lv_iload_n hx hb dX7_tell_0 rfl (lv_at hl 2 rfl) ?_
  by_cases c_1 : x2 = (0 : Int32)
  · have h := if_at_t c_1 h
    refine lv_tableIn (off := 39) (tgt := 40) hx hb dX7_tell_1 (by rw [c_1]; decide) (by rw [c_1]; decide) (by rw [c_1]; rfl) (by decide) ?_
    refine lv_aload_n hx hb dX7_tell_40 rfl (lv_at hl 0 rfl) ?_
    refine gf (v := .ref (a 3)) hC hw in_X7 0 5 7 (cM_0 cy a S) rfl (by decide) lf_RX7_16 rfl rfl dX7_tell_41 ?_
    refine lv_iconst (v := 2) hx hb dX7_tell_44 (by decide) ?_
    refine lv_iload_n hx hb dX7_tell_45 rfl (lv_at hl 1 rfl) ?_
    refine lv_imul hx hb dX7_tell_46 ?_
    obtain ⟨hi, h⟩ := gd_at h
    refine ga hC hw 3 (cM_3 cy a S) hi dX7_tell_47 ?_
    exact rtI hC hr hk hw (so_at h) rfl dX7_tell_48
  have h := if_at_f c_1 h
  by_cases c_2 : x2 = (1 : Int32)
  · have h := if_at_t c_2 h
    refine lv_tableIn (off := 48) (tgt := 49) hx hb dX7_tell_1 (by rw [c_2]; decide) (by rw [c_2]; decide) (by rw [c_2]; rfl) (by decide) ?_
    refine lv_aload_n hx hb dX7_tell_49 rfl (lv_at hl 0 rfl) ?_
    refine gf (v := .ref (a 4)) hC hw in_X7 0 5 8 (cM_0 cy a S) rfl (by decide) lf_RX7_19 rfl rfl dX7_tell_50 ?_
    refine lv_iload_n hx hb dX7_tell_53 rfl (lv_at hl 1 rfl) ?_
    obtain ⟨hi, h⟩ := gd_at h
    refine ga hC hw 4 (cM_4 cy a S) hi dX7_tell_54 ?_
    exact rtI hC hr hk hw (so_at h) rfl dX7_tell_55
  have h := if_at_f c_2 h
  by_cases c_3 : x2 = (2 : Int32)
  · have h := if_at_t c_3 h
    refine lv_tableIn (off := 55) (tgt := 56) hx hb dX7_tell_1 (by rw [c_3]; decide) (by rw [c_3]; decide) (by rw [c_3]; rfl) (by decide) ?_
    refine lv_aload_n hx hb dX7_tell_56 rfl (lv_at hl 0 rfl) ?_
    refine gf (v := .ref (a 3)) hC hw in_X7 0 5 7 (cM_0 cy a S) rfl (by decide) lf_RX7_16 rfl rfl dX7_tell_57 ?_
    refine lv_iconst (v := 2) hx hb dX7_tell_60 (by decide) ?_
    refine lv_iload_n hx hb dX7_tell_61 rfl (lv_at hl 1 rfl) ?_
    refine lv_imul hx hb dX7_tell_62 ?_
    refine lv_iconst (v := 1) hx hb dX7_tell_63 (by decide) ?_
    refine lv_iadd hx hb dX7_tell_64 ?_
    obtain ⟨hi, h⟩ := gd_at h
    refine ga hC hw 3 (cM_3 cy a S) hi dX7_tell_65 ?_
    exact rtI hC hr hk hw (so_at h) rfl dX7_tell_66
  have h := if_at_f c_3 h
  by_cases c_4 : x2 = (3 : Int32)
  · have h := if_at_t c_4 h
    refine lv_tableIn (off := 66) (tgt := 67) hx hb dX7_tell_1 (by rw [c_4]; decide) (by rw [c_4]; decide) (by rw [c_4]; rfl) (by decide) ?_
    refine lv_aload_n hx hb dX7_tell_67 rfl (lv_at hl 0 rfl) ?_
    refine gf (v := .ref (a 5)) hC hw in_X7 0 5 9 (cM_0 cy a S) rfl (by decide) lf_RX7_22 rfl rfl dX7_tell_68 ?_
    refine lv_iload_n hx hb dX7_tell_71 rfl (lv_at hl 1 rfl) ?_
    obtain ⟨hi, h⟩ := gd_at h
    refine ga hC hw 5 (cM_5 cy a S) hi dX7_tell_72 ?_
    exact rtI hC hr hk hw (so_at h) rfl dX7_tell_73
  have h := if_at_f c_4 h
  by_cases c_5 : x2 = (4 : Int32)
  · have h := if_at_t c_5 h
    refine lv_tableIn (off := 73) (tgt := 74) hx hb dX7_tell_1 (by rw [c_5]; decide) (by rw [c_5]; decide) (by rw [c_5]; rfl) (by decide) ?_
    refine lv_aload_n hx hb dX7_tell_74 rfl (lv_at hl 0 rfl) ?_
    refine gf (v := .ref (a 4)) hC hw in_X7 0 5 8 (cM_0 cy a S) rfl (by decide) lf_RX7_19 rfl rfl dX7_tell_75 ?_
    refine lv_iload_n hx hb dX7_tell_78 rfl (lv_at hl 1 rfl) ?_
    obtain ⟨hi, h⟩ := gd_at h
    refine ga hC hw 4 (cM_4 cy a S) hi dX7_tell_79 ?_
    refine lv_if_ne (tgt := 87) hx hb dX7_tell_80 (by decide) (fun c_7 => ?_) (fun c_7 => ?_)
    · have h := if_at_f c_7 h
      refine lv_iconst (v := 1) hx hb dX7_tell_87 (by decide) ?_
      exact rtI hC hr hk hw (so_at h) rfl dX7_tell_88
    · have h := if_at_t c_7 h
      refine lv_iconst (v := 0) hx hb dX7_tell_83 (by decide) ?_
      refine lv_goto (tgt := 88) hx hb dX7_tell_84 (by decide) ?_
      exact rtI hC hr hk hw (so_at h) rfl dX7_tell_88
  have h := if_at_f c_5 h
  by_cases c_6 : x2 = (5 : Int32)
  · have h := if_at_t c_6 h
    refine lv_tableIn (off := 88) (tgt := 89) hx hb dX7_tell_1 (by rw [c_6]; decide) (by rw [c_6]; decide) (by rw [c_6]; rfl) (by decide) ?_
    refine lv_aload_n hx hb dX7_tell_89 rfl (lv_at hl 0 rfl) ?_
    refine lv_iload_n hx hb dX7_tell_90 rfl (lv_at hl 1 rfl) ?_
    obtain ⟨v_9, hc_8, h⟩ := bd_at h
    refine caVI (As := [.int x1]) (rest := []) hC hw hl.1 lm_RX7_113 li_RX7 lk_yX7_namesOf li_yX7_namesOf ll_yX7_namesOf 0 5 (cM_0 cy a S) rfl 1 rfl hd_X7_namesOf (by decide) (by decide) (Nat.le_of_ble_eq_true rfl) dX7_tell_91 (k_X7_namesOf l D cy a fu x1 S _ hc_8) (fun H locs hw => ?_)
    exact rtI hC hr hk hw (so_at h) rfl dX7_tell_94
  have h := if_at_f c_6 h
  refine lv_tableOut (tgt := 95) hx hb dX7_tell_1 (tsw_out 5 (by decide) (fun j hj => by match j, hj with | 0, _ => exact c_1 | 1, _ => exact c_2 | 2, _ => exact c_3 | 3, _ => exact c_4 | 4, _ => exact c_5 | 5, _ => exact c_6 | n + 6, hj => omega)) (by decide) ?_
  refine lv_bipush (v := -102) hx hb dX7_tell_95 (by decide) ?_
  exact rtI hC hr hk hw (so_at h) rfl dX7_tell_97
def m_X7_about (fu : Nat) (x1 : Int32) (x2 : Int32) (S : ST) : Option Int32 :=
  bd (m_X7_isFile fu x1 S) (fun v_2 => (if v_2 = (0 : Int32) then some (-101 : Int32) else bd (m_X7_tell fu x1 x2 S) (fun v_5 => some v_5)))
set_option maxRecDepth 100000 in
set_option maxHeartbeats 4000000 in
theorem k_X7_about (l : Launch) (D : va_G) (cy : ClassId) (a : Nat → Nat) (fu : Nat) (x1 : Int32) (x2 : Int32) (S : ST) (r : Int32) (h : m_X7_about fu x1 x2 S = some r) : CtI l yX7_about cX7_about 3 (some .int) 2 [.ref (a 0), .int x1, .int x2] D cy (wM cy a) S r S := by
  refine CtI_of (by decide) (Nat.le_of_ble_eq_true rfl) ?_
  intro p e s m args below meth c A ls hC hr hk hw hl
  have hC : Cx p s m c RX7 cX7_about 3 args D cy := hC
  have hx := hC.1
  have hb := hC.2.1
  have hl : lv_has ls 3 [(0, .ref (a 0)), (1, .int x1), (2, .int x2)] := hl
  obtain ⟨H, eH⟩ : ∃ z : Heap, z = s.heap := ⟨_, rfl⟩
  obtain ⟨locs, elocs⟩ : ∃ z : List Loc, z = [] := ⟨_, rfl⟩
  have hw : InW D (wM cy a) A s.heap H locs S := by rw [eH, elocs]; exact hw
  suffices hsu : W p l e (rmN 2) s m args below meth c H locs 0 0 (QI below args s D (wM cy a) A r S) (F0 m 0 ls []) by rw [eH, elocs] at hsu; exact hsu
  unfold m_X7_about at h
  refine lv_aload_n hx hb dX7_about_0 rfl (lv_at hl 0 rfl) ?_
  refine lv_iload_n hx hb dX7_about_1 rfl (lv_at hl 1 rfl) ?_
  obtain ⟨v_2, hc_1, h⟩ := bd_at h
  refine caVI (As := [.int x1]) (rest := []) hC hw hl.1 lm_RX7_117 li_RX7 lk_yX7_isFile li_yX7_isFile ll_yX7_isFile 0 5 (cM_0 cy a S) rfl 1 rfl hd_X7_isFile (by decide) (by decide) (Nat.le_of_ble_eq_true rfl) dX7_about_2 (k_X7_isFile l D cy a fu x1 S _ hc_1) (fun H locs hw => ?_)
  refine lv_if_eq (tgt := 17) hx hb dX7_about_5 (by decide) (fun c_3 => ?_) (fun c_3 => ?_)
  · have h := if_at_t c_3 h
    refine lv_bipush (v := -101) hx hb dX7_about_17 (by decide) ?_
    exact rtI hC hr hk hw (so_at h) rfl dX7_about_19
  · have h := if_at_f c_3 h
    refine lv_aload_n hx hb dX7_about_8 rfl (lv_at hl 0 rfl) ?_
    refine lv_iload_n hx hb dX7_about_9 rfl (lv_at hl 1 rfl) ?_
    refine lv_iload_n hx hb dX7_about_10 rfl (lv_at hl 2 rfl) ?_
    obtain ⟨v_5, hc_4, h⟩ := bd_at h
    refine caVI (As := [.int x1, .int x2]) (rest := []) hC hw hl.1 lm_RX7_120 li_RX7 lk_yX7_tell li_yX7_tell ll_yX7_tell 0 5 (cM_0 cy a S) rfl 2 rfl hd_X7_tell (by decide) (by decide) (Nat.le_of_ble_eq_true rfl) dX7_about_11 (k_X7_tell l D cy a fu x1 x2 S _ hc_4) (fun H locs hw => ?_)
    refine lv_goto (tgt := 19) hx hb dX7_about_14 (by decide) ?_
    exact rtI hC hr hk hw (so_at h) rfl dX7_about_19
def m_X7_as (fu : Nat) (x1 : Int32) (x2 : Int32) (S : ST) : Option Int32 :=
  bd (m_X7_isFile fu x1 S) (fun v_2 => (if v_2 = (0 : Int32) then some (-101 : Int32) else bd (m_X7_in fu ((x2).toInt64) (0 : Int64) (4 : Int64)) (fun v_5 => (if v_5 = (0 : Int32) then some (-102 : Int32) else gd (inB (((2 : Int32) * x1)) 10) (nm ((rdA S 2 (((2 : Int32) * x1)))) (fun x3_7 => jn1 (fun (v_8 : Int32) => (if v_8 = (0 : Int32) then some (-1 : Int32) else some x1)) (fun j_9 => jn0 (j_9 (1 : Int32)) (fun j_11 => (if x2 = (0 : Int32) then j_11 else (if x2 = x3_7 then j_11 else jn0 (j_9 (0 : Int32)) (fun j_14 => (if x2 = (3 : Int32) then (if x3_7 = (4 : Int32) then j_11 else j_14) else j_14))))))))))))
set_option maxRecDepth 100000 in
set_option maxHeartbeats 4000000 in
theorem k_X7_as (l : Launch) (D : va_G) (cy : ClassId) (a : Nat → Nat) (fu : Nat) (x1 : Int32) (x2 : Int32) (S : ST) (r : Int32) (h : m_X7_as fu x1 x2 S = some r) : CtI l yX7_as cX7_as 5 (some .int) 2 [.ref (a 0), .int x1, .int x2] D cy (wM cy a) S r S := by
  refine CtI_of (by decide) (Nat.le_of_ble_eq_true rfl) ?_
  intro p e s m args below meth c A ls hC hr hk hw hl
  have hC : Cx p s m c RX7 cX7_as 5 args D cy := hC
  have hx := hC.1
  have hb := hC.2.1
  have hl : lv_has ls 5 [(0, .ref (a 0)), (1, .int x1), (2, .int x2)] := hl
  obtain ⟨H, eH⟩ : ∃ z : Heap, z = s.heap := ⟨_, rfl⟩
  obtain ⟨locs, elocs⟩ : ∃ z : List Loc, z = [] := ⟨_, rfl⟩
  have hw : InW D (wM cy a) A s.heap H locs S := by rw [eH, elocs]; exact hw
  suffices hsu : W p l e (rmN 2) s m args below meth c H locs 0 0 (QI below args s D (wM cy a) A r S) (F0 m 0 ls []) by rw [eH, elocs] at hsu; exact hsu
  unfold m_X7_as at h
  refine lv_aload_n hx hb dX7_as_0 rfl (lv_at hl 0 rfl) ?_
  refine lv_iload_n hx hb dX7_as_1 rfl (lv_at hl 1 rfl) ?_
  obtain ⟨v_2, hc_1, h⟩ := bd_at h
  refine caVI (As := [.int x1]) (rest := []) hC hw hl.1 lm_RX7_117 li_RX7 lk_yX7_isFile li_yX7_isFile ll_yX7_isFile 0 5 (cM_0 cy a S) rfl 1 rfl hd_X7_isFile (by decide) (by decide) (Nat.le_of_ble_eq_true rfl) dX7_as_2 (k_X7_isFile l D cy a fu x1 S _ hc_1) (fun H locs hw => ?_)
  refine lv_if_ne (tgt := 11) hx hb dX7_as_5 (by decide) (fun c_3 => ?_) (fun c_3 => ?_)
  · have h := if_at_f c_3 h
    refine lv_iload_n hx hb dX7_as_11 rfl (lv_at hl 2 rfl) ?_
    refine lv_i2l hx hb dX7_as_12 rfl ?_
    refine lv_lconst (v := 0) hx hb dX7_as_13 (by decide) ?_
    refine lv_ldc2 hx hb hC.2.2.2.1 (hC.2.2.2.2.1 _ lc_RX7_107) dX7_as_14 ?_
    obtain ⟨v_5, hc_4, h⟩ := bd_at h
    refine caSI (As := [.long (x2).toInt64, .long (0 : Int64), .long (4 : Int64)]) (rest := []) hC hw hl.1 lm_RX7_61 li_RX7 lk_yX7_in ls_yX7_in 3 rfl hd_X7_in (by decide) (by decide) (Nat.le_of_ble_eq_true rfl) dX7_as_17 (k_X7_in l D cy (wM cy a) S fu ((x2).toInt64) (0 : Int64) (4 : Int64) _ hc_4) (fun H locs hw => ?_)
    refine lv_if_ne (tgt := 26) hx hb dX7_as_20 (by decide) (fun c_6 => ?_) (fun c_6 => ?_)
    · have h := if_at_f c_6 h
      refine lv_aload_n hx hb dX7_as_26 rfl (lv_at hl 0 rfl) ?_
      refine gf (v := .ref (a 3)) hC hw in_X7 0 5 7 (cM_0 cy a S) rfl (by decide) lf_RX7_16 rfl rfl dX7_as_27 ?_
      refine lv_iconst (v := 2) hx hb dX7_as_30 (by decide) ?_
      refine lv_iload_n hx hb dX7_as_31 rfl (lv_at hl 1 rfl) ?_
      refine lv_imul hx hb dX7_as_32 ?_
      obtain ⟨hi, h⟩ := gd_at h
      refine ga hC hw 3 (cM_3 cy a S) hi dX7_as_33 ?_
      refine lv_topi (fun x3_7 ex3_7 => ?_)
      have h := nm_at ex3_7 h
      refine lv_istore_n (lv' := [(3, .int x3_7), (0, .ref (a 0)), (1, .int x1), (2, .int x2)]) hx hb dX7_as_34 rfl hl (by decide) rfl (fun ls hl => ?_)
      refine lv_iload_n hx hb dX7_as_35 rfl (lv_at hl 3 rfl) ?_
      refine jn1_ok (fun (v_8 : Int32) => ∀ (H : Heap) (locs : List Loc) (ls : Array Slot), InW D (wM cy a) A s.heap H locs S → lv_has ls 5 [(1, .int x1)] → W p l e (rmN 2) s m args below meth c H locs 0 0 (QI below args s D (wM cy a) A r S) (F0 m 59 ls [.int v_8])) ?_ ?_ h
      · intro v_8 h H locs ls hw hl
        refine lv_istore (lv' := [(4, .int v_8), (1, .int x1)]) hx hb dX7_as_59 hl (by decide) rfl (fun ls hl => ?_)
        refine lv_iload hx hb dX7_as_61 (lv_at hl 0 rfl) ?_
        refine lv_if_eq (tgt := 70) hx hb dX7_as_63 (by decide) (fun c_10 => ?_) (fun c_10 => ?_)
        · have h := if_at_t c_10 h
          refine lv_iconst (v := -1) hx hb dX7_as_70 (by decide) ?_
          exact rtI hC hr hk hw (so_at h) rfl dX7_as_71
        · have h := if_at_f c_10 h
          refine lv_iload_n hx hb dX7_as_66 rfl (lv_at hl 1 rfl) ?_
          refine lv_goto (tgt := 71) hx hb dX7_as_67 (by decide) ?_
          exact rtI hC hr hk hw (so_at h) rfl dX7_as_71
      · intro j_9 hj_9 h
        refine jn0_ok (∀ (H : Heap) (locs : List Loc) (ls : Array Slot), InW D (wM cy a) A s.heap H locs S → lv_has ls 5 [(1, .int x1)] → W p l e (rmN 2) s m args below meth c H locs 0 0 (QI below args s D (wM cy a) A r S) (F0 m 54 ls [])) ?_ ?_ h
        · intro h H locs ls hw hl
          refine lv_iconst (v := 1) hx hb dX7_as_54 (by decide) ?_
          refine lv_goto (tgt := 59) hx hb dX7_as_55 (by decide) ?_
          exact hj_9 (1 : Int32) h H locs ls hw (lv_sub hl [0] rfl)
        · intro j_11 hj_11 h
          refine lv_if_eq (tgt := 54) hx hb dX7_as_36 (by decide) (fun c_12 => ?_) (fun c_12 => ?_)
          · have h := if_at_t c_12 h
            exact hj_11 h H locs ls hw (lv_sub hl [2] rfl)
          · have h := if_at_f c_12 h
            refine lv_iload_n hx hb dX7_as_39 rfl (lv_at hl 3 rfl) ?_
            refine lv_iload_n hx hb dX7_as_40 rfl (lv_at hl 0 rfl) ?_
            refine lv_icmp_eq (tgt := 54) hx hb dX7_as_41 (by decide) (fun c_13 => ?_) (fun c_13 => ?_)
            · have h := if_at_t c_13 h
              exact hj_11 h H locs ls hw (lv_sub hl [2] rfl)
            · have h := if_at_f c_13 h
              refine lv_iload_n hx hb dX7_as_44 rfl (lv_at hl 3 rfl) ?_
              refine lv_iconst (v := 3) hx hb dX7_as_45 (by decide) ?_
              refine jn0_ok (∀ (H : Heap) (locs : List Loc) (ls : Array Slot), InW D (wM cy a) A s.heap H locs S → lv_has ls 5 [(1, .int x1)] → W p l e (rmN 2) s m args below meth c H locs 0 0 (QI below args s D (wM cy a) A r S) (F0 m 58 ls [])) ?_ ?_ h
              · intro h H locs ls hw hl
                refine lv_iconst (v := 0) hx hb dX7_as_58 (by decide) ?_
                exact hj_9 (0 : Int32) h H locs ls hw (lv_sub hl [0] rfl)
              · intro j_14 hj_14 h
                refine lv_icmp_ne (tgt := 58) hx hb dX7_as_46 (by decide) (fun c_15 => ?_) (fun c_15 => ?_)
                · have h := if_at_f c_15 h
                  exact hj_14 h H locs ls hw (lv_sub hl [2] rfl)
                · have h := if_at_t c_15 h
                  refine lv_iload_n hx hb dX7_as_49 rfl (lv_at hl 0 rfl) ?_
                  refine lv_iconst (v := 4) hx hb dX7_as_50 (by decide) ?_
                  refine lv_icmp_ne (tgt := 58) hx hb dX7_as_51 (by decide) (fun c_16 => ?_) (fun c_16 => ?_)
                  · have h := if_at_f c_16 h
                    exact hj_14 h H locs ls hw (lv_sub hl [2] rfl)
                  · have h := if_at_t c_16 h
                    exact hj_11 h H locs ls hw (lv_sub hl [2] rfl)
    · have h := if_at_t c_6 h
      refine lv_bipush (v := -102) hx hb dX7_as_23 (by decide) ?_
      exact rtI hC hr hk hw (so_at h) rfl dX7_as_25
  · have h := if_at_t c_3 h
    refine lv_bipush (v := -101) hx hb dX7_as_8 (by decide) ?_
    exact rtI hC hr hk hw (so_at h) rfl dX7_as_10
def m_X7_ones_L4 (fu : Nat) (x0 : Int32) (ag_3 : Int32 → Int32 → Option Int32) (x1_1 : Int32) (x2_2 : Int32) : Option Int32 :=
  (if (6 : Int32) ≤ x2_2 then some x1_1 else nm ((x1_1 + ((x0 >>> (x2_2 &&& (31 : Int32))) &&& (1 : Int32)))) (fun x1_5 => nm (x2_2 + (1 : Int32)) (fun x2_6 => ag_3 x1_5 x2_6)))
def m_X7_ones (fu : Nat) (x0 : Int32) : Option Int32 :=
  lq2 (m_X7_ones_L4 fu x0) fu (0 : Int32) (0 : Int32)
set_option maxRecDepth 100000 in
set_option maxHeartbeats 4000000 in
theorem k_X7_ones (l : Launch) (D : va_G) (cy : ClassId) (w : ST → va_W) (S : ST) (fu : Nat) (x0 : Int32) (r : Int32) (h : m_X7_ones fu x0 = some r) : CtI l yX7_ones cX7_ones 3 (some .int) 0 [.int x0] D cy w S r S := by
  refine CtI_of (by decide) (Nat.le_of_ble_eq_true rfl) ?_
  intro p e s m args below meth c A ls hC hr hk hw hl
  have hC : Cx p s m c RX7 cX7_ones 3 args D cy := hC
  have hx := hC.1
  have hb := hC.2.1
  have hl : lv_has ls 3 [(0, .int x0)] := hl
  obtain ⟨H, eH⟩ : ∃ z : Heap, z = s.heap := ⟨_, rfl⟩
  obtain ⟨locs, elocs⟩ : ∃ z : List Loc, z = [] := ⟨_, rfl⟩
  have hw : InW D w A s.heap H locs S := by rw [eH, elocs]; exact hw
  suffices hsu : W p l e (rmN 0) s m args below meth c H locs 0 0 (QI below args s D w A r S) (F0 m 0 ls []) by rw [eH, elocs] at hsu; exact hsu
  unfold m_X7_ones at h
  refine lv_iconst (v := 0) hx hb dX7_ones_0 (by decide) ?_
  refine lv_istore_n (lv' := [(1, .int (0 : Int32)), (0, .int x0)]) hx hb dX7_ones_1 rfl hl (by decide) rfl (fun ls hl => ?_)
  refine lv_iconst (v := 0) hx hb dX7_ones_2 (by decide) ?_
  refine lv_istore_n (lv' := [(2, .int (0 : Int32)), (1, .int (0 : Int32)), (0, .int x0)]) hx hb dX7_ones_3 rfl hl (by decide) rfl (fun ls hl => ?_)
  refine lq2_ok (fun (x1_1 : Int32) (x2_2 : Int32) => ∀ (H : Heap) (locs : List Loc) (ls : Array Slot), InW D w A s.heap H locs S → lv_has ls 3 [(0, .int x0), (1, .int x1_1), (2, .int x2_2)] → W p l e (rmN 0) s m args below meth c H locs 0 0 (QI below args s D w A r S) (F0 m 4 ls [])) ?_ fu (0 : Int32) (0 : Int32) h H locs ls hw (lv_sub hl [2, 1, 0] rfl)
  intro ag_3 hag_3 x1_1 x2_2 h H locs ls hw hl
  unfold m_X7_ones_L4 at h
  refine lv_iload_n hx hb dX7_ones_4 rfl (lv_at hl 2 rfl) ?_
  refine lv_bipush (v := 6) hx hb dX7_ones_5 (by decide) ?_
  refine lv_icmp_ge (tgt := 24) hx hb dX7_ones_7 (by decide) (fun c_4 => ?_) (fun c_4 => ?_)
  · have h := if_at_t c_4 h
    refine lv_iload_n hx hb dX7_ones_24 rfl (lv_at hl 1 rfl) ?_
    exact rtI hC hr hk hw (so_at h) rfl dX7_ones_25
  · have h := if_at_f c_4 h
    refine lv_iload_n hx hb dX7_ones_10 rfl (lv_at hl 1 rfl) ?_
    refine lv_iload_n hx hb dX7_ones_11 rfl (lv_at hl 0 rfl) ?_
    refine lv_iload_n hx hb dX7_ones_12 rfl (lv_at hl 2 rfl) ?_
    refine lv_ishr hx hb dX7_ones_13 ?_
    refine lv_iconst (v := 1) hx hb dX7_ones_14 (by decide) ?_
    refine lv_iand hx hb dX7_ones_15 ?_
    refine lv_iadd hx hb dX7_ones_16 ?_
    refine lv_topi (fun x1_5 ex1_5 => ?_)
    have h := nm_at ex1_5 h
    refine lv_istore_n (lv' := [(1, .int x1_5), (0, .int x0), (2, .int x2_2)]) hx hb dX7_ones_17 rfl hl (by decide) rfl (fun ls hl => ?_)
    obtain ⟨x2_6, ex2_6⟩ : ∃ z : Int32, z = x2_2 + (1 : Int32) := ⟨_, rfl⟩
    have h := nm_at ex2_6 h
    refine lv_iinc (v := x2_6) (lv' := [(2, .int x2_6), (1, .int x1_5), (0, .int x0)]) hx hb dX7_ones_18 hl (k := 2) rfl (by rw [ex2_6]; rfl) (by decide) rfl (fun ls hl => ?_)
    refine lv_goto (tgt := 4) hx hb dX7_ones_21 (by decide) ?_
    exact hag_3 x1_5 x2_6 h H locs ls hw (lv_sub hl [2, 1, 0] rfl)
def m_X7_mayCopy (fu : Nat) (x1 : Int32) (x2 : Int32) (S : ST) : Option Int32 :=
  gd (inB x1 5) (nm ((rdA S 3 x1)) (fun x3_1 => (if x3_1 = (0 : Int32) then some (0 : Int32) else (if ((x3_1 >>> (x2 &&& (31 : Int32))) &&& (1 : Int32)) = (0 : Int32) then bd (m_X7_ones fu x3_1) (fun v_5 => bd (m_X7_namesOf fu x1 S) (fun v_7 => (if v_7 ≤ v_5 then some (0 : Int32) else bd (m_X7_fullness_4 fu x2 S) (fun v_10 => (if (stI S 1) ≤ v_10 then some (0 : Int32) else some (1 : Int32)))))) else some (0 : Int32)))))
set_option maxRecDepth 100000 in
set_option maxHeartbeats 4000000 in
theorem k_X7_mayCopy (l : Launch) (D : va_G) (cy : ClassId) (a : Nat → Nat) (fu : Nat) (x1 : Int32) (x2 : Int32) (S : ST) (r : Int32) (h : m_X7_mayCopy fu x1 x2 S = some r) : CtI l yX7_mayCopy cX7_mayCopy 4 (some .boolean) 1 [.ref (a 0), .int x1, .int x2] D cy (wM cy a) S r S := by
  refine CtI_of (by decide) (Nat.le_of_ble_eq_true rfl) ?_
  intro p e s m args below meth c A ls hC hr hk hw hl
  have hC : Cx p s m c RX7 cX7_mayCopy 4 args D cy := hC
  have hx := hC.1
  have hb := hC.2.1
  have hl : lv_has ls 4 [(0, .ref (a 0)), (1, .int x1), (2, .int x2)] := hl
  obtain ⟨H, eH⟩ : ∃ z : Heap, z = s.heap := ⟨_, rfl⟩
  obtain ⟨locs, elocs⟩ : ∃ z : List Loc, z = [] := ⟨_, rfl⟩
  have hw : InW D (wM cy a) A s.heap H locs S := by rw [eH, elocs]; exact hw
  suffices hsu : W p l e (rmN 1) s m args below meth c H locs 0 0 (QI below args s D (wM cy a) A r S) (F0 m 0 ls []) by rw [eH, elocs] at hsu; exact hsu
  unfold m_X7_mayCopy at h
  refine lv_aload_n hx hb dX7_mayCopy_0 rfl (lv_at hl 0 rfl) ?_
  refine gf (v := .ref (a 4)) hC hw in_X7 0 5 8 (cM_0 cy a S) rfl (by decide) lf_RX7_19 rfl rfl dX7_mayCopy_1 ?_
  refine lv_iload_n hx hb dX7_mayCopy_4 rfl (lv_at hl 1 rfl) ?_
  obtain ⟨hi, h⟩ := gd_at h
  refine ga hC hw 4 (cM_4 cy a S) hi dX7_mayCopy_5 ?_
  refine lv_topi (fun x3_1 ex3_1 => ?_)
  have h := nm_at ex3_1 h
  refine lv_istore_n (lv' := [(3, .int x3_1), (0, .ref (a 0)), (1, .int x1), (2, .int x2)]) hx hb dX7_mayCopy_6 rfl hl (by decide) rfl (fun ls hl => ?_)
  refine lv_iload_n hx hb dX7_mayCopy_7 rfl (lv_at hl 0 rfl) ?_
  refine lv_if_eq (tgt := 51) hx hb dX7_mayCopy_8 (by decide) (fun c_2 => ?_) (fun c_2 => ?_)
  · have h := if_at_t c_2 h
    refine lv_iconst (v := 0) hx hb dX7_mayCopy_51 (by decide) ?_
    exact rtZ hC hr hk hw rfl (so_at h) rfl dX7_mayCopy_52
  · have h := if_at_f c_2 h
    refine lv_iload_n hx hb dX7_mayCopy_11 rfl (lv_at hl 0 rfl) ?_
    refine lv_iload_n hx hb dX7_mayCopy_12 rfl (lv_at hl 3 rfl) ?_
    refine lv_ishr hx hb dX7_mayCopy_13 ?_
    refine lv_iconst (v := 1) hx hb dX7_mayCopy_14 (by decide) ?_
    refine lv_iand hx hb dX7_mayCopy_15 ?_
    refine lv_if_ne (tgt := 51) hx hb dX7_mayCopy_16 (by decide) (fun c_3 => ?_) (fun c_3 => ?_)
    · have h := if_at_f c_3 h
      refine lv_iconst (v := 0) hx hb dX7_mayCopy_51 (by decide) ?_
      exact rtZ hC hr hk hw rfl (so_at h) rfl dX7_mayCopy_52
    · have h := if_at_t c_3 h
      refine lv_iload_n hx hb dX7_mayCopy_19 rfl (lv_at hl 0 rfl) ?_
      obtain ⟨v_5, hc_4, h⟩ := bd_at h
      refine caSI (As := [.int x3_1]) (rest := []) hC hw hl.1 lm_RX7_123 li_RX7 lk_yX7_ones ls_yX7_ones 1 rfl hd_X7_ones (by decide) (by decide) (Nat.le_of_ble_eq_true rfl) dX7_mayCopy_20 (k_X7_ones l D cy (wM cy a) S fu x3_1 _ hc_4) (fun H locs hw => ?_)
      refine lv_aload_n hx hb dX7_mayCopy_23 rfl (lv_at hl 1 rfl) ?_
      refine lv_iload_n hx hb dX7_mayCopy_24 rfl (lv_at hl 2 rfl) ?_
      obtain ⟨v_7, hc_6, h⟩ := bd_at h
      refine caVI (As := [.int x1]) (rest := [.int v_5]) hC hw hl.1 lm_RX7_113 li_RX7 lk_yX7_namesOf li_yX7_namesOf ll_yX7_namesOf 0 5 (cM_0 cy a S) rfl 1 rfl hd_X7_namesOf (by decide) (by decide) (Nat.le_of_ble_eq_true rfl) dX7_mayCopy_25 (k_X7_namesOf l D cy a fu x1 S _ hc_6) (fun H locs hw => ?_)
      refine lv_icmp_ge (tgt := 51) hx hb dX7_mayCopy_28 (by decide) (fun c_8 => ?_) (fun c_8 => ?_)
      · have h := if_at_t c_8 h
        refine lv_iconst (v := 0) hx hb dX7_mayCopy_51 (by decide) ?_
        exact rtZ hC hr hk hw rfl (so_at h) rfl dX7_mayCopy_52
      · have h := if_at_f c_8 h
        refine lv_aload_n hx hb dX7_mayCopy_31 rfl (lv_at hl 1 rfl) ?_
        refine lv_aload_n hx hb dX7_mayCopy_32 rfl (lv_at hl 1 rfl) ?_
        refine gf (v := .ref (a 4)) hC hw in_X7 0 5 8 (cM_0 cy a S) rfl (by decide) lf_RX7_19 rfl rfl dX7_mayCopy_33 ?_
        refine lv_iload_n hx hb dX7_mayCopy_36 rfl (lv_at hl 3 rfl) ?_
        obtain ⟨v_10, hc_9, h⟩ := bd_at h
        refine caVI (As := [.ref (a 4), .int x2]) (rest := []) hC hw hl.1 lm_RX7_95 li_RX7 lk_yX7_fullness li_yX7_fullness ll_yX7_fullness 0 5 (cM_0 cy a S) rfl 2 rfl hd_X7_fullness (by decide) (by decide) (Nat.le_of_ble_eq_true rfl) dX7_mayCopy_37 (k_X7_fullness_4 l D cy a fu x2 S _ hc_9) (fun H locs hw => ?_)
        refine lv_aload_n hx hb dX7_mayCopy_40 rfl (lv_at hl 1 rfl) ?_
        refine gf (v := .int (stI S 1)) hC hw in_X7 0 5 2 (cM_0 cy a S) rfl (by decide) lf_RX7_78 rfl rfl dX7_mayCopy_41 ?_
        refine lv_icmp_ge (tgt := 51) hx hb dX7_mayCopy_44 (by decide) (fun c_11 => ?_) (fun c_11 => ?_)
        · have h := if_at_t c_11 h
          refine lv_iconst (v := 0) hx hb dX7_mayCopy_51 (by decide) ?_
          exact rtZ hC hr hk hw rfl (so_at h) rfl dX7_mayCopy_52
        · have h := if_at_f c_11 h
          refine lv_iconst (v := 1) hx hb dX7_mayCopy_47 (by decide) ?_
          refine lv_goto (tgt := 52) hx hb dX7_mayCopy_48 (by decide) ?_
          exact rtZ hC hr hk hw rfl (so_at h) rfl dX7_mayCopy_52
def m_X7_copy (fu : Nat) (x1 : Int32) (x2 : Int32) (S : ST) : Option (Int32 × ST) :=
  bd (m_X7_isFile fu x1 S) (fun v_2 => (if v_2 = (0 : Int32) then some ((-101 : Int32), S) else bd (m_X7_isLetter fu x2) (fun v_5 => (if v_5 = (0 : Int32) then some ((-101 : Int32), S) else bd (m_X7_mayCopy fu x1 x2 S) (fun v_8 => (if v_8 = (0 : Int32) then some ((-103 : Int32), S) else gd (inB x1 5) (gd (inB x1 5) (nm (wrA S 3 x1 (((rdA S 3 x1) ||| ((1 : Int32) <<< (x2 &&& (31 : Int32)))))) (fun S_10 => gd (inB x1 5) (bd (m_X7_ones fu ((rdA S_10 3 x1))) (fun v_12 => some (v_12, S_10))))))))))))
set_option maxRecDepth 100000 in
set_option maxHeartbeats 4000000 in
theorem k_X7_copy (l : Launch) (D : va_G) (cy : ClassId) (a : Nat → Nat) (fu : Nat) (x1 : Int32) (x2 : Int32) (S : ST) (r : Int32) (S' : ST) (h : m_X7_copy fu x1 x2 S = some (r, S')) : CtI l yX7_copy cX7_copy 3 (some .int) 2 [.ref (a 0), .int x1, .int x2] D cy (wM cy a) S r S' := by
  refine CtI_of (by decide) (Nat.le_of_ble_eq_true rfl) ?_
  intro p e s m args below meth c A ls hC hr hk hw hl
  have hC : Cx p s m c RX7 cX7_copy 3 args D cy := hC
  have hx := hC.1
  have hb := hC.2.1
  have hl : lv_has ls 3 [(0, .ref (a 0)), (1, .int x1), (2, .int x2)] := hl
  obtain ⟨H, eH⟩ : ∃ z : Heap, z = s.heap := ⟨_, rfl⟩
  obtain ⟨locs, elocs⟩ : ∃ z : List Loc, z = [] := ⟨_, rfl⟩
  have hw : InW D (wM cy a) A s.heap H locs S := by rw [eH, elocs]; exact hw
  suffices hsu : W p l e (rmN 2) s m args below meth c H locs 0 0 (QI below args s D (wM cy a) A r S') (F0 m 0 ls []) by rw [eH, elocs] at hsu; exact hsu
  unfold m_X7_copy at h
  refine lv_aload_n hx hb dX7_copy_0 rfl (lv_at hl 0 rfl) ?_
  refine lv_iload_n hx hb dX7_copy_1 rfl (lv_at hl 1 rfl) ?_
  obtain ⟨v_2, hc_1, h⟩ := bd_at h
  refine caVI (As := [.int x1]) (rest := []) hC hw hl.1 lm_RX7_117 li_RX7 lk_yX7_isFile li_yX7_isFile ll_yX7_isFile 0 5 (cM_0 cy a S) rfl 1 rfl hd_X7_isFile (by decide) (by decide) (Nat.le_of_ble_eq_true rfl) dX7_copy_2 (k_X7_isFile l D cy a fu x1 S _ hc_1) (fun H locs hw => ?_)
  refine lv_if_eq (tgt := 15) hx hb dX7_copy_5 (by decide) (fun c_3 => ?_) (fun c_3 => ?_)
  · have h := if_at_t c_3 h
    refine lv_bipush (v := -101) hx hb dX7_copy_15 (by decide) ?_
    exact rtI hC hr hk hw (so_at2 h).1 (so_at2 h).2 dX7_copy_17
  · have h := if_at_f c_3 h
    refine lv_iload_n hx hb dX7_copy_8 rfl (lv_at hl 2 rfl) ?_
    obtain ⟨v_5, hc_4, h⟩ := bd_at h
    refine caSI (As := [.int x2]) (rest := []) hC hw hl.1 lm_RX7_99 li_RX7 lk_yX7_isLetter ls_yX7_isLetter 1 rfl hd_X7_isLetter (by decide) (by decide) (Nat.le_of_ble_eq_true rfl) dX7_copy_9 (k_X7_isLetter l D cy (wM cy a) S fu x2 _ hc_4) (fun H locs hw => ?_)
    refine lv_if_ne (tgt := 18) hx hb dX7_copy_12 (by decide) (fun c_6 => ?_) (fun c_6 => ?_)
    · have h := if_at_f c_6 h
      refine lv_aload_n hx hb dX7_copy_18 rfl (lv_at hl 0 rfl) ?_
      refine lv_iload_n hx hb dX7_copy_19 rfl (lv_at hl 1 rfl) ?_
      refine lv_iload_n hx hb dX7_copy_20 rfl (lv_at hl 2 rfl) ?_
      obtain ⟨v_8, hc_7, h⟩ := bd_at h
      refine caVI (As := [.int x1, .int x2]) (rest := []) hC hw hl.1 lm_RX7_126 li_RX7 lk_yX7_mayCopy li_yX7_mayCopy ll_yX7_mayCopy 0 5 (cM_0 cy a S) rfl 2 rfl hd_X7_mayCopy (by decide) (by decide) (Nat.le_of_ble_eq_true rfl) dX7_copy_21 (k_X7_mayCopy l D cy a fu x1 x2 S _ hc_7) (fun H locs hw => ?_)
      refine lv_if_ne (tgt := 30) hx hb dX7_copy_24 (by decide) (fun c_9 => ?_) (fun c_9 => ?_)
      · have h := if_at_f c_9 h
        refine lv_aload_n hx hb dX7_copy_30 rfl (lv_at hl 0 rfl) ?_
        refine gf (v := .ref (a 4)) hC hw in_X7 0 5 8 (cM_0 cy a S) rfl (by decide) lf_RX7_19 rfl rfl dX7_copy_31 ?_
        refine lv_iload_n hx hb dX7_copy_34 rfl (lv_at hl 1 rfl) ?_
        refine lv_dup2_11 hx hb dX7_copy_35 rfl rfl ?_
        obtain ⟨hi, h⟩ := gd_at h
        refine ga hC hw 4 (cM_4 cy a S) hi dX7_copy_36 ?_
        refine lv_iconst (v := 1) hx hb dX7_copy_37 (by decide) ?_
        refine lv_iload_n hx hb dX7_copy_38 rfl (lv_at hl 2 rfl) ?_
        refine lv_ishl hx hb dX7_copy_39 ?_
        refine lv_ior hx hb dX7_copy_40 ?_
        obtain ⟨hi, h⟩ := gd_at h
        refine pa hC hw 4 (cM_4 cy a S) hi (rM_4 cy a S) dX7_copy_41 (fun H locs hw => ?_)
        obtain ⟨S_10, hw, h⟩ := nmw (P := fun z => InW D (wM cy a) A s.heap H locs z) hw h
        refine lv_aload_n hx hb dX7_copy_42 rfl (lv_at hl 0 rfl) ?_
        refine gf (v := .ref (a 4)) hC hw in_X7 0 5 8 (cM_0 cy a S_10) rfl (by decide) lf_RX7_19 rfl rfl dX7_copy_43 ?_
        refine lv_iload_n hx hb dX7_copy_46 rfl (lv_at hl 1 rfl) ?_
        obtain ⟨hi, h⟩ := gd_at h
        refine ga hC hw 4 (cM_4 cy a S_10) hi dX7_copy_47 ?_
        obtain ⟨v_12, hc_11, h⟩ := bd_at h
        refine caSI (As := [.int (rdA S_10 3 x1)]) (rest := []) hC hw hl.1 lm_RX7_123 li_RX7 lk_yX7_ones ls_yX7_ones 1 rfl hd_X7_ones (by decide) (by decide) (Nat.le_of_ble_eq_true rfl) dX7_copy_48 (k_X7_ones l D cy (wM cy a) S_10 fu ((rdA S_10 3 x1)) _ hc_11) (fun H locs hw => ?_)
        exact rtI hC hr hk hw (so_at2 h).1 (so_at2 h).2 dX7_copy_51
      · have h := if_at_t c_9 h
        refine lv_bipush (v := -103) hx hb dX7_copy_27 (by decide) ?_
        exact rtI hC hr hk hw (so_at2 h).1 (so_at2 h).2 dX7_copy_29
    · have h := if_at_t c_6 h
      refine lv_bipush (v := -101) hx hb dX7_copy_15 (by decide) ?_
      exact rtI hC hr hk hw (so_at2 h).1 (so_at2 h).2 dX7_copy_17
def m_X7_mayRename_4 (fu : Nat) (x2 : Int32) (x3 : Int32) (x4 : Int32) (S : ST) : Option Int32 :=
  gd (inB x2 5) ((if (((rdA S 3 x2) >>> (x3 &&& (31 : Int32))) &&& (1 : Int32)) = (1 : Int32) then gd (inB x2 5) ((if (((rdA S 3 x2) >>> (x4 &&& (31 : Int32))) &&& (1 : Int32)) = (0 : Int32) then bd (m_X7_fullness_4 fu x4 S) (fun v_4 => (if (stI S 1) ≤ v_4 then some (0 : Int32) else some (1 : Int32))) else some (0 : Int32))) else some (0 : Int32)))
set_option maxRecDepth 100000 in
set_option maxHeartbeats 4000000 in
theorem k_X7_mayRename_4 (l : Launch) (D : va_G) (cy : ClassId) (a : Nat → Nat) (fu : Nat) (x2 : Int32) (x3 : Int32) (x4 : Int32) (S : ST) (r : Int32) (h : m_X7_mayRename_4 fu x2 x3 x4 S = some r) : CtI l yX7_mayRename cX7_mayRename 5 (some .boolean) 1 [.ref (a 0), .ref (a 4), .int x2, .int x3, .int x4] D cy (wM cy a) S r S := by
  refine CtI_of (by decide) (Nat.le_of_ble_eq_true rfl) ?_
  intro p e s m args below meth c A ls hC hr hk hw hl
  have hC : Cx p s m c RX7 cX7_mayRename 5 args D cy := hC
  have hx := hC.1
  have hb := hC.2.1
  have hl : lv_has ls 5 [(0, .ref (a 0)), (1, .ref (a 4)), (2, .int x2), (3, .int x3), (4, .int x4)] := hl
  obtain ⟨H, eH⟩ : ∃ z : Heap, z = s.heap := ⟨_, rfl⟩
  obtain ⟨locs, elocs⟩ : ∃ z : List Loc, z = [] := ⟨_, rfl⟩
  have hw : InW D (wM cy a) A s.heap H locs S := by rw [eH, elocs]; exact hw
  suffices hsu : W p l e (rmN 1) s m args below meth c H locs 0 0 (QI below args s D (wM cy a) A r S) (F0 m 0 ls []) by rw [eH, elocs] at hsu; exact hsu
  unfold m_X7_mayRename_4 at h
  refine lv_aload_n hx hb dX7_mayRename_0 rfl (lv_at hl 1 rfl) ?_
  refine lv_iload_n hx hb dX7_mayRename_1 rfl (lv_at hl 2 rfl) ?_
  obtain ⟨hi, h⟩ := gd_at h
  refine ga hC hw 4 (cM_4 cy a S) hi dX7_mayRename_2 ?_
  refine lv_iload_n hx hb dX7_mayRename_3 rfl (lv_at hl 3 rfl) ?_
  refine lv_ishr hx hb dX7_mayRename_4 ?_
  refine lv_iconst (v := 1) hx hb dX7_mayRename_5 (by decide) ?_
  refine lv_iand hx hb dX7_mayRename_6 ?_
  refine lv_iconst (v := 1) hx hb dX7_mayRename_7 (by decide) ?_
  refine lv_icmp_ne (tgt := 40) hx hb dX7_mayRename_8 (by decide) (fun c_1 => ?_) (fun c_1 => ?_)
  · have h := if_at_f c_1 h
    refine lv_iconst (v := 0) hx hb dX7_mayRename_40 (by decide) ?_
    exact rtZ hC hr hk hw rfl (so_at h) rfl dX7_mayRename_41
  · have h := if_at_t c_1 h
    refine lv_aload_n hx hb dX7_mayRename_11 rfl (lv_at hl 1 rfl) ?_
    refine lv_iload_n hx hb dX7_mayRename_12 rfl (lv_at hl 2 rfl) ?_
    obtain ⟨hi, h⟩ := gd_at h
    refine ga hC hw 4 (cM_4 cy a S) hi dX7_mayRename_13 ?_
    refine lv_iload hx hb dX7_mayRename_14 (lv_at hl 4 rfl) ?_
    refine lv_ishr hx hb dX7_mayRename_16 ?_
    refine lv_iconst (v := 1) hx hb dX7_mayRename_17 (by decide) ?_
    refine lv_iand hx hb dX7_mayRename_18 ?_
    refine lv_if_ne (tgt := 40) hx hb dX7_mayRename_19 (by decide) (fun c_2 => ?_) (fun c_2 => ?_)
    · have h := if_at_f c_2 h
      refine lv_iconst (v := 0) hx hb dX7_mayRename_40 (by decide) ?_
      exact rtZ hC hr hk hw rfl (so_at h) rfl dX7_mayRename_41
    · have h := if_at_t c_2 h
      refine lv_aload_n hx hb dX7_mayRename_22 rfl (lv_at hl 0 rfl) ?_
      refine lv_aload_n hx hb dX7_mayRename_23 rfl (lv_at hl 1 rfl) ?_
      refine lv_iload hx hb dX7_mayRename_24 (lv_at hl 4 rfl) ?_
      obtain ⟨v_4, hc_3, h⟩ := bd_at h
      refine caVI (As := [.ref (a 4), .int x4]) (rest := []) hC hw hl.1 lm_RX7_95 li_RX7 lk_yX7_fullness li_yX7_fullness ll_yX7_fullness 0 5 (cM_0 cy a S) rfl 2 rfl hd_X7_fullness (by decide) (by decide) (Nat.le_of_ble_eq_true rfl) dX7_mayRename_26 (k_X7_fullness_4 l D cy a fu x4 S _ hc_3) (fun H locs hw => ?_)
      refine lv_aload_n hx hb dX7_mayRename_29 rfl (lv_at hl 0 rfl) ?_
      refine gf (v := .int (stI S 1)) hC hw in_X7 0 5 2 (cM_0 cy a S) rfl (by decide) lf_RX7_78 rfl rfl dX7_mayRename_30 ?_
      refine lv_icmp_ge (tgt := 40) hx hb dX7_mayRename_33 (by decide) (fun c_5 => ?_) (fun c_5 => ?_)
      · have h := if_at_t c_5 h
        refine lv_iconst (v := 0) hx hb dX7_mayRename_40 (by decide) ?_
        exact rtZ hC hr hk hw rfl (so_at h) rfl dX7_mayRename_41
      · have h := if_at_f c_5 h
        refine lv_iconst (v := 1) hx hb dX7_mayRename_36 (by decide) ?_
        refine lv_goto (tgt := 41) hx hb dX7_mayRename_37 (by decide) ?_
        exact rtZ hC hr hk hw rfl (so_at h) rfl dX7_mayRename_41
def m_X7_rename (fu : Nat) (x1 : Int32) (x2 : Int32) (x3 : Int32) (S : ST) : Option (Int32 × ST) :=
  bd (m_X7_isFile fu x1 S) (fun v_2 => (if v_2 = (0 : Int32) then some ((-101 : Int32), S) else bd (m_X7_isLetter fu x2) (fun v_5 => (if v_5 = (0 : Int32) then some ((-101 : Int32), S) else bd (m_X7_isLetter fu x3) (fun v_8 => (if v_8 = (0 : Int32) then some ((-101 : Int32), S) else (if x2 = x3 then some ((-101 : Int32), S) else bd (m_X7_mayRename_4 fu x1 x2 x3 S) (fun v_12 => (if v_12 = (0 : Int32) then some ((-103 : Int32), S) else gd (inB x1 5) (gd (inB x1 5) (nm (wrA S 3 x1 ((((rdA S 3 x1) &&& (((1 : Int32) <<< (x2 &&& (31 : Int32))) ^^^ (-1 : Int32))) ||| ((1 : Int32) <<< (x3 &&& (31 : Int32)))))) (fun S_14 => bd (m_X7_fullness_4 fu x3 S_14) (fun v_16 => some (v_16, S_14))))))))))))))
set_option maxRecDepth 100000 in
set_option maxHeartbeats 4000000 in
theorem k_X7_rename (l : Launch) (D : va_G) (cy : ClassId) (a : Nat → Nat) (fu : Nat) (x1 : Int32) (x2 : Int32) (x3 : Int32) (S : ST) (r : Int32) (S' : ST) (h : m_X7_rename fu x1 x2 x3 S = some (r, S')) : CtI l yX7_rename cX7_rename 4 (some .int) 2 [.ref (a 0), .int x1, .int x2, .int x3] D cy (wM cy a) S r S' := by
  refine CtI_of (by decide) (Nat.le_of_ble_eq_true rfl) ?_
  intro p e s m args below meth c A ls hC hr hk hw hl
  have hC : Cx p s m c RX7 cX7_rename 4 args D cy := hC
  have hx := hC.1
  have hb := hC.2.1
  have hl : lv_has ls 4 [(0, .ref (a 0)), (1, .int x1), (2, .int x2), (3, .int x3)] := hl
  obtain ⟨H, eH⟩ : ∃ z : Heap, z = s.heap := ⟨_, rfl⟩
  obtain ⟨locs, elocs⟩ : ∃ z : List Loc, z = [] := ⟨_, rfl⟩
  have hw : InW D (wM cy a) A s.heap H locs S := by rw [eH, elocs]; exact hw
  suffices hsu : W p l e (rmN 2) s m args below meth c H locs 0 0 (QI below args s D (wM cy a) A r S') (F0 m 0 ls []) by rw [eH, elocs] at hsu; exact hsu
  unfold m_X7_rename at h
  refine lv_aload_n hx hb dX7_rename_0 rfl (lv_at hl 0 rfl) ?_
  refine lv_iload_n hx hb dX7_rename_1 rfl (lv_at hl 1 rfl) ?_
  obtain ⟨v_2, hc_1, h⟩ := bd_at h
  refine caVI (As := [.int x1]) (rest := []) hC hw hl.1 lm_RX7_117 li_RX7 lk_yX7_isFile li_yX7_isFile ll_yX7_isFile 0 5 (cM_0 cy a S) rfl 1 rfl hd_X7_isFile (by decide) (by decide) (Nat.le_of_ble_eq_true rfl) dX7_rename_2 (k_X7_isFile l D cy a fu x1 S _ hc_1) (fun H locs hw => ?_)
  refine lv_if_eq (tgt := 27) hx hb dX7_rename_5 (by decide) (fun c_3 => ?_) (fun c_3 => ?_)
  · have h := if_at_t c_3 h
    refine lv_bipush (v := -101) hx hb dX7_rename_27 (by decide) ?_
    exact rtI hC hr hk hw (so_at2 h).1 (so_at2 h).2 dX7_rename_29
  · have h := if_at_f c_3 h
    refine lv_iload_n hx hb dX7_rename_8 rfl (lv_at hl 2 rfl) ?_
    obtain ⟨v_5, hc_4, h⟩ := bd_at h
    refine caSI (As := [.int x2]) (rest := []) hC hw hl.1 lm_RX7_99 li_RX7 lk_yX7_isLetter ls_yX7_isLetter 1 rfl hd_X7_isLetter (by decide) (by decide) (Nat.le_of_ble_eq_true rfl) dX7_rename_9 (k_X7_isLetter l D cy (wM cy a) S fu x2 _ hc_4) (fun H locs hw => ?_)
    refine lv_if_eq (tgt := 27) hx hb dX7_rename_12 (by decide) (fun c_6 => ?_) (fun c_6 => ?_)
    · have h := if_at_t c_6 h
      refine lv_bipush (v := -101) hx hb dX7_rename_27 (by decide) ?_
      exact rtI hC hr hk hw (so_at2 h).1 (so_at2 h).2 dX7_rename_29
    · have h := if_at_f c_6 h
      refine lv_iload_n hx hb dX7_rename_15 rfl (lv_at hl 3 rfl) ?_
      obtain ⟨v_8, hc_7, h⟩ := bd_at h
      refine caSI (As := [.int x3]) (rest := []) hC hw hl.1 lm_RX7_99 li_RX7 lk_yX7_isLetter ls_yX7_isLetter 1 rfl hd_X7_isLetter (by decide) (by decide) (Nat.le_of_ble_eq_true rfl) dX7_rename_16 (k_X7_isLetter l D cy (wM cy a) S fu x3 _ hc_7) (fun H locs hw => ?_)
      refine lv_if_eq (tgt := 27) hx hb dX7_rename_19 (by decide) (fun c_9 => ?_) (fun c_9 => ?_)
      · have h := if_at_t c_9 h
        refine lv_bipush (v := -101) hx hb dX7_rename_27 (by decide) ?_
        exact rtI hC hr hk hw (so_at2 h).1 (so_at2 h).2 dX7_rename_29
      · have h := if_at_f c_9 h
        refine lv_iload_n hx hb dX7_rename_22 rfl (lv_at hl 2 rfl) ?_
        refine lv_iload_n hx hb dX7_rename_23 rfl (lv_at hl 3 rfl) ?_
        refine lv_icmp_ne (tgt := 30) hx hb dX7_rename_24 (by decide) (fun c_10 => ?_) (fun c_10 => ?_)
        · have h := if_at_f c_10 h
          refine lv_aload_n hx hb dX7_rename_30 rfl (lv_at hl 0 rfl) ?_
          refine lv_aload_n hx hb dX7_rename_31 rfl (lv_at hl 0 rfl) ?_
          refine gf (v := .ref (a 4)) hC hw in_X7 0 5 8 (cM_0 cy a S) rfl (by decide) lf_RX7_19 rfl rfl dX7_rename_32 ?_
          refine lv_iload_n hx hb dX7_rename_35 rfl (lv_at hl 1 rfl) ?_
          refine lv_iload_n hx hb dX7_rename_36 rfl (lv_at hl 2 rfl) ?_
          refine lv_iload_n hx hb dX7_rename_37 rfl (lv_at hl 3 rfl) ?_
          obtain ⟨v_12, hc_11, h⟩ := bd_at h
          refine caVI (As := [.ref (a 4), .int x1, .int x2, .int x3]) (rest := []) hC hw hl.1 lm_RX7_130 li_RX7 lk_yX7_mayRename li_yX7_mayRename ll_yX7_mayRename 0 5 (cM_0 cy a S) rfl 4 rfl hd_X7_mayRename (by decide) (by decide) (Nat.le_of_ble_eq_true rfl) dX7_rename_38 (k_X7_mayRename_4 l D cy a fu x1 x2 x3 S _ hc_11) (fun H locs hw => ?_)
          refine lv_if_ne (tgt := 47) hx hb dX7_rename_41 (by decide) (fun c_13 => ?_) (fun c_13 => ?_)
          · have h := if_at_f c_13 h
            refine lv_aload_n hx hb dX7_rename_47 rfl (lv_at hl 0 rfl) ?_
            refine gf (v := .ref (a 4)) hC hw in_X7 0 5 8 (cM_0 cy a S) rfl (by decide) lf_RX7_19 rfl rfl dX7_rename_48 ?_
            refine lv_iload_n hx hb dX7_rename_51 rfl (lv_at hl 1 rfl) ?_
            refine lv_aload_n hx hb dX7_rename_52 rfl (lv_at hl 0 rfl) ?_
            refine gf (v := .ref (a 4)) hC hw in_X7 0 5 8 (cM_0 cy a S) rfl (by decide) lf_RX7_19 rfl rfl dX7_rename_53 ?_
            refine lv_iload_n hx hb dX7_rename_56 rfl (lv_at hl 1 rfl) ?_
            obtain ⟨hi, h⟩ := gd_at h
            refine ga hC hw 4 (cM_4 cy a S) hi dX7_rename_57 ?_
            refine lv_iconst (v := 1) hx hb dX7_rename_58 (by decide) ?_
            refine lv_iload_n hx hb dX7_rename_59 rfl (lv_at hl 2 rfl) ?_
            refine lv_ishl hx hb dX7_rename_60 ?_
            refine lv_iconst (v := -1) hx hb dX7_rename_61 (by decide) ?_
            refine lv_ixor hx hb dX7_rename_62 ?_
            refine lv_iand hx hb dX7_rename_63 ?_
            refine lv_iconst (v := 1) hx hb dX7_rename_64 (by decide) ?_
            refine lv_iload_n hx hb dX7_rename_65 rfl (lv_at hl 3 rfl) ?_
            refine lv_ishl hx hb dX7_rename_66 ?_
            refine lv_ior hx hb dX7_rename_67 ?_
            obtain ⟨hi, h⟩ := gd_at h
            refine pa hC hw 4 (cM_4 cy a S) hi (rM_4 cy a S) dX7_rename_68 (fun H locs hw => ?_)
            obtain ⟨S_14, hw, h⟩ := nmw (P := fun z => InW D (wM cy a) A s.heap H locs z) hw h
            refine lv_aload_n hx hb dX7_rename_69 rfl (lv_at hl 0 rfl) ?_
            refine lv_aload_n hx hb dX7_rename_70 rfl (lv_at hl 0 rfl) ?_
            refine gf (v := .ref (a 4)) hC hw in_X7 0 5 8 (cM_0 cy a S_14) rfl (by decide) lf_RX7_19 rfl rfl dX7_rename_71 ?_
            refine lv_iload_n hx hb dX7_rename_74 rfl (lv_at hl 3 rfl) ?_
            obtain ⟨v_16, hc_15, h⟩ := bd_at h
            refine caVI (As := [.ref (a 4), .int x3]) (rest := []) hC hw hl.1 lm_RX7_95 li_RX7 lk_yX7_fullness li_yX7_fullness ll_yX7_fullness 0 5 (cM_0 cy a S_14) rfl 2 rfl hd_X7_fullness (by decide) (by decide) (Nat.le_of_ble_eq_true rfl) dX7_rename_75 (k_X7_fullness_4 l D cy a fu x3 S_14 _ hc_15) (fun H locs hw => ?_)
            exact rtI hC hr hk hw (so_at2 h).1 (so_at2 h).2 dX7_rename_78
          · have h := if_at_t c_13 h
            refine lv_bipush (v := -103) hx hb dX7_rename_44 (by decide) ?_
            exact rtI hC hr hk hw (so_at2 h).1 (so_at2 h).2 dX7_rename_46
        · have h := if_at_t c_10 h
          refine lv_bipush (v := -101) hx hb dX7_rename_27 (by decide) ?_
          exact rtI hC hr hk hw (so_at2 h).1 (so_at2 h).2 dX7_rename_29
def m_X7_point (fu : Nat) (x1 : Int32) (x2 : Int32) (S : ST) : Option (Int32 × ST) :=
  bd (m_X7_isFile fu x1 S) (fun v_2 => (if v_2 = (0 : Int32) then some ((-101 : Int32), S) else jn0 ((if x1 = x2 then some ((-101 : Int32), S) else gd (inB x1 5) ((if (rdA S 3 x1) = (0 : Int32) then some ((-103 : Int32), S) else gd (inB ((((2 : Int32) * x1) + (1 : Int32))) 10) (nm ((rdA S 2 ((((2 : Int32) * x1) + (1 : Int32))))) (fun x3_7 => gd (inB ((((2 : Int32) * x1) + (1 : Int32))) 10) (nm (wrA S 2 ((((2 : Int32) * x1) + (1 : Int32))) x2) (fun S_8 => some (x3_7, S_8))))))))) (fun j_4 => (if x2 = (-1 : Int32) then j_4 else bd (m_X7_isFile fu x2 S) (fun v_11 => (if v_11 = (0 : Int32) then some ((-101 : Int32), S) else j_4))))))
set_option maxRecDepth 100000 in
set_option maxHeartbeats 4000000 in
theorem k_X7_point (l : Launch) (D : va_G) (cy : ClassId) (a : Nat → Nat) (fu : Nat) (x1 : Int32) (x2 : Int32) (S : ST) (r : Int32) (S' : ST) (h : m_X7_point fu x1 x2 S = some (r, S')) : CtI l yX7_point cX7_point 4 (some .int) 2 [.ref (a 0), .int x1, .int x2] D cy (wM cy a) S r S' := by
  refine CtI_of (by decide) (Nat.le_of_ble_eq_true rfl) ?_
  intro p e s m args below meth c A ls hC hr hk hw hl
  have hC : Cx p s m c RX7 cX7_point 4 args D cy := hC
  have hx := hC.1
  have hb := hC.2.1
  have hl : lv_has ls 4 [(0, .ref (a 0)), (1, .int x1), (2, .int x2)] := hl
  obtain ⟨H, eH⟩ : ∃ z : Heap, z = s.heap := ⟨_, rfl⟩
  obtain ⟨locs, elocs⟩ : ∃ z : List Loc, z = [] := ⟨_, rfl⟩
  have hw : InW D (wM cy a) A s.heap H locs S := by rw [eH, elocs]; exact hw
  suffices hsu : W p l e (rmN 2) s m args below meth c H locs 0 0 (QI below args s D (wM cy a) A r S') (F0 m 0 ls []) by rw [eH, elocs] at hsu; exact hsu
  unfold m_X7_point at h
  refine lv_aload_n hx hb dX7_point_0 rfl (lv_at hl 0 rfl) ?_
  refine lv_iload_n hx hb dX7_point_1 rfl (lv_at hl 1 rfl) ?_
  obtain ⟨v_2, hc_1, h⟩ := bd_at h
  refine caVI (As := [.int x1]) (rest := []) hC hw hl.1 lm_RX7_117 li_RX7 lk_yX7_isFile li_yX7_isFile ll_yX7_isFile 0 5 (cM_0 cy a S) rfl 1 rfl hd_X7_isFile (by decide) (by decide) (Nat.le_of_ble_eq_true rfl) dX7_point_2 (k_X7_isFile l D cy a fu x1 S _ hc_1) (fun H locs hw => ?_)
  refine lv_if_eq (tgt := 26) hx hb dX7_point_5 (by decide) (fun c_3 => ?_) (fun c_3 => ?_)
  · have h := if_at_t c_3 h
    refine lv_bipush (v := -101) hx hb dX7_point_26 (by decide) ?_
    exact rtI hC hr hk hw (so_at2 h).1 (so_at2 h).2 dX7_point_28
  · have h := if_at_f c_3 h
    refine lv_iload_n hx hb dX7_point_8 rfl (lv_at hl 2 rfl) ?_
    refine lv_iconst (v := -1) hx hb dX7_point_9 (by decide) ?_
    refine jn0_ok (∀ (H : Heap) (locs : List Loc) (ls : Array Slot), InW D (wM cy a) A s.heap H locs S → lv_has ls 4 [(0, .ref (a 0)), (1, .int x1), (2, .int x2)] → W p l e (rmN 2) s m args below meth c H locs 0 0 (QI below args s D (wM cy a) A r S') (F0 m 21 ls [])) ?_ ?_ h
    · intro h H locs ls hw hl
      refine lv_iload_n hx hb dX7_point_21 rfl (lv_at hl 1 rfl) ?_
      refine lv_iload_n hx hb dX7_point_22 rfl (lv_at hl 2 rfl) ?_
      refine lv_icmp_ne (tgt := 29) hx hb dX7_point_23 (by decide) (fun c_5 => ?_) (fun c_5 => ?_)
      · have h := if_at_f c_5 h
        refine lv_aload_n hx hb dX7_point_29 rfl (lv_at hl 0 rfl) ?_
        refine gf (v := .ref (a 4)) hC hw in_X7 0 5 8 (cM_0 cy a S) rfl (by decide) lf_RX7_19 rfl rfl dX7_point_30 ?_
        refine lv_iload_n hx hb dX7_point_33 rfl (lv_at hl 1 rfl) ?_
        obtain ⟨hi, h⟩ := gd_at h
        refine ga hC hw 4 (cM_4 cy a S) hi dX7_point_34 ?_
        refine lv_if_ne (tgt := 41) hx hb dX7_point_35 (by decide) (fun c_6 => ?_) (fun c_6 => ?_)
        · have h := if_at_f c_6 h
          refine lv_aload_n hx hb dX7_point_41 rfl (lv_at hl 0 rfl) ?_
          refine gf (v := .ref (a 3)) hC hw in_X7 0 5 7 (cM_0 cy a S) rfl (by decide) lf_RX7_16 rfl rfl dX7_point_42 ?_
          refine lv_iconst (v := 2) hx hb dX7_point_45 (by decide) ?_
          refine lv_iload_n hx hb dX7_point_46 rfl (lv_at hl 1 rfl) ?_
          refine lv_imul hx hb dX7_point_47 ?_
          refine lv_iconst (v := 1) hx hb dX7_point_48 (by decide) ?_
          refine lv_iadd hx hb dX7_point_49 ?_
          obtain ⟨hi, h⟩ := gd_at h
          refine ga hC hw 3 (cM_3 cy a S) hi dX7_point_50 ?_
          refine lv_topi (fun x3_7 ex3_7 => ?_)
          have h := nm_at ex3_7 h
          refine lv_istore_n (lv' := [(3, .int x3_7), (0, .ref (a 0)), (1, .int x1), (2, .int x2)]) hx hb dX7_point_51 rfl hl (by decide) rfl (fun ls hl => ?_)
          refine lv_aload_n hx hb dX7_point_52 rfl (lv_at hl 1 rfl) ?_
          refine gf (v := .ref (a 3)) hC hw in_X7 0 5 7 (cM_0 cy a S) rfl (by decide) lf_RX7_16 rfl rfl dX7_point_53 ?_
          refine lv_iconst (v := 2) hx hb dX7_point_56 (by decide) ?_
          refine lv_iload_n hx hb dX7_point_57 rfl (lv_at hl 2 rfl) ?_
          refine lv_imul hx hb dX7_point_58 ?_
          refine lv_iconst (v := 1) hx hb dX7_point_59 (by decide) ?_
          refine lv_iadd hx hb dX7_point_60 ?_
          refine lv_iload_n hx hb dX7_point_61 rfl (lv_at hl 3 rfl) ?_
          obtain ⟨hi, h⟩ := gd_at h
          refine pa hC hw 3 (cM_3 cy a S) hi (rM_3 cy a S) dX7_point_62 (fun H locs hw => ?_)
          obtain ⟨S_8, hw, h⟩ := nmw (P := fun z => InW D (wM cy a) A s.heap H locs z) hw h
          refine lv_iload_n hx hb dX7_point_63 rfl (lv_at hl 0 rfl) ?_
          exact rtI hC hr hk hw (so_at2 h).1 (so_at2 h).2 dX7_point_64
        · have h := if_at_t c_6 h
          refine lv_bipush (v := -103) hx hb dX7_point_38 (by decide) ?_
          exact rtI hC hr hk hw (so_at2 h).1 (so_at2 h).2 dX7_point_40
      · have h := if_at_t c_5 h
        refine lv_bipush (v := -101) hx hb dX7_point_26 (by decide) ?_
        exact rtI hC hr hk hw (so_at2 h).1 (so_at2 h).2 dX7_point_28
    · intro j_4 hj_4 h
      refine lv_icmp_eq (tgt := 21) hx hb dX7_point_10 (by decide) (fun c_9 => ?_) (fun c_9 => ?_)
      · have h := if_at_t c_9 h
        exact hj_4 h H locs ls hw (lv_sub hl [0, 1, 2] rfl)
      · have h := if_at_f c_9 h
        refine lv_aload_n hx hb dX7_point_13 rfl (lv_at hl 0 rfl) ?_
        refine lv_iload_n hx hb dX7_point_14 rfl (lv_at hl 2 rfl) ?_
        obtain ⟨v_11, hc_10, h⟩ := bd_at h
        refine caVI (As := [.int x2]) (rest := []) hC hw hl.1 lm_RX7_117 li_RX7 lk_yX7_isFile li_yX7_isFile ll_yX7_isFile 0 5 (cM_0 cy a S) rfl 1 rfl hd_X7_isFile (by decide) (by decide) (Nat.le_of_ble_eq_true rfl) dX7_point_15 (k_X7_isFile l D cy a fu x2 S _ hc_10) (fun H locs hw => ?_)
        refine lv_if_eq (tgt := 26) hx hb dX7_point_18 (by decide) (fun c_12 => ?_) (fun c_12 => ?_)
        · have h := if_at_t c_12 h
          refine lv_bipush (v := -101) hx hb dX7_point_26 (by decide) ?_
          exact rtI hC hr hk hw (so_at2 h).1 (so_at2 h).2 dX7_point_28
        · have h := if_at_f c_12 h
          exact hj_4 h H locs ls hw (lv_sub hl [0, 1, 2] rfl)
