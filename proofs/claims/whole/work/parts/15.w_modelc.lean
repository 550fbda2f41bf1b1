def m_X7_forget (fu : Nat) (S : ST) : Option (Int32 × ST) :=
  nm ((stI S 7)) (fun x1_1 => nm (puI S 7 (0 : Int32)) (fun S_2 => some (x1_1, S_2)))
set_option maxRecDepth 100000 in
set_option maxHeartbeats 4000000 in
theorem k_X7_forget (l : Launch) (D : va_G) (cy : ClassId) (a : Nat → Nat) (fu : Nat) (S : ST) (r : Int32) (S' : ST) (h : m_X7_forget fu S = some (r, S')) : CtI l yX7_forget cX7_forget 2 (some .int) 0 [.ref (a 0)] D cy (wM cy a) S r S' := by
  refine CtI_of (by decide) (Nat.le_of_ble_eq_true rfl) ?_
  intro p e s m args below meth c A ls hC hr hk hw hl
  have hC : Cx p s m c RX7 cX7_forget 2 args D cy := hC
  have hx := hC.1
  have hb := hC.2.1
  have hl : lv_has ls 2 [(0, .ref (a 0))] := hl
  obtain ⟨H, eH⟩ : ∃ z : Heap, z = s.heap := ⟨_, rfl⟩
  obtain ⟨locs, elocs⟩ : ∃ z : List Loc, z = [] := ⟨_, rfl⟩
  have hw : InW D (wM cy a) A s.heap H locs S := by rw [eH, elocs]; exact hw
  suffices hsu : W p l e (rmN 0) s m args below meth c H locs 0 0 (QI below args s D (wM cy a) A r S') (F0 m 0 ls []) by rw [eH, elocs] at hsu; exact hsu
  unfold m_X7_forget at h
  refine lv_aload_n hx hb dX7_forget_0 rfl (lv_at hl 0 rfl) ?_
  refine gf (v := .int (stI S 7)) hC hw in_X7 0 5 16 (cM_0 cy a S) rfl (by decide) lf_RX7_87 rfl rfl dX7_forget_1 ?_
  refine lv_topi (fun x1_1 ex1_1 => ?_)
  have h := nm_at ex1_1 h
  refine lv_istore_n (lv' := [(1, .int x1_1), (0, .ref (a 0))]) hx hb dX7_forget_4 rfl hl (by decide) rfl (fun ls hl => ?_)
  refine lv_aload_n hx hb dX7_forget_5 rfl (lv_at hl 1 rfl) ?_
  refine lv_iconst (v := 0) hx hb dX7_forget_6 (by decide) ?_
  refine pf (ty := .int) (v := .int (0 : Int32)) hC hw in_X7 tyX7_ok nmX7 0 5 16 (cM_0 cy a S) rfl (by decide) lf_RX7_87 rfl rfl (by decide +kernel) rfl rfl (Nat.le_of_ble_eq_true rfl) (sM_16 cy a S (0 : Int32)) dX7_forget_7 (fun H locs hw => ?_)
  obtain ⟨S_2, hw, h⟩ := nmw (P := fun z => InW D (wM cy a) A s.heap H locs z) hw h
  refine lv_iload_n hx hb dX7_forget_10 rfl (lv_at hl 0 rfl) ?_
  exact rtI hC hr hk hw (so_at2 h).1 (so_at2 h).2 dX7_forget_11
def m_X7_livesNow_L4 (fu : Nat) (S : ST) (ag_3 : Int32 → Int32 → Option Int32) (x1_1 : Int32) (x2_2 : Int32) : Option Int32 :=
  (if (stI S 4) ≤ x2_2 then some x1_1 else gd (inB x2_2 5) (jn1 (fun (v_5 : Int32) => nm ((x1_1 ||| v_5)) (fun x1_7 => nm (x2_2 + (1 : Int32)) (fun x2_8 => ag_3 x1_7 x2_8))) (fun j_6 => (if (rdA S 5 x2_2) = (0 : Int32) then j_6 (0 : Int32) else j_6 (((1 : Int32) <<< (x2_2 &&& (31 : Int32))))))))
def m_X7_livesNow (fu : Nat) (S : ST) : Option Int32 :=
  lq2 (m_X7_livesNow_L4 fu S) fu (0 : Int32) (0 : Int32)
set_option maxRecDepth 100000 in
set_option maxHeartbeats 4000000 in
theorem k_X7_livesNow (l : Launch) (D : va_G) (cy : ClassId) (a : Nat → Nat) (fu : Nat) (S : ST) (r : Int32) (h : m_X7_livesNow fu S = some r) : CtI l yX7_livesNow cX7_livesNow 3 (some .int) 0 [.ref (a 0)] D cy (wM cy a) S r S := by
  refine CtI_of (by decide) (Nat.le_of_ble_eq_true rfl) ?_
  intro p e s m args below meth c A ls hC hr hk hw hl
  have hC : Cx p s m c RX7 cX7_livesNow 3 args D cy := hC
  have hx := hC.1
  have hb := hC.2.1
  have hl : lv_has ls 3 [(0, .ref (a 0))] := hl
  obtain ⟨H, eH⟩ : ∃ z : Heap, z = s.heap := ⟨_, rfl⟩
  obtain ⟨locs, elocs⟩ : ∃ z : List Loc, z = [] := ⟨_, rfl⟩
  have hw : InW D (wM cy a) A s.heap H locs S := by rw [eH, elocs]; exact hw
  suffices hsu : W p l e (rmN 0) s m args below meth c H locs 0 0 (QI below args s D (wM cy a) A r S) (F0 m 0 ls []) by rw [eH, elocs] at hsu; exact hsu
  unfold m_X7_livesNow at h
  refine lv_iconst (v := 0) hx hb dX7_livesNow_0 (by decide) ?_
  refine lv_istore_n (lv' := [(1, .int (0 : Int32)), (0, .ref (a 0))]) hx hb dX7_livesNow_1 rfl hl (by decide) rfl (fun ls hl => ?_)
  refine lv_iconst (v := 0) hx hb dX7_livesNow_2 (by decide) ?_
  refine lv_istore_n (lv' := [(2, .int (0 : Int32)), (1, .int (0 : Int32)), (0, .ref (a 0))]) hx hb dX7_livesNow_3 rfl hl (by decide) rfl (fun ls hl => ?_)
  refine lq2_ok (fun (x1_1 : Int32) (x2_2 : Int32) => ∀ (H : Heap) (locs : List Loc) (ls : Array Slot), InW D (wM cy a) A s.heap H locs S → lv_has ls 3 [(0, .ref (a 0)), (1, .int x1_1), (2, .int x2_2)] → W p l e (rmN 0) s m args below meth c H locs 0 0 (QI below args s D (wM cy a) A r S) (F0 m 4 ls [])) ?_ fu (0 : Int32) (0 : Int32) h H locs ls hw (lv_sub hl [2, 1, 0] rfl)
  intro ag_3 hag_3 x1_1 x2_2 h H locs ls hw hl
  unfold m_X7_livesNow_L4 at h
  refine lv_iload_n hx hb dX7_livesNow_4 rfl (lv_at hl 2 rfl) ?_
  refine lv_aload_n hx hb dX7_livesNow_5 rfl (lv_at hl 0 rfl) ?_
  refine gf (v := .int (stI S 4)) hC hw in_X7 0 5 6 (cM_0 cy a S) rfl (by decide) lf_RX7_81 rfl rfl dX7_livesNow_6 ?_
  refine lv_icmp_ge (tgt := 37) hx hb dX7_livesNow_9 (by decide) (fun c_4 => ?_) (fun c_4 => ?_)
  · have h := if_at_t c_4 h
    refine lv_iload_n hx hb dX7_livesNow_37 rfl (lv_at hl 1 rfl) ?_
    exact rtI hC hr hk hw (so_at h) rfl dX7_livesNow_38
  · have h := if_at_f c_4 h
    refine lv_iload_n hx hb dX7_livesNow_12 rfl (lv_at hl 1 rfl) ?_
    refine lv_aload_n hx hb dX7_livesNow_13 rfl (lv_at hl 0 rfl) ?_
    refine gf (v := .ref (a 6)) hC hw in_X7 0 5 10 (cM_0 cy a S) rfl (by decide) lf_RX7_25 rfl rfl dX7_livesNow_14 ?_
    refine lv_iload_n hx hb dX7_livesNow_17 rfl (lv_at hl 2 rfl) ?_
    obtain ⟨hi, h⟩ := gd_at h
    refine ga hC hw 6 (cM_6 cy a S) hi dX7_livesNow_18 ?_
    refine jn1_ok (fun (v_5 : Int32) => ∀ (H : Heap) (locs : List Loc) (ls : Array Slot), InW D (wM cy a) A s.heap H locs S → lv_has ls 3 [(0, .ref (a 0)), (2, .int x2_2)] → W p l e (rmN 0) s m args below meth c H locs 0 0 (QI below args s D (wM cy a) A r S) (F0 m 29 ls [.int v_5, .int x1_1])) ?_ ?_ h
    · intro v_5 h H locs ls hw hl
      refine lv_ior hx hb dX7_livesNow_29 ?_
      refine lv_topi (fun x1_7 ex1_7 => ?_)
      have h := nm_at ex1_7 h
      refine lv_istore_n (lv' := [(1, .int x1_7), (0, .ref (a 0)), (2, .int x2_2)]) hx hb dX7_livesNow_30 rfl hl (by decide) rfl (fun ls hl => ?_)
      obtain ⟨x2_8, ex2_8⟩ : ∃ z : Int32, z = x2_2 + (1 : Int32) := ⟨_, rfl⟩
      have h := nm_at ex2_8 h
      refine lv_iinc (v := x2_8) (lv' := [(2, .int x2_8), (1, .int x1_7), (0, .ref (a 0))]) hx hb dX7_livesNow_31 hl (k := 2) rfl (by rw [ex2_8]; rfl) (by decide) rfl (fun ls hl => ?_)
      refine lv_goto (tgt := 4) hx hb dX7_livesNow_34 (by decide) ?_
      exact hag_3 x1_7 x2_8 h H locs ls hw (lv_sub hl [2, 1, 0] rfl)
    · intro j_6 hj_6 h
      refine lv_if_eq (tgt := 28) hx hb dX7_livesNow_19 (by decide) (fun c_9 => ?_) (fun c_9 => ?_)
      · have h := if_at_t c_9 h
        refine lv_iconst (v := 0) hx hb dX7_livesNow_28 (by decide) ?_
        exact hj_6 (0 : Int32) h H locs ls hw (lv_sub hl [0, 2] rfl)
      · have h := if_at_f c_9 h
        refine lv_iconst (v := 1) hx hb dX7_livesNow_22 (by decide) ?_
        refine lv_iload_n hx hb dX7_livesNow_23 rfl (lv_at hl 2 rfl) ?_
        refine lv_ishl hx hb dX7_livesNow_24 ?_
        refine lv_goto (tgt := 29) hx hb dX7_livesNow_25 (by decide) ?_
        exact hj_6 (((1 : Int32) <<< (x2_2 &&& (31 : Int32)))) h H locs ls hw (lv_sub hl [0, 2] rfl)
def m_X7_isToldBy_L11 (fu : Nat) (ag_7 : Int32 → Int32 → Int32 → ST → Option (Int32 × ST)) (x2_3 : Int32) (x3_4 : Int32) (x4_5 : Int32) (S_6 : ST) : Option (Int32 × ST) :=
  (if (stI S_6 7) ≤ x4_5 then gd (zB x3_4) (some (x3_4, S_6)) else (if x3_4 = (0 : Int32) then gd (zB x3_4) (some (x3_4, S_6)) else nm ((x2_3 - x2_3 / (6 : Int32) * (6 : Int32))) (fun x5_10 => nm ((x2_3 / (6 : Int32))) (fun x2_11 => bd2 (m_X7_pass fu x5_10 S_6) (fun v_13 S_14 => gd (inB x5_10 6) (jn1 (fun (x4_15 : Int32) => nm (x4_15 + (1 : Int32)) (fun x4_17 => ag_7 x2_11 (0 : Int32) x4_17 S_14)) (fun j_16 => jn1 (fun (v_18 : Int32) => nm (x4_5 + (1 : Int32)) (fun x4_20 => ag_7 x2_11 v_18 x4_20 S_14)) (fun j_19 => (if (rdA S_14 1 x5_10) ≤ (0 : Int32) then j_16 x4_5 else gd (inB x4_5 5) (jn0 (j_19 (1 : Int32)) (fun j_22 => (if (rdA S_14 9 x4_5) = (-1 : Int32) then j_22 else gd (inB x4_5 5) (bd (m_X7_livesNow fu S_14) (fun v_25 => (if (rdA S_14 9 x4_5) = v_25 then j_22 else j_16 x4_5)))))))))))))))
def m_X7_isToldBy (fu : Nat) (x1 : Int32) (S : ST) : Option (Int32 × ST) :=
  bd (m_X7_asItIs fu S) (fun S_2 => lq4 (m_X7_isToldBy_L11 fu) fu x1 (1 : Int32) (0 : Int32) S_2)
set_option maxRecDepth 100000 in
set_option maxHeartbeats 4000000 in
theorem k_X7_isToldBy (l : Launch) (D : va_G) (cy : ClassId) (a : Nat → Nat) (fu : Nat) (x1 : Int32) (S : ST) (r : Int32) (S' : ST) (h : m_X7_isToldBy fu x1 S = some (r, S')) : CtI l yX7_isToldBy cX7_isToldBy 7 (some .boolean) 3 [.ref (a 0), .int x1] D cy (wM cy a) S r S' := by
  refine CtI_of (by decide) (Nat.le_of_ble_eq_true rfl) ?_
  intro p e s m args below meth c A ls hC hr hk hw hl
  have hC : Cx p s m c RX7 cX7_isToldBy 7 args D cy := hC
  have hx := hC.1
  have hb := hC.2.1
  have hl : lv_has ls 7 [(0, .ref (a 0)), (1, .int x1)] := hl
  obtain ⟨H, eH⟩ : ∃ z : Heap, z = s.heap := ⟨_, rfl⟩
  obtain ⟨locs, elocs⟩ : ∃ z : List Loc, z = [] := ⟨_, rfl⟩
  have hw : InW D (wM cy a) A s.heap H locs S := by rw [eH, elocs]; exact hw
  suffices hsu : W p l e (rmN 3) s m args below meth c H locs 0 0 (QI below args s D (wM cy a) A r S') (F0 m 0 ls []) by rw [eH, elocs] at hsu; exact hsu
  unfold m_X7_isToldBy at h
  refine lv_aload_n hx hb dX7_isToldBy_0 rfl (lv_at hl 0 rfl) ?_
  obtain ⟨S_2, hc_1, h⟩ := bd_at h
  refine caVV (As := []) (rest := []) hC hw hl.1 lm_RX7_144 li_RX7 lk_yX7_asItIs li_yX7_asItIs ll_yX7_asItIs 0 5 (cM_0 cy a S) rfl 0 rfl hd_X7_asItIs (by decide) (by decide) (Nat.le_of_ble_eq_true rfl) dX7_isToldBy_1 (k_X7_asItIs l D cy a fu S _ hc_1) (fun H locs hw => ?_)
  refine lv_iload_n hx hb dX7_isToldBy_4 rfl (lv_at hl 1 rfl) ?_
  refine lv_istore_n (lv' := [(2, .int x1), (0, .ref (a 0)), (1, .int x1)]) hx hb dX7_isToldBy_5 rfl hl (by decide) rfl (fun ls hl => ?_)
  refine lv_iconst (v := 1) hx hb dX7_isToldBy_6 (by decide) ?_
  refine lv_istore_n (lv' := [(3, .int (1 : Int32)), (2, .int x1), (0, .ref (a 0)), (1, .int x1)]) hx hb dX7_isToldBy_7 rfl hl (by decide) rfl (fun ls hl => ?_)
  refine lv_iconst (v := 0) hx hb dX7_isToldBy_8 (by decide) ?_
  refine lv_istore (lv' := [(4, .int (0 : Int32)), (3, .int (1 : Int32)), (2, .int x1), (0, .ref (a 0)), (1, .int x1)]) hx hb dX7_isToldBy_9 hl (by decide) rfl (fun ls hl => ?_)
  refine lq4_ok (fun (x2_3 : Int32) (x3_4 : Int32) (x4_5 : Int32) (S_6 : ST) => ∀ (H : Heap) (locs : List Loc) (ls : Array Slot), InW D (wM cy a) A s.heap H locs S_6 → lv_has ls 7 [(0, .ref (a 0)), (2, .int x2_3), (3, .int x3_4), (4, .int x4_5)] → W p l e (rmN 3) s m args below meth c H locs 0 0 (QI below args s D (wM cy a) A r S') (F0 m 11 ls [])) ?_ fu x1 (1 : Int32) (0 : Int32) S_2 h H locs ls hw (lv_sub hl [3, 2, 1, 0] rfl)
  intro ag_7 hag_7 x2_3 x3_4 x4_5 S_6 h H locs ls hw hl
  unfold m_X7_isToldBy_L11 at h
  refine lv_iload hx hb dX7_isToldBy_11 (lv_at hl 3 rfl) ?_
  refine lv_aload_n hx hb dX7_isToldBy_13 rfl (lv_at hl 0 rfl) ?_
  refine gf (v := .int (stI S_6 7)) hC hw in_X7 0 5 16 (cM_0 cy a S_6) rfl (by decide) lf_RX7_87 rfl rfl dX7_isToldBy_14 ?_
  refine lv_icmp_ge (tgt := 90) hx hb dX7_isToldBy_17 (by decide) (fun c_8 => ?_) (fun c_8 => ?_)
  · have h := if_at_t c_8 h
    refine lv_iload_n hx hb dX7_isToldBy_90 rfl (lv_at hl 2 rfl) ?_
    obtain ⟨hz, h⟩ := gd_at h
    exact rtZ hC hr hk hw hz (so_at2 h).1 (so_at2 h).2 dX7_isToldBy_91
  · have h := if_at_f c_8 h
    refine lv_iload_n hx hb dX7_isToldBy_20 rfl (lv_at hl 2 rfl) ?_
    refine lv_if_eq (tgt := 90) hx hb dX7_isToldBy_21 (by decide) (fun c_9 => ?_) (fun c_9 => ?_)
    · have h := if_at_t c_9 h
      refine lv_iload_n hx hb dX7_isToldBy_90 rfl (lv_at hl 2 rfl) ?_
      obtain ⟨hz, h⟩ := gd_at h
      exact rtZ hC hr hk hw hz (so_at2 h).1 (so_at2 h).2 dX7_isToldBy_91
    · have h := if_at_f c_9 h
      refine lv_iload_n hx hb dX7_isToldBy_24 rfl (lv_at hl 1 rfl) ?_
      refine lv_bipush (v := 6) hx hb dX7_isToldBy_25 (by decide) ?_
      refine lv_irem hx hb dX7_isToldBy_27 (by decide) ?_
      refine lv_topi (fun x5_10 ex5_10 => ?_)
      have h := nm_at ex5_10 h
      refine lv_istore (lv' := [(5, .int x5_10), (0, .ref (a 0)), (2, .int x2_3), (3, .int x3_4), (4, .int x4_5)]) hx hb dX7_isToldBy_28 hl (by decide) rfl (fun ls hl => ?_)
      refine lv_iload_n hx hb dX7_isToldBy_30 rfl (lv_at hl 2 rfl) ?_
      refine lv_bipush (v := 6) hx hb dX7_isToldBy_31 (by decide) ?_
      refine lv_idiv hx hb dX7_isToldBy_33 (by decide) ?_
      refine lv_topi (fun x2_11 ex2_11 => ?_)
      have h := nm_at ex2_11 h
      refine lv_istore_n (lv' := [(2, .int x2_11), (5, .int x5_10), (0, .ref (a 0)), (3, .int x3_4), (4, .int x4_5)]) hx hb dX7_isToldBy_34 rfl hl (by decide) rfl (fun ls hl => ?_)
      refine lv_aload_n hx hb dX7_isToldBy_35 rfl (lv_at hl 2 rfl) ?_
      refine lv_iload hx hb dX7_isToldBy_36 (lv_at hl 1 rfl) ?_
      obtain ⟨v_13, S_14, hc_12, h⟩ := bd2_at h
      refine caVI (As := [.int x5_10]) (rest := []) hC hw hl.1 lm_RX7_147 li_RX7 lk_yX7_pass li_yX7_pass ll_yX7_pass 0 5 (cM_0 cy a S_6) rfl 1 rfl hd_X7_pass (by decide) (by decide) (Nat.le_of_ble_eq_true rfl) dX7_isToldBy_38 (k_X7_pass l D cy a fu x5_10 S_6 _ _ hc_12) (fun H locs hw => ?_)
      refine lv_istore (lv' := [(6, .int v_13), (2, .int x2_11), (5, .int x5_10), (0, .ref (a 0)), (3, .int x3_4), (4, .int x4_5)]) hx hb dX7_isToldBy_41 hl (by decide) rfl (fun ls hl => ?_)
      refine lv_aload_n hx hb dX7_isToldBy_43 rfl (lv_at hl 3 rfl) ?_
      refine gf (v := .ref (a 2)) hC hw in_X7 0 5 5 (cM_0 cy a S_14) rfl (by decide) lf_RX7_13 rfl rfl dX7_isToldBy_44 ?_
      refine lv_iload hx hb dX7_isToldBy_47 (lv_at hl 2 rfl) ?_
      obtain ⟨hi, h⟩ := gd_at h
      refine ga hC hw 2 (cM_2 cy a S_14) hi dX7_isToldBy_49 ?_
      refine jn1_ok (fun (x4_15 : Int32) => ∀ (H : Heap) (locs : List Loc) (ls : Array Slot), InW D (wM cy a) A s.heap H locs S_14 → lv_has ls 7 [(0, .ref (a 0)), (2, .int x2_11), (4, .int x4_15)] → W p l e (rmN 3) s m args below meth c H locs 0 0 (QI below args s D (wM cy a) A r S') (F0 m 82 ls [])) ?_ ?_ h
      · intro x4_15 h H locs ls hw hl
        refine lv_iconst (v := 0) hx hb dX7_isToldBy_82 (by decide) ?_
        refine lv_istore_n (lv' := [(3, .int (0 : Int32)), (0, .ref (a 0)), (2, .int x2_11), (4, .int x4_15)]) hx hb dX7_isToldBy_83 rfl hl (by decide) rfl (fun ls hl => ?_)
        obtain ⟨x4_17, ex4_17⟩ : ∃ z : Int32, z = x4_15 + (1 : Int32) := ⟨_, rfl⟩
        have h := nm_at ex4_17 h
        refine lv_iinc (v := x4_17) (lv' := [(4, .int x4_17), (3, .int (0 : Int32)), (0, .ref (a 0)), (2, .int x2_11)]) hx hb dX7_isToldBy_84 hl (k := 3) rfl (by rw [ex4_17]; rfl) (by decide) rfl (fun ls hl => ?_)
        refine lv_goto (tgt := 11) hx hb dX7_isToldBy_87 (by decide) ?_
        exact hag_7 x2_11 (0 : Int32) x4_17 S_14 h H locs ls hw (lv_sub hl [2, 3, 1, 0] rfl)
      · intro j_16 hj_16 h
        refine jn1_ok (fun (v_18 : Int32) => ∀ (H : Heap) (locs : List Loc) (ls : Array Slot), InW D (wM cy a) A s.heap H locs S_14 → lv_has ls 7 [(0, .ref (a 0)), (2, .int x2_11), (4, .int x4_5)] → W p l e (rmN 3) s m args below meth c H locs 0 0 (QI below args s D (wM cy a) A r S') (F0 m 83 ls [.int v_18])) ?_ ?_ h
        · intro v_18 h H locs ls hw hl
          refine lv_istore_n (lv' := [(3, .int v_18), (0, .ref (a 0)), (2, .int x2_11), (4, .int x4_5)]) hx hb dX7_isToldBy_83 rfl hl (by decide) rfl (fun ls hl => ?_)
          obtain ⟨x4_20, ex4_20⟩ : ∃ z : Int32, z = x4_5 + (1 : Int32) := ⟨_, rfl⟩
          have h := nm_at ex4_20 h
          refine lv_iinc (v := x4_20) (lv' := [(4, .int x4_20), (3, .int v_18), (0, .ref (a 0)), (2, .int x2_11)]) hx hb dX7_isToldBy_84 hl (k := 3) rfl (by rw [ex4_20]; rfl) (by decide) rfl (fun ls hl => ?_)
          refine lv_goto (tgt := 11) hx hb dX7_isToldBy_87 (by decide) ?_
          exact hag_7 x2_11 v_18 x4_20 S_14 h H locs ls hw (lv_sub hl [2, 3, 1, 0] rfl)
        · intro j_19 hj_19 h
          refine lv_if_le (tgt := 82) hx hb dX7_isToldBy_50 (by decide) (fun c_21 => ?_) (fun c_21 => ?_)
          · have h := if_at_t c_21 h
            exact hj_16 x4_5 h H locs ls hw (lv_sub hl [3, 1, 5] rfl)
          · have h := if_at_f c_21 h
            refine lv_aload_n hx hb dX7_isToldBy_53 rfl (lv_at hl 3 rfl) ?_
            refine gf (v := .ref (a 10)) hC hw in_X7 0 5 17 (cM_0 cy a S_14) rfl (by decide) lf_RX7_37 rfl rfl dX7_isToldBy_54 ?_
            refine lv_iload hx hb dX7_isToldBy_57 (lv_at hl 5 rfl) ?_
            obtain ⟨hi, h⟩ := gd_at h
            refine ga hC hw 10 (cM_10 cy a S_14) hi dX7_isToldBy_59 ?_
            refine lv_iconst (v := -1) hx hb dX7_isToldBy_60 (by decide) ?_
            refine jn0_ok (∀ (H : Heap) (locs : List Loc) (ls : Array Slot), InW D (wM cy a) A s.heap H locs S_14 → lv_has ls 7 [(0, .ref (a 0)), (2, .int x2_11), (4, .int x4_5)] → W p l e (rmN 3) s m args below meth c H locs 0 0 (QI below args s D (wM cy a) A r S') (F0 m 78 ls [])) ?_ ?_ h
            · intro h H locs ls hw hl
              refine lv_iconst (v := 1) hx hb dX7_isToldBy_78 (by decide) ?_
              refine lv_goto (tgt := 83) hx hb dX7_isToldBy_79 (by decide) ?_
              exact hj_19 (1 : Int32) h H locs ls hw (lv_sub hl [0, 1, 2] rfl)
            · intro j_22 hj_22 h
              refine lv_icmp_eq (tgt := 78) hx hb dX7_isToldBy_61 (by decide) (fun c_23 => ?_) (fun c_23 => ?_)
              · have h := if_at_t c_23 h
                exact hj_22 h H locs ls hw (lv_sub hl [3, 1, 5] rfl)
              · have h := if_at_f c_23 h
                refine lv_aload_n hx hb dX7_isToldBy_64 rfl (lv_at hl 3 rfl) ?_
                refine gf (v := .ref (a 10)) hC hw in_X7 0 5 17 (cM_0 cy a S_14) rfl (by decide) lf_RX7_37 rfl rfl dX7_isToldBy_65 ?_
                refine lv_iload hx hb dX7_isToldBy_68 (lv_at hl 5 rfl) ?_
                obtain ⟨hi, h⟩ := gd_at h
                refine ga hC hw 10 (cM_10 cy a S_14) hi dX7_isToldBy_70 ?_
                refine lv_aload_n hx hb dX7_isToldBy_71 rfl (lv_at hl 3 rfl) ?_
                obtain ⟨v_25, hc_24, h⟩ := bd_at h
                refine caVI (As := []) (rest := [.int (rdA S_14 9 x4_5)]) hC hw hl.1 lm_RX7_191 li_RX7 lk_yX7_livesNow li_yX7_livesNow ll_yX7_livesNow 0 5 (cM_0 cy a S_14) rfl 0 rfl hd_X7_livesNow (by decide) (by decide) (Nat.le_of_ble_eq_true rfl) dX7_isToldBy_72 (k_X7_livesNow l D cy a fu S_14 _ hc_24) (fun H locs hw => ?_)
                refine lv_icmp_ne (tgt := 82) hx hb dX7_isToldBy_75 (by decide) (fun c_26 => ?_) (fun c_26 => ?_)
                · have h := if_at_f c_26 h
                  exact hj_16 x4_5 h H locs ls hw (lv_sub hl [3, 1, 5] rfl)
                · have h := if_at_t c_26 h
                  exact hj_22 h H locs ls hw (lv_sub hl [3, 1, 5] rfl)
def m_X7_layFits_L53 (fu : Nat) (x1_18 : Int32) (x2_4 : Int32) (j_15 : Int32 → ST → Option (Int32 × ST)) (ag_22 : Int32 → Int32 → ST → Option (Int32 × ST)) (x3_19 : Int32) (x4_20 : Int32) (S_21 : ST) : Option (Int32 × ST) :=
  (if (stI S_21 7) ≤ x4_20 then j_15 x1_18 S_21 else gd (inB x4_20 5) (gd (inB x4_20 5) (nm (wrA S_21 10 x4_20 (((rdA S_21 10 x4_20) ||| ((1 : Int32) <<< ((x3_19 - x3_19 / (6 : Int32) * (6 : Int32)) &&& (31 : Int32)))))) (fun S_24 => nm ((x3_19 / (6 : Int32))) (fun x3_25 => nm (x4_20 + (1 : Int32)) (fun x4_26 => ag_22 x3_25 x4_26 S_24))))))
def m_X7_layFits_L24 (fu : Nat) (ag_6 : Int32 → Int32 → ST → Option (Int32 × ST)) (x1_3 : Int32) (x2_4 : Int32) (S_5 : ST) : Option (Int32 × ST) :=
  bd (m_X7_power fu (6 : Int32) ((stI S_5 7))) (fun v_8 => (if v_8 ≤ x2_4 then some (x1_3, S_5) else bd2 (m_X7_isToldBy fu x2_4 S_5) (fun v_11 S_12 => jn2 (fun (x1_13 : Int32) (S_14 : ST) => nm (x2_4 + (1 : Int32)) (fun x2_16 => ag_6 x1_13 x2_16 S_14)) (fun j_15 => (if v_11 = (0 : Int32) then j_15 x1_3 S_12 else nm (x1_3 + (1 : Int32)) (fun x1_18 => lq3 (m_X7_layFits_L53 fu x1_18 x2_4 j_15) fu x2_4 (0 : Int32) S_12))))))
def m_X7_layFits_L2 (fu : Nat) (j_2 : ST → Option (Int32 × ST)) (ag_29 : Int32 → ST → Option (Int32 × ST)) (x1_27 : Int32) (S_28 : ST) : Option (Int32 × ST) :=
  (if (5 : Int32) ≤ x1_27 then j_2 S_28 else gd (inB x1_27 5) (nm (wrA S_28 10 x1_27 (0 : Int32)) (fun S_31 => nm (x1_27 + (1 : Int32)) (fun x1_32 => ag_29 x1_32 S_31))))
def m_X7_layFits (fu : Nat) (S : ST) : Option (Int32 × ST) :=
  jn1 (fun (S_1 : ST) => lq3 (m_X7_layFits_L24 fu) fu (0 : Int32) (0 : Int32) S_1) (fun j_2 => lq2 (m_X7_layFits_L2 fu j_2) fu (0 : Int32) S)
set_option maxRecDepth 100000 in
set_option maxHeartbeats 4000000 in
theorem k_X7_layFits (l : Launch) (D : va_G) (cy : ClassId) (a : Nat → Nat) (fu : Nat) (S : ST) (r : Int32) (S' : ST) (h : m_X7_layFits fu S = some (r, S')) : CtI l yX7_layFits cX7_layFits 5 (some .int) 4 [.ref (a 0)] D cy (wM cy a) S r S' := by
  refine CtI_of (by decide) (Nat.le_of_ble_eq_true rfl) ?_
  intro p e s m args below meth c A ls hC hr hk hw hl
  have hC : Cx p s m c RX7 cX7_layFits 5 args D cy := hC
  have hx := hC.1
  have hb := hC.2.1
  have hl : lv_has ls 5 [(0, .ref (a 0))] := hl
  obtain ⟨H, eH⟩ : ∃ z : Heap, z = s.heap := ⟨_, rfl⟩
  obtain ⟨locs, elocs⟩ : ∃ z : List Loc, z = [] := ⟨_, rfl⟩
  have hw : InW D (wM cy a) A s.heap H locs S := by rw [eH, elocs]; exact hw
  suffices hsu : W p l e (rmN 4) s m args below meth c H locs 0 0 (QI below args s D (wM cy a) A r S') (F0 m 0 ls []) by rw [eH, elocs] at hsu; exact hsu
  unfold m_X7_layFits at h
  refine lv_iconst (v := 0) hx hb dX7_layFits_0 (by decide) ?_
  refine lv_istore_n (lv' := [(1, .int (0 : Int32)), (0, .ref (a 0))]) hx hb dX7_layFits_1 rfl hl (by decide) rfl (fun ls hl => ?_)
  refine jn1_ok (fun (S_1 : ST) => ∀ (H : Heap) (locs : List Loc) (ls : Array Slot), InW D (wM cy a) A s.heap H locs S_1 → lv_has ls 5 [(0, .ref (a 0))] → W p l e (rmN 4) s m args below meth c H locs 0 0 (QI below args s D (wM cy a) A r S') (F0 m 20 ls [])) ?_ ?_ h
  · intro S_1 h H locs ls hw hl
    refine lv_iconst (v := 0) hx hb dX7_layFits_20 (by decide) ?_
    refine lv_istore_n (lv' := [(1, .int (0 : Int32)), (0, .ref (a 0))]) hx hb dX7_layFits_21 rfl hl (by decide) rfl (fun ls hl => ?_)
    refine lv_iconst (v := 0) hx hb dX7_layFits_22 (by decide) ?_
    refine lv_istore_n (lv' := [(2, .int (0 : Int32)), (1, .int (0 : Int32)), (0, .ref (a 0))]) hx hb dX7_layFits_23 rfl hl (by decide) rfl (fun ls hl => ?_)
    refine lq3_ok (fun (x1_3 : Int32) (x2_4 : Int32) (S_5 : ST) => ∀ (H : Heap) (locs : List Loc) (ls : Array Slot), InW D (wM cy a) A s.heap H locs S_5 → lv_has ls 5 [(0, .ref (a 0)), (1, .int x1_3), (2, .int x2_4)] → W p l e (rmN 4) s m args below meth c H locs 0 0 (QI below args s D (wM cy a) A r S') (F0 m 24 ls [])) ?_ fu (0 : Int32) (0 : Int32) S_1 h H locs ls hw (lv_sub hl [2, 1, 0] rfl)
    intro ag_6 hag_6 x1_3 x2_4 S_5 h H locs ls hw hl
    unfold m_X7_layFits_L24 at h
    refine lv_iload_n hx hb dX7_layFits_24 rfl (lv_at hl 2 rfl) ?_
    refine lv_bipush (v := 6) hx hb dX7_layFits_25 (by decide) ?_
    refine lv_aload_n hx hb dX7_layFits_27 rfl (lv_at hl 0 rfl) ?_
    refine gf (v := .int (stI S_5 7)) hC hw in_X7 0 5 16 (cM_0 cy a S_5) rfl (by decide) lf_RX7_87 rfl rfl dX7_layFits_28 ?_
    obtain ⟨v_8, hc_7, h⟩ := bd_at h
    refine caSI (As := [.int (6 : Int32), .int (stI S_5 7)]) (rest := [.int x2_4]) hC hw hl.1 lm_RX7_150 li_RX7 lk_yX7_power ls_yX7_power 2 rfl hd_X7_power (by decide) (by decide) (Nat.le_of_ble_eq_true rfl) dX7_layFits_31 (k_X7_power l D cy (wM cy a) S_5 fu (6 : Int32) ((stI S_5 7)) _ hc_7) (fun H locs hw => ?_)
    refine lv_icmp_ge (tgt := 95) hx hb dX7_layFits_34 (by decide) (fun c_9 => ?_) (fun c_9 => ?_)
    · have h := if_at_t c_9 h
      refine lv_iload_n hx hb dX7_layFits_95 rfl (lv_at hl 1 rfl) ?_
      exact rtI hC hr hk hw (so_at2 h).1 (so_at2 h).2 dX7_layFits_96
    · have h := if_at_f c_9 h
      refine lv_aload_n hx hb dX7_layFits_37 rfl (lv_at hl 0 rfl) ?_
      refine lv_iload_n hx hb dX7_layFits_38 rfl (lv_at hl 2 rfl) ?_
      obtain ⟨v_11, S_12, hc_10, h⟩ := bd2_at h
      refine caVI (As := [.int x2_4]) (rest := []) hC hw hl.1 lm_RX7_194 li_RX7 lk_yX7_isToldBy li_yX7_isToldBy ll_yX7_isToldBy 0 5 (cM_0 cy a S_5) rfl 1 rfl hd_X7_isToldBy (by decide) (by decide) (Nat.le_of_ble_eq_true rfl) dX7_layFits_39 (k_X7_isToldBy l D cy a fu x2_4 S_5 _ _ hc_10) (fun H locs hw => ?_)
      refine jn2_ok (fun (x1_13 : Int32) (S_14 : ST) => ∀ (H : Heap) (locs : List Loc) (ls : Array Slot), InW D (wM cy a) A s.heap H locs S_14 → lv_has ls 5 [(0, .ref (a 0)), (1, .int x1_13), (2, .int x2_4)] → W p l e (rmN 4) s m args below meth c H locs 0 0 (QI below args s D (wM cy a) A r S') (F0 m 89 ls [])) ?_ ?_ h
      · intro x1_13 S_14 h H locs ls hw hl
        obtain ⟨x2_16, ex2_16⟩ : ∃ z : Int32, z = x2_4 + (1 : Int32) := ⟨_, rfl⟩
        have h := nm_at ex2_16 h
        refine lv_iinc (v := x2_16) (lv' := [(2, .int x2_16), (0, .ref (a 0)), (1, .int x1_13)]) hx hb dX7_layFits_89 hl (k := 2) rfl (by rw [ex2_16]; rfl) (by decide) rfl (fun ls hl => ?_)
        refine lv_goto (tgt := 24) hx hb dX7_layFits_92 (by decide) ?_
        exact hag_6 x1_13 x2_16 S_14 h H locs ls hw (lv_sub hl [1, 2, 0] rfl)
      · intro j_15 hj_15 h
        refine lv_if_eq (tgt := 89) hx hb dX7_layFits_42 (by decide) (fun c_17 => ?_) (fun c_17 => ?_)
        · have h := if_at_t c_17 h
          exact hj_15 x1_3 S_12 h H locs ls hw (lv_sub hl [0, 1, 2] rfl)
        · have h := if_at_f c_17 h
          obtain ⟨x1_18, ex1_18⟩ : ∃ z : Int32, z = x1_3 + (1 : Int32) := ⟨_, rfl⟩
          have h := nm_at ex1_18 h
          refine lv_iinc (v := x1_18) (lv' := [(1, .int x1_18), (0, .ref (a 0)), (2, .int x2_4)]) hx hb dX7_layFits_45 hl (k := 1) rfl (by rw [ex1_18]; rfl) (by decide) rfl (fun ls hl => ?_)
          refine lv_iload_n hx hb dX7_layFits_48 rfl (lv_at hl 2 rfl) ?_
          refine lv_istore_n (lv' := [(3, .int x2_4), (1, .int x1_18), (0, .ref (a 0)), (2, .int x2_4)]) hx hb dX7_layFits_49 rfl hl (by decide) rfl (fun ls hl => ?_)
          refine lv_iconst (v := 0) hx hb dX7_layFits_50 (by decide) ?_
          refine lv_istore (lv' := [(4, .int (0 : Int32)), (3, .int x2_4), (1, .int x1_18), (0, .ref (a 0)), (2, .int x2_4)]) hx hb dX7_layFits_51 hl (by decide) rfl (fun ls hl => ?_)
          refine lq3_ok (fun (x3_19 : Int32) (x4_20 : Int32) (S_21 : ST) => ∀ (H : Heap) (locs : List Loc) (ls : Array Slot), InW D (wM cy a) A s.heap H locs S_21 → lv_has ls 5 [(0, .ref (a 0)), (1, .int x1_18), (2, .int x2_4), (3, .int x3_19), (4, .int x4_20)] → W p l e (rmN 4) s m args below meth c H locs 0 0 (QI below args s D (wM cy a) A r S') (F0 m 53 ls [])) ?_ fu x2_4 (0 : Int32) S_12 h H locs ls hw (lv_sub hl [3, 2, 4, 1, 0] rfl)
          intro ag_22 hag_22 x3_19 x4_20 S_21 h H locs ls hw hl
          unfold m_X7_layFits_L53 at h
          refine lv_iload hx hb dX7_layFits_53 (lv_at hl 4 rfl) ?_
          refine lv_aload_n hx hb dX7_layFits_55 rfl (lv_at hl 0 rfl) ?_
          refine gf (v := .int (stI S_21 7)) hC hw in_X7 0 5 16 (cM_0 cy a S_21) rfl (by decide) lf_RX7_87 rfl rfl dX7_layFits_56 ?_
          refine lv_icmp_ge (tgt := 89) hx hb dX7_layFits_59 (by decide) (fun c_23 => ?_) (fun c_23 => ?_)
          · have h := if_at_t c_23 h
            exact hj_15 x1_18 S_21 h H locs ls hw (lv_sub hl [0, 1, 2] rfl)
          · have h := if_at_f c_23 h
            refine lv_aload_n hx hb dX7_layFits_62 rfl (lv_at hl 0 rfl) ?_
            refine gf (v := .ref (a 11)) hC hw in_X7 0 5 18 (cM_0 cy a S_21) rfl (by decide) lf_RX7_40 rfl rfl dX7_layFits_63 ?_
            refine lv_iload hx hb dX7_layFits_66 (lv_at hl 4 rfl) ?_
            refine lv_dup2_11 hx hb dX7_layFits_68 rfl rfl ?_
            obtain ⟨hi, h⟩ := gd_at h
            refine ga hC hw 11 (cM_11 cy a S_21) hi dX7_layFits_69 ?_
            refine lv_iconst (v := 1) hx hb dX7_layFits_70 (by decide) ?_
            refine lv_iload_n hx hb dX7_layFits_71 rfl (lv_at hl 3 rfl) ?_
            refine lv_bipush (v := 6) hx hb dX7_layFits_72 (by decide) ?_
            refine lv_irem hx hb dX7_layFits_74 (by decide) ?_
            refine lv_ishl hx hb dX7_layFits_75 ?_
            refine lv_ior hx hb dX7_layFits_76 ?_
            obtain ⟨hi, h⟩ := gd_at h
            refine pa hC hw 11 (cM_11 cy a S_21) hi (rM_11 cy a S_21) dX7_layFits_77 (fun H locs hw => ?_)
            obtain ⟨S_24, hw, h⟩ := nmw (P := fun z => InW D (wM cy a) A s.heap H locs z) hw h
            refine lv_iload_n hx hb dX7_layFits_78 rfl (lv_at hl 3 rfl) ?_
            refine lv_bipush (v := 6) hx hb dX7_layFits_79 (by decide) ?_
            refine lv_idiv hx hb dX7_layFits_81 (by decide) ?_
            refine lv_topi (fun x3_25 ex3_25 => ?_)
            have h := nm_at ex3_25 h
            refine lv_istore_n (lv' := [(3, .int x3_25), (0, .ref (a 0)), (1, .int x1_18), (2, .int x2_4), (4, .int x4_20)]) hx hb dX7_layFits_82 rfl hl (by decide) rfl (fun ls hl => ?_)
            obtain ⟨x4_26, ex4_26⟩ : ∃ z : Int32, z = x4_20 + (1 : Int32) := ⟨_, rfl⟩
            have h := nm_at ex4_26 h
            refine lv_iinc (v := x4_26) (lv' := [(4, .int x4_26), (3, .int x3_25), (0, .ref (a 0)), (1, .int x1_18), (2, .int x2_4)]) hx hb dX7_layFits_83 hl (k := 4) rfl (by rw [ex4_26]; rfl) (by decide) rfl (fun ls hl => ?_)
            refine lv_goto (tgt := 53) hx hb dX7_layFits_86 (by decide) ?_
            exact hag_22 x3_25 x4_26 S_24 h H locs ls hw (lv_sub hl [2, 3, 4, 1, 0] rfl)
  · intro j_2 hj_2 h
    refine lq2_ok (fun (x1_27 : Int32) (S_28 : ST) => ∀ (H : Heap) (locs : List Loc) (ls : Array Slot), InW D (wM cy a) A s.heap H locs S_28 → lv_has ls 5 [(0, .ref (a 0)), (1, .int x1_27)] → W p l e (rmN 4) s m args below meth c H locs 0 0 (QI below args s D (wM cy a) A r S') (F0 m 2 ls [])) ?_ fu (0 : Int32) S h H locs ls hw (lv_sub hl [1, 0] rfl)
    intro ag_29 hag_29 x1_27 S_28 h H locs ls hw hl
    unfold m_X7_layFits_L2 at h
    refine lv_iload_n hx hb dX7_layFits_2 rfl (lv_at hl 1 rfl) ?_
    refine lv_iconst (v := 5) hx hb dX7_layFits_3 (by decide) ?_
    refine lv_icmp_ge (tgt := 20) hx hb dX7_layFits_4 (by decide) (fun c_30 => ?_) (fun c_30 => ?_)
    · have h := if_at_t c_30 h
      exact hj_2 S_28 h H locs ls hw (lv_sub hl [0] rfl)
    · have h := if_at_f c_30 h
      refine lv_aload_n hx hb dX7_layFits_7 rfl (lv_at hl 0 rfl) ?_
      refine gf (v := .ref (a 11)) hC hw in_X7 0 5 18 (cM_0 cy a S_28) rfl (by decide) lf_RX7_40 rfl rfl dX7_layFits_8 ?_
      refine lv_iload_n hx hb dX7_layFits_11 rfl (lv_at hl 1 rfl) ?_
      refine lv_iconst (v := 0) hx hb dX7_layFits_12 (by decide) ?_
      obtain ⟨hi, h⟩ := gd_at h
      refine pa hC hw 11 (cM_11 cy a S_28) hi (rM_11 cy a S_28) dX7_layFits_13 (fun H locs hw => ?_)
      obtain ⟨S_31, hw, h⟩ := nmw (P := fun z => InW D (wM cy a) A s.heap H locs z) hw h
      obtain ⟨x1_32, ex1_32⟩ : ∃ z : Int32, z = x1_27 + (1 : Int32) := ⟨_, rfl⟩
      have h := nm_at ex1_32 h
      refine lv_iinc (v := x1_32) (lv' := [(1, .int x1_32), (0, .ref (a 0))]) hx hb dX7_layFits_14 hl (k := 1) rfl (by rw [ex1_32]; rfl) (by decide) rfl (fun ls hl => ?_)
      refine lv_goto (tgt := 2) hx hb dX7_layFits_17 (by decide) ?_
      exact hag_29 x1_32 S_31 h H locs ls hw (lv_sub hl [1, 0] rfl)
def m_X7_fits (fu : Nat) (S : ST) : Option (Int32 × ST) :=
  bd (m_X7_lacks fu S) (fun v_2 => (if v_2 = (0 : Int32) then bd2 (m_X7_layFits fu S) (fun v_5 S_6 => some (v_5, S_6)) else some ((-103 : Int32), S)))
set_option maxRecDepth 100000 in
set_option maxHeartbeats 4000000 in
theorem k_X7_fits (l : Launch) (D : va_G) (cy : ClassId) (a : Nat → Nat) (fu : Nat) (S : ST) (r : Int32) (S' : ST) (h : m_X7_fits fu S = some (r, S')) : CtI l yX7_fits cX7_fits 1 (some .int) 5 [.ref (a 0)] D cy (wM cy a) S r S' := by
  refine CtI_of (by decide) (Nat.le_of_ble_eq_true rfl) ?_
  intro p e s m args below meth c A ls hC hr hk hw hl
  have hC : Cx p s m c RX7 cX7_fits 1 args D cy := hC
  have hx := hC.1
  have hb := hC.2.1
  have hl : lv_has ls 1 [(0, .ref (a 0))] := hl
  obtain ⟨H, eH⟩ : ∃ z : Heap, z = s.heap := ⟨_, rfl⟩
  obtain ⟨locs, elocs⟩ : ∃ z : List Loc, z = [] := ⟨_, rfl⟩
  have hw : InW D (wM cy a) A s.heap H locs S := by rw [eH, elocs]; exact hw
  suffices hsu : W p l e (rmN 5) s m args below meth c H locs 0 0 (QI below args s D (wM cy a) A r S') (F0 m 0 ls []) by rw [eH, elocs] at hsu; exact hsu
  unfold m_X7_fits at h
  refine lv_aload_n hx hb dX7_fits_0 rfl (lv_at hl 0 rfl) ?_
  obtain ⟨v_2, hc_1, h⟩ := bd_at h
  refine caVI (As := []) (rest := []) hC hw hl.1 lm_RX7_109 li_RX7 lk_yX7_lacks li_yX7_lacks ll_yX7_lacks 0 5 (cM_0 cy a S) rfl 0 rfl hd_X7_lacks (by decide) (by decide) (Nat.le_of_ble_eq_true rfl) dX7_fits_1 (k_X7_lacks l D cy a fu S _ hc_1) (fun H locs hw => ?_)
  refine lv_if_eq (tgt := 12) hx hb dX7_fits_4 (by decide) (fun c_3 => ?_) (fun c_3 => ?_)
  · have h := if_at_t c_3 h
    refine lv_aload_n hx hb dX7_fits_12 rfl (lv_at hl 0 rfl) ?_
    obtain ⟨v_5, S_6, hc_4, h⟩ := bd2_at h
    refine caVI (As := []) (rest := []) hC hw hl.1 lm_RX7_197 li_RX7 lk_yX7_layFits li_yX7_layFits ll_yX7_layFits 0 5 (cM_0 cy a S) rfl 0 rfl hd_X7_layFits (by decide) (by decide) (Nat.le_of_ble_eq_true rfl) dX7_fits_13 (k_X7_layFits l D cy a fu S _ _ hc_4) (fun H locs hw => ?_)
    exact rtI hC hr hk hw (so_at2 h).1 (so_at2 h).2 dX7_fits_16
  · have h := if_at_f c_3 h
    refine lv_bipush (v := -103) hx hb dX7_fits_7 (by decide) ?_
    refine lv_goto (tgt := 16) hx hb dX7_fits_9 (by decide) ?_
    exact rtI hC hr hk hw (so_at2 h).1 (so_at2 h).2 dX7_fits_16
def m_X7_burnt_L36 (fu : Nat) (x1 : Int32) (S_9 : ST) (ag_11 : Int32 → Option (Int32 × ST)) (x3_10 : Int32) : Option (Int32 × ST) :=
  (if (6 : Int32) ≤ x3_10 then some ((-1 : Int32), S_9) else gd (inB x1 5) ((if (rdA S_9 10 x1) = ((1 : Int32) <<< (x3_10 &&& (31 : Int32))) then some (x3_10, S_9) else nm (x3_10 + (1 : Int32)) (fun x3_14 => ag_11 x3_14))))
def m_X7_burnt (fu : Nat) (x1 : Int32) (S : ST) : Option (Int32 × ST) :=
  bd (m_X7_in fu ((x1).toInt64) (0 : Int64) ((((stI S 7) - (1 : Int32))).toInt64)) (fun v_2 => (if v_2 = (0 : Int32) then some ((-101 : Int32), S) else bd (m_X7_lacks fu S) (fun v_5 => (if v_5 = (0 : Int32) then bd2 (m_X7_layFits fu S) (fun v_8 S_9 => lq1 (m_X7_burnt_L36 fu x1 S_9) fu (0 : Int32)) else some ((-103 : Int32), S)))))
set_option maxRecDepth 100000 in
set_option maxHeartbeats 4000000 in
theorem k_X7_burnt (l : Launch) (D : va_G) (cy : ClassId) (a : Nat → Nat) (fu : Nat) (x1 : Int32) (S : ST) (r : Int32) (S' : ST) (h : m_X7_burnt fu x1 S = some (r, S')) : CtI l yX7_burnt cX7_burnt 4 (some .int) 5 [.ref (a 0), .int x1] D cy (wM cy a) S r S' := by
  refine CtI_of (by decide) (Nat.le_of_ble_eq_true rfl) ?_
  intro p e s m args below meth c A ls hC hr hk hw hl
  have hC : Cx p s m c RX7 cX7_burnt 4 args D cy := hC
  have hx := hC.1
  have hb := hC.2.1
  have hl : lv_has ls 4 [(0, .ref (a 0)), (1, .int x1)] := hl
  obtain ⟨H, eH⟩ : ∃ z : Heap, z = s.heap := ⟨_, rfl⟩
  obtain ⟨locs, elocs⟩ : ∃ z : List Loc, z = [] := ⟨_, rfl⟩
  have hw : InW D (wM cy a) A s.heap H locs S := by rw [eH, elocs]; exact hw
  suffices hsu : W p l e (rmN 5) s m args below meth c H locs 0 0 (QI below args s D (wM cy a) A r S') (F0 m 0 ls []) by rw [eH, elocs] at hsu; exact hsu
  unfold m_X7_burnt at h
  refine lv_iload_n hx hb dX7_burnt_0 rfl (lv_at hl 1 rfl) ?_
  refine lv_i2l hx hb dX7_burnt_1 rfl ?_
  refine lv_lconst (v := 0) hx hb dX7_burnt_2 (by decide) ?_
  refine lv_aload_n hx hb dX7_burnt_3 rfl (lv_at hl 0 rfl) ?_
  refine gf (v := .int (stI S 7)) hC hw in_X7 0 5 16 (cM_0 cy a S) rfl (by decide) lf_RX7_87 rfl rfl dX7_burnt_4 ?_
  refine lv_iconst (v := 1) hx hb dX7_burnt_7 (by decide) ?_
  refine lv_isub hx hb dX7_burnt_8 ?_
  refine lv_i2l hx hb dX7_burnt_9 rfl ?_
  obtain ⟨v_2, hc_1, h⟩ := bd_at h
  refine caSI (As := [.long (x1).toInt64, .long (0 : Int64), .long (((stI S 7) - (1 : Int32))).toInt64]) (rest := []) hC hw hl.1 lm_RX7_61 li_RX7 lk_yX7_in ls_yX7_in 3 rfl hd_X7_in (by decide) (by decide) (Nat.le_of_ble_eq_true rfl) dX7_burnt_10 (k_X7_in l D cy (wM cy a) S fu ((x1).toInt64) (0 : Int64) ((((stI S 7) - (1 : Int32))).toInt64) _ hc_1) (fun H locs hw => ?_)
  refine lv_if_ne (tgt := 19) hx hb dX7_burnt_13 (by decide) (fun c_3 => ?_) (fun c_3 => ?_)
  · have h := if_at_f c_3 h
    refine lv_aload_n hx hb dX7_burnt_19 rfl (lv_at hl 0 rfl) ?_
    obtain ⟨v_5, hc_4, h⟩ := bd_at h
    refine caVI (As := []) (rest := []) hC hw hl.1 lm_RX7_109 li_RX7 lk_yX7_lacks li_yX7_lacks ll_yX7_lacks 0 5 (cM_0 cy a S) rfl 0 rfl hd_X7_lacks (by decide) (by decide) (Nat.le_of_ble_eq_true rfl) dX7_burnt_20 (k_X7_lacks l D cy a fu S _ hc_4) (fun H locs hw => ?_)
    refine lv_if_eq (tgt := 29) hx hb dX7_burnt_23 (by decide) (fun c_6 => ?_) (fun c_6 => ?_)
    · have h := if_at_t c_6 h
      refine lv_aload_n hx hb dX7_burnt_29 rfl (lv_at hl 0 rfl) ?_
      obtain ⟨v_8, S_9, hc_7, h⟩ := bd2_at h
      refine caVI (As := []) (rest := []) hC hw hl.1 lm_RX7_197 li_RX7 lk_yX7_layFits li_yX7_layFits ll_yX7_layFits 0 5 (cM_0 cy a S) rfl 0 rfl hd_X7_layFits (by decide) (by decide) (Nat.le_of_ble_eq_true rfl) dX7_burnt_30 (k_X7_layFits l D cy a fu S _ _ hc_7) (fun H locs hw => ?_)
      refine lv_istore_n (lv' := [(2, .int v_8), (0, .ref (a 0)), (1, .int x1)]) hx hb dX7_burnt_33 rfl hl (by decide) rfl (fun ls hl => ?_)
      refine lv_iconst (v := 0) hx hb dX7_burnt_34 (by decide) ?_
      refine lv_istore_n (lv' := [(3, .int (0 : Int32)), (2, .int v_8), (0, .ref (a 0)), (1, .int x1)]) hx hb dX7_burnt_35 rfl hl (by decide) rfl (fun ls hl => ?_)
      refine lq1_ok (fun (x3_10 : Int32) => ∀ (H : Heap) (locs : List Loc) (ls : Array Slot), InW D (wM cy a) A s.heap H locs S_9 → lv_has ls 4 [(0, .ref (a 0)), (1, .int x1), (3, .int x3_10)] → W p l e (rmN 5) s m args below meth c H locs 0 0 (QI below args s D (wM cy a) A r S') (F0 m 36 ls [])) ?_ fu (0 : Int32) h H locs ls hw (lv_sub hl [2, 3, 0] rfl)
      intro ag_11 hag_11 x3_10 h H locs ls hw hl
      unfold m_X7_burnt_L36 at h
      refine lv_iload_n hx hb dX7_burnt_36 rfl (lv_at hl 2 rfl) ?_
      refine lv_bipush (v := 6) hx hb dX7_burnt_37 (by decide) ?_
      refine lv_icmp_ge (tgt := 62) hx hb dX7_burnt_39 (by decide) (fun c_12 => ?_) (fun c_12 => ?_)
      · have h := if_at_t c_12 h
        refine lv_iconst (v := -1) hx hb dX7_burnt_62 (by decide) ?_
        exact rtI hC hr hk hw (so_at2 h).1 (so_at2 h).2 dX7_burnt_63
      · have h := if_at_f c_12 h
        refine lv_aload_n hx hb dX7_burnt_42 rfl (lv_at hl 0 rfl) ?_
        refine gf (v := .ref (a 11)) hC hw in_X7 0 5 18 (cM_0 cy a S_9) rfl (by decide) lf_RX7_40 rfl rfl dX7_burnt_43 ?_
        refine lv_iload_n hx hb dX7_burnt_46 rfl (lv_at hl 1 rfl) ?_
        obtain ⟨hi, h⟩ := gd_at h
        refine ga hC hw 11 (cM_11 cy a S_9) hi dX7_burnt_47 ?_
        refine lv_iconst (v := 1) hx hb dX7_burnt_48 (by decide) ?_
        refine lv_iload_n hx hb dX7_burnt_49 rfl (lv_at hl 2 rfl) ?_
        refine lv_ishl hx hb dX7_burnt_50 ?_
        refine lv_icmp_ne (tgt := 56) hx hb dX7_burnt_51 (by decide) (fun c_13 => ?_) (fun c_13 => ?_)
        · have h := if_at_f c_13 h
          obtain ⟨x3_14, ex3_14⟩ : ∃ z : Int32, z = x3_10 + (1 : Int32) := ⟨_, rfl⟩
          have h := nm_at ex3_14 h
          refine lv_iinc (v := x3_14) (lv' := [(3, .int x3_14), (0, .ref (a 0)), (1, .int x1)]) hx hb dX7_burnt_56 hl (k := 2) rfl (by rw [ex3_14]; rfl) (by decide) rfl (fun ls hl => ?_)
          refine lv_goto (tgt := 36) hx hb dX7_burnt_59 (by decide) ?_
          exact hag_11 x3_14 h H locs ls hw (lv_sub hl [1, 2, 0] rfl)
        · have h := if_at_t c_13 h
          refine lv_iload_n hx hb dX7_burnt_54 rfl (lv_at hl 2 rfl) ?_
          exact rtI hC hr hk hw (so_at2 h).1 (so_at2 h).2 dX7_burnt_55
    · have h := if_at_f c_6 h
      refine lv_bipush (v := -103) hx hb dX7_burnt_26 (by decide) ?_
      exact rtI hC hr hk hw (so_at2 h).1 (so_at2 h).2 dX7_burnt_28
  · have h := if_at_t c_3 h
    refine lv_bipush (v := -101) hx hb dX7_burnt_16 (by decide) ?_
    exact rtI hC hr hk hw (so_at2 h).1 (so_at2 h).2 dX7_burnt_18
def m_X7_draw (fu : Nat) (x1 : Int32) (S : ST) : Option (Int32 × ST) :=
  nm (puI S 8 ((((((1103515245 : Int64) * ((stI S 8)).toInt64) + (12345 : Int64)) &&& (2147483647 : Int64))).toInt32)) (fun S_1 => gd (decide (¬ x1 = 0)) (some ((((stI S_1 8) / (65536 : Int32)) - ((stI S_1 8) / (65536 : Int32)) / x1 * x1), S_1)))
set_option maxRecDepth 100000 in
set_option maxHeartbeats 4000000 in
theorem k_X7_draw (l : Launch) (D : va_G) (cy : ClassId) (a : Nat → Nat) (fu : Nat) (x1 : Int32) (S : ST) (r : Int32) (S' : ST) (h : m_X7_draw fu x1 S = some (r, S')) : CtI l yX7_draw cX7_draw 2 (some .int) 0 [.ref (a 0), .int x1] D cy (wM cy a) S r S' := by
  refine CtI_of (by decide) (Nat.le_of_ble_eq_true rfl) ?_
  intro p e s m args below meth c A ls hC hr hk hw hl
  have hC : Cx p s m c RX7 cX7_draw 2 args D cy := hC
  have hx := hC.1
  have hb := hC.2.1
  have hl : lv_has ls 2 [(0, .ref (a 0)), (1, .int x1)] := hl
  obtain ⟨H, eH⟩ : ∃ z : Heap, z = s.heap := ⟨_, rfl⟩
  obtain ⟨locs, elocs⟩ : ∃ z : List Loc, z = [] := ⟨_, rfl⟩
  have hw : InW D (wM cy a) A s.heap H locs S := by rw [eH, elocs]; exact hw
  suffices hsu : W p l e (rmN 0) s m args below meth c H locs 0 0 (QI below args s D (wM cy a) A r S') (F0 m 0 ls []) by rw [eH, elocs] at hsu; exact hsu
  unfold m_X7_draw at h
  refine lv_aload_n hx hb dX7_draw_0 rfl (lv_at hl 0 rfl) ?_
  refine lv_ldc2 hx hb hC.2.2.2.1 (hC.2.2.2.2.1 _ lc_RX7_200) dX7_draw_1 ?_
  refine lv_aload_n hx hb dX7_draw_4 rfl (lv_at hl 0 rfl) ?_
  refine gf (v := .int (stI S 8)) hC hw in_X7 0 5 19 (cM_0 cy a S) rfl (by decide) lf_RX7_202 rfl rfl dX7_draw_5 ?_
  refine lv_i2l hx hb dX7_draw_8 rfl ?_
  refine lv_lmul hx hb dX7_draw_9 ?_
  refine lv_ldc2 hx hb hC.2.2.2.1 (hC.2.2.2.2.1 _ lc_RX7_205) dX7_draw_10 ?_
  refine lv_ladd hx hb dX7_draw_13 ?_
  refine lv_ldc2 hx hb hC.2.2.2.1 (hC.2.2.2.2.1 _ lc_RX7_207) dX7_draw_14 ?_
  refine lv_land hx hb dX7_draw_17 ?_
  refine lv_l2i hx hb dX7_draw_18 rfl ?_
  refine pf (ty := .int) (v := .int ((((((1103515245 : Int64) * ((stI S 8)).toInt64) + (12345 : Int64)) &&& (2147483647 : Int64))).toInt32)) hC hw in_X7 tyX7_ok nmX7 0 5 19 (cM_0 cy a S) rfl (by decide) lf_RX7_202 rfl rfl (by decide +kernel) rfl rfl (Nat.le_of_ble_eq_true rfl) (sM_19 cy a S ((((((1103515245 : Int64) * ((stI S 8)).toInt64) + (12345 : Int64)) &&& (2147483647 : Int64))).toInt32)) dX7_draw_19 (fun H locs hw => ?_)
  obtain ⟨S_1, hw, h⟩ := nmw (P := fun z => InW D (wM cy a) A s.heap H locs z) hw h
  refine lv_aload_n hx hb dX7_draw_22 rfl (lv_at hl 0 rfl) ?_
  refine gf (v := .int (stI S_1 8)) hC hw in_X7 0 5 19 (cM_0 cy a S_1) rfl (by decide) lf_RX7_202 rfl rfl dX7_draw_23 ?_
  refine lv_ldc hx hb hC.2.2.2.1 (hC.2.2.2.2.1 _ lc_RX7_209) dX7_draw_26 ?_
  refine lv_idiv hx hb dX7_draw_28 (by decide) ?_
  refine lv_iload_n hx hb dX7_draw_29 rfl (lv_at hl 1 rfl) ?_
  obtain ⟨hi, h⟩ := gd_at h
  refine lv_irem hx hb dX7_draw_30 (of_decide_eq_true hi) ?_
  exact rtI hC hr hk hw (so_at2 h).1 (so_at2 h).2 dX7_draw_31
def m_X7_lotOf_L4 (fu : Nat) (S : ST) (ag_3 : Int32 → Int32 → Option Int32) (x2_1 : Int32) (x3_2 : Int32) : Option Int32 :=
  (if (6 : Int32) ≤ x3_2 then some (5 : Int32) else gd (inB x3_2 6) (nm ((x2_1 - (rdA S 1 x3_2))) (fun x2_5 => (if (0 : Int32) ≤ x2_5 then nm (x3_2 + (1 : Int32)) (fun x3_7 => ag_3 x2_5 x3_7) else some x3_2))))
def m_X7_lotOf (fu : Nat) (x1 : Int32) (S : ST) : Option Int32 :=
  lq2 (m_X7_lotOf_L4 fu S) fu x1 (0 : Int32)
set_option maxRecDepth 100000 in
set_option maxHeartbeats 4000000 in
theorem k_X7_lotOf (l : Launch) (D : va_G) (cy : ClassId) (a : Nat → Nat) (fu : Nat) (x1 : Int32) (S : ST) (r : Int32) (h : m_X7_lotOf fu x1 S = some r) : CtI l yX7_lotOf cX7_lotOf 4 (some .int) 0 [.ref (a 0), .int x1] D cy (wM cy a) S r S := by
  refine CtI_of (by decide) (Nat.le_of_ble_eq_true rfl) ?_
  intro p e s m args below meth c A ls hC hr hk hw hl
  have hC : Cx p s m c RX7 cX7_lotOf 4 args D cy := hC
  have hx := hC.1
  have hb := hC.2.1
  have hl : lv_has ls 4 [(0, .ref (a 0)), (1, .int x1)] := hl
  obtain ⟨H, eH⟩ : ∃ z : Heap, z = s.heap := ⟨_, rfl⟩
  obtain ⟨locs, elocs⟩ : ∃ z : List Loc, z = [] := ⟨_, rfl⟩
  have hw : InW D (wM cy a) A s.heap H locs S := by rw [eH, elocs]; exact hw
  suffices hsu : W p l e (rmN 0) s m args below meth c H locs 0 0 (QI below args s D (wM cy a) A r S) (F0 m 0 ls []) by rw [eH, elocs] at hsu; exact hsu
  unfold m_X7_lotOf at h
  refine lv_iload_n hx hb dX7_lotOf_0 rfl (lv_at hl 1 rfl) ?_
  refine lv_istore_n (lv' := [(2, .int x1), (0, .ref (a 0)), (1, .int x1)]) hx hb dX7_lotOf_1 rfl hl (by decide) rfl (fun ls hl => ?_)
  refine lv_iconst (v := 0) hx hb dX7_lotOf_2 (by decide) ?_
  refine lv_istore_n (lv' := [(3, .int (0 : Int32)), (2, .int x1), (0, .ref (a 0)), (1, .int x1)]) hx hb dX7_lotOf_3 rfl hl (by decide) rfl (fun ls hl => ?_)
  refine lq2_ok (fun (x2_1 : Int32) (x3_2 : Int32) => ∀ (H : Heap) (locs : List Loc) (ls : Array Slot), InW D (wM cy a) A s.heap H locs S → lv_has ls 4 [(0, .ref (a 0)), (2, .int x2_1), (3, .int x3_2)] → W p l e (rmN 0) s m args below meth c H locs 0 0 (QI below args s D (wM cy a) A r S) (F0 m 4 ls [])) ?_ fu x1 (0 : Int32) h H locs ls hw (lv_sub hl [2, 1, 0] rfl)
  intro ag_3 hag_3 x2_1 x3_2 h H locs ls hw hl
  unfold m_X7_lotOf_L4 at h
  refine lv_iload_n hx hb dX7_lotOf_4 rfl (lv_at hl 2 rfl) ?_
  refine lv_bipush (v := 6) hx hb dX7_lotOf_5 (by decide) ?_
  refine lv_icmp_ge (tgt := 31) hx hb dX7_lotOf_7 (by decide) (fun c_4 => ?_) (fun c_4 => ?_)
  · have h := if_at_t c_4 h
    refine lv_iconst (v := 5) hx hb dX7_lotOf_31 (by decide) ?_
    exact rtI hC hr hk hw (so_at h) rfl dX7_lotOf_32
  · have h := if_at_f c_4 h
    refine lv_iload_n hx hb dX7_lotOf_10 rfl (lv_at hl 1 rfl) ?_
    refine lv_aload_n hx hb dX7_lotOf_11 rfl (lv_at hl 0 rfl) ?_
    refine gf (v := .ref (a 2)) hC hw in_X7 0 5 5 (cM_0 cy a S) rfl (by decide) lf_RX7_13 rfl rfl dX7_lotOf_12 ?_
    refine lv_iload_n hx hb dX7_lotOf_15 rfl (lv_at hl 2 rfl) ?_
    obtain ⟨hi, h⟩ := gd_at h
    refine ga hC hw 2 (cM_2 cy a S) hi dX7_lotOf_16 ?_
    refine lv_isub hx hb dX7_lotOf_17 ?_
    refine lv_topi (fun x2_5 ex2_5 => ?_)
    have h := nm_at ex2_5 h
    refine lv_istore_n (lv' := [(2, .int x2_5), (0, .ref (a 0)), (3, .int x3_2)]) hx hb dX7_lotOf_18 rfl hl (by decide) rfl (fun ls hl => ?_)
    refine lv_iload_n hx hb dX7_lotOf_19 rfl (lv_at hl 0 rfl) ?_
    refine lv_if_ge (tgt := 25) hx hb dX7_lotOf_20 (by decide) (fun c_6 => ?_) (fun c_6 => ?_)
    · have h := if_at_t c_6 h
      obtain ⟨x3_7, ex3_7⟩ : ∃ z : Int32, z = x3_2 + (1 : Int32) := ⟨_, rfl⟩
      have h := nm_at ex3_7 h
      refine lv_iinc (v := x3_7) (lv' := [(3, .int x3_7), (2, .int x2_5), (0, .ref (a 0))]) hx hb dX7_lotOf_25 hl (k := 2) rfl (by rw [ex3_7]; rfl) (by decide) rfl (fun ls hl => ?_)
      refine lv_goto (tgt := 4) hx hb dX7_lotOf_28 (by decide) ?_
      exact hag_3 x2_5 x3_7 h H locs ls hw (lv_sub hl [2, 1, 0] rfl)
    · have h := if_at_f c_6 h
      refine lv_iload_n hx hb dX7_lotOf_23 rfl (lv_at hl 2 rfl) ?_
      exact rtI hC hr hk hw (so_at h) rfl dX7_lotOf_24
def m_X7_years_L87 (fu : Nat) (x3 : Int32) (S_14 : ST) (j_17 : Int32 → Option (Int32 × ST)) (ag_24 : Int32 → Int32 → Option (Int32 × ST)) (x4_22 : Int32) (x5_23 : Int32) : Option (Int32 × ST) :=
  (if (stI S_14 4) ≤ x5_23 then j_17 x4_22 else gd (inB x5_23 5) (bd (m_X7_ones fu ((rdA S_14 5 x5_23))) (fun v_27 => nm ((x4_22 + v_27)) (fun x4_28 => nm (x5_23 + (1 : Int32)) (fun x5_29 => ag_24 x4_28 x5_29)))))
def m_X7_years_L53 (fu : Nat) (x1 : Int32) (x3 : Int32) (j_15 : ST → Option (Int32 × ST)) (ag_32 : Int32 → ST → Option (Int32 × ST)) (x4_30 : Int32) (S_31 : ST) : Option (Int32 × ST) :=
  (if x1 ≤ x4_30 then j_15 S_31 else bd2 (m_X7_draw fu (10 : Int32) S_31) (fun v_35 S_36 => bd (m_X7_lotOf fu v_35 S_36) (fun v_38 => bd2 (m_X7_pass fu v_38 S_36) (fun v_40 S_41 => nm (x4_30 + (1 : Int32)) (fun x4_42 => ag_32 x4_42 S_41)))))
def m_X7_years (fu : Nat) (x1 : Int32) (x2 : Int32) (x3 : Int32) (S : ST) : Option (Int32 × ST) :=
  bd (m_X7_in fu ((x1).toInt64) (1 : Int64) (60 : Int64)) (fun v_2 => (if v_2 = (0 : Int32) then some ((-102 : Int32), S) else (if x2 < (0 : Int32) then some ((-102 : Int32), S) else bd (m_X7_in fu ((x3).toInt64) (0 : Int64) (2 : Int64)) (fun v_6 => (if v_6 = (0 : Int32) then some ((-102 : Int32), S) else bd (m_X7_lacks fu S) (fun v_9 => (if v_9 = (0 : Int32) then bd (m_X7_asItIs fu S) (fun S_12 => nm (puI S_12 8 x2) (fun S_13 => jn1 (fun (S_14 : ST) => jn1 (fun (x4_16 : Int32) => (if x3 = (0 : Int32) then bd (m_X7_livesNow fu S_14) (fun v_21 => some (v_21, S_14)) else (if x3 = (1 : Int32) then some (x4_16, S_14) else some ((stI S_14 8), S_14)))) (fun j_17 => lq2 (m_X7_years_L87 fu x3 S_14 j_17) fu (0 : Int32) (0 : Int32))) (fun j_15 => lq2 (m_X7_years_L53 fu x1 x3 j_15) fu (0 : Int32) S_13))) else some ((-103 : Int32), S))))))))
set_option maxRecDepth 100000 in
set_option maxHeartbeats 4000000 in
theorem k_X7_years (l : Launch) (D : va_G) (cy : ClassId) (a : Nat → Nat) (fu : Nat) (x1 : Int32) (x2 : Int32) (x3 : Int32) (S : ST) (r : Int32) (S' : ST) (h : m_X7_years fu x1 x2 x3 S = some (r, S')) : CtI l yX7_years cX7_years 6 (some .int) 3 [.ref (a 0), .int x1, .int x2, .int x3] D cy (wM cy a) S r S' := by
  refine CtI_of (by decide) (Nat.le_of_ble_eq_true rfl) ?_
  intro p e s m args below meth c A ls hC hr hk hw hl
  have hC : Cx p s m c RX7 cX7_years 6 args D cy := hC
  have hx := hC.1
  have hb := hC.2.1
  have hl : lv_has ls 6 [(0, .ref (a 0)), (1, .int x1), (2, .int x2), (3, .int x3)] := hl
  obtain ⟨H, eH⟩ : ∃ z : Heap, z = s.heap := ⟨_, rfl⟩
  obtain ⟨locs, elocs⟩ : ∃ z : List Loc, z = [] := ⟨_, rfl⟩
  have hw : InW D (wM cy a) A s.heap H locs S := by rw [eH, elocs]; exact hw
  suffices hsu : W p l e (rmN 3) s m args below meth c H locs 0 0 (QI below args s D (wM cy a) A r S') (F0 m 0 ls []) by rw [eH, elocs] at hsu; exact hsu
  unfold m_X7_years at h
  refine lv_iload_n hx hb dX7_years_0 rfl (lv_at hl 1 rfl) ?_
  refine lv_i2l hx hb dX7_years_1 rfl ?_
  refine lv_lconst (v := 1) hx hb dX7_years_2 (by decide) ?_
  refine lv_ldc2 hx hb hC.2.2.2.1 (hC.2.2.2.2.1 _ lc_RX7_210) dX7_years_3 ?_
  obtain ⟨v_2, hc_1, h⟩ := bd_at h
  refine caSI (As := [.long (x1).toInt64, .long (1 : Int64), .long (60 : Int64)]) (rest := []) hC hw hl.1 lm_RX7_61 li_RX7 lk_yX7_in ls_yX7_in 3 rfl hd_X7_in (by decide) (by decide) (Nat.le_of_ble_eq_true rfl) dX7_years_6 (k_X7_in l D cy (wM cy a) S fu ((x1).toInt64) (1 : Int64) (60 : Int64) _ hc_1) (fun H locs hw => ?_)
  refine lv_if_eq (tgt := 28) hx hb dX7_years_9 (by decide) (fun c_3 => ?_) (fun c_3 => ?_)
  · have h := if_at_t c_3 h
    refine lv_bipush (v := -102) hx hb dX7_years_28 (by decide) ?_
    exact rtI hC hr hk hw (so_at2 h).1 (so_at2 h).2 dX7_years_30
  · have h := if_at_f c_3 h
    refine lv_iload_n hx hb dX7_years_12 rfl (lv_at hl 2 rfl) ?_
    refine lv_if_lt (tgt := 28) hx hb dX7_years_13 (by decide) (fun c_4 => ?_) (fun c_4 => ?_)
    · have h := if_at_t c_4 h
      refine lv_bipush (v := -102) hx hb dX7_years_28 (by decide) ?_
      exact rtI hC hr hk hw (so_at2 h).1 (so_at2 h).2 dX7_years_30
    · have h := if_at_f c_4 h
      refine lv_iload_n hx hb dX7_years_16 rfl (lv_at hl 3 rfl) ?_
      refine lv_i2l hx hb dX7_years_17 rfl ?_
      refine lv_lconst (v := 0) hx hb dX7_years_18 (by decide) ?_
      refine lv_ldc2 hx hb hC.2.2.2.1 (hC.2.2.2.2.1 _ lc_RX7_212) dX7_years_19 ?_
      obtain ⟨v_6, hc_5, h⟩ := bd_at h
      refine caSI (As := [.long (x3).toInt64, .long (0 : Int64), .long (2 : Int64)]) (rest := []) hC hw hl.1 lm_RX7_61 li_RX7 lk_yX7_in ls_yX7_in 3 rfl hd_X7_in (by decide) (by decide) (Nat.le_of_ble_eq_true rfl) dX7_years_22 (k_X7_in l D cy (wM cy a) S fu ((x3).toInt64) (0 : Int64) (2 : Int64) _ hc_5) (fun H locs hw => ?_)
      refine lv_if_ne (tgt := 31) hx hb dX7_years_25 (by decide) (fun c_7 => ?_) (fun c_7 => ?_)
      · have h := if_at_f c_7 h
        refine lv_aload_n hx hb dX7_years_31 rfl (lv_at hl 0 rfl) ?_
        obtain ⟨v_9, hc_8, h⟩ := bd_at h
        refine caVI (As := []) (rest := []) hC hw hl.1 lm_RX7_109 li_RX7 lk_yX7_lacks li_yX7_lacks ll_yX7_lacks 0 5 (cM_0 cy a S) rfl 0 rfl hd_X7_lacks (by decide) (by decide) (Nat.le_of_ble_eq_true rfl) dX7_years_32 (k_X7_lacks l D cy a fu S _ hc_8) (fun H locs hw => ?_)
        refine lv_if_eq (tgt := 41) hx hb dX7_years_35 (by decide) (fun c_10 => ?_) (fun c_10 => ?_)
        · have h := if_at_t c_10 h
          refine lv_aload_n hx hb dX7_years_41 rfl (lv_at hl 0 rfl) ?_
          obtain ⟨S_12, hc_11, h⟩ := bd_at h
          refine caVV (As := []) (rest := []) hC hw hl.1 lm_RX7_144 li_RX7 lk_yX7_asItIs li_yX7_asItIs ll_yX7_asItIs 0 5 (cM_0 cy a S) rfl 0 rfl hd_X7_asItIs (by decide) (by decide) (Nat.le_of_ble_eq_true rfl) dX7_years_42 (k_X7_asItIs l D cy a fu S _ hc_11) (fun H locs hw => ?_)
          refine lv_aload_n hx hb dX7_years_45 rfl (lv_at hl 0 rfl) ?_
          refine lv_iload_n hx hb dX7_years_46 rfl (lv_at hl 2 rfl) ?_
          refine pf (ty := .int) (v := .int x2) hC hw in_X7 tyX7_ok nmX7 0 5 19 (cM_0 cy a S_12) rfl (by decide) lf_RX7_202 rfl rfl (by decide +kernel) rfl rfl (Nat.le_of_ble_eq_true rfl) (sM_19 cy a S_12 x2) dX7_years_47 (fun H locs hw => ?_)
          obtain ⟨S_13, hw, h⟩ := nmw (P := fun z => InW D (wM cy a) A s.heap H locs z) hw h
          refine lv_iconst (v := 0) hx hb dX7_years_50 (by decide) ?_
          refine lv_istore (lv' := [(4, .int (0 : Int32)), (0, .ref (a 0)), (1, .int x1), (2, .int x2), (3, .int x3)]) hx hb dX7_years_51 hl (by decide) rfl (fun ls hl => ?_)
          refine jn1_ok (fun (S_14 : ST) => ∀ (H : Heap) (locs : List Loc) (ls : Array Slot), InW D (wM cy a) A s.heap H locs S_14 → lv_has ls 6 [(0, .ref (a 0)), (3, .int x3)] → W p l e (rmN 3) s m args below meth c H locs 0 0 (QI below args s D (wM cy a) A r S') (F0 m 81 ls [])) ?_ ?_ h
          · intro S_14 h H locs ls hw hl
            refine lv_iconst (v := 0) hx hb dX7_years_81 (by decide) ?_
            refine lv_istore (lv' := [(4, .int (0 : Int32)), (0, .ref (a 0)), (3, .int x3)]) hx hb dX7_years_82 hl (by decide) rfl (fun ls hl => ?_)
            refine lv_iconst (v := 0) hx hb dX7_years_84 (by decide) ?_
            refine lv_istore (lv' := [(5, .int (0 : Int32)), (4, .int (0 : Int32)), (0, .ref (a 0)), (3, .int x3)]) hx hb dX7_years_85 hl (by decide) rfl (fun ls hl => ?_)
            refine jn1_ok (fun (x4_16 : Int32) => ∀ (H : Heap) (locs : List Loc) (ls : Array Slot), InW D (wM cy a) A s.heap H locs S_14 → lv_has ls 6 [(0, .ref (a 0)), (3, .int x3), (4, .int x4_16)] → W p l e (rmN 3) s m args below meth c H locs 0 0 (QI below args s D (wM cy a) A r S') (F0 m 117 ls [])) ?_ ?_ h
            · intro x4_16 h H locs ls hw hl
              refine lv_iload_n hx hb dX7_years_117 rfl (lv_at hl 1 rfl) ?_
              refine lv_if_ne (tgt := 128) hx hb dX7_years_118 (by decide) (fun c_18 => ?_) (fun c_18 => ?_)
              · have h := if_at_f c_18 h
                refine lv_iload_n hx hb dX7_years_128 rfl (lv_at hl 1 rfl) ?_
                refine lv_iconst (v := 1) hx hb dX7_years_129 (by decide) ?_
                refine lv_icmp_ne (tgt := 138) hx hb dX7_years_130 (by decide) (fun c_19 => ?_) (fun c_19 => ?_)
                · have h := if_at_f c_19 h
                  refine lv_aload_n hx hb dX7_years_138 rfl (lv_at hl 0 rfl) ?_
                  refine gf (v := .int (stI S_14 8)) hC hw in_X7 0 5 19 (cM_0 cy a S_14) rfl (by decide) lf_RX7_202 rfl rfl dX7_years_139 ?_
                  exact rtI hC hr hk hw (so_at2 h).1 (so_at2 h).2 dX7_years_142
                · have h := if_at_t c_19 h
                  refine lv_iload hx hb dX7_years_133 (lv_at hl 2 rfl) ?_
                  refine lv_goto (tgt := 142) hx hb dX7_years_135 (by decide) ?_
                  exact rtI hC hr hk hw (so_at2 h).1 (so_at2 h).2 dX7_years_142
              · have h := if_at_t c_18 h
                refine lv_aload_n hx hb dX7_years_121 rfl (lv_at hl 0 rfl) ?_
                obtain ⟨v_21, hc_20, h⟩ := bd_at h
                refine caVI (As := []) (rest := []) hC hw hl.1 lm_RX7_191 li_RX7 lk_yX7_livesNow li_yX7_livesNow ll_yX7_livesNow 0 5 (cM_0 cy a S_14) rfl 0 rfl hd_X7_livesNow (by decide) (by decide) (Nat.le_of_ble_eq_true rfl) dX7_years_122 (k_X7_livesNow l D cy a fu S_14 _ hc_20) (fun H locs hw => ?_)
                refine lv_goto (tgt := 142) hx hb dX7_years_125 (by decide) ?_
                exact rtI hC hr hk hw (so_at2 h).1 (so_at2 h).2 dX7_years_142
            · intro j_17 hj_17 h
              refine lq2_ok (fun (x4_22 : Int32) (x5_23 : Int32) => ∀ (H : Heap) (locs : List Loc) (ls : Array Slot), InW D (wM cy a) A s.heap H locs S_14 → lv_has ls 6 [(0, .ref (a 0)), (3, .int x3), (4, .int x4_22), (5, .int x5_23)] → W p l e (rmN 3) s m args below meth c H locs 0 0 (QI below args s D (wM cy a) A r S') (F0 m 87 ls [])) ?_ fu (0 : Int32) (0 : Int32) h H locs ls hw (lv_sub hl [2, 3, 1, 0] rfl)
              intro ag_24 hag_24 x4_22 x5_23 h H locs ls hw hl
              unfold m_X7_years_L87 at h
              refine lv_iload hx hb dX7_years_87 (lv_at hl 3 rfl) ?_
              refine lv_aload_n hx hb dX7_years_89 rfl (lv_at hl 0 rfl) ?_
              refine gf (v := .int (stI S_14 4)) hC hw in_X7 0 5 6 (cM_0 cy a S_14) rfl (by decide) lf_RX7_81 rfl rfl dX7_years_90 ?_
              refine lv_icmp_ge (tgt := 117) hx hb dX7_years_93 (by decide) (fun c_25 => ?_) (fun c_25 => ?_)
              · have h := if_at_t c_25 h
                exact hj_17 x4_22 h H locs ls hw (lv_sub hl [0, 1, 2] rfl)
              · have h := if_at_f c_25 h
                refine lv_iload hx hb dX7_years_96 (lv_at hl 2 rfl) ?_
                refine lv_aload_n hx hb dX7_years_98 rfl (lv_at hl 0 rfl) ?_
                refine gf (v := .ref (a 6)) hC hw in_X7 0 5 10 (cM_0 cy a S_14) rfl (by decide) lf_RX7_25 rfl rfl dX7_years_99 ?_
                refine lv_iload hx hb dX7_years_102 (lv_at hl 3 rfl) ?_
                obtain ⟨hi, h⟩ := gd_at h
                refine ga hC hw 6 (cM_6 cy a S_14) hi dX7_years_104 ?_
                obtain ⟨v_27, hc_26, h⟩ := bd_at h
                refine caSI (As := [.int (rdA S_14 5 x5_23)]) (rest := [.int x4_22]) hC hw hl.1 lm_RX7_123 li_RX7 lk_yX7_ones ls_yX7_ones 1 rfl hd_X7_ones (by decide) (by decide) (Nat.le_of_ble_eq_true rfl) dX7_years_105 (k_X7_ones l D cy (wM cy a) S_14 fu ((rdA S_14 5 x5_23)) _ hc_26) (fun H locs hw => ?_)
                refine lv_iadd hx hb dX7_years_108 ?_
                refine lv_topi (fun x4_28 ex4_28 => ?_)
                have h := nm_at ex4_28 h
                refine lv_istore (lv' := [(4, .int x4_28), (0, .ref (a 0)), (3, .int x3), (5, .int x5_23)]) hx hb dX7_years_109 hl (by decide) rfl (fun ls hl => ?_)
                obtain ⟨x5_29, ex5_29⟩ : ∃ z : Int32, z = x5_23 + (1 : Int32) := ⟨_, rfl⟩
                have h := nm_at ex5_29 h
                refine lv_iinc (v := x5_29) (lv' := [(5, .int x5_29), (4, .int x4_28), (0, .ref (a 0)), (3, .int x3)]) hx hb dX7_years_111 hl (k := 3) rfl (by rw [ex5_29]; rfl) (by decide) rfl (fun ls hl => ?_)
                refine lv_goto (tgt := 87) hx hb dX7_years_114 (by decide) ?_
                exact hag_24 x4_28 x5_29 h H locs ls hw (lv_sub hl [2, 3, 1, 0] rfl)
          · intro j_15 hj_15 h
            refine lq2_ok (fun (x4_30 : Int32) (S_31 : ST) => ∀ (H : Heap) (locs : List Loc) (ls : Array Slot), InW D (wM cy a) A s.heap H locs S_31 → lv_has ls 6 [(0, .ref (a 0)), (1, .int x1), (3, .int x3), (4, .int x4_30)] → W p l e (rmN 3) s m args below meth c H locs 0 0 (QI below args s D (wM cy a) A r S') (F0 m 53 ls [])) ?_ fu (0 : Int32) S_13 h H locs ls hw (lv_sub hl [1, 2, 4, 0] rfl)
            intro ag_32 hag_32 x4_30 S_31 h H locs ls hw hl
            unfold m_X7_years_L53 at h
            refine lv_iload hx hb dX7_years_53 (lv_at hl 3 rfl) ?_
            refine lv_iload_n hx hb dX7_years_55 rfl (lv_at hl 1 rfl) ?_
            refine lv_icmp_ge (tgt := 81) hx hb dX7_years_56 (by decide) (fun c_33 => ?_) (fun c_33 => ?_)
            · have h := if_at_t c_33 h
              exact hj_15 S_31 h H locs ls hw (lv_sub hl [0, 2] rfl)
            · have h := if_at_f c_33 h
              refine lv_aload_n hx hb dX7_years_59 rfl (lv_at hl 0 rfl) ?_
              refine lv_aload_n hx hb dX7_years_60 rfl (lv_at hl 0 rfl) ?_
              refine lv_aload_n hx hb dX7_years_61 rfl (lv_at hl 0 rfl) ?_
              refine lv_bipush (v := 10) hx hb dX7_years_62 (by decide) ?_
              obtain ⟨v_35, S_36, hc_34, h⟩ := bd2_at h
              refine caVI (As := [.int (10 : Int32)]) (rest := [.ref (a 0), .ref (a 0)]) hC hw hl.1 lm_RX7_214 li_RX7 lk_yX7_draw li_yX7_draw ll_yX7_draw 0 5 (cM_0 cy a S_31) rfl 1 rfl hd_X7_draw (by decide) (by decide) (Nat.le_of_ble_eq_true rfl) dX7_years_64 (k_X7_draw l D cy a fu (10 : Int32) S_31 _ _ hc_34) (fun H locs hw => ?_)
              obtain ⟨v_38, hc_37, h⟩ := bd_at h
              refine caVI (As := [.int v_35]) (rest := [.ref (a 0)]) hC hw hl.1 lm_RX7_217 li_RX7 lk_yX7_lotOf li_yX7_lotOf ll_yX7_lotOf 0 5 (cM_0 cy a S_36) rfl 1 rfl hd_X7_lotOf (by decide) (by decide) (Nat.le_of_ble_eq_true rfl) dX7_years_67 (k_X7_lotOf l D cy a fu v_35 S_36 _ hc_37) (fun H locs hw => ?_)
              obtain ⟨v_40, S_41, hc_39, h⟩ := bd2_at h
              refine caVI (As := [.int v_38]) (rest := []) hC hw hl.1 lm_RX7_147 li_RX7 lk_yX7_pass li_yX7_pass ll_yX7_pass 0 5 (cM_0 cy a S_36) rfl 1 rfl hd_X7_pass (by decide) (by decide) (Nat.le_of_ble_eq_true rfl) dX7_years_70 (k_X7_pass l D cy a fu v_38 S_36 _ _ hc_39) (fun H locs hw => ?_)
              refine lv_istore (lv' := [(5, .int v_40), (0, .ref (a 0)), (1, .int x1), (3, .int x3), (4, .int x4_30)]) hx hb dX7_years_73 hl (by decide) rfl (fun ls hl => ?_)
              obtain ⟨x4_42, ex4_42⟩ : ∃ z : Int32, z = x4_30 + (1 : Int32) := ⟨_, rfl⟩
              have h := nm_at ex4_42 h
              refine lv_iinc (v := x4_42) (lv' := [(4, .int x4_42), (5, .int v_40), (0, .ref (a 0)), (1, .int x1), (3, .int x3)]) hx hb dX7_years_75 hl (k := 4) rfl (by rw [ex4_42]; rfl) (by decide) rfl (fun ls hl => ?_)
              refine lv_goto (tgt := 53) hx hb dX7_years_78 (by decide) ?_
              exact hag_32 x4_42 S_41 h H locs ls hw (lv_sub hl [2, 3, 4, 0] rfl)
        · have h := if_at_f c_10 h
          refine lv_bipush (v := -103) hx hb dX7_years_38 (by decide) ?_
          exact rtI hC hr hk hw (so_at2 h).1 (so_at2 h).2 dX7_years_40
      · have h := if_at_t c_7 h
        refine lv_bipush (v := -102) hx hb dX7_years_28 (by decide) ?_
        exact rtI hC hr hk hw (so_at2 h).1 (so_at2 h).2 dX7_years_30
def m_X7_copyTo_3_12_L2 (fu : Nat) (ag_3 : Int32 → ST → Option ST) (x2_1 : Int32) (S_2 : ST) : Option ST :=
  (if (10 : Int32) ≤ x2_1 then some S_2 else gd (inB x2_1 10) (gd (inB x2_1 10) (nm (wrA S_2 11 x2_1 ((rdA S_2 2 x2_1))) (fun S_5 => nm (x2_1 + (1 : Int32)) (fun x2_6 => ag_3 x2_6 S_5)))))
def m_X7_copyTo_3_12 (fu : Nat) (S : ST) : Option ST :=
  lq2 (m_X7_copyTo_3_12_L2 fu) fu (0 : Int32) S
set_option maxRecDepth 100000 in
set_option maxHeartbeats 4000000 in
theorem k_X7_copyTo_3_12 (l : Launch) (D : va_G) (cy : ClassId) (a : Nat → Nat) (fu : Nat) (S : ST) (S' : ST) (h : m_X7_copyTo_3_12 fu S = some S') : CtV l yX7_copyTo cX7_copyTo 3 none 0 [.ref (a 3), .ref (a 12)] D cy (wM cy a) S S' := by
  refine CtV_of (by decide) (Nat.le_of_ble_eq_true rfl) ?_
  intro p e s m args below meth c A ls hC hr hk hw hl
  have hC : Cx p s m c RX7 cX7_copyTo 3 args D cy := hC
  have hx := hC.1
  have hb := hC.2.1
  have hl : lv_has ls 3 [(0, .ref (a 3)), (1, .ref (a 12))] := hl
  obtain ⟨H, eH⟩ : ∃ z : Heap, z = s.heap := ⟨_, rfl⟩
  obtain ⟨locs, elocs⟩ : ∃ z : List Loc, z = [] := ⟨_, rfl⟩
  have hw : InW D (wM cy a) A s.heap H locs S := by rw [eH, elocs]; exact hw
  suffices hsu : W p l e (rmN 0) s m args below meth c H locs 0 0 (QV below args s D (wM cy a) A S') (F0 m 0 ls []) by rw [eH, elocs] at hsu; exact hsu
  unfold m_X7_copyTo_3_12 at h
  refine lv_iconst (v := 0) hx hb dX7_copyTo_0 (by decide) ?_
  refine lv_istore_n (lv' := [(2, .int (0 : Int32)), (0, .ref (a 3)), (1, .ref (a 12))]) hx hb dX7_copyTo_1 rfl hl (by decide) rfl (fun ls hl => ?_)
  refine lq2_ok (fun (x2_1 : Int32) (S_2 : ST) => ∀ (H : Heap) (locs : List Loc) (ls : Array Slot), InW D (wM cy a) A s.heap H locs S_2 → lv_has ls 3 [(0, .ref (a 3)), (1, .ref (a 12)), (2, .int x2_1)] → W p l e (rmN 0) s m args below meth c H locs 0 0 (QV below args s D (wM cy a) A S') (F0 m 2 ls [])) ?_ fu (0 : Int32) S h H locs ls hw (lv_sub hl [1, 2, 0] rfl)
  intro ag_3 hag_3 x2_1 S_2 h H locs ls hw hl
  unfold m_X7_copyTo_3_12_L2 at h
  refine lv_iload_n hx hb dX7_copyTo_2 rfl (lv_at hl 2 rfl) ?_
  refine lv_aload_n hx hb dX7_copyTo_3 rfl (lv_at hl 0 rfl) ?_
  refine al (v := 10) hC hw 3 (cM_3 cy a S_2) (by decide) dX7_copyTo_4 ?_
  refine lv_icmp_ge (tgt := 20) hx hb dX7_copyTo_5 (by decide) (fun c_4 => ?_) (fun c_4 => ?_)
  · have h := if_at_t c_4 h
    exact rtV hC hr hk hw (so_at h) dX7_copyTo_20
  · have h := if_at_f c_4 h
    refine lv_aload_n hx hb dX7_copyTo_8 rfl (lv_at hl 1 rfl) ?_
    refine lv_iload_n hx hb dX7_copyTo_9 rfl (lv_at hl 2 rfl) ?_
    refine lv_aload_n hx hb dX7_copyTo_10 rfl (lv_at hl 0 rfl) ?_
    refine lv_iload_n hx hb dX7_copyTo_11 rfl (lv_at hl 2 rfl) ?_
    obtain ⟨hi, h⟩ := gd_at h
    refine ga hC hw 3 (cM_3 cy a S_2) hi dX7_copyTo_12 ?_
    obtain ⟨hi, h⟩ := gd_at h
    refine pa hC hw 12 (cM_12 cy a S_2) hi (rM_12 cy a S_2) dX7_copyTo_13 (fun H locs hw => ?_)
    obtain ⟨S_5, hw, h⟩ := nmw (P := fun z => InW D (wM cy a) A s.heap H locs z) hw h
    obtain ⟨x2_6, ex2_6⟩ : ∃ z : Int32, z = x2_1 + (1 : Int32) := ⟨_, rfl⟩
    have h := nm_at ex2_6 h
    refine lv_iinc (v := x2_6) (lv' := [(2, .int x2_6), (0, .ref (a 3)), (1, .ref (a 12))]) hx hb dX7_copyTo_14 hl (k := 2) rfl (by rw [ex2_6]; rfl) (by decide) rfl (fun ls hl => ?_)
    refine lv_goto (tgt := 2) hx hb dX7_copyTo_17 (by decide) ?_
    exact hag_3 x2_6 S_5 h H locs ls hw (lv_sub hl [1, 2, 0] rfl)
def m_X7_copyTo_4_13_L2 (fu : Nat) (ag_3 : Int32 → ST → Option ST) (x2_1 : Int32) (S_2 : ST) : Option ST :=
  (if (5 : Int32) ≤ x2_1 then some S_2 else gd (inB x2_1 5) (gd (inB x2_1 5) (nm (wrA S_2 12 x2_1 ((rdA S_2 3 x2_1))) (fun S_5 => nm (x2_1 + (1 : Int32)) (fun x2_6 => ag_3 x2_6 S_5)))))
def m_X7_copyTo_4_13 (fu : Nat) (S : ST) : Option ST :=
  lq2 (m_X7_copyTo_4_13_L2 fu) fu (0 : Int32) S
set_option maxRecDepth 100000 in
set_option maxHeartbeats 4000000 in
theorem k_X7_copyTo_4_13 (l : Launch) (D : va_G) (cy : ClassId) (a : Nat → Nat) (fu : Nat) (S : ST) (S' : ST) (h : m_X7_copyTo_4_13 fu S = some S') : CtV l yX7_copyTo cX7_copyTo 3 none 0 [.ref (a 4), .ref (a 13)] D cy (wM cy a) S S' := by
  refine CtV_of (by decide) (Nat.le_of_ble_eq_true rfl) ?_
  intro p e s m args below meth c A ls hC hr hk hw hl
  have hC : Cx p s m c RX7 cX7_copyTo 3 args D cy := hC
  have hx := hC.1
  have hb := hC.2.1
  have hl : lv_has ls 3 [(0, .ref (a 4)), (1, .ref (a 13))] := hl
  obtain ⟨H, eH⟩ : ∃ z : Heap, z = s.heap := ⟨_, rfl⟩
  obtain ⟨locs, elocs⟩ : ∃ z : List Loc, z = [] := ⟨_, rfl⟩
  have hw : InW D (wM cy a) A s.heap H locs S := by rw [eH, elocs]; exact hw
  suffices hsu : W p l e (rmN 0) s m args below meth c H locs 0 0 (QV below args s D (wM cy a) A S') (F0 m 0 ls []) by rw [eH, elocs] at hsu; exact hsu
  unfold m_X7_copyTo_4_13 at h
  refine lv_iconst (v := 0) hx hb dX7_copyTo_0 (by decide) ?_
  refine lv_istore_n (lv' := [(2, .int (0 : Int32)), (0, .ref (a 4)), (1, .ref (a 13))]) hx hb dX7_copyTo_1 rfl hl (by decide) rfl (fun ls hl => ?_)
  refine lq2_ok (fun (x2_1 : Int32) (S_2 : ST) => ∀ (H : Heap) (locs : List Loc) (ls : Array Slot), InW D (wM cy a) A s.heap H locs S_2 → lv_has ls 3 [(0, .ref (a 4)), (1, .ref (a 13)), (2, .int x2_1)] → W p l e (rmN 0) s m args below meth c H locs 0 0 (QV below args s D (wM cy a) A S') (F0 m 2 ls [])) ?_ fu (0 : Int32) S h H locs ls hw (lv_sub hl [1, 2, 0] rfl)
  intro ag_3 hag_3 x2_1 S_2 h H locs ls hw hl
  unfold m_X7_copyTo_4_13_L2 at h
  refine lv_iload_n hx hb dX7_copyTo_2 rfl (lv_at hl 2 rfl) ?_
  refine lv_aload_n hx hb dX7_copyTo_3 rfl (lv_at hl 0 rfl) ?_
  refine al (v := 5) hC hw 4 (cM_4 cy a S_2) (by decide) dX7_copyTo_4 ?_
  refine lv_icmp_ge (tgt := 20) hx hb dX7_copyTo_5 (by decide) (fun c_4 => ?_) (fun c_4 => ?_)
  · have h := if_at_t c_4 h
    exact rtV hC hr hk hw (so_at h) dX7_copyTo_20
  · have h := if_at_f c_4 h
    refine lv_aload_n hx hb dX7_copyTo_8 rfl (lv_at hl 1 rfl) ?_
    refine lv_iload_n hx hb dX7_copyTo_9 rfl (lv_at hl 2 rfl) ?_
    refine lv_aload_n hx hb dX7_copyTo_10 rfl (lv_at hl 0 rfl) ?_
    refine lv_iload_n hx hb dX7_copyTo_11 rfl (lv_at hl 2 rfl) ?_
    obtain ⟨hi, h⟩ := gd_at h
    refine ga hC hw 4 (cM_4 cy a S_2) hi dX7_copyTo_12 ?_
    obtain ⟨hi, h⟩ := gd_at h
    refine pa hC hw 13 (cM_13 cy a S_2) hi (rM_13 cy a S_2) dX7_copyTo_13 (fun H locs hw => ?_)
    obtain ⟨S_5, hw, h⟩ := nmw (P := fun z => InW D (wM cy a) A s.heap H locs z) hw h
    obtain ⟨x2_6, ex2_6⟩ : ∃ z : Int32, z = x2_1 + (1 : Int32) := ⟨_, rfl⟩
    have h := nm_at ex2_6 h
    refine lv_iinc (v := x2_6) (lv' := [(2, .int x2_6), (0, .ref (a 4)), (1, .ref (a 13))]) hx hb dX7_copyTo_14 hl (k := 2) rfl (by rw [ex2_6]; rfl) (by decide) rfl (fun ls hl => ?_)
    refine lv_goto (tgt := 2) hx hb dX7_copyTo_17 (by decide) ?_
    exact hag_3 x2_6 S_5 h H locs ls hw (lv_sub hl [1, 2, 0] rfl)
def m_X7_copyTo_5_14_L2 (fu : Nat) (ag_3 : Int32 → ST → Option ST) (x2_1 : Int32) (S_2 : ST) : Option ST :=
  (if (5 : Int32) ≤ x2_1 then some S_2 else gd (inB x2_1 5) (gd (inB x2_1 5) (nm (wrA S_2 13 x2_1 ((rdA S_2 4 x2_1))) (fun S_5 => nm (x2_1 + (1 : Int32)) (fun x2_6 => ag_3 x2_6 S_5)))))
def m_X7_copyTo_5_14 (fu : Nat) (S : ST) : Option ST :=
  lq2 (m_X7_copyTo_5_14_L2 fu) fu (0 : Int32) S
set_option maxRecDepth 100000 in
set_option maxHeartbeats 4000000 in
theorem k_X7_copyTo_5_14 (l : Launch) (D : va_G) (cy : ClassId) (a : Nat → Nat) (fu : Nat) (S : ST) (S' : ST) (h : m_X7_copyTo_5_14 fu S = some S') : CtV l yX7_copyTo cX7_copyTo 3 none 0 [.ref (a 5), .ref (a 14)] D cy (wM cy a) S S' := by
  refine CtV_of (by decide) (Nat.le_of_ble_eq_true rfl) ?_
  intro p e s m args below meth c A ls hC hr hk hw hl
  have hC : Cx p s m c RX7 cX7_copyTo 3 args D cy := hC
  have hx := hC.1
  have hb := hC.2.1
  have hl : lv_has ls 3 [(0, .ref (a 5)), (1, .ref (a 14))] := hl
  obtain ⟨H, eH⟩ : ∃ z : Heap, z = s.heap := ⟨_, rfl⟩
  obtain ⟨locs, elocs⟩ : ∃ z : List Loc, z = [] := ⟨_, rfl⟩
  have hw : InW D (wM cy a) A s.heap H locs S := by rw [eH, elocs]; exact hw
  suffices hsu : W p l e (rmN 0) s m args below meth c H locs 0 0 (QV below args s D (wM cy a) A S') (F0 m 0 ls []) by rw [eH, elocs] at hsu; exact hsu
  unfold m_X7_copyTo_5_14 at h
  refine lv_iconst (v := 0) hx hb dX7_copyTo_0 (by decide) ?_
  refine lv_istore_n (lv' := [(2, .int (0 : Int32)), (0, .ref (a 5)), (1, .ref (a 14))]) hx hb dX7_copyTo_1 rfl hl (by decide) rfl (fun ls hl => ?_)
  refine lq2_ok (fun (x2_1 : Int32) (S_2 : ST) => ∀ (H : Heap) (locs : List Loc) (ls : Array Slot), InW D (wM cy a) A s.heap H locs S_2 → lv_has ls 3 [(0, .ref (a 5)), (1, .ref (a 14)), (2, .int x2_1)] → W p l e (rmN 0) s m args below meth c H locs 0 0 (QV below args s D (wM cy a) A S') (F0 m 2 ls [])) ?_ fu (0 : Int32) S h H locs ls hw (lv_sub hl [1, 2, 0] rfl)
  intro ag_3 hag_3 x2_1 S_2 h H locs ls hw hl
  unfold m_X7_copyTo_5_14_L2 at h
  refine lv_iload_n hx hb dX7_copyTo_2 rfl (lv_at hl 2 rfl) ?_
  refine lv_aload_n hx hb dX7_copyTo_3 rfl (lv_at hl 0 rfl) ?_
  refine al (v := 5) hC hw 5 (cM_5 cy a S_2) (by decide) dX7_copyTo_4 ?_
  refine lv_icmp_ge (tgt := 20) hx hb dX7_copyTo_5 (by decide) (fun c_4 => ?_) (fun c_4 => ?_)
  · have h := if_at_t c_4 h
    exact rtV hC hr hk hw (so_at h) dX7_copyTo_20
  · have h := if_at_f c_4 h
    refine lv_aload_n hx hb dX7_copyTo_8 rfl (lv_at hl 1 rfl) ?_
    refine lv_iload_n hx hb dX7_copyTo_9 rfl (lv_at hl 2 rfl) ?_
    refine lv_aload_n hx hb dX7_copyTo_10 rfl (lv_at hl 0 rfl) ?_
    refine lv_iload_n hx hb dX7_copyTo_11 rfl (lv_at hl 2 rfl) ?_
    obtain ⟨hi, h⟩ := gd_at h
    refine ga hC hw 5 (cM_5 cy a S_2) hi dX7_copyTo_12 ?_
    obtain ⟨hi, h⟩ := gd_at h
    refine pa hC hw 14 (cM_14 cy a S_2) hi (rM_14 cy a S_2) dX7_copyTo_13 (fun H locs hw => ?_)
    obtain ⟨S_5, hw, h⟩ := nmw (P := fun z => InW D (wM cy a) A s.heap H locs z) hw h
    obtain ⟨x2_6, ex2_6⟩ : ∃ z : Int32, z = x2_1 + (1 : Int32) := ⟨_, rfl⟩
    have h := nm_at ex2_6 h
    refine lv_iinc (v := x2_6) (lv' := [(2, .int x2_6), (0, .ref (a 5)), (1, .ref (a 14))]) hx hb dX7_copyTo_14 hl (k := 2) rfl (by rw [ex2_6]; rfl) (by decide) rfl (fun ls hl => ?_)
    refine lv_goto (tgt := 2) hx hb dX7_copyTo_17 (by decide) ?_
    exact hag_3 x2_6 S_5 h H locs ls hw (lv_sub hl [1, 2, 0] rfl)
def m_X7_copyTo_10_15_L2 (fu : Nat) (ag_3 : Int32 → ST → Option ST) (x2_1 : Int32) (S_2 : ST) : Option ST :=
  (if (5 : Int32) ≤ x2_1 then some S_2 else gd (inB x2_1 5) (gd (inB x2_1 5) (nm (wrA S_2 14 x2_1 ((rdA S_2 9 x2_1))) (fun S_5 => nm (x2_1 + (1 : Int32)) (fun x2_6 => ag_3 x2_6 S_5)))))
def m_X7_copyTo_10_15 (fu : Nat) (S : ST) : Option ST :=
  lq2 (m_X7_copyTo_10_15_L2 fu) fu (0 : Int32) S
set_option maxRecDepth 100000 in
set_option maxHeartbeats 4000000 in
theorem k_X7_copyTo_10_15 (l : Launch) (D : va_G) (cy : ClassId) (a : Nat → Nat) (fu : Nat) (S : ST) (S' : ST) (h : m_X7_copyTo_10_15 fu S = some S') : CtV l yX7_copyTo cX7_copyTo 3 none 0 [.ref (a 10), .ref (a 15)] D cy (wM cy a) S S' := by
  refine CtV_of (by decide) (Nat.le_of_ble_eq_true rfl) ?_
  intro p e s m args below meth c A ls hC hr hk hw hl
  have hC : Cx p s m c RX7 cX7_copyTo 3 args D cy := hC
  have hx := hC.1
  have hb := hC.2.1
  have hl : lv_has ls 3 [(0, .ref (a 10)), (1, .ref (a 15))] := hl
  obtain ⟨H, eH⟩ : ∃ z : Heap, z = s.heap := ⟨_, rfl⟩
  obtain ⟨locs, elocs⟩ : ∃ z : List Loc, z = [] := ⟨_, rfl⟩
  have hw : InW D (wM cy a) A s.heap H locs S := by rw [eH, elocs]; exact hw
  suffices hsu : W p l e (rmN 0) s m args below meth c H locs 0 0 (QV below args s D (wM cy a) A S') (F0 m 0 ls []) by rw [eH, elocs] at hsu; exact hsu
  unfold m_X7_copyTo_10_15 at h
  refine lv_iconst (v := 0) hx hb dX7_copyTo_0 (by decide) ?_
  refine lv_istore_n (lv' := [(2, .int (0 : Int32)), (0, .ref (a 10)), (1, .ref (a 15))]) hx hb dX7_copyTo_1 rfl hl (by decide) rfl (fun ls hl => ?_)
  refine lq2_ok (fun (x2_1 : Int32) (S_2 : ST) => ∀ (H : Heap) (locs : List Loc) (ls : Array Slot), InW D (wM cy a) A s.heap H locs S_2 → lv_has ls 3 [(0, .ref (a 10)), (1, .ref (a 15)), (2, .int x2_1)] → W p l e (rmN 0) s m args below meth c H locs 0 0 (QV below args s D (wM cy a) A S') (F0 m 2 ls [])) ?_ fu (0 : Int32) S h H locs ls hw (lv_sub hl [1, 2, 0] rfl)
  intro ag_3 hag_3 x2_1 S_2 h H locs ls hw hl
  unfold m_X7_copyTo_10_15_L2 at h
  refine lv_iload_n hx hb dX7_copyTo_2 rfl (lv_at hl 2 rfl) ?_
  refine lv_aload_n hx hb dX7_copyTo_3 rfl (lv_at hl 0 rfl) ?_
  refine al (v := 5) hC hw 10 (cM_10 cy a S_2) (by decide) dX7_copyTo_4 ?_
  refine lv_icmp_ge (tgt := 20) hx hb dX7_copyTo_5 (by decide) (fun c_4 => ?_) (fun c_4 => ?_)
  · have h := if_at_t c_4 h
    exact rtV hC hr hk hw (so_at h) dX7_copyTo_20
  · have h := if_at_f c_4 h
    refine lv_aload_n hx hb dX7_copyTo_8 rfl (lv_at hl 1 rfl) ?_
    refine lv_iload_n hx hb dX7_copyTo_9 rfl (lv_at hl 2 rfl) ?_
    refine lv_aload_n hx hb dX7_copyTo_10 rfl (lv_at hl 0 rfl) ?_
    refine lv_iload_n hx hb dX7_copyTo_11 rfl (lv_at hl 2 rfl) ?_
    obtain ⟨hi, h⟩ := gd_at h
    refine ga hC hw 10 (cM_10 cy a S_2) hi dX7_copyTo_12 ?_
    obtain ⟨hi, h⟩ := gd_at h
    refine pa hC hw 15 (cM_15 cy a S_2) hi (rM_15 cy a S_2) dX7_copyTo_13 (fun H locs hw => ?_)
    obtain ⟨S_5, hw, h⟩ := nmw (P := fun z => InW D (wM cy a) A s.heap H locs z) hw h
    obtain ⟨x2_6, ex2_6⟩ : ∃ z : Int32, z = x2_1 + (1 : Int32) := ⟨_, rfl⟩
    have h := nm_at ex2_6 h
    refine lv_iinc (v := x2_6) (lv' := [(2, .int x2_6), (0, .ref (a 10)), (1, .ref (a 15))]) hx hb dX7_copyTo_14 hl (k := 2) rfl (by rw [ex2_6]; rfl) (by decide) rfl (fun ls hl => ?_)
    refine lv_goto (tgt := 2) hx hb dX7_copyTo_17 (by decide) ?_
    exact hag_3 x2_6 S_5 h H locs ls hw (lv_sub hl [1, 2, 0] rfl)
def m_X7_image (fu : Nat) (S : ST) : Option (Int32 × ST) :=
  bd (m_X7_lacks fu S) (fun v_2 => (if v_2 = (0 : Int32) then bd (m_X7_copyTo_3_12 fu S) (fun S_5 => bd (m_X7_copyTo_4_13 fu S_5) (fun S_7 => bd (m_X7_copyTo_5_14 fu S_7) (fun S_9 => bd (m_X7_copyTo_10_15 fu S_9) (fun S_11 => nm (puI S_11 10 ((stI S_11 4))) (fun S_12 => nm (puI S_12 11 ((stI S_12 2))) (fun S_13 => nm (puI S_13 12 ((stI S_13 7))) (fun S_14 => nm (puI S_14 9 ((stI S_14 3))) (fun S_15 => some ((stI S_15 2), S_15))))))))) else some ((-103 : Int32), S)))
set_option maxRecDepth 100000 in
set_option maxHeartbeats 4000000 in
theorem k_X7_image (l : Launch) (D : va_G) (cy : ClassId) (a : Nat → Nat) (fu : Nat) (S : ST) (r : Int32) (S' : ST) (h : m_X7_image fu S = some (r, S')) : CtI l yX7_image cX7_image 1 (some .int) 1 [.ref (a 0)] D cy (wM cy a) S r S' := by
  refine CtI_of (by decide) (Nat.le_of_ble_eq_true rfl) ?_
  intro p e s m args below meth c A ls hC hr hk hw hl
  have hC : Cx p s m c RX7 cX7_image 1 args D cy := hC
  have hx := hC.1
  have hb := hC.2.1
  have hl : lv_has ls 1 [(0, .ref (a 0))] := hl
  obtain ⟨H, eH⟩ : ∃ z : Heap, z = s.heap := ⟨_, rfl⟩
  obtain ⟨locs, elocs⟩ : ∃ z : List Loc, z = [] := ⟨_, rfl⟩
  have hw : InW D (wM cy a) A s.heap H locs S := by rw [eH, elocs]; exact hw
  suffices hsu : W p l e (rmN 1) s m args below meth c H locs 0 0 (QI below args s D (wM cy a) A r S') (F0 m 0 ls []) by rw [eH, elocs] at hsu; exact hsu
  unfold m_X7_image at h
  refine lv_aload_n hx hb dX7_image_0 rfl (lv_at hl 0 rfl) ?_
  obtain ⟨v_2, hc_1, h⟩ := bd_at h
  refine caVI (As := []) (rest := []) hC hw hl.1 lm_RX7_109 li_RX7 lk_yX7_lacks li_yX7_lacks ll_yX7_lacks 0 5 (cM_0 cy a S) rfl 0 rfl hd_X7_lacks (by decide) (by decide) (Nat.le_of_ble_eq_true rfl) dX7_image_1 (k_X7_lacks l D cy a fu S _ hc_1) (fun H locs hw => ?_)
  refine lv_if_eq (tgt := 10) hx hb dX7_image_4 (by decide) (fun c_3 => ?_) (fun c_3 => ?_)
  · have h := if_at_t c_3 h
    refine lv_aload_n hx hb dX7_image_10 rfl (lv_at hl 0 rfl) ?_
    refine gf (v := .ref (a 3)) hC hw in_X7 0 5 7 (cM_0 cy a S) rfl (by decide) lf_RX7_16 rfl rfl dX7_image_11 ?_
    refine lv_aload_n hx hb dX7_image_14 rfl (lv_at hl 0 rfl) ?_
    refine gf (v := .ref (a 12)) hC hw in_X7 0 5 24 (cM_0 cy a S) rfl (by decide) lf_RX7_43 rfl rfl dX7_image_15 ?_
    obtain ⟨S_5, hc_4, h⟩ := bd_at h
    refine caSV (As := [.ref (a 3), .ref (a 12)]) (rest := []) hC hw hl.1 lm_RX7_220 li_RX7 lk_yX7_copyTo ls_yX7_copyTo 2 rfl hd_X7_copyTo (by decide) (by decide) (Nat.le_of_ble_eq_true rfl) dX7_image_18 (k_X7_copyTo_3_12 l D cy a fu S _ hc_4) (fun H locs hw => ?_)
    refine lv_aload_n hx hb dX7_image_21 rfl (lv_at hl 0 rfl) ?_
    refine gf (v := .ref (a 4)) hC hw in_X7 0 5 8 (cM_0 cy a S_5) rfl (by decide) lf_RX7_19 rfl rfl dX7_image_22 ?_
    refine lv_aload_n hx hb dX7_image_25 rfl (lv_at hl 0 rfl) ?_
    refine gf (v := .ref (a 13)) hC hw in_X7 0 5 25 (cM_0 cy a S_5) rfl (by decide) lf_RX7_46 rfl rfl dX7_image_26 ?_
    obtain ⟨S_7, hc_6, h⟩ := bd_at h
    refine caSV (As := [.ref (a 4), .ref (a 13)]) (rest := []) hC hw hl.1 lm_RX7_220 li_RX7 lk_yX7_copyTo ls_yX7_copyTo 2 rfl hd_X7_copyTo (by decide) (by decide) (Nat.le_of_ble_eq_true rfl) dX7_image_29 (k_X7_copyTo_4_13 l D cy a fu S_5 _ hc_6) (fun H locs hw => ?_)
    refine lv_aload_n hx hb dX7_image_32 rfl (lv_at hl 0 rfl) ?_
    refine gf (v := .ref (a 5)) hC hw in_X7 0 5 9 (cM_0 cy a S_7) rfl (by decide) lf_RX7_22 rfl rfl dX7_image_33 ?_
    refine lv_aload_n hx hb dX7_image_36 rfl (lv_at hl 0 rfl) ?_
    refine gf (v := .ref (a 14)) hC hw in_X7 0 5 26 (cM_0 cy a S_7) rfl (by decide) lf_RX7_49 rfl rfl dX7_image_37 ?_
    obtain ⟨S_9, hc_8, h⟩ := bd_at h
    refine caSV (As := [.ref (a 5), .ref (a 14)]) (rest := []) hC hw hl.1 lm_RX7_220 li_RX7 lk_yX7_copyTo ls_yX7_copyTo 2 rfl hd_X7_copyTo (by decide) (by decide) (Nat.le_of_ble_eq_true rfl) dX7_image_40 (k_X7_copyTo_5_14 l D cy a fu S_7 _ hc_8) (fun H locs hw => ?_)
    refine lv_aload_n hx hb dX7_image_43 rfl (lv_at hl 0 rfl) ?_
    refine gf (v := .ref (a 10)) hC hw in_X7 0 5 17 (cM_0 cy a S_9) rfl (by decide) lf_RX7_37 rfl rfl dX7_image_44 ?_
    refine lv_aload_n hx hb dX7_image_47 rfl (lv_at hl 0 rfl) ?_
    refine gf (v := .ref (a 15)) hC hw in_X7 0 5 27 (cM_0 cy a S_9) rfl (by decide) lf_RX7_52 rfl rfl dX7_image_48 ?_
    obtain ⟨S_11, hc_10, h⟩ := bd_at h
    refine caSV (As := [.ref (a 10), .ref (a 15)]) (rest := []) hC hw hl.1 lm_RX7_220 li_RX7 lk_yX7_copyTo ls_yX7_copyTo 2 rfl hd_X7_copyTo (by decide) (by decide) (Nat.le_of_ble_eq_true rfl) dX7_image_51 (k_X7_copyTo_10_15 l D cy a fu S_9 _ hc_10) (fun H locs hw => ?_)
    refine lv_aload_n hx hb dX7_image_54 rfl (lv_at hl 0 rfl) ?_
    refine lv_aload_n hx hb dX7_image_55 rfl (lv_at hl 0 rfl) ?_
    refine gf (v := .int (stI S_11 4)) hC hw in_X7 0 5 6 (cM_0 cy a S_11) rfl (by decide) lf_RX7_81 rfl rfl dX7_image_56 ?_
    refine pf (ty := .int) (v := .int ((stI S_11 4))) hC hw in_X7 tyX7_ok nmX7 0 5 21 (cM_0 cy a S_11) rfl (by decide) lf_RX7_224 rfl rfl (by decide +kernel) rfl rfl (Nat.le_of_ble_eq_true rfl) (sM_21 cy a S_11 ((stI S_11 4))) dX7_image_59 (fun H locs hw => ?_)
    obtain ⟨S_12, hw, h⟩ := nmw (P := fun z => InW D (wM cy a) A s.heap H locs z) hw h
    refine lv_aload_n hx hb dX7_image_62 rfl (lv_at hl 0 rfl) ?_
    refine lv_aload_n hx hb dX7_image_63 rfl (lv_at hl 0 rfl) ?_
    refine gf (v := .int (stI S_12 2)) hC hw in_X7 0 5 3 (cM_0 cy a S_12) rfl (by decide) lf_RX7_84 rfl rfl dX7_image_64 ?_
    refine pf (ty := .int) (v := .int ((stI S_12 2))) hC hw in_X7 tyX7_ok nmX7 0 5 22 (cM_0 cy a S_12) rfl (by decide) lf_RX7_227 rfl rfl (by decide +kernel) rfl rfl (Nat.le_of_ble_eq_true rfl) (sM_22 cy a S_12 ((stI S_12 2))) dX7_image_67 (fun H locs hw => ?_)
    obtain ⟨S_13, hw, h⟩ := nmw (P := fun z => InW D (wM cy a) A s.heap H locs z) hw h
    refine lv_aload_n hx hb dX7_image_70 rfl (lv_at hl 0 rfl) ?_
    refine lv_aload_n hx hb dX7_image_71 rfl (lv_at hl 0 rfl) ?_
    refine gf (v := .int (stI S_13 7)) hC hw in_X7 0 5 16 (cM_0 cy a S_13) rfl (by decide) lf_RX7_87 rfl rfl dX7_image_72 ?_
    refine pf (ty := .int) (v := .int ((stI S_13 7))) hC hw in_X7 tyX7_ok nmX7 0 5 23 (cM_0 cy a S_13) rfl (by decide) lf_RX7_230 rfl rfl (by decide +kernel) rfl rfl (Nat.le_of_ble_eq_true rfl) (sM_23 cy a S_13 ((stI S_13 7))) dX7_image_75 (fun H locs hw => ?_)
    obtain ⟨S_14, hw, h⟩ := nmw (P := fun z => InW D (wM cy a) A s.heap H locs z) hw h
    refine lv_aload_n hx hb dX7_image_78 rfl (lv_at hl 0 rfl) ?_
    refine lv_aload_n hx hb dX7_image_79 rfl (lv_at hl 0 rfl) ?_
    refine gf (v := .int (stI S_14 3)) hC hw in_X7 0 5 4 (cM_0 cy a S_14) rfl (by decide) lf_RX7_90 rfl rfl dX7_image_80 ?_
    refine pf (ty := .int) (v := .int ((stI S_14 3))) hC hw in_X7 tyX7_ok nmX7 0 5 20 (cM_0 cy a S_14) rfl (by decide) lf_RX7_55 rfl rfl (by decide +kernel) rfl rfl (Nat.le_of_ble_eq_true rfl) (sM_20 cy a S_14 ((stI S_14 3))) dX7_image_83 (fun H locs hw => ?_)
    obtain ⟨S_15, hw, h⟩ := nmw (P := fun z => InW D (wM cy a) A s.heap H locs z) hw h
    refine lv_aload_n hx hb dX7_image_86 rfl (lv_at hl 0 rfl) ?_
    refine gf (v := .int (stI S_15 2)) hC hw in_X7 0 5 3 (cM_0 cy a S_15) rfl (by decide) lf_RX7_84 rfl rfl dX7_image_87 ?_
    exact rtI hC hr hk hw (so_at2 h).1 (so_at2 h).2 dX7_image_90
  · have h := if_at_f c_3 h
    refine lv_bipush (v := -103) hx hb dX7_image_7 (by decide) ?_
    exact rtI hC hr hk hw (so_at2 h).1 (so_at2 h).2 dX7_image_9
def m_X7_copyTo_12_3_L2 (fu : Nat) (ag_3 : Int32 → ST → Option ST) (x2_1 : Int32) (S_2 : ST) : Option ST :=
  (if (10 : Int32) ≤ x2_1 then some S_2 else gd (inB x2_1 10) (gd (inB x2_1 10) (nm (wrA S_2 2 x2_1 ((rdA S_2 11 x2_1))) (fun S_5 => nm (x2_1 + (1 : Int32)) (fun x2_6 => ag_3 x2_6 S_5)))))
def m_X7_copyTo_12_3 (fu : Nat) (S : ST) : Option ST :=
  lq2 (m_X7_copyTo_12_3_L2 fu) fu (0 : Int32) S
set_option maxRecDepth 100000 in
set_option maxHeartbeats 4000000 in
theorem k_X7_copyTo_12_3 (l : Launch) (D : va_G) (cy : ClassId) (a : Nat → Nat) (fu : Nat) (S : ST) (S' : ST) (h : m_X7_copyTo_12_3 fu S = some S') : CtV l yX7_copyTo cX7_copyTo 3 none 0 [.ref (a 12), .ref (a 3)] D cy (wM cy a) S S' := by
  refine CtV_of (by decide) (Nat.le_of_ble_eq_true rfl) ?_
  intro p e s m args below meth c A ls hC hr hk hw hl
  have hC : Cx p s m c RX7 cX7_copyTo 3 args D cy := hC
  have hx := hC.1
  have hb := hC.2.1
  have hl : lv_has ls 3 [(0, .ref (a 12)), (1, .ref (a 3))] := hl
  obtain ⟨H, eH⟩ : ∃ z : Heap, z = s.heap := ⟨_, rfl⟩
  obtain ⟨locs, elocs⟩ : ∃ z : List Loc, z = [] := ⟨_, rfl⟩
  have hw : InW D (wM cy a) A s.heap H locs S := by rw [eH, elocs]; exact hw
  suffices hsu : W p l e (rmN 0) s m args below meth c H locs 0 0 (QV below args s D (wM cy a) A S') (F0 m 0 ls []) by rw [eH, elocs] at hsu; exact hsu
  unfold m_X7_copyTo_12_3 at h
  refine lv_iconst (v := 0) hx hb dX7_copyTo_0 (by decide) ?_
  refine lv_istore_n (lv' := [(2, .int (0 : Int32)), (0, .ref (a 12)), (1, .ref (a 3))]) hx hb dX7_copyTo_1 rfl hl (by decide) rfl (fun ls hl => ?_)
  refine lq2_ok (fun (x2_1 : Int32) (S_2 : ST) => ∀ (H : Heap) (locs : List Loc) (ls : Array Slot), InW D (wM cy a) A s.heap H locs S_2 → lv_has ls 3 [(0, .ref (a 12)), (1, .ref (a 3)), (2, .int x2_1)] → W p l e (rmN 0) s m args below meth c H locs 0 0 (QV below args s D (wM cy a) A S') (F0 m 2 ls [])) ?_ fu (0 : Int32) S h H locs ls hw (lv_sub hl [1, 2, 0] rfl)
  intro ag_3 hag_3 x2_1 S_2 h H locs ls hw hl
  unfold m_X7_copyTo_12_3_L2 at h
  refine lv_iload_n hx hb dX7_copyTo_2 rfl (lv_at hl 2 rfl) ?_
  refine lv_aload_n hx hb dX7_copyTo_3 rfl (lv_at hl 0 rfl) ?_
  refine al (v := 10) hC hw 12 (cM_12 cy a S_2) (by decide) dX7_copyTo_4 ?_
  refine lv_icmp_ge (tgt := 20) hx hb dX7_copyTo_5 (by decide) (fun c_4 => ?_) (fun c_4 => ?_)
  · have h := if_at_t c_4 h
    exact rtV hC hr hk hw (so_at h) dX7_copyTo_20
  · have h := if_at_f c_4 h
    refine lv_aload_n hx hb dX7_copyTo_8 rfl (lv_at hl 1 rfl) ?_
    refine lv_iload_n hx hb dX7_copyTo_9 rfl (lv_at hl 2 rfl) ?_
    refine lv_aload_n hx hb dX7_copyTo_10 rfl (lv_at hl 0 rfl) ?_
    refine lv_iload_n hx hb dX7_copyTo_11 rfl (lv_at hl 2 rfl) ?_
    obtain ⟨hi, h⟩ := gd_at h
    refine ga hC hw 12 (cM_12 cy a S_2) hi dX7_copyTo_12 ?_
    obtain ⟨hi, h⟩ := gd_at h
    refine pa hC hw 3 (cM_3 cy a S_2) hi (rM_3 cy a S_2) dX7_copyTo_13 (fun H locs hw => ?_)
    obtain ⟨S_5, hw, h⟩ := nmw (P := fun z => InW D (wM cy a) A s.heap H locs z) hw h
    obtain ⟨x2_6, ex2_6⟩ : ∃ z : Int32, z = x2_1 + (1 : Int32) := ⟨_, rfl⟩
    have h := nm_at ex2_6 h
    refine lv_iinc (v := x2_6) (lv' := [(2, .int x2_6), (0, .ref (a 12)), (1, .ref (a 3))]) hx hb dX7_copyTo_14 hl (k := 2) rfl (by rw [ex2_6]; rfl) (by decide) rfl (fun ls hl => ?_)
    refine lv_goto (tgt := 2) hx hb dX7_copyTo_17 (by decide) ?_
    exact hag_3 x2_6 S_5 h H locs ls hw (lv_sub hl [1, 2, 0] rfl)
def m_X7_copyTo_13_4_L2 (fu : Nat) (ag_3 : Int32 → ST → Option ST) (x2_1 : Int32) (S_2 : ST) : Option ST :=
  (if (5 : Int32) ≤ x2_1 then some S_2 else gd (inB x2_1 5) (gd (inB x2_1 5) (nm (wrA S_2 3 x2_1 ((rdA S_2 12 x2_1))) (fun S_5 => nm (x2_1 + (1 : Int32)) (fun x2_6 => ag_3 x2_6 S_5)))))
def m_X7_copyTo_13_4 (fu : Nat) (S : ST) : Option ST :=
  lq2 (m_X7_copyTo_13_4_L2 fu) fu (0 : Int32) S
set_option maxRecDepth 100000 in
set_option maxHeartbeats 4000000 in
theorem k_X7_copyTo_13_4 (l : Launch) (D : va_G) (cy : ClassId) (a : Nat → Nat) (fu : Nat) (S : ST) (S' : ST) (h : m_X7_copyTo_13_4 fu S = some S') : CtV l yX7_copyTo cX7_copyTo 3 none 0 [.ref (a 13), .ref (a 4)] D cy (wM cy a) S S' := by
  refine CtV_of (by decide) (Nat.le_of_ble_eq_true rfl) ?_
  intro p e s m args below meth c A ls hC hr hk hw hl
  have hC : Cx p s m c RX7 cX7_copyTo 3 args D cy := hC
  have hx := hC.1
  have hb := hC.2.1
  have hl : lv_has ls 3 [(0, .ref (a 13)), (1, .ref (a 4))] := hl
  obtain ⟨H, eH⟩ : ∃ z : Heap, z = s.heap := ⟨_, rfl⟩
  obtain ⟨locs, elocs⟩ : ∃ z : List Loc, z = [] := ⟨_, rfl⟩
  have hw : InW D (wM cy a) A s.heap H locs S := by rw [eH, elocs]; exact hw
  suffices hsu : W p l e (rmN 0) s m args below meth c H locs 0 0 (QV below args s D (wM cy a) A S') (F0 m 0 ls []) by rw [eH, elocs] at hsu; exact hsu
  unfold m_X7_copyTo_13_4 at h
  refine lv_iconst (v := 0) hx hb dX7_copyTo_0 (by decide) ?_
  refine lv_istore_n (lv' := [(2, .int (0 : Int32)), (0, .ref (a 13)), (1, .ref (a 4))]) hx hb dX7_copyTo_1 rfl hl (by decide) rfl (fun ls hl => ?_)
  refine lq2_ok (fun (x2_1 : Int32) (S_2 : ST) => ∀ (H : Heap) (locs : List Loc) (ls : Array Slot), InW D (wM cy a) A s.heap H locs S_2 → lv_has ls 3 [(0, .ref (a 13)), (1, .ref (a 4)), (2, .int x2_1)] → W p l e (rmN 0) s m args below meth c H locs 0 0 (QV below args s D (wM cy a) A S') (F0 m 2 ls [])) ?_ fu (0 : Int32) S h H locs ls hw (lv_sub hl [1, 2, 0] rfl)
  intro ag_3 hag_3 x2_1 S_2 h H locs ls hw hl
  unfold m_X7_copyTo_13_4_L2 at h
  refine lv_iload_n hx hb dX7_copyTo_2 rfl (lv_at hl 2 rfl) ?_
  refine lv_aload_n hx hb dX7_copyTo_3 rfl (lv_at hl 0 rfl) ?_
  refine al (v := 5) hC hw 13 (cM_13 cy a S_2) (by decide) dX7_copyTo_4 ?_
  refine lv_icmp_ge (tgt := 20) hx hb dX7_copyTo_5 (by decide) (fun c_4 => ?_) (fun c_4 => ?_)
  · have h := if_at_t c_4 h
    exact rtV hC hr hk hw (so_at h) dX7_copyTo_20
  · have h := if_at_f c_4 h
    refine lv_aload_n hx hb dX7_copyTo_8 rfl (lv_at hl 1 rfl) ?_
    refine lv_iload_n hx hb dX7_copyTo_9 rfl (lv_at hl 2 rfl) ?_
    refine lv_aload_n hx hb dX7_copyTo_10 rfl (lv_at hl 0 rfl) ?_
    refine lv_iload_n hx hb dX7_copyTo_11 rfl (lv_at hl 2 rfl) ?_
    obtain ⟨hi, h⟩ := gd_at h
    refine ga hC hw 13 (cM_13 cy a S_2) hi dX7_copyTo_12 ?_
    obtain ⟨hi, h⟩ := gd_at h
    refine pa hC hw 4 (cM_4 cy a S_2) hi (rM_4 cy a S_2) dX7_copyTo_13 (fun H locs hw => ?_)
    obtain ⟨S_5, hw, h⟩ := nmw (P := fun z => InW D (wM cy a) A s.heap H locs z) hw h
    obtain ⟨x2_6, ex2_6⟩ : ∃ z : Int32, z = x2_1 + (1 : Int32) := ⟨_, rfl⟩
    have h := nm_at ex2_6 h
    refine lv_iinc (v := x2_6) (lv' := [(2, .int x2_6), (0, .ref (a 13)), (1, .ref (a 4))]) hx hb dX7_copyTo_14 hl (k := 2) rfl (by rw [ex2_6]; rfl) (by decide) rfl (fun ls hl => ?_)
    refine lv_goto (tgt := 2) hx hb dX7_copyTo_17 (by decide) ?_
    exact hag_3 x2_6 S_5 h H locs ls hw (lv_sub hl [1, 2, 0] rfl)
def m_X7_copyTo_14_5_L2 (fu : Nat) (ag_3 : Int32 → ST → Option ST) (x2_1 : Int32) (S_2 : ST) : Option ST :=
  (if (5 : Int32) ≤ x2_1 then some S_2 else gd (inB x2_1 5) (gd (inB x2_1 5) (nm (wrA S_2 4 x2_1 ((rdA S_2 13 x2_1))) (fun S_5 => nm (x2_1 + (1 : Int32)) (fun x2_6 => ag_3 x2_6 S_5)))))
def m_X7_copyTo_14_5 (fu : Nat) (S : ST) : Option ST :=
  lq2 (m_X7_copyTo_14_5_L2 fu) fu (0 : Int32) S
set_option maxRecDepth 100000 in
set_option maxHeartbeats 4000000 in
theorem k_X7_copyTo_14_5 (l : Launch) (D : va_G) (cy : ClassId) (a : Nat → Nat) (fu : Nat) (S : ST) (S' : ST) (h : m_X7_copyTo_14_5 fu S = some S') : CtV l yX7_copyTo cX7_copyTo 3 none 0 [.ref (a 14), .ref (a 5)] D cy (wM cy a) S S' := by
  refine CtV_of (by decide) (Nat.le_of_ble_eq_true rfl) ?_
  intro p e s m args below meth c A ls hC hr hk hw hl
  have hC : Cx p s m c RX7 cX7_copyTo 3 args D cy := hC
  have hx := hC.1
  have hb := hC.2.1
  have hl : lv_has ls 3 [(0, .ref (a 14)), (1, .ref (a 5))] := hl
  obtain ⟨H, eH⟩ : ∃ z : Heap, z = s.heap := ⟨_, rfl⟩
  obtain ⟨locs, elocs⟩ : ∃ z : List Loc, z = [] := ⟨_, rfl⟩
  have hw : InW D (wM cy a) A s.heap H locs S := by rw [eH, elocs]; exact hw
  suffices hsu : W p l e (rmN 0) s m args below meth c H locs 0 0 (QV below args s D (wM cy a) A S') (F0 m 0 ls []) by rw [eH, elocs] at hsu; exact hsu
  unfold m_X7_copyTo_14_5 at h
  refine lv_iconst (v := 0) hx hb dX7_copyTo_0 (by decide) ?_
  refine lv_istore_n (lv' := [(2, .int (0 : Int32)), (0, .ref (a 14)), (1, .ref (a 5))]) hx hb dX7_copyTo_1 rfl hl (by decide) rfl (fun ls hl => ?_)
  refine lq2_ok (fun (x2_1 : Int32) (S_2 : ST) => ∀ (H : Heap) (locs : List Loc) (ls : Array Slot), InW D (wM cy a) A s.heap H locs S_2 → lv_has ls 3 [(0, .ref (a 14)), (1, .ref (a 5)), (2, .int x2_1)] → W p l e (rmN 0) s m args below meth c H locs 0 0 (QV below args s D (wM cy a) A S') (F0 m 2 ls [])) ?_ fu (0 : Int32) S h H locs ls hw (lv_sub hl [1, 2, 0] rfl)
  intro ag_3 hag_3 x2_1 S_2 h H locs ls hw hl
  unfold m_X7_copyTo_14_5_L2 at h
  refine lv_iload_n hx hb dX7_copyTo_2 rfl (lv_at hl 2 rfl) ?_
  refine lv_aload_n hx hb dX7_copyTo_3 rfl (lv_at hl 0 rfl) ?_
  refine al (v := 5) hC hw 14 (cM_14 cy a S_2) (by decide) dX7_copyTo_4 ?_
  refine lv_icmp_ge (tgt := 20) hx hb dX7_copyTo_5 (by decide) (fun c_4 => ?_) (fun c_4 => ?_)
  · have h := if_at_t c_4 h
    exact rtV hC hr hk hw (so_at h) dX7_copyTo_20
  · have h := if_at_f c_4 h
    refine lv_aload_n hx hb dX7_copyTo_8 rfl (lv_at hl 1 rfl) ?_
    refine lv_iload_n hx hb dX7_copyTo_9 rfl (lv_at hl 2 rfl) ?_
    refine lv_aload_n hx hb dX7_copyTo_10 rfl (lv_at hl 0 rfl) ?_
    refine lv_iload_n hx hb dX7_copyTo_11 rfl (lv_at hl 2 rfl) ?_
    obtain ⟨hi, h⟩ := gd_at h
    refine ga hC hw 14 (cM_14 cy a S_2) hi dX7_copyTo_12 ?_
    obtain ⟨hi, h⟩ := gd_at h
    refine pa hC hw 5 (cM_5 cy a S_2) hi (rM_5 cy a S_2) dX7_copyTo_13 (fun H locs hw => ?_)
    obtain ⟨S_5, hw, h⟩ := nmw (P := fun z => InW D (wM cy a) A s.heap H locs z) hw h
    obtain ⟨x2_6, ex2_6⟩ : ∃ z : Int32, z = x2_1 + (1 : Int32) := ⟨_, rfl⟩
    have h := nm_at ex2_6 h
    refine lv_iinc (v := x2_6) (lv' := [(2, .int x2_6), (0, .ref (a 14)), (1, .ref (a 5))]) hx hb dX7_copyTo_14 hl (k := 2) rfl (by rw [ex2_6]; rfl) (by decide) rfl (fun ls hl => ?_)
    refine lv_goto (tgt := 2) hx hb dX7_copyTo_17 (by decide) ?_
    exact hag_3 x2_6 S_5 h H locs ls hw (lv_sub hl [1, 2, 0] rfl)
def m_X7_copyTo_15_10_L2 (fu : Nat) (ag_3 : Int32 → ST → Option ST) (x2_1 : Int32) (S_2 : ST) : Option ST :=
  (if (5 : Int32) ≤ x2_1 then some S_2 else gd (inB x2_1 5) (gd (inB x2_1 5) (nm (wrA S_2 9 x2_1 ((rdA S_2 14 x2_1))) (fun S_5 => nm (x2_1 + (1 : Int32)) (fun x2_6 => ag_3 x2_6 S_5)))))
def m_X7_copyTo_15_10 (fu : Nat) (S : ST) : Option ST :=
  lq2 (m_X7_copyTo_15_10_L2 fu) fu (0 : Int32) S
set_option maxRecDepth 100000 in
set_option maxHeartbeats 4000000 in
theorem k_X7_copyTo_15_10 (l : Launch) (D : va_G) (cy : ClassId) (a : Nat → Nat) (fu : Nat) (S : ST) (S' : ST) (h : m_X7_copyTo_15_10 fu S = some S') : CtV l yX7_copyTo cX7_copyTo 3 none 0 [.ref (a 15), .ref (a 10)] D cy (wM cy a) S S' := by
  refine CtV_of (by decide) (Nat.le_of_ble_eq_true rfl) ?_
  intro p e s m args below meth c A ls hC hr hk hw hl
  have hC : Cx p s m c RX7 cX7_copyTo 3 args D cy := hC
  have hx := hC.1
  have hb := hC.2.1
  have hl : lv_has ls 3 [(0, .ref (a 15)), (1, .ref (a 10))] := hl
  obtain ⟨H, eH⟩ : ∃ z : Heap, z = s.heap := ⟨_, rfl⟩
  obtain ⟨locs, elocs⟩ : ∃ z : List Loc, z = [] := ⟨_, rfl⟩
  have hw : InW D (wM cy a) A s.heap H locs S := by rw [eH, elocs]; exact hw
  suffices hsu : W p l e (rmN 0) s m args below meth c H locs 0 0 (QV below args s D (wM cy a) A S') (F0 m 0 ls []) by rw [eH, elocs] at hsu; exact hsu
  unfold m_X7_copyTo_15_10 at h
  refine lv_iconst (v := 0) hx hb dX7_copyTo_0 (by decide) ?_
  refine lv_istore_n (lv' := [(2, .int (0 : Int32)), (0, .ref (a 15)), (1, .ref (a 10))]) hx hb dX7_copyTo_1 rfl hl (by decide) rfl (fun ls hl => ?_)
  refine lq2_ok (fun (x2_1 : Int32) (S_2 : ST) => ∀ (H : Heap) (locs : List Loc) (ls : Array Slot), InW D (wM cy a) A s.heap H locs S_2 → lv_has ls 3 [(0, .ref (a 15)), (1, .ref (a 10)), (2, .int x2_1)] → W p l e (rmN 0) s m args below meth c H locs 0 0 (QV below args s D (wM cy a) A S') (F0 m 2 ls [])) ?_ fu (0 : Int32) S h H locs ls hw (lv_sub hl [1, 2, 0] rfl)
  intro ag_3 hag_3 x2_1 S_2 h H locs ls hw hl
  unfold m_X7_copyTo_15_10_L2 at h
  refine lv_iload_n hx hb dX7_copyTo_2 rfl (lv_at hl 2 rfl) ?_
  refine lv_aload_n hx hb dX7_copyTo_3 rfl (lv_at hl 0 rfl) ?_
  refine al (v := 5) hC hw 15 (cM_15 cy a S_2) (by decide) dX7_copyTo_4 ?_
  refine lv_icmp_ge (tgt := 20) hx hb dX7_copyTo_5 (by decide) (fun c_4 => ?_) (fun c_4 => ?_)
  · have h := if_at_t c_4 h
    exact rtV hC hr hk hw (so_at h) dX7_copyTo_20
  · have h := if_at_f c_4 h
    refine lv_aload_n hx hb dX7_copyTo_8 rfl (lv_at hl 1 rfl) ?_
    refine lv_iload_n hx hb dX7_copyTo_9 rfl (lv_at hl 2 rfl) ?_
    refine lv_aload_n hx hb dX7_copyTo_10 rfl (lv_at hl 0 rfl) ?_
    refine lv_iload_n hx hb dX7_copyTo_11 rfl (lv_at hl 2 rfl) ?_
    obtain ⟨hi, h⟩ := gd_at h
    refine ga hC hw 15 (cM_15 cy a S_2) hi dX7_copyTo_12 ?_
    obtain ⟨hi, h⟩ := gd_at h
    refine pa hC hw 10 (cM_10 cy a S_2) hi (rM_10 cy a S_2) dX7_copyTo_13 (fun H locs hw => ?_)
    obtain ⟨S_5, hw, h⟩ := nmw (P := fun z => InW D (wM cy a) A s.heap H locs z) hw h
    obtain ⟨x2_6, ex2_6⟩ : ∃ z : Int32, z = x2_1 + (1 : Int32) := ⟨_, rfl⟩
    have h := nm_at ex2_6 h
    refine lv_iinc (v := x2_6) (lv' := [(2, .int x2_6), (0, .ref (a 15)), (1, .ref (a 10))]) hx hb dX7_copyTo_14 hl (k := 2) rfl (by rw [ex2_6]; rfl) (by decide) rfl (fun ls hl => ?_)
    refine lv_goto (tgt := 2) hx hb dX7_copyTo_17 (by decide) ?_
    exact hag_3 x2_6 S_5 h H locs ls hw (lv_sub hl [1, 2, 0] rfl)
def m_X7_restore (fu : Nat) (S : ST) : Option (Int32 × ST) :=
  (if (stI S 9) = (stI S 3) then bd (m_X7_copyTo_12_3 fu S) (fun S_3 => bd (m_X7_copyTo_13_4 fu S_3) (fun S_5 => bd (m_X7_copyTo_14_5 fu S_5) (fun S_7 => bd (m_X7_copyTo_15_10 fu S_7) (fun S_9 => nm (puI S_9 4 ((stI S_9 10))) (fun S_10 => nm (puI S_10 2 ((stI S_10 11))) (fun S_11 => nm (puI S_11 7 ((stI S_11 12))) (fun S_12 => some ((stI S_12 2), S_12)))))))) else some ((-103 : Int32), S))
set_option maxRecDepth 100000 in
set_option maxHeartbeats 4000000 in
theorem k_X7_restore (l : Launch) (D : va_G) (cy : ClassId) (a : Nat → Nat) (fu : Nat) (S : ST) (r : Int32) (S' : ST) (h : m_X7_restore fu S = some (r, S')) : CtI l yX7_restore cX7_restore 1 (some .int) 1 [.ref (a 0)] D cy (wM cy a) S r S' := by
  refine CtI_of (by decide) (Nat.le_of_ble_eq_true rfl) ?_
  intro p e s m args below meth c A ls hC hr hk hw hl
  have hC : Cx p s m c RX7 cX7_restore 1 args D cy := hC
  have hx := hC.1
  have hb := hC.2.1
  have hl : lv_has ls 1 [(0, .ref (a 0))] := hl
  obtain ⟨H, eH⟩ : ∃ z : Heap, z = s.heap := ⟨_, rfl⟩
  obtain ⟨locs, elocs⟩ : ∃ z : List Loc, z = [] := ⟨_, rfl⟩
  have hw : InW D (wM cy a) A s.heap H locs S := by rw [eH, elocs]; exact hw
  suffices hsu : W p l e (rmN 1) s m args below meth c H locs 0 0 (QI below args s D (wM cy a) A r S') (F0 m 0 ls []) by rw [eH, elocs] at hsu; exact hsu
  unfold m_X7_restore at h
  refine lv_aload_n hx hb dX7_restore_0 rfl (lv_at hl 0 rfl) ?_
  refine gf (v := .int (stI S 9)) hC hw in_X7 0 5 20 (cM_0 cy a S) rfl (by decide) lf_RX7_55 rfl rfl dX7_restore_1 ?_
  refine lv_aload_n hx hb dX7_restore_4 rfl (lv_at hl 0 rfl) ?_
  refine gf (v := .int (stI S 3)) hC hw in_X7 0 5 4 (cM_0 cy a S) rfl (by decide) lf_RX7_90 rfl rfl dX7_restore_5 ?_
  refine lv_icmp_eq (tgt := 14) hx hb dX7_restore_8 (by decide) (fun c_1 => ?_) (fun c_1 => ?_)
  · have h := if_at_t c_1 h
    refine lv_aload_n hx hb dX7_restore_14 rfl (lv_at hl 0 rfl) ?_
    refine gf (v := .ref (a 12)) hC hw in_X7 0 5 24 (cM_0 cy a S) rfl (by decide) lf_RX7_43 rfl rfl dX7_restore_15 ?_
    refine lv_aload_n hx hb dX7_restore_18 rfl (lv_at hl 0 rfl) ?_
    refine gf (v := .ref (a 3)) hC hw in_X7 0 5 7 (cM_0 cy a S) rfl (by decide) lf_RX7_16 rfl rfl dX7_restore_19 ?_
    obtain ⟨S_3, hc_2, h⟩ := bd_at h
    refine caSV (As := [.ref (a 12), .ref (a 3)]) (rest := []) hC hw hl.1 lm_RX7_220 li_RX7 lk_yX7_copyTo ls_yX7_copyTo 2 rfl hd_X7_copyTo (by decide) (by decide) (Nat.le_of_ble_eq_true rfl) dX7_restore_22 (k_X7_copyTo_12_3 l D cy a fu S _ hc_2) (fun H locs hw => ?_)
    refine lv_aload_n hx hb dX7_restore_25 rfl (lv_at hl 0 rfl) ?_
    refine gf (v := .ref (a 13)) hC hw in_X7 0 5 25 (cM_0 cy a S_3) rfl (by decide) lf_RX7_46 rfl rfl dX7_restore_26 ?_
    refine lv_aload_n hx hb dX7_restore_29 rfl (lv_at hl 0 rfl) ?_
    refine gf (v := .ref (a 4)) hC hw in_X7 0 5 8 (cM_0 cy a S_3) rfl (by decide) lf_RX7_19 rfl rfl dX7_restore_30 ?_
    obtain ⟨S_5, hc_4, h⟩ := bd_at h
    refine caSV (As := [.ref (a 13), .ref (a 4)]) (rest := []) hC hw hl.1 lm_RX7_220 li_RX7 lk_yX7_copyTo ls_yX7_copyTo 2 rfl hd_X7_copyTo (by decide) (by decide) (Nat.le_of_ble_eq_true rfl) dX7_restore_33 (k_X7_copyTo_13_4 l D cy a fu S_3 _ hc_4) (fun H locs hw => ?_)
    refine lv_aload_n hx hb dX7_restore_36 rfl (lv_at hl 0 rfl) ?_
    refine gf (v := .ref (a 14)) hC hw in_X7 0 5 26 (cM_0 cy a S_5) rfl (by decide) lf_RX7_49 rfl rfl dX7_restore_37 ?_
    refine lv_aload_n hx hb dX7_restore_40 rfl (lv_at hl 0 rfl) ?_
    refine gf (v := .ref (a 5)) hC hw in_X7 0 5 9 (cM_0 cy a S_5) rfl (by decide) lf_RX7_22 rfl rfl dX7_restore_41 ?_
    obtain ⟨S_7, hc_6, h⟩ := bd_at h
    refine caSV (As := [.ref (a 14), .ref (a 5)]) (rest := []) hC hw hl.1 lm_RX7_220 li_RX7 lk_yX7_copyTo ls_yX7_copyTo 2 rfl hd_X7_copyTo (by decide) (by decide) (Nat.le_of_ble_eq_true rfl) dX7_restore_44 (k_X7_copyTo_14_5 l D cy a fu S_5 _ hc_6) (fun H locs hw => ?_)
    refine lv_aload_n hx hb dX7_restore_47 rfl (lv_at hl 0 rfl) ?_
    refine gf (v := .ref (a 15)) hC hw in_X7 0 5 27 (cM_0 cy a S_7) rfl (by decide) lf_RX7_52 rfl rfl dX7_restore_48 ?_
    refine lv_aload_n hx hb dX7_restore_51 rfl (lv_at hl 0 rfl) ?_
    refine gf (v := .ref (a 10)) hC hw in_X7 0 5 17 (cM_0 cy a S_7) rfl (by decide) lf_RX7_37 rfl rfl dX7_restore_52 ?_
    obtain ⟨S_9, hc_8, h⟩ := bd_at h
    refine caSV (As := [.ref (a 15), .ref (a 10)]) (rest := []) hC hw hl.1 lm_RX7_220 li_RX7 lk_yX7_copyTo ls_yX7_copyTo 2 rfl hd_X7_copyTo (by decide) (by decide) (Nat.le_of_ble_eq_true rfl) dX7_restore_55 (k_X7_copyTo_15_10 l D cy a fu S_7 _ hc_8) (fun H locs hw => ?_)
    refine lv_aload_n hx hb dX7_restore_58 rfl (lv_at hl 0 rfl) ?_
    refine lv_aload_n hx hb dX7_restore_59 rfl (lv_at hl 0 rfl) ?_
    refine gf (v := .int (stI S_9 10)) hC hw in_X7 0 5 21 (cM_0 cy a S_9) rfl (by decide) lf_RX7_224 rfl rfl dX7_restore_60 ?_
    refine pf (ty := .int) (v := .int ((stI S_9 10))) hC hw in_X7 tyX7_ok nmX7 0 5 6 (cM_0 cy a S_9) rfl (by decide) lf_RX7_81 rfl rfl (by decide +kernel) rfl rfl (Nat.le_of_ble_eq_true rfl) (sM_6 cy a S_9 ((stI S_9 10))) dX7_restore_63 (fun H locs hw => ?_)
    obtain ⟨S_10, hw, h⟩ := nmw (P := fun z => InW D (wM cy a) A s.heap H locs z) hw h
    refine lv_aload_n hx hb dX7_restore_66 rfl (lv_at hl 0 rfl) ?_
    refine lv_aload_n hx hb dX7_restore_67 rfl (lv_at hl 0 rfl) ?_
    refine gf (v := .int (stI S_10 11)) hC hw in_X7 0 5 22 (cM_0 cy a S_10) rfl (by decide) lf_RX7_227 rfl rfl dX7_restore_68 ?_
    refine pf (ty := .int) (v := .int ((stI S_10 11))) hC hw in_X7 tyX7_ok nmX7 0 5 3 (cM_0 cy a S_10) rfl (by decide) lf_RX7_84 rfl rfl (by decide +kernel) rfl rfl (Nat.le_of_ble_eq_true rfl) (sM_3 cy a S_10 ((stI S_10 11))) dX7_restore_71 (fun H locs hw => ?_)
    obtain ⟨S_11, hw, h⟩ := nmw (P := fun z => InW D (wM cy a) A s.heap H locs z) hw h
    refine lv_aload_n hx hb dX7_restore_74 rfl (lv_at hl 0 rfl) ?_
    refine lv_aload_n hx hb dX7_restore_75 rfl (lv_at hl 0 rfl) ?_
    refine gf (v := .int (stI S_11 12)) hC hw in_X7 0 5 23 (cM_0 cy a S_11) rfl (by decide) lf_RX7_230 rfl rfl dX7_restore_76 ?_
    refine pf (ty := .int) (v := .int ((stI S_11 12))) hC hw in_X7 tyX7_ok nmX7 0 5 16 (cM_0 cy a S_11) rfl (by decide) lf_RX7_87 rfl rfl (by decide +kernel) rfl rfl (Nat.le_of_ble_eq_true rfl) (sM_16 cy a S_11 ((stI S_11 12))) dX7_restore_79 (fun H locs hw => ?_)
    obtain ⟨S_12, hw, h⟩ := nmw (P := fun z => InW D (wM cy a) A s.heap H locs z) hw h
    refine lv_aload_n hx hb dX7_restore_82 rfl (lv_at hl 0 rfl) ?_
    refine gf (v := .int (stI S_12 2)) hC hw in_X7 0 5 3 (cM_0 cy a S_12) rfl (by decide) lf_RX7_84 rfl rfl dX7_restore_83 ?_
    exact rtI hC hr hk hw (so_at2 h).1 (so_at2 h).2 dX7_restore_86
  · have h := if_at_f c_1 h
    refine lv_bipush (v := -103) hx hb dX7_restore_11 (by decide) ?_
    exact rtI hC hr hk hw (so_at2 h).1 (so_at2 h).2 dX7_restore_13
def m_X7_countOf_L7 (fu : Nat) (x1 : Int32) (S : ST) (j_3 : Int32 → Int32 → Option Int32) (ag_17 : Int32 → Int32 → Int32 → Option Int32) (x2_14 : Int32) (x3_15 : Int32) (x4_16 : Int32) : Option Int32 :=
  (if (stI S 4) ≤ x4_16 then j_3 x2_14 x3_15 else gd (inB x4_16 5) (jn1 (fun (v_19 : Int32) => nm ((x2_14 + v_19)) (fun x2_21 => gd (inB x4_16 5) (bd (m_X7_ones fu ((rdA S 3 x4_16))) (fun v_23 => nm ((x3_15 + v_23)) (fun x3_24 => nm (x4_16 + (1 : Int32)) (fun x4_25 => ag_17 x2_21 x3_24 x4_25)))))) (fun j_20 => (if (rdA S 3 x4_16) = (0 : Int32) then j_20 (0 : Int32) else j_20 (1 : Int32)))))
def m_X7_countOf (fu : Nat) (x1 : Int32) (S : ST) : Option Int32 :=
  jn2 (fun (x2_1 : Int32) (x3_2 : Int32) => (if x1 = (0 : Int32) then some ((stI S 1)) else (if x1 = (1 : Int32) then some ((stI S 4)) else (if x1 = (2 : Int32) then some x2_1 else (if x1 = (3 : Int32) then some x3_2 else (if x1 = (4 : Int32) then some ((stI S 2)) else (if x1 = (5 : Int32) then some ((stI S 7)) else (if x1 = (6 : Int32) then some ((stI S 0)) else (if x1 = (7 : Int32) then some ((stI S 3)) else (if x1 = (8 : Int32) then some ((stI S 5)) else (if x1 = (9 : Int32) then some ((stI S 6)) else some (-102 : Int32)))))))))))) (fun j_3 => lq3 (m_X7_countOf_L7 fu x1 S j_3) fu (0 : Int32) (0 : Int32) (0 : Int32))
set_option maxRecDepth 100000 in
set_option maxHeartbeats 4000000 in
theorem k_X7_countOf (l : Launch) (D : va_G) (cy : ClassId) (a : Nat → Nat) (fu : Nat) (x1 : Int32) (S : ST) (r : Int32) (h : m_X7_countOf fu x1 S = some r) : CtI l yX7_countOf cX7_countOf 5 (some .int) 1 [.ref (a 0), .int x1] D cy (wM cy a) S r S := by
  refine CtI_of (by decide) (Nat.le_of_ble_eq_true rfl) ?_
  intro p e s m args below meth c A ls hC hr hk hw hl
  have hC : Cx p s m c RX7 cX7_countOf 5 args D cy := hC
  have hx := hC.1
  have hb := hC.2.1
  have hl : lv_has ls 5 [(0, .ref (a 0)), (1, .int x1)] := hl
  obtain ⟨H, eH⟩ : ∃ z : Heap, z = s.heap := ⟨_, rfl⟩
  obtain ⟨locs, elocs⟩ : ∃ z : List Loc, z = [] := ⟨_, rfl⟩
  have hw : InW D (wM cy a) A s.heap H locs S := by rw [eH, elocs]; exact hw
  suffices hsu : W p l e (rmN 1) s m args below meth c H locs 0 0 (QI below args s D (wM cy a) A r S) (F0 m 0 ls []) by rw [eH, elocs] at hsu; exact hsu
  unfold m_X7_countOf at h
  refine lv_iconst (v := 0) hx hb dX7_countOf_0 (by decide) ?_
  refine lv_istore_n (lv' := [(2, .int (0 : Int32)), (0, .ref (a 0)), (1, .int x1)]) hx hb dX7_countOf_1 rfl hl (by decide) rfl (fun ls hl => ?_)
  refine lv_iconst (v := 0) hx hb dX7_countOf_2 (by decide) ?_
  refine lv_istore_n (lv' := [(3, .int (0 : Int32)), (2, .int (0 : Int32)), (0, .ref (a 0)), (1, .int x1)]) hx hb dX7_countOf_3 rfl hl (by decide) rfl (fun ls hl => ?_)
  refine lv_iconst (v := 0) hx hb dX7_countOf_4 (by decide) ?_
  refine lv_istore (lv' := [(4, .int (0 : Int32)), (3, .int (0 : Int32)), (2, .int (0 : Int32)), (0, .ref (a 0)), (1, .int x1)]) hx hb dX7_countOf_5 hl (by decide) rfl (fun ls hl => ?_)
  refine jn2_ok (fun (x2_1 : Int32) (x3_2 : Int32) => ∀ (H : Heap) (locs : List Loc) (ls : Array Slot), InW D (wM cy a) A s.heap H locs S → lv_has ls 5 [(0, .ref (a 0)), (1, .int x1), (2, .int x2_1), (3, .int x3_2)] → W p l e (rmN 1) s m args below meth c H locs 0 0 (QI below args s D (wM cy a) A r S) (F0 m 53 ls [])) ?_ ?_ h
  · intro x2_1 x3_2 h H locs ls hw hl
    refine lv_iload_n hx hb dX7_countOf_53 rfl (lv_at hl 1 rfl) ?_
    by_cases c_4 : x1 = (0 : Int32)
    · have h := if_at_t c_4 h
      refine lv_tableIn (off := 54) (tgt := 108) hx hb dX7_countOf_54 (by rw [c_4]; decide) (by rw [c_4]; decide) (by rw [c_4]; rfl) (by decide) ?_
      refine lv_aload_n hx hb dX7_countOf_108 rfl (lv_at hl 0 rfl) ?_
      refine gf (v := .int (stI S 1)) hC hw in_X7 0 5 2 (cM_0 cy a S) rfl (by decide) lf_RX7_78 rfl rfl dX7_countOf_109 ?_
      exact rtI hC hr hk hw (so_at h) rfl dX7_countOf_112
    have h := if_at_f c_4 h
    by_cases c_5 : x1 = (1 : Int32)
    · have h := if_at_t c_5 h
      refine lv_tableIn (off := 59) (tgt := 113) hx hb dX7_countOf_54 (by rw [c_5]; decide) (by rw [c_5]; decide) (by rw [c_5]; rfl) (by decide) ?_
      refine lv_aload_n hx hb dX7_countOf_113 rfl (lv_at hl 0 rfl) ?_
      refine gf (v := .int (stI S 4)) hC hw in_X7 0 5 6 (cM_0 cy a S) rfl (by decide) lf_RX7_81 rfl rfl dX7_countOf_114 ?_
      exact rtI hC hr hk hw (so_at h) rfl dX7_countOf_117
    have h := if_at_f c_5 h
    by_cases c_6 : x1 = (2 : Int32)
    · have h := if_at_t c_6 h
      refine lv_tableIn (off := 64) (tgt := 118) hx hb dX7_countOf_54 (by rw [c_6]; decide) (by rw [c_6]; decide) (by rw [c_6]; rfl) (by decide) ?_
      refine lv_iload_n hx hb dX7_countOf_118 rfl (lv_at hl 2 rfl) ?_
      exact rtI hC hr hk hw (so_at h) rfl dX7_countOf_119
    have h := if_at_f c_6 h
    by_cases c_7 : x1 = (3 : Int32)
    · have h := if_at_t c_7 h
      refine lv_tableIn (off := 66) (tgt := 120) hx hb dX7_countOf_54 (by rw [c_7]; decide) (by rw [c_7]; decide) (by rw [c_7]; rfl) (by decide) ?_
      refine lv_iload_n hx hb dX7_countOf_120 rfl (lv_at hl 3 rfl) ?_
      exact rtI hC hr hk hw (so_at h) rfl dX7_countOf_121
    have h := if_at_f c_7 h
    by_cases c_8 : x1 = (4 : Int32)
    · have h := if_at_t c_8 h
      refine lv_tableIn (off := 68) (tgt := 122) hx hb dX7_countOf_54 (by rw [c_8]; decide) (by rw [c_8]; decide) (by rw [c_8]; rfl) (by decide) ?_
      refine lv_aload_n hx hb dX7_countOf_122 rfl (lv_at hl 0 rfl) ?_
      refine gf (v := .int (stI S 2)) hC hw in_X7 0 5 3 (cM_0 cy a S) rfl (by decide) lf_RX7_84 rfl rfl dX7_countOf_123 ?_
      exact rtI hC hr hk hw (so_at h) rfl dX7_countOf_126
    have h := if_at_f c_8 h
    by_cases c_9 : x1 = (5 : Int32)
    · have h := if_at_t c_9 h
      refine lv_tableIn (off := 73) (tgt := 127) hx hb dX7_countOf_54 (by rw [c_9]; decide) (by rw [c_9]; decide) (by rw [c_9]; rfl) (by decide) ?_
      refine lv_aload_n hx hb dX7_countOf_127 rfl (lv_at hl 0 rfl) ?_
      refine gf (v := .int (stI S 7)) hC hw in_X7 0 5 16 (cM_0 cy a S) rfl (by decide) lf_RX7_87 rfl rfl dX7_countOf_128 ?_
      exact rtI hC hr hk hw (so_at h) rfl dX7_countOf_131
    have h := if_at_f c_9 h
    by_cases c_10 : x1 = (6 : Int32)
    · have h := if_at_t c_10 h
      refine lv_tableIn (off := 78) (tgt := 132) hx hb dX7_countOf_54 (by rw [c_10]; decide) (by rw [c_10]; decide) (by rw [c_10]; rfl) (by decide) ?_
      refine lv_aload_n hx hb dX7_countOf_132 rfl (lv_at hl 0 rfl) ?_
      refine gf (v := .int (stI S 0)) hC hw in_X7 0 5 1 (cM_0 cy a S) rfl (by decide) lf_RX7_65 rfl rfl dX7_countOf_133 ?_
      exact rtI hC hr hk hw (so_at h) rfl dX7_countOf_136
    have h := if_at_f c_10 h
    by_cases c_11 : x1 = (7 : Int32)
    · have h := if_at_t c_11 h
      refine lv_tableIn (off := 83) (tgt := 137) hx hb dX7_countOf_54 (by rw [c_11]; decide) (by rw [c_11]; decide) (by rw [c_11]; rfl) (by decide) ?_
      refine lv_aload_n hx hb dX7_countOf_137 rfl (lv_at hl 0 rfl) ?_
      refine gf (v := .int (stI S 3)) hC hw in_X7 0 5 4 (cM_0 cy a S) rfl (by decide) lf_RX7_90 rfl rfl dX7_countOf_138 ?_
      exact rtI hC hr hk hw (so_at h) rfl dX7_countOf_141
    have h := if_at_f c_11 h
    by_cases c_12 : x1 = (8 : Int32)
    · have h := if_at_t c_12 h
      refine lv_tableIn (off := 88) (tgt := 142) hx hb dX7_countOf_54 (by rw [c_12]; decide) (by rw [c_12]; decide) (by rw [c_12]; rfl) (by decide) ?_
      refine lv_aload_n hx hb dX7_countOf_142 rfl (lv_at hl 0 rfl) ?_
      refine gf (v := .int (stI S 5)) hC hw in_X7 0 5 13 (cM_0 cy a S) rfl (by decide) lf_RX7_166 rfl rfl dX7_countOf_143 ?_
      exact rtI hC hr hk hw (so_at h) rfl dX7_countOf_146
    have h := if_at_f c_12 h
    by_cases c_13 : x1 = (9 : Int32)
    · have h := if_at_t c_13 h
      refine lv_tableIn (off := 93) (tgt := 147) hx hb dX7_countOf_54 (by rw [c_13]; decide) (by rw [c_13]; decide) (by rw [c_13]; rfl) (by decide) ?_
      refine lv_aload_n hx hb dX7_countOf_147 rfl (lv_at hl 0 rfl) ?_
      refine gf (v := .int (stI S 6)) hC hw in_X7 0 5 14 (cM_0 cy a S) rfl (by decide) lf_RX7_183 rfl rfl dX7_countOf_148 ?_
      exact rtI hC hr hk hw (so_at h) rfl dX7_countOf_151
    have h := if_at_f c_13 h
    refine lv_tableOut (tgt := 152) hx hb dX7_countOf_54 (tsw_out 9 (by decide) (fun j hj => by match j, hj with | 0, _ => exact c_4 | 1, _ => exact c_5 | 2, _ => exact c_6 | 3, _ => exact c_7 | 4, _ => exact c_8 | 5, _ => exact c_9 | 6, _ => exact c_10 | 7, _ => exact c_11 | 8, _ => exact c_12 | 9, _ => exact c_13 | n + 10, hj => omega)) (by decide) ?_
    refine lv_bipush (v := -102) hx hb dX7_countOf_152 (by decide) ?_
    exact rtI hC hr hk hw (so_at h) rfl dX7_countOf_154
  · intro j_3 hj_3 h
    refine lq3_ok (fun (x2_14 : Int32) (x3_15 : Int32) (x4_16 : Int32) => ∀ (H : Heap) (locs : List Loc) (ls : Array Slot), InW D (wM cy a) A s.heap H locs S → lv_has ls 5 [(0, .ref (a 0)), (1, .int x1), (2, .int x2_14), (3, .int x3_15), (4, .int x4_16)] → W p l e (rmN 1) s m args below meth c H locs 0 0 (QI below args s D (wM cy a) A r S) (F0 m 7 ls [])) ?_ fu (0 : Int32) (0 : Int32) (0 : Int32) h H locs ls hw (lv_sub hl [3, 4, 2, 1, 0] rfl)
    intro ag_17 hag_17 x2_14 x3_15 x4_16 h H locs ls hw hl
    unfold m_X7_countOf_L7 at h
    refine lv_iload hx hb dX7_countOf_7 (lv_at hl 4 rfl) ?_
    refine lv_aload_n hx hb dX7_countOf_9 rfl (lv_at hl 0 rfl) ?_
    refine gf (v := .int (stI S 4)) hC hw in_X7 0 5 6 (cM_0 cy a S) rfl (by decide) lf_RX7_81 rfl rfl dX7_countOf_10 ?_
    refine lv_icmp_ge (tgt := 53) hx hb dX7_countOf_13 (by decide) (fun c_18 => ?_) (fun c_18 => ?_)
    · have h := if_at_t c_18 h
      exact hj_3 x2_14 x3_15 h H locs ls hw (lv_sub hl [0, 1, 2, 3] rfl)
    · have h := if_at_f c_18 h
      refine lv_iload_n hx hb dX7_countOf_16 rfl (lv_at hl 2 rfl) ?_
      refine lv_aload_n hx hb dX7_countOf_17 rfl (lv_at hl 0 rfl) ?_
      refine gf (v := .ref (a 4)) hC hw in_X7 0 5 8 (cM_0 cy a S) rfl (by decide) lf_RX7_19 rfl rfl dX7_countOf_18 ?_
      refine lv_iload hx hb dX7_countOf_21 (lv_at hl 4 rfl) ?_
      obtain ⟨hi, h⟩ := gd_at h
      refine ga hC hw 4 (cM_4 cy a S) hi dX7_countOf_23 ?_
      refine jn1_ok (fun (v_19 : Int32) => ∀ (H : Heap) (locs : List Loc) (ls : Array Slot), InW D (wM cy a) A s.heap H locs S → lv_has ls 5 [(0, .ref (a 0)), (1, .int x1), (3, .int x3_15), (4, .int x4_16)] → W p l e (rmN 1) s m args below meth c H locs 0 0 (QI below args s D (wM cy a) A r S) (F0 m 32 ls [.int v_19, .int x2_14])) ?_ ?_ h
      · intro v_19 h H locs ls hw hl
        refine lv_iadd hx hb dX7_countOf_32 ?_
        refine lv_topi (fun x2_21 ex2_21 => ?_)
        have h := nm_at ex2_21 h
        refine lv_istore_n (lv' := [(2, .int x2_21), (0, .ref (a 0)), (1, .int x1), (3, .int x3_15), (4, .int x4_16)]) hx hb dX7_countOf_33 rfl hl (by decide) rfl (fun ls hl => ?_)
        refine lv_iload_n hx hb dX7_countOf_34 rfl (lv_at hl 3 rfl) ?_
        refine lv_aload_n hx hb dX7_countOf_35 rfl (lv_at hl 1 rfl) ?_
        refine gf (v := .ref (a 4)) hC hw in_X7 0 5 8 (cM_0 cy a S) rfl (by decide) lf_RX7_19 rfl rfl dX7_countOf_36 ?_
        refine lv_iload hx hb dX7_countOf_39 (lv_at hl 4 rfl) ?_
        obtain ⟨hi, h⟩ := gd_at h
        refine ga hC hw 4 (cM_4 cy a S) hi dX7_countOf_41 ?_
        obtain ⟨v_23, hc_22, h⟩ := bd_at h
        refine caSI (As := [.int (rdA S 3 x4_16)]) (rest := [.int x3_15]) hC hw hl.1 lm_RX7_123 li_RX7 lk_yX7_ones ls_yX7_ones 1 rfl hd_X7_ones (by decide) (by decide) (Nat.le_of_ble_eq_true rfl) dX7_countOf_42 (k_X7_ones l D cy (wM cy a) S fu ((rdA S 3 x4_16)) _ hc_22) (fun H locs hw => ?_)
        refine lv_iadd hx hb dX7_countOf_45 ?_
        refine lv_topi (fun x3_24 ex3_24 => ?_)
        have h := nm_at ex3_24 h
        refine lv_istore_n (lv' := [(3, .int x3_24), (2, .int x2_21), (0, .ref (a 0)), (1, .int x1), (4, .int x4_16)]) hx hb dX7_countOf_46 rfl hl (by decide) rfl (fun ls hl => ?_)
        obtain ⟨x4_25, ex4_25⟩ : ∃ z : Int32, z = x4_16 + (1 : Int32) := ⟨_, rfl⟩
        have h := nm_at ex4_25 h
        refine lv_iinc (v := x4_25) (lv' := [(4, .int x4_25), (3, .int x3_24), (2, .int x2_21), (0, .ref (a 0)), (1, .int x1)]) hx hb dX7_countOf_47 hl (k := 4) rfl (by rw [ex4_25]; rfl) (by decide) rfl (fun ls hl => ?_)
        refine lv_goto (tgt := 7) hx hb dX7_countOf_50 (by decide) ?_
        exact hag_17 x2_21 x3_24 x4_25 h H locs ls hw (lv_sub hl [3, 4, 2, 1, 0] rfl)
      · intro j_20 hj_20 h
        refine lv_if_ne (tgt := 31) hx hb dX7_countOf_24 (by decide) (fun c_26 => ?_) (fun c_26 => ?_)
        · have h := if_at_f c_26 h
          refine lv_iconst (v := 1) hx hb dX7_countOf_31 (by decide) ?_
          exact hj_20 (1 : Int32) h H locs ls hw (lv_sub hl [0, 1, 3, 4] rfl)
        · have h := if_at_t c_26 h
          refine lv_iconst (v := 0) hx hb dX7_countOf_27 (by decide) ?_
          refine lv_goto (tgt := 32) hx hb dX7_countOf_28 (by decide) ?_
          exact hj_20 (0 : Int32) h H locs ls hw (lv_sub hl [0, 1, 3, 4] rfl)
def m_X7_count (fu : Nat) (x1 : Int32) (S : ST) : Option Int32 :=
  bd (m_X7_countOf fu x1 S) (fun v_2 => some v_2)
set_option maxRecDepth 100000 in
set_option maxHeartbeats 4000000 in
theorem k_X7_count (l : Launch) (D : va_G) (cy : ClassId) (a : Nat → Nat) (fu : Nat) (x1 : Int32) (S : ST) (r : Int32) (h : m_X7_count fu x1 S = some r) : CtI l yX7_count cX7_count 2 (some .int) 2 [.ref (a 0), .int x1] D cy (wM cy a) S r S := by
  refine CtI_of (by decide) (Nat.le_of_ble_eq_true rfl) ?_
  intro p e s m args below meth c A ls hC hr hk hw hl
  have hC : Cx p s m c RX7 cX7_count 2 args D cy := hC
  have hx := hC.1
  have hb := hC.2.1
  have hl : lv_has ls 2 [(0, .ref (a 0)), (1, .int x1)] := hl
  obtain ⟨H, eH⟩ : ∃ z : Heap, z = s.heap := ⟨_, rfl⟩
  obtain ⟨locs, elocs⟩ : ∃ z : List Loc, z = [] := ⟨_, rfl⟩
  have hw : InW D (wM cy a) A s.heap H locs S := by rw [eH, elocs]; exact hw
  suffices hsu : W p l e (rmN 2) s m args below meth c H locs 0 0 (QI below args s D (wM cy a) A r S) (F0 m 0 ls []) by rw [eH, elocs] at hsu; exact hsu
  unfold m_X7_count at h
  refine lv_aload_n hx hb dX7_count_0 rfl (lv_at hl 0 rfl) ?_
  refine lv_iload_n hx hb dX7_count_1 rfl (lv_at hl 1 rfl) ?_
  obtain ⟨v_2, hc_1, h⟩ := bd_at h
  refine caVI (As := [.int x1]) (rest := []) hC hw hl.1 lm_RX7_233 li_RX7 lk_yX7_countOf li_yX7_countOf ll_yX7_countOf 0 5 (cM_0 cy a S) rfl 1 rfl hd_X7_countOf (by decide) (by decide) (Nat.le_of_ble_eq_true rfl) dX7_count_2 (k_X7_countOf l D cy a fu x1 S _ hc_1) (fun H locs hw => ?_)
  exact rtI hC hr hk hw (so_at h) rfl dX7_count_5
def m_X7_say (fu : Nat) (x1 : Int64) (S : ST) : Option ST :=
  nm (puL S 0 ((((31 : Int64) * (stL S 0)) + x1))) (fun S_1 => some S_1)
set_option maxRecDepth 100000 in
set_option maxHeartbeats 4000000 in
theorem k_X7_say (l : Launch) (D : va_G) (cy : ClassId) (a : Nat → Nat) (fu : Nat) (x1 : Int64) (S : ST) (S' : ST) (h : m_X7_say fu x1 S = some S') : CtV l yX7_say cX7_say 3 none 0 [.ref (a 0), .long x1] D cy (wM cy a) S S' := by
  refine CtV_of (by decide) (Nat.le_of_ble_eq_true rfl) ?_
  intro p e s m args below meth c A ls hC hr hk hw hl
  have hC : Cx p s m c RX7 cX7_say 3 args D cy := hC
  have hx := hC.1
  have hb := hC.2.1
  have hl : lv_has ls 3 [(0, .ref (a 0)), (1, .long x1)] := hl
  obtain ⟨H, eH⟩ : ∃ z : Heap, z = s.heap := ⟨_, rfl⟩
  obtain ⟨locs, elocs⟩ : ∃ z : List Loc, z = [] := ⟨_, rfl⟩
  have hw : InW D (wM cy a) A s.heap H locs S := by rw [eH, elocs]; exact hw
  suffices hsu : W p l e (rmN 0) s m args below meth c H locs 0 0 (QV below args s D (wM cy a) A S') (F0 m 0 ls []) by rw [eH, elocs] at hsu; exact hsu
  unfold m_X7_say at h
  refine lv_aload_n hx hb dX7_say_0 rfl (lv_at hl 0 rfl) ?_
  refine lv_ldc2 hx hb hC.2.2.2.1 (hC.2.2.2.2.1 _ lc_RX7_236) dX7_say_1 ?_
  refine lv_aload_n hx hb dX7_say_4 rfl (lv_at hl 0 rfl) ?_
  refine gf (v := .long (stL S 0)) hC hw in_X7 0 5 28 (cM_0 cy a S) rfl (by decide) lf_RX7_238 rfl rfl dX7_say_5 ?_
  refine lv_lmul hx hb dX7_say_8 ?_
  refine lv_lload_n hx hb dX7_say_9 rfl (lv_at hl 1 rfl) ?_
  refine lv_ladd hx hb dX7_say_10 ?_
  refine pf (ty := .long) (v := .long ((((31 : Int64) * (stL S 0)) + x1))) hC hw in_X7 tyX7_ok nmX7 0 5 28 (cM_0 cy a S) rfl (by decide) lf_RX7_238 rfl rfl (by decide +kernel) rfl rfl (Nat.le_of_ble_eq_true rfl) (sM_28 cy a S ((((31 : Int64) * (stL S 0)) + x1))) dX7_say_11 (fun H locs hw => ?_)
  obtain ⟨S_1, hw, h⟩ := nmw (P := fun z => InW D (wM cy a) A s.heap H locs z) hw h
  exact rtV hC hr hk hw (so_at h) dX7_say_14
def m_X7_sayFile_L2 (fu : Nat) (x1 : Int32) (j_2 : ST → Option ST) (ag_20 : Int32 → ST → Option ST) (x2_18 : Int32) (S_19 : ST) : Option ST :=
  (if (6 : Int32) ≤ x2_18 then j_2 S_19 else bd (m_X7_tell fu x1 x2_18 S_19) (fun v_23 => bd (m_X7_say fu ((v_23).toInt64) S_19) (fun S_25 => nm (x2_18 + (1 : Int32)) (fun x2_26 => ag_20 x2_26 S_25))))
def m_X7_sayFile (fu : Nat) (x1 : Int32) (S : ST) : Option ST :=
  jn1 (fun (S_1 : ST) => bd2 (m_X7_oddsOf fu x1 (2 : Int32) (0 : Int32) S_1) (fun v_4 S_5 => bd (m_X7_say fu ((v_4).toInt64) S_5) (fun S_7 => bd2 (m_X7_oddsOf fu x1 (2 : Int32) (1 : Int32) S_7) (fun v_9 S_10 => bd (m_X7_say fu ((v_9).toInt64) S_10) (fun S_12 => bd2 (m_X7_whereOf fu x1 (2 : Int32) S_12) (fun v_14 S_15 => bd (m_X7_say fu ((v_14).toInt64) S_15) (fun S_17 => some S_17))))))) (fun j_2 => lq2 (m_X7_sayFile_L2 fu x1 j_2) fu (0 : Int32) S)
set_option maxRecDepth 100000 in
set_option maxHeartbeats 4000000 in
theorem k_X7_sayFile (l : Launch) (D : va_G) (cy : ClassId) (a : Nat → Nat) (fu : Nat) (x1 : Int32) (S : ST) (S' : ST) (h : m_X7_sayFile fu x1 S = some S') : CtV l yX7_sayFile cX7_sayFile 3 none 5 [.ref (a 0), .int x1] D cy (wM cy a) S S' := by
  refine CtV_of (by decide) (Nat.le_of_ble_eq_true rfl) ?_
  intro p e s m args below meth c A ls hC hr hk hw hl
  have hC : Cx p s m c RX7 cX7_sayFile 3 args D cy := hC
  have hx := hC.1
  have hb := hC.2.1
  have hl : lv_has ls 3 [(0, .ref (a 0)), (1, .int x1)] := hl
  obtain ⟨H, eH⟩ : ∃ z : Heap, z = s.heap := ⟨_, rfl⟩
  obtain ⟨locs, elocs⟩ : ∃ z : List Loc, z = [] := ⟨_, rfl⟩
  have hw : InW D (wM cy a) A s.heap H locs S := by rw [eH, elocs]; exact hw
  suffices hsu : W p l e (rmN 5) s m args below meth c H locs 0 0 (QV below args s D (wM cy a) A S') (F0 m 0 ls []) by rw [eH, elocs] at hsu; exact hsu
  unfold m_X7_sayFile at h
  refine lv_iconst (v := 0) hx hb dX7_sayFile_0 (by decide) ?_
  refine lv_istore_n (lv' := [(2, .int (0 : Int32)), (0, .ref (a 0)), (1, .int x1)]) hx hb dX7_sayFile_1 rfl hl (by decide) rfl (fun ls hl => ?_)
  refine jn1_ok (fun (S_1 : ST) => ∀ (H : Heap) (locs : List Loc) (ls : Array Slot), InW D (wM cy a) A s.heap H locs S_1 → lv_has ls 3 [(0, .ref (a 0)), (1, .int x1)] → W p l e (rmN 5) s m args below meth c H locs 0 0 (QV below args s D (wM cy a) A S') (F0 m 25 ls [])) ?_ ?_ h
  · intro S_1 h H locs ls hw hl
    refine lv_aload_n hx hb dX7_sayFile_25 rfl (lv_at hl 0 rfl) ?_
    refine lv_aload_n hx hb dX7_sayFile_26 rfl (lv_at hl 0 rfl) ?_
    refine lv_iload_n hx hb dX7_sayFile_27 rfl (lv_at hl 1 rfl) ?_
    refine lv_iconst (v := 2) hx hb dX7_sayFile_28 (by decide) ?_
    refine lv_iconst (v := 0) hx hb dX7_sayFile_29 (by decide) ?_
    obtain ⟨v_4, S_5, hc_3, h⟩ := bd2_at h
    refine caVI (As := [.int x1, .int (2 : Int32), .int (0 : Int32)]) (rest := [.ref (a 0)]) hC hw hl.1 lm_RX7_160 li_RX7 lk_yX7_oddsOf li_yX7_oddsOf ll_yX7_oddsOf 0 5 (cM_0 cy a S_1) rfl 3 rfl hd_X7_oddsOf (by decide) (by decide) (Nat.le_of_ble_eq_true rfl) dX7_sayFile_30 (k_X7_oddsOf l D cy a fu x1 (2 : Int32) (0 : Int32) S_1 _ _ hc_3) (fun H locs hw => ?_)
    refine lv_i2l hx hb dX7_sayFile_33 rfl ?_
    obtain ⟨S_7, hc_6, h⟩ := bd_at h
    refine caVV (As := [.long (v_4).toInt64]) (rest := []) hC hw hl.1 lm_RX7_242 li_RX7 lk_yX7_say li_yX7_say ll_yX7_say 0 5 (cM_0 cy a S_5) rfl 1 rfl hd_X7_say (by decide) (by decide) (Nat.le_of_ble_eq_true rfl) dX7_sayFile_34 (k_X7_say l D cy a fu ((v_4).toInt64) S_5 _ hc_6) (fun H locs hw => ?_)
    refine lv_aload_n hx hb dX7_sayFile_37 rfl (lv_at hl 0 rfl) ?_
    refine lv_aload_n hx hb dX7_sayFile_38 rfl (lv_at hl 0 rfl) ?_
    refine lv_iload_n hx hb dX7_sayFile_39 rfl (lv_at hl 1 rfl) ?_
    refine lv_iconst (v := 2) hx hb dX7_sayFile_40 (by decide) ?_
    refine lv_iconst (v := 1) hx hb dX7_sayFile_41 (by decide) ?_
    obtain ⟨v_9, S_10, hc_8, h⟩ := bd2_at h
    refine caVI (As := [.int x1, .int (2 : Int32), .int (1 : Int32)]) (rest := [.ref (a 0)]) hC hw hl.1 lm_RX7_160 li_RX7 lk_yX7_oddsOf li_yX7_oddsOf ll_yX7_oddsOf 0 5 (cM_0 cy a S_7) rfl 3 rfl hd_X7_oddsOf (by decide) (by decide) (Nat.le_of_ble_eq_true rfl) dX7_sayFile_42 (k_X7_oddsOf l D cy a fu x1 (2 : Int32) (1 : Int32) S_7 _ _ hc_8) (fun H locs hw => ?_)
    refine lv_i2l hx hb dX7_sayFile_45 rfl ?_
    obtain ⟨S_12, hc_11, h⟩ := bd_at h
    refine caVV (As := [.long (v_9).toInt64]) (rest := []) hC hw hl.1 lm_RX7_242 li_RX7 lk_yX7_say li_yX7_say ll_yX7_say 0 5 (cM_0 cy a S_10) rfl 1 rfl hd_X7_say (by decide) (by decide) (Nat.le_of_ble_eq_true rfl) dX7_sayFile_46 (k_X7_say l D cy a fu ((v_9).toInt64) S_10 _ hc_11) (fun H locs hw => ?_)
    refine lv_aload_n hx hb dX7_sayFile_49 rfl (lv_at hl 0 rfl) ?_
    refine lv_aload_n hx hb dX7_sayFile_50 rfl (lv_at hl 0 rfl) ?_
    refine lv_iload_n hx hb dX7_sayFile_51 rfl (lv_at hl 1 rfl) ?_
    refine lv_iconst (v := 2) hx hb dX7_sayFile_52 (by decide) ?_
    obtain ⟨v_14, S_15, hc_13, h⟩ := bd2_at h
    refine caVI (As := [.int x1, .int (2 : Int32)]) (rest := [.ref (a 0)]) hC hw hl.1 lm_RX7_163 li_RX7 lk_yX7_whereOf li_yX7_whereOf ll_yX7_whereOf 0 5 (cM_0 cy a S_12) rfl 2 rfl hd_X7_whereOf (by decide) (by decide) (Nat.le_of_ble_eq_true rfl) dX7_sayFile_53 (k_X7_whereOf l D cy a fu x1 (2 : Int32) S_12 _ _ hc_13) (fun H locs hw => ?_)
    refine lv_i2l hx hb dX7_sayFile_56 rfl ?_
    obtain ⟨S_17, hc_16, h⟩ := bd_at h
    refine caVV (As := [.long (v_14).toInt64]) (rest := []) hC hw hl.1 lm_RX7_242 li_RX7 lk_yX7_say li_yX7_say ll_yX7_say 0 5 (cM_0 cy a S_15) rfl 1 rfl hd_X7_say (by decide) (by decide) (Nat.le_of_ble_eq_true rfl) dX7_sayFile_57 (k_X7_say l D cy a fu ((v_14).toInt64) S_15 _ hc_16) (fun H locs hw => ?_)
    exact rtV hC hr hk hw (so_at h) dX7_sayFile_60
  · intro j_2 hj_2 h
    refine lq2_ok (fun (x2_18 : Int32) (S_19 : ST) => ∀ (H : Heap) (locs : List Loc) (ls : Array Slot), InW D (wM cy a) A s.heap H locs S_19 → lv_has ls 3 [(0, .ref (a 0)), (1, .int x1), (2, .int x2_18)] → W p l e (rmN 5) s m args below meth c H locs 0 0 (QV below args s D (wM cy a) A S') (F0 m 2 ls [])) ?_ fu (0 : Int32) S h H locs ls hw (lv_sub hl [1, 2, 0] rfl)
    intro ag_20 hag_20 x2_18 S_19 h H locs ls hw hl
    unfold m_X7_sayFile_L2 at h
    refine lv_iload_n hx hb dX7_sayFile_2 rfl (lv_at hl 2 rfl) ?_
    refine lv_bipush (v := 6) hx hb dX7_sayFile_3 (by decide) ?_
    refine lv_icmp_ge (tgt := 25) hx hb dX7_sayFile_5 (by decide) (fun c_21 => ?_) (fun c_21 => ?_)
    · have h := if_at_t c_21 h
      exact hj_2 S_19 h H locs ls hw (lv_sub hl [0, 1] rfl)
    · have h := if_at_f c_21 h
      refine lv_aload_n hx hb dX7_sayFile_8 rfl (lv_at hl 0 rfl) ?_
      refine lv_aload_n hx hb dX7_sayFile_9 rfl (lv_at hl 0 rfl) ?_
      refine lv_iload_n hx hb dX7_sayFile_10 rfl (lv_at hl 1 rfl) ?_
      refine lv_iload_n hx hb dX7_sayFile_11 rfl (lv_at hl 2 rfl) ?_
      obtain ⟨v_23, hc_22, h⟩ := bd_at h
      refine caVI (As := [.int x1, .int x2_18]) (rest := [.ref (a 0)]) hC hw hl.1 lm_RX7_120 li_RX7 lk_yX7_tell li_yX7_tell ll_yX7_tell 0 5 (cM_0 cy a S_19) rfl 2 rfl hd_X7_tell (by decide) (by decide) (Nat.le_of_ble_eq_true rfl) dX7_sayFile_12 (k_X7_tell l D cy a fu x1 x2_18 S_19 _ hc_22) (fun H locs hw => ?_)
      refine lv_i2l hx hb dX7_sayFile_15 rfl ?_
      obtain ⟨S_25, hc_24, h⟩ := bd_at h
      refine caVV (As := [.long (v_23).toInt64]) (rest := []) hC hw hl.1 lm_RX7_242 li_RX7 lk_yX7_say li_yX7_say ll_yX7_say 0 5 (cM_0 cy a S_19) rfl 1 rfl hd_X7_say (by decide) (by decide) (Nat.le_of_ble_eq_true rfl) dX7_sayFile_16 (k_X7_say l D cy a fu ((v_23).toInt64) S_19 _ hc_24) (fun H locs hw => ?_)
      obtain ⟨x2_26, ex2_26⟩ : ∃ z : Int32, z = x2_18 + (1 : Int32) := ⟨_, rfl⟩
      have h := nm_at ex2_26 h
      refine lv_iinc (v := x2_26) (lv' := [(2, .int x2_26), (0, .ref (a 0)), (1, .int x1)]) hx hb dX7_sayFile_19 hl (k := 2) rfl (by rw [ex2_26]; rfl) (by decide) rfl (fun ls hl => ?_)
      refine lv_goto (tgt := 2) hx hb dX7_sayFile_22 (by decide) ?_
      exact hag_20 x2_26 S_25 h H locs ls hw (lv_sub hl [1, 2, 0] rfl)
def m_X7_digest_L121 (fu : Nat) (ag_18 : Int32 → ST → Option (Int64 × ST)) (x1_16 : Int32) (S_17 : ST) : Option (Int64 × ST) :=
  (if (10 : Int32) ≤ x1_16 then some ((stL S_17 0), S_17) else bd (m_X7_countOf fu x1_16 S_17) (fun v_21 => bd (m_X7_say fu ((v_21).toInt64) S_17) (fun S_23 => nm (x1_16 + (1 : Int32)) (fun x1_24 => ag_18 x1_24 S_23))))
def m_X7_digest_L94 (fu : Nat) (j_15 : ST → Option (Int64 × ST)) (ag_27 : Int32 → ST → Option (Int64 × ST)) (x1_25 : Int32) (S_26 : ST) : Option (Int64 × ST) :=
  (if (stI S_26 0) ≤ x1_25 then j_15 S_26 else gd (inB x1_25 10) (bd (m_X7_say fu (((rdA S_26 0 x1_25)).toInt64) S_26) (fun S_30 => nm (x1_25 + (1 : Int32)) (fun x1_31 => ag_27 x1_31 S_30))))
def m_X7_digest_L48 (fu : Nat) (j_5 : ST → Option (Int64 × ST)) (ag_40 : Int32 → ST → Option (Int64 × ST)) (x1_38 : Int32) (S_39 : ST) : Option (Int64 × ST) :=
  (if (stI S_39 4) ≤ x1_38 then j_5 S_39 else bd (m_X7_sayFile fu x1_38 S_39) (fun S_43 => nm (x1_38 + (1 : Int32)) (fun x1_44 => ag_40 x1_44 S_43)))
def m_X7_digest_L9 (fu : Nat) (j_3 : ST → Option (Int64 × ST)) (ag_47 : Int32 → ST → Option (Int64 × ST)) (x1_45 : Int32) (S_46 : ST) : Option (Int64 × ST) :=
  (if (6 : Int32) ≤ x1_45 then j_3 S_46 else gd (inB x1_45 6) (bd (m_X7_say fu (((rdA S_46 1 x1_45)).toInt64) S_46) (fun S_50 => bd (m_X7_fullness_4 fu x1_45 S_50) (fun v_52 => bd (m_X7_say fu ((v_52).toInt64) S_50) (fun S_54 => nm (x1_45 + (1 : Int32)) (fun x1_55 => ag_47 x1_55 S_54))))))
def m_X7_digest (fu : Nat) (S : ST) : Option (Int64 × ST) :=
  nm (puL S 0 (769 : Int64)) (fun S_1 => jn1 (fun (S_2 : ST) => jn1 (fun (S_4 : ST) => bd (m_X7_nowhereOf fu S_4) (fun v_7 => bd (m_X7_say fu ((v_7).toInt64) S_4) (fun S_9 => bd (m_X7_lacks fu S_9) (fun v_11 => jn1 (fun (S_12 : ST) => jn1 (fun (S_14 : ST) => lq2 (m_X7_digest_L121 fu) fu (0 : Int32) S_14) (fun j_15 => lq2 (m_X7_digest_L94 fu j_15) fu (0 : Int32) S_12)) (fun j_13 => (if v_11 = (0 : Int32) then bd2 (m_X7_layFits fu S_9) (fun v_34 S_35 => bd (m_X7_say fu ((v_34).toInt64) S_35) (fun S_37 => j_13 S_37)) else j_13 S_9)))))) (fun j_5 => lq2 (m_X7_digest_L48 fu j_5) fu (0 : Int32) S_2)) (fun j_3 => lq2 (m_X7_digest_L9 fu j_3) fu (0 : Int32) S_1))
set_option maxRecDepth 100000 in
set_option maxHeartbeats 4000000 in
theorem k_X7_digest (l : Launch) (D : va_G) (cy : ClassId) (a : Nat → Nat) (fu : Nat) (S : ST) (r : Int64) (S' : ST) (h : m_X7_digest fu S = some (r, S')) : CtL l yX7_digest cX7_digest 2 (some .long) 6 [.ref (a 0)] D cy (wM cy a) S r S' := by
  refine CtL_of (by decide) (Nat.le_of_ble_eq_true rfl) ?_
  intro p e s m args below meth c A ls hC hr hk hw hl
  have hC : Cx p s m c RX7 cX7_digest 2 args D cy := hC
  have hx := hC.1
  have hb := hC.2.1
  have hl : lv_has ls 2 [(0, .ref (a 0))] := hl
  obtain ⟨H, eH⟩ : ∃ z : Heap, z = s.heap := ⟨_, rfl⟩
  obtain ⟨locs, elocs⟩ : ∃ z : List Loc, z = [] := ⟨_, rfl⟩
  have hw : InW D (wM cy a) A s.heap H locs S := by rw [eH, elocs]; exact hw
  suffices hsu : W p l e (rmN 6) s m args below meth c H locs 0 0 (QL below args s D (wM cy a) A r S') (F0 m 0 ls []) by rw [eH, elocs] at hsu; exact hsu
  unfold m_X7_digest at h
  refine lv_aload_n hx hb dX7_digest_0 rfl (lv_at hl 0 rfl) ?_
  refine lv_ldc2 hx hb hC.2.2.2.1 (hC.2.2.2.2.1 _ lc_RX7_246) dX7_digest_1 ?_
  refine pf (ty := .long) (v := .long (769 : Int64)) hC hw in_X7 tyX7_ok nmX7 0 5 28 (cM_0 cy a S) rfl (by decide) lf_RX7_238 rfl rfl (by decide +kernel) rfl rfl (Nat.le_of_ble_eq_true rfl) (sM_28 cy a S (769 : Int64)) dX7_digest_4 (fun H locs hw => ?_)
  obtain ⟨S_1, hw, h⟩ := nmw (P := fun z => InW D (wM cy a) A s.heap H locs z) hw h
  refine lv_iconst (v := 0) hx hb dX7_digest_7 (by decide) ?_
  refine lv_istore_n (lv' := [(1, .int (0 : Int32)), (0, .ref (a 0))]) hx hb dX7_digest_8 rfl hl (by decide) rfl (fun ls hl => ?_)
  refine jn1_ok (fun (S_2 : ST) => ∀ (H : Heap) (locs : List Loc) (ls : Array Slot), InW D (wM cy a) A s.heap H locs S_2 → lv_has ls 2 [(0, .ref (a 0))] → W p l e (rmN 6) s m args below meth c H locs 0 0 (QL below args s D (wM cy a) A r S') (F0 m 46 ls [])) ?_ ?_ h
  · intro S_2 h H locs ls hw hl
    refine lv_iconst (v := 0) hx hb dX7_digest_46 (by decide) ?_
    refine lv_istore_n (lv' := [(1, .int (0 : Int32)), (0, .ref (a 0))]) hx hb dX7_digest_47 rfl hl (by decide) rfl (fun ls hl => ?_)
    refine jn1_ok (fun (S_4 : ST) => ∀ (H : Heap) (locs : List Loc) (ls : Array Slot), InW D (wM cy a) A s.heap H locs S_4 → lv_has ls 2 [(0, .ref (a 0))] → W p l e (rmN 6) s m args below meth c H locs 0 0 (QL below args s D (wM cy a) A r S') (F0 m 67 ls [])) ?_ ?_ h
    · intro S_4 h H locs ls hw hl
      refine lv_aload_n hx hb dX7_digest_67 rfl (lv_at hl 0 rfl) ?_
      refine lv_aload_n hx hb dX7_digest_68 rfl (lv_at hl 0 rfl) ?_
      obtain ⟨v_7, hc_6, h⟩ := bd_at h
      refine caVI (As := []) (rest := [.ref (a 0)]) hC hw hl.1 lm_RX7_173 li_RX7 lk_yX7_nowhereOf li_yX7_nowhereOf ll_yX7_nowhereOf 0 5 (cM_0 cy a S_4) rfl 0 rfl hd_X7_nowhereOf (by decide) (by decide) (Nat.le_of_ble_eq_true rfl) dX7_digest_69 (k_X7_nowhereOf l D cy a fu S_4 _ hc_6) (fun H locs hw => ?_)
      refine lv_i2l hx hb dX7_digest_72 rfl ?_
      obtain ⟨S_9, hc_8, h⟩ := bd_at h
      refine caVV (As := [.long (v_7).toInt64]) (rest := []) hC hw hl.1 lm_RX7_242 li_RX7 lk_yX7_say li_yX7_say ll_yX7_say 0 5 (cM_0 cy a S_4) rfl 1 rfl hd_X7_say (by decide) (by decide) (Nat.le_of_ble_eq_true rfl) dX7_digest_73 (k_X7_say l D cy a fu ((v_7).toInt64) S_4 _ hc_8) (fun H locs hw => ?_)
      refine lv_aload_n hx hb dX7_digest_76 rfl (lv_at hl 0 rfl) ?_
      obtain ⟨v_11, hc_10, h⟩ := bd_at h
      refine caVI (As := []) (rest := []) hC hw hl.1 lm_RX7_109 li_RX7 lk_yX7_lacks li_yX7_lacks ll_yX7_lacks 0 5 (cM_0 cy a S_9) rfl 0 rfl hd_X7_lacks (by decide) (by decide) (Nat.le_of_ble_eq_true rfl) dX7_digest_77 (k_X7_lacks l D cy a fu S_9 _ hc_10) (fun H locs hw => ?_)
      refine jn1_ok (fun (S_12 : ST) => ∀ (H : Heap) (locs : List Loc) (ls : Array Slot), InW D (wM cy a) A s.heap H locs S_12 → lv_has ls 2 [(0, .ref (a 0))] → W p l e (rmN 6) s m args below meth c H locs 0 0 (QL below args s D (wM cy a) A r S') (F0 m 92 ls [])) ?_ ?_ h
      · intro S_12 h H locs ls hw hl
        refine lv_iconst (v := 0) hx hb dX7_digest_92 (by decide) ?_
        refine lv_istore_n (lv' := [(1, .int (0 : Int32)), (0, .ref (a 0))]) hx hb dX7_digest_93 rfl hl (by decide) rfl (fun ls hl => ?_)
        refine jn1_ok (fun (S_14 : ST) => ∀ (H : Heap) (locs : List Loc) (ls : Array Slot), InW D (wM cy a) A s.heap H locs S_14 → lv_has ls 2 [(0, .ref (a 0))] → W p l e (rmN 6) s m args below meth c H locs 0 0 (QL below args s D (wM cy a) A r S') (F0 m 119 ls [])) ?_ ?_ h
        · intro S_14 h H locs ls hw hl
          refine lv_iconst (v := 0) hx hb dX7_digest_119 (by decide) ?_
          refine lv_istore_n (lv' := [(1, .int (0 : Int32)), (0, .ref (a 0))]) hx hb dX7_digest_120 rfl hl (by decide) rfl (fun ls hl => ?_)
          refine lq2_ok (fun (x1_16 : Int32) (S_17 : ST) => ∀ (H : Heap) (locs : List Loc) (ls : Array Slot), InW D (wM cy a) A s.heap H locs S_17 → lv_has ls 2 [(0, .ref (a 0)), (1, .int x1_16)] → W p l e (rmN 6) s m args below meth c H locs 0 0 (QL below args s D (wM cy a) A r S') (F0 m 121 ls [])) ?_ fu (0 : Int32) S_14 h H locs ls hw (lv_sub hl [1, 0] rfl)
          intro ag_18 hag_18 x1_16 S_17 h H locs ls hw hl
          unfold m_X7_digest_L121 at h
          refine lv_iload_n hx hb dX7_digest_121 rfl (lv_at hl 1 rfl) ?_
          refine lv_bipush (v := 10) hx hb dX7_digest_122 (by decide) ?_
          refine lv_icmp_ge (tgt := 143) hx hb dX7_digest_124 (by decide) (fun c_19 => ?_) (fun c_19 => ?_)
          · have h := if_at_t c_19 h
            refine lv_aload_n hx hb dX7_digest_143 rfl (lv_at hl 0 rfl) ?_
            refine gf (v := .long (stL S_17 0)) hC hw in_X7 0 5 28 (cM_0 cy a S_17) rfl (by decide) lf_RX7_238 rfl rfl dX7_digest_144 ?_
            exact rtL hC hr hk hw (so_at2 h).1 (so_at2 h).2 dX7_digest_147
          · have h := if_at_f c_19 h
            refine lv_aload_n hx hb dX7_digest_127 rfl (lv_at hl 0 rfl) ?_
            refine lv_aload_n hx hb dX7_digest_128 rfl (lv_at hl 0 rfl) ?_
            refine lv_iload_n hx hb dX7_digest_129 rfl (lv_at hl 1 rfl) ?_
            obtain ⟨v_21, hc_20, h⟩ := bd_at h
            refine caVI (As := [.int x1_16]) (rest := [.ref (a 0)]) hC hw hl.1 lm_RX7_233 li_RX7 lk_yX7_countOf li_yX7_countOf ll_yX7_countOf 0 5 (cM_0 cy a S_17) rfl 1 rfl hd_X7_countOf (by decide) (by decide) (Nat.le_of_ble_eq_true rfl) dX7_digest_130 (k_X7_countOf l D cy a fu x1_16 S_17 _ hc_20) (fun H locs hw => ?_)
            refine lv_i2l hx hb dX7_digest_133 rfl ?_
            obtain ⟨S_23, hc_22, h⟩ := bd_at h
            refine caVV (As := [.long (v_21).toInt64]) (rest := []) hC hw hl.1 lm_RX7_242 li_RX7 lk_yX7_say li_yX7_say ll_yX7_say 0 5 (cM_0 cy a S_17) rfl 1 rfl hd_X7_say (by decide) (by decide) (Nat.le_of_ble_eq_true rfl) dX7_digest_134 (k_X7_say l D cy a fu ((v_21).toInt64) S_17 _ hc_22) (fun H locs hw => ?_)
            obtain ⟨x1_24, ex1_24⟩ : ∃ z : Int32, z = x1_16 + (1 : Int32) := ⟨_, rfl⟩
            have h := nm_at ex1_24 h
            refine lv_iinc (v := x1_24) (lv' := [(1, .int x1_24), (0, .ref (a 0))]) hx hb dX7_digest_137 hl (k := 1) rfl (by rw [ex1_24]; rfl) (by decide) rfl (fun ls hl => ?_)
            refine lv_goto (tgt := 121) hx hb dX7_digest_140 (by decide) ?_
            exact hag_18 x1_24 S_23 h H locs ls hw (lv_sub hl [1, 0] rfl)
        · intro j_15 hj_15 h
          refine lq2_ok (fun (x1_25 : Int32) (S_26 : ST) => ∀ (H : Heap) (locs : List Loc) (ls : Array Slot), InW D (wM cy a) A s.heap H locs S_26 → lv_has ls 2 [(0, .ref (a 0)), (1, .int x1_25)] → W p l e (rmN 6) s m args below meth c H locs 0 0 (QL below args s D (wM cy a) A r S') (F0 m 94 ls [])) ?_ fu (0 : Int32) S_12 h H locs ls hw (lv_sub hl [1, 0] rfl)
          intro ag_27 hag_27 x1_25 S_26 h H locs ls hw hl
          unfold m_X7_digest_L94 at h
          refine lv_iload_n hx hb dX7_digest_94 rfl (lv_at hl 1 rfl) ?_
          refine lv_aload_n hx hb dX7_digest_95 rfl (lv_at hl 0 rfl) ?_
          refine gf (v := .int (stI S_26 0)) hC hw in_X7 0 5 1 (cM_0 cy a S_26) rfl (by decide) lf_RX7_65 rfl rfl dX7_digest_96 ?_
          refine lv_icmp_ge (tgt := 119) hx hb dX7_digest_99 (by decide) (fun c_28 => ?_) (fun c_28 => ?_)
          · have h := if_at_t c_28 h
            exact hj_15 S_26 h H locs ls hw (lv_sub hl [0] rfl)
          · have h := if_at_f c_28 h
            refine lv_aload_n hx hb dX7_digest_102 rfl (lv_at hl 0 rfl) ?_
            refine lv_aload_n hx hb dX7_digest_103 rfl (lv_at hl 0 rfl) ?_
            refine gf (v := .ref (a 1)) hC hw in_X7 0 5 0 (cM_0 cy a S_26) rfl (by decide) lf_RX7_7 rfl rfl dX7_digest_104 ?_
            refine lv_iload_n hx hb dX7_digest_107 rfl (lv_at hl 1 rfl) ?_
            obtain ⟨hi, h⟩ := gd_at h
            refine ga hC hw 1 (cM_1 cy a S_26) hi dX7_digest_108 ?_
            refine lv_i2l hx hb dX7_digest_109 rfl ?_
            obtain ⟨S_30, hc_29, h⟩ := bd_at h
            refine caVV (As := [.long ((rdA S_26 0 x1_25)).toInt64]) (rest := []) hC hw hl.1 lm_RX7_242 li_RX7 lk_yX7_say li_yX7_say ll_yX7_say 0 5 (cM_0 cy a S_26) rfl 1 rfl hd_X7_say (by decide) (by decide) (Nat.le_of_ble_eq_true rfl) dX7_digest_110 (k_X7_say l D cy a fu (((rdA S_26 0 x1_25)).toInt64) S_26 _ hc_29) (fun H locs hw => ?_)
            obtain ⟨x1_31, ex1_31⟩ : ∃ z : Int32, z = x1_25 + (1 : Int32) := ⟨_, rfl⟩
            have h := nm_at ex1_31 h
            refine lv_iinc (v := x1_31) (lv' := [(1, .int x1_31), (0, .ref (a 0))]) hx hb dX7_digest_113 hl (k := 1) rfl (by rw [ex1_31]; rfl) (by decide) rfl (fun ls hl => ?_)
            refine lv_goto (tgt := 94) hx hb dX7_digest_116 (by decide) ?_
            exact hag_27 x1_31 S_30 h H locs ls hw (lv_sub hl [1, 0] rfl)
      · intro j_13 hj_13 h
        refine lv_if_ne (tgt := 92) hx hb dX7_digest_80 (by decide) (fun c_32 => ?_) (fun c_32 => ?_)
        · have h := if_at_f c_32 h
          exact hj_13 S_9 h H locs ls hw (lv_sub hl [0] rfl)
        · have h := if_at_t c_32 h
          refine lv_aload_n hx hb dX7_digest_83 rfl (lv_at hl 0 rfl) ?_
          refine lv_aload_n hx hb dX7_digest_84 rfl (lv_at hl 0 rfl) ?_
          obtain ⟨v_34, S_35, hc_33, h⟩ := bd2_at h
          refine caVI (As := []) (rest := [.ref (a 0)]) hC hw hl.1 lm_RX7_197 li_RX7 lk_yX7_layFits li_yX7_layFits ll_yX7_layFits 0 5 (cM_0 cy a S_9) rfl 0 rfl hd_X7_layFits (by decide) (by decide) (Nat.le_of_ble_eq_true rfl) dX7_digest_85 (k_X7_layFits l D cy a fu S_9 _ _ hc_33) (fun H locs hw => ?_)
          refine lv_i2l hx hb dX7_digest_88 rfl ?_
          obtain ⟨S_37, hc_36, h⟩ := bd_at h
          refine caVV (As := [.long (v_34).toInt64]) (rest := []) hC hw hl.1 lm_RX7_242 li_RX7 lk_yX7_say li_yX7_say ll_yX7_say 0 5 (cM_0 cy a S_35) rfl 1 rfl hd_X7_say (by decide) (by decide) (Nat.le_of_ble_eq_true rfl) dX7_digest_89 (k_X7_say l D cy a fu ((v_34).toInt64) S_35 _ hc_36) (fun H locs hw => ?_)
          exact hj_13 S_37 h H locs ls hw (lv_sub hl [0] rfl)
    · intro j_5 hj_5 h
      refine lq2_ok (fun (x1_38 : Int32) (S_39 : ST) => ∀ (H : Heap) (locs : List Loc) (ls : Array Slot), InW D (wM cy a) A s.heap H locs S_39 → lv_has ls 2 [(0, .ref (a 0)), (1, .int x1_38)] → W p l e (rmN 6) s m args below meth c H locs 0 0 (QL below args s D (wM cy a) A r S') (F0 m 48 ls [])) ?_ fu (0 : Int32) S_2 h H locs ls hw (lv_sub hl [1, 0] rfl)
      intro ag_40 hag_40 x1_38 S_39 h H locs ls hw hl
      unfold m_X7_digest_L48 at h
      refine lv_iload_n hx hb dX7_digest_48 rfl (lv_at hl 1 rfl) ?_
      refine lv_aload_n hx hb dX7_digest_49 rfl (lv_at hl 0 rfl) ?_
      refine gf (v := .int (stI S_39 4)) hC hw in_X7 0 5 6 (cM_0 cy a S_39) rfl (by decide) lf_RX7_81 rfl rfl dX7_digest_50 ?_
      refine lv_icmp_ge (tgt := 67) hx hb dX7_digest_53 (by decide) (fun c_41 => ?_) (fun c_41 => ?_)
      · have h := if_at_t c_41 h
        exact hj_5 S_39 h H locs ls hw (lv_sub hl [0] rfl)
      · have h := if_at_f c_41 h
        refine lv_aload_n hx hb dX7_digest_56 rfl (lv_at hl 0 rfl) ?_
        refine lv_iload_n hx hb dX7_digest_57 rfl (lv_at hl 1 rfl) ?_
        obtain ⟨S_43, hc_42, h⟩ := bd_at h
        refine caVV (As := [.int x1_38]) (rest := []) hC hw hl.1 lm_RX7_248 li_RX7 lk_yX7_sayFile li_yX7_sayFile ll_yX7_sayFile 0 5 (cM_0 cy a S_39) rfl 1 rfl hd_X7_sayFile (by decide) (by decide) (Nat.le_of_ble_eq_true rfl) dX7_digest_58 (k_X7_sayFile l D cy a fu x1_38 S_39 _ hc_42) (fun H locs hw => ?_)
        obtain ⟨x1_44, ex1_44⟩ : ∃ z : Int32, z = x1_38 + (1 : Int32) := ⟨_, rfl⟩
        have h := nm_at ex1_44 h
        refine lv_iinc (v := x1_44) (lv' := [(1, .int x1_44), (0, .ref (a 0))]) hx hb dX7_digest_61 hl (k := 1) rfl (by rw [ex1_44]; rfl) (by decide) rfl (fun ls hl => ?_)
        refine lv_goto (tgt := 48) hx hb dX7_digest_64 (by decide) ?_
        exact hag_40 x1_44 S_43 h H locs ls hw (lv_sub hl [1, 0] rfl)
  · intro j_3 hj_3 h
    refine lq2_ok (fun (x1_45 : Int32) (S_46 : ST) => ∀ (H : Heap) (locs : List Loc) (ls : Array Slot), InW D (wM cy a) A s.heap H locs S_46 → lv_has ls 2 [(0, .ref (a 0)), (1, .int x1_45)] → W p l e (rmN 6) s m args below meth c H locs 0 0 (QL below args s D (wM cy a) A r S') (F0 m 9 ls [])) ?_ fu (0 : Int32) S_1 h H locs ls hw (lv_sub hl [1, 0] rfl)
    intro ag_47 hag_47 x1_45 S_46 h H locs ls hw hl
    unfold m_X7_digest_L9 at h
    refine lv_iload_n hx hb dX7_digest_9 rfl (lv_at hl 1 rfl) ?_
    refine lv_bipush (v := 6) hx hb dX7_digest_10 (by decide) ?_
    refine lv_icmp_ge (tgt := 46) hx hb dX7_digest_12 (by decide) (fun c_48 => ?_) (fun c_48 => ?_)
    · have h := if_at_t c_48 h
      exact hj_3 S_46 h H locs ls hw (lv_sub hl [0] rfl)
    · have h := if_at_f c_48 h
      refine lv_aload_n hx hb dX7_digest_15 rfl (lv_at hl 0 rfl) ?_
      refine lv_aload_n hx hb dX7_digest_16 rfl (lv_at hl 0 rfl) ?_
      refine gf (v := .ref (a 2)) hC hw in_X7 0 5 5 (cM_0 cy a S_46) rfl (by decide) lf_RX7_13 rfl rfl dX7_digest_17 ?_
      refine lv_iload_n hx hb dX7_digest_20 rfl (lv_at hl 1 rfl) ?_
      obtain ⟨hi, h⟩ := gd_at h
      refine ga hC hw 2 (cM_2 cy a S_46) hi dX7_digest_21 ?_
      refine lv_i2l hx hb dX7_digest_22 rfl ?_
      obtain ⟨S_50, hc_49, h⟩ := bd_at h
      refine caVV (As := [.long ((rdA S_46 1 x1_45)).toInt64]) (rest := []) hC hw hl.1 lm_RX7_242 li_RX7 lk_yX7_say li_yX7_say ll_yX7_say 0 5 (cM_0 cy a S_46) rfl 1 rfl hd_X7_say (by decide) (by decide) (Nat.le_of_ble_eq_true rfl) dX7_digest_23 (k_X7_say l D cy a fu (((rdA S_46 1 x1_45)).toInt64) S_46 _ hc_49) (fun H locs hw => ?_)
      refine lv_aload_n hx hb dX7_digest_26 rfl (lv_at hl 0 rfl) ?_
      refine lv_aload_n hx hb dX7_digest_27 rfl (lv_at hl 0 rfl) ?_
      refine lv_aload_n hx hb dX7_digest_28 rfl (lv_at hl 0 rfl) ?_
      refine gf (v := .ref (a 4)) hC hw in_X7 0 5 8 (cM_0 cy a S_50) rfl (by decide) lf_RX7_19 rfl rfl dX7_digest_29 ?_
      refine lv_iload_n hx hb dX7_digest_32 rfl (lv_at hl 1 rfl) ?_
      obtain ⟨v_52, hc_51, h⟩ := bd_at h
      refine caVI (As := [.ref (a 4), .int x1_45]) (rest := [.ref (a 0)]) hC hw hl.1 lm_RX7_95 li_RX7 lk_yX7_fullness li_yX7_fullness ll_yX7_fullness 0 5 (cM_0 cy a S_50) rfl 2 rfl hd_X7_fullness (by decide) (by decide) (Nat.le_of_ble_eq_true rfl) dX7_digest_33 (k_X7_fullness_4 l D cy a fu x1_45 S_50 _ hc_51) (fun H locs hw => ?_)
      refine lv_i2l hx hb dX7_digest_36 rfl ?_
      obtain ⟨S_54, hc_53, h⟩ := bd_at h
      refine caVV (As := [.long (v_52).toInt64]) (rest := []) hC hw hl.1 lm_RX7_242 li_RX7 lk_yX7_say li_yX7_say ll_yX7_say 0 5 (cM_0 cy a S_50) rfl 1 rfl hd_X7_say (by decide) (by decide) (Nat.le_of_ble_eq_true rfl) dX7_digest_37 (k_X7_say l D cy a fu ((v_52).toInt64) S_50 _ hc_53) (fun H locs hw => ?_)
      obtain ⟨x1_55, ex1_55⟩ : ∃ z : Int32, z = x1_45 + (1 : Int32) := ⟨_, rfl⟩
      have h := nm_at ex1_55 h
      refine lv_iinc (v := x1_55) (lv' := [(1, .int x1_55), (0, .ref (a 0))]) hx hb dX7_digest_40 hl (k := 1) rfl (by rw [ex1_55]; rfl) (by decide) rfl (fun ls hl => ?_)
      refine lv_goto (tgt := 9) hx hb dX7_digest_43 (by decide) ?_
      exact hag_47 x1_55 S_54 h H locs ls hw (lv_sub hl [1, 0] rfl)
