set_option maxHeartbeats 8000000 in
set_option maxRecDepth 100000 in
/-- THE LAW, from its entry -/
theorem whole_start {p : Program} {e : Env} {s : State} {m : MethodId} {below : List Frame} {meth : Method} {c : Code} (l : Launch) {b L : Nat} {xs : Nat → Int32} (hL : L ≤ 256) (C0 : lw_At p s m meth c b L xs) : W p l e room_1 s m #[Value.ref b] below meth c s.heap [] 0 0 (lw_Z below #[Value.ref b] s) (entryFrame m ([Value.ref b] : List Value).toArray 4) := by
  obtain ⟨hx, hb, hr, hml, hown, hts, hX, hbl, hlocks, hgv⟩ := id C0
  obtain ⟨c0, iS0, hKn0⟩ := u_known (C := RX0) (T := TX0) (N := 8) (n := 8) hts (fun w hw => tg_in (in_X0 w hw)) (hts (.instantiable RX0 8) (tg_in ln_RX0))
  obtain ⟨c1, iS1, hKn1⟩ := u_known (C := RX1) (T := TX1) (N := 2) (n := 2) hts (fun w hw => tg_in (in_X1 w hw)) (hts (.instantiable RX1 2) (tg_in ln_RX1))
  obtain ⟨c2, iS2, hKn2⟩ := u_known (C := RX3) (T := TX3) (N := 2) (n := 2) hts (fun w hw => tg_in (in_X3 w hw)) (hts (.instantiable RX3 2) (tg_in ln_RX3))
  obtain ⟨c3, iS3, hKn3⟩ := u_known (C := RX4) (T := TX4) (N := 2) (n := 2) hts (fun w hw => tg_in (in_X4 w hw)) (hts (.instantiable RX4 2) (tg_in ln_RX4))
  obtain ⟨c4, iS4, hKn4⟩ := u_known (C := RX6) (T := TX6) (N := 9) (n := 9) hts (fun w hw => tg_in (in_X6 w hw)) (hts (.instantiable RX6 9) (tg_in ln_RX6))
  obtain ⟨c5, iS5, hKn5⟩ := u_known (C := RX7) (T := TX7) (N := 29) (n := 29) hts (fun w hw => tg_in (in_X7 w hw)) (hts (.instantiable RX7 29) (tg_in ln_RX7))
  obtain ⟨dC, dI, hKc⟩ : ∃ (dC : Nat → ClassId) (dI : Nat → Nat → Nat), ∀ (k : Nat) (q : vw_C), vwCl[k]? = some q → u_Kn s q.1 q.2.1 q.2.2 (dC k) (dI k) := by
    refine ⟨fun k => if k = 0 then c0 else if k = 1 then c1 else if k = 2 then c2 else if k = 3 then c3 else if k = 4 then c4 else c5, fun k => if k = 0 then iS0 else if k = 1 then iS1 else if k = 2 then iS2 else if k = 3 then iS3 else if k = 4 then iS4 else iS5, ?_⟩
    intro k q hq
    match k, hq with
    | 0, hq => cases hq; exact hKn0
    | 1, hq => cases hq; exact hKn1
    | 2, hq => cases hq; exact hKn2
    | 3, hq => cases hq; exact hKn3
    | 4, hq => cases hq; exact hKn4
    | 5, hq => cases hq; exact hKn5
    | k + 6, hq => simp [vwCl] at hq
  obtain ⟨cy, ky, comp, hy1, hy2, hy3⟩ := Cond.arrayClass_spec (show (Cond.arrayClass .int).before #[Value.ref b] s = true from hts _ (tg_in la_int))
  have hK : va_K (dC, dI) vwCl [(cy, .int)] s := ⟨hKc, fun k q h => by
    match k, h with
    | 0, h => cases h; exact ⟨fun n z => ⟨fun k h => (by cases h), ky, hy2, comp, hy3⟩, hy1⟩
    | k + 1, h => simp at h⟩
  have hC : Cx p s m c RL code 4 #[Value.ref b] (dC, dI) cy := ⟨hx, hb, hml, hown, fun w hw => hts w (tg_in hw), hK, fun w hw => va_Nw.of (nw_on hw) (hts w (List.mem_filter.mp hw).1)⟩
  have hl := lv_entry ([.ref b]) (n := 4) (Nat.le_of_ble_eq_true rfl)
  rw [lg_entry_eq]
  generalize (lg_sl ([.ref b]) ++ List.replicate (4 - (lg_sl ([.ref b])).length) Slot.unset).toArray = ls at hl ⊢
  have hl : lv_has ls 4 [(0, .ref b)] := hl
  have hw : InL (dC, dI) (fun q : Nat => s.heap.size ≤ q) s.heap s.heap [] [] := ⟨fun k q h => by simp at h, ⟨fun i j p q h => by simp at h, fun k q h => by simp at h⟩, va_S.rf, fun _ h => h⟩
  refine nwO (fs := [.null, .null, .null, .null, .null, .int 0, .int 0, .int 0, .int 0]) hC hw in_X6 tyX6_ok 4 rfl lq_RL_7 ln_RX6 li_RX6 (fun j hj => by match j, hj with | 0, _ => rfl | 1, _ => rfl | 2, _ => rfl | 3, _ => rfl | 4, _ => rfl | 5, _ => rfl | 6, _ => rfl | 7, _ => rfl | 8, _ => rfl | n + 9, hj => omega) (Nat.le_of_ble_eq_true rfl) (Nat.le_of_ble_eq_true rfl) dL_law_0 (fun h0 H hw => ?_)
  refine lv_dup hx hb dL_law_3 rfl ?_
  refine caI (As := []) (rest := [.ref h0]) (fs := [.null, .null, .null, .null, .null, .int 0, .int 0, .int 0, .int 0]) (wr := []) 4 hC hw hl.1 lm_RL_9 li_RX6 lk_yX6_init li_yX6_init rfl 0 rfl (by decide +kernel) ⟨Nat.le_of_ble_eq_true rfl, Nat.le_of_ble_eq_true rfl⟩ (Nat.le_of_ble_eq_true rfl) ⟨Nat.le_of_ble_eq_true rfl, Nat.le_of_ble_eq_true rfl⟩ dL_law_4 (n_X6 l (dC, dI) cy h0) [0] [] rfl rfl (by decide) (by decide) (fun u1 H locs hw => ?_)
  obtain ⟨a, ea⟩ : ∃ z : Nat → Nat, z = fun k => if k = 0 then h0 else u1 k := ⟨_, rfl⟩
  have ea0 : a 0 = h0 := by rw [ea]; rfl
  have hw : InL (dC, dI) (fun q : Nat => s.heap.size ≤ q) s.heap H locs (wD cy a SD0) := by rw [ea]; exact hw
  rw [← ea0]
  refine lv_astore_n (lv' := [(1, .ref (a 0)), (0, .ref b)]) hx hb dL_law_7 rfl hl (by decide) rfl (fun ls hl => ?_)
  refine nwO (fs := [.null, .int 0, .int 0, .int 0, .int 0, .null, .int 0, .null, .null, .null, .null, .null, .null, .int 0, .int 0, .null, .int 0, .null, .null, .int 0, .int 0, .int 0, .int 0, .int 0, .null, .null, .null, .null, .long 0]) hC hw in_X7 tyX7_ok 5 rfl lq_RL_10 ln_RX7 li_RX7 (fun j hj => by match j, hj with | 0, _ => rfl | 1, _ => rfl | 2, _ => rfl | 3, _ => rfl | 4, _ => rfl | 5, _ => rfl | 6, _ => rfl | 7, _ => rfl | 8, _ => rfl | 9, _ => rfl | 10, _ => rfl | 11, _ => rfl | 12, _ => rfl | 13, _ => rfl | 14, _ => rfl | 15, _ => rfl | 16, _ => rfl | 17, _ => rfl | 18, _ => rfl | 19, _ => rfl | 20, _ => rfl | 21, _ => rfl | 22, _ => rfl | 23, _ => rfl | 24, _ => rfl | 25, _ => rfl | 26, _ => rfl | 27, _ => rfl | 28, _ => rfl | n + 29, hj => omega) (Nat.le_of_ble_eq_true rfl) (Nat.le_of_ble_eq_true rfl) dL_law_8 (fun h1 H hw => ?_)
  refine lv_dup hx hb dL_law_11 rfl ?_
  refine caI (As := []) (rest := [.ref h1]) (fs := [.null, .int 0, .int 0, .int 0, .int 0, .null, .int 0, .null, .null, .null, .null, .null, .null, .int 0, .int 0, .null, .int 0, .null, .null, .int 0, .int 0, .int 0, .int 0, .int 0, .null, .null, .null, .null, .long 0]) (wr := wD cy a SD0) 5 hC hw hl.1 lm_RL_12 li_RX7 lk_yX7_init li_yX7_init rfl 0 rfl (by decide +kernel) ⟨Nat.le_of_ble_eq_true rfl, Nat.le_of_ble_eq_true rfl⟩ (Nat.le_of_ble_eq_true rfl) ⟨Nat.le_of_ble_eq_true rfl, Nat.le_of_ble_eq_true rfl⟩ dL_law_12 (n_X7 l (dC, dI) cy h1) [14] [0, 1, 2, 3, 4, 5, 6, 7, 8, 9, 10, 11, 12, 13] rfl rfl (by decide) (by decide) (fun u2 H locs hw => ?_)
  obtain ⟨a2, ea2⟩ : ∃ z : Nat → Nat, z = fun k => if k = 0 then h1 else u2 k := ⟨_, rfl⟩
  have ea20 : a2 0 = h1 := by rw [ea2]; rfl
  have hw : InL (dC, dI) (fun q : Nat => s.heap.size ≤ q) s.heap H locs (wD cy a SD0 ++ wM cy a2 SM0) := by rw [ea2]; exact hw
  rw [← ea20]
  refine lv_astore_n (lv' := [(2, .ref (a2 0)), (1, .ref (a 0)), (0, .ref b)]) hx hb dL_law_15 rfl hl (by decide) rfl (fun ls hl => ?_)
  refine lv_iconst (v := 0) hx hb dL_law_16 (by decide) ?_
  refine lv_istore_n (lv' := [(3, .int 0), (2, .ref (a2 0)), (1, .ref (a 0)), (0, .ref b)]) hx hb dL_law_17 rfl hl (by decide) rfl (fun ls hl => ?_)
  refine W.widen (k := 30) (n := 196) (by decide) (by decide) ?_
  exact law_loop hL C0 hC (L + 8) 0 0 (by omega) (by omega) nI_0.symm 0 (by omega) SD0 SM0 rel_init H locs ls hw hl
