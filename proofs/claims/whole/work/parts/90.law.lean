/-! the law's calls: the class's world and the reference's, side by side -/
section BL
variable {p : Program} {l : Launch} {e : Env} {R : Room} {s : State} {m : MethodId} {args : Array Value} {below : List Frame} {meth : Method} {c : Code} {H0 H H1 : Heap} {locs locs1 : List Loc} {Q : State → Prop} {cells slots : Nat}
variable {own : String} {cc : ByteArray} {nL : Nat} {D : va_G} {cy : ClassId} {x y x' y' : va_W} {A : Nat → Prop} {pc : Nat} {ls : Array Slot} {rest : List Value}
theorem va_app_l {k : Nat} {q : Nat × va_E} (h : x[k]? = some q) : (x ++ y)[k]? = some q := by
  rw [List.getElem?_append_left (List.getElem?_eq_some_iff.mp h).1]; exact h
theorem va_app_r {k : Nat} {q : Nat × va_E} (h : y[k]? = some q) : (x ++ y)[x.length + k]? = some q := by
  rw [List.getElem?_append_right (Nat.le_add_right _ _), Nat.add_sub_cancel_left]; exact h
theorem InL.left (hw : InL D A H0 H locs (x ++ y)) : InL D A H0 H locs x := ⟨fun k q h => hw.1 k q (va_app_l h), ⟨fun i j p q h1 h2 he => hw.2.1.1 i j p q (va_app_l h1) (va_app_l h2) he, fun k q h => hw.2.1.2 k q (va_app_l h)⟩, hw.2.2⟩
theorem InL.right (hw : InL D A H0 H locs (x ++ y)) : InL D A H0 H locs y := ⟨fun k q h => hw.1 _ q (va_app_r h), ⟨fun i j p q h1 h2 he => by have := hw.2.1.1 _ _ p q (va_app_r h1) (va_app_r h2) he; omega, fun k q h => hw.2.1.2 _ q (va_app_r h)⟩, hw.2.2⟩
theorem InL.ne (hw : InL D A H0 H locs (x ++ y)) {i j : Nat} {p q : Nat × va_E} (h1 : x[i]? = some p) (h2 : y[j]? = some q) : p.1 ≠ q.1 := fun he => by
  have := hw.2.1.1 _ _ p q (va_app_l h1) (va_app_r h2) he
  have := (List.getElem?_eq_some_iff.mp h1).1
  omega
theorem InL.aw (hw : InL D A H0 H locs x) : ∀ q : Nat, va_A x H.size q → A q := fun q h => by
  rcases h with ⟨k, e, h⟩ | h
  · exact hw.2.1.2 k _ h
  · exact hw.2.2.2 _ (Nat.le_trans hw.2.2.1.1 h)
theorem InL.joinL (hw : InL D A H0 H locs (x ++ y)) (hP1 : va_P D vwCl x' H1) (hD1 : va_D (va_A x H.size) x') (hk : ∀ q : Nat, q < H.size → ¬ va_A x H.size q → H1[q]? = H[q]?) (hS : va_S A H0 H1 locs1) : InL D A H0 H1 locs1 (x' ++ y) := by
  have hap : ∀ (k : Nat) (q : Nat × va_E), y[k]? = some q → q.1 < H.size ∧ ¬ va_A x H.size q.1 := fun k q hq => by
    have hl := (hw.right.1 k q hq).lt
    refine ⟨hl, fun h => ?_⟩
    rcases h with ⟨i, e, h⟩ | h
    · exact hw.ne h hq rfl
    · omega
  refine ⟨va_P.app hP1 (fun k q hq => (hw.right.1 k q hq).kept (hk q.1 (hap k q hq).1 (hap k q hq).2)), va_D.app (hD1.weaken (fun k q _ h => hw.left.aw q.1 h)) hw.right.2.1 (fun i j p q hi hj he => ?_), hS, hw.2.2.2⟩
  exact (hap j q hj).2 (by rw [← he]; exact hD1.2 i p hi)
theorem InL.joinR (hw : InL D A H0 H locs (x ++ y)) (hP1 : va_P D vwCl y' H1) (hD1 : va_D (va_A y H.size) y') (hk : ∀ q : Nat, q < H.size → ¬ va_A y H.size q → H1[q]? = H[q]?) (hS : va_S A H0 H1 locs1) : InL D A H0 H1 locs1 (x ++ y') := by
  have hap : ∀ (k : Nat) (q : Nat × va_E), x[k]? = some q → q.1 < H.size ∧ ¬ va_A y H.size q.1 := fun k q hq => by
    have hl := (hw.left.1 k q hq).lt
    refine ⟨hl, fun h => ?_⟩
    rcases h with ⟨i, e, h⟩ | h
    · exact hw.ne hq h rfl
    · omega
  refine ⟨va_P.app (fun k q hq => (hw.left.1 k q hq).kept (hk q.1 (hap k q hq).1 (hap k q hq).2)) hP1, va_D.app hw.left.2.1 (hD1.weaken (fun k q _ h => hw.right.aw q.1 h)) (fun i j p q hi hj he => ?_), hS, hw.2.2.2⟩
  exact (hap i p hi).2 (by rw [he]; exact hD1.2 j q hj)
set_option maxHeartbeats 1000000 in
theorem clLI {w : ST → va_W} {yy : MethodName} {cb : ByteArray} {nM n' index b : Nat} {rt : Option FieldType} {As : List Value} {r : Int32} {S S' : ST} (hC : Cx p s m c own cc nL args D cy) (hw : InL D A H0 H locs (w S ++ y)) (hls : ls.size = nL) (hlk : Cond.methodLink own index yy ∈ tbG) (hi : Cond.initialized yy.cls ∈ tbG) (hco : Cond.code yy cb nM rt ∈ tbG) (hin : Cond.instanceMethod yy ∈ tbG) (hse : Cond.selects yy.cls yy yy ∈ tbG) (ci : Nat) {fs : List Value} {T : u_T} {N : Nat} (he : (w S)[0]? = some (b, .inr (ci, fs))) (hcl : vwCl[ci]? = some (yy.cls, T, N)) (na : Nat) (hna : As.length = na) (hd : yy.cls ≠ "java/lang/invoke/MethodHandle" ∧ yy.cls ≠ "java/lang/invoke/VarHandle" ∧ (parseMethodDescriptor yy.desc).map (fun d => d.parameters.length) = some na) (hR : (rmN n').frames + 1 ≤ R.frames ∧ 8 + (nM + 11) + (rmN n').locals ≤ R.locals) (hrest : (rest.map fun v => v.category).sum ≤ 8) (hfit : cells + 0 ≤ R.cells ∧ slots + 0 ≤ R.slots) (d : decode cc pc = .ok (.invokevirtual index, 3))
    (hM1 : CtI l yy cb nM rt n' (Value.ref b :: As) D cy w S r S')
    (k : ∀ (H1 : Heap) (locs1 : List Loc), InL D A H0 H1 locs1 (w S' ++ y) → W p l e R s m args below meth c H1 locs1 cells slots Q (F0 m (pc + 3) ls (.int r :: rest))) : W p l e R s m args below meth c H locs cells slots Q (F0 m pc ls (As.reverse ++ .ref b :: rest)) := by
  have hl := hw.left
  refine va_calli (va_runV (As := As) (rest := rest) (nL := nL) (Ts := tbG) (own := own) (cc := cc) ⟨hC.1, hC.2.1, hC.2.2.1, hC.2.2.2.1, hC.2.2.2.2.1⟩ (hM1 H.size) ⟨callB_of na hC.2.2.2.2.1 (gz hco) rfl rfl rfl (hC.2.2.2.2.1 _ hi) (hC.2.2.2.2.1 _ hlk) hd hR, hC.2.2.2.2.1 _ hin, hC.2.2.2.2.1 _ hse⟩ ⟨Prw.blind, va_recv hC.2.2.2.2.2.1 hl.1 hcl he, fun U hU hW => ⟨rfl, by rw [hU], by rw [hU]; exact hl.1, hC.2.2.2.2.2.warm hW, ⟨hl.2.1.1, fun _ _ _ => trivial⟩⟩⟩ rfl hna hls rfl (lv_room hrest) d hfit) hw.2.2.1 (fun q _ h => hl.aw q h) hl.aw (fun r1 u t H1 locs1 ht hvm hp1 hB hz hkp hS => ?_)
  obtain ⟨rfl, rfl⟩ := hp1
  exact k H1 locs1 (hw.joinL (by rw [← ht]; exact hB.1) hB.2 hkp hS)
set_option maxHeartbeats 1000000 in
theorem clLL {w : ST → va_W} {yy : MethodName} {cb : ByteArray} {nM n' index b : Nat} {rt : Option FieldType} {As : List Value} {r : Int64} {S S' : ST} (hC : Cx p s m c own cc nL args D cy) (hw : InL D A H0 H locs (w S ++ y)) (hls : ls.size = nL) (hlk : Cond.methodLink own index yy ∈ tbG) (hi : Cond.initialized yy.cls ∈ tbG) (hco : Cond.code yy cb nM rt ∈ tbG) (hin : Cond.instanceMethod yy ∈ tbG) (hse : Cond.selects yy.cls yy yy ∈ tbG) (ci : Nat) {fs : List Value} {T : u_T} {N : Nat} (he : (w S)[0]? = some (b, .inr (ci, fs))) (hcl : vwCl[ci]? = some (yy.cls, T, N)) (na : Nat) (hna : As.length = na) (hd : yy.cls ≠ "java/lang/invoke/MethodHandle" ∧ yy.cls ≠ "java/lang/invoke/VarHandle" ∧ (parseMethodDescriptor yy.desc).map (fun d => d.parameters.length) = some na) (hR : (rmN n').frames + 1 ≤ R.frames ∧ 8 + (nM + 11) + (rmN n').locals ≤ R.locals) (hrest : (rest.map fun v => v.category).sum ≤ 8) (hfit : cells + 0 ≤ R.cells ∧ slots + 0 ≤ R.slots) (d : decode cc pc = .ok (.invokevirtual index, 3))
    (hM1 : CtL l yy cb nM rt n' (Value.ref b :: As) D cy w S r S')
    (k : ∀ (H1 : Heap) (locs1 : List Loc), InL D A H0 H1 locs1 (w S' ++ y) → W p l e R s m args below meth c H1 locs1 cells slots Q (F0 m (pc + 3) ls (.long r :: rest))) : W p l e R s m args below meth c H locs cells slots Q (F0 m pc ls (As.reverse ++ .ref b :: rest)) := by
  have hl := hw.left
  refine va_calll (va_runV (As := As) (rest := rest) (nL := nL) (Ts := tbG) (own := own) (cc := cc) ⟨hC.1, hC.2.1, hC.2.2.1, hC.2.2.2.1, hC.2.2.2.2.1⟩ (hM1 H.size) ⟨callB_of na hC.2.2.2.2.1 (gz hco) rfl rfl rfl (hC.2.2.2.2.1 _ hi) (hC.2.2.2.2.1 _ hlk) hd hR, hC.2.2.2.2.1 _ hin, hC.2.2.2.2.1 _ hse⟩ ⟨Prw.blind, va_recv hC.2.2.2.2.2.1 hl.1 hcl he, fun U hU hW => ⟨rfl, by rw [hU], by rw [hU]; exact hl.1, hC.2.2.2.2.2.warm hW, ⟨hl.2.1.1, fun _ _ _ => trivial⟩⟩⟩ rfl hna hls rfl (lv_room hrest) d hfit) hw.2.2.1 (fun q _ h => hl.aw q h) hl.aw (fun r1 u t H1 locs1 ht hvm hp1 hB hz hkp hS => ?_)
  obtain ⟨rfl, rfl⟩ := hp1
  exact k H1 locs1 (hw.joinL (by rw [← ht]; exact hB.1) hB.2 hkp hS)
set_option maxHeartbeats 1000000 in
theorem clRI {w : ST → va_W} {yy : MethodName} {cb : ByteArray} {nM n' index b : Nat} {rt : Option FieldType} {As : List Value} {r : Int32} {S S' : ST} (hC : Cx p s m c own cc nL args D cy) (hw : InL D A H0 H locs (x ++ w S)) (hls : ls.size = nL) (hlk : Cond.methodLink own index yy ∈ tbG) (hi : Cond.initialized yy.cls ∈ tbG) (hco : Cond.code yy cb nM rt ∈ tbG) (hin : Cond.instanceMethod yy ∈ tbG) (hse : Cond.selects yy.cls yy yy ∈ tbG) (ci : Nat) {fs : List Value} {T : u_T} {N : Nat} (he : (w S)[0]? = some (b, .inr (ci, fs))) (hcl : vwCl[ci]? = some (yy.cls, T, N)) (na : Nat) (hna : As.length = na) (hd : yy.cls ≠ "java/lang/invoke/MethodHandle" ∧ yy.cls ≠ "java/lang/invoke/VarHandle" ∧ (parseMethodDescriptor yy.desc).map (fun d => d.parameters.length) = some na) (hR : (rmN n').frames + 1 ≤ R.frames ∧ 8 + (nM + 11) + (rmN n').locals ≤ R.locals) (hrest : (rest.map fun v => v.category).sum ≤ 8) (hfit : cells + 0 ≤ R.cells ∧ slots + 0 ≤ R.slots) (d : decode cc pc = .ok (.invokevirtual index, 3))
    (hM1 : CtI l yy cb nM rt n' (Value.ref b :: As) D cy w S r S')
    (k : ∀ (H1 : Heap) (locs1 : List Loc), InL D A H0 H1 locs1 (x ++ w S') → W p l e R s m args below meth c H1 locs1 cells slots Q (F0 m (pc + 3) ls (.int r :: rest))) : W p l e R s m args below meth c H locs cells slots Q (F0 m pc ls (As.reverse ++ .ref b :: rest)) := by
  have hl := hw.right
  refine va_calli (va_runV (As := As) (rest := rest) (nL := nL) (Ts := tbG) (own := own) (cc := cc) ⟨hC.1, hC.2.1, hC.2.2.1, hC.2.2.2.1, hC.2.2.2.2.1⟩ (hM1 H.size) ⟨callB_of na hC.2.2.2.2.1 (gz hco) rfl rfl rfl (hC.2.2.2.2.1 _ hi) (hC.2.2.2.2.1 _ hlk) hd hR, hC.2.2.2.2.1 _ hin, hC.2.2.2.2.1 _ hse⟩ ⟨Prw.blind, va_recv hC.2.2.2.2.2.1 hl.1 hcl he, fun U hU hW => ⟨rfl, by rw [hU], by rw [hU]; exact hl.1, hC.2.2.2.2.2.warm hW, ⟨hl.2.1.1, fun _ _ _ => trivial⟩⟩⟩ rfl hna hls rfl (lv_room hrest) d hfit) hw.2.2.1 (fun q _ h => hl.aw q h) hl.aw (fun r1 u t H1 locs1 ht hvm hp1 hB hz hkp hS => ?_)
  obtain ⟨rfl, rfl⟩ := hp1
  exact k H1 locs1 (hw.joinR (by rw [← ht]; exact hB.1) hB.2 hkp hS)
set_option maxHeartbeats 1000000 in
theorem clRL {w : ST → va_W} {yy : MethodName} {cb : ByteArray} {nM n' index b : Nat} {rt : Option FieldType} {As : List Value} {r : Int64} {S S' : ST} (hC : Cx p s m c own cc nL args D cy) (hw : InL D A H0 H locs (x ++ w S)) (hls : ls.size = nL) (hlk : Cond.methodLink own index yy ∈ tbG) (hi : Cond.initialized yy.cls ∈ tbG) (hco : Cond.code yy cb nM rt ∈ tbG) (hin : Cond.instanceMethod yy ∈ tbG) (hse : Cond.selects yy.cls yy yy ∈ tbG) (ci : Nat) {fs : List Value} {T : u_T} {N : Nat} (he : (w S)[0]? = some (b, .inr (ci, fs))) (hcl : vwCl[ci]? = some (yy.cls, T, N)) (na : Nat) (hna : As.length = na) (hd : yy.cls ≠ "java/lang/invoke/MethodHandle" ∧ yy.cls ≠ "java/lang/invoke/VarHandle" ∧ (parseMethodDescriptor yy.desc).map (fun d => d.parameters.length) = some na) (hR : (rmN n').frames + 1 ≤ R.frames ∧ 8 + (nM + 11) + (rmN n').locals ≤ R.locals) (hrest : (rest.map fun v => v.category).sum ≤ 8) (hfit : cells + 0 ≤ R.cells ∧ slots + 0 ≤ R.slots) (d : decode cc pc = .ok (.invokevirtual index, 3))
    (hM1 : CtL l yy cb nM rt n' (Value.ref b :: As) D cy w S r S')
    (k : ∀ (H1 : Heap) (locs1 : List Loc), InL D A H0 H1 locs1 (x ++ w S') → W p l e R s m args below meth c H1 locs1 cells slots Q (F0 m (pc + 3) ls (.long r :: rest))) : W p l e R s m args below meth c H locs cells slots Q (F0 m pc ls (As.reverse ++ .ref b :: rest)) := by
  have hl := hw.right
  refine va_calll (va_runV (As := As) (rest := rest) (nL := nL) (Ts := tbG) (own := own) (cc := cc) ⟨hC.1, hC.2.1, hC.2.2.1, hC.2.2.2.1, hC.2.2.2.2.1⟩ (hM1 H.size) ⟨callB_of na hC.2.2.2.2.1 (gz hco) rfl rfl rfl (hC.2.2.2.2.1 _ hi) (hC.2.2.2.2.1 _ hlk) hd hR, hC.2.2.2.2.1 _ hin, hC.2.2.2.2.1 _ hse⟩ ⟨Prw.blind, va_recv hC.2.2.2.2.2.1 hl.1 hcl he, fun U hU hW => ⟨rfl, by rw [hU], by rw [hU]; exact hl.1, hC.2.2.2.2.2.warm hW, ⟨hl.2.1.1, fun _ _ _ => trivial⟩⟩⟩ rfl hna hls rfl (lv_room hrest) d hfit) hw.2.2.1 (fun q _ h => hl.aw q h) hl.aw (fun r1 u t H1 locs1 ht hvm hp1 hB hz hkp hS => ?_)
  obtain ⟨rfl, rfl⟩ := hp1
  exact k H1 locs1 (hw.joinR (by rw [← ht]; exact hB.1) hB.2 hkp hS)
end BL
theorem law_le {L i : Nat} (hL : L ≤ 256) (hi : i ≤ 300) (h : ¬ nI L - 4 < nI i) : i + 4 ≤ L := by
  rcases Nat.lt_or_ge L (i + 4) with h1 | h1
  · exfalso
    apply h
    rw [Int32.lt_iff_toInt_lt, show (4 : Int32) = nI 4 from rfl, pk_sub_toInt (by omega) (by omega), nI_toInt (by omega)]
    omega
  · exact h1
theorem lg_self (x : Int64) : lg_cmp x x = 0 := by
  unfold lg_cmp
  simp [Int64.lt_irrefl]
set_option maxHeartbeats 8000000 in
set_option maxRecDepth 100000 in
/-- THE LAW'S LOOP: at its head the two systems stand in the relation -/
theorem law_loop {p : Program} {l : Launch} {e : Env} {s : State} {m : MethodId} {below : List Frame} {meth : Method} {c : Code} {D : va_G} {cy : ClassId} {b L : Nat} {xs : Nat → Int32} {a a2 : Nat → Nat} (hL : L ≤ 256) (C0 : lw_At p s m meth c b L xs) (hC : Cx p s m c RL code 4 #[Value.ref b] D cy) :
    ∀ (n i : Nat) (x3 : Int32), i ≤ L + 4 → L + 8 ≤ i + n → x3 = nI i → ∀ (t : Nat), t ≤ i → ∀ (SD SM : ST), Rel t SD SM → ∀ (H : Heap) (locs : List Loc) (ls : Array Slot), InL D (fun q : Nat => s.heap.size ≤ q) s.heap H locs (wD cy a SD ++ wM cy a2 SM) → lv_has ls 4 [(3, .int x3), (2, .ref (a2 0)), (1, .ref (a 0)), (0, .ref b)] → W p l e room_1 s m #[Value.ref b] below meth c H locs 30 196 (lw_Z below #[Value.ref b] s) (F0 m 18 ls []) := by
  obtain ⟨hx, hb, hr, hml, hown, hts, hX, hbl, hlocks, hgv⟩ := C0
  have hbA : ¬ (fun q : Nat => s.heap.size ≤ q) b := Nat.not_le.mpr hbl
  intro n
  induction n with
  | zero =>
    intro i x3 h1 h2
    exact absurd h2 (by omega)
  | succ n ih =>
    intro i x3 hi hin ex3 t ht SD SM hR H locs ls hw hl
    refine lv_iload_n hx hb dL_law_18 rfl (lv_at hl 0 rfl) ?_
    refine lv_aload_n hx hb dL_law_19 rfl (lv_at hl 3 rfl) ?_
    refine va_slen hx hb hX hbl hbA hw.2.2.1 dL_law_20 ?_
    refine lv_iconst (v := 4) hx hb dL_law_21 (by decide) ?_
    refine lv_isub hx hb dL_law_22 ?_
    refine lv_icmp_gt (tgt := 817) hx hb dL_law_23 (by decide) (fun c_1 => ?_) (fun c_1 => ?_)
    · refine lv_iconst (v := 1) hx hb dL_law_817 (by decide) ?_
      refine va_forget (fun q hq => hw.2.2.1.2.2 q hq) ?_
      refine W.widen (k := 600000) (n := 7302249) (by omega) (by omega) ?_
      exact lw_ret hx hb hr hlocks dL_law_818
    have hle : i + 4 ≤ L := law_le hL (by omega) (by rw [← ex3]; exact c_1)
    have hi0 : vp_in x3 L := by rw [ex3]; exact vp_in_nI (by omega) (by omega)
    have hi1 : vp_in (x3 + 1) L := by rw [ex3, nI_1]; exact vp_in_nI (by omega) (by omega)
    have hi2 : vp_in (x3 + 2) L := by rw [ex3, show (2 : Int32) = nI 2 from rfl, nI_add]; exact vp_in_nI (by omega) (by omega)
    have hi3 : vp_in (x3 + 3) L := by rw [ex3, show (3 : Int32) = nI 3 from rfl, nI_add]; exact vp_in_nI (by omega) (by omega)
    have hnext : ∀ (SD SM : ST) (H : Heap) (locs : List Loc) (ls : Array Slot), Rel (t + 1) SD SM → InL D (fun q : Nat => s.heap.size ≤ q) s.heap H locs (wD cy a SD ++ wM cy a2 SM) → lv_has ls 4 [(3, .int x3), (2, .ref (a2 0)), (1, .ref (a 0)), (0, .ref b)] → W p l e room_1 s m #[Value.ref b] below meth c H locs 30 196 (lw_Z below #[Value.ref b] s) (F0 m 811 ls []) := by
      intro SD SM H locs ls hR hw hl
      obtain ⟨x4, ex4⟩ : ∃ z : Int32, z = x3 + 4 := ⟨_, rfl⟩
      refine lv_iinc (v := x4) (lv' := [(3, .int x4), (2, .ref (a2 0)), (1, .ref (a 0)), (0, .ref b)]) hx hb dL_law_811 hl (k := 0) rfl (by rw [ex4]; rfl) (by decide) rfl (fun ls hl => ?_)
      refine lv_goto (tgt := 18) hx hb dL_law_814 (by decide) ?_
      exact ih (i + 4) x4 (by omega) (by omega) (by rw [ex4, ex3, show (4 : Int32) = nI 4 from rfl, nI_add]) (t + 1) (by omega) SD SM hR H locs ls hw hl
    refine lv_aload_n hx hb dL_law_26 rfl (lv_at hl 3 rfl) ?_
    refine lv_iload_n hx hb dL_law_27 rfl (lv_at hl 0 rfl) ?_
    refine va_sld hx hb hX hbl hbA hw.2.2.1 hi0 dL_law_28 ?_
    refine lv_bipush (v := 31) hx hb dL_law_29 (by decide) ?_
    refine lv_iand hx hb dL_law_31 ?_
    refine lv_topi (fun op eop => ?_)
    by_cases k_0 : op = 0
    · refine lv_tableIn (off := 120) (tgt := 152) hx hb dL_law_32 (by rw [k_0]; decide) (by rw [k_0]; decide) (by rw [k_0]; rfl) (by decide) ?_
      obtain ⟨r, SD1, SM1, h1, h2, hR1⟩ := op_letter hR (xs (x3 + 1).toNatClampNeg)
      refine lv_aload_n hx hb dL_law_152 rfl (lv_at hl 2 rfl) ?_
      refine lv_aload_n hx hb dL_law_153 rfl (lv_at hl 3 rfl) ?_
      refine lv_iload_n hx hb dL_law_154 rfl (lv_at hl 0 rfl) ?_
      refine lv_iconst (v := 1) hx hb dL_law_155 (by decide) ?_
      refine lv_iadd hx hb dL_law_156 ?_
      refine va_sld hx hb hX hbl hbA hw.2.2.1 hi1 dL_law_157 ?_
      refine clLI (w := wD cy a) (S := SD) (S' := SD1) (As := [.int (xs (x3 + 1).toNatClampNeg)]) (rest := []) hC hw hl.1 lm_RL_13 li_RX6 lk_yX6_letter li_yX6_letter ll_yX6_letter 4 (cD_0 cy a SD) rfl 1 rfl hd_X6_letter ⟨Nat.le_of_ble_eq_true rfl, Nat.le_of_ble_eq_true rfl⟩ (Nat.le_of_ble_eq_true rfl) ⟨Nat.le_of_ble_eq_true rfl, Nat.le_of_ble_eq_true rfl⟩ dL_law_158 (k_X6_letter l D cy a FU (xs (x3 + 1).toNatClampNeg) SD _ _ h1) (fun H locs hw => ?_)
      refine lv_aload_n hx hb dL_law_161 rfl (lv_at hl 1 rfl) ?_
      refine lv_aload_n hx hb dL_law_162 rfl (lv_at hl 3 rfl) ?_
      refine lv_iload_n hx hb dL_law_163 rfl (lv_at hl 0 rfl) ?_
      refine lv_iconst (v := 1) hx hb dL_law_164 (by decide) ?_
      refine lv_iadd hx hb dL_law_165 ?_
      refine va_sld hx hb hX hbl hbA hw.2.2.1 hi1 dL_law_166 ?_
      refine clRI (w := wM cy a2) (S := SM) (S' := SM1) (As := [.int (xs (x3 + 1).toNatClampNeg)]) (rest := [.int r]) hC hw hl.1 lm_RL_17 li_RX7 lk_yX7_letter li_yX7_letter ll_yX7_letter 5 (cM_0 cy a2 SM) rfl 1 rfl hd_X7_letter ⟨Nat.le_of_ble_eq_true rfl, Nat.le_of_ble_eq_true rfl⟩ (Nat.le_of_ble_eq_true rfl) ⟨Nat.le_of_ble_eq_true rfl, Nat.le_of_ble_eq_true rfl⟩ dL_law_167 (k_X7_letter l D cy a2 FU (xs (x3 + 1).toNatClampNeg) SM _ _ h2) (fun H locs hw => ?_)
      refine lv_icmp_eq (tgt := 811) hx hb dL_law_170 (by decide) (fun _ => ?_) (fun c_9 => absurd rfl c_9)
      exact hnext SD1 SM1 H locs ls hR1 hw hl
    by_cases k_1 : op = 1
    · refine lv_tableIn (off := 143) (tgt := 175) hx hb dL_law_32 (by rw [k_1]; decide) (by rw [k_1]; decide) (by rw [k_1]; rfl) (by decide) ?_
      obtain ⟨r, SD1, SM1, h1, h2, hR1⟩ := op_blank hR
      refine lv_aload_n hx hb dL_law_175 rfl (lv_at hl 2 rfl) ?_
      refine clLI (w := wD cy a) (S := SD) (S' := SD1) (As := []) (rest := []) hC hw hl.1 lm_RL_18 li_RX6 lk_yX6_blank li_yX6_blank ll_yX6_blank 4 (cD_0 cy a SD) rfl 0 rfl hd_X6_blank ⟨Nat.le_of_ble_eq_true rfl, Nat.le_of_ble_eq_true rfl⟩ (Nat.le_of_ble_eq_true rfl) ⟨Nat.le_of_ble_eq_true rfl, Nat.le_of_ble_eq_true rfl⟩ dL_law_176 (k_X6_blank l D cy a FU  SD _ _ h1) (fun H locs hw => ?_)
      refine lv_aload_n hx hb dL_law_179 rfl (lv_at hl 1 rfl) ?_
      refine clRI (w := wM cy a2) (S := SM) (S' := SM1) (As := []) (rest := [.int r]) hC hw hl.1 lm_RL_22 li_RX7 lk_yX7_blank li_yX7_blank ll_yX7_blank 5 (cM_0 cy a2 SM) rfl 0 rfl hd_X7_blank ⟨Nat.le_of_ble_eq_true rfl, Nat.le_of_ble_eq_true rfl⟩ (Nat.le_of_ble_eq_true rfl) ⟨Nat.le_of_ble_eq_true rfl, Nat.le_of_ble_eq_true rfl⟩ dL_law_180 (k_X7_blank l D cy a2 FU  SM _ _ h2) (fun H locs hw => ?_)
      refine lv_icmp_eq (tgt := 811) hx hb dL_law_183 (by decide) (fun _ => ?_) (fun c_9 => absurd rfl c_9)
      exact hnext SD1 SM1 H locs ls hR1 hw hl
    by_cases k_2 : op = 2
    · refine lv_tableIn (off := 156) (tgt := 188) hx hb dL_law_32 (by rw [k_2]; decide) (by rw [k_2]; decide) (by rw [k_2]; rfl) (by decide) ?_
      obtain ⟨r, h1, h2, hR1⟩ := op_fault hR
      refine lv_aload_n hx hb dL_law_188 rfl (lv_at hl 2 rfl) ?_
      refine clLI (w := wD cy a) (S := SD) (S' := SD) (As := []) (rest := []) hC hw hl.1 lm_RL_23 li_RX6 lk_yX6_fault li_yX6_fault ll_yX6_fault 4 (cD_0 cy a SD) rfl 0 rfl hd_X6_fault ⟨Nat.le_of_ble_eq_true rfl, Nat.le_of_ble_eq_true rfl⟩ (Nat.le_of_ble_eq_true rfl) ⟨Nat.le_of_ble_eq_true rfl, Nat.le_of_ble_eq_true rfl⟩ dL_law_189 (k_X6_fault l D cy a FU  SD _ h1) (fun H locs hw => ?_)
      refine lv_aload_n hx hb dL_law_192 rfl (lv_at hl 1 rfl) ?_
      refine clRI (w := wM cy a2) (S := SM) (S' := SM) (As := []) (rest := [.int r]) hC hw hl.1 lm_RL_26 li_RX7 lk_yX7_fault li_yX7_fault ll_yX7_fault 5 (cM_0 cy a2 SM) rfl 0 rfl hd_X7_fault ⟨Nat.le_of_ble_eq_true rfl, Nat.le_of_ble_eq_true rfl⟩ (Nat.le_of_ble_eq_true rfl) ⟨Nat.le_of_ble_eq_true rfl, Nat.le_of_ble_eq_true rfl⟩ dL_law_193 (k_X7_fault l D cy a2 FU  SM _ h2) (fun H locs hw => ?_)
      refine lv_icmp_eq (tgt := 811) hx hb dL_law_196 (by decide) (fun _ => ?_) (fun c_9 => absurd rfl c_9)
      exact hnext SD SM H locs ls hR1 hw hl
    by_cases k_3 : op = 3
    · refine lv_tableIn (off := 169) (tgt := 201) hx hb dL_law_32 (by rw [k_3]; decide) (by rw [k_3]; decide) (by rw [k_3]; rfl) (by decide) ?_
      obtain ⟨r, SD1, SM1, h1, h2, hR1⟩ := op_law (by omega) hR
      refine lv_aload_n hx hb dL_law_201 rfl (lv_at hl 2 rfl) ?_
      refine clLI (w := wD cy a) (S := SD) (S' := SD1) (As := []) (rest := []) hC hw hl.1 lm_RL_27 li_RX6 lk_yX6_law li_yX6_law ll_yX6_law 4 (cD_0 cy a SD) rfl 0 rfl hd_X6_law ⟨Nat.le_of_ble_eq_true rfl, Nat.le_of_ble_eq_true rfl⟩ (Nat.le_of_ble_eq_true rfl) ⟨Nat.le_of_ble_eq_true rfl, Nat.le_of_ble_eq_true rfl⟩ dL_law_202 (k_X6_law l D cy a FU  SD _ _ h1) (fun H locs hw => ?_)
      refine lv_aload_n hx hb dL_law_205 rfl (lv_at hl 1 rfl) ?_
      refine clRI (w := wM cy a2) (S := SM) (S' := SM1) (As := []) (rest := [.int r]) hC hw hl.1 lm_RL_30 li_RX7 lk_yX7_law li_yX7_law ll_yX7_law 5 (cM_0 cy a2 SM) rfl 0 rfl hd_X7_law ⟨Nat.le_of_ble_eq_true rfl, Nat.le_of_ble_eq_true rfl⟩ (Nat.le_of_ble_eq_true rfl) ⟨Nat.le_of_ble_eq_true rfl, Nat.le_of_ble_eq_true rfl⟩ dL_law_206 (k_X7_law l D cy a2 FU  SM _ _ h2) (fun H locs hw => ?_)
      refine lv_icmp_eq (tgt := 811) hx hb dL_law_209 (by decide) (fun _ => ?_) (fun c_9 => absurd rfl c_9)
      exact hnext SD1 SM1 H locs ls hR1 hw hl
    by_cases k_4 : op = 4
    · refine lv_tableIn (off := 182) (tgt := 214) hx hb dL_law_32 (by rw [k_4]; decide) (by rw [k_4]; decide) (by rw [k_4]; rfl) (by decide) ?_
      obtain ⟨r, h1, h2, hR1⟩ := op_under hR (xs (x3 + 1).toNatClampNeg) (xs (x3 + 2).toNatClampNeg)
      refine lv_aload_n hx hb dL_law_214 rfl (lv_at hl 2 rfl) ?_
      refine lv_aload_n hx hb dL_law_215 rfl (lv_at hl 3 rfl) ?_
      refine lv_iload_n hx hb dL_law_216 rfl (lv_at hl 0 rfl) ?_
      refine lv_iconst (v := 1) hx hb dL_law_217 (by decide) ?_
      refine lv_iadd hx hb dL_law_218 ?_
      refine va_sld hx hb hX hbl hbA hw.2.2.1 hi1 dL_law_219 ?_
      refine lv_aload_n hx hb dL_law_220 rfl (lv_at hl 3 rfl) ?_
      refine lv_iload_n hx hb dL_law_221 rfl (lv_at hl 0 rfl) ?_
      refine lv_iconst (v := 2) hx hb dL_law_222 (by decide) ?_
      refine lv_iadd hx hb dL_law_223 ?_
      refine va_sld hx hb hX hbl hbA hw.2.2.1 hi2 dL_law_224 ?_
      refine clLI (w := wD cy a) (S := SD) (S' := SD) (As := [.int (xs (x3 + 1).toNatClampNeg), .int (xs (x3 + 2).toNatClampNeg)]) (rest := []) hC hw hl.1 lm_RL_31 li_RX6 lk_yX6_under li_yX6_under ll_yX6_under 4 (cD_0 cy a SD) rfl 2 rfl hd_X6_under ⟨Nat.le_of_ble_eq_true rfl, Nat.le_of_ble_eq_true rfl⟩ (Nat.le_of_ble_eq_true rfl) ⟨Nat.le_of_ble_eq_true rfl, Nat.le_of_ble_eq_true rfl⟩ dL_law_225 (k_X6_under l D cy a FU (xs (x3 + 1).toNatClampNeg) (xs (x3 + 2).toNatClampNeg) SD _ h1) (fun H locs hw => ?_)
      refine lv_aload_n hx hb dL_law_228 rfl (lv_at hl 1 rfl) ?_
      refine lv_aload_n hx hb dL_law_229 rfl (lv_at hl 3 rfl) ?_
      refine lv_iload_n hx hb dL_law_230 rfl (lv_at hl 0 rfl) ?_
      refine lv_iconst (v := 1) hx hb dL_law_231 (by decide) ?_
      refine lv_iadd hx hb dL_law_232 ?_
      refine va_sld hx hb hX hbl hbA hw.2.2.1 hi1 dL_law_233 ?_
      refine lv_aload_n hx hb dL_law_234 rfl (lv_at hl 3 rfl) ?_
      refine lv_iload_n hx hb dL_law_235 rfl (lv_at hl 0 rfl) ?_
      refine lv_iconst (v := 2) hx hb dL_law_236 (by decide) ?_
      refine lv_iadd hx hb dL_law_237 ?_
      refine va_sld hx hb hX hbl hbA hw.2.2.1 hi2 dL_law_238 ?_
      refine clRI (w := wM cy a2) (S := SM) (S' := SM) (As := [.int (xs (x3 + 1).toNatClampNeg), .int (xs (x3 + 2).toNatClampNeg)]) (rest := [.int r]) hC hw hl.1 lm_RL_35 li_RX7 lk_yX7_under li_yX7_under ll_yX7_under 5 (cM_0 cy a2 SM) rfl 2 rfl hd_X7_under ⟨Nat.le_of_ble_eq_true rfl, Nat.le_of_ble_eq_true rfl⟩ (Nat.le_of_ble_eq_true rfl) ⟨Nat.le_of_ble_eq_true rfl, Nat.le_of_ble_eq_true rfl⟩ dL_law_239 (k_X7_under l D cy a2 FU (xs (x3 + 1).toNatClampNeg) (xs (x3 + 2).toNatClampNeg) SM _ h2) (fun H locs hw => ?_)
      refine lv_icmp_eq (tgt := 811) hx hb dL_law_242 (by decide) (fun _ => ?_) (fun c_9 => absurd rfl c_9)
      exact hnext SD SM H locs ls hR1 hw hl
    by_cases k_5 : op = 5
    · refine lv_tableIn (off := 215) (tgt := 247) hx hb dL_law_32 (by rw [k_5]; decide) (by rw [k_5]; decide) (by rw [k_5]; rfl) (by decide) ?_
      obtain ⟨r, SD1, SM1, h1, h2, hR1⟩ := op_file hR (xs (x3 + 1).toNatClampNeg) (xs (x3 + 2).toNatClampNeg)
      refine lv_aload_n hx hb dL_law_247 rfl (lv_at hl 2 rfl) ?_
      refine lv_aload_n hx hb dL_law_248 rfl (lv_at hl 3 rfl) ?_
      refine lv_iload_n hx hb dL_law_249 rfl (lv_at hl 0 rfl) ?_
      refine lv_iconst (v := 1) hx hb dL_law_250 (by decide) ?_
      refine lv_iadd hx hb dL_law_251 ?_
      refine va_sld hx hb hX hbl hbA hw.2.2.1 hi1 dL_law_252 ?_
      refine lv_aload_n hx hb dL_law_253 rfl (lv_at hl 3 rfl) ?_
      refine lv_iload_n hx hb dL_law_254 rfl (lv_at hl 0 rfl) ?_
      refine lv_iconst (v := 2) hx hb dL_law_255 (by decide) ?_
      refine lv_iadd hx hb dL_law_256 ?_
      refine va_sld hx hb hX hbl hbA hw.2.2.1 hi2 dL_law_257 ?_
      refine clLI (w := wD cy a) (S := SD) (S' := SD1) (As := [.int (xs (x3 + 1).toNatClampNeg), .int (xs (x3 + 2).toNatClampNeg)]) (rest := []) hC hw hl.1 lm_RL_36 li_RX6 lk_yX6_file li_yX6_file ll_yX6_file 4 (cD_0 cy a SD) rfl 2 rfl hd_X6_file ⟨Nat.le_of_ble_eq_true rfl, Nat.le_of_ble_eq_true rfl⟩ (Nat.le_of_ble_eq_true rfl) ⟨Nat.le_of_ble_eq_true rfl, Nat.le_of_ble_eq_true rfl⟩ dL_law_258 (k_X6_file l D cy a FU (xs (x3 + 1).toNatClampNeg) (xs (x3 + 2).toNatClampNeg) SD _ _ h1) (fun H locs hw => ?_)
      refine lv_aload_n hx hb dL_law_261 rfl (lv_at hl 1 rfl) ?_
      refine lv_aload_n hx hb dL_law_262 rfl (lv_at hl 3 rfl) ?_
      refine lv_iload_n hx hb dL_law_263 rfl (lv_at hl 0 rfl) ?_
      refine lv_iconst (v := 1) hx hb dL_law_264 (by decide) ?_
      refine lv_iadd hx hb dL_law_265 ?_
      refine va_sld hx hb hX hbl hbA hw.2.2.1 hi1 dL_law_266 ?_
      refine lv_aload_n hx hb dL_law_267 rfl (lv_at hl 3 rfl) ?_
      refine lv_iload_n hx hb dL_law_268 rfl (lv_at hl 0 rfl) ?_
      refine lv_iconst (v := 2) hx hb dL_law_269 (by decide) ?_
      refine lv_iadd hx hb dL_law_270 ?_
      refine va_sld hx hb hX hbl hbA hw.2.2.1 hi2 dL_law_271 ?_
      refine clRI (w := wM cy a2) (S := SM) (S' := SM1) (As := [.int (xs (x3 + 1).toNatClampNeg), .int (xs (x3 + 2).toNatClampNeg)]) (rest := [.int r]) hC hw hl.1 lm_RL_39 li_RX7 lk_yX7_file li_yX7_file ll_yX7_file 5 (cM_0 cy a2 SM) rfl 2 rfl hd_X7_file ⟨Nat.le_of_ble_eq_true rfl, Nat.le_of_ble_eq_true rfl⟩ (Nat.le_of_ble_eq_true rfl) ⟨Nat.le_of_ble_eq_true rfl, Nat.le_of_ble_eq_true rfl⟩ dL_law_272 (k_X7_file l D cy a2 FU (xs (x3 + 1).toNatClampNeg) (xs (x3 + 2).toNatClampNeg) SM _ _ h2) (fun H locs hw => ?_)
      refine lv_icmp_eq (tgt := 811) hx hb dL_law_275 (by decide) (fun _ => ?_) (fun c_9 => absurd rfl c_9)
      exact hnext SD1 SM1 H locs ls hR1 hw hl
    by_cases k_6 : op = 6
    · refine lv_tableIn (off := 248) (tgt := 280) hx hb dL_law_32 (by rw [k_6]; decide) (by rw [k_6]; decide) (by rw [k_6]; rfl) (by decide) ?_
      obtain ⟨r, h1, h2, hR1⟩ := op_about hR (xs (x3 + 1).toNatClampNeg) (xs (x3 + 2).toNatClampNeg)
      refine lv_aload_n hx hb dL_law_280 rfl (lv_at hl 2 rfl) ?_
      refine lv_aload_n hx hb dL_law_281 rfl (lv_at hl 3 rfl) ?_
      refine lv_iload_n hx hb dL_law_282 rfl (lv_at hl 0 rfl) ?_
      refine lv_iconst (v := 1) hx hb dL_law_283 (by decide) ?_
      refine lv_iadd hx hb dL_law_284 ?_
      refine va_sld hx hb hX hbl hbA hw.2.2.1 hi1 dL_law_285 ?_
      refine lv_aload_n hx hb dL_law_286 rfl (lv_at hl 3 rfl) ?_
      refine lv_iload_n hx hb dL_law_287 rfl (lv_at hl 0 rfl) ?_
      refine lv_iconst (v := 2) hx hb dL_law_288 (by decide) ?_
      refine lv_iadd hx hb dL_law_289 ?_
      refine va_sld hx hb hX hbl hbA hw.2.2.1 hi2 dL_law_290 ?_
      refine clLI (w := wD cy a) (S := SD) (S' := SD) (As := [.int (xs (x3 + 1).toNatClampNeg), .int (xs (x3 + 2).toNatClampNeg)]) (rest := []) hC hw hl.1 lm_RL_40 li_RX6 lk_yX6_about li_yX6_about ll_yX6_about 4 (cD_0 cy a SD) rfl 2 rfl hd_X6_about ⟨Nat.le_of_ble_eq_true rfl, Nat.le_of_ble_eq_true rfl⟩ (Nat.le_of_ble_eq_true rfl) ⟨Nat.le_of_ble_eq_true rfl, Nat.le_of_ble_eq_true rfl⟩ dL_law_291 (k_X6_about l D cy a FU (xs (x3 + 1).toNatClampNeg) (xs (x3 + 2).toNatClampNeg) SD _ h1) (fun H locs hw => ?_)
      refine lv_aload_n hx hb dL_law_294 rfl (lv_at hl 1 rfl) ?_
      refine lv_aload_n hx hb dL_law_295 rfl (lv_at hl 3 rfl) ?_
      refine lv_iload_n hx hb dL_law_296 rfl (lv_at hl 0 rfl) ?_
      refine lv_iconst (v := 1) hx hb dL_law_297 (by decide) ?_
      refine lv_iadd hx hb dL_law_298 ?_
      refine va_sld hx hb hX hbl hbA hw.2.2.1 hi1 dL_law_299 ?_
      refine lv_aload_n hx hb dL_law_300 rfl (lv_at hl 3 rfl) ?_
      refine lv_iload_n hx hb dL_law_301 rfl (lv_at hl 0 rfl) ?_
      refine lv_iconst (v := 2) hx hb dL_law_302 (by decide) ?_
      refine lv_iadd hx hb dL_law_303 ?_
      refine va_sld hx hb hX hbl hbA hw.2.2.1 hi2 dL_law_304 ?_
      refine clRI (w := wM cy a2) (S := SM) (S' := SM) (As := [.int (xs (x3 + 1).toNatClampNeg), .int (xs (x3 + 2).toNatClampNeg)]) (rest := [.int r]) hC hw hl.1 lm_RL_43 li_RX7 lk_yX7_about li_yX7_about ll_yX7_about 5 (cM_0 cy a2 SM) rfl 2 rfl hd_X7_about ⟨Nat.le_of_ble_eq_true rfl, Nat.le_of_ble_eq_true rfl⟩ (Nat.le_of_ble_eq_true rfl) ⟨Nat.le_of_ble_eq_true rfl, Nat.le_of_ble_eq_true rfl⟩ dL_law_305 (k_X7_about l D cy a2 FU (xs (x3 + 1).toNatClampNeg) (xs (x3 + 2).toNatClampNeg) SM _ h2) (fun H locs hw => ?_)
      refine lv_icmp_eq (tgt := 811) hx hb dL_law_308 (by decide) (fun _ => ?_) (fun c_9 => absurd rfl c_9)
      exact hnext SD SM H locs ls hR1 hw hl
    by_cases k_7 : op = 7
    · refine lv_tableIn (off := 281) (tgt := 313) hx hb dL_law_32 (by rw [k_7]; decide) (by rw [k_7]; decide) (by rw [k_7]; rfl) (by decide) ?_
      obtain ⟨r, h1, h2, hR1⟩ := op_as hR (xs (x3 + 1).toNatClampNeg) (xs (x3 + 2).toNatClampNeg)
      refine lv_aload_n hx hb dL_law_313 rfl (lv_at hl 2 rfl) ?_
      refine lv_aload_n hx hb dL_law_314 rfl (lv_at hl 3 rfl) ?_
      refine lv_iload_n hx hb dL_law_315 rfl (lv_at hl 0 rfl) ?_
      refine lv_iconst (v := 1) hx hb dL_law_316 (by decide) ?_
      refine lv_iadd hx hb dL_law_317 ?_
      refine va_sld hx hb hX hbl hbA hw.2.2.1 hi1 dL_law_318 ?_
      refine lv_aload_n hx hb dL_law_319 rfl (lv_at hl 3 rfl) ?_
      refine lv_iload_n hx hb dL_law_320 rfl (lv_at hl 0 rfl) ?_
      refine lv_iconst (v := 2) hx hb dL_law_321 (by decide) ?_
      refine lv_iadd hx hb dL_law_322 ?_
      refine va_sld hx hb hX hbl hbA hw.2.2.1 hi2 dL_law_323 ?_
      refine clLI (w := wD cy a) (S := SD) (S' := SD) (As := [.int (xs (x3 + 1).toNatClampNeg), .int (xs (x3 + 2).toNatClampNeg)]) (rest := []) hC hw hl.1 lm_RL_44 li_RX6 lk_yX6_as li_yX6_as ll_yX6_as 4 (cD_0 cy a SD) rfl 2 rfl hd_X6_as ⟨Nat.le_of_ble_eq_true rfl, Nat.le_of_ble_eq_true rfl⟩ (Nat.le_of_ble_eq_true rfl) ⟨Nat.le_of_ble_eq_true rfl, Nat.le_of_ble_eq_true rfl⟩ dL_law_324 (k_X6_as l D cy a FU (xs (x3 + 1).toNatClampNeg) (xs (x3 + 2).toNatClampNeg) SD _ h1) (fun H locs hw => ?_)
      refine lv_aload_n hx hb dL_law_327 rfl (lv_at hl 1 rfl) ?_
      refine lv_aload_n hx hb dL_law_328 rfl (lv_at hl 3 rfl) ?_
      refine lv_iload_n hx hb dL_law_329 rfl (lv_at hl 0 rfl) ?_
      refine lv_iconst (v := 1) hx hb dL_law_330 (by decide) ?_
      refine lv_iadd hx hb dL_law_331 ?_
      refine va_sld hx hb hX hbl hbA hw.2.2.1 hi1 dL_law_332 ?_
      refine lv_aload_n hx hb dL_law_333 rfl (lv_at hl 3 rfl) ?_
      refine lv_iload_n hx hb dL_law_334 rfl (lv_at hl 0 rfl) ?_
      refine lv_iconst (v := 2) hx hb dL_law_335 (by decide) ?_
      refine lv_iadd hx hb dL_law_336 ?_
      refine va_sld hx hb hX hbl hbA hw.2.2.1 hi2 dL_law_337 ?_
      refine clRI (w := wM cy a2) (S := SM) (S' := SM) (As := [.int (xs (x3 + 1).toNatClampNeg), .int (xs (x3 + 2).toNatClampNeg)]) (rest := [.int r]) hC hw hl.1 lm_RL_47 li_RX7 lk_yX7_as li_yX7_as ll_yX7_as 5 (cM_0 cy a2 SM) rfl 2 rfl hd_X7_as ⟨Nat.le_of_ble_eq_true rfl, Nat.le_of_ble_eq_true rfl⟩ (Nat.le_of_ble_eq_true rfl) ⟨Nat.le_of_ble_eq_true rfl, Nat.le_of_ble_eq_true rfl⟩ dL_law_338 (k_X7_as l D cy a2 FU (xs (x3 + 1).toNatClampNeg) (xs (x3 + 2).toNatClampNeg) SM _ h2) (fun H locs hw => ?_)
      refine lv_icmp_eq (tgt := 811) hx hb dL_law_341 (by decide) (fun _ => ?_) (fun c_9 => absurd rfl c_9)
      exact hnext SD SM H locs ls hR1 hw hl
    by_cases k_8 : op = 8
    · refine lv_tableIn (off := 314) (tgt := 346) hx hb dL_law_32 (by rw [k_8]; decide) (by rw [k_8]; decide) (by rw [k_8]; rfl) (by decide) ?_
      obtain ⟨r, SD1, SM1, h1, h2, hR1⟩ := op_copy hR (xs (x3 + 1).toNatClampNeg) (xs (x3 + 2).toNatClampNeg)
      refine lv_aload_n hx hb dL_law_346 rfl (lv_at hl 2 rfl) ?_
      refine lv_aload_n hx hb dL_law_347 rfl (lv_at hl 3 rfl) ?_
      refine lv_iload_n hx hb dL_law_348 rfl (lv_at hl 0 rfl) ?_
      refine lv_iconst (v := 1) hx hb dL_law_349 (by decide) ?_
      refine lv_iadd hx hb dL_law_350 ?_
      refine va_sld hx hb hX hbl hbA hw.2.2.1 hi1 dL_law_351 ?_
      refine lv_aload_n hx hb dL_law_352 rfl (lv_at hl 3 rfl) ?_
      refine lv_iload_n hx hb dL_law_353 rfl (lv_at hl 0 rfl) ?_
      refine lv_iconst (v := 2) hx hb dL_law_354 (by decide) ?_
      refine lv_iadd hx hb dL_law_355 ?_
      refine va_sld hx hb hX hbl hbA hw.2.2.1 hi2 dL_law_356 ?_
      refine clLI (w := wD cy a) (S := SD) (S' := SD1) (As := [.int (xs (x3 + 1).toNatClampNeg), .int (xs (x3 + 2).toNatClampNeg)]) (rest := []) hC hw hl.1 lm_RL_48 li_RX6 lk_yX6_copy li_yX6_copy ll_yX6_copy 4 (cD_0 cy a SD) rfl 2 rfl hd_X6_copy ⟨Nat.le_of_ble_eq_true rfl, Nat.le_of_ble_eq_true rfl⟩ (Nat.le_of_ble_eq_true rfl) ⟨Nat.le_of_ble_eq_true rfl, Nat.le_of_ble_eq_true rfl⟩ dL_law_357 (k_X6_copy l D cy a FU (xs (x3 + 1).toNatClampNeg) (xs (x3 + 2).toNatClampNeg) SD _ _ h1) (fun H locs hw => ?_)
      refine lv_aload_n hx hb dL_law_360 rfl (lv_at hl 1 rfl) ?_
      refine lv_aload_n hx hb dL_law_361 rfl (lv_at hl 3 rfl) ?_
      refine lv_iload_n hx hb dL_law_362 rfl (lv_at hl 0 rfl) ?_
      refine lv_iconst (v := 1) hx hb dL_law_363 (by decide) ?_
      refine lv_iadd hx hb dL_law_364 ?_
      refine va_sld hx hb hX hbl hbA hw.2.2.1 hi1 dL_law_365 ?_
      refine lv_aload_n hx hb dL_law_366 rfl (lv_at hl 3 rfl) ?_
      refine lv_iload_n hx hb dL_law_367 rfl (lv_at hl 0 rfl) ?_
      refine lv_iconst (v := 2) hx hb dL_law_368 (by decide) ?_
      refine lv_iadd hx hb dL_law_369 ?_
      refine va_sld hx hb hX hbl hbA hw.2.2.1 hi2 dL_law_370 ?_
      refine clRI (w := wM cy a2) (S := SM) (S' := SM1) (As := [.int (xs (x3 + 1).toNatClampNeg), .int (xs (x3 + 2).toNatClampNeg)]) (rest := [.int r]) hC hw hl.1 lm_RL_51 li_RX7 lk_yX7_copy li_yX7_copy ll_yX7_copy 5 (cM_0 cy a2 SM) rfl 2 rfl hd_X7_copy ⟨Nat.le_of_ble_eq_true rfl, Nat.le_of_ble_eq_true rfl⟩ (Nat.le_of_ble_eq_true rfl) ⟨Nat.le_of_ble_eq_true rfl, Nat.le_of_ble_eq_true rfl⟩ dL_law_371 (k_X7_copy l D cy a2 FU (xs (x3 + 1).toNatClampNeg) (xs (x3 + 2).toNatClampNeg) SM _ _ h2) (fun H locs hw => ?_)
      refine lv_icmp_eq (tgt := 811) hx hb dL_law_374 (by decide) (fun _ => ?_) (fun c_9 => absurd rfl c_9)
      exact hnext SD1 SM1 H locs ls hR1 hw hl
    by_cases k_9 : op = 9
    · refine lv_tableIn (off := 347) (tgt := 379) hx hb dL_law_32 (by rw [k_9]; decide) (by rw [k_9]; decide) (by rw [k_9]; rfl) (by decide) ?_
      obtain ⟨r, SD1, SM1, h1, h2, hR1⟩ := op_rename hR (xs (x3 + 1).toNatClampNeg) (xs (x3 + 2).toNatClampNeg) (xs (x3 + 3).toNatClampNeg)
      refine lv_aload_n hx hb dL_law_379 rfl (lv_at hl 2 rfl) ?_
      refine lv_aload_n hx hb dL_law_380 rfl (lv_at hl 3 rfl) ?_
      refine lv_iload_n hx hb dL_law_381 rfl (lv_at hl 0 rfl) ?_
      refine lv_iconst (v := 1) hx hb dL_law_382 (by decide) ?_
      refine lv_iadd hx hb dL_law_383 ?_
      refine va_sld hx hb hX hbl hbA hw.2.2.1 hi1 dL_law_384 ?_
      refine lv_aload_n hx hb dL_law_385 rfl (lv_at hl 3 rfl) ?_
      refine lv_iload_n hx hb dL_law_386 rfl (lv_at hl 0 rfl) ?_
      refine lv_iconst (v := 2) hx hb dL_law_387 (by decide) ?_
      refine lv_iadd hx hb dL_law_388 ?_
      refine va_sld hx hb hX hbl hbA hw.2.2.1 hi2 dL_law_389 ?_
      refine lv_aload_n hx hb dL_law_390 rfl (lv_at hl 3 rfl) ?_
      refine lv_iload_n hx hb dL_law_391 rfl (lv_at hl 0 rfl) ?_
      refine lv_iconst (v := 3) hx hb dL_law_392 (by decide) ?_
      refine lv_iadd hx hb dL_law_393 ?_
      refine va_sld hx hb hX hbl hbA hw.2.2.1 hi3 dL_law_394 ?_
      refine clLI (w := wD cy a) (S := SD) (S' := SD1) (As := [.int (xs (x3 + 1).toNatClampNeg), .int (xs (x3 + 2).toNatClampNeg), .int (xs (x3 + 3).toNatClampNeg)]) (rest := []) hC hw hl.1 lm_RL_52 li_RX6 lk_yX6_rename li_yX6_rename ll_yX6_rename 4 (cD_0 cy a SD) rfl 3 rfl hd_X6_rename ⟨Nat.le_of_ble_eq_true rfl, Nat.le_of_ble_eq_true rfl⟩ (Nat.le_of_ble_eq_true rfl) ⟨Nat.le_of_ble_eq_true rfl, Nat.le_of_ble_eq_true rfl⟩ dL_law_395 (k_X6_rename l D cy a FU (xs (x3 + 1).toNatClampNeg) (xs (x3 + 2).toNatClampNeg) (xs (x3 + 3).toNatClampNeg) SD _ _ h1) (fun H locs hw => ?_)
      refine lv_aload_n hx hb dL_law_398 rfl (lv_at hl 1 rfl) ?_
      refine lv_aload_n hx hb dL_law_399 rfl (lv_at hl 3 rfl) ?_
      refine lv_iload_n hx hb dL_law_400 rfl (lv_at hl 0 rfl) ?_
      refine lv_iconst (v := 1) hx hb dL_law_401 (by decide) ?_
      refine lv_iadd hx hb dL_law_402 ?_
      refine va_sld hx hb hX hbl hbA hw.2.2.1 hi1 dL_law_403 ?_
      refine lv_aload_n hx hb dL_law_404 rfl (lv_at hl 3 rfl) ?_
      refine lv_iload_n hx hb dL_law_405 rfl (lv_at hl 0 rfl) ?_
      refine lv_iconst (v := 2) hx hb dL_law_406 (by decide) ?_
      refine lv_iadd hx hb dL_law_407 ?_
      refine va_sld hx hb hX hbl hbA hw.2.2.1 hi2 dL_law_408 ?_
      refine lv_aload_n hx hb dL_law_409 rfl (lv_at hl 3 rfl) ?_
      refine lv_iload_n hx hb dL_law_410 rfl (lv_at hl 0 rfl) ?_
      refine lv_iconst (v := 3) hx hb dL_law_411 (by decide) ?_
      refine lv_iadd hx hb dL_law_412 ?_
      refine va_sld hx hb hX hbl hbA hw.2.2.1 hi3 dL_law_413 ?_
      refine clRI (w := wM cy a2) (S := SM) (S' := SM1) (As := [.int (xs (x3 + 1).toNatClampNeg), .int (xs (x3 + 2).toNatClampNeg), .int (xs (x3 + 3).toNatClampNeg)]) (rest := [.int r]) hC hw hl.1 lm_RL_56 li_RX7 lk_yX7_rename li_yX7_rename ll_yX7_rename 5 (cM_0 cy a2 SM) rfl 3 rfl hd_X7_rename ⟨Nat.le_of_ble_eq_true rfl, Nat.le_of_ble_eq_true rfl⟩ (Nat.le_of_ble_eq_true rfl) ⟨Nat.le_of_ble_eq_true rfl, Nat.le_of_ble_eq_true rfl⟩ dL_law_414 (k_X7_rename l D cy a2 FU (xs (x3 + 1).toNatClampNeg) (xs (x3 + 2).toNatClampNeg) (xs (x3 + 3).toNatClampNeg) SM _ _ h2) (fun H locs hw => ?_)
      refine lv_icmp_eq (tgt := 811) hx hb dL_law_417 (by decide) (fun _ => ?_) (fun c_9 => absurd rfl c_9)
      exact hnext SD1 SM1 H locs ls hR1 hw hl
    by_cases k_10 : op = 10
    · refine lv_tableIn (off := 390) (tgt := 422) hx hb dL_law_32 (by rw [k_10]; decide) (by rw [k_10]; decide) (by rw [k_10]; rfl) (by decide) ?_
      obtain ⟨r, SD1, SM1, h1, h2, hR1⟩ := op_point hR (xs (x3 + 1).toNatClampNeg) (xs (x3 + 2).toNatClampNeg)
      refine lv_aload_n hx hb dL_law_422 rfl (lv_at hl 2 rfl) ?_
      refine lv_aload_n hx hb dL_law_423 rfl (lv_at hl 3 rfl) ?_
      refine lv_iload_n hx hb dL_law_424 rfl (lv_at hl 0 rfl) ?_
      refine lv_iconst (v := 1) hx hb dL_law_425 (by decide) ?_
      refine lv_iadd hx hb dL_law_426 ?_
      refine va_sld hx hb hX hbl hbA hw.2.2.1 hi1 dL_law_427 ?_
      refine lv_aload_n hx hb dL_law_428 rfl (lv_at hl 3 rfl) ?_
      refine lv_iload_n hx hb dL_law_429 rfl (lv_at hl 0 rfl) ?_
      refine lv_iconst (v := 2) hx hb dL_law_430 (by decide) ?_
      refine lv_iadd hx hb dL_law_431 ?_
      refine va_sld hx hb hX hbl hbA hw.2.2.1 hi2 dL_law_432 ?_
      refine clLI (w := wD cy a) (S := SD) (S' := SD1) (As := [.int (xs (x3 + 1).toNatClampNeg), .int (xs (x3 + 2).toNatClampNeg)]) (rest := []) hC hw hl.1 lm_RL_57 li_RX6 lk_yX6_point li_yX6_point ll_yX6_point 4 (cD_0 cy a SD) rfl 2 rfl hd_X6_point ⟨Nat.le_of_ble_eq_true rfl, Nat.le_of_ble_eq_true rfl⟩ (Nat.le_of_ble_eq_true rfl) ⟨Nat.le_of_ble_eq_true rfl, Nat.le_of_ble_eq_true rfl⟩ dL_law_433 (k_X6_point l D cy a FU (xs (x3 + 1).toNatClampNeg) (xs (x3 + 2).toNatClampNeg) SD _ _ h1) (fun H locs hw => ?_)
      refine lv_aload_n hx hb dL_law_436 rfl (lv_at hl 1 rfl) ?_
      refine lv_aload_n hx hb dL_law_437 rfl (lv_at hl 3 rfl) ?_
      refine lv_iload_n hx hb dL_law_438 rfl (lv_at hl 0 rfl) ?_
      refine lv_iconst (v := 1) hx hb dL_law_439 (by decide) ?_
      refine lv_iadd hx hb dL_law_440 ?_
      refine va_sld hx hb hX hbl hbA hw.2.2.1 hi1 dL_law_441 ?_
      refine lv_aload_n hx hb dL_law_442 rfl (lv_at hl 3 rfl) ?_
      refine lv_iload_n hx hb dL_law_443 rfl (lv_at hl 0 rfl) ?_
      refine lv_iconst (v := 2) hx hb dL_law_444 (by decide) ?_
      refine lv_iadd hx hb dL_law_445 ?_
      refine va_sld hx hb hX hbl hbA hw.2.2.1 hi2 dL_law_446 ?_
      refine clRI (w := wM cy a2) (S := SM) (S' := SM1) (As := [.int (xs (x3 + 1).toNatClampNeg), .int (xs (x3 + 2).toNatClampNeg)]) (rest := [.int r]) hC hw hl.1 lm_RL_60 li_RX7 lk_yX7_point li_yX7_point ll_yX7_point 5 (cM_0 cy a2 SM) rfl 2 rfl hd_X7_point ⟨Nat.le_of_ble_eq_true rfl, Nat.le_of_ble_eq_true rfl⟩ (Nat.le_of_ble_eq_true rfl) ⟨Nat.le_of_ble_eq_true rfl, Nat.le_of_ble_eq_true rfl⟩ dL_law_447 (k_X7_point l D cy a2 FU (xs (x3 + 1).toNatClampNeg) (xs (x3 + 2).toNatClampNeg) SM _ _ h2) (fun H locs hw => ?_)
      refine lv_icmp_eq (tgt := 811) hx hb dL_law_450 (by decide) (fun _ => ?_) (fun c_9 => absurd rfl c_9)
      exact hnext SD1 SM1 H locs ls hR1 hw hl
    by_cases k_11 : op = 11
    · refine lv_tableIn (off := 423) (tgt := 455) hx hb dL_law_32 (by rw [k_11]; decide) (by rw [k_11]; decide) (by rw [k_11]; rfl) (by decide) ?_
      obtain ⟨r, SD1, SM1, h1, h2, hR1⟩ := op_burn hR (xs (x3 + 1).toNatClampNeg)
      refine lv_aload_n hx hb dL_law_455 rfl (lv_at hl 2 rfl) ?_
      refine lv_aload_n hx hb dL_law_456 rfl (lv_at hl 3 rfl) ?_
      refine lv_iload_n hx hb dL_law_457 rfl (lv_at hl 0 rfl) ?_
      refine lv_iconst (v := 1) hx hb dL_law_458 (by decide) ?_
      refine lv_iadd hx hb dL_law_459 ?_
      refine va_sld hx hb hX hbl hbA hw.2.2.1 hi1 dL_law_460 ?_
      refine clLI (w := wD cy a) (S := SD) (S' := SD1) (As := [.int (xs (x3 + 1).toNatClampNeg)]) (rest := []) hC hw hl.1 lm_RL_61 li_RX6 lk_yX6_burn li_yX6_burn ll_yX6_burn 4 (cD_0 cy a SD) rfl 1 rfl hd_X6_burn ⟨Nat.le_of_ble_eq_true rfl, Nat.le_of_ble_eq_true rfl⟩ (Nat.le_of_ble_eq_true rfl) ⟨Nat.le_of_ble_eq_true rfl, Nat.le_of_ble_eq_true rfl⟩ dL_law_461 (k_X6_burn l D cy a FU (xs (x3 + 1).toNatClampNeg) SD _ _ h1) (fun H locs hw => ?_)
      refine lv_aload_n hx hb dL_law_464 rfl (lv_at hl 1 rfl) ?_
      refine lv_aload_n hx hb dL_law_465 rfl (lv_at hl 3 rfl) ?_
      refine lv_iload_n hx hb dL_law_466 rfl (lv_at hl 0 rfl) ?_
      refine lv_iconst (v := 1) hx hb dL_law_467 (by decide) ?_
      refine lv_iadd hx hb dL_law_468 ?_
      refine va_sld hx hb hX hbl hbA hw.2.2.1 hi1 dL_law_469 ?_
      refine clRI (w := wM cy a2) (S := SM) (S' := SM1) (As := [.int (xs (x3 + 1).toNatClampNeg)]) (rest := [.int r]) hC hw hl.1 lm_RL_64 li_RX7 lk_yX7_burn li_yX7_burn ll_yX7_burn 5 (cM_0 cy a2 SM) rfl 1 rfl hd_X7_burn ⟨Nat.le_of_ble_eq_true rfl, Nat.le_of_ble_eq_true rfl⟩ (Nat.le_of_ble_eq_true rfl) ⟨Nat.le_of_ble_eq_true rfl, Nat.le_of_ble_eq_true rfl⟩ dL_law_470 (k_X7_burn l D cy a2 FU (xs (x3 + 1).toNatClampNeg) SM _ _ h2) (fun H locs hw => ?_)
      refine lv_icmp_eq (tgt := 811) hx hb dL_law_473 (by decide) (fun _ => ?_) (fun c_9 => absurd rfl c_9)
      exact hnext SD1 SM1 H locs ls hR1 hw hl
    by_cases k_12 : op = 12
    · refine lv_tableIn (off := 446) (tgt := 478) hx hb dL_law_32 (by rw [k_12]; decide) (by rw [k_12]; decide) (by rw [k_12]; rfl) (by decide) ?_
      obtain ⟨r, SM1, h1, h2, hR1⟩ := op_odds hR (xs (x3 + 1).toNatClampNeg) (xs (x3 + 2).toNatClampNeg) (xs (x3 + 3).toNatClampNeg)
      refine lv_aload_n hx hb dL_law_478 rfl (lv_at hl 2 rfl) ?_
      refine lv_aload_n hx hb dL_law_479 rfl (lv_at hl 3 rfl) ?_
      refine lv_iload_n hx hb dL_law_480 rfl (lv_at hl 0 rfl) ?_
      refine lv_iconst (v := 1) hx hb dL_law_481 (by decide) ?_
      refine lv_iadd hx hb dL_law_482 ?_
      refine va_sld hx hb hX hbl hbA hw.2.2.1 hi1 dL_law_483 ?_
      refine lv_aload_n hx hb dL_law_484 rfl (lv_at hl 3 rfl) ?_
      refine lv_iload_n hx hb dL_law_485 rfl (lv_at hl 0 rfl) ?_
      refine lv_iconst (v := 2) hx hb dL_law_486 (by decide) ?_
      refine lv_iadd hx hb dL_law_487 ?_
      refine va_sld hx hb hX hbl hbA hw.2.2.1 hi2 dL_law_488 ?_
      refine lv_aload_n hx hb dL_law_489 rfl (lv_at hl 3 rfl) ?_
      refine lv_iload_n hx hb dL_law_490 rfl (lv_at hl 0 rfl) ?_
      refine lv_iconst (v := 3) hx hb dL_law_491 (by decide) ?_
      refine lv_iadd hx hb dL_law_492 ?_
      refine va_sld hx hb hX hbl hbA hw.2.2.1 hi3 dL_law_493 ?_
      refine clLI (w := wD cy a) (S := SD) (S' := SD) (As := [.int (xs (x3 + 1).toNatClampNeg), .int (xs (x3 + 2).toNatClampNeg), .int (xs (x3 + 3).toNatClampNeg)]) (rest := []) hC hw hl.1 lm_RL_65 li_RX6 lk_yX6_odds li_yX6_odds ll_yX6_odds 4 (cD_0 cy a SD) rfl 3 rfl hd_X6_odds ⟨Nat.le_of_ble_eq_true rfl, Nat.le_of_ble_eq_true rfl⟩ (Nat.le_of_ble_eq_true rfl) ⟨Nat.le_of_ble_eq_true rfl, Nat.le_of_ble_eq_true rfl⟩ dL_law_494 (k_X6_odds l D cy a FU (xs (x3 + 1).toNatClampNeg) (xs (x3 + 2).toNatClampNeg) (xs (x3 + 3).toNatClampNeg) SD _ h1) (fun H locs hw => ?_)
      refine lv_aload_n hx hb dL_law_497 rfl (lv_at hl 1 rfl) ?_
      refine lv_aload_n hx hb dL_law_498 rfl (lv_at hl 3 rfl) ?_
      refine lv_iload_n hx hb dL_law_499 rfl (lv_at hl 0 rfl) ?_
      refine lv_iconst (v := 1) hx hb dL_law_500 (by decide) ?_
      refine lv_iadd hx hb dL_law_501 ?_
      refine va_sld hx hb hX hbl hbA hw.2.2.1 hi1 dL_law_502 ?_
      refine lv_aload_n hx hb dL_law_503 rfl (lv_at hl 3 rfl) ?_
      refine lv_iload_n hx hb dL_law_504 rfl (lv_at hl 0 rfl) ?_
      refine lv_iconst (v := 2) hx hb dL_law_505 (by decide) ?_
      refine lv_iadd hx hb dL_law_506 ?_
      refine va_sld hx hb hX hbl hbA hw.2.2.1 hi2 dL_law_507 ?_
      refine lv_aload_n hx hb dL_law_508 rfl (lv_at hl 3 rfl) ?_
      refine lv_iload_n hx hb dL_law_509 rfl (lv_at hl 0 rfl) ?_
      refine lv_iconst (v := 3) hx hb dL_law_510 (by decide) ?_
      refine lv_iadd hx hb dL_law_511 ?_
      refine va_sld hx hb hX hbl hbA hw.2.2.1 hi3 dL_law_512 ?_
      refine clRI (w := wM cy a2) (S := SM) (S' := SM1) (As := [.int (xs (x3 + 1).toNatClampNeg), .int (xs (x3 + 2).toNatClampNeg), .int (xs (x3 + 3).toNatClampNeg)]) (rest := [.int r]) hC hw hl.1 lm_RL_68 li_RX7 lk_yX7_odds li_yX7_odds ll_yX7_odds 5 (cM_0 cy a2 SM) rfl 3 rfl hd_X7_odds ⟨Nat.le_of_ble_eq_true rfl, Nat.le_of_ble_eq_true rfl⟩ (Nat.le_of_ble_eq_true rfl) ⟨Nat.le_of_ble_eq_true rfl, Nat.le_of_ble_eq_true rfl⟩ dL_law_513 (k_X7_odds l D cy a2 FU (xs (x3 + 1).toNatClampNeg) (xs (x3 + 2).toNatClampNeg) (xs (x3 + 3).toNatClampNeg) SM _ _ h2) (fun H locs hw => ?_)
      refine lv_icmp_eq (tgt := 811) hx hb dL_law_516 (by decide) (fun _ => ?_) (fun c_9 => absurd rfl c_9)
      exact hnext SD SM1 H locs ls hR1 hw hl
    by_cases k_13 : op = 13
    · refine lv_tableIn (off := 489) (tgt := 521) hx hb dL_law_32 (by rw [k_13]; decide) (by rw [k_13]; decide) (by rw [k_13]; rfl) (by decide) ?_
      obtain ⟨r, SM1, h1, h2, hR1⟩ := op_where hR (xs (x3 + 1).toNatClampNeg) (xs (x3 + 2).toNatClampNeg)
      refine lv_aload_n hx hb dL_law_521 rfl (lv_at hl 2 rfl) ?_
      refine lv_aload_n hx hb dL_law_522 rfl (lv_at hl 3 rfl) ?_
      refine lv_iload_n hx hb dL_law_523 rfl (lv_at hl 0 rfl) ?_
      refine lv_iconst (v := 1) hx hb dL_law_524 (by decide) ?_
      refine lv_iadd hx hb dL_law_525 ?_
      refine va_sld hx hb hX hbl hbA hw.2.2.1 hi1 dL_law_526 ?_
      refine lv_aload_n hx hb dL_law_527 rfl (lv_at hl 3 rfl) ?_
      refine lv_iload_n hx hb dL_law_528 rfl (lv_at hl 0 rfl) ?_
      refine lv_iconst (v := 2) hx hb dL_law_529 (by decide) ?_
      refine lv_iadd hx hb dL_law_530 ?_
      refine va_sld hx hb hX hbl hbA hw.2.2.1 hi2 dL_law_531 ?_
      refine clLI (w := wD cy a) (S := SD) (S' := SD) (As := [.int (xs (x3 + 1).toNatClampNeg), .int (xs (x3 + 2).toNatClampNeg)]) (rest := []) hC hw hl.1 lm_RL_69 li_RX6 lk_yX6_where li_yX6_where ll_yX6_where 4 (cD_0 cy a SD) rfl 2 rfl hd_X6_where ⟨Nat.le_of_ble_eq_true rfl, Nat.le_of_ble_eq_true rfl⟩ (Nat.le_of_ble_eq_true rfl) ⟨Nat.le_of_ble_eq_true rfl, Nat.le_of_ble_eq_true rfl⟩ dL_law_532 (k_X6_where l D cy a FU (xs (x3 + 1).toNatClampNeg) (xs (x3 + 2).toNatClampNeg) SD _ h1) (fun H locs hw => ?_)
      refine lv_aload_n hx hb dL_law_535 rfl (lv_at hl 1 rfl) ?_
      refine lv_aload_n hx hb dL_law_536 rfl (lv_at hl 3 rfl) ?_
      refine lv_iload_n hx hb dL_law_537 rfl (lv_at hl 0 rfl) ?_
      refine lv_iconst (v := 1) hx hb dL_law_538 (by decide) ?_
      refine lv_iadd hx hb dL_law_539 ?_
      refine va_sld hx hb hX hbl hbA hw.2.2.1 hi1 dL_law_540 ?_
      refine lv_aload_n hx hb dL_law_541 rfl (lv_at hl 3 rfl) ?_
      refine lv_iload_n hx hb dL_law_542 rfl (lv_at hl 0 rfl) ?_
      refine lv_iconst (v := 2) hx hb dL_law_543 (by decide) ?_
      refine lv_iadd hx hb dL_law_544 ?_
      refine va_sld hx hb hX hbl hbA hw.2.2.1 hi2 dL_law_545 ?_
      refine clRI (w := wM cy a2) (S := SM) (S' := SM1) (As := [.int (xs (x3 + 1).toNatClampNeg), .int (xs (x3 + 2).toNatClampNeg)]) (rest := [.int r]) hC hw hl.1 lm_RL_72 li_RX7 lk_yX7_where li_yX7_where ll_yX7_where 5 (cM_0 cy a2 SM) rfl 2 rfl hd_X7_where ⟨Nat.le_of_ble_eq_true rfl, Nat.le_of_ble_eq_true rfl⟩ (Nat.le_of_ble_eq_true rfl) ⟨Nat.le_of_ble_eq_true rfl, Nat.le_of_ble_eq_true rfl⟩ dL_law_546 (k_X7_where l D cy a2 FU (xs (x3 + 1).toNatClampNeg) (xs (x3 + 2).toNatClampNeg) SM _ _ h2) (fun H locs hw => ?_)
      refine lv_icmp_eq (tgt := 811) hx hb dL_law_549 (by decide) (fun _ => ?_) (fun c_9 => absurd rfl c_9)
      exact hnext SD SM1 H locs ls hR1 hw hl
    by_cases k_14 : op = 14
    · refine lv_tableIn (off := 522) (tgt := 554) hx hb dL_law_32 (by rw [k_14]; decide) (by rw [k_14]; decide) (by rw [k_14]; rfl) (by decide) ?_
      obtain ⟨r, SD1, SM1, h1, h2, hR1⟩ := op_sure hR (xs (x3 + 1).toNatClampNeg) (xs (x3 + 2).toNatClampNeg) (xs (x3 + 3).toNatClampNeg)
      refine lv_aload_n hx hb dL_law_554 rfl (lv_at hl 2 rfl) ?_
      refine lv_aload_n hx hb dL_law_555 rfl (lv_at hl 3 rfl) ?_
      refine lv_iload_n hx hb dL_law_556 rfl (lv_at hl 0 rfl) ?_
      refine lv_iconst (v := 1) hx hb dL_law_557 (by decide) ?_
      refine lv_iadd hx hb dL_law_558 ?_
      refine va_sld hx hb hX hbl hbA hw.2.2.1 hi1 dL_law_559 ?_
      refine lv_aload_n hx hb dL_law_560 rfl (lv_at hl 3 rfl) ?_
      refine lv_iload_n hx hb dL_law_561 rfl (lv_at hl 0 rfl) ?_
      refine lv_iconst (v := 2) hx hb dL_law_562 (by decide) ?_
      refine lv_iadd hx hb dL_law_563 ?_
      refine va_sld hx hb hX hbl hbA hw.2.2.1 hi2 dL_law_564 ?_
      refine lv_aload_n hx hb dL_law_565 rfl (lv_at hl 3 rfl) ?_
      refine lv_iload_n hx hb dL_law_566 rfl (lv_at hl 0 rfl) ?_
      refine lv_iconst (v := 3) hx hb dL_law_567 (by decide) ?_
      refine lv_iadd hx hb dL_law_568 ?_
      refine va_sld hx hb hX hbl hbA hw.2.2.1 hi3 dL_law_569 ?_
      refine clLI (w := wD cy a) (S := SD) (S' := SD1) (As := [.int (xs (x3 + 1).toNatClampNeg), .int (xs (x3 + 2).toNatClampNeg), .int (xs (x3 + 3).toNatClampNeg)]) (rest := []) hC hw hl.1 lm_RL_73 li_RX6 lk_yX6_sure li_yX6_sure ll_yX6_sure 4 (cD_0 cy a SD) rfl 3 rfl hd_X6_sure ⟨Nat.le_of_ble_eq_true rfl, Nat.le_of_ble_eq_true rfl⟩ (Nat.le_of_ble_eq_true rfl) ⟨Nat.le_of_ble_eq_true rfl, Nat.le_of_ble_eq_true rfl⟩ dL_law_570 (k_X6_sure l D cy a FU (xs (x3 + 1).toNatClampNeg) (xs (x3 + 2).toNatClampNeg) (xs (x3 + 3).toNatClampNeg) SD _ _ h1) (fun H locs hw => ?_)
      refine lv_aload_n hx hb dL_law_573 rfl (lv_at hl 1 rfl) ?_
      refine lv_aload_n hx hb dL_law_574 rfl (lv_at hl 3 rfl) ?_
      refine lv_iload_n hx hb dL_law_575 rfl (lv_at hl 0 rfl) ?_
      refine lv_iconst (v := 1) hx hb dL_law_576 (by decide) ?_
      refine lv_iadd hx hb dL_law_577 ?_
      refine va_sld hx hb hX hbl hbA hw.2.2.1 hi1 dL_law_578 ?_
      refine lv_aload_n hx hb dL_law_579 rfl (lv_at hl 3 rfl) ?_
      refine lv_iload_n hx hb dL_law_580 rfl (lv_at hl 0 rfl) ?_
      refine lv_iconst (v := 2) hx hb dL_law_581 (by decide) ?_
      refine lv_iadd hx hb dL_law_582 ?_
      refine va_sld hx hb hX hbl hbA hw.2.2.1 hi2 dL_law_583 ?_
      refine lv_aload_n hx hb dL_law_584 rfl (lv_at hl 3 rfl) ?_
      refine lv_iload_n hx hb dL_law_585 rfl (lv_at hl 0 rfl) ?_
      refine lv_iconst (v := 3) hx hb dL_law_586 (by decide) ?_
      refine lv_iadd hx hb dL_law_587 ?_
      refine va_sld hx hb hX hbl hbA hw.2.2.1 hi3 dL_law_588 ?_
      refine clRI (w := wM cy a2) (S := SM) (S' := SM1) (As := [.int (xs (x3 + 1).toNatClampNeg), .int (xs (x3 + 2).toNatClampNeg), .int (xs (x3 + 3).toNatClampNeg)]) (rest := [.int r]) hC hw hl.1 lm_RL_76 li_RX7 lk_yX7_sure li_yX7_sure ll_yX7_sure 5 (cM_0 cy a2 SM) rfl 3 rfl hd_X7_sure ⟨Nat.le_of_ble_eq_true rfl, Nat.le_of_ble_eq_true rfl⟩ (Nat.le_of_ble_eq_true rfl) ⟨Nat.le_of_ble_eq_true rfl, Nat.le_of_ble_eq_true rfl⟩ dL_law_589 (k_X7_sure l D cy a2 FU (xs (x3 + 1).toNatClampNeg) (xs (x3 + 2).toNatClampNeg) (xs (x3 + 3).toNatClampNeg) SM _ _ h2) (fun H locs hw => ?_)
      refine lv_icmp_eq (tgt := 811) hx hb dL_law_592 (by decide) (fun _ => ?_) (fun c_9 => absurd rfl c_9)
      exact hnext SD1 SM1 H locs ls hR1 hw hl
    by_cases k_15 : op = 15
    · refine lv_tableIn (off := 565) (tgt := 597) hx hb dL_law_32 (by rw [k_15]; decide) (by rw [k_15]; decide) (by rw [k_15]; rfl) (by decide) ?_
      obtain ⟨r, h1, h2, hR1⟩ := op_nowhere hR
      refine lv_aload_n hx hb dL_law_597 rfl (lv_at hl 2 rfl) ?_
      refine clLI (w := wD cy a) (S := SD) (S' := SD) (As := []) (rest := []) hC hw hl.1 lm_RL_77 li_RX6 lk_yX6_nowhere li_yX6_nowhere ll_yX6_nowhere 4 (cD_0 cy a SD) rfl 0 rfl hd_X6_nowhere ⟨Nat.le_of_ble_eq_true rfl, Nat.le_of_ble_eq_true rfl⟩ (Nat.le_of_ble_eq_true rfl) ⟨Nat.le_of_ble_eq_true rfl, Nat.le_of_ble_eq_true rfl⟩ dL_law_598 (k_X6_nowhere l D cy a FU  SD _ h1) (fun H locs hw => ?_)
      refine lv_aload_n hx hb dL_law_601 rfl (lv_at hl 1 rfl) ?_
      refine clRI (w := wM cy a2) (S := SM) (S' := SM) (As := []) (rest := [.int r]) hC hw hl.1 lm_RL_80 li_RX7 lk_yX7_nowhere li_yX7_nowhere ll_yX7_nowhere 5 (cM_0 cy a2 SM) rfl 0 rfl hd_X7_nowhere ⟨Nat.le_of_ble_eq_true rfl, Nat.le_of_ble_eq_true rfl⟩ (Nat.le_of_ble_eq_true rfl) ⟨Nat.le_of_ble_eq_true rfl, Nat.le_of_ble_eq_true rfl⟩ dL_law_602 (k_X7_nowhere l D cy a2 FU  SM _ h2) (fun H locs hw => ?_)
      refine lv_icmp_eq (tgt := 811) hx hb dL_law_605 (by decide) (fun _ => ?_) (fun c_9 => absurd rfl c_9)
      exact hnext SD SM H locs ls hR1 hw hl
    by_cases k_16 : op = 16
    · refine lv_tableIn (off := 578) (tgt := 610) hx hb dL_law_32 (by rw [k_16]; decide) (by rw [k_16]; decide) (by rw [k_16]; rfl) (by decide) ?_
      obtain ⟨r, SD1, SM1, h1, h2, hR1⟩ := op_moving hR (xs (x3 + 1).toNatClampNeg)
      refine lv_aload_n hx hb dL_law_610 rfl (lv_at hl 2 rfl) ?_
      refine lv_aload_n hx hb dL_law_611 rfl (lv_at hl 3 rfl) ?_
      refine lv_iload_n hx hb dL_law_612 rfl (lv_at hl 0 rfl) ?_
      refine lv_iconst (v := 1) hx hb dL_law_613 (by decide) ?_
      refine lv_iadd hx hb dL_law_614 ?_
      refine va_sld hx hb hX hbl hbA hw.2.2.1 hi1 dL_law_615 ?_
      refine clLI (w := wD cy a) (S := SD) (S' := SD1) (As := [.int (xs (x3 + 1).toNatClampNeg)]) (rest := []) hC hw hl.1 lm_RL_81 li_RX6 lk_yX6_moving li_yX6_moving ll_yX6_moving 4 (cD_0 cy a SD) rfl 1 rfl hd_X6_moving ⟨Nat.le_of_ble_eq_true rfl, Nat.le_of_ble_eq_true rfl⟩ (Nat.le_of_ble_eq_true rfl) ⟨Nat.le_of_ble_eq_true rfl, Nat.le_of_ble_eq_true rfl⟩ dL_law_616 (k_X6_moving l D cy a FU (xs (x3 + 1).toNatClampNeg) SD _ _ h1) (fun H locs hw => ?_)
      refine lv_aload_n hx hb dL_law_619 rfl (lv_at hl 1 rfl) ?_
      refine lv_aload_n hx hb dL_law_620 rfl (lv_at hl 3 rfl) ?_
      refine lv_iload_n hx hb dL_law_621 rfl (lv_at hl 0 rfl) ?_
      refine lv_iconst (v := 1) hx hb dL_law_622 (by decide) ?_
      refine lv_iadd hx hb dL_law_623 ?_
      refine va_sld hx hb hX hbl hbA hw.2.2.1 hi1 dL_law_624 ?_
      refine clRI (w := wM cy a2) (S := SM) (S' := SM1) (As := [.int (xs (x3 + 1).toNatClampNeg)]) (rest := [.int r]) hC hw hl.1 lm_RL_84 li_RX7 lk_yX7_moving li_yX7_moving ll_yX7_moving 5 (cM_0 cy a2 SM) rfl 1 rfl hd_X7_moving ⟨Nat.le_of_ble_eq_true rfl, Nat.le_of_ble_eq_true rfl⟩ (Nat.le_of_ble_eq_true rfl) ⟨Nat.le_of_ble_eq_true rfl, Nat.le_of_ble_eq_true rfl⟩ dL_law_625 (k_X7_moving l D cy a2 FU (xs (x3 + 1).toNatClampNeg) SM _ _ h2) (fun H locs hw => ?_)
      refine lv_icmp_eq (tgt := 811) hx hb dL_law_628 (by decide) (fun _ => ?_) (fun c_9 => absurd rfl c_9)
      exact hnext SD1 SM1 H locs ls hR1 hw hl
    by_cases k_17 : op = 17
    · refine lv_tableIn (off := 601) (tgt := 633) hx hb dL_law_32 (by rw [k_17]; decide) (by rw [k_17]; decide) (by rw [k_17]; rfl) (by decide) ?_
      obtain ⟨r, SD1, SM1, h1, h2, hR1⟩ := op_ashes hR (xs (x3 + 1).toNatClampNeg)
      refine lv_aload_n hx hb dL_law_633 rfl (lv_at hl 2 rfl) ?_
      refine lv_aload_n hx hb dL_law_634 rfl (lv_at hl 3 rfl) ?_
      refine lv_iload_n hx hb dL_law_635 rfl (lv_at hl 0 rfl) ?_
      refine lv_iconst (v := 1) hx hb dL_law_636 (by decide) ?_
      refine lv_iadd hx hb dL_law_637 ?_
      refine va_sld hx hb hX hbl hbA hw.2.2.1 hi1 dL_law_638 ?_
      refine clLI (w := wD cy a) (S := SD) (S' := SD1) (As := [.int (xs (x3 + 1).toNatClampNeg)]) (rest := []) hC hw hl.1 lm_RL_85 li_RX6 lk_yX6_ashes li_yX6_ashes ll_yX6_ashes 4 (cD_0 cy a SD) rfl 1 rfl hd_X6_ashes ⟨Nat.le_of_ble_eq_true rfl, Nat.le_of_ble_eq_true rfl⟩ (Nat.le_of_ble_eq_true rfl) ⟨Nat.le_of_ble_eq_true rfl, Nat.le_of_ble_eq_true rfl⟩ dL_law_639 (k_X6_ashes l D cy a FU (xs (x3 + 1).toNatClampNeg) SD _ _ h1) (fun H locs hw => ?_)
      refine lv_aload_n hx hb dL_law_642 rfl (lv_at hl 1 rfl) ?_
      refine lv_aload_n hx hb dL_law_643 rfl (lv_at hl 3 rfl) ?_
      refine lv_iload_n hx hb dL_law_644 rfl (lv_at hl 0 rfl) ?_
      refine lv_iconst (v := 1) hx hb dL_law_645 (by decide) ?_
      refine lv_iadd hx hb dL_law_646 ?_
      refine va_sld hx hb hX hbl hbA hw.2.2.1 hi1 dL_law_647 ?_
      refine clRI (w := wM cy a2) (S := SM) (S' := SM1) (As := [.int (xs (x3 + 1).toNatClampNeg)]) (rest := [.int r]) hC hw hl.1 lm_RL_88 li_RX7 lk_yX7_ashes li_yX7_ashes ll_yX7_ashes 5 (cM_0 cy a2 SM) rfl 1 rfl hd_X7_ashes ⟨Nat.le_of_ble_eq_true rfl, Nat.le_of_ble_eq_true rfl⟩ (Nat.le_of_ble_eq_true rfl) ⟨Nat.le_of_ble_eq_true rfl, Nat.le_of_ble_eq_true rfl⟩ dL_law_648 (k_X7_ashes l D cy a2 FU (xs (x3 + 1).toNatClampNeg) SM _ _ h2) (fun H locs hw => ?_)
      refine lv_icmp_eq (tgt := 811) hx hb dL_law_651 (by decide) (fun _ => ?_) (fun c_9 => absurd rfl c_9)
      exact hnext SD1 SM1 H locs ls hR1 hw hl
    by_cases k_18 : op = 18
    · refine lv_tableIn (off := 624) (tgt := 656) hx hb dL_law_32 (by rw [k_18]; decide) (by rw [k_18]; decide) (by rw [k_18]; rfl) (by decide) ?_
      obtain ⟨r, SD1, SM1, h1, h2, hR1⟩ := op_forget hR
      refine lv_aload_n hx hb dL_law_656 rfl (lv_at hl 2 rfl) ?_
      refine clLI (w := wD cy a) (S := SD) (S' := SD1) (As := []) (rest := []) hC hw hl.1 lm_RL_89 li_RX6 lk_yX6_forget li_yX6_forget ll_yX6_forget 4 (cD_0 cy a SD) rfl 0 rfl hd_X6_forget ⟨Nat.le_of_ble_eq_true rfl, Nat.le_of_ble_eq_true rfl⟩ (Nat.le_of_ble_eq_true rfl) ⟨Nat.le_of_ble_eq_true rfl, Nat.le_of_ble_eq_true rfl⟩ dL_law_657 (k_X6_forget l D cy a FU  SD _ _ h1) (fun H locs hw => ?_)
      refine lv_aload_n hx hb dL_law_660 rfl (lv_at hl 1 rfl) ?_
      refine clRI (w := wM cy a2) (S := SM) (S' := SM1) (As := []) (rest := [.int r]) hC hw hl.1 lm_RL_92 li_RX7 lk_yX7_forget li_yX7_forget ll_yX7_forget 5 (cM_0 cy a2 SM) rfl 0 rfl hd_X7_forget ⟨Nat.le_of_ble_eq_true rfl, Nat.le_of_ble_eq_true rfl⟩ (Nat.le_of_ble_eq_true rfl) ⟨Nat.le_of_ble_eq_true rfl, Nat.le_of_ble_eq_true rfl⟩ dL_law_661 (k_X7_forget l D cy a2 FU  SM _ _ h2) (fun H locs hw => ?_)
      refine lv_icmp_eq (tgt := 811) hx hb dL_law_664 (by decide) (fun _ => ?_) (fun c_9 => absurd rfl c_9)
      exact hnext SD1 SM1 H locs ls hR1 hw hl
    by_cases k_19 : op = 19
    · refine lv_tableIn (off := 637) (tgt := 669) hx hb dL_law_32 (by rw [k_19]; decide) (by rw [k_19]; decide) (by rw [k_19]; rfl) (by decide) ?_
      obtain ⟨r, SM1, h1, h2, hR1⟩ := op_fits hR
      refine lv_aload_n hx hb dL_law_669 rfl (lv_at hl 2 rfl) ?_
      refine clLI (w := wD cy a) (S := SD) (S' := SD) (As := []) (rest := []) hC hw hl.1 lm_RL_93 li_RX6 lk_yX6_fits li_yX6_fits ll_yX6_fits 4 (cD_0 cy a SD) rfl 0 rfl hd_X6_fits ⟨Nat.le_of_ble_eq_true rfl, Nat.le_of_ble_eq_true rfl⟩ (Nat.le_of_ble_eq_true rfl) ⟨Nat.le_of_ble_eq_true rfl, Nat.le_of_ble_eq_true rfl⟩ dL_law_670 (k_X6_fits l D cy a FU  SD _ h1) (fun H locs hw => ?_)
      refine lv_aload_n hx hb dL_law_673 rfl (lv_at hl 1 rfl) ?_
      refine clRI (w := wM cy a2) (S := SM) (S' := SM1) (As := []) (rest := [.int r]) hC hw hl.1 lm_RL_96 li_RX7 lk_yX7_fits li_yX7_fits ll_yX7_fits 5 (cM_0 cy a2 SM) rfl 0 rfl hd_X7_fits ⟨Nat.le_of_ble_eq_true rfl, Nat.le_of_ble_eq_true rfl⟩ (Nat.le_of_ble_eq_true rfl) ⟨Nat.le_of_ble_eq_true rfl, Nat.le_of_ble_eq_true rfl⟩ dL_law_674 (k_X7_fits l D cy a2 FU  SM _ _ h2) (fun H locs hw => ?_)
      refine lv_icmp_eq (tgt := 811) hx hb dL_law_677 (by decide) (fun _ => ?_) (fun c_9 => absurd rfl c_9)
      exact hnext SD SM1 H locs ls hR1 hw hl
    by_cases k_20 : op = 20
    · refine lv_tableIn (off := 650) (tgt := 682) hx hb dL_law_32 (by rw [k_20]; decide) (by rw [k_20]; decide) (by rw [k_20]; rfl) (by decide) ?_
      obtain ⟨r, SM1, h1, h2, hR1⟩ := op_burnt hR (xs (x3 + 1).toNatClampNeg)
      refine lv_aload_n hx hb dL_law_682 rfl (lv_at hl 2 rfl) ?_
      refine lv_aload_n hx hb dL_law_683 rfl (lv_at hl 3 rfl) ?_
      refine lv_iload_n hx hb dL_law_684 rfl (lv_at hl 0 rfl) ?_
      refine lv_iconst (v := 1) hx hb dL_law_685 (by decide) ?_
      refine lv_iadd hx hb dL_law_686 ?_
      refine va_sld hx hb hX hbl hbA hw.2.2.1 hi1 dL_law_687 ?_
      refine clLI (w := wD cy a) (S := SD) (S' := SD) (As := [.int (xs (x3 + 1).toNatClampNeg)]) (rest := []) hC hw hl.1 lm_RL_97 li_RX6 lk_yX6_burnt li_yX6_burnt ll_yX6_burnt 4 (cD_0 cy a SD) rfl 1 rfl hd_X6_burnt ⟨Nat.le_of_ble_eq_true rfl, Nat.le_of_ble_eq_true rfl⟩ (Nat.le_of_ble_eq_true rfl) ⟨Nat.le_of_ble_eq_true rfl, Nat.le_of_ble_eq_true rfl⟩ dL_law_688 (k_X6_burnt l D cy a FU (xs (x3 + 1).toNatClampNeg) SD _ h1) (fun H locs hw => ?_)
      refine lv_aload_n hx hb dL_law_691 rfl (lv_at hl 1 rfl) ?_
      refine lv_aload_n hx hb dL_law_692 rfl (lv_at hl 3 rfl) ?_
      refine lv_iload_n hx hb dL_law_693 rfl (lv_at hl 0 rfl) ?_
      refine lv_iconst (v := 1) hx hb dL_law_694 (by decide) ?_
      refine lv_iadd hx hb dL_law_695 ?_
      refine va_sld hx hb hX hbl hbA hw.2.2.1 hi1 dL_law_696 ?_
      refine clRI (w := wM cy a2) (S := SM) (S' := SM1) (As := [.int (xs (x3 + 1).toNatClampNeg)]) (rest := [.int r]) hC hw hl.1 lm_RL_100 li_RX7 lk_yX7_burnt li_yX7_burnt ll_yX7_burnt 5 (cM_0 cy a2 SM) rfl 1 rfl hd_X7_burnt ⟨Nat.le_of_ble_eq_true rfl, Nat.le_of_ble_eq_true rfl⟩ (Nat.le_of_ble_eq_true rfl) ⟨Nat.le_of_ble_eq_true rfl, Nat.le_of_ble_eq_true rfl⟩ dL_law_697 (k_X7_burnt l D cy a2 FU (xs (x3 + 1).toNatClampNeg) SM _ _ h2) (fun H locs hw => ?_)
      refine lv_icmp_eq (tgt := 811) hx hb dL_law_700 (by decide) (fun _ => ?_) (fun c_9 => absurd rfl c_9)
      exact hnext SD SM1 H locs ls hR1 hw hl
    by_cases k_21 : op = 21
    · refine lv_tableIn (off := 673) (tgt := 705) hx hb dL_law_32 (by rw [k_21]; decide) (by rw [k_21]; decide) (by rw [k_21]; rfl) (by decide) ?_
      obtain ⟨r, SM1, h1, h2, hR1⟩ := op_years hR (xs (x3 + 1).toNatClampNeg) (xs (x3 + 2).toNatClampNeg) (xs (x3 + 3).toNatClampNeg)
      refine lv_aload_n hx hb dL_law_705 rfl (lv_at hl 2 rfl) ?_
      refine lv_aload_n hx hb dL_law_706 rfl (lv_at hl 3 rfl) ?_
      refine lv_iload_n hx hb dL_law_707 rfl (lv_at hl 0 rfl) ?_
      refine lv_iconst (v := 1) hx hb dL_law_708 (by decide) ?_
      refine lv_iadd hx hb dL_law_709 ?_
      refine va_sld hx hb hX hbl hbA hw.2.2.1 hi1 dL_law_710 ?_
      refine lv_aload_n hx hb dL_law_711 rfl (lv_at hl 3 rfl) ?_
      refine lv_iload_n hx hb dL_law_712 rfl (lv_at hl 0 rfl) ?_
      refine lv_iconst (v := 2) hx hb dL_law_713 (by decide) ?_
      refine lv_iadd hx hb dL_law_714 ?_
      refine va_sld hx hb hX hbl hbA hw.2.2.1 hi2 dL_law_715 ?_
      refine lv_aload_n hx hb dL_law_716 rfl (lv_at hl 3 rfl) ?_
      refine lv_iload_n hx hb dL_law_717 rfl (lv_at hl 0 rfl) ?_
      refine lv_iconst (v := 3) hx hb dL_law_718 (by decide) ?_
      refine lv_iadd hx hb dL_law_719 ?_
      refine va_sld hx hb hX hbl hbA hw.2.2.1 hi3 dL_law_720 ?_
      refine clLI (w := wD cy a) (S := SD) (S' := SD) (As := [.int (xs (x3 + 1).toNatClampNeg), .int (xs (x3 + 2).toNatClampNeg), .int (xs (x3 + 3).toNatClampNeg)]) (rest := []) hC hw hl.1 lm_RL_101 li_RX6 lk_yX6_years li_yX6_years ll_yX6_years 4 (cD_0 cy a SD) rfl 3 rfl hd_X6_years ⟨Nat.le_of_ble_eq_true rfl, Nat.le_of_ble_eq_true rfl⟩ (Nat.le_of_ble_eq_true rfl) ⟨Nat.le_of_ble_eq_true rfl, Nat.le_of_ble_eq_true rfl⟩ dL_law_721 (k_X6_years l D cy a FU (xs (x3 + 1).toNatClampNeg) (xs (x3 + 2).toNatClampNeg) (xs (x3 + 3).toNatClampNeg) SD _ h1) (fun H locs hw => ?_)
      refine lv_aload_n hx hb dL_law_724 rfl (lv_at hl 1 rfl) ?_
      refine lv_aload_n hx hb dL_law_725 rfl (lv_at hl 3 rfl) ?_
      refine lv_iload_n hx hb dL_law_726 rfl (lv_at hl 0 rfl) ?_
      refine lv_iconst (v := 1) hx hb dL_law_727 (by decide) ?_
      refine lv_iadd hx hb dL_law_728 ?_
      refine va_sld hx hb hX hbl hbA hw.2.2.1 hi1 dL_law_729 ?_
      refine lv_aload_n hx hb dL_law_730 rfl (lv_at hl 3 rfl) ?_
      refine lv_iload_n hx hb dL_law_731 rfl (lv_at hl 0 rfl) ?_
      refine lv_iconst (v := 2) hx hb dL_law_732 (by decide) ?_
      refine lv_iadd hx hb dL_law_733 ?_
      refine va_sld hx hb hX hbl hbA hw.2.2.1 hi2 dL_law_734 ?_
      refine lv_aload_n hx hb dL_law_735 rfl (lv_at hl 3 rfl) ?_
      refine lv_iload_n hx hb dL_law_736 rfl (lv_at hl 0 rfl) ?_
      refine lv_iconst (v := 3) hx hb dL_law_737 (by decide) ?_
      refine lv_iadd hx hb dL_law_738 ?_
      refine va_sld hx hb hX hbl hbA hw.2.2.1 hi3 dL_law_739 ?_
      refine clRI (w := wM cy a2) (S := SM) (S' := SM1) (As := [.int (xs (x3 + 1).toNatClampNeg), .int (xs (x3 + 2).toNatClampNeg), .int (xs (x3 + 3).toNatClampNeg)]) (rest := [.int r]) hC hw hl.1 lm_RL_104 li_RX7 lk_yX7_years li_yX7_years ll_yX7_years 5 (cM_0 cy a2 SM) rfl 3 rfl hd_X7_years ⟨Nat.le_of_ble_eq_true rfl, Nat.le_of_ble_eq_true rfl⟩ (Nat.le_of_ble_eq_true rfl) ⟨Nat.le_of_ble_eq_true rfl, Nat.le_of_ble_eq_true rfl⟩ dL_law_740 (k_X7_years l D cy a2 FU (xs (x3 + 1).toNatClampNeg) (xs (x3 + 2).toNatClampNeg) (xs (x3 + 3).toNatClampNeg) SM _ _ h2) (fun H locs hw => ?_)
      refine lv_icmp_eq (tgt := 811) hx hb dL_law_743 (by decide) (fun _ => ?_) (fun c_9 => absurd rfl c_9)
      exact hnext SD SM1 H locs ls hR1 hw hl
    by_cases k_22 : op = 22
    · refine lv_tableIn (off := 716) (tgt := 748) hx hb dL_law_32 (by rw [k_22]; decide) (by rw [k_22]; decide) (by rw [k_22]; rfl) (by decide) ?_
      obtain ⟨r, SD1, SM1, h1, h2, hR1⟩ := op_image hR
      refine lv_aload_n hx hb dL_law_748 rfl (lv_at hl 2 rfl) ?_
      refine clLI (w := wD cy a) (S := SD) (S' := SD1) (As := []) (rest := []) hC hw hl.1 lm_RL_105 li_RX6 lk_yX6_image li_yX6_image ll_yX6_image 4 (cD_0 cy a SD) rfl 0 rfl hd_X6_image ⟨Nat.le_of_ble_eq_true rfl, Nat.le_of_ble_eq_true rfl⟩ (Nat.le_of_ble_eq_true rfl) ⟨Nat.le_of_ble_eq_true rfl, Nat.le_of_ble_eq_true rfl⟩ dL_law_749 (k_X6_image l D cy a FU  SD _ _ h1) (fun H locs hw => ?_)
      refine lv_aload_n hx hb dL_law_752 rfl (lv_at hl 1 rfl) ?_
      refine clRI (w := wM cy a2) (S := SM) (S' := SM1) (As := []) (rest := [.int r]) hC hw hl.1 lm_RL_108 li_RX7 lk_yX7_image li_yX7_image ll_yX7_image 5 (cM_0 cy a2 SM) rfl 0 rfl hd_X7_image ⟨Nat.le_of_ble_eq_true rfl, Nat.le_of_ble_eq_true rfl⟩ (Nat.le_of_ble_eq_true rfl) ⟨Nat.le_of_ble_eq_true rfl, Nat.le_of_ble_eq_true rfl⟩ dL_law_753 (k_X7_image l D cy a2 FU  SM _ _ h2) (fun H locs hw => ?_)
      refine lv_icmp_eq (tgt := 811) hx hb dL_law_756 (by decide) (fun _ => ?_) (fun c_9 => absurd rfl c_9)
      exact hnext SD1 SM1 H locs ls hR1 hw hl
    by_cases k_23 : op = 23
    · refine lv_tableIn (off := 729) (tgt := 761) hx hb dL_law_32 (by rw [k_23]; decide) (by rw [k_23]; decide) (by rw [k_23]; rfl) (by decide) ?_
      obtain ⟨r, SD1, SM1, h1, h2, hR1⟩ := op_restore (by omega) hR
      refine lv_aload_n hx hb dL_law_761 rfl (lv_at hl 2 rfl) ?_
      refine clLI (w := wD cy a) (S := SD) (S' := SD1) (As := []) (rest := []) hC hw hl.1 lm_RL_109 li_RX6 lk_yX6_restore li_yX6_restore ll_yX6_restore 4 (cD_0 cy a SD) rfl 0 rfl hd_X6_restore ⟨Nat.le_of_ble_eq_true rfl, Nat.le_of_ble_eq_true rfl⟩ (Nat.le_of_ble_eq_true rfl) ⟨Nat.le_of_ble_eq_true rfl, Nat.le_of_ble_eq_true rfl⟩ dL_law_762 (k_X6_restore l D cy a FU  SD _ _ h1) (fun H locs hw => ?_)
      refine lv_aload_n hx hb dL_law_765 rfl (lv_at hl 1 rfl) ?_
      refine clRI (w := wM cy a2) (S := SM) (S' := SM1) (As := []) (rest := [.int r]) hC hw hl.1 lm_RL_112 li_RX7 lk_yX7_restore li_yX7_restore ll_yX7_restore 5 (cM_0 cy a2 SM) rfl 0 rfl hd_X7_restore ⟨Nat.le_of_ble_eq_true rfl, Nat.le_of_ble_eq_true rfl⟩ (Nat.le_of_ble_eq_true rfl) ⟨Nat.le_of_ble_eq_true rfl, Nat.le_of_ble_eq_true rfl⟩ dL_law_766 (k_X7_restore l D cy a2 FU  SM _ _ h2) (fun H locs hw => ?_)
      refine lv_icmp_eq (tgt := 811) hx hb dL_law_769 (by decide) (fun _ => ?_) (fun c_9 => absurd rfl c_9)
      exact hnext SD1 SM1 H locs ls hR1 hw hl
    by_cases k_24 : op = 24
    · refine lv_tableIn (off := 742) (tgt := 774) hx hb dL_law_32 (by rw [k_24]; decide) (by rw [k_24]; decide) (by rw [k_24]; rfl) (by decide) ?_
      obtain ⟨r, h1, h2, hR1⟩ := op_count hR (xs (x3 + 1).toNatClampNeg)
      refine lv_aload_n hx hb dL_law_774 rfl (lv_at hl 2 rfl) ?_
      refine lv_aload_n hx hb dL_law_775 rfl (lv_at hl 3 rfl) ?_
      refine lv_iload_n hx hb dL_law_776 rfl (lv_at hl 0 rfl) ?_
      refine lv_iconst (v := 1) hx hb dL_law_777 (by decide) ?_
      refine lv_iadd hx hb dL_law_778 ?_
      refine va_sld hx hb hX hbl hbA hw.2.2.1 hi1 dL_law_779 ?_
      refine clLI (w := wD cy a) (S := SD) (S' := SD) (As := [.int (xs (x3 + 1).toNatClampNeg)]) (rest := []) hC hw hl.1 lm_RL_113 li_RX6 lk_yX6_count li_yX6_count ll_yX6_count 4 (cD_0 cy a SD) rfl 1 rfl hd_X6_count ⟨Nat.le_of_ble_eq_true rfl, Nat.le_of_ble_eq_true rfl⟩ (Nat.le_of_ble_eq_true rfl) ⟨Nat.le_of_ble_eq_true rfl, Nat.le_of_ble_eq_true rfl⟩ dL_law_780 (k_X6_count l D cy a FU (xs (x3 + 1).toNatClampNeg) SD _ h1) (fun H locs hw => ?_)
      refine lv_aload_n hx hb dL_law_783 rfl (lv_at hl 1 rfl) ?_
      refine lv_aload_n hx hb dL_law_784 rfl (lv_at hl 3 rfl) ?_
      refine lv_iload_n hx hb dL_law_785 rfl (lv_at hl 0 rfl) ?_
      refine lv_iconst (v := 1) hx hb dL_law_786 (by decide) ?_
      refine lv_iadd hx hb dL_law_787 ?_
      refine va_sld hx hb hX hbl hbA hw.2.2.1 hi1 dL_law_788 ?_
      refine clRI (w := wM cy a2) (S := SM) (S' := SM) (As := [.int (xs (x3 + 1).toNatClampNeg)]) (rest := [.int r]) hC hw hl.1 lm_RL_116 li_RX7 lk_yX7_count li_yX7_count ll_yX7_count 5 (cM_0 cy a2 SM) rfl 1 rfl hd_X7_count ⟨Nat.le_of_ble_eq_true rfl, Nat.le_of_ble_eq_true rfl⟩ (Nat.le_of_ble_eq_true rfl) ⟨Nat.le_of_ble_eq_true rfl, Nat.le_of_ble_eq_true rfl⟩ dL_law_789 (k_X7_count l D cy a2 FU (xs (x3 + 1).toNatClampNeg) SM _ h2) (fun H locs hw => ?_)
      refine lv_icmp_eq (tgt := 811) hx hb dL_law_792 (by decide) (fun _ => ?_) (fun c_9 => absurd rfl c_9)
      exact hnext SD SM H locs ls hR1 hw hl
    by_cases k_25 : op = 25
    · refine lv_tableIn (off := 765) (tgt := 797) hx hb dL_law_32 (by rw [k_25]; decide) (by rw [k_25]; decide) (by rw [k_25]; rfl) (by decide) ?_
      obtain ⟨r, SM1, h1, h2, hR1⟩ := op_digest hR
      refine lv_aload_n hx hb dL_law_797 rfl (lv_at hl 2 rfl) ?_
      refine clLL (w := wD cy a) (S := SD) (S' := SD) (As := []) (rest := []) hC hw hl.1 lm_RL_117 li_RX6 lk_yX6_digest li_yX6_digest ll_yX6_digest 4 (cD_0 cy a SD) rfl 0 rfl hd_X6_digest ⟨Nat.le_of_ble_eq_true rfl, Nat.le_of_ble_eq_true rfl⟩ (Nat.le_of_ble_eq_true rfl) ⟨Nat.le_of_ble_eq_true rfl, Nat.le_of_ble_eq_true rfl⟩ dL_law_798 (k_X6_digest l D cy a FU  SD _ h1) (fun H locs hw => ?_)
      refine lv_aload_n hx hb dL_law_801 rfl (lv_at hl 1 rfl) ?_
      refine clRL (w := wM cy a2) (S := SM) (S' := SM1) (As := []) (rest := [.long r]) hC hw hl.1 lm_RL_121 li_RX7 lk_yX7_digest li_yX7_digest ll_yX7_digest 5 (cM_0 cy a2 SM) rfl 0 rfl hd_X7_digest ⟨Nat.le_of_ble_eq_true rfl, Nat.le_of_ble_eq_true rfl⟩ (Nat.le_of_ble_eq_true rfl) ⟨Nat.le_of_ble_eq_true rfl, Nat.le_of_ble_eq_true rfl⟩ dL_law_802 (k_X7_digest l D cy a2 FU  SM _ _ h2) (fun H locs hw => ?_)
      refine W.lcmp hx hb dL_law_805 ?_
      refine lv_if_eq (tgt := 811) hx hb dL_law_806 (by decide) (fun _ => ?_) (fun c_9 => absurd (lg_self r) c_9)
      exact hnext SD SM1 H locs ls hR1 hw hl
    refine lv_tableOut (tgt := 811) hx hb dL_law_32 (tsw_out 25 (by decide) (fun j hj => by match j, hj with | 0, _ => exact k_0 | 1, _ => exact k_1 | 2, _ => exact k_2 | 3, _ => exact k_3 | 4, _ => exact k_4 | 5, _ => exact k_5 | 6, _ => exact k_6 | 7, _ => exact k_7 | 8, _ => exact k_8 | 9, _ => exact k_9 | 10, _ => exact k_10 | 11, _ => exact k_11 | 12, _ => exact k_12 | 13, _ => exact k_13 | 14, _ => exact k_14 | 15, _ => exact k_15 | 16, _ => exact k_16 | 17, _ => exact k_17 | 18, _ => exact k_18 | 19, _ => exact k_19 | 20, _ => exact k_20 | 21, _ => exact k_21 | 22, _ => exact k_22 | 23, _ => exact k_23 | 24, _ => exact k_24 | 25, _ => exact k_25 | n + 26, hj => omega)) (by decide) ?_
    exact hnext SD SM H locs ls hR.up hw hl
