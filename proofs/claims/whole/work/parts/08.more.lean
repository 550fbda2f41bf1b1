theorem cD_0 (cy : ClassId) (a : Nat → Nat) (S : ST) : (wD cy a S)[0]? = some (a 0, .inr (4, [.ref (a 1), .ref (a 3), .ref (a 5), .ref (a 9), .ref (a 13), .int (stI S 0), .int (stI S 1), .int (stI S 2), .int (stI S 3)])) := rfl
theorem cD_1 (cy : ClassId) (a : Nat → Nat) (S : ST) : (wD cy a S)[1]? = some (a 1, .inr (3, [.ref (a 2), .int (stI S 4)])) := rfl
theorem cD_2 (cy : ClassId) (a : Nat → Nat) (S : ST) : (wD cy a S)[2]? = some (a 2, .inl (cy, 10, .inl (stR S 0))) := rfl
theorem cD_3 (cy : ClassId) (a : Nat → Nat) (S : ST) : (wD cy a S)[3]? = some (a 3, .inr (2, [.ref (a 4), .int (stI S 5)])) := rfl
theorem cD_4 (cy : ClassId) (a : Nat → Nat) (S : ST) : (wD cy a S)[4]? = some (a 4, .inl (cy, 6, .inl (stR S 1))) := rfl
theorem cD_5 (cy : ClassId) (a : Nat → Nat) (S : ST) : (wD cy a S)[5]? = some (a 5, .inr (0, [.ref (a 3), .ref (a 6), .ref (a 7), .ref (a 8), .int (stI S 6), .long (stL S 0), .int (stI S 7), .int (stI S 8)])) := rfl
theorem cD_6 (cy : ClassId) (a : Nat → Nat) (S : ST) : (wD cy a S)[6]? = some (a 6, .inl (cy, 5, .inl (stR S 2))) := rfl
theorem cD_7 (cy : ClassId) (a : Nat → Nat) (S : ST) : (wD cy a S)[7]? = some (a 7, .inl (cy, 5, .inl (stR S 3))) := rfl
theorem cD_8 (cy : ClassId) (a : Nat → Nat) (S : ST) : (wD cy a S)[8]? = some (a 8, .inl (cy, 5, .inl (stR S 4))) := rfl
theorem cD_9 (cy : ClassId) (a : Nat → Nat) (S : ST) : (wD cy a S)[9]? = some (a 9, .inr (0, [.ref (a 3), .ref (a 10), .ref (a 11), .ref (a 12), .int (stI S 9), .long (stL S 1), .int (stI S 10), .int (stI S 11)])) := rfl
theorem cD_10 (cy : ClassId) (a : Nat → Nat) (S : ST) : (wD cy a S)[10]? = some (a 10, .inl (cy, 5, .inl (stR S 5))) := rfl
theorem cD_11 (cy : ClassId) (a : Nat → Nat) (S : ST) : (wD cy a S)[11]? = some (a 11, .inl (cy, 5, .inl (stR S 6))) := rfl
theorem cD_12 (cy : ClassId) (a : Nat → Nat) (S : ST) : (wD cy a S)[12]? = some (a 12, .inl (cy, 5, .inl (stR S 7))) := rfl
theorem cD_13 (cy : ClassId) (a : Nat → Nat) (S : ST) : (wD cy a S)[13]? = some (a 13, .inr (1, [.ref (a 3), .ref (a 5)])) := rfl
theorem cM_0 (cy : ClassId) (a : Nat → Nat) (S : ST) : (wM cy a S)[0]? = some (a 0, .inr (5, [.ref (a 1), .int (stI S 0), .int (stI S 1), .int (stI S 2), .int (stI S 3), .ref (a 2), .int (stI S 4), .ref (a 3), .ref (a 4), .ref (a 5), .ref (a 6), .ref (a 7), .ref (a 8), .int (stI S 5), .int (stI S 6), .ref (a 9), .int (stI S 7), .ref (a 10), .ref (a 11), .int (stI S 8), .int (stI S 9), .int (stI S 10), .int (stI S 11), .int (stI S 12), .ref (a 12), .ref (a 13), .ref (a 14), .ref (a 15), .long (stL S 0)])) := rfl
theorem cM_1 (cy : ClassId) (a : Nat → Nat) (S : ST) : (wM cy a S)[1]? = some (a 1, .inl (cy, 10, .inl (stR S 0))) := rfl
theorem cM_2 (cy : ClassId) (a : Nat → Nat) (S : ST) : (wM cy a S)[2]? = some (a 2, .inl (cy, 6, .inl (stR S 1))) := rfl
theorem cM_3 (cy : ClassId) (a : Nat → Nat) (S : ST) : (wM cy a S)[3]? = some (a 3, .inl (cy, 10, .inl (stR S 2))) := rfl
theorem cM_4 (cy : ClassId) (a : Nat → Nat) (S : ST) : (wM cy a S)[4]? = some (a 4, .inl (cy, 5, .inl (stR S 3))) := rfl
theorem cM_5 (cy : ClassId) (a : Nat → Nat) (S : ST) : (wM cy a S)[5]? = some (a 5, .inl (cy, 5, .inl (stR S 4))) := rfl
theorem cM_6 (cy : ClassId) (a : Nat → Nat) (S : ST) : (wM cy a S)[6]? = some (a 6, .inl (cy, 5, .inl (stR S 5))) := rfl
theorem cM_7 (cy : ClassId) (a : Nat → Nat) (S : ST) : (wM cy a S)[7]? = some (a 7, .inl (cy, 5, .inl (stR S 6))) := rfl
theorem cM_8 (cy : ClassId) (a : Nat → Nat) (S : ST) : (wM cy a S)[8]? = some (a 8, .inl (cy, 5, .inl (stR S 7))) := rfl
theorem cM_9 (cy : ClassId) (a : Nat → Nat) (S : ST) : (wM cy a S)[9]? = some (a 9, .inl (cy, 4, .inl (stR S 8))) := rfl
theorem cM_10 (cy : ClassId) (a : Nat → Nat) (S : ST) : (wM cy a S)[10]? = some (a 10, .inl (cy, 5, .inl (stR S 9))) := rfl
theorem cM_11 (cy : ClassId) (a : Nat → Nat) (S : ST) : (wM cy a S)[11]? = some (a 11, .inl (cy, 5, .inl (stR S 10))) := rfl
theorem cM_12 (cy : ClassId) (a : Nat → Nat) (S : ST) : (wM cy a S)[12]? = some (a 12, .inl (cy, 10, .inl (stR S 11))) := rfl
theorem cM_13 (cy : ClassId) (a : Nat → Nat) (S : ST) : (wM cy a S)[13]? = some (a 13, .inl (cy, 5, .inl (stR S 12))) := rfl
theorem cM_14 (cy : ClassId) (a : Nat → Nat) (S : ST) : (wM cy a S)[14]? = some (a 14, .inl (cy, 5, .inl (stR S 13))) := rfl
theorem cM_15 (cy : ClassId) (a : Nat → Nat) (S : ST) : (wM cy a S)[15]? = some (a 15, .inl (cy, 5, .inl (stR S 14))) := rfl
theorem lm_RX0_39 : Cond.methodLink RX0 39 arraycopyName ∈ tbG := tg_at 521 (by decide +kernel) rfl
theorem ls_arraycopy : Cond.static arraycopyName ∈ tbG := tg_at 522 (by decide +kernel) rfl
theorem ln_arraycopy : Cond.native arraycopyName ∈ tbG := tg_at 523 (by decide +kernel) rfl
theorem lk_mmax : Cond.code Lib.Math.max.name Lib.Math.max.code 2 (some .int) ∈ tbG := tg_at 434 (by decide +kernel) rfl
theorem nmw {β : Type} {P : ST → Prop} {a : ST} {f : ST → Option β} {o : β} (hw : P a) (h : nm a f = some o) : ∃ x, P x ∧ f x = some o := ⟨a, hw, h⟩
def cpA (S : ST) (i j : Nat) : ST := puR S j (va_cpy (stR S i) (stR S j) 0 0 5)
theorem tsw_out {x : Int32} (k : Nat) (hk : k < 2 ^ 31 - 1) (h : ∀ j, j ≤ k → ¬ x = nI j) : x.toInt < 0 ∨ (k : Int) < x.toInt := by
  rcases Int.lt_or_le x.toInt 0 with h0 | h0
  · exact Or.inl h0
  · refine Or.inr (Int.not_le.mp fun h1 => ?_)
    refine h x.toInt.toNat (by omega) ?_
    apply Int32.toInt_inj.mp
    rw [nI_toInt (by omega)]
    omega
section BX
variable {p : Program} {l : Launch} {e : Env} {R : Room} {s : State} {m : MethodId} {args : Array Value} {below : List Frame} {meth : Method} {c : Code} {H0 H : Heap} {locs : List Loc} {Q : State → Prop}
variable {own : String} {cc : ByteArray} {nL : Nat} {D : va_G} {cy : ClassId} {w : ST → va_W} {A : Nat → Prop} {S : ST} {pc : Nat} {ls : Array Slot} {rest : List Value}
set_option maxHeartbeats 1000000 in
theorem acp {a0 a1 j0 j1 index n : Nat} (hC : Cx p s m c own cc nL args D cy) (hw : InW D w A H0 H locs S) (hls : ls.size = nL) (hlk : Cond.methodLink own index arraycopyName ∈ tbG) (q0 q1 : Nat) (ha0 : (w S)[q0]? = some (a0, .inl (cy, 5, .inl (stR S j0)))) (ha1 : (w S)[q1]? = some (a1, .inl (cy, 5, .inl (stR S j1)))) (hset : ∀ f, (w S).set q1 (a1, .inl (cy, 5, .inl f)) = w (puR S j1 f)) (hn : 1 ≤ n) (hrest : (rest.map fun v => v.category).sum ≤ 8) (d : decode cc pc = .ok (.invokestatic index, 3)) {cells slots : Nat}
    (kk : ∀ (H1 : Heap) (locs1 : List Loc), InW D w A H0 H1 locs1 (cpA S j0 j1) → W p l e (rmN n) s m args below meth c H1 locs1 cells slots Q (F0 m (pc + 3) ls rest)) : W p l e (rmN n) s m args below meth c H locs cells slots Q (F0 m pc ls (.int 5 :: .int 0 :: .ref a1 :: .int 0 :: .ref a0 :: rest)) := by
  refine va_copyi hC.1 hC.2.1 (hC.2.2.1.trans hls.symm) hC.2.2.2.1 (hC.2.2.2.2.1 _ hlk) (hC.2.2.2.2.1 _ ln_arraycopy) (hC.2.2.2.2.1 _ ls_arraycopy) (hC.2.2.2.2.1 _ li_RJ10) hC.2.2.2.2.2.1 hw.1 hw.2.1 hw.2.2.1 q0 q1 0 0 ha0 ha1 rfl rfl rfl (by decide) (by decide) (by decide) (by decide) (by decide) (fun _ _ => rfl) (by simp only [rmN]; omega) (by simp only [rmN, nativeFrameWords]; simp; omega) d (fun H1 locs1 h1 h2 h3 => kk H1 locs1 ⟨?_, ?_, h3, hw.2.2.2⟩)
  · rw [hset] at h1; exact h1
  · rw [hset] at h2; exact h2
theorem mmx {index n : Nat} {x y : Int32} (hC : Cx p s m c own cc nL args D cy) (hls : ls.size = nL) (hlk : Cond.methodLink own index Lib.Math.max.name ∈ tbG) (hst : Cond.static Lib.Math.max.name ∈ tbG) (hn : 1 ≤ n) (hrest : (rest.map fun v => v.category).sum ≤ 8) (d : decode cc pc = .ok (.invokestatic index, 3))
    (kk : W p l e (rmN n) s m args below meth c H locs 0 0 Q (F0 m (pc + 3) ls (.int (if x < y then y else x) :: rest))) : W p l e (rmN n) s m args below meth c H locs 0 0 Q (F0 m pc ls (.int y :: .int x :: rest)) :=
  va_mmax hC.1 hC.2.1 (hC.2.2.1.trans hls.symm) hC.2.2.2.1 (hC.2.2.2.2.1 _ hlk) (hC.2.2.2.2.1 _ hst) (hC.2.2.2.2.1 _ li_RJ9) (hC.2.2.2.2.1 _ lk_mmax) (by simp only [rmN]; omega) (by simp only [rmN]; omega) (Nat.le_refl _) (Nat.le_refl _) d kk
end BX
