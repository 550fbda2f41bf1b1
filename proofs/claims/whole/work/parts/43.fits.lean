/-! what fits: the reference tries every row -/
section FITS
variable {SD SM : ST} {n : Nat} {kd : Nat → Nat} {tg : Nat → Int32} {rm : Nat} {lt : Nat → Nat}
def fpB (n : Nat) (kd : Nat → Nat) (tg : Nat → Int32) (rm : Nat) (ok : Nat → Nat → (Nat → Nat) → Bool) (i : Nat) (c : Nat → Nat) (code : Nat) : Nat → Bool
  | 0 => true
  | k + 1 => fpB n kd tg rm ok i c code k && ok (i + k) (dg code k) (rn n kd tg rm c code (k + 1))
theorem fpB_front {ok : Nat → Nat → (Nat → Nat) → Bool} {i : Nat} {c : Nat → Nat} {code : Nat} : ∀ k, fpB n kd tg rm ok i c code (k + 1) = (ok i (code % 6) (passC n kd tg rm c (code % 6)) && fpB n kd tg rm ok (i + 1) (passC n kd tg rm c (code % 6)) (code / 6) k)
  | 0 => by
    show (true && ok (i + 0) (dg code 0) (rn n kd tg rm c code (0 + 1))) = (_ && true)
    rw [rn_front, dg_0, Bool.true_and, Bool.and_true, Nat.add_zero]; rfl
  | k + 1 => by
    show (fpB n kd tg rm ok i c code (k + 1) && ok (i + (k + 1)) (dg code (k + 1)) (rn n kd tg rm c code (k + 1 + 1))) = (_ && (fpB n kd tg rm ok (i + 1) (passC n kd tg rm c (code % 6)) (code / 6) k && ok (i + 1 + k) (dg (code / 6) k) (rn n kd tg rm (passC n kd tg rm c (code % 6)) (code / 6) (k + 1))))
    rw [fpB_front k, rn_front, dg_s, Bool.and_assoc, show i + (k + 1) = i + 1 + k by omega]
theorem fpB_mono {ok : Nat → Nat → (Nat → Nat) → Bool} {i : Nat} {c : Nat → Nat} {code k : Nat} (h : fpB n kd tg rm ok i c code k = false) : ∀ m, k ≤ m → fpB n kd tg rm ok i c code m = false
  | 0, hm => by rw [show k = 0 by omega] at h; exact h
  | m + 1, hm => by
    by_cases e : k = m + 1
    · rw [← e]; exact h
    · show (fpB n kd tg rm ok i c code m && _) = false
      rw [fpB_mono h m (by omega), Bool.false_and]
theorem fpB_cnt {ok : Nat → Nat → (Nat → Nat) → Bool} : ∀ (j i : Nat) (c : Nat → Nat), sumN (fun code => if fpB n kd tg rm ok i c code j = true then 1 else 0) (6 ^ j) = gR n kd tg rm ok i j c
  | 0, i, c => rfl
  | j + 1, i, c => by
    rw [show 6 ^ (j + 1) = 6 * 6 ^ j by rw [Nat.pow_succ, Nat.mul_comm], sum_six, sum_swap]
    show _ = sumN _ 6
    refine sumN_congr 6 (fun l hl => ?_)
    have e1 : ∀ q, (6 * q + l) % 6 = l := fun q => by omega
    have e2 : ∀ q, (6 * q + l) / 6 = q := fun q => by omega
    by_cases h : ok i l (passC n kd tg rm c l) = true
    · rw [if_pos h, ← fpB_cnt j (i + 1) (passC n kd tg rm c l)]
      refine sumN_congr _ (fun q _ => ?_)
      rw [fpB_front, e1, e2, h, Bool.true_and]
    · rw [if_neg h]
      refine sumN_zero _ (fun q _ => ?_)
      rw [fpB_front, e1, e2, if_neg]
      intro z
      rw [Bool.and_eq_true] at z
      exact h z.1
def okA (lt : Nat → Nat) (T : Nat → Int32) (i l : Nat) (c : Nat → Nat) : Bool := !decide (lt l = 0) && asTb T i c
def okY (lt : Nat → Nat) (T : Nat → Int32) (y l0 : Nat) (i l : Nat) (c : Nat → Nat) : Bool := if i = y then (decide (l = l0) && asTb T i c) else (!decide (lt l = 0) && asTb T i c)
theorem okY_iff {T : Nat → Int32} {y l0 : Nat} (hl : lt l0 ≠ 0) {c : Nat → Nat} {code : Nat} : ∀ k, fpB n kd tg rm (okY lt T y l0) 0 c code k = true ↔ (fpB n kd tg rm (okA lt T) 0 c code k = true ∧ (y < k → dg code y = l0))
  | 0 => ⟨fun _ => ⟨rfl, fun h => by omega⟩, fun _ => rfl⟩
  | k + 1 => by
    have ih := okY_iff (T := T) (y := y) hl (c := c) (code := code) k
    show (_ && okY lt T y l0 (0 + k) (dg code k) _) = true ↔ ((_ && okA lt T (0 + k) (dg code k) _) = true ∧ _)
    rw [Bool.and_eq_true, Bool.and_eq_true, ih, Nat.zero_add]
    unfold okY okA
    by_cases e : k = y
    · rw [if_pos e, Bool.and_eq_true, Bool.and_eq_true, decide_eq_true_iff]
      constructor
      · rintro ⟨⟨a, b⟩, d, f⟩
        refine ⟨⟨a, ?_, f⟩, fun _ => by rw [← e]; exact d⟩
        rw [d, decide_eq_false hl]; rfl
      · rintro ⟨⟨a, b, f⟩, d⟩
        exact ⟨⟨a, fun h => by omega⟩, by rw [e]; exact d (by omega), f⟩
    · rw [if_neg e]
      constructor
      · rintro ⟨⟨a, b⟩, d⟩
        exact ⟨⟨a, d⟩, fun h => b (by omega)⟩
      · rintro ⟨⟨a, d⟩, b⟩
        exact ⟨⟨a, fun h => b (by omega)⟩, d⟩
theorem sum_pos {p : Nat → Bool} : ∀ N, sumN (fun i => if p i = true then 1 else 0) N ≠ 0 ↔ ∃ i, i < N ∧ p i = true
  | 0 => ⟨fun h => absurd rfl h, fun ⟨i, h, _⟩ => by omega⟩
  | N + 1 => by
    have ih := sum_pos (p := p) N
    rw [sumN]
    by_cases h : p N = true
    · rw [if_pos h]
      exact ⟨fun _ => ⟨N, by omega, h⟩, fun _ => by omega⟩
    · rw [if_neg h, Nat.add_zero, ih]
      constructor
      · rintro ⟨i, a, b⟩; exact ⟨i, by omega, b⟩
      · rintro ⟨i, a, b⟩
        refine ⟨i, ?_, b⟩
        rcases Nat.lt_or_ge i N with q | q
        · exact q
        · rw [show i = N by omega] at b; exact absurd b h
theorem livM_n {c : Nat → Nat} (hc : OKc n c) : ∀ k, livM c (n + k) = livM c n
  | 0 => rfl
  | k + 1 => by
    show (if c (n + k) % 64 = 0 then livM c (n + k) else _) = _
    rw [hc.2 (n + k) (by omega), if_pos rfl, livM_n hc k]
theorem r_livesNow {S : ST} {c : Nat → Nat} (hA : AM S n kd tg rm lt) (hn : n ≤ 5) (hc : OKc n c) (hN : Nw S 5 6 n c) : m_X7_livesNow FU S = some (nI (livM c 5)) := by
  rw [show livM c 5 = livM c n by have := livM_n hc (5 - n); rw [show n + (5 - n) = 5 by omega] at this; exact this]
  unfold m_X7_livesNow
  refine lq2_run (fun o => o = _) n (fun i x y => x = nI (livM c i) ∧ y = nI i) ?_ ?_ FU 0 _ _ (by omega) (by have := FU_v; omega) ⟨rfl, rfl⟩
  · rintro i x y again hi ⟨rfl, rfl⟩
    right
    unfold m_X7_livesNow_L4
    rw [hA.1, if_neg (nI_ge hi (by omega)), inB_nI (show i < 5 by omega) (by decide), gd_true]
    simp only [jn1]
    rw [rd_nI (show i < 2 ^ 31 by omega), hN.1 i hi]
    by_cases h : c i % 64 = 0
    · rw [if_pos (show nI (c i % 64) = (0 : Int32) by rw [h]; rfl), nm_eqv, nm_eqv]
      refine ⟨_, _, ⟨?_, nI_add i 1⟩, rfl⟩
      rw [livM, if_pos h]
      exact (nx_or _ 0).trans (by rw [Nat.or_zero])
    · rw [if_neg (show ¬ nI (c i % 64) = (0 : Int32) from nI_ne (b := 0) (by omega) (by decide) h), nm_eqv, nm_eqv]
      refine ⟨_, _, ⟨?_, nI_add i 1⟩, rfl⟩
      rw [livM, if_neg h]
      exact or_bit (livM_lt c i) (by omega)
  · rintro x y again ⟨rfl, rfl⟩
    unfold m_X7_livesNow_L4
    rw [hA.1, if_pos (nI_le (Nat.le_refl n) (by omega))]
theorem r_isTold (hA : AM SM n kd tg rm lt) (hW : WF0 n kd tg rm lt) {c : Nat → Nat} (hc : OKc n c) (hN : Nw SM 3 4 n c) {T : Nat → Int32} {am : Nat} (ham : am ≤ 5) (hS : stI SM 7 = nI am) (hT : ∀ i, i < am → stR SM 9 i = T i) {code : Nat} (hcd : code < 6 ^ am) : ∃ S', m_X7_isToldBy FU (nI code) SM = some (if fpB n kd tg rm (okA lt T) 0 c code am = true then 1 else 0, S') ∧ Ex [5, 6, 7] SM S' := by
  have hn := hW.1
  have h6 := six_le ham
  unfold m_X7_isToldBy
  obtain ⟨S1, e1, x1, a5, a6⟩ := r_asItIs (SM := SM) FU_100
  rw [e1, bd_some]
  have hN1 : Nw S1 5 6 n c := ⟨fun g hg => by rw [a5 g (by omega), hN.1 g hg], fun g hg => by rw [a6 g (by omega), hN.2 g hg]⟩
  refine lq4_run (fun o => ∃ S', o = some (if fpB n kd tg rm (okA lt T) 0 c code am = true then 1 else 0, S') ∧ Ex [5, 6, 7] SM S') am (fun k a b d S => a = nI (code / 6 ^ k) ∧ d = nI k ∧ Ex [5, 6, 7] SM S ∧ ((b = 1 ∧ fpB n kd tg rm (okA lt T) 0 c code k = true ∧ Nw S 5 6 n (rn n kd tg rm c code k)) ∨ (b = 0 ∧ fpB n kd tg rm (okA lt T) 0 c code am = false))) ?_ ?_ FU 0 _ _ _ _ (by omega) (by have := FU_v; omega) ⟨by simp, rfl, x1.mono (by decide), Or.inl ⟨rfl, rfl, hN1⟩⟩
  · rintro k a b d S again hk ⟨rfl, rfl, hx, hcase⟩
    have hik : code / 6 ^ k < 2 ^ 31 := Nat.lt_of_le_of_lt (Nat.div_le_self _ _) (by omega)
    have hAS := hA.ex hx (by decide) (by decide)
    unfold m_X7_isToldBy_L11
    rw [hx.1 7, hS, if_neg (nI_ge hk (by omega))]
    rcases hcase with ⟨rfl, hf, hNk⟩ | ⟨rfl, hf⟩
    · right
      obtain ⟨S2, e2, x2, n2⟩ := r_pass hAS hW (rn_ok hW hc k) hNk (dg_lt code k) FU_100
      have hx2 := hx.tr x2
      have hl := dg_lt code k
      rw [if_neg one0, nm_eqv, nm_eqv, mod6 hik, div6 hik, show code / 6 ^ k % 6 = dg code k from rfl, Nat.div_div_eq_div_mul, ← Nat.pow_succ, e2, bd2_some, inB_nI hl (by decide), gd_true]
      simp only [jn0, jn1, nm]
      rw [rd_nI (show dg code k < 2 ^ 31 by omega), hx2.2.2 1 (by decide), hA.2.2.2.2 _ hl, inB_nI (show k < 5 by omega) (by decide), gd_true, gd_true, rd_nI (show k < 2 ^ 31 by omega), hx2.2.2 9 (by decide), hT k hk, show nI k + (1 : Int32) = nI (k + 1) from nI_add k 1]
      have hAS2 := hA.ex hx2 (by decide) (by decide)
      have n2' : Nw S2 5 6 n (rn n kd tg rm c code (k + 1)) := n2
      rw [r_livesNow hAS2 hn (rn_ok hW hc (k + 1)) n2', bd_some]
      have hlt9 := hW.2.2.2.2 _ hl
      have hfs : fpB n kd tg rm (okA lt T) 0 c code (k + 1) = okA lt T k (dg code k) (rn n kd tg rm c code (k + 1)) := by
        show (fpB n kd tg rm (okA lt T) 0 c code k && okA lt T (0 + k) _ _) = _
        rw [hf, Bool.true_and, Nat.zero_add]
      have hno : okA lt T k (dg code k) (rn n kd tg rm c code (k + 1)) = false → fpB n kd tg rm (okA lt T) 0 c code am = false := fun z => fpB_mono (hfs.trans z) am (by omega)
      by_cases hz : lt (dg code k) = 0
      · rw [if_pos (show nI (lt (dg code k)) ≤ (0 : Int32) from nI_le (b := 0) (by omega) (by decide))]
        exact ⟨_, _, _, _, ⟨rfl, rfl, hx2, Or.inr ⟨rfl, hno (by unfold okA; rw [decide_eq_true hz]; rfl)⟩⟩, rfl⟩
      rw [if_neg (show ¬ nI (lt (dg code k)) ≤ (0 : Int32) from nI_ge (a := 0) (by omega) (by omega))]
      have hokA : okA lt T k (dg code k) (rn n kd tg rm c code (k + 1)) = asTb T k (rn n kd tg rm c code (k + 1)) := by
        unfold okA
        rw [decide_eq_false hz]; rfl
      by_cases h1 : T k = -1
      · rw [if_pos h1]
        exact ⟨_, _, _, _, ⟨rfl, rfl, hx2, Or.inl ⟨rfl, by rw [hfs, hokA, asTb, decide_eq_true h1]; rfl, n2'⟩⟩, rfl⟩
      · rw [if_neg h1]
        by_cases h2 : T k = nI (livM (rn n kd tg rm c code (k + 1)) 5)
        · rw [if_pos h2]
          exact ⟨_, _, _, _, ⟨rfl, rfl, hx2, Or.inl ⟨rfl, by rw [hfs, hokA, asTb, decide_eq_true h2, Bool.or_true], n2'⟩⟩, rfl⟩
        · rw [if_neg h2]
          exact ⟨_, _, _, _, ⟨rfl, rfl, hx2, Or.inr ⟨rfl, hno (by rw [hokA, asTb, decide_eq_false h1, decide_eq_false h2]; rfl)⟩⟩, rfl⟩
    · left
      rw [if_pos rfl, hf]
      exact ⟨S, rfl, hx⟩
  · rintro a b d S again ⟨rfl, rfl, hx, hcase⟩
    unfold m_X7_isToldBy_L11
    rw [hx.1 7, hS, if_pos (nI_le (Nat.le_refl am) (by omega))]
    rcases hcase with ⟨rfl, hf, -⟩ | ⟨rfl, hf⟩
    · rw [hf]; exact ⟨S, rfl, hx⟩
    · rw [hf]; exact ⟨S, rfl, hx⟩
def mkM (fit : Nat → Bool) (k : Nat) : Nat → Nat
  | 0 => 0
  | i + 1 => if fit i = true then mkM fit k i ||| 2 ^ dg i k else mkM fit k i
theorem mkM_lt {fit : Nat → Bool} {k : Nat} : ∀ i, mkM fit k i < 64
  | 0 => show 0 < 64 by decide
  | i + 1 => by
    have ih := mkM_lt (fit := fit) (k := k) i
    rw [mkM]
    split
    · exact Nat.or_lt_two_pow (n := 6) ih (Nat.pow_lt_pow_right (by decide) (dg_lt i k))
    · exact ih
theorem or_bits : ∀ a, a < 64 → ∀ d, d < 6 → ∀ l, l < 6 → (bitL (a ||| 2 ^ d) l ≠ 0 ↔ (bitL a l ≠ 0 ∨ d = l)) := by decide +kernel
theorem mkM_bit {fit : Nat → Bool} {k l : Nat} (hl : l < 6) : ∀ i, bitL (mkM fit k i) l ≠ 0 ↔ ∃ code, code < i ∧ (fit code = true ∧ dg code k = l)
  | 0 => ⟨fun h => absurd (by unfold bitL mkM; simp) h, fun ⟨q, h, _⟩ => by omega⟩
  | i + 1 => by
    have ih := mkM_bit (fit := fit) (k := k) hl i
    rw [mkM]
    by_cases h : fit i = true
    · rw [if_pos h, or_bits _ (mkM_lt i) _ (dg_lt i k) l hl, ih]
      constructor
      · rintro (⟨q, a, b⟩ | e)
        · exact ⟨q, by omega, b⟩
        · exact ⟨i, by omega, h, e⟩
      · rintro ⟨q, a, b⟩
        rcases Nat.lt_or_ge q i with z | z
        · exact Or.inl ⟨q, z, b⟩
        · rw [show q = i by omega] at b
          exact Or.inr b.2
    · rw [if_neg h, ih]
      constructor
      · rintro ⟨q, a, b⟩; exact ⟨q, by omega, b⟩
      · rintro ⟨q, a, b⟩
        refine ⟨q, ?_, b⟩
        rcases Nat.lt_or_ge q i with z | z
        · exact z
        · rw [show q = i by omega] at b; exact absurd b.1 h
end FITS
