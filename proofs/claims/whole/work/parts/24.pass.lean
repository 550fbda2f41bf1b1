section PASS
variable {SM : ST} {n : Nat} {kd : Nat → Nat} {tg : Nat → Int32} {rm : Nat} {lt : Nat → Nat} {c : Nat → Nat} {fu : Nat}
theorem orb : ∀ x, x < 192 → ∀ l, l < 6 → bitL x l = 0 → nI (x % 64) ||| nI (2 ^ l) = nI ((x + 2 ^ l) % 64) ∧ (x + 2 ^ l) / 64 = x / 64 := by decide +kernel
theorem wr_at {S : ST} {j i : Nat} {v : Int32} (h : i < 2 ^ 31) : (∀ g, stR (wrA S j (nI i) v) j g = if g = i then v else stR S j g) ∧ (∀ k, k ≠ j → stR (wrA S j (nI i) v) k = stR S k) ∧ (∀ k, stI (wrA S j (nI i) v) k = stI S k) ∧ ∀ k, stL (wrA S j (nI i) v) k = stL S k := by
  rw [wr_nI h]
  refine ⟨fun g => ?_, fun k hk => ?_, fun _ => rfl, fun _ => rfl⟩
  · rw [stR_puR, if_pos rfl]; rfl
  · rw [stR_puR, if_neg hk]
theorem wr_ex {S : ST} {j i : Nat} {v : Int32} (h : i < 2 ^ 31) {xs : List Nat} (hj : j ∈ xs) : Ex xs S (wrA S j (nI i) v) := by
  rw [wr_nI h]; exact Ex.wr hj
theorem r_spread (hA : AM SM n kd tg rm lt) (hW : WF0 n kd tg rm lt) (hc : OKc n c) (hN : Nw SM 5 6 n c) {f : Nat} (hf : f < n) (hfu : 100 ≤ fu) : ∃ SM', m_X7_spread fu (nI f) SM = some SM' ∧ Ex [5] SM SM' ∧ Nw SM' 5 6 n (growAt rm c f 6) := by
  have hn := hW.1
  have hr := hW.2.1
  have e5 : inB (nI f) 5 = true := inB_nI (by omega) (by decide)
  have r5 : rdA SM 5 (nI f) = nI (c f % 64) := by rw [rd_nI (by omega), hN.1 f hf]
  unfold m_X7_spread
  simp only [jn1, e5, gd_true, nm]
  refine lq1_run (fun o => ∃ SM', o = some SM' ∧ Ex [5] SM SM' ∧ Nw SM' 5 6 n (growAt rm c f 6)) 6 (fun i x => x = nI i ∧ growAt rm c f 6 = growAt rm c f (6 - i)) ?_ ?_ fu 0 _ (by omega) (by omega) ⟨rfl, rfl⟩
  · rintro i x again hi ⟨rfl, hg⟩
    have hsh : (nI (c f % 64) >>> (nI i &&& (31 : Int32))) &&& (1 : Int32) = nI (bitL (c f) i) := shr1 (hc.1 f) hi
    have hon : (1 : Int32) <<< (nI i &&& (31 : Int32)) = nI (2 ^ i) := (nextb i hi).2.1
    have c0 : (nI (bitL (c f) i) = (0 : Int32)) ↔ bitL (c f) i = 0 := nI_eq (b := 0) (by have := bitL_01 (c f) i; omega) (by decide)
    have hs : growAt rm c f (6 - i) = if bitL (c f) i = 0 ∧ full c i < rm then upc c f (c f + 2 ^ i) else growAt rm c f (6 - (i + 1)) := by
      rw [show 6 - i = (6 - (i + 1)) + 1 by omega]
      show (if bitL (c f) (5 - (6 - (i + 1))) = 0 ∧ full c (5 - (6 - (i + 1))) < rm then upc c f (c f + 2 ^ (5 - (6 - (i + 1)))) else growAt rm c f (6 - (i + 1))) = _
      rw [show 5 - (6 - (i + 1)) = i by omega]
    unfold m_X7_spread_L2
    rw [L6, if_neg (nI_ge hi (by omega)), e5]
    simp only [gd_true, jn0, nm, r5, hsh, c0, r_fullness_6 hA hW hc hN hi hfu, bd_some, hA.2.1]
    by_cases hb : bitL (c f) i = 0
    · rw [if_pos hb]
      have hfl := full_le c i
      by_cases h2 : full c i < rm
      · left
        rw [if_neg (nI_ge h2 (by omega)), hon]
        refine ⟨_, rfl, wr_ex (by omega) (by decide), ?_⟩
        rw [hg, hs, if_pos ⟨hb, h2⟩]
        have ho := orb _ (hc.1 f) i hi hb
        refine ⟨fun g hgn => ?_, fun g hgn => ?_⟩
        · rw [(wr_at (by omega)).1 g]
          by_cases e : g = f
          · rw [if_pos e, e, upc_s, ho.1]
          · rw [if_neg e, upc_n e, hN.1 g hgn]
        · rw [(wr_at (by omega)).2.1 6 (by decide), hN.2 g hgn]
          by_cases e : g = f
          · rw [e, upc_s, ho.2]
          · rw [upc_n e]
      · right
        rw [if_pos (nI_le (by omega) (by omega))]
        exact ⟨_, ⟨nI_add i 1, by rw [hg, hs, if_neg (fun h => h2 h.2)]⟩, rfl⟩
    · right
      rw [if_neg hb]
      exact ⟨_, ⟨nI_add i 1, by rw [hg, hs, if_neg (fun h => hb h.1)]⟩, rfl⟩
  · rintro x again ⟨rfl, hg⟩
    unfold m_X7_spread_L2
    rw [L6, if_pos (nI_le (Nat.le_refl 6) (by omega)), hg]
    exact ⟨SM, rfl, Ex.rf, hN⟩
theorem r_asItIs (hfu : 100 ≤ fu) : ∃ SM', m_X7_asItIs fu SM = some SM' ∧ Ex [5, 6] SM SM' ∧ (∀ f, f < 5 → stR SM' 5 f = stR SM 3 f) ∧ ∀ f, f < 5 → stR SM' 6 f = stR SM 4 f := by
  unfold m_X7_asItIs
  refine lq2_run (fun o => ∃ SM', o = some SM' ∧ Ex [5, 6] SM SM' ∧ (∀ f, f < 5 → stR SM' 5 f = stR SM 3 f) ∧ ∀ f, f < 5 → stR SM' 6 f = stR SM 4 f) 5 (fun i x S => x = nI i ∧ Ex [5, 6] SM S ∧ (∀ f, f < i → stR S 5 f = stR SM 3 f) ∧ ∀ f, f < i → stR S 6 f = stR SM 4 f) ?_ ?_ fu 0 _ _ (by omega) (by omega) ⟨rfl, Ex.rf, fun f h => by omega, fun f h => by omega⟩
  · rintro i x S again hi ⟨rfl, hx, h5, h6⟩
    right
    unfold m_X7_asItIs_L2
    rw [L5, if_neg (nI_ge hi (by omega)), inB_nI hi (by decide)]
    simp only [gd_true, nm]
    have hlt : i < 2 ^ 31 := by omega
    refine ⟨_, _, ⟨nI_add i 1, hx.tr ((wr_ex hlt (by decide)).tr (wr_ex hlt (by decide))), ?_, ?_⟩, rfl⟩
    · intro f hf
      rw [(wr_at hlt).2.1 5 (by decide), (wr_at hlt).1 f, rd_nI hlt]
      by_cases e : f = i
      · rw [if_pos e, e, hx.2.2 3 (by decide)]
      · rw [if_neg e, h5 f (by omega)]
    · intro f hf
      rw [(wr_at hlt).1 f, rd_nI hlt, (wr_at hlt).2.1 6 (by decide), (wr_at hlt).2.1 4 (by decide)]
      by_cases e : f = i
      · rw [if_pos e, e, hx.2.2 4 (by decide)]
      · rw [if_neg e, h6 f (by omega)]
  · rintro x S again ⟨rfl, hx, h5, h6⟩
    unfold m_X7_asItIs_L2
    rw [L5, if_pos (nI_le (Nat.le_refl 5) (by omega))]
    exact ⟨S, rfl, hx, h5, h6⟩
def cntB (n : Nat) (kd : Nat → Nat) (tg : Nat → Int32) (c : Nat → Nat) (l : Nat) : Nat := sumN (fun f => pop (burM (kd f) (ptd tg c f n) (c f) l)) n
theorem r_pass (hA : AM SM n kd tg rm lt) (hW : WF0 n kd tg rm lt) (hc : OKc n c) (hN : Nw SM 5 6 n c) {l : Nat} (hl : l < 6) (hfu : 100 ≤ fu) : ∃ SM', m_X7_pass fu (nI l) SM = some (nI (cntB n kd tg c l), SM') ∧ Ex [5, 6, 7] SM SM' ∧ Nw SM' 5 6 n (passC n kd tg rm c l) := by
  have hn := hW.1
  obtain ⟨Gd, eGd⟩ : ∃ Gd : Option (Int32 × ST) → Prop, Gd = fun o => ∃ SM', o = some (nI (cntB n kd tg c l), SM') ∧ Ex [5, 6, 7] SM SM' ∧ Nw SM' 5 6 n (passC n kd tg rm c l) := ⟨_, rfl⟩
  show (fun o => ∃ SM', o = some (nI (cntB n kd tg c l), SM') ∧ Ex [5, 6, 7] SM SM' ∧ Nw SM' 5 6 n (passC n kd tg rm c l)) (m_X7_pass fu (nI l) SM)
  rw [← eGd]
  have hB := burnC_ok hW hc hl
  -- third: the rumours
  have h3 : ∀ S, Ex [5, 6, 7] SM S → Nw S 5 6 n (burnC n kd tg c l) → Gd (lq2 (m_X7_pass_L86 fu (nI (cntB n kd tg c l))) fu (0 : Int32) S) := by
    intro S hx hS
    refine lq2_run Gd n (fun i x S => x = nI i ∧ Ex [5, 6, 7] SM S ∧ Nw S 5 6 n (grA kd rm (burnC n kd tg c l) i)) ?_ ?_ fu 0 _ _ (Nat.zero_le n) (by omega) ⟨rfl, hx, hS⟩
    · rintro i x S again hi ⟨rfl, hx, hS⟩
      right
      have hAS := hA.ex hx (by decide) (by decide)
      have hk := hW.2.2.1 i hi
      have hg : OKc n (grA kd rm (burnC n kd tg c l) i) := grA_ok hB i (by omega)
      have e2f : (2 : Int32) * nI i = nI (2 * i) := pk_mul 2 i
      have c1 : (nI (kd i) = (1 : Int32)) ↔ kd i = 1 := nI_eq (b := 1) (by omega) (by decide)
      have c0 : (nI (grA kd rm (burnC n kd tg c l) i i % 64) = (0 : Int32)) ↔ grA kd rm (burnC n kd tg c l) i i % 64 = 0 := nI_eq (b := 0) (by omega) (by decide)
      unfold m_X7_pass_L86
      rw [hAS.1, if_neg (nI_ge hi (by omega)), e2f, inB_nI (show 2 * i < 10 by omega) (by decide), inB_nI (show i < 5 by omega) (by decide)]
      simp only [gd_true, jn1, nm]
      rw [rd_nI (show 2 * i < 2 ^ 31 by omega), hAS.2.2.1 i hi, rd_nI (show i < 2 ^ 31 by omega), hS.1 i hi]
      simp only [c1, c0]
      by_cases h1 : kd i = 1
      · rw [if_pos h1]
        by_cases h2 : grA kd rm (burnC n kd tg c l) i i % 64 = 0
        · rw [if_pos h2]
          exact ⟨_, _, ⟨nI_add i 1, hx, by rw [grA, if_neg (fun h => h.2 h2)]; exact hS⟩, rfl⟩
        · rw [if_neg h2]
          obtain ⟨S2, e2, x2, n2⟩ := r_spread hAS hW hg hS hi hfu
          rw [e2, bd_some]
          exact ⟨_, _, ⟨nI_add i 1, hx.tr (x2.mono (by decide)), by rw [grA, if_pos ⟨h1, h2⟩]; exact n2⟩, rfl⟩
      · rw [if_neg h1]
        exact ⟨_, _, ⟨nI_add i 1, hx, by rw [grA, if_neg (fun h => h1 h.1)]; exact hS⟩, rfl⟩
    · rintro x S again ⟨rfl, hx, hS⟩
      have hAS := hA.ex hx (by decide) (by decide)
      unfold m_X7_pass_L86
      rw [hAS.1, if_pos (nI_le (Nat.le_refl n) (by omega)), eGd]
      exact ⟨S, rfl, hx, hS⟩
  -- second: the fire
  have h2 : ∀ S, Ex [5, 6, 7] SM S → Nw S 5 6 n c → (∀ f, f < n → stR S 7 f = nI (c f % 64)) → Gd (lq3 (m_X7_pass_L41 fu (nI l) (fun x2 S => lq2 (m_X7_pass_L86 fu x2) fu (0 : Int32) S)) fu (0 : Int32) (0 : Int32) S) := by
    intro S hx hS h7
    refine lq3_run Gd n (fun i x y S => x = nI (sumN (fun f => pop (burM (kd f) (ptd tg c f n) (c f) l)) i) ∧ y = nI i ∧ Ex [5, 6, 7] SM S ∧ Nw S 5 6 n (fun g => if g < i then burnC n kd tg c l g else c g) ∧ ∀ f, f < n → stR S 7 f = nI (c f % 64)) ?_ ?_ fu 0 _ _ _ (Nat.zero_le n) (by omega) ⟨rfl, rfl, hx, by simpa using hS, h7⟩
    · rintro i x y S again hi ⟨rfl, rfl, hx, hS, h7⟩
      right
      have hAS := hA.ex hx (by decide) (by decide)
      have hlt : i < 2 ^ 31 := by omega
      have hci : ¬ i < i := Nat.lt_irrefl i
      have k6 : stR S 6 i = nI (c i / 64) := by rw [hS.2 i hi]; show nI ((if i < i then _ else c i) / 64) = _; rw [if_neg hci]
      have k5 : stR S 5 i = nI (c i % 64) := by rw [hS.1 i hi]; show nI ((if i < i then _ else c i) % 64) = _; rw [if_neg hci]
      obtain ⟨S2, e2, x2, q6, q6'⟩ := r_burnsOf hAS hW hc h7 hi k6 hl hfu
      have hfa := burM_fact (kd i) (hW.2.2.1 i hi) l hl (c i) (hc.1 i) (ptd tg c i n)
      have hbi : burnC n kd tg c l i = burnB (kd i) (ptd tg c i n) (c i) l := if_pos hi
      unfold m_X7_pass_L41
      rw [hAS.1, if_neg (nI_ge hi (by omega)), e2, bd2_some, inB_nI (show i < 5 by omega) (by decide)]
      simp only [gd_true, nm]
      rw [rd_nI hlt, x2.2.2 5 (by decide), k5, andnot _ (by omega) _ hfa.1, hfa.2.1, r_ones hfa.1 hfu, bd_some, nI_add]
      refine ⟨_, _, _, ⟨rfl, nI_add i 1, hx.tr ((x2.mono (by decide)).tr (wr_ex hlt (by decide))), ⟨fun g hg => ?_, fun g hg => ?_⟩, fun g hg => ?_⟩, rfl⟩
      · rw [(wr_at hlt).1 g, x2.2.2 5 (by decide)]
        show _ = nI ((if g < i + 1 then burnC n kd tg c l g else c g) % 64)
        by_cases e : g = i
        · rw [if_pos e, e, if_pos (by omega), hbi]
        · rw [if_neg e, hS.1 g hg]
          show nI ((if g < i then burnC n kd tg c l g else c g) % 64) = _
          by_cases e2 : g < i
          · rw [if_pos e2, if_pos (by omega)]
          · rw [if_neg e2, if_neg (by omega)]
      · rw [(wr_at hlt).2.1 6 (by decide)]
        show _ = nI ((if g < i + 1 then burnC n kd tg c l g else c g) / 64)
        by_cases e : g = i
        · rw [e, if_pos (by omega), hbi, q6]
        · rw [q6' g e, hS.2 g hg]
          show nI ((if g < i then burnC n kd tg c l g else c g) / 64) = _
          by_cases e2 : g < i
          · rw [if_pos e2, if_pos (by omega)]
          · rw [if_neg e2, if_neg (by omega)]
      · rw [(wr_at hlt).2.1 7 (by decide), x2.2.2 7 (by decide), h7 g hg]
    · rintro x y S again ⟨rfl, rfl, hx, hS, h7⟩
      have hAS := hA.ex hx (by decide) (by decide)
      unfold m_X7_pass_L41
      rw [hAS.1, if_pos (nI_le (Nat.le_refl n) (by omega))]
      refine h3 S hx ⟨fun g hg => ?_, fun g hg => ?_⟩
      · rw [hS.1 g hg]; show nI ((if g < n then _ else c g) % 64) = _; rw [if_pos hg]
      · rw [hS.2 g hg]; show nI ((if g < n then _ else c g) / 64) = _; rw [if_pos hg]
  -- first: what was ahead
  unfold m_X7_pass
  simp only [jn1, jn2]
  refine lq2_run Gd 5 (fun i x S => x = nI i ∧ Ex [5, 6, 7] SM S ∧ Nw S 5 6 n c ∧ ∀ f, f < i → f < n → stR S 7 f = nI (c f % 64)) ?_ ?_ fu 0 _ _ (by omega) (by omega) ⟨rfl, Ex.rf, hN, fun f h => by omega⟩
  · rintro i x S again hi ⟨rfl, hx, hS, h7⟩
    right
    have hAS := hA.ex hx (by decide) (by decide)
    have hlt : i < 2 ^ 31 := by omega
    have hnw : ∀ v, Nw (wrA S 7 (nI i) v) 5 6 n c := fun v => hS.ex (xs := [7]) (wr_ex hlt (by decide)) (by decide) (by decide)
    unfold m_X7_pass_L2
    rw [L5, if_neg (nI_ge hi (by omega)), inB_nI hi (by decide), hAS.1]
    simp only [gd_true, jn1, nm]
    by_cases h : i < n
    · rw [if_neg (nI_ge h (by omega))]
      refine ⟨_, _, ⟨nI_add i 1, hx.tr (wr_ex hlt (by decide)), hnw _, fun f hf hfn => ?_⟩, rfl⟩
      rw [(wr_at hlt).1 f]
      by_cases e : f = i
      · rw [if_pos e, rd_nI hlt, e, hS.1 i h]
      · rw [if_neg e, h7 f (by omega) hfn]
    · rw [if_pos (nI_le (by omega) (by omega))]
      refine ⟨_, _, ⟨nI_add i 1, hx.tr (wr_ex hlt (by decide)), hnw _, fun f hf hfn => ?_⟩, rfl⟩
      rw [(wr_at hlt).1 f, if_neg (by omega), h7 f (by omega) hfn]
  · rintro x S again ⟨rfl, hx, hS, h7⟩
    unfold m_X7_pass_L2
    rw [L5, if_pos (nI_le (Nat.le_refl 5) (by omega))]
    exact h2 S hx hS (fun f hf => h7 f (by omega) hf)
theorem cnt_all (hW : WF0 n kd tg rm lt) (hc : OKc n c) {l : Nat} (hl : l < 6) : allL c = allL (burnC n kd tg c l) + cntB n kd tg c l := by
  have hn := hW.1
  have hB := burnC_ok hW hc hl
  rw [← allN hn hc, ← allN hn hB, cntB]
  have key : ∀ k, k ≤ n → sumN (fun f => pop (c f % 64)) k = sumN (fun f => pop (burnC n kd tg c l f % 64)) k + sumN (fun f => pop (burM (kd f) (ptd tg c f n) (c f) l)) k := by
    intro k
    induction k with
    | zero => intro _; rfl
    | succ k ih =>
      intro hk
      have := ih (by omega)
      have hfa := (burM_fact (kd k) (hW.2.2.1 k (by omega)) l hl (c k) (hc.1 k) (ptd tg c k n)).2.2.2
      have hbi : burnC n kd tg c l k = burnB (kd k) (ptd tg c k n) (c k) l := if_pos (by omega)
      simp only [sumN, hbi]
      omega
  exact key n (Nat.le_refl n)
end PASS
