/-! the archive in plain numbers: n files, their kinds kd, targets tg, the room rm, the lots lt; c: a byte a file (leaves, and 64 times how often kept) -/
def AD (SD : ST) (n : Nat) (kd : Nat → Nat) (tg : Nat → Int32) (rm : Nat) (lt : Nat → Nat) : Prop :=
  stI SD 6 = nI n ∧ stI SD 5 = nI rm ∧ (∀ f, f < n → stR SD 2 f = nI (kd f)) ∧ (∀ f, f < n → stR SD 3 f = tg f) ∧ ∀ l, l < 6 → stR SD 1 l = nI (lt l)
def WF0 (n : Nat) (kd : Nat → Nat) (tg : Nat → Int32) (rm : Nat) (lt : Nat → Nat) : Prop :=
  n ≤ 5 ∧ rm ≤ 9 ∧ (∀ f, f < n → kd f ≤ 4) ∧ (∀ f, f < n → tg f = -1 ∨ ∃ g, g < n ∧ tg f = nI g) ∧ ∀ l, l < 6 → lt l ≤ 10
def OKc (n : Nat) (c : Nat → Nat) : Prop := (∀ f, c f < 192) ∧ ∀ f, n ≤ f → c f = 0
theorem OKc.lt {n : Nat} {c : Nat → Nat} (h : OKc n c) : ∀ f, f < 5 → c f < 256 := fun f _ => by have := h.1 f; omega
def ptd (tg : Nat → Int32) (c : Nat → Nat) (f : Nat) : Nat → Bool
  | 0 => false
  | k + 1 => ptd tg c f k || (decide (tg k = nI f) && decide (¬ c k % 64 = 0))
def lostB (kd l : Nat) : Nat := if kd = 4 then (if l = 5 then 2 ^ l ||| 1 else 2 ^ l ||| 2 ^ l * 2) else 2 ^ l
def mostK (kd : Nat) : Nat := if kd = 2 then 2 else 1
def burnB (kd : Nat) (pt : Bool) (x l : Nat) : Nat := if bitL x l = 0 then x else if pop (x % 64) = 1 ∧ x / 64 < mostK kd ∧ pt = true then x + 64 else x &&& (255 ^^^ lostB kd l)
def burnC (n : Nat) (kd : Nat → Nat) (tg : Nat → Int32) (c : Nat → Nat) (l : Nat) : Nat → Nat := fun f => if f < n then burnB (kd f) (ptd tg c f n) (c f) l else c f
def growAt (rm : Nat) (c : Nat → Nat) (f : Nat) : Nat → (Nat → Nat)
  | 0 => c
  | d + 1 => if bitL (c f) (5 - d) = 0 ∧ full c (5 - d) < rm then upc c f (c f + 2 ^ (5 - d)) else growAt rm c f d
def grA (kd : Nat → Nat) (rm : Nat) (c : Nat → Nat) : Nat → (Nat → Nat)
  | 0 => c
  | k + 1 => if kd k = 1 ∧ ¬ grA kd rm c k k % 64 = 0 then growAt rm (grA kd rm c k) k 6 else grA kd rm c k
def passC (n : Nat) (kd : Nat → Nat) (tg : Nat → Int32) (rm : Nat) (c : Nat → Nat) (l : Nat) : Nat → Nat := grA kd rm (burnC n kd tg c l) n
theorem full_le (c : Nat → Nat) (l : Nat) : full c l ≤ 5 := by unfold full bitL; omega
theorem pop_le : ∀ x, pop x ≤ 6 := fun x => by unfold pop; omega
theorem burnB_lt : ∀ kd, kd ≤ 4 → ∀ l, l < 6 → ∀ x, x < 192 → ∀ pt, burnB kd pt x l < 192 ∧ lostB kd l < 256 := by decide +kernel
theorem tog0 : ∀ x, x < 192 → ∀ l, l < 6 → bitL x l = 0 → tog x l = x + 2 ^ l ∧ x + 2 ^ l < 192 ∧ (x + 2 ^ l) % 64 ≠ 0 ∧ (x + 2 ^ l) % 64 = x % 64 + 2 ^ l ∧ (x + 2 ^ l) / 64 = x / 64 := by decide +kernel
theorem burnC_ok {n : Nat} {kd : Nat → Nat} {tg : Nat → Int32} {rm : Nat} {lt : Nat → Nat} (hW : WF0 n kd tg rm lt) {c : Nat → Nat} (hc : OKc n c) {l : Nat} (hl : l < 6) : OKc n (burnC n kd tg c l) := by
  refine ⟨fun f => ?_, fun f hf => ?_⟩
  · unfold burnC
    by_cases h : f < n
    · rw [if_pos h]; exact (burnB_lt _ (hW.2.2.1 f h) l hl _ (hc.1 f) _).1
    · rw [if_neg h]; exact hc.1 f
  · unfold burnC
    rw [if_neg (by omega)]; exact hc.2 f hf
theorem growAt_ok {n rm : Nat} {c : Nat → Nat} (hc : OKc n c) {f : Nat} (hf : f < n) : ∀ d, d ≤ 6 → OKc n (growAt rm c f d)
  | 0, _ => hc
  | d + 1, h => by
    unfold growAt
    by_cases hb : bitL (c f) (5 - d) = 0 ∧ full c (5 - d) < rm
    · rw [if_pos hb]
      refine ⟨fun g => ?_, fun g hg => ?_⟩
      · by_cases e : g = f
        · rw [e, upc_s]; exact (tog0 _ (hc.1 f) (5 - d) (by omega) hb.1).2.1
        · rw [upc_n e]; exact hc.1 g
      · rw [upc_n (by omega)]; exact hc.2 g hg
    · rw [if_neg hb]; exact growAt_ok hc hf d (by omega)
theorem grA_ok {n rm : Nat} {kd : Nat → Nat} {c : Nat → Nat} (hc : OKc n c) : ∀ k, k ≤ n → OKc n (grA kd rm c k)
  | 0, _ => hc
  | k + 1, h => by
    unfold grA
    by_cases hb : kd k = 1 ∧ ¬ grA kd rm c k k % 64 = 0
    · rw [if_pos hb]; exact growAt_ok (grA_ok hc k (by omega)) (by omega) 6 (by omega)
    · rw [if_neg hb]; exact grA_ok hc k (by omega)
theorem passC_ok {n : Nat} {kd : Nat → Nat} {tg : Nat → Int32} {rm : Nat} {lt : Nat → Nat} (hW : WF0 n kd tg rm lt) {c : Nat → Nat} (hc : OKc n c) {l : Nat} (hl : l < 6) : OKc n (passC n kd tg rm c l) := grA_ok (burnC_ok hW hc hl) n (Nat.le_refl n)
section DEV
variable {SD : ST} {n : Nat} {kd : Nat → Nat} {tg : Nat → Int32} {rm : Nat} {lt : Nat → Nat} {c : Nat → Nat} {fu : Nat}
theorem d_kindOf (hA : AD SD n kd tg rm lt) (hW : WF0 n kd tg rm lt) {f : Nat} (hf : f < n) : m_X0_kindOf fu (nI f) SD = some (nI (kd f)) := by
  have := hW.1
  unfold m_X0_kindOf
  rw [L0, L5, if_neg (nI_nlt (Nat.zero_le f) (by omega)), if_neg (nI_ge (by omega) (by decide)), inB_nI (by omega) (by decide), gd_true, rd_nI (by omega), hA.2.2.1 f hf]
theorem d_targetOf (hA : AD SD n kd tg rm lt) (hW : WF0 n kd tg rm lt) {f : Nat} (hf : f < n) : m_X0_targetOf fu (nI f) SD = some (tg f) := by
  have := hW.1
  unfold m_X0_targetOf
  rw [L0, L5, if_neg (nI_nlt (Nat.zero_le f) (by omega)), if_neg (nI_ge (by omega) (by decide)), inB_nI (by omega) (by decide), gd_true, rd_nI (by omega), hA.2.2.2.1 f hf]
theorem d_tenthsOf (hA : AD SD n kd tg rm lt) {l : Nat} (hl : l < 6) : m_X3_tenthsOf fu (nI l) SD = some (nI (lt l)) := by
  unfold m_X3_tenthsOf
  rw [L0, L6, if_neg (nI_nlt (Nat.zero_le l) (by omega)), if_neg (nI_ge (by omega) (by decide)), inB_nI (by omega) (by decide), gd_true, rd_nI (by omega), hA.2.2.2.2 l hl]
theorem d_mayBurn (hA : AD SD n kd tg rm lt) (hW : WF0 n kd tg rm lt) {l : Nat} (hl : l < 6) : m_X3_mayBurn fu (nI l) SD = some (if lt l = 0 then nI 0 else nI 1) := by
  have h9 := hW.2.2.2.2 l hl
  unfold m_X3_mayBurn
  rw [d_tenthsOf hA hl, bd_some, L0, L1]
  by_cases h : lt l = 0
  · rw [if_pos h, if_pos (nI_le (by omega) (by decide))]
  · rw [if_neg h, if_neg (nI_ge (by omega) (by omega))]
theorem d_isPointedTo (hA : AD SD n kd tg rm lt) (hW : WF0 n kd tg rm lt) (hc : OKc n c) {f : Nat} (hfu : 100 ≤ fu) : m_X0_isPointedTo fu (lN (enc c)) (nI f) SD = some (if ptd tg c f n = true then nI 1 else nI 0) := by
  have hn := hW.1
  unfold m_X0_isPointedTo
  refine lq1_run (fun o => o = _) n (fun i x => x = nI i ∧ ptd tg c f i = false) ?_ ?_ fu 0 _ (Nat.zero_le n) (by omega) ⟨rfl, rfl⟩
  · rintro i x again hi ⟨rfl, hp⟩
    unfold m_X0_isPointedTo_L3
    rw [hA.1, if_neg (nI_ge hi (by omega)), d_targetOf hA hW hi, bd_some]
    simp only [jn0, nm, L0, L1, nI_add]
    by_cases ht : tg i = nI f
    · rw [if_pos ht, s_leavesOf fu hc.lt (by omega), bd_some]
      by_cases h0 : c i % 64 = 0
      · right
        rw [h0, if_pos rfl]
        exact ⟨_, ⟨rfl, by simp [ptd, hp, h0]⟩, rfl⟩
      · left
        rw [if_neg (nI_ne (by omega) (by decide) h0), if_pos]
        have : ptd tg c f (i + 1) = true := by simp [ptd, ht, h0]
        have mono : ∀ d, ptd tg c f (i + 1 + d) = true := by
          intro d
          induction d with
          | zero => exact this
          | succ d ih => show (ptd tg c f (i + 1 + d) || _) = true; rw [ih]; rfl
        have := mono (n - (i + 1))
        rwa [show i + 1 + (n - (i + 1)) = n by omega] at this
    · right
      rw [if_neg ht]
      exact ⟨_, ⟨rfl, by simp [ptd, hp, ht]⟩, rfl⟩
  · rintro x again ⟨rfl, hp⟩
    unfold m_X0_isPointedTo_L3
    rw [hA.1, if_pos (nI_le (Nat.le_refl n) (by omega)), hp, if_neg (by decide)]
    rfl
theorem d_isKept (hA : AD SD n kd tg rm lt) (hW : WF0 n kd tg rm lt) (hc : OKc n c) {f : Nat} (hf : f < n) (hfu : 100 ≤ fu) : m_X0_isKept fu (lN (enc c)) (nI f) SD = some (if pop (c f % 64) = 1 ∧ c f / 64 < mostK (kd f) ∧ ptd tg c f n = true then nI 1 else nI 0) := by
  have hn := hW.1
  have h9 := hc.1 f
  have hp := pop_le (c f % 64)
  unfold m_X0_isKept
  rw [s_leavesOf fu hc.lt (by omega), bd_some, bitCount32 fu _ (by omega), bd_some, L1, L0]
  by_cases h1 : pop (c f % 64) = 1
  · rw [h1, if_pos rfl, s_keptOf fu hc.lt (by omega), bd_some, d_kindOf hA hW hf, bd_some]
    have hm : m_X2_mostKept fu (nI (kd f)) = some (nI (mostK (kd f))) := by
      have := hW.2.2.1 f hf
      unfold m_X2_mostKept mostK
      rw [L2, L1]
      by_cases h2 : kd f = 2
      · rw [h2, if_pos rfl, if_pos rfl]
      · rw [if_neg h2, if_neg (nI_ne (by omega) (by decide) h2)]
    have hmk : mostK (kd f) ≤ 2 := by unfold mostK; split <;> omega
    rw [hm, bd_some]
    by_cases h2 : c f / 64 < mostK (kd f)
    · rw [if_neg (nI_ge h2 (by omega)), d_isPointedTo hA hW hc hfu, bd_some]
      by_cases h3 : ptd tg c f n = true
      · rw [if_pos h3, if_neg (nI_ne (by decide) (by decide) (by decide)), if_pos ⟨rfl, h2, h3⟩]
      · rw [if_neg h3, if_pos rfl, if_neg (fun h => h3 h.2.2)]
    · rw [if_pos (nI_le (by omega) (by omega)), if_neg (fun h => h2 h.2.1)]
  · rw [if_neg (nI_ne (by omega) (by decide) h1), if_neg (fun h => h1 h.1)]
theorem d_lostWith : ∀ k, k ≤ 4 → ∀ l, l < 6 → m_X2_lostWith fu (nI k) (nI l) = some (nI (lostB k l)) := by
  have h : ∀ k, k ≤ 4 → ∀ l, l < 6 → m_X2_lostWith 0 (nI k) (nI l) = some (nI (lostB k l)) := by decide +kernel
  exact h
theorem d_burntDown (hA : AD SD n kd tg rm lt) (hW : WF0 n kd tg rm lt) (hc : OKc n c) {l : Nat} (hl : l < 6) (hfu : 100 ≤ fu) : m_X0_burntDown fu (lN (enc c)) (nI l) SD = some (lN (enc (burnC n kd tg c l))) := by
  have hn := hW.1
  unfold m_X0_burntDown
  refine lq2_run (fun o => o = _) n (fun i x y => x = lN (enc (fun g => if g < i then burnC n kd tg c l g else c g)) ∧ y = nI i) ?_ ?_ fu 0 _ _ (Nat.zero_le n) (by omega) ⟨by simp, rfl⟩
  · rintro i x y again hi ⟨rfl, rfl⟩
    right
    have hB := burnC_ok hW hc hl
    have hmix : ∀ g, g < 5 → (fun g => if g < i then burnC n kd tg c l g else c g) g < 256 := fun g hg => by
      show (if g < i then burnC n kd tg c l g else c g) < 256
      split
      · exact hB.lt g hg
      · exact hc.lt g hg
    have hup : ∀ v, v = burnC n kd tg c l i → upc (fun g => if g < i then burnC n kd tg c l g else c g) i v = fun g => if g < i + 1 then burnC n kd tg c l g else c g := by
      intro v hv
      funext g
      by_cases e : g = i
      · rw [e, upc_s, if_pos (by omega), hv]
      · rw [upc_n e]
        show (if g < i then burnC n kd tg c l g else c g) = _
        by_cases e2 : g < i
        · rw [if_pos e2, if_pos (by omega)]
        · rw [if_neg e2, if_neg (by omega)]
    have hci : (fun g => if g < i then burnC n kd tg c l g else c g) i = c i := if_neg (Nat.lt_irrefl i)
    have hbi : burnC n kd tg c l i = burnB (kd i) (ptd tg c i n) (c i) l := if_pos hi
    have hk := hW.2.2.1 i hi
    unfold m_X0_burntDown_L6
    rw [hA.1, if_neg (nI_ge hi (by omega)), s_hasLeaf fu hc.lt (by omega) hl, bd_some]
    simp only [jn1, nm, L0, L1, nI_add]
    by_cases hb : bitL (c i) l = 0
    · rw [if_pos hb, if_pos rfl]
      refine ⟨_, _, ⟨?_, rfl⟩, rfl⟩
      rw [← hup (c i) (by rw [hbi, burnB, if_pos hb])]
      congr 2
      funext g
      by_cases e : g = i
      · rw [e, upc_s]; exact hci
      · rw [upc_n e]
    · rw [if_neg hb, if_neg (nI_ne (by decide) (by decide) (by decide)), d_isKept hA hW hc hi hfu, bd_some]
      by_cases hkp : pop (c i % 64) = 1 ∧ c i / 64 < mostK (kd i) ∧ ptd tg c i n = true
      · rw [if_pos hkp, if_neg (nI_ne (by decide) (by decide) (by decide)), s_keptOnceMore fu (by omega), bd_some]
        refine ⟨_, _, ⟨?_, rfl⟩, rfl⟩
        rw [← hup (c i + 64) (by rw [hbi, burnB, if_neg hb, if_pos hkp]), if_neg (Nat.lt_irrefl i)]
      · rw [if_neg hkp, if_pos rfl, d_kindOf hA hW hi, bd_some, d_lostWith _ hk _ hl, bd_some, s_without fu hmix (by omega) (burnB_lt _ hk l hl 0 (by decide) true).2, bd_some]
        refine ⟨_, _, ⟨?_, rfl⟩, rfl⟩
        rw [← hup (c i &&& (255 ^^^ lostB (kd i) l)) (by rw [hbi, burnB, if_neg hb, if_neg hkp]), if_neg (Nat.lt_irrefl i)]
  · rintro x y again ⟨rfl, rfl⟩
    unfold m_X0_burntDown_L6
    rw [hA.1, if_pos (nI_le (Nat.le_refl n) (by omega))]
    congr 3
    funext g
    by_cases e : g < n
    · rw [if_pos e]
    · rw [if_neg e]
      exact (if_neg e).symm
theorem d_grown (hA : AD SD n kd tg rm lt) (hW : WF0 n kd tg rm lt) (hc : OKc n c) {f : Nat} (hf : f < n) (hfu : 100 ≤ fu) : m_X0_grown fu (lN (enc c)) (nI f) SD = some (lN (enc (growAt rm c f 6))) := by
  have hn := hW.1
  have hr := hW.2.1
  unfold m_X0_grown
  simp only [jn1]
  refine lq1_run (fun o => o = _) 6 (fun i x => x = nI i ∧ growAt rm c f 6 = growAt rm c f (6 - i)) ?_ ?_ fu 0 _ (by omega) (by omega) ⟨rfl, rfl⟩
  · rintro i x again hi ⟨rfl, hg⟩
    unfold m_X0_grown_L3
    rw [L6, if_neg (nI_ge hi (by omega)), s_hasLeaf fu hc.lt (by omega) hi, bd_some]
    simp only [jn0, nm, L0, L1, nI_add]
    have hs : growAt rm c f (6 - i) = if bitL (c f) i = 0 ∧ full c i < rm then upc c f (c f + 2 ^ i) else growAt rm c f (6 - (i + 1)) := by
      rw [show 6 - i = (6 - (i + 1)) + 1 by omega]
      show (if bitL (c f) (5 - (6 - (i + 1))) = 0 ∧ full c (5 - (6 - (i + 1))) < rm then upc c f (c f + 2 ^ (5 - (6 - (i + 1)))) else growAt rm c f (6 - (i + 1))) = _
      rw [show 5 - (6 - (i + 1)) = i by omega]
    by_cases hb : bitL (c f) i = 0
    · rw [if_pos hb, if_pos rfl, s_fullness fu hc.lt hi, bd_some, hA.2.1]
      have hfl := full_le c i
      by_cases h2 : full c i < rm
      · left
        rw [if_neg (nI_ge h2 (by omega)), s_turned fu hc.lt (by omega) hi, bd_some, (tog0 _ (hc.1 f) i hi hb).1, hg, hs, if_pos ⟨hb, h2⟩]
      · right
        rw [if_pos (nI_le (by omega) (by omega))]
        exact ⟨_, ⟨rfl, by rw [hg, hs, if_neg (fun h => h2 h.2)]⟩, rfl⟩
    · right
      rw [if_neg hb, if_neg (nI_ne (by decide) (by decide) (by decide))]
      exact ⟨_, ⟨rfl, by rw [hg, hs, if_neg (fun h => hb h.1)]⟩, rfl⟩
  · rintro x again ⟨rfl, hg⟩
    unfold m_X0_grown_L3
    rw [L6, if_pos (nI_le (Nat.le_refl 6) (by omega)), hg]
    rfl
theorem d_rumoursGrown (hA : AD SD n kd tg rm lt) (hW : WF0 n kd tg rm lt) (hc : OKc n c) (hfu : 100 ≤ fu) : m_X0_rumoursGrown fu (lN (enc c)) SD = some (lN (enc (grA kd rm c n))) := by
  have hn := hW.1
  unfold m_X0_rumoursGrown
  refine lq2_run (fun o => o = _) n (fun i x y => x = lN (enc (grA kd rm c i)) ∧ y = nI i) ?_ ?_ fu 0 _ _ (Nat.zero_le n) (by omega) ⟨rfl, rfl⟩
  · rintro i x y again hi ⟨rfl, rfl⟩
    right
    have hk := hW.2.2.1 i hi
    have hci : OKc n (grA kd rm c i) := grA_ok hc i (by omega)
    unfold m_X0_rumoursGrown_L5
    rw [hA.1, if_neg (nI_ge hi (by omega)), d_kindOf hA hW hi, bd_some]
    simp only [jn1, nm, L0, L1, nI_add]
    by_cases h1 : kd i = 1
    · rw [h1, if_pos rfl, s_lives fu hci.lt (by omega), bd_some]
      by_cases h2 : grA kd rm c i i % 64 = 0
      · rw [if_pos h2, if_pos rfl]
        exact ⟨_, _, ⟨by rw [grA, if_neg (fun h => h.2 h2)], rfl⟩, rfl⟩
      · rw [if_neg h2, if_neg (nI_ne (by decide) (by decide) (by decide)), d_grown hA hW hci hi hfu, bd_some]
        exact ⟨_, _, ⟨by rw [grA, if_pos ⟨h1, h2⟩], rfl⟩, rfl⟩
    · rw [if_neg (nI_ne (by omega) (by decide) h1)]
      exact ⟨_, _, ⟨by rw [grA, if_neg (fun h => h1 h.1)], rfl⟩, rfl⟩
  · rintro x y again ⟨rfl, rfl⟩
    unfold m_X0_rumoursGrown_L5
    rw [hA.1, if_pos (nI_le (Nat.le_refl n) (by omega))]
def livM (c : Nat → Nat) : Nat → Nat
  | 0 => 0
  | k + 1 => if c k % 64 = 0 then livM c k else livM c k + 2 ^ k
theorem livM_lt (c : Nat → Nat) : ∀ k, livM c k < 2 ^ k
  | 0 => by simp [livM]
  | k + 1 => by
    have := livM_lt c k
    unfold livM
    split <;> omega
theorem or_bit {a k : Nat} (ha : a < 2 ^ k) (hk : k < 31) : nI a ||| (nI 1 <<< (nI k &&& nI 31)) = nI (a + 2 ^ k) := by
  have hp : (2 : Nat) ^ k < 2 ^ 31 := Nat.pow_lt_pow_right (by decide) hk
  rw [shlN (by omega) (by omega), nx_or, Nat.one_mul, Nat.or_comm]
  have := Nat.two_pow_add_eq_or_of_lt ha 1
  rw [Nat.mul_one] at this
  rw [← this, Nat.add_comm]
theorem d_living (hc : ∀ f, f < 5 → c f < 256) (hfu : 100 ≤ fu) : m_X5_living fu (lN (enc c)) = some (nI (livM c 5)) := by
  unfold m_X5_living
  refine lq2_run (fun o => o = _) 5 (fun i x y => x = nI (livM c i) ∧ y = nI i) ?_ ?_ fu 0 _ _ (by omega) (by omega) ⟨rfl, rfl⟩
  · rintro i x y again hi ⟨rfl, rfl⟩
    right
    unfold m_X5_living_L4
    rw [L5, if_neg (nI_ge hi (by omega)), s_lives fu hc hi, bd_some]
    simp only [jn1, nm, L0, L1, L31, nI_add]
    by_cases h : c i % 64 = 0
    · rw [if_pos h, if_pos rfl]
      exact ⟨_, _, ⟨by rw [livM, if_pos h], rfl⟩, rfl⟩
    · rw [if_neg h, if_neg (nI_ne (by decide) (by decide) (by decide)), or_bit (livM_lt c i) (by omega)]
      exact ⟨_, _, ⟨by rw [livM, if_neg h], rfl⟩, rfl⟩
  · rintro x y again ⟨rfl, rfl⟩
    unfold m_X5_living_L4
    rw [L5, if_pos (nI_le (Nat.le_refl 5) (by omega))]
end DEV
