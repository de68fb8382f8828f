/-! ===== the law's loop ===== -/
theorem law_pair {n : Nat} {μ : Mem} {fx fm : Mem → Option (Int × Mem)} {K : Mem → Option (Int × Mem)} (hp : Pair n fx fm) (h : Inv n μ) (hK : ∀ μ2 : Mem, Inv (n + 1) μ2 → ∃ μ', K μ2 = some (1, μ')) :
    ∃ μ', (bd (fx μ) fun r m => bd (fm m) fun r' m' => if w32 r = w32 r' then K m' else some (0, m')) = some (1, μ') := by
  obtain ⟨a, μ1, μ2, e1, e2, e3⟩ := hp μ h
  obtain ⟨μ', e⟩ := hK μ2 e3
  exact ⟨μ', by rw [e1, bd_some, e2, bd_some, if_pos rfl, e]⟩
theorem law_pairL {n : Nat} {μ : Mem} {fx fm : Mem → Option (Int × Mem)} {K : Mem → Option (Int × Mem)} (hp : Pair n fx fm) (h : Inv n μ) (hK : ∀ μ2 : Mem, Inv (n + 1) μ2 → ∃ μ', K μ2 = some (1, μ')) :
    ∃ μ', (bd (fx μ) fun r m => bd (fm m) fun r' m' => if w32 (ycmp r r') = 0 then K m' else some (0, m')) = some (1, μ') := by
  obtain ⟨a, μ1, μ2, e1, e2, e3⟩ := hp μ h
  obtain ⟨μ', e⟩ := hK μ2 e3
  exact ⟨μ', by rw [e1, bd_some, e2, bd_some, if_pos (ycmp_eq.mpr rfl), e]⟩
theorem law_jn {n : Nat} {K : Mem → Option (Int × Mem)} {g : (Mem → Option (Int × Mem)) → Option (Int × Mem)} (hK : ∀ μ2 : Mem, Inv (n + 1) μ2 → ∃ μ', K μ2 = some (1, μ'))
    (hg : ∀ k : Mem → Option (Int × Mem), (∀ μ2 : Mem, Inv (n + 1) μ2 → ∃ μ', k μ2 = some (1, μ')) → ∃ μ', g k = some (1, μ')) : ∃ μ', jn K g = some (1, μ') := hg K hK
theorem law_if {c : Prop} [Decidable c] {F G : Option (Int × Mem)} (hF : c → ∃ μ', F = some (1, μ')) (hG : ¬ c → ∃ μ', G = some (1, μ')) : ∃ μ', (if c then F else G) = some (1, μ') := by
  by_cases h : c
  · rw [if_pos h]; exact hF h
  · rw [if_neg h]; exact hG h
theorem law_ck {a : Int} {L : Nat} {F : Option (Int × Mem)} (h1 : 0 ≤ a) (h2 : a < (L : Int)) (h3 : a < 2147483648) : ck a L F = F := ck_ok h1 h2 h3

theorem law_0 {L n : Nat} {sc : Nat → Int} {i : Int} {μ : Mem} {K : Mem → Option (Int × Mem)} (hn : n ≤ 900) (hsc : ∀ j, inR (sc j)) (hi : 0 ≤ i) (hL : i + 5 < (L : Int)) (hL2 : L ≤ 384) (h : Inv n μ) (hK : ∀ μ2 : Mem, Inv (n + 1) μ2 → ∃ μ', K μ2 = some (1, μ')) :
    ∃ μ', (ck (i + 1) L (ck (i + 2) L (bd (f_X9_row μ (sc (w32 (i + 1)).toNat) (sc (w32 (i + 2)).toNat)) fun r m => ck (i + 1) L (ck (i + 2) L (bd (f_X10_row m (sc (w32 (i + 1)).toNat) (sc (w32 (i + 2)).toNat)) fun r' m' => if w32 r = w32 r' then K m' else some (0, m')))))) = some (1, μ') := by
  have k1 : ∀ F : Option (Int × Mem), ck (i + 1) L F = F := fun F => law_ck (by omega) (by omega) (by omega)
  have k2 : ∀ F : Option (Int × Mem), ck (i + 2) L F = F := fun F => law_ck (by omega) (by omega) (by omega)
  simp only [k1, k2]
  exact law_pair (p_row (hsc _) (hsc _)) h hK
theorem law_1 {L n : Nat} {sc : Nat → Int} {i : Int} {μ : Mem} {K : Mem → Option (Int × Mem)} (hn : n ≤ 900) (hsc : ∀ j, inR (sc j)) (hi : 0 ≤ i) (hL : i + 5 < (L : Int)) (hL2 : L ≤ 384) (h : Inv n μ) (hK : ∀ μ2 : Mem, Inv (n + 1) μ2 → ∃ μ', K μ2 = some (1, μ')) :
    ∃ μ', (ck (i + 1) L (ck (i + 2) L (ck (i + 3) L (bd (f_X9_lay μ (sc (w32 (i + 1)).toNat) (sc (w32 (i + 2)).toNat) (sc (w32 (i + 3)).toNat)) fun r m => ck (i + 1) L (ck (i + 2) L (ck (i + 3) L (bd (f_X10_lay m (sc (w32 (i + 1)).toNat) (sc (w32 (i + 2)).toNat) (sc (w32 (i + 3)).toNat)) fun r' m' => if w32 r = w32 r' then K m' else some (0, m')))))))) = some (1, μ') := by
  have k1 : ∀ F : Option (Int × Mem), ck (i + 1) L F = F := fun F => law_ck (by omega) (by omega) (by omega)
  have k2 : ∀ F : Option (Int × Mem), ck (i + 2) L F = F := fun F => law_ck (by omega) (by omega) (by omega)
  have k3 : ∀ F : Option (Int × Mem), ck (i + 3) L F = F := fun F => law_ck (by omega) (by omega) (by omega)
  simp only [k1, k2, k3]
  exact law_pair (p_lay (hsc _) (hsc _) (hsc _)) h hK
theorem law_2 {L n : Nat} {sc : Nat → Int} {i : Int} {μ : Mem} {K : Mem → Option (Int × Mem)} (hn : n ≤ 900) (hsc : ∀ j, inR (sc j)) (hi : 0 ≤ i) (hL : i + 5 < (L : Int)) (hL2 : L ≤ 384) (h : Inv n μ) (hK : ∀ μ2 : Mem, Inv (n + 1) μ2 → ∃ μ', K μ2 = some (1, μ')) :
    ∃ μ', (ck (i + 1) L (ck (i + 2) L (bd (f_X9_at μ (sc (w32 (i + 1)).toNat) (sc (w32 (i + 2)).toNat)) fun r m => ck (i + 1) L (ck (i + 2) L (bd (f_X10_at m (sc (w32 (i + 1)).toNat) (sc (w32 (i + 2)).toNat)) fun r' m' => if w32 r = w32 r' then K m' else some (0, m')))))) = some (1, μ') := by
  have k1 : ∀ F : Option (Int × Mem), ck (i + 1) L F = F := fun F => law_ck (by omega) (by omega) (by omega)
  have k2 : ∀ F : Option (Int × Mem), ck (i + 2) L F = F := fun F => law_ck (by omega) (by omega) (by omega)
  simp only [k1, k2]
  exact law_pair (p_at (hsc _) (hsc _)) h hK
theorem law_3 {L n : Nat} {sc : Nat → Int} {i : Int} {μ : Mem} {K : Mem → Option (Int × Mem)} (hn : n ≤ 900) (hsc : ∀ j, inR (sc j)) (hi : 0 ≤ i) (hL : i + 5 < (L : Int)) (hL2 : L ≤ 384) (h : Inv n μ) (hK : ∀ μ2 : Mem, Inv (n + 1) μ2 → ∃ μ', K μ2 = some (1, μ')) :
    ∃ μ', (ck (i + 1) L (bd (f_X9_tear μ (sc (w32 (i + 1)).toNat)) fun r m => ck (i + 1) L (bd (f_X10_tear m (sc (w32 (i + 1)).toNat)) fun r' m' => if w32 r = w32 r' then K m' else some (0, m')))) = some (1, μ') := by
  have k1 : ∀ F : Option (Int × Mem), ck (i + 1) L F = F := fun F => law_ck (by omega) (by omega) (by omega)
  simp only [k1]
  exact law_pair (p_tear (hsc _)) h hK
theorem law_4 {L n : Nat} {sc : Nat → Int} {i : Int} {μ : Mem} {K : Mem → Option (Int × Mem)} (hn : n ≤ 900) (hsc : ∀ j, inR (sc j)) (hi : 0 ≤ i) (hL : i + 5 < (L : Int)) (hL2 : L ≤ 384) (h : Inv n μ) (hK : ∀ μ2 : Mem, Inv (n + 1) μ2 → ∃ μ', K μ2 = some (1, μ')) :
    ∃ μ', (ck (i + 1) L (ck (i + 2) L (ck (i + 3) L (ck (i + 4) L (ck (i + 5) L (bd (f_X9_copy μ (sc (w32 (i + 1)).toNat) (sc (w32 (i + 2)).toNat) (sc (w32 (i + 3)).toNat) (sc (w32 (i + 4)).toNat) (sc (w32 (i + 5)).toNat)) fun r m => ck (i + 1) L (ck (i + 2) L (ck (i + 3) L (ck (i + 4) L (ck (i + 5) L (bd (f_X10_copy m (sc (w32 (i + 1)).toNat) (sc (w32 (i + 2)).toNat) (sc (w32 (i + 3)).toNat) (sc (w32 (i + 4)).toNat) (sc (w32 (i + 5)).toNat)) fun r' m' => if w32 r = w32 r' then K m' else some (0, m')))))))))))) = some (1, μ') := by
  have k1 : ∀ F : Option (Int × Mem), ck (i + 1) L F = F := fun F => law_ck (by omega) (by omega) (by omega)
  have k2 : ∀ F : Option (Int × Mem), ck (i + 2) L F = F := fun F => law_ck (by omega) (by omega) (by omega)
  have k3 : ∀ F : Option (Int × Mem), ck (i + 3) L F = F := fun F => law_ck (by omega) (by omega) (by omega)
  have k4 : ∀ F : Option (Int × Mem), ck (i + 4) L F = F := fun F => law_ck (by omega) (by omega) (by omega)
  have k5 : ∀ F : Option (Int × Mem), ck (i + 5) L F = F := fun F => law_ck (by omega) (by omega) (by omega)
  simp only [k1, k2, k3, k4, k5]
  exact law_pair (p_copy (hsc _) (hsc _) (hsc _) (hsc _) (hsc _)) h hK
theorem law_5 {L n : Nat} {sc : Nat → Int} {i : Int} {μ : Mem} {K : Mem → Option (Int × Mem)} (hn : n ≤ 900) (hsc : ∀ j, inR (sc j)) (hi : 0 ≤ i) (hL : i + 5 < (L : Int)) (hL2 : L ≤ 384) (h : Inv n μ) (hK : ∀ μ2 : Mem, Inv (n + 1) μ2 → ∃ μ', K μ2 = some (1, μ')) :
    ∃ μ', (ck (i + 1) L (bd (f_X9_mean μ (sc (w32 (i + 1)).toNat)) fun r m => ck (i + 1) L (bd (f_X10_mean m (sc (w32 (i + 1)).toNat)) fun r' m' => if w32 r = w32 r' then K m' else some (0, m')))) = some (1, μ') := by
  have k1 : ∀ F : Option (Int × Mem), ck (i + 1) L F = F := fun F => law_ck (by omega) (by omega) (by omega)
  simp only [k1]
  exact law_pair (p_mean (hsc _)) h hK
theorem law_6 {L n : Nat} {sc : Nat → Int} {i : Int} {μ : Mem} {K : Mem → Option (Int × Mem)} (hn : n ≤ 900) (hsc : ∀ j, inR (sc j)) (hi : 0 ≤ i) (hL : i + 5 < (L : Int)) (hL2 : L ≤ 384) (h : Inv n μ) (hK : ∀ μ2 : Mem, Inv (n + 1) μ2 → ∃ μ', K μ2 = some (1, μ')) :
    ∃ μ', (ck (i + 1) L (ck (i + 2) L (bd (f_X9_text μ (sc (w32 (i + 1)).toNat) (sc (w32 (i + 2)).toNat)) fun r m => ck (i + 1) L (ck (i + 2) L (bd (f_X10_text m (sc (w32 (i + 1)).toNat) (sc (w32 (i + 2)).toNat)) fun r' m' => if w32 r = w32 r' then K m' else some (0, m')))))) = some (1, μ') := by
  have k1 : ∀ F : Option (Int × Mem), ck (i + 1) L F = F := fun F => law_ck (by omega) (by omega) (by omega)
  have k2 : ∀ F : Option (Int × Mem), ck (i + 2) L F = F := fun F => law_ck (by omega) (by omega) (by omega)
  simp only [k1, k2]
  exact law_pair (p_text (hsc _) (hsc _)) h hK
theorem law_7 {L n : Nat} {sc : Nat → Int} {i : Int} {μ : Mem} {K : Mem → Option (Int × Mem)} (hn : n ≤ 900) (hsc : ∀ j, inR (sc j)) (hi : 0 ≤ i) (hL : i + 5 < (L : Int)) (hL2 : L ≤ 384) (h : Inv n μ) (hK : ∀ μ2 : Mem, Inv (n + 1) μ2 → ∃ μ', K μ2 = some (1, μ')) :
    ∃ μ', (ck (i + 1) L (ck (i + 2) L (ck (i + 3) L (bd (f_X9_put μ (sc (w32 (i + 1)).toNat) (sc (w32 (i + 2)).toNat) (sc (w32 (i + 3)).toNat)) fun r m => ck (i + 1) L (ck (i + 2) L (ck (i + 3) L (bd (f_X10_put m (sc (w32 (i + 1)).toNat) (sc (w32 (i + 2)).toNat) (sc (w32 (i + 3)).toNat)) fun r' m' => if w32 r = w32 r' then K m' else some (0, m')))))))) = some (1, μ') := by
  have k1 : ∀ F : Option (Int × Mem), ck (i + 1) L F = F := fun F => law_ck (by omega) (by omega) (by omega)
  have k2 : ∀ F : Option (Int × Mem), ck (i + 2) L F = F := fun F => law_ck (by omega) (by omega) (by omega)
  have k3 : ∀ F : Option (Int × Mem), ck (i + 3) L F = F := fun F => law_ck (by omega) (by omega) (by omega)
  simp only [k1, k2, k3]
  exact law_pair (p_put (hsc _) (hsc _)) h hK
theorem law_8 {L n : Nat} {sc : Nat → Int} {i : Int} {μ : Mem} {K : Mem → Option (Int × Mem)} (hn : n ≤ 900) (hsc : ∀ j, inR (sc j)) (hi : 0 ≤ i) (hL : i + 5 < (L : Int)) (hL2 : L ≤ 384) (h : Inv n μ) (hK : ∀ μ2 : Mem, Inv (n + 1) μ2 → ∃ μ', K μ2 = some (1, μ')) :
    ∃ μ', (ck (i + 1) L (bd (f_X9_fault μ (sc (w32 (i + 1)).toNat)) fun r m => ck (i + 1) L (bd (f_X10_fault m (sc (w32 (i + 1)).toNat)) fun r' m' => if w32 r = w32 r' then K m' else some (0, m')))) = some (1, μ') := by
  have k1 : ∀ F : Option (Int × Mem), ck (i + 1) L F = F := fun F => law_ck (by omega) (by omega) (by omega)
  simp only [k1]
  exact law_pair (p_fault (hsc _)) h hK
theorem law_9 {L n : Nat} {sc : Nat → Int} {i : Int} {μ : Mem} {K : Mem → Option (Int × Mem)} (hn : n ≤ 900) (hsc : ∀ j, inR (sc j)) (hi : 0 ≤ i) (hL : i + 5 < (L : Int)) (hL2 : L ≤ 384) (h : Inv n μ) (hK : ∀ μ2 : Mem, Inv (n + 1) μ2 → ∃ μ', K μ2 = some (1, μ')) :
    ∃ μ', (ck (i + 1) L (bd (f_X9_year μ (sc (w32 (i + 1)).toNat)) fun r m => ck (i + 1) L (bd (f_X10_year m (sc (w32 (i + 1)).toNat)) fun r' m' => if w32 r = w32 r' then K m' else some (0, m')))) = some (1, μ') := by
  have k1 : ∀ F : Option (Int × Mem), ck (i + 1) L F = F := fun F => law_ck (by omega) (by omega) (by omega)
  simp only [k1]
  exact law_pair (p_year (hsc _)) h hK
theorem law_10 {L n : Nat} {sc : Nat → Int} {i : Int} {μ : Mem} {K : Mem → Option (Int × Mem)} (hn : n ≤ 900) (hsc : ∀ j, inR (sc j)) (hi : 0 ≤ i) (hL : i + 5 < (L : Int)) (hL2 : L ≤ 384) (h : Inv n μ) (hK : ∀ μ2 : Mem, Inv (n + 1) μ2 → ∃ μ', K μ2 = some (1, μ')) :
    ∃ μ', (ck (i + 1) L (ck (i + 2) L (bd (f_X9_cape μ (sc (w32 (i + 1)).toNat) (sc (w32 (i + 2)).toNat)) fun r m => ck (i + 1) L (ck (i + 2) L (bd (f_X10_cape m (sc (w32 (i + 1)).toNat) (sc (w32 (i + 2)).toNat)) fun r' m' => if w32 r = w32 r' then K m' else some (0, m')))))) = some (1, μ') := by
  have k1 : ∀ F : Option (Int × Mem), ck (i + 1) L F = F := fun F => law_ck (by omega) (by omega) (by omega)
  have k2 : ∀ F : Option (Int × Mem), ck (i + 2) L F = F := fun F => law_ck (by omega) (by omega) (by omega)
  simp only [k1, k2]
  exact law_pair (p_cape hn (hsc _) (hsc _)) h hK
theorem law_11 {L n : Nat} {sc : Nat → Int} {i : Int} {μ : Mem} {K : Mem → Option (Int × Mem)} (hn : n ≤ 900) (hsc : ∀ j, inR (sc j)) (hi : 0 ≤ i) (hL : i + 5 < (L : Int)) (hL2 : L ≤ 384) (h : Inv n μ) (hK : ∀ μ2 : Mem, Inv (n + 1) μ2 → ∃ μ', K μ2 = some (1, μ')) :
    ∃ μ', (ck (i + 1) L (ck (i + 2) L (bd (f_X9_valley μ (sc (w32 (i + 1)).toNat) (sc (w32 (i + 2)).toNat)) fun r m => ck (i + 1) L (ck (i + 2) L (bd (f_X10_valley m (sc (w32 (i + 1)).toNat) (sc (w32 (i + 2)).toNat)) fun r' m' => if w32 r = w32 r' then K m' else some (0, m')))))) = some (1, μ') := by
  have k1 : ∀ F : Option (Int × Mem), ck (i + 1) L F = F := fun F => law_ck (by omega) (by omega) (by omega)
  have k2 : ∀ F : Option (Int × Mem), ck (i + 2) L F = F := fun F => law_ck (by omega) (by omega) (by omega)
  simp only [k1, k2]
  exact law_pair (p_valley (hsc _) (hsc _)) h hK
theorem law_12 {L n : Nat} {sc : Nat → Int} {i : Int} {μ : Mem} {K : Mem → Option (Int × Mem)} (hn : n ≤ 900) (hsc : ∀ j, inR (sc j)) (hi : 0 ≤ i) (hL : i + 5 < (L : Int)) (hL2 : L ≤ 384) (h : Inv n μ) (hK : ∀ μ2 : Mem, Inv (n + 1) μ2 → ∃ μ', K μ2 = some (1, μ')) :
    ∃ μ', (ck (i + 1) L (ck (i + 2) L (bd (f_X9_mark μ (sc (w32 (i + 1)).toNat) (sc (w32 (i + 2)).toNat)) fun r m => ck (i + 1) L (ck (i + 2) L (bd (f_X10_mark m (sc (w32 (i + 1)).toNat) (sc (w32 (i + 2)).toNat)) fun r' m' => if w32 r = w32 r' then K m' else some (0, m')))))) = some (1, μ') := by
  have k1 : ∀ F : Option (Int × Mem), ck (i + 1) L F = F := fun F => law_ck (by omega) (by omega) (by omega)
  have k2 : ∀ F : Option (Int × Mem), ck (i + 2) L F = F := fun F => law_ck (by omega) (by omega) (by omega)
  simp only [k1, k2]
  exact law_pair (p_mark hn (hsc _) (hsc _)) h hK
theorem law_13 {L n : Nat} {sc : Nat → Int} {i : Int} {μ : Mem} {K : Mem → Option (Int × Mem)} (hn : n ≤ 900) (hsc : ∀ j, inR (sc j)) (hi : 0 ≤ i) (hL : i + 5 < (L : Int)) (hL2 : L ≤ 384) (h : Inv n μ) (hK : ∀ μ2 : Mem, Inv (n + 1) μ2 → ∃ μ', K μ2 = some (1, μ')) :
    ∃ μ', (ck (i + 1) L (ck (i + 2) L (bd (f_X9_price μ (sc (w32 (i + 1)).toNat) (sc (w32 (i + 2)).toNat)) fun r m => ck (i + 1) L (ck (i + 2) L (bd (f_X10_price m (sc (w32 (i + 1)).toNat) (sc (w32 (i + 2)).toNat)) fun r' m' => if w32 r = w32 r' then K m' else some (0, m')))))) = some (1, μ') := by
  have k1 : ∀ F : Option (Int × Mem), ck (i + 1) L F = F := fun F => law_ck (by omega) (by omega) (by omega)
  have k2 : ∀ F : Option (Int × Mem), ck (i + 2) L F = F := fun F => law_ck (by omega) (by omega) (by omega)
  simp only [k1, k2]
  exact law_pair (p_price (hsc _) (hsc _)) h hK
theorem law_14 {L n : Nat} {sc : Nat → Int} {i : Int} {μ : Mem} {K : Mem → Option (Int × Mem)} (hn : n ≤ 900) (hsc : ∀ j, inR (sc j)) (hi : 0 ≤ i) (hL : i + 5 < (L : Int)) (hL2 : L ≤ 384) (h : Inv n μ) (hK : ∀ μ2 : Mem, Inv (n + 1) μ2 → ∃ μ', K μ2 = some (1, μ')) :
    ∃ μ', (ck (i + 1) L (bd (f_X9_hold μ (sc (w32 (i + 1)).toNat)) fun r m => ck (i + 1) L (bd (f_X10_hold m (sc (w32 (i + 1)).toNat)) fun r' m' => if w32 r = w32 r' then K m' else some (0, m')))) = some (1, μ') := by
  have k1 : ∀ F : Option (Int × Mem), ck (i + 1) L F = F := fun F => law_ck (by omega) (by omega) (by omega)
  simp only [k1]
  exact law_pair (p_hold hn (hsc _)) h hK
theorem law_15 {L n : Nat} {sc : Nat → Int} {i : Int} {μ : Mem} {K : Mem → Option (Int × Mem)} (hn : n ≤ 900) (hsc : ∀ j, inR (sc j)) (hi : 0 ≤ i) (hL : i + 5 < (L : Int)) (hL2 : L ≤ 384) (h : Inv n μ) (hK : ∀ μ2 : Mem, Inv (n + 1) μ2 → ∃ μ', K μ2 = some (1, μ')) :
    ∃ μ', (ck (i + 1) L (ck (i + 2) L (bd (f_X9_rope μ (sc (w32 (i + 1)).toNat) (sc (w32 (i + 2)).toNat)) fun r m => ck (i + 1) L (ck (i + 2) L (bd (f_X10_rope m (sc (w32 (i + 1)).toNat) (sc (w32 (i + 2)).toNat)) fun r' m' => if w32 r = w32 r' then K m' else some (0, m')))))) = some (1, μ') := by
  have k1 : ∀ F : Option (Int × Mem), ck (i + 1) L F = F := fun F => law_ck (by omega) (by omega) (by omega)
  have k2 : ∀ F : Option (Int × Mem), ck (i + 2) L F = F := fun F => law_ck (by omega) (by omega) (by omega)
  simp only [k1, k2]
  exact law_pair (p_rope (hsc _) (hsc _)) h hK
theorem law_16 {L n : Nat} {sc : Nat → Int} {i : Int} {μ : Mem} {K : Mem → Option (Int × Mem)} (hn : n ≤ 900) (hsc : ∀ j, inR (sc j)) (hi : 0 ≤ i) (hL : i + 5 < (L : Int)) (hL2 : L ≤ 384) (h : Inv n μ) (hK : ∀ μ2 : Mem, Inv (n + 1) μ2 → ∃ μ', K μ2 = some (1, μ')) :
    ∃ μ', (bd (f_X9_rise μ) fun r m => bd (f_X10_rise m) fun r' m' => if w32 r = w32 r' then K m' else some (0, m')) = some (1, μ') := by
  exact law_pair (p_rise hn) h hK
theorem law_17 {L n : Nat} {sc : Nat → Int} {i : Int} {μ : Mem} {K : Mem → Option (Int × Mem)} (hn : n ≤ 900) (hsc : ∀ j, inR (sc j)) (hi : 0 ≤ i) (hL : i + 5 < (L : Int)) (hL2 : L ≤ 384) (h : Inv n μ) (hK : ∀ μ2 : Mem, Inv (n + 1) μ2 → ∃ μ', K μ2 = some (1, μ')) :
    ∃ μ', (ck (i + 1) L (bd (f_X9_undo μ (sc (w32 (i + 1)).toNat)) fun r m => ck (i + 1) L (bd (f_X10_undo m (sc (w32 (i + 1)).toNat)) fun r' m' => if w32 r = w32 r' then K m' else some (0, m')))) = some (1, μ') := by
  have k1 : ∀ F : Option (Int × Mem), ck (i + 1) L F = F := fun F => law_ck (by omega) (by omega) (by omega)
  simp only [k1]
  exact law_pair (p_undo (hsc _)) h hK
theorem law_18 {L n : Nat} {sc : Nat → Int} {i : Int} {μ : Mem} {K : Mem → Option (Int × Mem)} (hn : n ≤ 900) (hsc : ∀ j, inR (sc j)) (hi : 0 ≤ i) (hL : i + 5 < (L : Int)) (hL2 : L ≤ 384) (h : Inv n μ) (hK : ∀ μ2 : Mem, Inv (n + 1) μ2 → ∃ μ', K μ2 = some (1, μ')) :
    ∃ μ', (bd (f_X9_sun μ) fun r m => bd (f_X10_sun m) fun r' m' => if w32 r = w32 r' then K m' else some (0, m')) = some (1, μ') := by
  exact law_pair (p_sun) h hK
theorem law_19 {L n : Nat} {sc : Nat → Int} {i : Int} {μ : Mem} {K : Mem → Option (Int × Mem)} (hn : n ≤ 900) (hsc : ∀ j, inR (sc j)) (hi : 0 ≤ i) (hL : i + 5 < (L : Int)) (hL2 : L ≤ 384) (h : Inv n μ) (hK : ∀ μ2 : Mem, Inv (n + 1) μ2 → ∃ μ', K μ2 = some (1, μ')) :
    ∃ μ', (bd (f_X9_gained μ) fun r m => bd (f_X10_gained m) fun r' m' => if w32 r = w32 r' then K m' else some (0, m')) = some (1, μ') := by
  exact law_pair (p_gained hn) h hK
theorem law_20 {L n : Nat} {sc : Nat → Int} {i : Int} {μ : Mem} {K : Mem → Option (Int × Mem)} (hn : n ≤ 900) (hsc : ∀ j, inR (sc j)) (hi : 0 ≤ i) (hL : i + 5 < (L : Int)) (hL2 : L ≤ 384) (h : Inv n μ) (hK : ∀ μ2 : Mem, Inv (n + 1) μ2 → ∃ μ', K μ2 = some (1, μ')) :
    ∃ μ', (ck (i + 1) L (bd (f_X9_keep μ (sc (w32 (i + 1)).toNat)) fun r m => ck (i + 1) L (bd (f_X10_keep m (sc (w32 (i + 1)).toNat)) fun r' m' => if w32 r = w32 r' then K m' else some (0, m')))) = some (1, μ') := by
  have k1 : ∀ F : Option (Int × Mem), ck (i + 1) L F = F := fun F => law_ck (by omega) (by omega) (by omega)
  simp only [k1]
  exact law_pair (p_keep (hsc _)) h hK
theorem law_21 {L n : Nat} {sc : Nat → Int} {i : Int} {μ : Mem} {K : Mem → Option (Int × Mem)} (hn : n ≤ 900) (hsc : ∀ j, inR (sc j)) (hi : 0 ≤ i) (hL : i + 5 < (L : Int)) (hL2 : L ≤ 384) (h : Inv n μ) (hK : ∀ μ2 : Mem, Inv (n + 1) μ2 → ∃ μ', K μ2 = some (1, μ')) :
    ∃ μ', (ck (i + 1) L (bd (f_X9_on μ (sc (w32 (i + 1)).toNat)) fun r m => ck (i + 1) L (bd (f_X10_on m (sc (w32 (i + 1)).toNat)) fun r' m' => if w32 r = w32 r' then K m' else some (0, m')))) = some (1, μ') := by
  have k1 : ∀ F : Option (Int × Mem), ck (i + 1) L F = F := fun F => law_ck (by omega) (by omega) (by omega)
  simp only [k1]
  exact law_pair (p_on (hsc _)) h hK
theorem law_22 {L n : Nat} {sc : Nat → Int} {i : Int} {μ : Mem} {K : Mem → Option (Int × Mem)} (hn : n ≤ 900) (hsc : ∀ j, inR (sc j)) (hi : 0 ≤ i) (hL : i + 5 < (L : Int)) (hL2 : L ≤ 384) (h : Inv n μ) (hK : ∀ μ2 : Mem, Inv (n + 1) μ2 → ∃ μ', K μ2 = some (1, μ')) :
    ∃ μ', (ck (i + 1) L (bd (f_X9_run μ (sc (w32 (i + 1)).toNat)) fun r m => ck (i + 1) L (bd (f_X10_run m (sc (w32 (i + 1)).toNat)) fun r' m' => if w32 r = w32 r' then K m' else some (0, m')))) = some (1, μ') := by
  have k1 : ∀ F : Option (Int × Mem), ck (i + 1) L F = F := fun F => law_ck (by omega) (by omega) (by omega)
  simp only [k1]
  exact law_pair (p_run hn (hsc _)) h hK
theorem law_23 {L n : Nat} {sc : Nat → Int} {i : Int} {μ : Mem} {K : Mem → Option (Int × Mem)} (hn : n ≤ 900) (hsc : ∀ j, inR (sc j)) (hi : 0 ≤ i) (hL : i + 5 < (L : Int)) (hL2 : L ≤ 384) (h : Inv n μ) (hK : ∀ μ2 : Mem, Inv (n + 1) μ2 → ∃ μ', K μ2 = some (1, μ')) :
    ∃ μ', (ck (i + 1) L (bd (f_X9_burns μ (sc (w32 (i + 1)).toNat)) fun r m => ck (i + 1) L (bd (f_X10_burns m (sc (w32 (i + 1)).toNat)) fun r' m' => if w32 r = w32 r' then K m' else some (0, m')))) = some (1, μ') := by
  have k1 : ∀ F : Option (Int × Mem), ck (i + 1) L F = F := fun F => law_ck (by omega) (by omega) (by omega)
  simp only [k1]
  exact law_pair (p_burns hn (hsc _)) h hK
theorem law_24 {L n : Nat} {sc : Nat → Int} {i : Int} {μ : Mem} {K : Mem → Option (Int × Mem)} (hn : n ≤ 900) (hsc : ∀ j, inR (sc j)) (hi : 0 ≤ i) (hL : i + 5 < (L : Int)) (hL2 : L ≤ 384) (h : Inv n μ) (hK : ∀ μ2 : Mem, Inv (n + 1) μ2 → ∃ μ', K μ2 = some (1, μ')) :
    ∃ μ', (ck (i + 1) L (ck (i + 2) L (bd (f_X9_best μ (sc (w32 (i + 1)).toNat) (sc (w32 (i + 2)).toNat)) fun r m => ck (i + 1) L (ck (i + 2) L (bd (f_X10_best m (sc (w32 (i + 1)).toNat) (sc (w32 (i + 2)).toNat)) fun r' m' => if w32 r = w32 r' then K m' else some (0, m')))))) = some (1, μ') := by
  have k1 : ∀ F : Option (Int × Mem), ck (i + 1) L F = F := fun F => law_ck (by omega) (by omega) (by omega)
  have k2 : ∀ F : Option (Int × Mem), ck (i + 2) L F = F := fun F => law_ck (by omega) (by omega) (by omega)
  simp only [k1, k2]
  exact law_pair (p_best hn (hsc _) (hsc _)) h hK
theorem law_25 {L n : Nat} {sc : Nat → Int} {i : Int} {μ : Mem} {K : Mem → Option (Int × Mem)} (hn : n ≤ 900) (hsc : ∀ j, inR (sc j)) (hi : 0 ≤ i) (hL : i + 5 < (L : Int)) (hL2 : L ≤ 384) (h : Inv n μ) (hK : ∀ μ2 : Mem, Inv (n + 1) μ2 → ∃ μ', K μ2 = some (1, μ')) :
    ∃ μ', (ck (i + 1) L (ck (i + 2) L (bd (f_X9_slowest μ (sc (w32 (i + 1)).toNat) (sc (w32 (i + 2)).toNat)) fun r m => ck (i + 1) L (ck (i + 2) L (bd (f_X10_slowest m (sc (w32 (i + 1)).toNat) (sc (w32 (i + 2)).toNat)) fun r' m' => if w32 r = w32 r' then K m' else some (0, m')))))) = some (1, μ') := by
  have k1 : ∀ F : Option (Int × Mem), ck (i + 1) L F = F := fun F => law_ck (by omega) (by omega) (by omega)
  have k2 : ∀ F : Option (Int × Mem), ck (i + 2) L F = F := fun F => law_ck (by omega) (by omega) (by omega)
  simp only [k1, k2]
  exact law_pair (p_slowest hn (hsc _) (hsc _)) h hK
theorem law_26 {L n : Nat} {sc : Nat → Int} {i : Int} {μ : Mem} {K : Mem → Option (Int × Mem)} (hn : n ≤ 900) (hsc : ∀ j, inR (sc j)) (hi : 0 ≤ i) (hL : i + 5 < (L : Int)) (hL2 : L ≤ 384) (h : Inv n μ) (hK : ∀ μ2 : Mem, Inv (n + 1) μ2 → ∃ μ', K μ2 = some (1, μ')) :
    ∃ μ', (ck (i + 1) L (bd (f_X9_down μ (sc (w32 (i + 1)).toNat)) fun r m => ck (i + 1) L (bd (f_X10_down m (sc (w32 (i + 1)).toNat)) fun r' m' => if w32 r = w32 r' then K m' else some (0, m')))) = some (1, μ') := by
  have k1 : ∀ F : Option (Int × Mem), ck (i + 1) L F = F := fun F => law_ck (by omega) (by omega) (by omega)
  simp only [k1]
  exact law_pair (p_down hn (hsc _)) h hK
theorem law_27 {L n : Nat} {sc : Nat → Int} {i : Int} {μ : Mem} {K : Mem → Option (Int × Mem)} (hn : n ≤ 900) (hsc : ∀ j, inR (sc j)) (hi : 0 ≤ i) (hL : i + 5 < (L : Int)) (hL2 : L ≤ 384) (h : Inv n μ) (hK : ∀ μ2 : Mem, Inv (n + 1) μ2 → ∃ μ', K μ2 = some (1, μ')) :
    ∃ μ', (bd (f_X9_longest μ) fun r m => bd (f_X10_longest m) fun r' m' => if w32 r = w32 r' then K m' else some (0, m')) = some (1, μ') := by
  exact law_pair (p_longest hn) h hK
theorem law_28 {L n : Nat} {sc : Nat → Int} {i : Int} {μ : Mem} {K : Mem → Option (Int × Mem)} (hn : n ≤ 900) (hsc : ∀ j, inR (sc j)) (hi : 0 ≤ i) (hL : i + 5 < (L : Int)) (hL2 : L ≤ 384) (h : Inv n μ) (hK : ∀ μ2 : Mem, Inv (n + 1) μ2 → ∃ μ', K μ2 = some (1, μ')) :
    ∃ μ', (ck (i + 1) L (bd (f_X9_ropes μ (sc (w32 (i + 1)).toNat)) fun r m => ck (i + 1) L (bd (f_X10_ropes m (sc (w32 (i + 1)).toNat)) fun r' m' => if w32 r = w32 r' then K m' else some (0, m')))) = some (1, μ') := by
  have k1 : ∀ F : Option (Int × Mem), ck (i + 1) L F = F := fun F => law_ck (by omega) (by omega) (by omega)
  simp only [k1]
  exact law_pair (p_ropes hn (hsc _)) h hK
theorem law_29 {L n : Nat} {sc : Nat → Int} {i : Int} {μ : Mem} {K : Mem → Option (Int × Mem)} (hn : n ≤ 900) (hsc : ∀ j, inR (sc j)) (hi : 0 ≤ i) (hL : i + 5 < (L : Int)) (hL2 : L ≤ 384) (h : Inv n μ) (hK : ∀ μ2 : Mem, Inv (n + 1) μ2 → ∃ μ', K μ2 = some (1, μ')) :
    ∃ μ', (ck (i + 1) L (ck (i + 2) L (bd (f_X9_loose μ (sc (w32 (i + 1)).toNat) (sc (w32 (i + 2)).toNat)) fun r m => ck (i + 1) L (ck (i + 2) L (bd (f_X10_loose m (sc (w32 (i + 1)).toNat) (sc (w32 (i + 2)).toNat)) fun r' m' => if w32 r = w32 r' then K m' else some (0, m')))))) = some (1, μ') := by
  have k1 : ∀ F : Option (Int × Mem), ck (i + 1) L F = F := fun F => law_ck (by omega) (by omega) (by omega)
  have k2 : ∀ F : Option (Int × Mem), ck (i + 2) L F = F := fun F => law_ck (by omega) (by omega) (by omega)
  simp only [k1, k2]
  exact law_pair (p_loose (hsc _) (hsc _)) h hK
theorem law_30 {L n : Nat} {sc : Nat → Int} {i : Int} {μ : Mem} {K : Mem → Option (Int × Mem)} (hn : n ≤ 900) (hsc : ∀ j, inR (sc j)) (hi : 0 ≤ i) (hL : i + 5 < (L : Int)) (hL2 : L ≤ 384) (h : Inv n μ) (hK : ∀ μ2 : Mem, Inv (n + 1) μ2 → ∃ μ', K μ2 = some (1, μ')) :
    ∃ μ', (ck (i + 1) L (ck (i + 2) L (bd (f_X9_votes μ (sc (w32 (i + 1)).toNat) (sc (w32 (i + 2)).toNat)) fun r m => ck (i + 1) L (ck (i + 2) L (bd (f_X10_votes m (sc (w32 (i + 1)).toNat) (sc (w32 (i + 2)).toNat)) fun r' m' => if w32 r = w32 r' then K m' else some (0, m')))))) = some (1, μ') := by
  have k1 : ∀ F : Option (Int × Mem), ck (i + 1) L F = F := fun F => law_ck (by omega) (by omega) (by omega)
  have k2 : ∀ F : Option (Int × Mem), ck (i + 2) L F = F := fun F => law_ck (by omega) (by omega) (by omega)
  simp only [k1, k2]
  exact law_pair (p_votes hn (hsc _) (hsc _)) h hK
theorem law_31 {L n : Nat} {sc : Nat → Int} {i : Int} {μ : Mem} {K : Mem → Option (Int × Mem)} (hn : n ≤ 900) (hsc : ∀ j, inR (sc j)) (hi : 0 ≤ i) (hL : i + 5 < (L : Int)) (hL2 : L ≤ 384) (h : Inv n μ) (hK : ∀ μ2 : Mem, Inv (n + 1) μ2 → ∃ μ', K μ2 = some (1, μ')) :
    ∃ μ', (bd (f_X9_choice μ) fun r m => bd (f_X10_choice m) fun r' m' => if w32 r = w32 r' then K m' else some (0, m')) = some (1, μ') := by
  exact law_pair (p_choice hn) h hK
theorem law_32 {L n : Nat} {sc : Nat → Int} {i : Int} {μ : Mem} {K : Mem → Option (Int × Mem)} (hn : n ≤ 900) (hsc : ∀ j, inR (sc j)) (hi : 0 ≤ i) (hL : i + 5 < (L : Int)) (hL2 : L ≤ 384) (h : Inv n μ) (hK : ∀ μ2 : Mem, Inv (n + 1) μ2 → ∃ μ', K μ2 = some (1, μ')) :
    ∃ μ', (ck (i + 1) L (bd (f_X9_parts μ (sc (w32 (i + 1)).toNat)) fun r m => ck (i + 1) L (bd (f_X10_parts m (sc (w32 (i + 1)).toNat)) fun r' m' => if w32 r = w32 r' then K m' else some (0, m')))) = some (1, μ') := by
  have k1 : ∀ F : Option (Int × Mem), ck (i + 1) L F = F := fun F => law_ck (by omega) (by omega) (by omega)
  simp only [k1]
  exact law_pair (p_parts hn (hsc _)) h hK
theorem law_33 {L n : Nat} {sc : Nat → Int} {i : Int} {μ : Mem} {K : Mem → Option (Int × Mem)} (hn : n ≤ 900) (hsc : ∀ j, inR (sc j)) (hi : 0 ≤ i) (hL : i + 5 < (L : Int)) (hL2 : L ≤ 384) (h : Inv n μ) (hK : ∀ μ2 : Mem, Inv (n + 1) μ2 → ∃ μ', K μ2 = some (1, μ')) :
    ∃ μ', (ck (i + 1) L (ck (i + 2) L (ck (i + 3) L (bd (f_X9_fits μ (sc (w32 (i + 1)).toNat) (sc (w32 (i + 2)).toNat) (sc (w32 (i + 3)).toNat)) fun r m => ck (i + 1) L (ck (i + 2) L (ck (i + 3) L (bd (f_X10_fits m (sc (w32 (i + 1)).toNat) (sc (w32 (i + 2)).toNat) (sc (w32 (i + 3)).toNat)) fun r' m' => if w32 r = w32 r' then K m' else some (0, m')))))))) = some (1, μ') := by
  have k1 : ∀ F : Option (Int × Mem), ck (i + 1) L F = F := fun F => law_ck (by omega) (by omega) (by omega)
  have k2 : ∀ F : Option (Int × Mem), ck (i + 2) L F = F := fun F => law_ck (by omega) (by omega) (by omega)
  have k3 : ∀ F : Option (Int × Mem), ck (i + 3) L F = F := fun F => law_ck (by omega) (by omega) (by omega)
  simp only [k1, k2, k3]
  exact law_pair (p_fits hn (hsc _) (hsc _) (hsc _)) h hK
theorem law_34 {L n : Nat} {sc : Nat → Int} {i : Int} {μ : Mem} {K : Mem → Option (Int × Mem)} (hn : n ≤ 900) (hsc : ∀ j, inR (sc j)) (hi : 0 ≤ i) (hL : i + 5 < (L : Int)) (hL2 : L ≤ 384) (h : Inv n μ) (hK : ∀ μ2 : Mem, Inv (n + 1) μ2 → ∃ μ', K μ2 = some (1, μ')) :
    ∃ μ', (ck (i + 1) L (ck (i + 2) L (bd (f_X9_slipped μ (sc (w32 (i + 1)).toNat) (sc (w32 (i + 2)).toNat)) fun r m => ck (i + 1) L (ck (i + 2) L (bd (f_X10_slipped m (sc (w32 (i + 1)).toNat) (sc (w32 (i + 2)).toNat)) fun r' m' => if w32 r = w32 r' then K m' else some (0, m')))))) = some (1, μ') := by
  have k1 : ∀ F : Option (Int × Mem), ck (i + 1) L F = F := fun F => law_ck (by omega) (by omega) (by omega)
  have k2 : ∀ F : Option (Int × Mem), ck (i + 2) L F = F := fun F => law_ck (by omega) (by omega) (by omega)
  simp only [k1, k2]
  exact law_pair (p_slipped hn (hsc _) (hsc _)) h hK
theorem law_35 {L n : Nat} {sc : Nat → Int} {i : Int} {μ : Mem} {K : Mem → Option (Int × Mem)} (hn : n ≤ 900) (hsc : ∀ j, inR (sc j)) (hi : 0 ≤ i) (hL : i + 5 < (L : Int)) (hL2 : L ≤ 384) (h : Inv n μ) (hK : ∀ μ2 : Mem, Inv (n + 1) μ2 → ∃ μ', K μ2 = some (1, μ')) :
    ∃ μ', (ck (i + 1) L (ck (i + 2) L (ck (i + 3) L (bd (f_X9_odds μ (sc (w32 (i + 1)).toNat) (sc (w32 (i + 2)).toNat) (sc (w32 (i + 3)).toNat)) fun r m => ck (i + 1) L (ck (i + 2) L (ck (i + 3) L (bd (f_X10_odds m (sc (w32 (i + 1)).toNat) (sc (w32 (i + 2)).toNat) (sc (w32 (i + 3)).toNat)) fun r' m' => if w32 r = w32 r' then K m' else some (0, m')))))))) = some (1, μ') := by
  have k1 : ∀ F : Option (Int × Mem), ck (i + 1) L F = F := fun F => law_ck (by omega) (by omega) (by omega)
  have k2 : ∀ F : Option (Int × Mem), ck (i + 2) L F = F := fun F => law_ck (by omega) (by omega) (by omega)
  have k3 : ∀ F : Option (Int × Mem), ck (i + 3) L F = F := fun F => law_ck (by omega) (by omega) (by omega)
  simp only [k1, k2, k3]
  exact law_pair (p_odds hn (hsc _) (hsc _) (hsc _)) h hK
theorem law_36 {L n : Nat} {sc : Nat → Int} {i : Int} {μ : Mem} {K : Mem → Option (Int × Mem)} (hn : n ≤ 900) (hsc : ∀ j, inR (sc j)) (hi : 0 ≤ i) (hL : i + 5 < (L : Int)) (hL2 : L ≤ 384) (h : Inv n μ) (hK : ∀ μ2 : Mem, Inv (n + 1) μ2 → ∃ μ', K μ2 = some (1, μ')) :
    ∃ μ', (ck (i + 1) L (ck (i + 2) L (bd (f_X9_lots μ (sc (w32 (i + 1)).toNat) (sc (w32 (i + 2)).toNat)) fun r m => ck (i + 1) L (ck (i + 2) L (bd (f_X10_lots m (sc (w32 (i + 1)).toNat) (sc (w32 (i + 2)).toNat)) fun r' m' => if w32 r = w32 r' then K m' else some (0, m')))))) = some (1, μ') := by
  have k1 : ∀ F : Option (Int × Mem), ck (i + 1) L F = F := fun F => law_ck (by omega) (by omega) (by omega)
  have k2 : ∀ F : Option (Int × Mem), ck (i + 2) L F = F := fun F => law_ck (by omega) (by omega) (by omega)
  simp only [k1, k2]
  exact law_pair (p_lots hn (hsc _) (hsc _)) h hK
theorem law_37 {L n : Nat} {sc : Nat → Int} {i : Int} {μ : Mem} {K : Mem → Option (Int × Mem)} (hn : n ≤ 900) (hsc : ∀ j, inR (sc j)) (hi : 0 ≤ i) (hL : i + 5 < (L : Int)) (hL2 : L ≤ 384) (h : Inv n μ) (hK : ∀ μ2 : Mem, Inv (n + 1) μ2 → ∃ μ', K μ2 = some (1, μ')) :
    ∃ μ', (bd (f_X9_asked μ) fun r m => bd (f_X10_asked m) fun r' m' => if w32 r = w32 r' then K m' else some (0, m')) = some (1, μ') := by
  exact law_pair (p_asked) h hK
theorem law_38 {L n : Nat} {sc : Nat → Int} {i : Int} {μ : Mem} {K : Mem → Option (Int × Mem)} (hn : n ≤ 900) (hsc : ∀ j, inR (sc j)) (hi : 0 ≤ i) (hL : i + 5 < (L : Int)) (hL2 : L ≤ 384) (h : Inv n μ) (hK : ∀ μ2 : Mem, Inv (n + 1) μ2 → ∃ μ', K μ2 = some (1, μ')) :
    ∃ μ', (bd (f_X9_upper μ) fun r m => bd (f_X10_upper m) fun r' m' => if w32 (ycmp r r') = 0 then K m' else some (0, m')) = some (1, μ') := by
  exact law_pairL (p_upper) h hK
theorem law_39 {L n : Nat} {sc : Nat → Int} {i : Int} {μ : Mem} {K : Mem → Option (Int × Mem)} (hn : n ≤ 900) (hsc : ∀ j, inR (sc j)) (hi : 0 ≤ i) (hL : i + 5 < (L : Int)) (hL2 : L ≤ 384) (h : Inv n μ) (hK : ∀ μ2 : Mem, Inv (n + 1) μ2 → ∃ μ', K μ2 = some (1, μ')) :
    ∃ μ', (bd (f_X9_lower μ) fun r m => bd (f_X10_lower m) fun r' m' => if w32 (ycmp r r') = 0 then K m' else some (0, m')) = some (1, μ') := by
  exact law_pairL (p_lower) h hK
theorem law_40 {L n : Nat} {sc : Nat → Int} {i : Int} {μ : Mem} {K : Mem → Option (Int × Mem)} (hn : n ≤ 900) (hsc : ∀ j, inR (sc j)) (hi : 0 ≤ i) (hL : i + 5 < (L : Int)) (hL2 : L ≤ 384) (h : Inv n μ) (hK : ∀ μ2 : Mem, Inv (n + 1) μ2 → ∃ μ', K μ2 = some (1, μ')) :
    ∃ μ', (ck (i + 1) L (bd (f_X9_count μ (sc (w32 (i + 1)).toNat)) fun r m => ck (i + 1) L (bd (f_X10_count m (sc (w32 (i + 1)).toNat)) fun r' m' => if w32 r = w32 r' then K m' else some (0, m')))) = some (1, μ') := by
  have k1 : ∀ F : Option (Int × Mem), ck (i + 1) L F = F := fun F => law_ck (by omega) (by omega) (by omega)
  simp only [k1]
  exact law_pair (p_count hn (hsc _)) h hK
theorem law_41 {L n : Nat} {sc : Nat → Int} {i : Int} {μ : Mem} {K : Mem → Option (Int × Mem)} (hn : n ≤ 900) (hsc : ∀ j, inR (sc j)) (hi : 0 ≤ i) (hL : i + 5 < (L : Int)) (hL2 : L ≤ 384) (h : Inv n μ) (hK : ∀ μ2 : Mem, Inv (n + 1) μ2 → ∃ μ', K μ2 = some (1, μ')) :
    ∃ μ', (bd (f_X9_finding μ) fun r m => bd (f_X10_finding m) fun r' m' => if w32 r = w32 r' then K m' else some (0, m')) = some (1, μ') := by
  exact law_pair (p_finding) h hK
theorem law_42 {L n : Nat} {sc : Nat → Int} {i : Int} {μ : Mem} {K : Mem → Option (Int × Mem)} (hn : n ≤ 900) (hsc : ∀ j, inR (sc j)) (hi : 0 ≤ i) (hL : i + 5 < (L : Int)) (hL2 : L ≤ 384) (h : Inv n μ) (hK : ∀ μ2 : Mem, Inv (n + 1) μ2 → ∃ μ', K μ2 = some (1, μ')) :
    ∃ μ', (ck (i + 1) L (bd (f_X9_findings μ (sc (w32 (i + 1)).toNat)) fun r m => ck (i + 1) L (bd (f_X10_findings m (sc (w32 (i + 1)).toNat)) fun r' m' => if w32 r = w32 r' then K m' else some (0, m')))) = some (1, μ') := by
  have k1 : ∀ F : Option (Int × Mem), ck (i + 1) L F = F := fun F => law_ck (by omega) (by omega) (by omega)
  simp only [k1]
  exact law_pair (p_findings (hsc _)) h hK
theorem law_43 {L n : Nat} {sc : Nat → Int} {i : Int} {μ : Mem} {K : Mem → Option (Int × Mem)} (hn : n ≤ 900) (hsc : ∀ j, inR (sc j)) (hi : 0 ≤ i) (hL : i + 5 < (L : Int)) (hL2 : L ≤ 384) (h : Inv n μ) (hK : ∀ μ2 : Mem, Inv (n + 1) μ2 → ∃ μ', K μ2 = some (1, μ')) :
    ∃ μ', (bd (f_X9_digest μ) fun r m => bd (f_X10_digest m) fun r' m' => if w32 (ycmp r r') = 0 then K m' else some (0, m')) = some (1, μ') := by
  exact law_pairL (p_digest hn) h hK
theorem law_loop {L : Nat} {sc : Nat → Int} (hL : L ≤ 384) (hsc : ∀ j, inR (sc j)) :
    ∀ (d u n i : Nat) (μ : Mem), L < i + 6 * (d + 1) → i ≤ 400 → d < u → n + d ≤ 900 → Inv n μ → ∃ μ', f_L_law_L18 L sc u (i : Int) μ = some (1, μ') := by
  intro d
  induction d with
  | zero =>
    intro u n i μ hi hb hu hn h
    obtain ⟨u, rfl⟩ : ∃ x, u = x + 1 := ⟨u - 1, by omega⟩
    refine ⟨μ, ?_⟩
    rw [f_L_law_L18, w32_id (a := (L : Int) - 6) (by omega) (by omega), w32_id (a := (i : Int)) (by omega) (by omega), if_pos (by omega)]
  | succ d ih =>
    intro u n i μ hi hb hu hn h
    obtain ⟨u, rfl⟩ : ∃ x, u = x + 1 := ⟨u - 1, by omega⟩
    have hn9 : n ≤ 900 := by omega
    have hi0 : (0 : Int) ≤ (i : Int) := by omega
    rw [f_L_law_L18]
    refine law_if (fun _ => ⟨μ, rfl⟩) (fun hc => ?_)
    rw [w32_id (a := (L : Int) - 6) (by omega) (by omega), w32_id (a := (i : Int)) (by omega) (by omega)] at hc
    have h5 : (i : Int) + 5 < (L : Int) := by omega
    rw [law_ck (a := (i : Int)) (by omega) (by omega) (by omega)]
    refine law_jn (n := n) (fun μ2 h2 => ?_) (fun K hK => ?_)
    · have k := ih u (n + 1) (i + 6) μ2 (by omega) (by omega) (by omega) (by omega) h2
      rw [show ((i + 6 : Nat) : Int) = (i : Int) + 6 by omega] at k
      exact k
    refine law_if (fun _ => law_0 hn9 hsc hi0 h5 hL h hK) (fun _ => ?_)
    refine law_if (fun _ => law_1 hn9 hsc hi0 h5 hL h hK) (fun _ => ?_)
    refine law_if (fun _ => law_2 hn9 hsc hi0 h5 hL h hK) (fun _ => ?_)
    refine law_if (fun _ => law_3 hn9 hsc hi0 h5 hL h hK) (fun _ => ?_)
    refine law_if (fun _ => law_4 hn9 hsc hi0 h5 hL h hK) (fun _ => ?_)
    refine law_if (fun _ => law_5 hn9 hsc hi0 h5 hL h hK) (fun _ => ?_)
    refine law_if (fun _ => law_6 hn9 hsc hi0 h5 hL h hK) (fun _ => ?_)
    refine law_if (fun _ => law_7 hn9 hsc hi0 h5 hL h hK) (fun _ => ?_)
    refine law_if (fun _ => law_8 hn9 hsc hi0 h5 hL h hK) (fun _ => ?_)
    refine law_if (fun _ => law_9 hn9 hsc hi0 h5 hL h hK) (fun _ => ?_)
    refine law_if (fun _ => law_10 hn9 hsc hi0 h5 hL h hK) (fun _ => ?_)
    refine law_if (fun _ => law_11 hn9 hsc hi0 h5 hL h hK) (fun _ => ?_)
    refine law_if (fun _ => law_12 hn9 hsc hi0 h5 hL h hK) (fun _ => ?_)
    refine law_if (fun _ => law_13 hn9 hsc hi0 h5 hL h hK) (fun _ => ?_)
    refine law_if (fun _ => law_14 hn9 hsc hi0 h5 hL h hK) (fun _ => ?_)
    refine law_if (fun _ => law_15 hn9 hsc hi0 h5 hL h hK) (fun _ => ?_)
    refine law_if (fun _ => law_16 hn9 hsc hi0 h5 hL h hK) (fun _ => ?_)
    refine law_if (fun _ => law_17 hn9 hsc hi0 h5 hL h hK) (fun _ => ?_)
    refine law_if (fun _ => law_18 hn9 hsc hi0 h5 hL h hK) (fun _ => ?_)
    refine law_if (fun _ => law_19 hn9 hsc hi0 h5 hL h hK) (fun _ => ?_)
    refine law_if (fun _ => law_20 hn9 hsc hi0 h5 hL h hK) (fun _ => ?_)
    refine law_if (fun _ => law_21 hn9 hsc hi0 h5 hL h hK) (fun _ => ?_)
    refine law_if (fun _ => law_22 hn9 hsc hi0 h5 hL h hK) (fun _ => ?_)
    refine law_if (fun _ => law_23 hn9 hsc hi0 h5 hL h hK) (fun _ => ?_)
    refine law_if (fun _ => law_24 hn9 hsc hi0 h5 hL h hK) (fun _ => ?_)
    refine law_if (fun _ => law_25 hn9 hsc hi0 h5 hL h hK) (fun _ => ?_)
    refine law_if (fun _ => law_26 hn9 hsc hi0 h5 hL h hK) (fun _ => ?_)
    refine law_if (fun _ => law_27 hn9 hsc hi0 h5 hL h hK) (fun _ => ?_)
    refine law_if (fun _ => law_28 hn9 hsc hi0 h5 hL h hK) (fun _ => ?_)
    refine law_if (fun _ => law_29 hn9 hsc hi0 h5 hL h hK) (fun _ => ?_)
    refine law_if (fun _ => law_30 hn9 hsc hi0 h5 hL h hK) (fun _ => ?_)
    refine law_if (fun _ => law_31 hn9 hsc hi0 h5 hL h hK) (fun _ => ?_)
    refine law_if (fun _ => law_32 hn9 hsc hi0 h5 hL h hK) (fun _ => ?_)
    refine law_if (fun _ => law_33 hn9 hsc hi0 h5 hL h hK) (fun _ => ?_)
    refine law_if (fun _ => law_34 hn9 hsc hi0 h5 hL h hK) (fun _ => ?_)
    refine law_if (fun _ => law_35 hn9 hsc hi0 h5 hL h hK) (fun _ => ?_)
    refine law_if (fun _ => law_36 hn9 hsc hi0 h5 hL h hK) (fun _ => ?_)
    refine law_if (fun _ => law_37 hn9 hsc hi0 h5 hL h hK) (fun _ => ?_)
    refine law_if (fun _ => law_38 hn9 hsc hi0 h5 hL h hK) (fun _ => ?_)
    refine law_if (fun _ => law_39 hn9 hsc hi0 h5 hL h hK) (fun _ => ?_)
    refine law_if (fun _ => law_40 hn9 hsc hi0 h5 hL h hK) (fun _ => ?_)
    refine law_if (fun _ => law_41 hn9 hsc hi0 h5 hL h hK) (fun _ => ?_)
    refine law_if (fun _ => law_42 hn9 hsc hi0 h5 hL h hK) (fun _ => ?_)
    refine law_if (fun _ => law_43 hn9 hsc hi0 h5 hL h hK) (fun _ => ?_)
    exact hK μ (h.up (Nat.le_succ n))
