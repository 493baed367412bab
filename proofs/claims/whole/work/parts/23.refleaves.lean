/-- the reference holds S -/
def vM (M : mm_M) (S : sS) : Prop := ∀ k, k < 82 → mI M 47 k = nI (S k)
def spop (s : Nat) : Nat := ([0, 1, 1, 2, 1, 2, 2, 3, 1, 2, 2, 3, 2, 3, 3, 4] : List Nat).getD s 0
def sbit (s b : Nat) : Bool := decide (s / 2 ^ b % 2 = 1)
theorem bit_has : ∀ s : Fin 16, ∀ b : Fin 4, decide (((nI s.1 >>> (nI b.1 &&& 31)) &&& 1) = 1) = sbit s.1 b.1 := by decide +kernel
theorem bit_has' {s b : Nat} (hs : s < 16) (hb : b < 4) : (((nI s >>> (nI b &&& 31)) &&& 1) = 1) = (sbit s b = true) := by
  have h := bit_has ⟨s, hs⟩ ⟨b, hb⟩
  rw [← h]
  simp
theorem two_pow_le {n : Nat} (h : n ≤ 4) : 2 ^ n ≤ 16 := by
  have : n = 0 ∨ n = 1 ∨ n = 2 ∨ n = 3 ∨ n = 4 := by omega
  rcases this with rfl | rfl | rfl | rfl | rfl <;> decide
section REFLEAF
variable {M : mm_M} {S : sS}
theorem y_in (x lo hi : Int32) (M : mm_M) : f7_in x lo hi M = some (if x < lo then 0 else if hi < x then 0 else 1, M) := by
  unfold f7_in l7_in_14 l7_in_15
  by_cases h1 : x < lo
  · simp [h1, rZ0]
  · by_cases h2 : hi < x
    · simp [h1, h2, rZ0]
    · simp [h1, h2, rZ1]
theorem y_in0 (x : Int32) {n : Nat} (hn : n < 2 ^ 31) (M : mm_M) : f7_in x 0 (nI n - 1) M = some (if okR x n = true then 1 else 0, M) := by
  rw [y_in]
  simp only [nx_predlt hn, okR]
  by_cases h1 : x < 0
  · simp [h1]
  · by_cases h2 : nI n ≤ x
    · simp [h1, h2]
    · simp [h1, h2]
theorem y_isBus (h : vM M S) (hw : sWF S) (x : Int32) : f7_isBus x M = some (if okR x (S 1) = true then 1 else 0, M) := by
  have h4 := hw.B
  unfold f7_isBus
  rw [nx_l1, aI_in (by omega) (by omega), h 1 (by omega), ← nx_l1, y_in0 x (by omega), cI_some]
  by_cases h1 : okR x (S 1) = true <;> simp [h1, rZ0, rZ1]
theorem y_isSlot (h : vM M S) (hw : sWF S) (x : Int32) : f7_isSlot x M = some (if okR x (S 0) = true then 1 else 0, M) := by
  have h4 := hw.T
  unfold f7_isSlot
  rw [nx_lit0, aI_in (by omega) (by omega), h 0 (by omega), ← nx_lit0, y_in0 x (by omega), cI_some]
  by_cases h1 : okR x (S 0) = true <;> simp [h1, rZ0, rZ1]
theorem y_of (h : vM M S) {b w : Nat} (hb : b < 4) (hw : w < 6) : f7_of (nI b) (nI w) M = some (nI (S (50 + 6 * b + w)), M) := by
  unfold f7_of
  simp only [nx_l50, nx_l6, nx_mul, nx_add]
  rw [aI_in (by omega) (by omega), h _ (by omega)]
theorem y_has {s b : Nat} (hs : s < 16) (hb : b < 4) (M : mm_M) : f7_has (nI s) (nI b) M = some (if sbit s b = true then 1 else 0, M) := by
  unfold f7_has l7_has_14
  simp only [bit_has' hs hb]
  by_cases h : sbit s b = true <;> simp [h, rZ0, rZ1]
theorem bits_step : ∀ s : Fin 16, s.1 ≠ 0 → (nI s.1 &&& (nI s.1 - 1)) = nI (s.1 &&& (s.1 - 1)) ∧ (s.1 &&& (s.1 - 1)) < s.1 ∧ spop s.1 = spop (s.1 &&& (s.1 - 1)) + 1 := by decide +kernel
theorem y_bits_loop (M : mm_M) : ∀ (n s k : Nat), s < n → s < 16 → k + s < 1000 → l7_bits_4 n (nI k) (nI s) M = some (nI (k + spop s), M) := by
  intro n
  induction n with
  | zero => intro s k h; omega
  | succ n ih =>
    intro s k hn hs hk
    unfold l7_bits_4 b7_bits_4
    by_cases h0 : s = 0
    · subst h0
      rw [if_pos (show nI 0 = 0 from rfl)]
      rfl
    · rw [if_neg (by rw [nx_lit0, nx_eq (by omega) (by omega)]; exact h0)]
      obtain ⟨e1, e2, e3⟩ := bits_step ⟨s, hs⟩ h0
      simp only at e1 e2 e3
      rw [bI_eq, e1, nx_l1, nx_add, ih _ (k + 1) (by omega) (by omega) (by omega), e3]
      congr 3
      omega
theorem y_bits {s : Nat} (hs : s < 16) (M : mm_M) : f7_bits (nI s) M = some (nI (spop s), M) := by
  unfold f7_bits
  have := y_bits_loop M FU s 0 (by have := FU_big; omega) hs (by omega)
  rw [Nat.zero_add] at this
  exact this
theorem y_less {a b : Nat} (ha : a < 2 ^ 31) (hb : b < 2 ^ 31) (M : mm_M) : f7_less (nI a) (nI b) M = some (nI (min a b), M) := by
  unfold f7_less l7_less_10
  simp only [nx_le hb ha]
  by_cases h : b ≤ a
  · rw [if_pos h, Nat.min_eq_right h]
  · rw [if_neg h, Nat.min_eq_left (by omega)]
theorem y_takes_loop (h : vM M S) (hw : sWF S) {b lev pow : Nat} (hb : b < S 1) (hl : lev ≤ scap S b) (hp : pow < 1000) (hpw : mI M 46 12 = nI pow) : ∀ (k n : Nat), k < n → k < S (14 + 9 * S (50 + 6 * b)) →
    l7_takesOf_23 n (nI b) (nI lev) (nI (14 + 9 * S (50 + 6 * b))) (nI k) M = some (nI (min (min pow (scap S b - lev)) (S (14 + 9 * S (50 + 6 * b) + 2 + 2 * spick S (S (50 + 6 * b)) (scap S b) lev k))), M) := by
  have h4 := hw.B
  have h5 := hw.C
  have hb2 := hw.bus b hb
  obtain ⟨⟨p1, p2⟩, p0, h3⟩ := hw.crv _ hb2.1
  have hcap : scap S b ≤ 200 := hb2.2.1.2
  have body : ∀ (n k : Nat) (rec : Int32 → Int32 → Int32 → Int32 → mm_M → Option (Int32 × mm_M)), k < S (14 + 9 * S (50 + 6 * b)) → b7_takesOf_23 rec (nI b) (nI lev) (nI (14 + 9 * S (50 + 6 * b))) (nI k) M =
      if S (14 + 9 * S (50 + 6 * b) + 1 + 2 * k) * scap S b ≤ lev * 100 then some (nI (min (min pow (scap S b - lev)) (S (14 + 9 * S (50 + 6 * b) + 2 + 2 * k))), M) else rec (nI b) (nI lev) (nI (14 + 9 * S (50 + 6 * b))) (nI k + (-1)) M := by
    intro n k rec hk
    have hf := h3 k hk
    have hm : S (14 + 9 * S (50 + 6 * b) + 1 + 2 * k) * scap S b ≤ 100 * 200 := Nat.mul_le_mul hf.1 hcap
    unfold b7_takesOf_23
    simp only [nx_l1, nx_l2, nx_l100, nx_mul, nx_add]
    rw [aI_in (by omega) (by omega), h _ (by omega), y_of h (by omega) (by omega), cI_some]
    simp only [nx_mul]
    rw [show 14 + 9 * S (50 + 6 * b) + 2 * k + 1 = 14 + 9 * S (50 + 6 * b) + 1 + 2 * k by omega, show S (50 + 6 * b + 1) = scap S b from rfl, show 100 * lev = lev * 100 by omega]
    simp only [nx_le (show S (14 + 9 * S (50 + 6 * b) + 1 + 2 * k) * scap S b < 2 ^ 31 by omega) (show lev * 100 < 2 ^ 31 by omega)]
    by_cases hc : S (14 + 9 * S (50 + 6 * b) + 1 + 2 * k) * scap S b ≤ lev * 100
    · rw [if_pos hc, if_pos hc, bI_eq, hpw, aI_in (by omega) (by omega), h _ (by omega), show 14 + 9 * S (50 + 6 * b) + 2 * k + 2 = 14 + 9 * S (50 + 6 * b) + 2 + 2 * k by omega, y_less (by omega) (by omega), cI_some, y_of h (by omega) (by omega), cI_some, show S (50 + 6 * b + 1) = scap S b from rfl, nx_sub hl, y_less (by omega) (by omega), cI_some]
      congr 3
      omega
    · rw [if_neg hc, if_neg hc]
  intro k
  induction k with
  | zero =>
    intro n hn hk
    obtain ⟨n, rfl⟩ : ∃ m, n = m + 1 := ⟨n - 1, by omega⟩
    unfold l7_takesOf_23
    rw [body n 0 _ hk, if_pos (by rw [show 14 + 9 * S (50 + 6 * b) + 1 + 2 * 0 = 14 + 9 * S (50 + 6 * b) + 1 by omega, p0]; omega)]
    rfl
  | succ k ih =>
    intro n hn hk
    obtain ⟨n, rfl⟩ : ∃ m, n = m + 1 := ⟨n - 1, by omega⟩
    unfold l7_takesOf_23
    rw [body n (k + 1) _ hk]
    by_cases hc : S (14 + 9 * S (50 + 6 * b) + 1 + 2 * (k + 1)) * scap S b ≤ lev * 100
    · rw [if_pos hc]
      simp only [spick, if_pos hc]
    · rw [if_neg hc, nx_pred (by omega), show k + 1 - 1 = k by omega, ih n (by omega) (by omega)]
      simp only [spick, if_neg hc]
theorem y_takes (h : vM M S) (hw : sWF S) {b lev pow : Nat} (hb : b < S 1) (hl : lev ≤ scap S b) (hp : pow < 1000) (hpw : mI M 46 12 = nI pow) : f7_takesOf (nI b) (nI lev) M = some (nI (sgain S pow b lev), M) := by
  have h4 := hw.B
  have h5 := hw.C
  have hb2 := hw.bus b hb
  obtain ⟨⟨p1, p2⟩, -, -⟩ := hw.crv _ hb2.1
  have hF := FU_big
  unfold f7_takesOf
  simp only [nx_lit0, y_of h (show b < 4 by omega) (show 0 < 6 by omega), cI_some, nx_l14, nx_l9, nx_mul, nx_add, bI_eq, Nat.add_zero]
  rw [aI_in (by omega) (by omega), h _ (by omega)]
  rw [nx_l1, nx_sub p1]
  rw [y_takes_loop h hw hb hl hp hpw _ FU (by omega) (by omega)]
  rfl
end REFLEAF
