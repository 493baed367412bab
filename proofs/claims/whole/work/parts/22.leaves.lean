/-! leaves of both sides -/
section VDF
variable {M : mm_M} {d : Nat} {S : sS}
theorem vD.ok (h : vD M d S) : isD d = true := h.1
theorem vD.T (h : vD M d S) : mI M d 0 = nI (S 0) := h.2.1
theorem vD.C (h : vD M d S) : mI M d 1 = nI (S 2) := h.2.2.1
theorem vD.B (h : vD M d S) : mI M d 2 = nI (S 1) := h.2.2.2.1
theorem vD.set (h : vD M d S) : ∀ k, k < 3 → mI M (d + 1) k = nI (S (3 + k)) := h.2.2.2.2.1
theorem vD.price (h : vD M d S) : ∀ s, s < 8 → mI M (d + 2) s = nI (S (6 + s)) := h.2.2.2.2.2.1
theorem vD.plan (h : vD M d S) : ∀ s, s < 8 → mI M (d + 3) s = nI (S (74 + s)) := h.2.2.2.2.2.2.1
theorem vD.pc (h : vD M d S) : ∀ c, c < 4 → mI M (d + 4) c = nI (S (14 + 9 * c)) := h.2.2.2.2.2.2.2.1
theorem vD.fr (h : vD M d S) : ∀ c k, c < 4 → k < 4 → mI M (d + 5) (4 * c + k) = nI (S (14 + 9 * c + 1 + 2 * k)) := h.2.2.2.2.2.2.2.2.1
theorem vD.ra (h : vD M d S) : ∀ c k, c < 4 → k < 4 → mI M (d + 6) (4 * c + k) = nI (S (14 + 9 * c + 2 + 2 * k)) := h.2.2.2.2.2.2.2.2.2.1
theorem vD.fact (h : vD M d S) : ∀ b w, b < 4 → w < 6 → mI M (d + 7) (6 * b + w) = nI (S (50 + 6 * b + w)) := h.2.2.2.2.2.2.2.2.2.2
end VDF
def okR (x : Int32) (n : Nat) : Bool := !(decide (x < 0)) && !(decide (nI n ≤ x))
theorem okR_t {x : Int32} {n : Nat} (h : okR x n = true) (hn : n < 2 ^ 31) : ∃ b, b < n ∧ x = nI b := by
  simp only [okR, Bool.and_eq_true, Bool.not_eq_true', decide_eq_false_iff_not] at h
  exact nx_rng hn h.1 h.2
theorem okR_nI {b n : Nat} (hb : b < 2 ^ 31) (hn : n < 2 ^ 31) : okR (nI b) n = decide (b < n) := by
  unfold okR
  simp only [nx_lt0 hb, nx_le hn hb]
  by_cases h : b < n
  · simp [h, show ¬ n ≤ b by omega]
  · simp [h, show n ≤ b by omega]
theorem nx_predlt {n : Nat} (h : n < 2 ^ 31) (x : Int32) : (nI n - 1 < x) = (nI n ≤ x) := by
  have e : (nI n - 1).toInt = (n : Int) - 1 := by
    cases n with
    | zero => rfl
    | succ k =>
      rw [show nI (k + 1) - 1 = nI k from nI_pred k, nI_toInt (by omega)]
      omega
  rw [Int32.lt_iff_toInt_lt, Int32.le_iff_toInt_le, e, nI_toInt h]
  apply propext
  omega
section LEAF
variable {M : mm_M} {d : Nat} {S : sS}
theorem x_fact (h : vD M d S) {b w : Nat} (hb : b < 4) (hw : w < 6) : f0_fact d (nI b) (nI w) M = some (nI (S (50 + 6 * b + w)), M) := by
  unfold f0_fact
  rw [if_pos h.ok]
  simp only [nx_l6, nx_mul, nx_add]
  rw [aI_in (by omega) (by omega), show b * 6 + w = 6 * b + w by omega, h.fact b w hb hw]
theorem x_hasSlot (h : vD M d S) (x : Int32) : f0_hasSlot d x M = some (if okR x (S 0) = true then 1 else 0, M) := by
  unfold f0_hasSlot l0_hasSlot_16 l0_hasSlot_17
  rw [if_pos h.ok]
  simp only [bI_eq, h.T, okR]
  by_cases h1 : x < 0
  · simp [h1, rZ0]
  · by_cases h2 : nI (S 0) ≤ x
    · simp [h1, h2, rZ0]
    · simp [h1, h2, rZ1]
theorem x_hasBus (h : vD M d S) (x : Int32) : f0_hasBus d x M = some (if okR x (S 1) = true then 1 else 0, M) := by
  unfold f0_hasBus l0_hasBus_16 l0_hasBus_17
  rw [if_pos h.ok]
  simp only [bI_eq, h.B, okR]
  by_cases h1 : x < 0
  · simp [h1, rZ0]
  · by_cases h2 : nI (S 1) ≤ x
    · simp [h1, h2, rZ0]
    · simp [h1, h2, rZ1]
theorem x_hasCurve (h : vD M d S) (x : Int32) : f0_hasCurve d x M = some (if okR x (S 2) = true then 1 else 0, M) := by
  unfold f0_hasCurve l0_hasCurve_16 l0_hasCurve_17
  rw [if_pos h.ok]
  simp only [bI_eq, h.C, okR]
  by_cases h1 : x < 0
  · simp [h1, rZ0]
  · by_cases h2 : nI (S 2) ≤ x
    · simp [h1, h2, rZ0]
    · simp [h1, h2, rZ1]
/-- is a BUS there: comes ≤ s < goes -/
def sthere (com go s : Nat) : Bool := decide (com ≤ s) && decide (s < go)
theorem x_isThere (h : vD M d S) (hw : sWF S) {b s : Nat} (hb : b < S 1) (hs : s < 100) : f0_isThere d (nI b) (nI s) M = some (if sthere (scom S b) (sgo S b) s = true then 1 else 0, M) := by
  have h4 := hw.B
  have h8 := hw.T
  have hb2 := hw.bus b hb
  unfold f0_isThere l0_isThere_24 l0_isThere_25
  rw [if_pos h.ok]
  simp only [nx_l4, nx_l5, x_fact h (show b < 4 by omega) (show 4 < 6 by omega), x_fact h (show b < 4 by omega) (show 5 < 6 by omega), cI_some]
  simp only [sthere, scom, sgo]
  simp only [nx_lt (show s < 2 ^ 31 by omega) (show S (50 + 6 * b + 4) < 2 ^ 31 by omega), nx_le (show S (50 + 6 * b + 5) < 2 ^ 31 by omega) (show s < 2 ^ 31 by omega)]
  by_cases h1 : s < S (50 + 6 * b + 4)
  · simp [h1, rZ0, show ¬ S (50 + 6 * b + 4) ≤ s by omega]
  · by_cases h2 : S (50 + 6 * b + 5) ≤ s
    · simp [h1, h2, rZ0, show ¬ s < S (50 + 6 * b + 5) by omega]
    · simp [h1, h2, rZ1, show S (50 + 6 * b + 4) ≤ s by omega, show s < S (50 + 6 * b + 5) by omega]
theorem x_hasLevel (h : vD M d S) (hw : sWF S) (x y : Int32) : f0_hasLevel d x y M = some (if okR x (S 1) = true ∧ okR y (scap S x.toNatClampNeg + 1) = true then 1 else 0, M) := by
  have h4 := hw.B
  unfold f0_hasLevel l0_hasLevel_26 l0_hasLevel_27
  rw [if_pos h.ok, x_hasBus h, cI_some]
  by_cases h1 : okR x (S 1) = true
  · obtain ⟨b, hb, rfl⟩ := okR_t h1 (by omega)
    have hb2 := hw.bus b hb
    rw [nx_cl (by omega)]
    simp only [h1, if_true, nx_z1, if_false, true_and]
    by_cases h2 : y < 0
    · simp [h2, okR, rZ0]
    · simp only [h2, if_false, nx_l1, x_fact h (show b < 4 by omega) (show 1 < 6 by omega), cI_some]
      obtain ⟨v, hv, rfl⟩ := nx_of h2
      rw [okR_nI hv (by unfold scap; omega)]
      simp only [nx_lt (show S (50 + 6 * b + 1) < 2 ^ 31 by omega) hv, scap]
      by_cases h3 : S (50 + 6 * b + 1) < v
      · simp [h3, rZ0, show ¬ v < S (50 + 6 * b + 1) + 1 by omega]
      · simp [h3, show v < S (50 + 6 * b + 1) + 1 by omega]
        rfl
  · simp [h1, rZ0]
theorem x_gain_loop (h : vD M d S) (hw : sWF S) {b lev pow : Nat} (hb : b < S 1) (hl : lev ≤ 200) (hl2 : lev ≤ scap S b) (hp : pow < 1000) : ∀ (k n : Nat), k < n → k < S (14 + 9 * S (50 + 6 * b)) →
    l0_gain_47 n d (nI lev) (nI pow) (nI (scap S b)) (nI (S (50 + 6 * b) * 4)) (nI k) M = some (nI (min (min pow (scap S b - lev)) (S (14 + 9 * S (50 + 6 * b) + 2 + 2 * spick S (S (50 + 6 * b)) (scap S b) lev k))), M) := by
  have h4 := hw.C
  have hb2 := hw.bus b hb
  obtain ⟨⟨p1, p2⟩, -, h3⟩ := hw.crv _ hb2.1
  have hcap : scap S b ≤ 200 := hb2.2.1.2
  have fin : ∀ k, k < S (14 + 9 * S (50 + 6 * b)) → l0_gain_78 d (nI lev) (nI pow) (nI (scap S b)) (nI (S (50 + 6 * b) * 4)) (nI k) M = some (nI (min (min pow (scap S b - lev)) (S (14 + 9 * S (50 + 6 * b) + 2 + 2 * k))), M) := by
    intro k hk
    have hr := (h3 k hk).2
    unfold l0_gain_78
    simp only [bI_eq, nx_add]
    rw [nx_sub hl2, mi_nI (by omega) (by omega), aI_in (by omega) (by omega), show S (50 + 6 * b) * 4 + k = 4 * S (50 + 6 * b) + k by omega, h.ra _ k (by omega) (by omega), mi_nI (by omega) (by omega)]
  intro k
  induction k with
  | zero =>
    intro n hn hk
    obtain ⟨n, rfl⟩ : ∃ m, n = m + 1 := ⟨n - 1, by omega⟩
    unfold l0_gain_47 b0_gain_47
    rw [if_pos (by rw [nx_lit0, nx_le (by omega) (by omega)]; exact Nat.le_refl _)]
    rw [fin 0 hk]
    rfl
  | succ k ih =>
    intro n hn hk
    obtain ⟨n, rfl⟩ : ∃ m, n = m + 1 := ⟨n - 1, by omega⟩
    have hf := (h3 (k + 1) hk).1
    unfold l0_gain_47 b0_gain_47
    rw [if_neg (by rw [nx_lit0, nx_le (by omega) (by omega)]; omega)]
    simp only [nx_add]
    rw [aI_in (by omega) (by omega), show S (50 + 6 * b) * 4 + (k + 1) = 4 * S (50 + 6 * b) + (k + 1) by omega, h.fr _ (k + 1) (by omega) (by omega)]
    simp only [nx_l100, nx_mul]
    have hm : S (14 + 9 * S (50 + 6 * b) + 1 + 2 * (k + 1)) * scap S b ≤ 100 * 200 := Nat.mul_le_mul hf hcap
    simp only [nx_le (show S (14 + 9 * S (50 + 6 * b) + 1 + 2 * (k + 1)) * scap S b < 2 ^ 31 by omega) (show lev * 100 < 2 ^ 31 by omega)]
    by_cases hc : S (14 + 9 * S (50 + 6 * b) + 1 + 2 * (k + 1)) * scap S b ≤ lev * 100
    · rw [if_pos hc, fin (k + 1) hk]
      simp only [spick, if_pos hc]
    · rw [if_neg hc, nx_pred (by omega), show k + 1 - 1 = k by omega, ih n (by omega) (by omega)]
      simp only [spick, if_neg hc]
theorem FU_big : 100000 < FU := by unfold FU; decide
theorem x_gain (h : vD M d S) (hw : sWF S) {b lev pow : Nat} (hb : b < S 1) (hl2 : lev ≤ scap S b) (hp : pow < 1000) : f0_gain d (nI b) (nI lev) (nI pow) M = some (nI (sgain S pow b lev), M) := by
  have h4 := hw.B
  have h5 := hw.C
  have hb2 := hw.bus b hb
  obtain ⟨⟨p1, p2⟩, -, -⟩ := hw.crv _ hb2.1
  have hF := FU_big
  have hcap : scap S b ≤ 200 := hb2.2.1.2
  unfold f0_gain
  rw [if_pos h.ok]
  simp only [nx_l6, nx_l1, nx_lit0, nx_mul, nx_add]
  rw [aI_in (by omega) (by omega), aI_in (by omega) (by omega), show b * 6 + 1 = 6 * b + 1 by omega, show b * 6 + 0 = 6 * b + 0 by omega, h.fact b 1 (by omega) (by omega), h.fact b 0 (by omega) (by omega)]
  simp only [bI_eq, nx_l4, nx_mul, Nat.add_zero]
  rw [aI_in (by omega) (by omega), h.pc _ (by omega), nx_sub p1, mx_nI (by omega) (by omega), show max 0 (S (14 + 9 * S (50 + 6 * b)) - 1) = S (14 + 9 * S (50 + 6 * b)) - 1 by omega]
  have := x_gain_loop h hw hb (show lev ≤ 200 by omega) hl2 hp (S (14 + 9 * S (50 + 6 * b)) - 1) FU (by omega) (by omega)
  rw [show S (50 + 6 * b + 1) = scap S b from rfl, this]
  rfl
end LEAF
