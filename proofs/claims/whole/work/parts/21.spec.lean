/-! what is told, as numbers: S 0 T, 1 BUSES, 2 CURVES, 3 PLUGS, 4 POWER, 5 LIMIT, 6.. PRICES, 14 + 9c PIECES of c, then FROM and RATE of each, 50 + 6b.. a BUS, 74.. the PLAN -/
abbrev sS : Type := Nat → Nat
def sWF (S : sS) : Prop :=
  (1 ≤ S 0 ∧ S 0 ≤ 8) ∧ S 1 ≤ 4 ∧ S 2 ≤ 4 ∧ (1 ≤ S 3 ∧ S 3 ≤ 4) ∧ (1 ≤ S 4 ∧ S 4 ≤ 50) ∧ (1 ≤ S 5 ∧ S 5 ≤ 200) ∧ (∀ s, s < 8 → S (6 + s) ≤ 99) ∧
  (∀ c, c < S 2 → (1 ≤ S (14 + 9 * c) ∧ S (14 + 9 * c) ≤ 4) ∧ S (14 + 9 * c + 1) = 0 ∧ ∀ k, k < S (14 + 9 * c) → S (14 + 9 * c + 1 + 2 * k) ≤ 100 ∧ 1 ≤ S (14 + 9 * c + 2 + 2 * k) ∧ S (14 + 9 * c + 2 + 2 * k) ≤ 50) ∧
  (∀ b, b < S 1 → S (50 + 6 * b) < S 2 ∧ (1 ≤ S (50 + 6 * b + 1) ∧ S (50 + 6 * b + 1) ≤ 200) ∧ S (50 + 6 * b + 2) ≤ S (50 + 6 * b + 1) ∧ S (50 + 6 * b + 3) ≤ S (50 + 6 * b + 1) ∧ S (50 + 6 * b + 4) < S (50 + 6 * b + 5) ∧ S (50 + 6 * b + 5) ≤ S 0) ∧
  (∀ b, b < 4 → S (50 + 6 * b + 4) ≤ 8) ∧ (∀ s, s < 8 → S (74 + s) < 2 ^ S 1) ∧ ∀ s, S 0 ≤ s → s < 8 → S (74 + s) = 0
theorem sWF.T {S : sS} (h : sWF S) : 1 ≤ S 0 ∧ S 0 ≤ 8 := h.1
theorem sWF.B {S : sS} (h : sWF S) : S 1 ≤ 4 := h.2.1
theorem sWF.C {S : sS} (h : sWF S) : S 2 ≤ 4 := h.2.2.1
theorem sWF.plug {S : sS} (h : sWF S) : 1 ≤ S 3 ∧ S 3 ≤ 4 := h.2.2.2.1
theorem sWF.pow {S : sS} (h : sWF S) : 1 ≤ S 4 ∧ S 4 ≤ 50 := h.2.2.2.2.1
theorem sWF.lim {S : sS} (h : sWF S) : 1 ≤ S 5 ∧ S 5 ≤ 200 := h.2.2.2.2.2.1
theorem sWF.price {S : sS} (h : sWF S) : ∀ s, s < 8 → S (6 + s) ≤ 99 := h.2.2.2.2.2.2.1
theorem sWF.crv {S : sS} (h : sWF S) : ∀ c, c < S 2 → (1 ≤ S (14 + 9 * c) ∧ S (14 + 9 * c) ≤ 4) ∧ S (14 + 9 * c + 1) = 0 ∧ ∀ k, k < S (14 + 9 * c) → S (14 + 9 * c + 1 + 2 * k) ≤ 100 ∧ 1 ≤ S (14 + 9 * c + 2 + 2 * k) ∧ S (14 + 9 * c + 2 + 2 * k) ≤ 50 := h.2.2.2.2.2.2.2.1
theorem sWF.bus {S : sS} (h : sWF S) : ∀ b, b < S 1 → S (50 + 6 * b) < S 2 ∧ (1 ≤ S (50 + 6 * b + 1) ∧ S (50 + 6 * b + 1) ≤ 200) ∧ S (50 + 6 * b + 2) ≤ S (50 + 6 * b + 1) ∧ S (50 + 6 * b + 3) ≤ S (50 + 6 * b + 1) ∧ S (50 + 6 * b + 4) < S (50 + 6 * b + 5) ∧ S (50 + 6 * b + 5) ≤ S 0 := h.2.2.2.2.2.2.2.2.1
theorem sWF.com {S : sS} (h : sWF S) : ∀ b, b < 4 → S (50 + 6 * b + 4) ≤ 8 := h.2.2.2.2.2.2.2.2.2.1
theorem sWF.set {S : sS} (h : sWF S) : ∀ s, s < 8 → S (74 + s) < 2 ^ S 1 := h.2.2.2.2.2.2.2.2.2.2.1
theorem sWF.out {S : sS} (h : sWF S) : ∀ s, S 0 ≤ s → s < 8 → S (74 + s) = 0 := h.2.2.2.2.2.2.2.2.2.2.2
/-- the depot d holds S -/
def vD (M : mm_M) (d : Nat) (S : sS) : Prop :=
  isD d = true ∧ mI M d 0 = nI (S 0) ∧ mI M d 1 = nI (S 2) ∧ mI M d 2 = nI (S 1) ∧ (∀ k, k < 3 → mI M (d + 1) k = nI (S (3 + k))) ∧ (∀ s, s < 8 → mI M (d + 2) s = nI (S (6 + s))) ∧ (∀ s, s < 8 → mI M (d + 3) s = nI (S (74 + s))) ∧
  (∀ c, c < 4 → mI M (d + 4) c = nI (S (14 + 9 * c))) ∧ (∀ c k, c < 4 → k < 4 → mI M (d + 5) (4 * c + k) = nI (S (14 + 9 * c + 1 + 2 * k))) ∧ (∀ c k, c < 4 → k < 4 → mI M (d + 6) (4 * c + k) = nI (S (14 + 9 * c + 2 + 2 * k))) ∧ ∀ b w, b < 4 → w < 6 → mI M (d + 7) (6 * b + w) = nI (S (50 + 6 * b + w))
/-- the piece that holds at a level: from k on down -/
def spick (S : sS) (c cap lev : Nat) : Nat → Nat
  | 0 => 0
  | k + 1 => if S (14 + 9 * c + 1 + 2 * (k + 1)) * cap ≤ lev * 100 then k + 1 else spick S c cap lev k
theorem spick_le (S : sS) (c cap lev : Nat) : ∀ k, spick S c cap lev k ≤ k
  | 0 => Nat.le_refl _
  | k + 1 => by
    unfold spick
    split
    · exact Nat.le_refl _
    · exact Nat.le_succ_of_le (spick_le S c cap lev k)
def scap (S : sS) (b : Nat) : Nat := S (50 + 6 * b + 1)
def slev (S : sS) (b : Nat) : Nat := S (50 + 6 * b + 2)
def sneed (S : sS) (b : Nat) : Nat := S (50 + 6 * b + 3)
def scom (S : sS) (b : Nat) : Nat := S (50 + 6 * b + 4)
def sgo (S : sS) (b : Nat) : Nat := S (50 + 6 * b + 5)
def srate (S : sS) (b lev : Nat) : Nat := S (14 + 9 * S (50 + 6 * b) + 2 + 2 * spick S (S (50 + 6 * b)) (scap S b) lev (S (14 + 9 * S (50 + 6 * b)) - 1))
/-- TAKES, with POWER pow -/
def sgain (S : sS) (pow b lev : Nat) : Nat := min (min pow (scap S b - lev)) (srate S b lev)
theorem srate_bd {S : sS} (h : sWF S) {b : Nat} (hb : b < S 1) (lev : Nat) : 1 ≤ srate S b lev ∧ srate S b lev ≤ 50 := by
  have h1 := (h.bus b hb).1
  obtain ⟨⟨p1, p2⟩, -, h3⟩ := h.crv _ h1
  have hk := spick_le S (S (50 + 6 * b)) (scap S b) lev (S (14 + 9 * S (50 + 6 * b)) - 1)
  exact (h3 _ (by omega)).2
theorem sgain_le {S : sS} (pow b lev : Nat) : sgain S pow b lev ≤ scap S b - lev := Nat.le_trans (Nat.min_le_left _ _) (Nat.min_le_right _ _)
theorem sgain_pos {S : sS} (h : sWF S) {pow b lev : Nat} (hb : b < S 1) (hp : 1 ≤ pow) (hl : lev < scap S b) : 1 ≤ sgain S pow b lev := by
  have := (srate_bd h hb lev).1
  unfold sgain
  omega
/-- the fewest charges from lev to to -/
def sfew (S : sS) (pow b to : Nat) : Nat → Nat → Nat
  | 0, _ => 0
  | n + 1, lev => if to ≤ lev then 0 else sfew S pow b to n (lev + sgain S pow b lev) + 1
theorem sfew_more {S : sS} (h : sWF S) {pow b to : Nat} (hb : b < S 1) (hp : 1 ≤ pow) (ht : to ≤ scap S b) : ∀ n lev, to - lev ≤ n → sfew S pow b to n lev ≤ to - lev ∧ ∀ m, n ≤ m → sfew S pow b to m lev = sfew S pow b to n lev
  | 0, lev, hn => by
    refine ⟨Nat.zero_le _, fun m _ => ?_⟩
    cases m with
    | zero => rfl
    | succ m => simp only [sfew]; rw [if_pos (by omega)]
  | n + 1, lev, hn => by
    by_cases hl : to ≤ lev
    · refine ⟨by simp only [sfew]; rw [if_pos hl]; omega, fun m hm => ?_⟩
      cases m with
      | zero => omega
      | succ m => simp only [sfew]; rw [if_pos hl, if_pos hl]
    · have hg := sgain_pos h (lev := lev) hb hp (by omega)
      obtain ⟨i1, i2⟩ := sfew_more h hb hp ht n (lev + sgain S pow b lev) (by omega)
      refine ⟨by simp only [sfew]; rw [if_neg hl]; omega, fun m hm => ?_⟩
      cases m with
      | zero => omega
      | succ m =>
        simp only [sfew]
        rw [if_neg hl, if_neg hl, i2 m (by omega)]
def sslots (S : sS) (pow b lev to : Nat) : Nat := sfew S pow b to 200 lev
