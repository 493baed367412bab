/-! WORDS -/
def wtx : List (List Nat) := [[115, 108, 111, 116, 115], [112, 114, 105, 99, 101], [112, 108, 117, 103, 115], [112, 111, 119, 101, 114], [108, 105, 109, 105, 116], [99, 117, 114, 118, 101], [98, 117, 115], [99, 104, 97, 114, 103, 101]]
def cods : List Nat := [10345069, 8863997, 8754769, 8815221, 6564179, 2021387, 2044, 47331248]
def wIs (B : Nat → Nat) (p L q : Nat) : Bool := decide (L = txL q ∧ ∀ i, i < L → B (p + i) = (wtx.getD q []).getD i 0)
def wc (B : Nat → Nat) (p : Nat) : Nat → Nat
  | 0 => 0
  | m + 1 => wc B p m * 27 + (B (p + m) - 96)
def wy (B : Nat → Nat) (p m : Nat) : Int64 := if m ≤ 6 then lN (wc B p m) else -1
theorem wtx_tab : ∀ q : Fin 8, ∀ i : Fin 6, i.1 < txL q.1 → txB q.1 i.1 = nI ((wtx.getD q.1 []).getD i.1 0) ∧ (wtx.getD q.1 []).getD i.1 0 < 128 := by decide +kernel
theorem txL_le : ∀ q : Fin 8, txL q.1 ≤ 6 ∧ 1 ≤ txL q.1 := by decide +kernel
theorem islt_b {b : Nat} (h : islt b = true) : 97 ≤ b ∧ b ≤ 122 := by
  unfold islt at h
  rw [Bool.and_eq_true, decide_eq_true_eq, decide_eq_true_eq] at h
  exact h
theorem wc_0 (B : Nat → Nat) (p L : Nat) (hL : L ≤ 6) (hd : ∀ i, i < L → 97 ≤ B (p + i) ∧ B (p + i) ≤ 122) : wc B p L = 10345069 ↔ (L = 5 ∧ ∀ i, i < L → B (p + i) = (wtx.getD 0 []).getD i 0) := by
  rcases (show L = 0 ∨ L = 1 ∨ L = 2 ∨ L = 3 ∨ L = 4 ∨ L = 5 ∨ L = 6 by omega) with rfl | rfl | rfl | rfl | rfl | rfl | rfl
  · refine ⟨fun h => ?_, fun h => by omega⟩
    simp only [wc] at h
    omega
  · refine ⟨fun h => ?_, fun h => by omega⟩
    have d0 := hd 0 (by omega)
    simp only [wc] at h
    omega
  · refine ⟨fun h => ?_, fun h => by omega⟩
    have d0 := hd 0 (by omega)
    have d1 := hd 1 (by omega)
    simp only [wc] at h
    omega
  · refine ⟨fun h => ?_, fun h => by omega⟩
    have d0 := hd 0 (by omega)
    have d1 := hd 1 (by omega)
    have d2 := hd 2 (by omega)
    simp only [wc] at h
    omega
  · refine ⟨fun h => ?_, fun h => by omega⟩
    have d0 := hd 0 (by omega)
    have d1 := hd 1 (by omega)
    have d2 := hd 2 (by omega)
    have d3 := hd 3 (by omega)
    simp only [wc] at h
    omega
  · refine ⟨fun h => ⟨rfl, ?_⟩, fun h => ?_⟩
    · skip
      have d0 := hd 0 (by omega)
      have d1 := hd 1 (by omega)
      have d2 := hd 2 (by omega)
      have d3 := hd 3 (by omega)
      have d4 := hd 4 (by omega)
      simp only [wc] at h
      intro i hi
      rcases (show i = 0 ∨ i = 1 ∨ i = 2 ∨ i = 3 ∨ i = 4 by omega) with rfl | rfl | rfl | rfl | rfl
      · show B (p + 0) = 115
        omega
      · show B (p + 1) = 108
        omega
      · show B (p + 2) = 111
        omega
      · show B (p + 3) = 116
        omega
      · show B (p + 4) = 115
        omega
    · skip
      have e0 : B (p + 0) = 115 := h.2 0 (by omega)
      have e1 : B (p + 1) = 108 := h.2 1 (by omega)
      have e2 : B (p + 2) = 111 := h.2 2 (by omega)
      have e3 : B (p + 3) = 116 := h.2 3 (by omega)
      have e4 : B (p + 4) = 115 := h.2 4 (by omega)
      simp only [wc]
      omega
  · refine ⟨fun h => ?_, fun h => by omega⟩
    have d0 := hd 0 (by omega)
    have d1 := hd 1 (by omega)
    have d2 := hd 2 (by omega)
    have d3 := hd 3 (by omega)
    have d4 := hd 4 (by omega)
    have d5 := hd 5 (by omega)
    simp only [wc] at h
    omega
theorem wc_1 (B : Nat → Nat) (p L : Nat) (hL : L ≤ 6) (hd : ∀ i, i < L → 97 ≤ B (p + i) ∧ B (p + i) ≤ 122) : wc B p L = 8863997 ↔ (L = 5 ∧ ∀ i, i < L → B (p + i) = (wtx.getD 1 []).getD i 0) := by
  rcases (show L = 0 ∨ L = 1 ∨ L = 2 ∨ L = 3 ∨ L = 4 ∨ L = 5 ∨ L = 6 by omega) with rfl | rfl | rfl | rfl | rfl | rfl | rfl
  · refine ⟨fun h => ?_, fun h => by omega⟩
    simp only [wc] at h
    omega
  · refine ⟨fun h => ?_, fun h => by omega⟩
    have d0 := hd 0 (by omega)
    simp only [wc] at h
    omega
  · refine ⟨fun h => ?_, fun h => by omega⟩
    have d0 := hd 0 (by omega)
    have d1 := hd 1 (by omega)
    simp only [wc] at h
    omega
  · refine ⟨fun h => ?_, fun h => by omega⟩
    have d0 := hd 0 (by omega)
    have d1 := hd 1 (by omega)
    have d2 := hd 2 (by omega)
    simp only [wc] at h
    omega
  · refine ⟨fun h => ?_, fun h => by omega⟩
    have d0 := hd 0 (by omega)
    have d1 := hd 1 (by omega)
    have d2 := hd 2 (by omega)
    have d3 := hd 3 (by omega)
    simp only [wc] at h
    omega
  · refine ⟨fun h => ⟨rfl, ?_⟩, fun h => ?_⟩
    · skip
      have d0 := hd 0 (by omega)
      have d1 := hd 1 (by omega)
      have d2 := hd 2 (by omega)
      have d3 := hd 3 (by omega)
      have d4 := hd 4 (by omega)
      simp only [wc] at h
      intro i hi
      rcases (show i = 0 ∨ i = 1 ∨ i = 2 ∨ i = 3 ∨ i = 4 by omega) with rfl | rfl | rfl | rfl | rfl
      · show B (p + 0) = 112
        omega
      · show B (p + 1) = 114
        omega
      · show B (p + 2) = 105
        omega
      · show B (p + 3) = 99
        omega
      · show B (p + 4) = 101
        omega
    · skip
      have e0 : B (p + 0) = 112 := h.2 0 (by omega)
      have e1 : B (p + 1) = 114 := h.2 1 (by omega)
      have e2 : B (p + 2) = 105 := h.2 2 (by omega)
      have e3 : B (p + 3) = 99 := h.2 3 (by omega)
      have e4 : B (p + 4) = 101 := h.2 4 (by omega)
      simp only [wc]
      omega
  · refine ⟨fun h => ?_, fun h => by omega⟩
    have d0 := hd 0 (by omega)
    have d1 := hd 1 (by omega)
    have d2 := hd 2 (by omega)
    have d3 := hd 3 (by omega)
    have d4 := hd 4 (by omega)
    have d5 := hd 5 (by omega)
    simp only [wc] at h
    omega
theorem wc_2 (B : Nat → Nat) (p L : Nat) (hL : L ≤ 6) (hd : ∀ i, i < L → 97 ≤ B (p + i) ∧ B (p + i) ≤ 122) : wc B p L = 8754769 ↔ (L = 5 ∧ ∀ i, i < L → B (p + i) = (wtx.getD 2 []).getD i 0) := by
  rcases (show L = 0 ∨ L = 1 ∨ L = 2 ∨ L = 3 ∨ L = 4 ∨ L = 5 ∨ L = 6 by omega) with rfl | rfl | rfl | rfl | rfl | rfl | rfl
  · refine ⟨fun h => ?_, fun h => by omega⟩
    simp only [wc] at h
    omega
  · refine ⟨fun h => ?_, fun h => by omega⟩
    have d0 := hd 0 (by omega)
    simp only [wc] at h
    omega
  · refine ⟨fun h => ?_, fun h => by omega⟩
    have d0 := hd 0 (by omega)
    have d1 := hd 1 (by omega)
    simp only [wc] at h
    omega
  · refine ⟨fun h => ?_, fun h => by omega⟩
    have d0 := hd 0 (by omega)
    have d1 := hd 1 (by omega)
    have d2 := hd 2 (by omega)
    simp only [wc] at h
    omega
  · refine ⟨fun h => ?_, fun h => by omega⟩
    have d0 := hd 0 (by omega)
    have d1 := hd 1 (by omega)
    have d2 := hd 2 (by omega)
    have d3 := hd 3 (by omega)
    simp only [wc] at h
    omega
  · refine ⟨fun h => ⟨rfl, ?_⟩, fun h => ?_⟩
    · skip
      have d0 := hd 0 (by omega)
      have d1 := hd 1 (by omega)
      have d2 := hd 2 (by omega)
      have d3 := hd 3 (by omega)
      have d4 := hd 4 (by omega)
      simp only [wc] at h
      intro i hi
      rcases (show i = 0 ∨ i = 1 ∨ i = 2 ∨ i = 3 ∨ i = 4 by omega) with rfl | rfl | rfl | rfl | rfl
      · show B (p + 0) = 112
        omega
      · show B (p + 1) = 108
        omega
      · show B (p + 2) = 117
        omega
      · show B (p + 3) = 103
        omega
      · show B (p + 4) = 115
        omega
    · skip
      have e0 : B (p + 0) = 112 := h.2 0 (by omega)
      have e1 : B (p + 1) = 108 := h.2 1 (by omega)
      have e2 : B (p + 2) = 117 := h.2 2 (by omega)
      have e3 : B (p + 3) = 103 := h.2 3 (by omega)
      have e4 : B (p + 4) = 115 := h.2 4 (by omega)
      simp only [wc]
      omega
  · refine ⟨fun h => ?_, fun h => by omega⟩
    have d0 := hd 0 (by omega)
    have d1 := hd 1 (by omega)
    have d2 := hd 2 (by omega)
    have d3 := hd 3 (by omega)
    have d4 := hd 4 (by omega)
    have d5 := hd 5 (by omega)
    simp only [wc] at h
    omega
theorem wc_3 (B : Nat → Nat) (p L : Nat) (hL : L ≤ 6) (hd : ∀ i, i < L → 97 ≤ B (p + i) ∧ B (p + i) ≤ 122) : wc B p L = 8815221 ↔ (L = 5 ∧ ∀ i, i < L → B (p + i) = (wtx.getD 3 []).getD i 0) := by
  rcases (show L = 0 ∨ L = 1 ∨ L = 2 ∨ L = 3 ∨ L = 4 ∨ L = 5 ∨ L = 6 by omega) with rfl | rfl | rfl | rfl | rfl | rfl | rfl
  · refine ⟨fun h => ?_, fun h => by omega⟩
    simp only [wc] at h
    omega
  · refine ⟨fun h => ?_, fun h => by omega⟩
    have d0 := hd 0 (by omega)
    simp only [wc] at h
    omega
  · refine ⟨fun h => ?_, fun h => by omega⟩
    have d0 := hd 0 (by omega)
    have d1 := hd 1 (by omega)
    simp only [wc] at h
    omega
  · refine ⟨fun h => ?_, fun h => by omega⟩
    have d0 := hd 0 (by omega)
    have d1 := hd 1 (by omega)
    have d2 := hd 2 (by omega)
    simp only [wc] at h
    omega
  · refine ⟨fun h => ?_, fun h => by omega⟩
    have d0 := hd 0 (by omega)
    have d1 := hd 1 (by omega)
    have d2 := hd 2 (by omega)
    have d3 := hd 3 (by omega)
    simp only [wc] at h
    omega
  · refine ⟨fun h => ⟨rfl, ?_⟩, fun h => ?_⟩
    · skip
      have d0 := hd 0 (by omega)
      have d1 := hd 1 (by omega)
      have d2 := hd 2 (by omega)
      have d3 := hd 3 (by omega)
      have d4 := hd 4 (by omega)
      simp only [wc] at h
      intro i hi
      rcases (show i = 0 ∨ i = 1 ∨ i = 2 ∨ i = 3 ∨ i = 4 by omega) with rfl | rfl | rfl | rfl | rfl
      · show B (p + 0) = 112
        omega
      · show B (p + 1) = 111
        omega
      · show B (p + 2) = 119
        omega
      · show B (p + 3) = 101
        omega
      · show B (p + 4) = 114
        omega
    · skip
      have e0 : B (p + 0) = 112 := h.2 0 (by omega)
      have e1 : B (p + 1) = 111 := h.2 1 (by omega)
      have e2 : B (p + 2) = 119 := h.2 2 (by omega)
      have e3 : B (p + 3) = 101 := h.2 3 (by omega)
      have e4 : B (p + 4) = 114 := h.2 4 (by omega)
      simp only [wc]
      omega
  · refine ⟨fun h => ?_, fun h => by omega⟩
    have d0 := hd 0 (by omega)
    have d1 := hd 1 (by omega)
    have d2 := hd 2 (by omega)
    have d3 := hd 3 (by omega)
    have d4 := hd 4 (by omega)
    have d5 := hd 5 (by omega)
    simp only [wc] at h
    omega
theorem wc_4 (B : Nat → Nat) (p L : Nat) (hL : L ≤ 6) (hd : ∀ i, i < L → 97 ≤ B (p + i) ∧ B (p + i) ≤ 122) : wc B p L = 6564179 ↔ (L = 5 ∧ ∀ i, i < L → B (p + i) = (wtx.getD 4 []).getD i 0) := by
  rcases (show L = 0 ∨ L = 1 ∨ L = 2 ∨ L = 3 ∨ L = 4 ∨ L = 5 ∨ L = 6 by omega) with rfl | rfl | rfl | rfl | rfl | rfl | rfl
  · refine ⟨fun h => ?_, fun h => by omega⟩
    simp only [wc] at h
    omega
  · refine ⟨fun h => ?_, fun h => by omega⟩
    have d0 := hd 0 (by omega)
    simp only [wc] at h
    omega
  · refine ⟨fun h => ?_, fun h => by omega⟩
    have d0 := hd 0 (by omega)
    have d1 := hd 1 (by omega)
    simp only [wc] at h
    omega
  · refine ⟨fun h => ?_, fun h => by omega⟩
    have d0 := hd 0 (by omega)
    have d1 := hd 1 (by omega)
    have d2 := hd 2 (by omega)
    simp only [wc] at h
    omega
  · refine ⟨fun h => ?_, fun h => by omega⟩
    have d0 := hd 0 (by omega)
    have d1 := hd 1 (by omega)
    have d2 := hd 2 (by omega)
    have d3 := hd 3 (by omega)
    simp only [wc] at h
    omega
  · refine ⟨fun h => ⟨rfl, ?_⟩, fun h => ?_⟩
    · skip
      have d0 := hd 0 (by omega)
      have d1 := hd 1 (by omega)
      have d2 := hd 2 (by omega)
      have d3 := hd 3 (by omega)
      have d4 := hd 4 (by omega)
      simp only [wc] at h
      intro i hi
      rcases (show i = 0 ∨ i = 1 ∨ i = 2 ∨ i = 3 ∨ i = 4 by omega) with rfl | rfl | rfl | rfl | rfl
      · show B (p + 0) = 108
        omega
      · show B (p + 1) = 105
        omega
      · show B (p + 2) = 109
        omega
      · show B (p + 3) = 105
        omega
      · show B (p + 4) = 116
        omega
    · skip
      have e0 : B (p + 0) = 108 := h.2 0 (by omega)
      have e1 : B (p + 1) = 105 := h.2 1 (by omega)
      have e2 : B (p + 2) = 109 := h.2 2 (by omega)
      have e3 : B (p + 3) = 105 := h.2 3 (by omega)
      have e4 : B (p + 4) = 116 := h.2 4 (by omega)
      simp only [wc]
      omega
  · refine ⟨fun h => ?_, fun h => by omega⟩
    have d0 := hd 0 (by omega)
    have d1 := hd 1 (by omega)
    have d2 := hd 2 (by omega)
    have d3 := hd 3 (by omega)
    have d4 := hd 4 (by omega)
    have d5 := hd 5 (by omega)
    simp only [wc] at h
    omega
theorem wc_5 (B : Nat → Nat) (p L : Nat) (hL : L ≤ 6) (hd : ∀ i, i < L → 97 ≤ B (p + i) ∧ B (p + i) ≤ 122) : wc B p L = 2021387 ↔ (L = 5 ∧ ∀ i, i < L → B (p + i) = (wtx.getD 5 []).getD i 0) := by
  rcases (show L = 0 ∨ L = 1 ∨ L = 2 ∨ L = 3 ∨ L = 4 ∨ L = 5 ∨ L = 6 by omega) with rfl | rfl | rfl | rfl | rfl | rfl | rfl
  · refine ⟨fun h => ?_, fun h => by omega⟩
    simp only [wc] at h
    omega
  · refine ⟨fun h => ?_, fun h => by omega⟩
    have d0 := hd 0 (by omega)
    simp only [wc] at h
    omega
  · refine ⟨fun h => ?_, fun h => by omega⟩
    have d0 := hd 0 (by omega)
    have d1 := hd 1 (by omega)
    simp only [wc] at h
    omega
  · refine ⟨fun h => ?_, fun h => by omega⟩
    have d0 := hd 0 (by omega)
    have d1 := hd 1 (by omega)
    have d2 := hd 2 (by omega)
    simp only [wc] at h
    omega
  · refine ⟨fun h => ?_, fun h => by omega⟩
    have d0 := hd 0 (by omega)
    have d1 := hd 1 (by omega)
    have d2 := hd 2 (by omega)
    have d3 := hd 3 (by omega)
    simp only [wc] at h
    omega
  · refine ⟨fun h => ⟨rfl, ?_⟩, fun h => ?_⟩
    · skip
      have d0 := hd 0 (by omega)
      have d1 := hd 1 (by omega)
      have d2 := hd 2 (by omega)
      have d3 := hd 3 (by omega)
      have d4 := hd 4 (by omega)
      simp only [wc] at h
      intro i hi
      rcases (show i = 0 ∨ i = 1 ∨ i = 2 ∨ i = 3 ∨ i = 4 by omega) with rfl | rfl | rfl | rfl | rfl
      · show B (p + 0) = 99
        omega
      · show B (p + 1) = 117
        omega
      · show B (p + 2) = 114
        omega
      · show B (p + 3) = 118
        omega
      · show B (p + 4) = 101
        omega
    · skip
      have e0 : B (p + 0) = 99 := h.2 0 (by omega)
      have e1 : B (p + 1) = 117 := h.2 1 (by omega)
      have e2 : B (p + 2) = 114 := h.2 2 (by omega)
      have e3 : B (p + 3) = 118 := h.2 3 (by omega)
      have e4 : B (p + 4) = 101 := h.2 4 (by omega)
      simp only [wc]
      omega
  · refine ⟨fun h => ?_, fun h => by omega⟩
    have d0 := hd 0 (by omega)
    have d1 := hd 1 (by omega)
    have d2 := hd 2 (by omega)
    have d3 := hd 3 (by omega)
    have d4 := hd 4 (by omega)
    have d5 := hd 5 (by omega)
    simp only [wc] at h
    omega
theorem wc_6 (B : Nat → Nat) (p L : Nat) (hL : L ≤ 6) (hd : ∀ i, i < L → 97 ≤ B (p + i) ∧ B (p + i) ≤ 122) : wc B p L = 2044 ↔ (L = 3 ∧ ∀ i, i < L → B (p + i) = (wtx.getD 6 []).getD i 0) := by
  rcases (show L = 0 ∨ L = 1 ∨ L = 2 ∨ L = 3 ∨ L = 4 ∨ L = 5 ∨ L = 6 by omega) with rfl | rfl | rfl | rfl | rfl | rfl | rfl
  · refine ⟨fun h => ?_, fun h => by omega⟩
    simp only [wc] at h
    omega
  · refine ⟨fun h => ?_, fun h => by omega⟩
    have d0 := hd 0 (by omega)
    simp only [wc] at h
    omega
  · refine ⟨fun h => ?_, fun h => by omega⟩
    have d0 := hd 0 (by omega)
    have d1 := hd 1 (by omega)
    simp only [wc] at h
    omega
  · refine ⟨fun h => ⟨rfl, ?_⟩, fun h => ?_⟩
    · skip
      have d0 := hd 0 (by omega)
      have d1 := hd 1 (by omega)
      have d2 := hd 2 (by omega)
      simp only [wc] at h
      intro i hi
      rcases (show i = 0 ∨ i = 1 ∨ i = 2 by omega) with rfl | rfl | rfl
      · show B (p + 0) = 98
        omega
      · show B (p + 1) = 117
        omega
      · show B (p + 2) = 115
        omega
    · skip
      have e0 : B (p + 0) = 98 := h.2 0 (by omega)
      have e1 : B (p + 1) = 117 := h.2 1 (by omega)
      have e2 : B (p + 2) = 115 := h.2 2 (by omega)
      simp only [wc]
      omega
  · refine ⟨fun h => ?_, fun h => by omega⟩
    have d0 := hd 0 (by omega)
    have d1 := hd 1 (by omega)
    have d2 := hd 2 (by omega)
    have d3 := hd 3 (by omega)
    simp only [wc] at h
    omega
  · refine ⟨fun h => ?_, fun h => by omega⟩
    have d0 := hd 0 (by omega)
    have d1 := hd 1 (by omega)
    have d2 := hd 2 (by omega)
    have d3 := hd 3 (by omega)
    have d4 := hd 4 (by omega)
    simp only [wc] at h
    omega
  · refine ⟨fun h => ?_, fun h => by omega⟩
    have d0 := hd 0 (by omega)
    have d1 := hd 1 (by omega)
    have d2 := hd 2 (by omega)
    have d3 := hd 3 (by omega)
    have d4 := hd 4 (by omega)
    have d5 := hd 5 (by omega)
    simp only [wc] at h
    omega
theorem wc_7 (B : Nat → Nat) (p L : Nat) (hL : L ≤ 6) (hd : ∀ i, i < L → 97 ≤ B (p + i) ∧ B (p + i) ≤ 122) : wc B p L = 47331248 ↔ (L = 6 ∧ ∀ i, i < L → B (p + i) = (wtx.getD 7 []).getD i 0) := by
  rcases (show L = 0 ∨ L = 1 ∨ L = 2 ∨ L = 3 ∨ L = 4 ∨ L = 5 ∨ L = 6 by omega) with rfl | rfl | rfl | rfl | rfl | rfl | rfl
  · refine ⟨fun h => ?_, fun h => by omega⟩
    simp only [wc] at h
    omega
  · refine ⟨fun h => ?_, fun h => by omega⟩
    have d0 := hd 0 (by omega)
    simp only [wc] at h
    omega
  · refine ⟨fun h => ?_, fun h => by omega⟩
    have d0 := hd 0 (by omega)
    have d1 := hd 1 (by omega)
    simp only [wc] at h
    omega
  · refine ⟨fun h => ?_, fun h => by omega⟩
    have d0 := hd 0 (by omega)
    have d1 := hd 1 (by omega)
    have d2 := hd 2 (by omega)
    simp only [wc] at h
    omega
  · refine ⟨fun h => ?_, fun h => by omega⟩
    have d0 := hd 0 (by omega)
    have d1 := hd 1 (by omega)
    have d2 := hd 2 (by omega)
    have d3 := hd 3 (by omega)
    simp only [wc] at h
    omega
  · refine ⟨fun h => ?_, fun h => by omega⟩
    have d0 := hd 0 (by omega)
    have d1 := hd 1 (by omega)
    have d2 := hd 2 (by omega)
    have d3 := hd 3 (by omega)
    have d4 := hd 4 (by omega)
    simp only [wc] at h
    omega
  · refine ⟨fun h => ⟨rfl, ?_⟩, fun h => ?_⟩
    · skip
      have d0 := hd 0 (by omega)
      have d1 := hd 1 (by omega)
      have d2 := hd 2 (by omega)
      have d3 := hd 3 (by omega)
      have d4 := hd 4 (by omega)
      have d5 := hd 5 (by omega)
      simp only [wc] at h
      intro i hi
      rcases (show i = 0 ∨ i = 1 ∨ i = 2 ∨ i = 3 ∨ i = 4 ∨ i = 5 by omega) with rfl | rfl | rfl | rfl | rfl | rfl
      · show B (p + 0) = 99
        omega
      · show B (p + 1) = 104
        omega
      · show B (p + 2) = 97
        omega
      · show B (p + 3) = 114
        omega
      · show B (p + 4) = 103
        omega
      · show B (p + 5) = 101
        omega
    · skip
      have e0 : B (p + 0) = 99 := h.2 0 (by omega)
      have e1 : B (p + 1) = 104 := h.2 1 (by omega)
      have e2 : B (p + 2) = 97 := h.2 2 (by omega)
      have e3 : B (p + 3) = 114 := h.2 3 (by omega)
      have e4 : B (p + 4) = 103 := h.2 4 (by omega)
      have e5 : B (p + 5) = 101 := h.2 5 (by omega)
      simp only [wc]
      omega
theorem toI64 {b : Nat} (hb : b < 2 ^ 31) : (nI b).toInt64 = lN b := by
  apply Int64.toInt_inj.mp
  rw [Int32.toInt_toInt64, nI_toInt hb, lx_toInt (by omega)]
theorem wc_lt (B : Nat → Nat) (p : Nat) : ∀ m, (∀ i, i < m → 97 ≤ B (p + i) ∧ B (p + i) ≤ 122) → wc B p m < 27 ^ m
  | 0, _ => by show 0 < 27 ^ 0; decide
  | m + 1, h => by
    have ih := wc_lt B p m (fun i hi => h i (by omega))
    have d := h m (by omega)
    unfold wc
    rw [Nat.pow_succ]
    omega
theorem wc_lt6 (B : Nat → Nat) (p m : Nat) (hm : m ≤ 6) (h : ∀ i, i < m → 97 ≤ B (p + i) ∧ B (p + i) ≤ 122) : wc B p m < 400000000 := by
  have h1 := wc_lt B p m h
  have h2 : (27 : Nat) ^ m ≤ 27 ^ 6 := Nat.pow_le_pow_right (by decide) hm
  have h3 : (27 : Nat) ^ 6 = 387420489 := by decide
  omega
theorem word_eq (B : Nat → Nat) (p L q : Nat) (hq : q < 8) (hd : ∀ i, i < L → 97 ≤ B (p + i) ∧ B (p + i) ≤ 122) : (lg_cmp (wy B p L) (lN (cods.getD q 0)) = 0) = (wIs B p L q = true) := by
  apply propext
  rw [lg_cmp_eq]
  unfold wy wIs
  rw [decide_eq_true_eq]
  have hc : ∀ q : Fin 8, cods.getD q.1 0 < 2 ^ 31 := by decide +kernel
  have hcq := hc ⟨q, hq⟩
  simp only at hcq
  by_cases hL : L ≤ 6
  · have hb := wc_lt6 B p L hL hd
    rw [if_pos hL, lN_eq (by omega) hcq]
    rcases (show q = 0 ∨ q = 1 ∨ q = 2 ∨ q = 3 ∨ q = 4 ∨ q = 5 ∨ q = 6 ∨ q = 7 by omega) with rfl | rfl | rfl | rfl | rfl | rfl | rfl | rfl
    · exact wc_0 B p L hL hd
    · exact wc_1 B p L hL hd
    · exact wc_2 B p L hL hd
    · exact wc_3 B p L hL hd
    · exact wc_4 B p L hL hd
    · exact wc_5 B p L hL hd
    · exact wc_6 B p L hL hd
    · exact wc_7 B p L hL hd
  · rw [if_neg hL]
    constructor
    · intro z
      have := congrArg Int64.toInt z
      rw [lx_toInt (by omega)] at this
      have h1 : (-1 : Int64).toInt = -1 := by decide
      omega
    · intro z
      have := (txL_le ⟨q, hq⟩).1
      simp only at this
      omega
section WORDS
variable {B : Nat → Nat} {n : Nat}
theorem strL_eq {α : Type} {q : Nat} {e : Int32 → Option α} : strL (200 + q) e = e (nI (txL q)) := by
  unfold strL
  rw [show 200 + q - 200 = q by omega]
  rfl
theorem strC_eq {α : Type} {q i : Nat} {e : Int32 → Option α} (h : i < txL q) (hl : txL q ≤ 6) : strC (200 + q) (nI i) e = e (txB q i) := by
  unfold strC
  rw [show 200 + q - 200 = q by omega, nx_inb (by omega), decide_eq_true h, it_t, nx_cl (by omega)]
theorem x_iw28 (hB : ∀ i, B i < 256) (hn : n ≤ 400) {M : mm_M} {p L q : Nat} {kd nu be : Int32} (hq : q < 8) (hL : L = txL q) (hpl : p + L ≤ n) (hd : ∀ i, i < L → 97 ≤ B (p + i) ∧ B (p + i) ≤ 122) (h : vT M B n kd (nI p) nu be) : ∀ (k i k' : Nat), i + k = L → k < k' → (∀ j, j < i → B (p + j) = (wtx.getD q []).getD j 0) → l5_isWord_28 k' (200 + q) (nI i) M = some (if wIs B p L q = true then 1 else 0, M) := by
  have hl6 := (txL_le ⟨q, hq⟩).1
  simp only at hl6
  intro k
  induction k with
  | zero =>
    intro i k' hk hk' hi
    obtain ⟨k', rfl⟩ : ∃ j, k' = j + 1 := ⟨k' - 1, by omega⟩
    unfold l5_isWord_28 b5_isWord_28 l5_isWord_76
    rw [strL_eq, ← hL, if_pos (show nI L ≤ nI i by rw [nx_le (by omega) (by omega)]; omega), if_pos (by unfold wIs; exact decide_eq_true ⟨hL, fun j hj => hi j (by omega)⟩)]
    rfl
  | succ k ih =>
    intro i k' hk hk' hi
    obtain ⟨k', rfl⟩ : ∃ j, k' = j + 1 := ⟨k' - 1, by omega⟩
    have hb := hd i (by omega)
    obtain ⟨t1, t2⟩ := wtx_tab ⟨q, hq⟩ ⟨i, by omega⟩ (by show i < txL q; omega)
    simp only at t1 t2
    have s1 : sb8 (B (p + i)) = nI (B (p + i)) := (sb_tab ⟨B (p + i), hB _⟩).2.2.2.2.2 (by show B (p + i) < 128; omega)
    unfold l5_isWord_28 b5_isWord_28 l5_isWord_76
    rw [strL_eq, ← hL, if_neg (show ¬ nI L ≤ nI i by rw [nx_le (by omega) (by omega)]; omega), bI_eq, bI_eq, h.2.2.2.1, h.1, nx_add, if_neg (by rw [nx_le (by omega) (by omega)]; omega), bI_eq, nx_add, aI_in (by omega) (by omega), h.2.1 _ (by omega), strC_eq (by omega) hl6, t1, s1]
    by_cases he : B (p + i) = (wtx.getD q []).getD i 0
    · rw [if_pos (by rw [he]), show nI i + 1 = nI (i + 1) from nx_add i 1]
      exact ih (i + 1) k' (by omega) (by omega) (fun j hj => by
        by_cases hji : j = i
        · rw [hji]; exact he
        · exact hi j (by omega))
    · rw [if_neg (by rw [nx_eq (by omega) (by omega)]; exact he), if_neg (by unfold wIs; rw [decide_eq_true_eq]; exact fun z => he (z.2 i (by omega)))]
      rfl
theorem x_isWord (hB : ∀ i, B i < 256) (hn : n ≤ 400) {M : mm_M} {p q : Nat} (hp : p ≤ n) (hq : q < 8) (h : vTk M B n p) : f5_isWord (200 + q) M = some (if tk B n p = 1 ∧ wIs B p (tb B n p - p) q = true then 1 else 0, M) := by
  obtain ⟨nu, h1, -⟩ := h
  have hb := tb_le (B := B) hp
  have hl6 := (txL_le ⟨q, hq⟩).1
  simp only at hl6
  have htl : tk B n p < 4 := by unfold tk; split <;> (try split) <;> (try split) <;> omega
  unfold f5_isWord l5_isWord_24
  rw [if_pos (by unfold isS; rw [decide_eq_true (by omega), decide_eq_true (by omega)]; rfl), bI_eq, h1.2.2.1]
  by_cases ht : tk B n p = 1
  · have hlt : p < n ∧ islt (B p) = true ∧ isdg (B p) = false := by
      unfold tk at ht
      by_cases c1 : n ≤ p
      · rw [if_pos c1] at ht; omega
      · rw [if_neg c1] at ht
        by_cases c2 : isdg (B p) = true
        · rw [if_pos c2] at ht; omega
        · rw [if_neg c2] at ht
          by_cases c3 : islt (B p) = true
          · exact ⟨by omega, c3, Bool.eq_false_iff.mpr c2⟩
          · rw [if_neg c3] at ht; omega
    have eb : tb B n p = runT B n islt p := by unfold tb; rw [if_neg (by omega), if_neg (by rw [hlt.2.2]; decide), if_pos hlt.2.1]
    rw [if_pos (by rw [ht]; rfl), bI_eq, bI_eq, h1.2.2.2.2.2, h1.2.2.2.1, nx_sub hb.1, strL_eq]
    by_cases hL : tb B n p - p = txL q
    · rw [if_pos (show nI (tb B n p - p) = nI (txL q) by rw [hL]), show l5_isWord_28 FU (200 + q) 0 M = some (if wIs B p (tb B n p - p) q = true then 1 else 0, M) from x_iw28 hB hn hq hL (by omega) (fun i hi => islt_b (run_all B n islt (n - p) p (p + i) (by omega) (by rw [eb] at hi; unfold runT at hi; omega))) h1 (tb B n p - p) 0 FU (by omega) (by have := FU_big; omega) (fun j hj => by omega)]
      by_cases hw : wIs B p (tb B n p - p) q = true
      · rw [if_pos hw, if_pos ⟨ht, hw⟩]
      · rw [if_neg hw, if_neg (fun z => hw z.2)]
    · rw [if_neg (show ¬ nI (tb B n p - p) = nI (txL q) by rw [nx_eq (by omega) (by omega)]; exact hL), if_neg (by unfold wIs; rw [decide_eq_true_eq]; exact fun z => hL z.2.1)]
      rfl
  · rw [if_neg (by rw [nx_l1, nx_eq (by omega) (by omega)]; exact ht), if_neg (fun z => ht z.1)]
    rfl
theorem y_rw12 (hB : ∀ i, B i < 256) (hn : n ≤ 400) {p : Nat} : ∀ (k m k' : Nat) (M : mm_M), p + m ≤ n → n - (p + m) ≤ k → k < k' → (∀ j, j < m → islt (B (p + j)) = true) → vA M B n (p + m) → mI M 46 9 = nI p → ∃ M', l7_readWord_12 k' (wy B p m) (nI m) M = some (wy B p (runT B n islt (p + m) - p), M') ∧ RS M M' ∧ vA M' B n (runT B n islt (p + m)) ∧ mI M' 46 9 = nI p := by
  intro k
  induction k with
  | zero =>
    intro m k' M h1 h2 h3 hd h h9
    obtain ⟨k', rfl⟩ : ∃ j, k' = j + 1 := ⟨k' - 1, by omega⟩
    have e : runT B n islt (p + m) = p + m := by rw [runT_eq, if_neg (by omega)]
    rw [e, show p + m - p = m by omega]
    refine ⟨M, ?_, RS.rf, h, h9⟩
    unfold l7_readWord_12 b7_readWord_12 l7_readWord_91
    rw [bI_eq, bI_eq, h.2.2, h.1, if_pos (by rw [nx_le (by omega) (by omega)]; omega)]
  | succ k ih =>
    intro m k' M h1 h2 h3 hd h h9
    obtain ⟨k', rfl⟩ : ∃ j, k' = j + 1 := ⟨k' - 1, by omega⟩
    unfold l7_readWord_12 b7_readWord_12 l7_readWord_91
    rw [bI_eq, bI_eq, h.2.2, h.1]
    by_cases hlt : p + m < n
    · have hb := hB (p + m)
      rw [if_neg (by rw [nx_le (by omega) (by omega)]; omega), bI_eq, aI_in (by omega) (by omega), h.2.1 _ hlt, show f7_in (nI (B (p + m))) 97 122 M = some (if okS (nI (B (p + m))) 97 122 = true then 1 else 0, M) from y_inS _ 97 122 M, cI_some, okS_lt hb]
      by_cases hl : islt (B (p + m)) = true
      · have hb2 := islt_b hl
        have er : runT B n islt (p + m) = runT B n islt (p + (m + 1)) := by rw [runT_eq B n islt (p + m), if_pos ⟨hlt, hl⟩]; rfl
        have hd' : ∀ j, j < m + 1 → islt (B (p + j)) = true := fun j hj => by
          by_cases hjm : j = m
          · rw [hjm]; exact hl
          · exact hd j (by omega)
        obtain ⟨M', g1, g2, g3, g4⟩ := ih (m + 1) k' _ (by omega) (by omega) (by omega) hd' (h.s6 (p + (m + 1))) (by rw [mI_sI_k _ _ _ (by decide)]; exact h9)
        rw [if_pos hl, if_neg (by decide), er]
        refine ⟨M', ?_, (RS.s6 _ _).tr g2, g3, g4⟩
        have fin : ∀ y : Int64, y = wy B p (m + 1) → l7_readWord_74 (l7_readWord_12 k') (nI m) y M = some (wy B p (runT B n islt (p + (m + 1)) - p), M') := by
          intro y hy
          unfold l7_readWord_74
          rw [hy, bI_eq, h.2.2, show nI (p + m) + 1 = nI (p + (m + 1)) from nx_add (p + m) 1, bM_eq, show nI m + 1 = nI (m + 1) from nx_add m 1]
          exact g1
        by_cases h6 : 6 ≤ m
        · rw [if_pos (by rw [nx_l6, nx_le (by omega) (by omega)]; exact h6)]
          exact fin _ (by unfold wy; rw [if_neg (by omega)])
        · rw [if_neg (by rw [nx_l6, nx_le (by omega) (by omega)]; exact h6), bI_eq, h.2.2, aI_in (by omega) (by omega), h.2.1 _ hlt]
          refine fin _ ?_
          unfold wy
          rw [if_pos (by omega), if_pos (by omega), toI64 (by omega), show (27 : Int64) = lN 27 from rfl, show (96 : Int64) = lN 96 from rfl, lN_mul, lN_add, lN_sub (by omega)]
          congr 1
          show _ = wc B p m * 27 + (B (p + m) - 96)
          omega
      · have e : runT B n islt (p + m) = p + m := by rw [runT_eq, if_neg (fun z => hl z.2)]
        rw [if_neg hl, if_pos rfl, e, show p + m - p = m by omega]
        exact ⟨M, rfl, RS.rf, h, h9⟩
    · have e : runT B n islt (p + m) = p + m := by rw [runT_eq, if_neg (fun z => hlt z.1)]
      rw [if_pos (by rw [nx_le (by omega) (by omega)]; omega), e, show p + m - p = m by omega]
      exact ⟨M, rfl, RS.rf, h, h9⟩
theorem y_readWord (hB : ∀ i, B i < 256) (hn : n ≤ 400) {M : mm_M} {p : Nat} (hp : p ≤ n) (h : vA M B n p) : ∃ M', f7_readWord M = some (wy B p (runT B n islt p - p), M') ∧ RS M M' ∧ vA M' B n (runT B n islt p) ∧ mI M' 46 9 = nI p := by
  obtain ⟨M', g1, g2, g3, g4⟩ := y_rw12 hB hn (p := p) (n - p) 0 FU (sI M 46 9 (nI p)) (by omega) (by omega) (by have := FU_big; omega) (fun j hj => by omega) (h.sk (k := 9) _ (by decide) (by decide)) (mI_sI_eq _ _ _ _)
  rw [Nat.add_zero] at g1 g3
  refine ⟨M', ?_, (RS.s9 _ _).tr g2, g3, g4⟩
  unfold f7_readWord
  rw [bI_eq, h.2.2, bM_eq]
  exact g1
end WORDS
