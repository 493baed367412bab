section PLAN3
variable {S : sS} {P : sP}
-- readiness
theorem ssum_zero {f : Nat → Nat} : ∀ n, ssum f n = 0 ↔ ∀ k, k < n → f k = 0
  | 0 => ⟨fun _ k hk => by omega, fun _ => rfl⟩
  | n + 1 => by
    have ih := ssum_zero (f := f) n
    constructor
    · intro h k hk
      have h : ssum f n + f n = 0 := h
      by_cases hkn : k = n
      · subst hkn; omega
      · exact ih.mp (by omega) k (by omega)
    · intro h
      show ssum f n + f n = 0
      rw [ih.mpr (fun k hk => h k (by omega)), h n (by omega)]
def smr (S : sS) (P : sP) : Bool := decide (ssum (fun b => slk S P b (smt S P b)) 4 = 0) && decide (ssum (smt S P) 4 ≤ P.2.1 * S 0) && decide (ssum (fun b => ssum (fun c => sgn S P.2.2.1 b c) (smt S P b)) 4 ≤ P.2.2.2.1 * S 0)
theorem sw_lt {b : Nat} (h : sw S P b = true) : b < S 1 := by
  unfold sw at h
  rw [Bool.and_eq_true, decide_eq_true_eq] at h
  exact h.1
theorem smt_sw {b : Nat} (h : 0 < smt S P b) : sw S P b = true := by
  unfold smt at h
  by_cases hs : sw S P b = true
  · exact hs
  · rw [if_neg hs] at h; omega
theorem sgs_bd (hw : sWF S) (b : Nat) {n : Nat} (hn : n ≤ smt S P b) : ssum (fun c => sgn S P.2.2.1 b c) n ≤ 1600 := by
  by_cases h0 : n = 0
  · subst h0; exact Nat.zero_le _
  · have hb := sw_lt (smt_sw (show 0 < smt S P b by omega))
    have h8 := (smt_spec S P b).1
    have := ssum_le (f := fun c => sgn S P.2.2.1 b c) (B := 200) n (fun k _ => sgn_bd hw hb _ k)
    omega
theorem x_mr44 (hw : sWF S) {b : Nat} (hb : b < 4) {M : mm_M} (hv : vB M S P b) (rec : Int32 → Int32 → Int32 → mm_M → Option (Int32 × mm_M)) (x1 : Int32) (T0 : Nat) : ∀ (k c n : Nat), c + k = smt S P b → k < n → l2_mayBeReady_44 rec n x1 (nI (T0 + ssum (fun c => sgn S P.2.2.1 b c) c)) (nI b) (nI c) M = rec x1 (nI (T0 + ssum (fun c => sgn S P.2.2.1 b c) (smt S P b))) (nI (b + 1)) M := by
  have h8 := (smt_spec S P b).1
  intro k
  induction k with
  | zero =>
    intro c n hk hn
    obtain ⟨n, rfl⟩ : ∃ m, n = m + 1 := ⟨n - 1, by omega⟩
    unfold l2_mayBeReady_44 b2_mayBeReady_44
    rw [aI_in (by omega) (by omega), hv.2.1, if_pos (by rw [nx_le (by omega) (by omega)]; omega), nx_l1, nx_add, show c = smt S P b by omega]
  | succ k ih =>
    intro c n hk hn
    obtain ⟨n, rfl⟩ : ∃ m, n = m + 1 := ⟨n - 1, by omega⟩
    unfold l2_mayBeReady_44 b2_mayBeReady_44
    rw [aI_in (by omega) (by omega), hv.2.1, if_neg (by rw [nx_le (by omega) (by omega)]; omega), nx_l9, nx_mul, nx_add, aI_in (by omega) (by omega), show b * 9 + c = 9 * b + c by omega, hv.2.2.1 c (by omega), bI_eq, nx_add, nx_l1, nx_add, show T0 + ssum (fun c => sgn S P.2.2.1 b c) c + sgn S P.2.2.1 b c = T0 + ssum (fun c => sgn S P.2.2.1 b c) (c + 1) by rw [show ssum (fun c => sgn S P.2.2.1 b c) (c + 1) = ssum (fun c => sgn S P.2.2.1 b c) c + sgn S P.2.2.1 b c from rfl]; omega]
    exact ih (c + 1) n (by omega) (by omega)
theorem x_mr6 (hw : sWF S) (hP : pOK P) {d : Nat} {M : mm_M} (hv : vP M d S P) (hb : ∀ b, b < 4 → vB M S P b) : ∀ (k b n : Nat), b + k = 4 → k < n → (∀ b', b' < b → slk S P b' (smt S P b') = 0) → l2_mayBeReady_6 n (nI (ssum (smt S P) b)) (nI (ssum (fun b => ssum (fun c => sgn S P.2.2.1 b c) (smt S P b)) b)) (nI b) M = some (if smr S P = true then 1 else 0, M) := by
  have hT := hw.T
  have hF := FU_big
  have hB := hw.B
  have s1 : ∀ n, n ≤ 4 → ssum (smt S P) n ≤ n * 8 := fun n _ => ssum_le n (fun k _ => (smt_spec S P k).1)
  have s2 : ∀ n, n ≤ 4 → ssum (fun b => ssum (fun c => sgn S P.2.2.1 b c) (smt S P b)) n ≤ n * 1600 := fun n _ => ssum_le n (fun k _ => sgs_bd hw k (Nat.le_refl _))
  have p1 : P.2.1 * S 0 ≤ 1000 * 8 := Nat.mul_le_mul (by have := hP.2.1; omega) hT.2
  have p2 : P.2.2.2.1 * S 0 ≤ 10000 * 8 := Nat.mul_le_mul (by have := hP.2.2.2.1; omega) hT.2
  intro k
  induction k with
  | zero =>
    intro b n hk hn hl
    obtain ⟨n, rfl⟩ : ∃ m, n = m + 1 := ⟨n - 1, by omega⟩
    have hb4 : b = 4 := by omega
    subst hb4
    have q1 := s1 4 (by omega)
    have q2 := s2 4 (by omega)
    unfold l2_mayBeReady_6 b2_mayBeReady_6 l2_mayBeReady_122 l2_mayBeReady_123
    rw [if_pos (by decide), show (0 : Int32) = nI 0 from rfl, aI_in (by omega) (by omega), hv.2.2.1, bN_eq, hv.1, if_pos hv.2.1.ok, bI_eq, hv.2.1.T, nx_mul]
    simp only [nx_lt (show P.2.1 * S 0 < 2 ^ 31 by omega) (show ssum (smt S P) 4 < 2 ^ 31 by omega)]
    have hmr : smr S P = (decide (ssum (smt S P) 4 ≤ P.2.1 * S 0) && decide (ssum (fun b => ssum (fun c => sgn S P.2.2.1 b c) (smt S P b)) 4 ≤ P.2.2.2.1 * S 0)) := by
      unfold smr
      rw [decide_eq_true ((ssum_zero 4).mpr hl), Bool.true_and]
    rw [hmr]
    by_cases c1 : P.2.1 * S 0 < ssum (smt S P) 4
    · rw [if_pos c1]
      simp [show ¬ ssum (smt S P) 4 ≤ P.2.1 * S 0 by omega]
      rfl
    · rw [if_neg c1, nx_l2, aI_in (by omega) (by omega), hv.2.2.2.2.1, bN_eq, if_pos hv.2.1.ok, bI_eq, hv.2.1.T, nx_mul]
      simp only [nx_lt (show P.2.2.2.1 * S 0 < 2 ^ 31 by omega) (show ssum (fun b => ssum (fun c => sgn S P.2.2.1 b c) (smt S P b)) 4 < 2 ^ 31 by omega)]
      by_cases c2 : P.2.2.2.1 * S 0 < ssum (fun b => ssum (fun c => sgn S P.2.2.1 b c) (smt S P b)) 4
      · rw [if_pos c2]
        simp [show ¬ ssum (fun b => ssum (fun c => sgn S P.2.2.1 b c) (smt S P b)) 4 ≤ P.2.2.2.1 * S 0 by omega]
        rfl
      · rw [if_neg c2]
        simp [show ssum (smt S P) 4 ≤ P.2.1 * S 0 by omega, show ssum (fun b => ssum (fun c => sgn S P.2.2.1 b c) (smt S P b)) 4 ≤ P.2.2.2.1 * S 0 by omega]
        rfl
  | succ k ih =>
    intro b n hk hn hl
    obtain ⟨n, rfl⟩ : ∃ m, n = m + 1 := ⟨n - 1, by omega⟩
    have h8 := (smt_spec S P b).1
    have hbv := hb b (by omega)
    have hlk : slk S P b (smt S P b) ≤ 200 := by
      unfold slk
      by_cases hs : sw S P b = true
      · rw [if_pos hs]
        have := hw.bus b (sw_lt hs)
        unfold sneed
        omega
      · rw [if_neg hs]; omega
    unfold l2_mayBeReady_6 b2_mayBeReady_6
    rw [nx_l4, if_neg (by rw [nx_le (by omega) (by omega)]; omega), aI_in (by omega) (by omega), hbv.2.1, nx_l9, nx_mul, nx_add, aI_in (by omega) (by omega), show b * 9 + smt S P b = 9 * b + smt S P b by omega, hbv.2.2.2 _ (Nat.le_refl _)]
    simp only [show (0 : Int32) = nI 0 from rfl, nx_le (show slk S P b (smt S P b) < 2 ^ 31 by omega) (show 0 < 2 ^ 31 by omega)]
    by_cases c1 : slk S P b (smt S P b) ≤ 0
    · rw [if_pos c1, aI_in (by omega) (by omega), hbv.2.1, bI_eq, nx_add]
      have := x_mr44 hw (by omega) hbv (l2_mayBeReady_6 n) (nI (ssum (smt S P) b + smt S P b)) (ssum (fun b => ssum (fun c => sgn S P.2.2.1 b c) (smt S P b)) b) (smt S P b) 0 FU (by omega) (by omega)
      rw [show ssum (fun c => sgn S P.2.2.1 b c) 0 = 0 from rfl, Nat.add_zero] at this
      rw [this]
      exact ih (b + 1) n (by omega) (by omega) (fun b' hb' => by
        by_cases hbb : b' = b
        · subst hbb; omega
        · exact hl b' (by omega))
    · rw [if_neg c1, if_neg]
      · rfl
      · unfold smr
        rw [Bool.and_eq_true, Bool.and_eq_true, decide_eq_true_eq]
        intro z
        have := (ssum_zero 4).mp z.1.1 b (by omega)
        omega
theorem x_mayBeReady (hw : sWF S) (hP : pOK P) {d : Nat} {M : mm_M} (hv : vP M d S P) (hb : ∀ b, b < 4 → vB M S P b) : f2_mayBeReady M = some (if smr S P = true then 1 else 0, M) := x_mr6 hw hP hv hb 4 0 FU (by omega) (by have := FU_big; omega) (fun b' h => by omega)
-- boxes of states
def sbf (S : sS) (P : sP) (b s : Nat) : Nat := min (sst S P b) (s - P.1 b)
def sbh (S : sS) (P : sP) (b s : Nat) : Nat := sst S P b - sbf S P b s
def slo (S : sS) (P : sP) (rdy : Bool) (s b : Nat) : Nat := if rdy = true then smt S P b - sbh S P b s else 0
def shi (S : sS) (P : sP) (s b : Nat) : Nat := min (smt S P b) (sbf S P b s)
def sth (S : sS) (P : sP) (s b : Nat) : Bool := decide (P.1 b ≤ s) && decide (0 < sbh S P b s)
def sdu (S : sS) (P : sP) (rdy : Bool) (s b : Nat) : Nat := if (rdy && sth S P s b) = true then smt S P b + 1 - sbh S P b s else 0
def swd (S : sS) (P : sP) (rdy : Bool) (s b : Nat) : Nat := shi S P s b + 1 - slo S P rdy s b
def sthN (S : sS) (P : sP) (s n : Nat) : Nat := ssum (fun b => if sth S P s b = true then 2 ^ b else 0) n
abbrev cSp : Nat → Prop := fun c => c = 26 ∨ c = 36 ∨ c = 37 ∨ c = 38 ∨ c = 39
end PLAN3
