/-! TOKENS: what both sides see of the TAPE -/
def isw (b : Nat) : Bool := decide (b = 32) || decide (b = 10)
def isdg (b : Nat) : Bool := decide (48 ≤ b) && decide (b ≤ 57)
def islt (b : Nat) : Bool := decide (97 ≤ b) && decide (b ≤ 122)
def run (B : Nat → Nat) (n : Nat) (f : Nat → Bool) : Nat → Nat → Nat
  | 0, p => p
  | k + 1, p => if p < n ∧ f (B p) = true then run B n f k (p + 1) else p
def runT (B : Nat → Nat) (n : Nat) (f : Nat → Bool) (p : Nat) : Nat := run B n f (n - p) p
theorem runT_eq (B : Nat → Nat) (n : Nat) (f : Nat → Bool) (p : Nat) : runT B n f p = if p < n ∧ f (B p) = true then runT B n f (p + 1) else p := by
  unfold runT
  by_cases h : p < n
  · obtain ⟨k, hk⟩ : ∃ k, n - p = k + 1 := ⟨n - p - 1, by omega⟩
    rw [hk, show n - (p + 1) = k by omega]
    rfl
  · rw [show n - p = 0 by omega, if_neg (fun z => h z.1)]
    rfl
theorem run_bd (B : Nat → Nat) (n : Nat) (f : Nat → Bool) : ∀ k p, p ≤ run B n f k p ∧ (p ≤ n → run B n f k p ≤ n)
  | 0, p => ⟨Nat.le_refl _, fun h => h⟩
  | k + 1, p => by
    unfold run
    by_cases h : p < n ∧ f (B p) = true
    · rw [if_pos h]
      have := run_bd B n f k (p + 1)
      exact ⟨by omega, fun _ => this.2 (by omega)⟩
    · rw [if_neg h]
      exact ⟨Nat.le_refl _, fun h => h⟩
theorem runT_ge (B : Nat → Nat) (n : Nat) (f : Nat → Bool) (p : Nat) : p ≤ runT B n f p := (run_bd B n f _ p).1
theorem runT_le {B : Nat → Nat} {n : Nat} {f : Nat → Bool} {p : Nat} (h : p ≤ n) : runT B n f p ≤ n := (run_bd B n f _ p).2 h
theorem run_end (B : Nat → Nat) (n : Nat) (f : Nat → Bool) : ∀ k p, n - p ≤ k → run B n f k p < n → f (B (run B n f k p)) = false
  | 0, p, h1, h2 => by
    have h2 : p < n := h2
    omega
  | k + 1, p, h1, h2 => by
    unfold run at h2 ⊢
    by_cases h : p < n ∧ f (B p) = true
    · rw [if_pos h] at h2 ⊢
      exact run_end B n f k (p + 1) (by omega) h2
    · rw [if_neg h] at h2 ⊢
      exact Bool.eq_false_iff.mpr (fun z => h ⟨h2, z⟩)
theorem runT_end {B : Nat → Nat} {n : Nat} {f : Nat → Bool} {p : Nat} (h : runT B n f p < n) : f (B (runT B n f p)) = false := run_end B n f _ p (Nat.le_refl _) h
theorem run_all (B : Nat → Nat) (n : Nat) (f : Nat → Bool) : ∀ k p j, p ≤ j → j < run B n f k p → f (B j) = true
  | 0, p, j, h1, h2 => by
    have h2 : j < p := h2
    omega
  | k + 1, p, j, h1, h2 => by
    unfold run at h2
    by_cases h : p < n ∧ f (B p) = true
    · rw [if_pos h] at h2
      by_cases hj : j = p
      · rw [hj]; exact h.2
      · exact run_all B n f k (p + 1) j (by omega) h2
    · rw [if_neg h] at h2
      omega
abbrev sskip (B : Nat → Nat) (n p : Nat) : Nat := runT B n isw p
theorem sskip_id {B : Nat → Nat} {n p : Nat} (h : p < n → isw (B p) = false) : sskip B n p = p := by
  show runT B n isw p = p
  rw [runT_eq, if_neg (fun z => by have := h z.1; rw [this] at z; exact absurd z.2 (by decide))]
theorem sskip_idem (B : Nat → Nat) (n p : Nat) : sskip B n (sskip B n p) = sskip B n p := sskip_id (fun h => runT_end h)
def tk (B : Nat → Nat) (n p : Nat) : Nat := if n ≤ p then 0 else if isdg (B p) = true then 2 else if islt (B p) = true then 1 else 3
def tb (B : Nat → Nat) (n p : Nat) : Nat := if n ≤ p then p else if isdg (B p) = true then runT B n isdg p else if islt (B p) = true then runT B n islt p else p + 1
def vl (B : Nat → Nat) (p : Nat) : Nat → Nat
  | 0 => 0
  | m + 1 => if m < 4 then vl B p m * 10 + (B (p + m) - 48) else vl B p m
/-- the NUMBER that stands at p -/
def pn (B : Nat → Nat) (n p : Nat) : Option Nat := if tk B n p = 2 ∧ runT B n isdg p - p ≤ 4 then some (vl B p (runT B n isdg p - p)) else none
def tnu (B : Nat → Nat) (n p : Nat) : Int32 := if runT B n isdg p - p ≤ 4 then nI (vl B p (runT B n isdg p - p)) else -1
theorem tb_le {B : Nat → Nat} {n p : Nat} (h : p ≤ n) : p ≤ tb B n p ∧ tb B n p ≤ n ∧ (p < n → p < tb B n p) := by
  unfold tb
  by_cases h1 : n ≤ p
  · rw [if_pos h1]; exact ⟨Nat.le_refl _, h, fun z => by omega⟩
  · rw [if_neg h1]
    by_cases h2 : isdg (B p) = true
    · rw [if_pos h2]
      refine ⟨runT_ge _ _ _ _, runT_le h, fun _ => ?_⟩
      rw [runT_eq, if_pos ⟨by omega, h2⟩]
      have := runT_ge B n isdg (p + 1)
      omega
    · rw [if_neg h2]
      by_cases h3 : islt (B p) = true
      · rw [if_pos h3]
        refine ⟨runT_ge _ _ _ _, runT_le h, fun _ => ?_⟩
        rw [runT_eq, if_pos ⟨by omega, h3⟩]
        have := runT_ge B n islt (p + 1)
        omega
      · rw [if_neg h3]
        exact ⟨by omega, by omega, fun _ => by omega⟩
theorem sb_tab : ∀ v : Fin 256, (sb8 v.1 = 32 ↔ v.1 = 32) ∧ (sb8 v.1 = 10 ↔ v.1 = 10) ∧ (decide (sb8 v.1 < 48) || decide (57 < sb8 v.1)) = !isdg v.1 ∧ (decide (sb8 v.1 < 97) || decide (122 < sb8 v.1)) = !islt v.1 ∧ (sb8 v.1 = 59 ↔ v.1 = 59) ∧ (v.1 < 128 → sb8 v.1 = nI v.1) := by decide +kernel
theorem vl_bd (B : Nat → Nat) (p : Nat) : ∀ m, (∀ j, j < m → isdg (B (p + j)) = true) → vl B p m < 10 ^ (min m 4)
  | 0, _ => by show 0 < 10 ^ min 0 4; decide
  | m + 1, h => by
    have ih := vl_bd B p m (fun j hj => h j (by omega))
    have hd := h m (by omega)
    unfold isdg at hd
    rw [Bool.and_eq_true, decide_eq_true_eq, decide_eq_true_eq] at hd
    unfold vl
    by_cases h4 : m < 4
    · rw [if_pos h4, show min (m + 1) 4 = min m 4 + 1 by omega, Nat.pow_succ]
      omega
    · rw [if_neg h4, show min (m + 1) 4 = min m 4 by omega]
      exact ih
theorem vl_lt (B : Nat → Nat) (p m : Nat) (h : ∀ j, j < m → isdg (B (p + j)) = true) : vl B p m < 10000 := by
  have h1 := vl_bd B p m h
  have h2 : (10 : Nat) ^ (min m 4) ≤ 10 ^ 4 := Nat.pow_le_pow_right (by decide) (by omega)
  have h3 : (10 : Nat) ^ 4 = 10000 := by decide
  omega
theorem pn_lt {B : Nat → Nat} {n p v : Nat} (h : pn B n p = some v) : v < 10000 ∧ tk B n p = 2 ∧ tnu B n p = nI v ∧ tb B n p = runT B n isdg p ∧ p < n := by
  unfold pn at h
  by_cases hc : tk B n p = 2 ∧ runT B n isdg p - p ≤ 4
  · rw [if_pos hc] at h
    cases h
    have hk : ¬ n ≤ p ∧ isdg (B p) = true := by
      have := hc.1
      unfold tk at this
      by_cases h1 : n ≤ p
      · rw [if_pos h1] at this; omega
      · rw [if_neg h1] at this
        by_cases h2 : isdg (B p) = true
        · exact ⟨h1, h2⟩
        · rw [if_neg h2] at this
          split at this <;> omega
    refine ⟨vl_lt B p _ (fun j hj => run_all B n isdg (n - p) p (p + j) (by omega) (by unfold runT at hj; omega)), hc.1, ?_, ?_, by omega⟩
    · unfold tnu; rw [if_pos hc.2]
    · unfold tb; rw [if_neg hk.1, if_pos hk.2]
  · rw [if_neg hc] at h
    cases h
/-- the class's TAPE -/
def vT (M : mm_M) (B : Nat → Nat) (n : Nat) (kd pl nu be : Int32) : Prop := mI M 20 1 = nI n ∧ (∀ j, j < n → mI M 21 j = sb8 (B j)) ∧ mI M 20 2 = kd ∧ mI M 20 3 = pl ∧ mI M 20 4 = nu ∧ mI M 20 5 = be
/-- the class looks at the TOKEN at p -/
def vTk (M : mm_M) (B : Nat → Nat) (n p : Nat) : Prop := ∃ nu, vT M B n (nI (tk B n p)) (nI p) nu (nI (tb B n p)) ∧ (tk B n p = 2 → nu = tnu B n p)
section LEX
variable {B : Nat → Nat} {n : Nat}
theorem vT.s2 {M : mm_M} {kd pl nu be : Int32} (h : vT M B n kd pl nu be) (v : Int32) : vT (sI M 20 2 v) B n v pl nu be := ⟨by rw [mI_sI_k _ _ _ (by decide)]; exact h.1, fun j hj => by rw [mI_sI_c _ _ _ _ (by decide)]; exact h.2.1 j hj, mI_sI_eq _ _ _ _, by rw [mI_sI_k _ _ _ (by decide)]; exact h.2.2.2.1, by rw [mI_sI_k _ _ _ (by decide)]; exact h.2.2.2.2.1, by rw [mI_sI_k _ _ _ (by decide)]; exact h.2.2.2.2.2⟩
theorem vT.s3 {M : mm_M} {kd pl nu be : Int32} (h : vT M B n kd pl nu be) (v : Int32) : vT (sI M 20 3 v) B n kd v nu be := ⟨by rw [mI_sI_k _ _ _ (by decide)]; exact h.1, fun j hj => by rw [mI_sI_c _ _ _ _ (by decide)]; exact h.2.1 j hj, by rw [mI_sI_k _ _ _ (by decide)]; exact h.2.2.1, mI_sI_eq _ _ _ _, by rw [mI_sI_k _ _ _ (by decide)]; exact h.2.2.2.2.1, by rw [mI_sI_k _ _ _ (by decide)]; exact h.2.2.2.2.2⟩
theorem vT.s4 {M : mm_M} {kd pl nu be : Int32} (h : vT M B n kd pl nu be) (v : Int32) : vT (sI M 20 4 v) B n kd pl v be := ⟨by rw [mI_sI_k _ _ _ (by decide)]; exact h.1, fun j hj => by rw [mI_sI_c _ _ _ _ (by decide)]; exact h.2.1 j hj, by rw [mI_sI_k _ _ _ (by decide)]; exact h.2.2.1, by rw [mI_sI_k _ _ _ (by decide)]; exact h.2.2.2.1, mI_sI_eq _ _ _ _, by rw [mI_sI_k _ _ _ (by decide)]; exact h.2.2.2.2.2⟩
theorem vT.s5 {M : mm_M} {kd pl nu be : Int32} (h : vT M B n kd pl nu be) (v : Int32) : vT (sI M 20 5 v) B n kd pl nu v := ⟨by rw [mI_sI_k _ _ _ (by decide)]; exact h.1, fun j hj => by rw [mI_sI_c _ _ _ _ (by decide)]; exact h.2.1 j hj, by rw [mI_sI_k _ _ _ (by decide)]; exact h.2.2.1, by rw [mI_sI_k _ _ _ (by decide)]; exact h.2.2.2.1, by rw [mI_sI_k _ _ _ (by decide)]; exact h.2.2.2.2.1, mI_sI_eq _ _ _ _⟩
theorem vT.mv {P : Nat → Prop} {M M' : mm_M} {kd pl nu be : Int32} (h : vT M B n kd pl nu be) (hf : Fr P M M') (h20 : ¬ P 20) (h21 : ¬ P 21) : vT M' B n kd pl nu be := ⟨by rw [hf.mI h20]; exact h.1, fun j hj => by rw [hf.mI h21]; exact h.2.1 j hj, by rw [hf.mI h20]; exact h.2.2.1, by rw [hf.mI h20]; exact h.2.2.2.1, by rw [hf.mI h20]; exact h.2.2.2.2.1, by rw [hf.mI h20]; exact h.2.2.2.2.2⟩
theorem vTk.mv {P : Nat → Prop} {M M' : mm_M} {p : Nat} (h : vTk M B n p) (hf : Fr P M M') (h20 : ¬ P 20) (h21 : ¬ P 21) : vTk M' B n p := by
  obtain ⟨nu, h1, h2⟩ := h
  exact ⟨nu, h1.mv hf h20 h21, h2⟩
theorem x_isDigit (hB : ∀ i, B i < 256) (hn : n ≤ 400) {M : mm_M} {kd pl nu be : Int32} (h : vT M B n kd pl nu be) {p : Nat} (hp : p < n) : f5_isDigit (nI p) M = some (if isdg (B p) = true then 1 else 0, M) := by
  have t := (sb_tab ⟨B p, hB p⟩).2.2.1
  simp only at t
  unfold f5_isDigit l5_isDigit_26 l5_isDigit_27
  rw [aI_in (by omega) (by omega), aI_in (by omega) (by omega), h.2.1 p hp]
  by_cases h1 : sb8 (B p) < 48
  · rw [if_pos h1, if_neg (by intro z; rw [z] at t; simp [h1] at t)]; rfl
  · rw [if_neg h1]
    by_cases h2 : 57 < sb8 (B p)
    · rw [if_pos h2, if_neg (by intro z; rw [z] at t; simp [h2] at t)]; rfl
    · rw [if_neg h2, if_pos (by
        cases hz : isdg (B p) with
        | true => rfl
        | false => rw [hz] at t; simp [h1, h2] at t)]; rfl
theorem x_isLetter (hB : ∀ i, B i < 256) (hn : n ≤ 400) {M : mm_M} {kd pl nu be : Int32} (h : vT M B n kd pl nu be) {p : Nat} (hp : p < n) : f5_isLetter (nI p) M = some (if islt (B p) = true then 1 else 0, M) := by
  have t := (sb_tab ⟨B p, hB p⟩).2.2.2.1
  simp only at t
  unfold f5_isLetter l5_isLetter_26 l5_isLetter_27
  rw [aI_in (by omega) (by omega), aI_in (by omega) (by omega), h.2.1 p hp]
  by_cases h1 : sb8 (B p) < 97
  · rw [if_pos h1, if_neg (by intro z; rw [z] at t; simp [h1] at t)]; rfl
  · rw [if_neg h1]
    by_cases h2 : 122 < sb8 (B p)
    · rw [if_pos h2, if_neg (by intro z; rw [z] at t; simp [h2] at t)]; rfl
    · rw [if_neg h2, if_pos (by
        cases hz : islt (B p) with
        | true => rfl
        | false => rw [hz] at t; simp [h1, h2] at t)]; rfl
theorem isdg_nI (hB : ∀ i, B i < 256) {p : Nat} (h : isdg (B p) = true) : sb8 (B p) = nI (B p) ∧ 48 ≤ B p ∧ B p ≤ 57 := by
  have h' := h
  unfold isdg at h'
  rw [Bool.and_eq_true, decide_eq_true_eq, decide_eq_true_eq] at h'
  exact ⟨(sb_tab ⟨B p, hB p⟩).2.2.2.2.2 (by show B p < 128; omega), h'⟩
theorem x_rn82 {M : mm_M} {kd : Int32} {p e v : Nat} (hpe : p ≤ e) (he : e ≤ 400) (h : vT M B n kd (nI p) (nI v) (nI e)) : ∃ M', l5_readNumber_82 M = some M' ∧ Fr (fun c => c = 20) M M' ∧ vT M' B n kd (nI p) (if e - p ≤ 4 then nI v else -1) (nI e) := by
  unfold l5_readNumber_82 l5_readNumber_100
  rw [bI_eq, bI_eq, h.2.2.2.2.2, h.2.2.2.1, nx_sub hpe]
  simp only [nx_l4, nx_le (show e - p < 2 ^ 31 by omega) (show 4 < 2 ^ 31 by omega)]
  by_cases h4 : e - p ≤ 4
  · rw [if_pos h4, if_pos h4]
    exact ⟨M, rfl, Fr.rf, h⟩
  · rw [if_neg h4, if_neg h4]
    exact ⟨_, rfl, Fr.sI rfl, h.s4 (-1)⟩
theorem x_rn10 (hB : ∀ i, B i < 256) (hn : n ≤ 400) {p : Nat} : ∀ (k m k' : Nat) (M : mm_M) (kd : Int32), p + m ≤ n → n - (p + m) ≤ k → k < k' → (∀ j, j < m → isdg (B (p + j)) = true) → vT M B n kd (nI p) (nI (vl B p m)) (nI (p + m)) → ∃ M', l5_readNumber_10 k' M = some M' ∧ Fr (fun c => c = 20) M M' ∧ vT M' B n kd (nI p) (if runT B n isdg (p + m) - p ≤ 4 then nI (vl B p (runT B n isdg (p + m) - p)) else -1) (nI (runT B n isdg (p + m))) := by
  intro k
  induction k with
  | zero =>
    intro m k' M kd h1 h2 h3 hd h
    obtain ⟨k', rfl⟩ : ∃ j, k' = j + 1 := ⟨k' - 1, by omega⟩
    unfold l5_readNumber_10 b5_readNumber_10
    rw [bI_eq, bI_eq, h.2.2.2.2.2, h.1, if_pos (by rw [nx_le (by omega) (by omega)]; omega)]
    have e : runT B n isdg (p + m) = p + m := by rw [runT_eq, if_neg (by omega)]
    rw [e, show p + m - p = m by omega]
    have := x_rn82 (by omega) (by omega) h
    rw [show p + m - p = m by omega] at this
    exact this
  | succ k ih =>
    intro m k' M kd h1 h2 h3 hd h
    obtain ⟨k', rfl⟩ : ∃ j, k' = j + 1 := ⟨k' - 1, by omega⟩
    unfold l5_readNumber_10 b5_readNumber_10
    rw [bI_eq, bI_eq, h.2.2.2.2.2, h.1]
    by_cases hlt : p + m < n
    · rw [if_neg (by rw [nx_le (by omega) (by omega)]; omega), bI_eq, x_isDigit hB hn h hlt, cI_some]
      by_cases hdig : isdg (B (p + m)) = true
      · obtain ⟨d1, d2, d3⟩ := isdg_nI hB hdig
        have hvl := vl_lt B p m hd
        rw [if_pos hdig, if_neg (by decide), bI_eq, bI_eq, h.2.2.2.2.2, h.2.2.2.1, nx_sub (by omega), show p + m - p = m by omega]
        have er : runT B n isdg (p + m) = runT B n isdg (p + (m + 1)) := by rw [runT_eq B n isdg (p + m), if_pos ⟨hlt, hdig⟩]; rfl
        rw [er]
        have hd' : ∀ j, j < m + 1 → isdg (B (p + j)) = true := fun j hj => by
          by_cases hjm : j = m
          · rw [hjm]; exact hdig
          · exact hd j (by omega)
        simp only [nx_l4, nx_le (show 4 < 2 ^ 31 by omega) (show m < 2 ^ 31 by omega)]
        by_cases h4 : 4 ≤ m
        · rw [if_pos h4]
          have h5 := h.s5 (nI (p + (m + 1)))
          have hv : vl B p (m + 1) = vl B p m := by show (if m < 4 then _ else _) = _; rw [if_neg (by omega)]
          rw [← hv] at h5
          obtain ⟨M', g1, g2, g3⟩ := ih (m + 1) k' _ kd (by omega) (by omega) (by omega) hd' h5
          refine ⟨M', ?_, (Fr.sI (P := fun c => c = 20) rfl).tr g2, g3⟩
          unfold l5_readNumber_69
          rw [bI_eq, h.2.2.2.2.2, show nI (p + m) + 1 = nI (p + (m + 1)) from nx_add (p + m) 1, bM_eq]
          exact g1
        · rw [if_neg h4, bI_eq, bI_eq, aI_in (by omega) (by omega), h.2.1 _ hlt, h.2.2.2.2.1, d1]
          have hv : vl B p (m + 1) = vl B p m * 10 + (B (p + m) - 48) := by show (if m < 4 then _ else _) = _; rw [if_pos (by omega)]
          have hnum : nI (vl B p m) * 10 + nI (B (p + m)) - 48 = nI (vl B p (m + 1)) := by
            rw [show (10 : Int32) = nI 10 from rfl, show (48 : Int32) = nI 48 from rfl, nx_mul, nx_add, nx_sub (by omega), hv]
            congr 1; omega
          rw [hnum, bM_eq]
          have h5 := (h.s4 (nI (vl B p (m + 1)))).s5 (nI (p + (m + 1)))
          obtain ⟨M', g1, g2, g3⟩ := ih (m + 1) k' _ kd (by omega) (by omega) (by omega) hd' h5
          refine ⟨M', ?_, ((Fr.sI (P := fun c => c = 20) rfl).tr (Fr.sI rfl)).tr g2, g3⟩
          unfold l5_readNumber_69
          rw [bI_eq, (h.s4 (nI (vl B p (m + 1)))).2.2.2.2.2, show nI (p + m) + 1 = nI (p + (m + 1)) from nx_add (p + m) 1, bM_eq]
          exact g1
      · rw [if_neg hdig, if_pos rfl]
        have e : runT B n isdg (p + m) = p + m := by rw [runT_eq, if_neg (fun z => hdig z.2)]
        rw [e, show p + m - p = m by omega]
        have := x_rn82 (by omega) (by omega) h
        rw [show p + m - p = m by omega] at this
        exact this
    · rw [if_pos (by rw [nx_le (by omega) (by omega)]; omega)]
      have e : runT B n isdg (p + m) = p + m := by rw [runT_eq, if_neg (by omega)]
      rw [e, show p + m - p = m by omega]
      have := x_rn82 (by omega) (by omega) h
      rw [show p + m - p = m by omega] at this
      exact this
theorem x_rw5 (hB : ∀ i, B i < 256) (hn : n ≤ 400) : ∀ (k b k' : Nat) (M : mm_M) (kd pl nu : Int32), b ≤ n → n - b ≤ k → k < k' → vT M B n kd pl nu (nI b) → ∃ M', l5_readWord_5 k' M = some M' ∧ Fr (fun c => c = 20) M M' ∧ vT M' B n kd pl nu (nI (runT B n islt b)) := by
  intro k
  induction k with
  | zero =>
    intro b k' M kd pl nu h1 h2 h3 h
    obtain ⟨k', rfl⟩ : ∃ j, k' = j + 1 := ⟨k' - 1, by omega⟩
    refine ⟨M, ?_, Fr.rf, ?_⟩
    · unfold l5_readWord_5 b5_readWord_5 l5_readWord_40
      rw [bI_eq, bI_eq, h.2.2.2.2.2, h.1, if_pos (by rw [nx_le (by omega) (by omega)]; omega)]
    · rw [runT_eq, if_neg (by omega)]; exact h
  | succ k ih =>
    intro b k' M kd pl nu h1 h2 h3 h
    obtain ⟨k', rfl⟩ : ∃ j, k' = j + 1 := ⟨k' - 1, by omega⟩
    unfold l5_readWord_5 b5_readWord_5 l5_readWord_40
    rw [bI_eq, bI_eq, h.2.2.2.2.2, h.1]
    by_cases hlt : b < n
    · rw [if_neg (by rw [nx_le (by omega) (by omega)]; omega), bI_eq, x_isLetter hB hn h hlt, cI_some]
      by_cases hl : islt (B b) = true
      · rw [if_pos hl, if_neg (by decide), bI_eq, h.2.2.2.2.2, show nI b + 1 = nI (b + 1) from nx_add b 1, bM_eq, runT_eq B n islt b, if_pos ⟨hlt, hl⟩]
        obtain ⟨M', g1, g2, g3⟩ := ih (b + 1) k' _ kd pl nu (by omega) (by omega) (by omega) (h.s5 (nI (b + 1)))
        exact ⟨M', g1, (Fr.sI (P := fun c => c = 20) rfl).tr g2, g3⟩
      · rw [if_neg hl, if_pos rfl, runT_eq B n islt b, if_neg (fun z => hl z.2)]
        exact ⟨M, rfl, Fr.rf, h⟩
    · rw [if_pos (by rw [nx_le (by omega) (by omega)]; omega), runT_eq B n islt b, if_neg (fun z => hlt z.1)]
      exact ⟨M, rfl, Fr.rf, h⟩
theorem x_st52 (hB : ∀ i, B i < 256) (hn : n ≤ 400) {M : mm_M} {kd pl nu : Int32} {b : Nat} (hb : b ≤ n) (h : vT M B n kd pl nu (nI b)) : ∃ M', l5_step_52 M = some M' ∧ Fr (fun c => c = 20) M M' ∧ vTk M' B n b := by
  have h3 := h.s3 (nI b)
  have hF := FU_big
  unfold l5_step_52 l5_step_130
  rw [bI_eq, h.2.2.2.2.2, bM_eq, bI_eq, bI_eq, h3.2.2.2.2.2, h3.1]
  have f3 : Fr (fun c => c = 20) M (sI M 20 3 (nI b)) := Fr.sI rfl
  by_cases hlt : b < n
  · rw [if_pos (by rw [nx_lt (by omega) (by omega)]; exact hlt), bI_eq, x_isDigit hB hn h3 hlt, cI_some]
    by_cases hd : isdg (B b) = true
    · have ek : tk B n b = 2 := by unfold tk; rw [if_neg (by omega), if_pos hd]
      have eb : tb B n b = runT B n isdg b := by unfold tb; rw [if_neg (by omega), if_pos hd]
      rw [if_pos hd, if_neg (by decide)]
      obtain ⟨M', g1, g2, g3⟩ := x_rn10 hB hn (p := b) (n - b) 0 FU (sI (sI (sI M 20 3 (nI b)) 20 2 2) 20 4 0) (nI 2) (by omega) (by omega) (by omega) (fun j hj => by omega) ((h3.s2 2).s4 0)
      refine ⟨M', ?_, f3.tr (((Fr.sI (P := fun c => c = 20) rfl).tr (Fr.sI rfl)).tr g2), ?_⟩
      · unfold f5_readNumber
        rw [bM_eq, bM_eq, g1, cV_some]
      · refine ⟨_, ?_, fun _ => rfl⟩
        rw [ek, eb]
        exact g3
    · rw [if_neg hd, if_pos rfl, bI_eq, h3.2.2.2.2.2, x_isLetter hB hn h3 hlt, cI_some]
      by_cases hl : islt (B b) = true
      · have ek : tk B n b = 1 := by unfold tk; rw [if_neg (by omega), if_neg hd, if_pos hl]
        have eb : tb B n b = runT B n islt b := by unfold tb; rw [if_neg (by omega), if_neg hd, if_pos hl]
        rw [if_pos hl, if_neg (by decide)]
        obtain ⟨M', g1, g2, g3⟩ := x_rw5 hB hn (n - b) b FU (sI (sI M 20 3 (nI b)) 20 2 1) (nI 1) (nI b) nu (by omega) (by omega) (by omega) (h3.s2 1)
        refine ⟨M', ?_, f3.tr ((Fr.sI (P := fun c => c = 20) rfl).tr g2), nu, ?_, fun z => by omega⟩
        · unfold f5_readWord
          rw [bM_eq, g1, cV_some]
        · rw [ek, eb]
          exact g3
      · have ek : tk B n b = 3 := by unfold tk; rw [if_neg (by omega), if_neg hd, if_neg hl]
        have eb : tb B n b = b + 1 := by unfold tb; rw [if_neg (by omega), if_neg hd, if_neg hl]
        rw [if_neg hl, if_pos rfl, bM_eq, bI_eq, (h3.s2 3).2.2.2.2.2, show nI b + 1 = nI (b + 1) from nx_add b 1, bM_eq]
        refine ⟨_, rfl, f3.tr ((Fr.sI (P := fun c => c = 20) rfl).tr (Fr.sI rfl)), nu, ?_, fun z => by omega⟩
        rw [ek, eb]
        exact (h3.s2 3).s5 (nI (b + 1))
  · have ek : tk B n b = 0 := by unfold tk; rw [if_pos (by omega)]
    have eb : tb B n b = b := by unfold tb; rw [if_pos (by omega)]
    rw [if_neg (by rw [nx_lt (by omega) (by omega)]; exact hlt), bM_eq]
    refine ⟨_, rfl, f3.tr (Fr.sI rfl), nu, ?_, fun z => by omega⟩
    rw [ek, eb]
    exact h3.s2 0
theorem x_st0 (hB : ∀ i, B i < 256) (hn : n ≤ 400) : ∀ (k b k' : Nat) (M : mm_M) (kd pl nu : Int32), b ≤ n → n - b ≤ k → k < k' → vT M B n kd pl nu (nI b) → ∃ M', l5_step_0 k' M = some M' ∧ Fr (fun c => c = 20) M M' ∧ vTk M' B n (sskip B n b) := by
  intro k
  induction k with
  | zero =>
    intro b k' M kd pl nu h1 h2 h3 h
    obtain ⟨k', rfl⟩ : ∃ j, k' = j + 1 := ⟨k' - 1, by omega⟩
    unfold l5_step_0 b5_step_0
    rw [bI_eq, bI_eq, h.2.2.2.2.2, h.1, if_pos (by rw [nx_le (by omega) (by omega)]; omega), sskip_id (fun z => by omega)]
    exact x_st52 hB hn h1 h
  | succ k ih =>
    intro b k' M kd pl nu h1 h2 h3 h
    obtain ⟨k', rfl⟩ : ∃ j, k' = j + 1 := ⟨k' - 1, by omega⟩
    unfold l5_step_0 b5_step_0
    rw [bI_eq, bI_eq, h.2.2.2.2.2, h.1]
    by_cases hlt : b < n
    · obtain ⟨t1, t2, -⟩ := sb_tab ⟨B b, hB b⟩
      simp only at t1 t2
      have next : isw (B b) = true → ∃ M', l5_step_39 (l5_step_0 k') M = some M' ∧ Fr (fun c => c = 20) M M' ∧ vTk M' B n (sskip B n b) := by
        intro hw
        obtain ⟨M', g1, g2, g3⟩ := ih (b + 1) k' _ kd pl nu (by omega) (by omega) (by omega) (h.s5 (nI (b + 1)))
        refine ⟨M', ?_, (Fr.sI (P := fun c => c = 20) rfl).tr g2, ?_⟩
        · unfold l5_step_39
          rw [bI_eq, h.2.2.2.2.2, show nI b + 1 = nI (b + 1) from nx_add b 1, bM_eq]
          exact g1
        · have e : sskip B n b = sskip B n (b + 1) := by
            show runT B n isw b = _
            rw [runT_eq, if_pos ⟨hlt, hw⟩]
          rw [e]; exact g3
      rw [if_neg (by rw [nx_le (by omega) (by omega)]; omega), bI_eq, aI_in (by omega) (by omega), h.2.1 b hlt]
      by_cases h32 : B b = 32
      · rw [if_pos (t1.mpr h32)]
        exact next (by unfold isw; rw [decide_eq_true h32]; rfl)
      · rw [if_neg (fun z => h32 (t1.mp z)), bI_eq, aI_in (by omega) (by omega), h.2.1 b hlt]
        by_cases h10 : B b = 10
        · rw [if_pos (t2.mpr h10)]
          exact next (by unfold isw; rw [decide_eq_true h10, Bool.or_true])
        · rw [if_neg (fun z => h10 (t2.mp z)), sskip_id (fun _ => by unfold isw; rw [decide_eq_false h32, decide_eq_false h10]; rfl)]
          exact x_st52 hB hn h1 h
    · rw [if_pos (by rw [nx_le (by omega) (by omega)]; omega), sskip_id (fun z => by omega)]
      exact x_st52 hB hn h1 h
theorem x_step (hB : ∀ i, B i < 256) (hn : n ≤ 400) {M : mm_M} {p : Nat} (hp : p ≤ n) (h : vTk M B n p) : ∃ M', f5_step M = some M' ∧ Fr (fun c => c = 20) M M' ∧ vTk M' B n (sskip B n (tb B n p)) := by
  obtain ⟨nu, h1, -⟩ := h
  exact x_st0 hB hn (n - tb B n p) (tb B n p) FU M _ _ _ (tb_le hp).2.1 (Nat.le_refl _) (by have := FU_big; omega) h1
end LEX
