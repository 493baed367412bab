/-- the NUMBER at p, if it lies between lo and hi; else the FAULT -/
def rdF (B : Nat → Nat) (n p : Nat) (lo hi : Int32) : Option Nat := match pn B n p with
  | some v => if okI (nI v) lo hi = true then some v else none
  | none => none
def rdE (B : Nat → Nat) (n p : Nat) : Nat := match pn B n p with
  | some _ => 2 + 8 * p
  | none => 1 + 8 * p
/-- the reference's TAPE, at a -/
def vA (M : mm_M) (B : Nat → Nat) (n a : Nat) : Prop := mI M 46 4 = nI n ∧ (∀ j, j < n → mI M 49 j = nI (B j)) ∧ mI M 46 6 = nI a
def RS (M M' : mm_M) : Prop := Fr (fun c => c = 46) M M' ∧ ∀ k, k ≠ 6 → k ≠ 8 → k ≠ 9 → mI M' 46 k = mI M 46 k
def RE (M M' : mm_M) : Prop := Fr (fun c => c = 46) M M' ∧ ∀ k, k ≠ 6 → k ≠ 7 → k ≠ 8 → k ≠ 9 → mI M' 46 k = mI M 46 k
theorem RS.rf {M : mm_M} : RS M M := ⟨Fr.rf, fun _ _ _ _ => rfl⟩
theorem RS.tr {M M1 M2 : mm_M} (h1 : RS M M1) (h2 : RS M1 M2) : RS M M2 := ⟨h1.1.tr h2.1, fun k a b c => (h2.2 k a b c).trans (h1.2 k a b c)⟩
theorem RS.e {M M1 : mm_M} (h : RS M M1) : RE M M1 := ⟨h.1, fun k a _ b c => h.2 k a b c⟩
theorem RE.tr {M M1 M2 : mm_M} (h1 : RE M M1) (h2 : RE M1 M2) : RE M M2 := ⟨h1.1.tr h2.1, fun k a b c d => (h2.2 k a b c d).trans (h1.2 k a b c d)⟩
theorem RS.s6 (M : mm_M) (v : Int32) : RS M (sI M 46 6 v) := ⟨Fr.sI rfl, fun k a _ _ => mI_sI_k _ _ _ a⟩
theorem RS.s8 (M : mm_M) (v : Int32) : RS M (sI M 46 8 v) := ⟨Fr.sI rfl, fun k _ a _ => mI_sI_k _ _ _ a⟩
theorem RS.s9 (M : mm_M) (v : Int32) : RS M (sI M 46 9 v) := ⟨Fr.sI rfl, fun k _ _ a => mI_sI_k _ _ _ a⟩
theorem RE.s7 (M : mm_M) (v : Int32) : RE M (sI M 46 7 v) := ⟨Fr.sI rfl, fun k _ a _ _ => mI_sI_k _ _ _ a⟩
section LEX2
variable {B : Nat → Nat} {n : Nat}
theorem tk2 (p : Nat) : tk B n p = 2 ↔ p < n ∧ isdg (B p) = true := by
  unfold tk
  by_cases h1 : n ≤ p
  · rw [if_pos h1]; constructor
    · intro z; omega
    · intro z; omega
  · rw [if_neg h1]
    by_cases h2 : isdg (B p) = true
    · rw [if_pos h2]; exact ⟨fun _ => ⟨by omega, h2⟩, fun _ => rfl⟩
    · rw [if_neg h2]
      constructor
      · intro z; split at z <;> omega
      · intro z; exact absurd z.2 h2
theorem vA.s6 {M : mm_M} {a : Nat} (h : vA M B n a) (a' : Nat) : vA (sI M 46 6 (nI a')) B n a' := ⟨by rw [mI_sI_k _ _ _ (by decide)]; exact h.1, fun j hj => by rw [mI_sI_c _ _ _ _ (by decide)]; exact h.2.1 j hj, mI_sI_eq _ _ _ _⟩
theorem vA.sk {M : mm_M} {a : Nat} (h : vA M B n a) {k : Nat} (v : Int32) (h4 : 4 ≠ k) (h6 : 6 ≠ k) : vA (sI M 46 k v) B n a := ⟨by rw [mI_sI_k _ _ _ h4]; exact h.1, fun j hj => by rw [mI_sI_c _ _ _ _ (by decide)]; exact h.2.1 j hj, by rw [mI_sI_k _ _ _ h6]; exact h.2.2⟩
theorem vA.mv {P : Nat → Prop} {M M' : mm_M} {a : Nat} (h : vA M B n a) (hf : Fr P M M') (h46 : ¬ P 46) (h49 : ¬ P 49) : vA M' B n a := ⟨by rw [hf.mI h46]; exact h.1, fun j hj => by rw [hf.mI h49]; exact h.2.1 j hj, by rw [hf.mI h46]; exact h.2.2⟩
theorem y_he52 (hn : n ≤ 400) {M : mm_M} {a : Nat} (ha : a ≤ n) (h : vA M B n a) : l7_here_52 M = some (if a < n then nI (B a) else -1, M) := by
  unfold l7_here_52 l7_here_76
  rw [bI_eq, bI_eq, h.2.2, h.1]
  by_cases hlt : a < n
  · rw [if_neg (by rw [nx_le (by omega) (by omega)]; omega), bI_eq, aI_in (by omega) (by omega), h.2.1 a hlt, if_pos hlt]
  · rw [if_pos (by rw [nx_le (by omega) (by omega)]; omega), if_neg hlt]
theorem y_he0 (hB : ∀ i, B i < 256) (hn : n ≤ 400) : ∀ (k a k' : Nat) (M : mm_M), a ≤ n → n - a ≤ k → k < k' → vA M B n a → ∃ M', l7_here_0 k' M = some (if sskip B n a < n then nI (B (sskip B n a)) else -1, M') ∧ (Fr (fun c => c = 46) M M' ∧ ∀ k, k ≠ 6 → mI M' 46 k = mI M 46 k) ∧ vA M' B n (sskip B n a) := by
  intro k
  induction k with
  | zero =>
    intro a k' M h1 h2 h3 h
    obtain ⟨k', rfl⟩ : ∃ j, k' = j + 1 := ⟨k' - 1, by omega⟩
    rw [sskip_id (fun z => by omega)]
    refine ⟨M, ?_, ⟨Fr.rf, fun _ _ => rfl⟩, h⟩
    unfold l7_here_0 b7_here_0
    rw [bI_eq, bI_eq, h.2.2, h.1, if_pos (by rw [nx_le (by omega) (by omega)]; omega)]
    exact y_he52 hn h1 h
  | succ k ih =>
    intro a k' M h1 h2 h3 h
    obtain ⟨k', rfl⟩ : ∃ j, k' = j + 1 := ⟨k' - 1, by omega⟩
    unfold l7_here_0 b7_here_0
    rw [bI_eq, bI_eq, h.2.2, h.1]
    by_cases hlt : a < n
    · have hb := hB a
      have next : isw (B a) = true → ∃ M', l7_here_39 (l7_here_0 k') M = some (if sskip B n a < n then nI (B (sskip B n a)) else -1, M') ∧ (Fr (fun c => c = 46) M M' ∧ ∀ k, k ≠ 6 → mI M' 46 k = mI M 46 k) ∧ vA M' B n (sskip B n a) := by
        intro hw
        have e : sskip B n a = sskip B n (a + 1) := by
          show runT B n isw a = _
          rw [runT_eq, if_pos ⟨hlt, hw⟩]
        rw [e]
        obtain ⟨M', g1, g2, g3⟩ := ih (a + 1) k' _ (by omega) (by omega) (by omega) (h.s6 (a + 1))
        refine ⟨M', ?_, ⟨(Fr.sI (P := fun c => c = 46) rfl).tr g2.1, fun k hk => by rw [g2.2 k hk, mI_sI_k _ _ _ hk]⟩, g3⟩
        unfold l7_here_39
        rw [bI_eq, h.2.2, show nI a + 1 = nI (a + 1) from nx_add a 1, bM_eq]
        exact g1
      rw [if_neg (by rw [nx_le (by omega) (by omega)]; omega), bI_eq, aI_in (by omega) (by omega), h.2.1 a hlt]
      by_cases h32 : B a = 32
      · rw [if_pos (by rw [h32]; rfl)]
        exact next (by unfold isw; rw [decide_eq_true h32]; rfl)
      · rw [if_neg (by rw [show (32 : Int32) = nI 32 from rfl, nx_eq (by omega) (by omega)]; exact h32), bI_eq, aI_in (by omega) (by omega), h.2.1 a hlt]
        by_cases h10 : B a = 10
        · rw [if_pos (by rw [h10]; rfl)]
          exact next (by unfold isw; rw [decide_eq_true h10, Bool.or_true])
        · rw [if_neg (by rw [show (10 : Int32) = nI 10 from rfl, nx_eq (by omega) (by omega)]; exact h10), sskip_id (fun _ => by unfold isw; rw [decide_eq_false h32, decide_eq_false h10]; rfl)]
          exact ⟨M, y_he52 hn h1 h, ⟨Fr.rf, fun _ _ => rfl⟩, h⟩
    · rw [if_pos (by rw [nx_le (by omega) (by omega)]; omega), sskip_id (fun z => by omega)]
      exact ⟨M, y_he52 hn h1 h, ⟨Fr.rf, fun _ _ => rfl⟩, h⟩
theorem y_here (hB : ∀ i, B i < 256) (hn : n ≤ 400) {M : mm_M} {a p : Nat} (ha : a ≤ n) (hp : sskip B n a = p) (h : vA M B n a) : ∃ M', f7_here M = some (if p < n then nI (B p) else -1, M') ∧ (Fr (fun c => c = 46) M M' ∧ ∀ k, k ≠ 6 → mI M' 46 k = mI M 46 k) ∧ vA M' B n p := by
  subst hp
  exact y_he0 hB hn (n - a) a FU M ha (Nat.le_refl _) (by have := FU_big; omega) h
theorem RSh {M M' : mm_M} (h : Fr (fun c => c = 46) M M' ∧ ∀ k, k ≠ 6 → mI M' 46 k = mI M 46 k) : RS M M' := ⟨h.1, fun k a _ _ => h.2 k a⟩
theorem okS_dg {b : Nat} (hb : b < 256) : okS (nI b) 48 57 = isdg b := by rw [okS_nI (by omega) (by omega) (by omega)]; rfl
theorem okS_lt {b : Nat} (hb : b < 256) : okS (nI b) 97 122 = islt b := by rw [okS_nI (by omega) (by omega) (by omega)]; rfl
theorem y_isNumber (hB : ∀ i, B i < 256) (hn : n ≤ 400) {M : mm_M} {a p : Nat} (ha : a ≤ n) (hp : sskip B n a = p) (h : vA M B n a) : ∃ M', f7_isNumber M = some (if tk B n p = 2 then 1 else 0, M') ∧ RS M M' ∧ vA M' B n p := by
  obtain ⟨M', e1, e2, e3⟩ := y_here hB hn ha hp h
  refine ⟨M', ?_, RSh e2, e3⟩
  have hb := hB p
  unfold f7_isNumber
  rw [e1, cI_some]
  by_cases hlt : p < n
  · rw [if_pos hlt, show f7_in (nI (B p)) 48 57 M' = some (if okS (nI (B p)) 48 57 = true then 1 else 0, M') from y_inS _ 48 57 M', cI_some, okS_dg hb]
    by_cases hd : isdg (B p) = true
    · rw [if_pos hd, if_pos ((tk2 p).mpr ⟨hlt, hd⟩)]; rfl
    · rw [if_neg hd, if_neg (fun z => hd ((tk2 p).mp z).2)]; rfl
  · rw [if_neg hlt, if_neg (fun z => hlt ((tk2 p).mp z).1), y_in, if_pos (show (-1 : Int32) < 48 by decide), cI_some]; rfl
theorem y_rp117 {M : mm_M} {p e v : Nat} (hpe : p ≤ e) (he : e ≤ 400) (h : vA M B n e) (h8 : mI M 46 8 = nI v) (h9 : mI M 46 9 = nI p) : (e - p ≤ 4 → l7_readPlain_117 M = some (1, M)) ∧ (¬ e - p ≤ 4 → l7_readPlain_117 M = some (0, sI M 46 7 (nI (1 + 8 * p)))) := by
  unfold l7_readPlain_117 l7_readPlain_142 l7_readPlain_147
  rw [bI_eq, bI_eq, h.2.2, h9, nx_sub hpe]
  simp only [nx_l4, nx_le (show e - p < 2 ^ 31 by omega) (show 4 < 2 ^ 31 by omega)]
  constructor
  · intro h4
    rw [if_pos h4]; rfl
  · intro h4
    rw [if_neg h4, bI_eq]
    unfold f7_fails
    rw [show (1 : Int32) + 8 * nI p = nI (1 + 8 * p) from by rw [show (8 : Int32) = nI 8 from rfl, nx_mul]; exact nx_add 1 _, bM_eq]
    rfl
theorem y_rp30 (hB : ∀ i, B i < 256) (hn : n ≤ 400) {p : Nat} : ∀ (k m k' : Nat) (M : mm_M), p + m ≤ n → n - (p + m) ≤ k → k < k' → (∀ j, j < m → isdg (B (p + j)) = true) → vA M B n (p + m) → mI M 46 8 = nI (vl B p m) → mI M 46 9 = nI p → ∃ M', (RS M M' ∧ vA M' B n (runT B n isdg (p + m)) ∧ mI M' 46 8 = nI (vl B p (runT B n isdg (p + m) - p)) ∧ mI M' 46 9 = nI p) ∧ (runT B n isdg (p + m) - p ≤ 4 → l7_readPlain_30 k' M = some (1, M')) ∧ (¬ runT B n isdg (p + m) - p ≤ 4 → l7_readPlain_30 k' M = some (0, sI M' 46 7 (nI (1 + 8 * p)))) := by
  intro k
  induction k with
  | zero =>
    intro m k' M h1 h2 h3 hd h h8 h9
    obtain ⟨k', rfl⟩ : ∃ j, k' = j + 1 := ⟨k' - 1, by omega⟩
    have e : runT B n isdg (p + m) = p + m := by rw [runT_eq, if_neg (by omega)]
    rw [e]
    have hh := y_rp117 (by omega) (by omega) h h8 h9
    refine ⟨M, ⟨RS.rf, h, by rw [show p + m - p = m by omega]; exact h8, h9⟩, ?_⟩
    unfold l7_readPlain_30 b7_readPlain_30
    rw [bI_eq, bI_eq, h.2.2, h.1, if_pos (by rw [nx_le (by omega) (by omega)]; omega)]
    exact hh
  | succ k ih =>
    intro m k' M h1 h2 h3 hd h h8 h9
    obtain ⟨k', rfl⟩ : ∃ j, k' = j + 1 := ⟨k' - 1, by omega⟩
    have stop : (¬ (p + m < n ∧ isdg (B (p + m)) = true)) → l7_readPlain_30 (k' + 1) M = l7_readPlain_117 M → ∃ M', (RS M M' ∧ vA M' B n (runT B n isdg (p + m)) ∧ mI M' 46 8 = nI (vl B p (runT B n isdg (p + m) - p)) ∧ mI M' 46 9 = nI p) ∧ (runT B n isdg (p + m) - p ≤ 4 → l7_readPlain_30 (k' + 1) M = some (1, M')) ∧ (¬ runT B n isdg (p + m) - p ≤ 4 → l7_readPlain_30 (k' + 1) M = some (0, sI M' 46 7 (nI (1 + 8 * p)))) := by
      intro hs hl
      have e : runT B n isdg (p + m) = p + m := by rw [runT_eq, if_neg hs]
      rw [e, hl]
      have hh := y_rp117 (by omega) (by omega) h h8 h9
      exact ⟨M, ⟨RS.rf, h, by rw [show p + m - p = m by omega]; exact h8, h9⟩, hh⟩
    by_cases hlt : p + m < n
    · have hb := hB (p + m)
      by_cases hdig : isdg (B (p + m)) = true
      · have hvl := vl_lt B p m hd
        obtain ⟨-, d2, d3⟩ := isdg_nI hB hdig
        have er : runT B n isdg (p + m) = runT B n isdg (p + (m + 1)) := by rw [runT_eq B n isdg (p + m), if_pos ⟨hlt, hdig⟩]; rfl
        rw [er]
        have hd' : ∀ j, j < m + 1 → isdg (B (p + j)) = true := fun j hj => by
          by_cases hjm : j = m
          · rw [hjm]; exact hdig
          · exact hd j (by omega)
        have h8' : vA (sI (sI M 46 8 (nI (vl B p (m + 1)))) 46 6 (nI (p + (m + 1)))) B n (p + (m + 1)) := (h.sk (k := 8) _ (by decide) (by decide)).s6 _
        obtain ⟨M', ⟨g1, g2, g3, g4⟩, g5⟩ := ih (m + 1) k' (sI (sI M 46 8 (nI (vl B p (m + 1)))) 46 6 (nI (p + (m + 1)))) (by omega) (by omega) (by omega) hd' h8' (by rw [mI_sI_k _ _ _ (by decide), mI_sI_eq]) (by rw [mI_sI_k _ _ _ (by decide), mI_sI_k _ _ _ (by decide)]; exact h9)
        have go : l7_readPlain_30 (k' + 1) M = l7_readPlain_30 k' (sI (sI M 46 8 (nI (vl B p (m + 1)))) 46 6 (nI (p + (m + 1)))) := by
          rw [show l7_readPlain_30 (k' + 1) M = b7_readPlain_30 (l7_readPlain_30 k') M from rfl]
          unfold b7_readPlain_30 l7_readPlain_101
          rw [bI_eq, bI_eq, h.2.2, h.1, if_neg (by rw [nx_le (by omega) (by omega)]; omega), bI_eq, aI_in (by omega) (by omega), h.2.1 _ hlt, show f7_in (nI (B (p + m))) 48 57 M = some (if okS (nI (B (p + m))) 48 57 = true then 1 else 0, M) from y_inS _ 48 57 M, cI_some, okS_dg hb, if_pos hdig, if_neg (by decide), bI_eq, bI_eq, h.2.2, h9, nx_sub (by omega), show p + m - p = m by omega]
          by_cases h4 : 4 ≤ m
          · have hv : vl B p (m + 1) = vl B p m := by show (if m < 4 then _ else _) = _; rw [if_neg (by omega)]
            rw [if_pos (by rw [nx_l4, nx_le (by omega) (by omega)]; exact h4), bI_eq, h8, bM_eq, bI_eq, mI_sI_k _ _ _ (by decide), h.2.2, show nI (p + m) + 1 = nI (p + (m + 1)) from nx_add (p + m) 1, bM_eq, hv]
          · have hv : vl B p (m + 1) = vl B p m * 10 + (B (p + m) - 48) := by show (if m < 4 then _ else _) = _; rw [if_pos (by omega)]
            have hnum : 10 * nI (vl B p m) + nI (B (p + m)) - 48 = nI (vl B p (m + 1)) := by
              rw [show (10 : Int32) = nI 10 from rfl, show (48 : Int32) = nI 48 from rfl, nx_mul, nx_add, nx_sub (by omega), hv]
              congr 1; omega
            rw [if_neg (by rw [nx_l4, nx_le (by omega) (by omega)]; exact h4), bI_eq, bI_eq, aI_in (by omega) (by omega), h.2.1 _ hlt, h8, hnum, bM_eq, bI_eq, mI_sI_k _ _ _ (by decide), h.2.2, show nI (p + m) + 1 = nI (p + (m + 1)) from nx_add (p + m) 1, bM_eq]
        rw [go]
        exact ⟨M', ⟨((RS.s8 _ _).tr (RS.s6 _ _)).tr g1, g2, g3, g4⟩, g5⟩
      · refine stop (fun z => hdig z.2) ?_
        rw [show l7_readPlain_30 (k' + 1) M = b7_readPlain_30 (l7_readPlain_30 k') M from rfl]
        unfold b7_readPlain_30
        rw [bI_eq, bI_eq, h.2.2, h.1, if_neg (by rw [nx_le (by omega) (by omega)]; omega), bI_eq, aI_in (by omega) (by omega), h.2.1 _ hlt, show f7_in (nI (B (p + m))) 48 57 M = some (if okS (nI (B (p + m))) 48 57 = true then 1 else 0, M) from y_inS _ 48 57 M, cI_some, okS_dg hb, if_neg hdig, if_pos rfl]
    · refine stop (fun z => hlt z.1) ?_
      rw [show l7_readPlain_30 (k' + 1) M = b7_readPlain_30 (l7_readPlain_30 k') M from rfl]
      unfold b7_readPlain_30
      rw [bI_eq, bI_eq, h.2.2, h.1, if_pos (by rw [nx_le (by omega) (by omega)]; omega)]
theorem y_readPlain (hB : ∀ i, B i < 256) (hn : n ≤ 400) {M : mm_M} {a p : Nat} (ha : a ≤ n) (hp : sskip B n a = p) (h : vA M B n a) : (∀ v, pn B n p = some v → ∃ M', f7_readPlain M = some (1, M') ∧ RS M M' ∧ vA M' B n (tb B n p) ∧ mI M' 46 8 = nI v ∧ mI M' 46 9 = nI p) ∧ (pn B n p = none → ∃ M', f7_readPlain M = some (0, M') ∧ RE M M' ∧ mI M' 46 7 = nI (1 + 8 * p)) := by
  obtain ⟨M1, e1, e2, e3⟩ := y_isNumber hB hn ha hp h
  have hpn : p ≤ n := by rw [← hp]; exact runT_le ha
  have hF := FU_big
  by_cases ht : tk B n p = 2
  · obtain ⟨hlt, hd⟩ := (tk2 p).mp ht
    have eb : tb B n p = runT B n isdg p := by unfold tb; rw [if_neg (by omega), if_pos hd]
    have h9 : vA (sI (sI M1 46 9 (nI p)) 46 8 (nI 0)) B n p := (e3.sk (k := 9) _ (by decide) (by decide)).sk (k := 8) _ (by decide) (by decide)
    obtain ⟨M2, ⟨g1, g2, g3, g4⟩, g5, g6⟩ := y_rp30 hB hn (p := p) (n - p) 0 FU (sI (sI M1 46 9 (nI p)) 46 8 (nI 0)) (by omega) (by omega) (by omega) (fun j hj => by omega) h9 (mI_sI_eq _ _ _ _) (by rw [mI_sI_k _ _ _ (by decide), mI_sI_eq])
    rw [Nat.add_zero] at g2 g3 g5 g6
    have hR : RS M M2 := ((e2.tr (RS.s9 _ _)).tr (RS.s8 _ _)).tr g1
    have hf : f7_readPlain M = l7_readPlain_30 FU (sI (sI M1 46 9 (nI p)) 46 8 (nI 0)) := by
      unfold f7_readPlain
      rw [e1, cI_some, if_pos ht, if_neg (by decide), bI_eq, e3.2.2, bM_eq, bM_eq]
      rfl
    rw [hf]
    constructor
    · intro v hv
      unfold pn at hv
      by_cases hc : runT B n isdg p - p ≤ 4
      · rw [if_pos ⟨ht, hc⟩] at hv
        cases hv
        exact ⟨M2, g5 hc, hR, by rw [eb]; exact g2, g3, g4⟩
      · rw [if_neg (fun z => hc z.2)] at hv
        cases hv
    · intro hv
      unfold pn at hv
      by_cases hc : runT B n isdg p - p ≤ 4
      · rw [if_pos ⟨ht, hc⟩] at hv
        cases hv
      · exact ⟨_, g6 hc, hR.e.tr (RE.s7 _ _), mI_sI_eq _ _ _ _⟩
  · constructor
    · intro v hv
      exact absurd (pn_lt hv).2.1 ht
    · intro _
      refine ⟨sI M1 46 7 (nI (1 + 8 * p)), ?_, e2.e.tr (RE.s7 _ _), mI_sI_eq _ _ _ _⟩
      unfold f7_readPlain f7_fails
      rw [e1, cI_some, if_neg ht, if_pos rfl, bI_eq, e3.2.2, show (1 : Int32) + 8 * nI p = nI (1 + 8 * p) from by rw [show (8 : Int32) = nI 8 from rfl, nx_mul]; exact nx_add 1 _, bM_eq]
      rfl
theorem y_readNumber (hB : ∀ i, B i < 256) (hn : n ≤ 400) {M : mm_M} {a p : Nat} (ha : a ≤ n) (hp : sskip B n a = p) (h : vA M B n a) (lo hi : Int32) : (∀ v, rdF B n p lo hi = some v → ∃ M', f7_readNumber lo hi M = some (1, M') ∧ RS M M' ∧ vA M' B n (tb B n p) ∧ mI M' 46 8 = nI v ∧ mI M' 46 9 = nI p) ∧ (rdF B n p lo hi = none → ∃ M', f7_readNumber lo hi M = some (0, M') ∧ RE M M' ∧ mI M' 46 7 = nI (rdE B n p)) := by
  obtain ⟨k1, k2⟩ := y_readPlain hB hn ha hp h
  unfold rdF rdE
  cases hv : pn B n p with
  | none =>
    constructor
    · intro v z; cases z
    · intro _
      obtain ⟨M', e1, e2, e3⟩ := k2 hv
      refine ⟨M', ?_, e2, e3⟩
      unfold f7_readNumber l7_readNumber_35 l7_readNumber_36
      rw [e1, cI_some, if_pos rfl]; rfl
  | some v =>
    obtain ⟨M', e1, e2, e3, e4, e5⟩ := k1 v hv
    constructor
    · intro w z
      simp only at z
      by_cases hok : okI (nI v) lo hi = true
      · rw [if_pos hok] at z
        cases z
        refine ⟨M', ?_, e2, e3, e4, e5⟩
        unfold f7_readNumber l7_readNumber_31 l7_readNumber_36
        rw [e1, cI_some, if_neg (by decide), bI_eq, e4, y_inG, cI_some, if_pos hok, if_neg (by decide)]; rfl
      · rw [if_neg hok] at z; cases z
    · intro z
      simp only at z
      by_cases hok : okI (nI v) lo hi = true
      · rw [if_pos hok] at z; cases z
      · refine ⟨sI M' 46 7 (nI (2 + 8 * p)), ?_, e2.e.tr (RE.s7 _ _), mI_sI_eq _ _ _ _⟩
        unfold f7_readNumber l7_readNumber_35 l7_readNumber_36 f7_fails
        rw [e1, cI_some, if_neg (by decide), bI_eq, e4, y_inG, cI_some, if_neg hok, if_pos rfl, bI_eq, e5, show (2 : Int32) + 8 * nI p = nI (2 + 8 * p) from by rw [show (8 : Int32) = nI 8 from rfl, nx_mul]; exact nx_add 2 _, bM_eq]
        rfl
-- the class
theorem x_blame {M : mm_M} {p k : Nat} (hk : mI M 20 3 = nI p) (h0 : mI M 22 1 = 0) : f3_blame (nI k) M = some (sI M 22 1 (nI (k + 8 * p))) := by
  unfold f3_blame l3_blame_23
  rw [bI_eq, h0, if_pos rfl, bI_eq, hk, show nI k + 8 * nI p = nI (k + 8 * p) from by rw [show (8 : Int32) = nI 8 from rfl, nx_mul]; exact nx_add k _, bM_eq]
theorem x_within {M : mm_M} {p : Nat} (hp : p ≤ 400) (h : vTk M B n p) (h0 : mI M 22 1 = 0) (lo hi : Int32) : (∀ v, rdF B n p lo hi = some v → f3_numberIsWithin lo hi M = some (1, M) ∧ mI M 20 4 = nI v) ∧ (rdF B n p lo hi = none → f3_numberIsWithin lo hi M = some (0, sI M 22 1 (nI (rdE B n p)))) := by
  obtain ⟨nu, h1, h2⟩ := h
  have hne : ∀ k, 1 ≤ k → k ≤ 4 → ¬ mI (sI M 22 1 (nI (k + 8 * p))) 22 1 = 0 := fun k k1 k4 => by
    rw [mI_sI_eq, nx_lit0, nx_eq (by omega) (by omega)]; omega
  have b1 : f3_blame 1 M = some (sI M 22 1 (nI (1 + 8 * p))) := x_blame (k := 1) h1.2.2.2.1 h0
  have b2 : f3_blame 2 M = some (sI M 22 1 (nI (2 + 8 * p))) := x_blame (k := 2) h1.2.2.2.1 h0
  unfold rdF rdE
  cases hv : pn B n p with
  | none =>
    constructor
    · intro v z; cases z
    · intro _
      have bad : l3_numberIsWithin_22 M = some (0, sI M 22 1 (nI (1 + 8 * p))) := by
        unfold l3_numberIsWithin_22 l3_numberIsWithin_57 l3_numberIsWithin_69
        rw [b1, cV_some, bI_eq, if_neg (hne 1 (by omega) (by omega))]; rfl
      unfold f3_numberIsWithin
      rw [bI_eq, h1.2.2.1]
      by_cases ht : tk B n p = 2
      · have hc : ¬ runT B n isdg p - p ≤ 4 := by
          intro z
          unfold pn at hv
          rw [if_pos ⟨ht, z⟩] at hv; cases hv
        rw [if_pos (by rw [ht]; rfl), bI_eq, h1.2.2.2.2.1, h2 ht]
        unfold tnu
        rw [if_neg hc, if_pos rfl]
        exact bad
      · have htl : tk B n p < 4 := by unfold tk; split <;> (try split) <;> (try split) <;> omega
        rw [if_neg (by rw [show (2 : Int32) = nI 2 from rfl, nx_eq (by omega) (by omega)]; exact ht)]
        exact bad
  | some v =>
    obtain ⟨hv1, hv2, hv3, -, -⟩ := pn_lt hv
    have hnum : mI M 20 4 = nI v := by rw [h1.2.2.2.2.1, h2 hv2, hv3]
    have go : f3_numberIsWithin lo hi M = if nI v < lo then l3_numberIsWithin_52 M else if nI v ≤ hi then l3_numberIsWithin_57 M else l3_numberIsWithin_52 M := by
      unfold f3_numberIsWithin
      rw [bI_eq, h1.2.2.1, if_pos (by rw [hv2]; rfl), bI_eq, hnum, if_neg (by rw [nx_neg1 (by omega)]; exact fun z => z), bI_eq, bI_eq]
    have good : l3_numberIsWithin_57 M = some (1, M) := by
      unfold l3_numberIsWithin_57 l3_numberIsWithin_69
      rw [bI_eq, h0, if_pos rfl]; rfl
    have bad : l3_numberIsWithin_52 M = some (0, sI M 22 1 (nI (2 + 8 * p))) := by
      unfold l3_numberIsWithin_52 l3_numberIsWithin_57 l3_numberIsWithin_69
      rw [b2, cV_some, bI_eq, if_neg (hne 2 (by omega) (by omega))]; rfl
    rw [go, good, bad]
    unfold okI
    by_cases q1 : nI v < lo
    · rw [if_pos q1]
      simp [q1]
    · rw [if_neg q1]
      by_cases q2 : hi < nI v
      · rw [if_neg (Int32.not_le.mpr q2)]
        simp [q2]
      · rw [if_pos (Int32.not_lt.mp q2)]
        simp [q1, q2]
        exact hnum
theorem x_readNumber (hB : ∀ i, B i < 256) (hn : n ≤ 400) {M : mm_M} {p : Nat} (hp : p ≤ n) (h : vTk M B n p) (h0 : mI M 22 1 = 0) (lo hi : Int32) : (∀ v, rdF B n p lo hi = some v → ∃ M', f3_readNumber lo hi M = some (nI v, M') ∧ Fr (fun c => c = 20) M M' ∧ vTk M' B n (sskip B n (tb B n p))) ∧ (rdF B n p lo hi = none → f3_readNumber lo hi M = some (-1, sI M 22 1 (nI (rdE B n p)))) := by
  obtain ⟨k1, k2⟩ := x_within (by omega) h h0 lo hi
  constructor
  · intro v hv
    obtain ⟨e1, e2⟩ := k1 v hv
    obtain ⟨M', g1, g2, g3⟩ := x_step hB hn hp h
    refine ⟨M', ?_, g2, g3⟩
    unfold f3_readNumber
    rw [e1, cI_some, if_neg (by decide), bI_eq, e2, g1, cV_some]
  · intro hv
    unfold f3_readNumber
    rw [k2 hv, cI_some, if_pos rfl]
theorem rdF_lt {p v : Nat} {lo hi : Int32} (h : rdF B n p lo hi = some v) : v < 10000 ∧ okI (nI v) lo hi = true ∧ p < n ∧ pn B n p = some v := by
  unfold rdF at h
  cases hv : pn B n p with
  | none => rw [hv] at h; cases h
  | some w =>
    rw [hv] at h
    simp only at h
    by_cases hok : okI (nI w) lo hi = true
    · rw [if_pos hok] at h
      cases h
      exact ⟨(pn_lt hv).1, hok, (pn_lt hv).2.2.2.2, rfl⟩
    · rw [if_neg hok] at h; cases h
theorem rdE_bd {p : Nat} (hp : p ≤ 400) : 0 < rdE B n p ∧ rdE B n p < 10000 := by
  unfold rdE
  split <;> omega
end LEX2
