section REFDP3
variable {S : sS} {P : sP}
theorem sadd_t {set b : Nat} (h : sbit set b = true) : sadd set (b + 1) = sadd set b + 9 ^ b := by
  show ssum _ b + (if sbit set b = true then 9 ^ b else 0) = _
  rw [if_pos h]; rfl
theorem sadd_f {set b : Nat} (h : ¬ sbit set b = true) : sadd set (b + 1) = sadd set b := by
  show ssum _ b + (if sbit set b = true then 9 ^ b else 0) = _
  rw [if_neg h]; rfl
theorem sfull_succ (pow b c : Nat) : sfull S pow b (c + 1) = sfull S pow b c + sgn S pow b c := rfl
theorem y_le (hw : sWF S) (hP : pOK P) {st : Nat} (hst : st < 6561) : ∀ (k b n : Nat) (M : mm_M), b + k = S 1 → k < n → vR M S P → vF M S P.2.2.1 →
    l7_laysEnd_4 n (nI st) (nI (ssum (fun b => if sbit P.2.2.2.2 b = true then sneed S b - sfull S P.2.2.1 b (scn st b) else 0) b)) (nI b) M = some (sI (sI (sI M 54 (6561 * S 0 + st) (nI (sle S P.2.2.1 P.2.2.2.2 (scn st)))) 55 (6561 * S 0 + st) 0) 56 (6561 * S 0 + st) 0) := by
  have hB := hw.B
  have hT := hw.T
  intro k
  induction k with
  | zero =>
    intro b n M hk hn hv hf
    obtain ⟨n, rfl⟩ : ∃ m, n = m + 1 := ⟨n - 1, by omega⟩
    have hb : b = S 1 := by omega
    subst hb
    unfold l7_laysEnd_4 b7_laysEnd_4
    rw [nx_l1, aI_in (by omega) (by omega), hv.1 1 (by omega), if_pos (by rw [nx_le (by omega) (by omega)]; omega), show (0 : Int32) = nI 0 from rfl, aI_in (by omega) (by omega), hv.1 0 (by omega), bI_eq, show (6561 : Int32) = nI 6561 from rfl, nx_mul, nx_add, uI_in (by omega) (by omega), uI_in (by omega) (by omega), uI_in (by omega) (by omega)]
    rfl
  | succ k ih =>
    intro b n M hk hn hv hf
    obtain ⟨n, rfl⟩ : ∃ m, n = m + 1 := ⟨n - 1, by omega⟩
    have hb : b < S 1 := by omega
    have hb2 := hw.bus b hb
    have hc := scn_lt st b
    have hcap := sfull_le hb2.2.2.1 P.2.2.1 (scn st b)
    have hcap2 : scap S b ≤ 200 := hb2.2.1.2
    have hnd : sneed S b ≤ 200 := by unfold sneed; omega
    have step : ∀ g : Nat, g = (if sbit P.2.2.2.2 b = true then sneed S b - sfull S P.2.2.1 b (scn st b) else 0) → l7_laysEnd_61 (l7_laysEnd_4 n) (nI st) (nI b) (nI g) (nI (ssum (fun b => if sbit P.2.2.2.2 b = true then sneed S b - sfull S P.2.2.1 b (scn st b) else 0) b)) M = some (sI (sI (sI M 54 (6561 * S 0 + st) (nI (sle S P.2.2.1 P.2.2.2.2 (scn st)))) 55 (6561 * S 0 + st) 0) 56 (6561 * S 0 + st) 0) := by
      intro g hg
      unfold l7_laysEnd_61
      rw [bI_eq, nx_add, nx_l1, nx_add, hg]
      exact ih (b + 1) n M (by omega) (by omega) hv hf
    unfold l7_laysEnd_4 b7_laysEnd_4 l7_laysEnd_60
    rw [nx_l1, aI_in (by omega) (by omega), hv.1 1 (by omega), if_neg (by rw [nx_le (by omega) (by omega)]; omega), nx_l3, y_of hv.1 (by omega) (by omega), cI_some, y_countOf hst (by omega), cI_some, nx_l9, nx_mul, nx_add, aI_in (by omega) (by omega), hf b _ hb hc, bI_eq, bI_eq, hv.2.2.2.2.1, y_has hP.2.2.2.2 (by omega), cI_some]
    rw [show S (50 + 6 * b + 3) = sneed S b from rfl]
    simp only [nx_sub_le (show sneed S b < 2 ^ 31 by omega) (show sfull S P.2.2.1 b (scn st b) < 2 ^ 31 by omega)]
    by_cases h1 : sbit P.2.2.2.2 b = true
    · rw [if_pos h1, if_neg (by decide)]
      by_cases h2 : sneed S b ≤ sfull S P.2.2.1 b (scn st b)
      · rw [if_pos h2]
        exact step 0 (by rw [if_pos h1]; omega)
      · rw [if_neg h2, nx_sub (by omega)]
        exact step _ (by rw [if_pos h1])
    · rw [if_neg h1, if_pos rfl]
      exact step 0 (by rw [if_neg h1])
theorem y_laysEnd (hw : sWF S) (hP : pOK P) {st : Nat} (hst : st < 6561) {M : mm_M} (hv : vR M S P) (hf : vF M S P.2.2.1) : f7_laysEnd (nI st) M = some (sI (sI (sI M 54 (6561 * S 0 + st) (nI (sle S P.2.2.1 P.2.2.2.2 (scn st)))) 55 (6561 * S 0 + st) 0) 56 (6561 * S 0 + st) 0) := by
  have hB := hw.B
  exact y_le hw hP hst (S 1) 0 FU M (by omega) (by have := FU_big; omega) hv hf
theorem and_not : ∀ a b : Fin 16, decide ((nI a.1 &&& (nI b.1 ^^^ (-1))) = 0) = ((!(sbit a.1 0) || sbit b.1 0) && (!(sbit a.1 1) || sbit b.1 1) && (!(sbit a.1 2) || sbit b.1 2) && (!(sbit a.1 3) || sbit b.1 3)) := by decide +kernel
theorem and_not' {a b : Nat} (ha : a < 16) (hb : b < 16) : ((nI a &&& (nI b ^^^ (-1))) = 0) ↔ ∀ k, k < 4 → sbit a k = true → sbit b k = true := by
  have h := and_not ⟨a, ha⟩ ⟨b, hb⟩
  simp only at h
  constructor
  · intro e k hk
    rw [decide_eq_true e] at h
    have h := h.symm
    simp only [Bool.and_eq_true, Bool.or_eq_true, Bool.not_eq_true'] at h
    have : k = 0 ∨ k = 1 ∨ k = 2 ∨ k = 3 := by omega
    rcases this with rfl | rfl | rfl | rfl <;> intro q
    · rcases h.1.1.1 with z | z
      · rw [q] at z; cases z
      · exact z
    · rcases h.1.1.2 with z | z
      · rw [q] at z; cases z
      · exact z
    · rcases h.1.2 with z | z
      · rw [q] at z; cases z
      · exact z
    · rcases h.2 with z | z
      · rw [q] at z; cases z
      · exact z
  · intro q
    have e : ∀ k, k < 4 → (!(sbit a k) || sbit b k) = true := by
      intro k hk
      cases hz : sbit a k with
      | false => rfl
      | true => rw [q k hk hz]; rfl
    rw [e 0 (by omega), e 1 (by omega), e 2 (by omega), e 3 (by omega)] at h
    exact of_decide_eq_true h
theorem y_tk (hw : sWF S) (hP : pOK P) {st s set : Nat} (hst : st < 6561) (hs : s < 8) (hmay : smay S st s = true) (hset : set < 2 ^ S 1) (hpl : spop set ≤ P.2.1) (hsm : ∀ b, b < S 1 → sbit set b = true → sbit P.2.2.2.2 b = true) : ∀ (k b n : Nat) (M : mm_M), b + k = S 1 → k < n → vR M S P → vF M S P.2.2.1 → (∀ b', b' < b → sbit set b' = true → sthere (P.1 b') (sgo S b') s = true) →
    l7_taken_30 n (nI st) (nI s) (nI set) (nI (stk S P.2.2.1 (scn st) set b)) (nI b) M = some (if sok S P s (scn st) set = true then nI (stk S P.2.2.1 (scn st) set (S 1)) else -1, M) := by
  have hB := hw.B
  have hT := hw.T
  have h16 := two_pow_le hw.B
  intro k
  induction k with
  | zero =>
    intro b n M hk hn hv hf hth
    obtain ⟨n, rfl⟩ : ∃ m, n = m + 1 := ⟨n - 1, by omega⟩
    have hb : b = S 1 := by omega
    subst hb
    have hbd := stk_bd hw P.2.2.1 (scn st) set (Nat.le_refl (S 1))
    have hlim := hP.2.2.2.1
    unfold l7_taken_30 b7_taken_30 l7_taken_122
    rw [nx_l1, aI_in (by omega) (by omega), hv.1 1 (by omega), if_pos (by rw [nx_le (by omega) (by omega)]; omega), bI_eq, hv.2.2.2.1]
    simp only [nx_le (show stk S P.2.2.1 (scn st) set (S 1) < 2 ^ 31 by omega) (show P.2.2.2.1 < 2 ^ 31 by omega)]
    have hso : sok S P s (scn st) set = decide (stk S P.2.2.1 (scn st) set (S 1) ≤ P.2.2.2.1) := by
      unfold sok
      rw [decide_eq_true hpl, decide_eq_true (fun b hb hq => ⟨hsm b hb hq, hth b hb hq⟩)]
      simp
    rw [hso]
    by_cases h : stk S P.2.2.1 (scn st) set (S 1) ≤ P.2.2.2.1 <;> simp [h]
  | succ k ih =>
    intro b n M hk hn hv hf hth
    obtain ⟨n, rfl⟩ : ∃ m, n = m + 1 := ⟨n - 1, by omega⟩
    have hb : b < S 1 := by omega
    have hb2 := hw.bus b hb
    have hm := (smay_iff S st s).mp hmay b (by omega)
    have hc : scn st b ≤ s := by
      unfold smb at hm
      rw [if_pos hb, decide_eq_true_eq] at hm
      exact hm
    have hcap := sfull_le hb2.2.2.1 P.2.2.1 (scn st b)
    have hgn : nI (sfull S P.2.2.1 b (scn st b + 1)) - nI (sfull S P.2.2.1 b (scn st b)) = nI (sgn S P.2.2.1 b (scn st b)) := by
      rw [nx_sub (by rw [sfull_succ]; omega)]
      congr 1
      rw [sfull_succ]
      omega
    unfold l7_taken_30 b7_taken_30 l7_taken_101
    rw [nx_l1, aI_in (by omega) (by omega), hv.1 1 (by omega), if_neg (by rw [nx_le (by omega) (by omega)]; omega), y_has (by omega) (by omega), cI_some]
    by_cases h1 : sbit set b = true
    · rw [if_pos h1, if_neg (by decide), y_isThere hv.1 hw hv.2.2.2.2.2.1 hP.1 hb (by omega), cI_some]
      by_cases h2 : sthere (P.1 b) (sgo S b) s = true
      · rw [if_pos h2, if_neg (by decide), y_countOf hst (by omega), cI_some, nx_l9, nx_mul, nx_add, bI_eq, nx_add, aI_in (by omega) (by omega), aI_in (by omega) (by omega), show 9 * b + scn st b + 1 = 9 * b + (scn st b + 1) by omega, hf b _ hb (by omega), hf b _ hb (by omega), hgn, nx_add, bI_eq, nx_add]
        have e : stk S P.2.2.1 (scn st) set b + sgn S P.2.2.1 b (scn st b) = stk S P.2.2.1 (scn st) set (b + 1) := by
          show _ = ssum _ b + _
          simp only [if_pos h1]
          rfl
        rw [e]
        exact ih (b + 1) n M (by omega) (by omega) hv hf (fun b' hb' hq => by
          by_cases hbb : b' = b
          · subst hbb; exact h2
          · exact hth b' (by omega) hq)
      · rw [if_neg h2, if_pos rfl, if_neg (by
          unfold sok
          rw [Bool.and_eq_true, Bool.and_eq_true, decide_eq_true_eq, decide_eq_true_eq]
          intro q
          exact h2 (q.1.2 b hb h1).2)]
    · rw [if_neg h1, if_pos rfl, nx_add]
      have e : stk S P.2.2.1 (scn st) set b = stk S P.2.2.1 (scn st) set (b + 1) := by
        show _ = ssum _ b + _
        simp only [if_neg h1, Nat.add_zero]
        rfl
      rw [e]
      exact ih (b + 1) n M (by omega) (by omega) hv hf (fun b' hb' hq => by
        by_cases hbb : b' = b
        · subst hbb; exact absurd hq h1
        · exact hth b' (by omega) hq)
theorem y_taken (hw : sWF S) (hP : pOK P) {st s set : Nat} (hst : st < 6561) (hs : s < 8) (hmay : smay S st s = true) (hset : set < 2 ^ S 1) {M : mm_M} (hv : vR M S P) (hf : vF M S P.2.2.1) : f7_taken (nI st) (nI s) (nI set) M = some (if sok S P s (scn st) set = true then nI (stk S P.2.2.1 (scn st) set (S 1)) else -1, M) := by
  have hB := hw.B
  have h16 := two_pow_le hw.B
  have h4 := spop_le ⟨set, by omega⟩
  simp only at h4
  have hpl := hP.2.1
  unfold f7_taken l7_taken_22
  rw [y_bits (by omega), cI_some, bI_eq, hv.2.1]
  simp only [nx_lt (show P.2.1 < 2 ^ 31 by omega) (show spop set < 2 ^ 31 by omega)]
  by_cases h1 : P.2.1 < spop set
  · rw [if_pos h1, if_neg]
    unfold sok
    rw [Bool.and_eq_true, Bool.and_eq_true, decide_eq_true_eq]
    intro q
    omega
  · rw [if_neg h1, bI_eq, hv.2.2.2.2.1]
    by_cases h2 : (nI set &&& (nI P.2.2.2.2 ^^^ (-1))) = 0
    · rw [if_pos h2]
      have h3 := (and_not' (by omega) hP.2.2.2.2).mp h2
      exact y_tk hw hP hst hs hmay hset (by omega) (fun b hb hq => h3 b (by omega) hq) (S 1) 0 FU M (by omega) (by have := FU_big; omega) hv hf (fun b' hb' => by omega)
    · rw [if_neg h2, if_neg]
      intro q
      apply h2
      apply (and_not' (by omega) hP.2.2.2.2).mpr
      intro k hk hq
      by_cases hkb : k < S 1
      · unfold sok at q
        rw [Bool.and_eq_true, Bool.and_eq_true, decide_eq_true_eq, decide_eq_true_eq] at q
        exact (q.1.2 k hkb hq).1
      · rw [sbit_out hw.B hset hk (by omega)] at hq
        cases hq
theorem y_bh (hw : sWF S) {st set : Nat} (hset : set < 2 ^ S 1) {M : mm_M} (hv : vM M S) (h59 : ∀ b, b < 4 → mI M 59 b = nI (9 ^ b)) : ∀ (k b n : Nat), b + k = S 1 → k < n → l7_behind_5 n (nI set) (nI (st + sadd set b)) (nI b) M = some (nI (st + sadd set (S 1)), M) := by
  have hB := hw.B
  have h16 := two_pow_le hw.B
  intro k
  induction k with
  | zero =>
    intro b n hk hn
    obtain ⟨n, rfl⟩ : ∃ m, n = m + 1 := ⟨n - 1, by omega⟩
    have hb : b = S 1 := by omega
    subst hb
    unfold l7_behind_5 b7_behind_5
    rw [nx_l1, aI_in (by omega) (by omega), hv 1 (by omega), if_pos (by rw [nx_le (by omega) (by omega)]; omega)]
  | succ k ih =>
    intro b n hk hn
    obtain ⟨n, rfl⟩ : ∃ m, n = m + 1 := ⟨n - 1, by omega⟩
    have hb : b < S 1 := by omega
    unfold l7_behind_5 b7_behind_5 l7_behind_37
    rw [nx_l1, aI_in (by omega) (by omega), hv 1 (by omega), if_neg (by rw [nx_le (by omega) (by omega)]; omega), y_has (by omega) (by omega), cI_some]
    by_cases h1 : sbit set b = true
    · rw [if_pos h1, if_neg (by decide), aI_in (by omega) (by omega), h59 b (by omega), bI_eq, nx_add, nx_add, show st + sadd set b + 9 ^ b = st + sadd set (b + 1) by rw [sadd_t h1]; omega]
      exact ih (b + 1) n (by omega) (by omega)
    · rw [if_neg h1, if_pos rfl, bI_eq, show (0 : Int32) = nI 0 from rfl, nx_add, nx_add, show st + sadd set b + 0 = st + sadd set (b + 1) by rw [sadd_f h1]; omega]
      exact ih (b + 1) n (by omega) (by omega)
theorem y_behind (hw : sWF S) {st set : Nat} (hset : set < 2 ^ S 1) {M : mm_M} (hv : vM M S) (h59 : ∀ b, b < 4 → mI M 59 b = nI (9 ^ b)) : f7_behind (nI st) (nI set) M = some (nI (st + sadd set 4), M) := by
  have hB := hw.B
  rw [← sadd_4 hB hset]
  have := y_bh hw (st := st) hset hv h59 (S 1) 0 FU (by omega) (by have := FU_big; omega)
  exact this
end REFDP3
