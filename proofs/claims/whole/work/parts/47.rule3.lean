section RULE3
variable {S : sS}
/-- what a RULE is asked with -/
def vY (M : mm_M) (S : sS) (s : Nat) (lev : Nat → Nat) : Prop := vM M S ∧ mI M 46 11 = nI (S 3) ∧ mI M 46 12 = nI (S 4) ∧ mI M 46 13 = nI (S 5) ∧ (∀ b, b < 4 → mI M 50 b = nI (scom S b)) ∧ ∀ b, b < S 1 → mI M 52 (4 * s + b) = nI (lev b)
abbrev cSb : Nat → Prop := fun c => c = 60 ∨ c = 61
theorem vY.mv {M M' : mm_M} {s : Nat} {lev : Nat → Nat} (h : vY M S s lev) (hf : Fr cSb M M') : vY M' S s lev := ⟨h.1.mv hf (by decide), by rw [hf.mI (by decide)]; exact h.2.1, by rw [hf.mI (by decide)]; exact h.2.2.1, by rw [hf.mI (by decide)]; exact h.2.2.2.1, fun b hb => by rw [hf.mI (by decide)]; exact h.2.2.2.2.1 b hb, fun b hb => by rw [hf.mI (by decide)]; exact h.2.2.2.2.2 b hb⟩
theorem y_rankOf (hw : sWF S) {M : mm_M} {s : Nat} {lev : Nat → Nat} (hv : vY M S s lev) {rule b : Nat} (hr : rule < 4) (hb : b < S 1) (hs : s < 8) (hl : lev b ≤ scap S b) : f7_rankOf (nI rule) (nI b) (nI s) M = some (srank S rule s lev b, M) := by
  have hB := hw.B
  have hb2 := hw.bus b hb
  have hn : sneed S b ≤ scap S b := hb2.2.2.2.1
  have hpo := hw.pow
  unfold f7_rankOf
  rw [nx_l4, nx_mul, nx_add, aI_in (by omega) (by omega), hv.2.2.2.2.2 b hb]
  have : rule = 0 ∨ rule = 1 ∨ rule = 2 ∨ rule = 3 := by omega
  rcases this with rfl | rfl | rfl | rfl
  · rw [if_pos (show nI 0 = 0 from rfl)]
    rfl
  · rw [if_neg (by decide), if_pos (show nI 1 = 1 from rfl), nx_l5, y_of hv.1 (by omega) (by omega), cI_some]
    rfl
  · rw [if_neg (by decide), if_neg (by decide), if_pos (show nI 2 = 2 from rfl), nx_l3, y_of hv.1 (by omega) (by omega), cI_some]
    rfl
  · rw [if_neg (by decide), if_neg (by decide), if_neg (by decide), nx_l5, y_of hv.1 (by omega) (by omega), cI_some, nx_l3, y_of hv.1 (by omega) (by omega), cI_some, show S (50 + 6 * b + 3) = sneed S b from rfl, y_slotsOf hw hv.1 (by omega) (by omega) hv.2.2.1 hb hn hl, cI_some]
    rfl
/-- a row of the BUSES below b that wait, in their order -/
def vO (M : mm_M) (rk : Nat → Int32) (W : Nat) (row : Nat → Nat) (many b : Nat) : Prop := many ≤ b ∧ (∀ i, i < many → row i < b ∧ sbit W (row i) = true ∧ mI M 60 i = nI (row i) ∧ mI M 61 i = rk (row i)) ∧ (∀ i j, i < j → j < many → (rk (row i)).toInt < (rk (row j)).toInt ∨ ((rk (row i)).toInt = (rk (row j)).toInt ∧ row i < row j)) ∧ ∀ b', b' < b → sbit W b' = true → ∃ i, i < many ∧ row i = b'
theorem y_sb63 {rk : Nat → Int32} {W b many : Nat} {row : Nat → Nat} (hb4 : b < 4) (hbW : sbit W b = true) {M0 : mm_M} (hO : vO M0 rk W row many b) (rec : Int32 → Int32 → Int32 → Int32 → mm_M → Option (Int32 × mm_M)) (x1 x2 : Int32) : ∀ (k n : Nat) (M : mm_M), k ≤ many → k < n → (∀ i, i < k → mI M 60 i = nI (row i) ∧ mI M 61 i = rk (row i)) → (∀ i, k < i → i ≤ many → mI M 60 i = nI (row (i - 1)) ∧ mI M 61 i = rk (row (i - 1))) → (∀ i, k ≤ i → i < many → (rk b).toInt < (rk (row i)).toInt) →
    ∃ M' row', l7_setBy_63 rec n x1 x2 (nI many) (nI b) (rk b) (nI k) M = rec x1 x2 (nI (many + 1)) (nI (b + 1)) M' ∧ Fr cSb M M' ∧ vO M' rk W row' (many + 1) (b + 1) := by
  have hm := hO.1
  -- the place is found
  have fin : ∀ (k : Nat) (M : mm_M), k ≤ many → (∀ i, i < k → mI M 60 i = nI (row i) ∧ mI M 61 i = rk (row i)) → (∀ i, k < i → i ≤ many → mI M 60 i = nI (row (i - 1)) ∧ mI M 61 i = rk (row (i - 1))) → (∀ i, k ≤ i → i < many → (rk b).toInt < (rk (row i)).toInt) → (∀ i, i < k → (rk (row i)).toInt ≤ (rk b).toInt) → ∃ M' row', l7_setBy_120 rec x1 x2 (nI many) (nI b) (rk b) (nI k) M = rec x1 x2 (nI (many + 1)) (nI (b + 1)) M' ∧ Fr cSb M M' ∧ vO M' rk W row' (many + 1) (b + 1) := by
    intro k M hk h1 h2 h3 h4
    refine ⟨sI (sI M 60 k (nI b)) 61 k (rk b), fun i => if i < k then row i else if i = k then b else row (i - 1), ?_, (Fr.sI (Or.inl rfl)).tr (Fr.sI (Or.inr rfl)), by omega, fun i hi => ?_, fun i j hij hj => ?_, fun b' hb' hs' => ?_⟩
    · unfold l7_setBy_120 l7_setBy_141
      rw [uI_in (by omega) (by omega), uI_in (by omega) (by omega), nx_l1, nx_add, nx_add]
    · by_cases c1 : i < k
      · simp only [if_pos c1]
        have o := hO.2.1 i (by omega)
        refine ⟨by omega, o.2.1, ?_, ?_⟩
        · rw [mI_sI_c _ _ _ _ (by decide), mI_sI_k _ _ _ (by omega)]; exact (h1 i c1).1
        · rw [mI_sI_k _ _ _ (by omega), mI_sI_c _ _ _ _ (by decide)]; exact (h1 i c1).2
      · by_cases c2 : i = k
        · subst c2
          simp only [if_neg (Nat.lt_irrefl i), if_pos]
          refine ⟨by omega, hbW, ?_, ?_⟩
          · rw [mI_sI_c _ _ _ _ (by decide), mI_sI_eq]
          · rw [mI_sI_eq]
        · simp only [if_neg c1, if_neg c2]
          have o := hO.2.1 (i - 1) (by omega)
          refine ⟨by omega, o.2.1, ?_, ?_⟩
          · rw [mI_sI_c _ _ _ _ (by decide), mI_sI_k _ _ _ c2]; exact (h2 i (by omega) (by omega)).1
          · rw [mI_sI_k _ _ _ c2, mI_sI_c _ _ _ _ (by decide)]; exact (h2 i (by omega) (by omega)).2
    · by_cases c1 : i < k
      · simp only [if_pos c1]
        by_cases d1 : j < k
        · simp only [if_pos d1]; exact hO.2.2.1 i j hij (by omega)
        · by_cases d2 : j = k
          · subst d2
            simp only [if_neg (Nat.lt_irrefl j), if_pos]
            have := h4 i c1
            have := (hO.2.1 i (by omega)).1
            omega
          · simp only [if_neg d1, if_neg d2]
            exact hO.2.2.1 i (j - 1) (by omega) (by omega)
      · have d1 : ¬ j < k := by omega
        have d2 : j ≠ k := by omega
        simp only [if_neg c1, if_neg d1, if_neg d2]
        by_cases c2 : i = k
        · subst c2
          simp only [if_pos]
          left
          exact h3 (j - 1) (by omega) (by omega)
        · simp only [if_neg c2]
          exact hO.2.2.1 (i - 1) (j - 1) (by omega) (by omega)
    · by_cases hbb : b' = b
      · subst hbb
        exact ⟨k, by omega, by simp only [if_neg (Nat.lt_irrefl k), if_pos]⟩
      · obtain ⟨i, hi, hri⟩ := hO.2.2.2 b' (by omega) hs'
        by_cases c1 : i < k
        · exact ⟨i, by omega, by simp only [if_pos c1]; exact hri⟩
        · refine ⟨i + 1, by omega, ?_⟩
          simp only [if_neg (show ¬ i + 1 < k by omega), if_neg (show ¬ i + 1 = k by omega)]
          exact hri
  intro k
  induction k with
  | zero =>
    intro n M hk hn h1 h2 h3
    obtain ⟨n, rfl⟩ : ∃ j, n = j + 1 := ⟨n - 1, by omega⟩
    unfold l7_setBy_63 b7_setBy_63
    rw [if_pos (by decide)]
    exact fin 0 M hk h1 h2 h3 (fun i hi => by omega)
  | succ k ih =>
    intro n M hk hn h1 h2 h3
    obtain ⟨n, rfl⟩ : ∃ j, n = j + 1 := ⟨n - 1, by omega⟩
    unfold l7_setBy_63 b7_setBy_63
    rw [if_neg (nI_nle (by omega) (by omega)), nI_pred k, aI_in (by omega) (by omega), (h1 k (by omega)).2]
    by_cases c1 : rk (row k) ≤ rk b
    · rw [if_pos c1]
      rw [Int32.le_iff_toInt_le] at c1
      refine fin (k + 1) M hk h1 h2 h3 (fun i hi => ?_)
      by_cases hik : i = k
      · subst hik; exact c1
      · have := hO.2.2.1 i k (by omega) (by omega)
        omega
    · rw [if_neg c1, aI_in (by omega) (by omega), (h1 k (by omega)).1, uI_in (by omega) (by omega), aI_in (by omega) (by omega), mI_sI_c _ _ _ _ (by decide), (h1 k (by omega)).2, uI_in (by omega) (by omega), nx_pred (by omega), show k + 1 - 1 = k by omega]
      rw [Int32.le_iff_toInt_le] at c1
      have f0 : Fr cSb M (sI (sI M 60 (k + 1) (nI (row k))) 61 (k + 1) (rk (row k))) := (Fr.sI (Or.inl rfl)).tr (Fr.sI (Or.inr rfl))
      obtain ⟨M', row', e1, e2, e3⟩ := ih n (sI (sI M 60 (k + 1) (nI (row k))) 61 (k + 1) (rk (row k))) (by omega) (by omega) (fun i hi => by
        refine ⟨?_, ?_⟩
        · rw [mI_sI_c _ _ _ _ (by decide), mI_sI_k _ _ _ (by omega)]; exact (h1 i (by omega)).1
        · rw [mI_sI_k _ _ _ (by omega), mI_sI_c _ _ _ _ (by decide)]; exact (h1 i (by omega)).2) (fun i hi1 hi2 => by
        by_cases hik : i = k + 1
        · subst hik
          refine ⟨?_, ?_⟩
          · rw [mI_sI_c _ _ _ _ (by decide), mI_sI_eq]; rfl
          · rw [mI_sI_eq]; rfl
        · refine ⟨?_, ?_⟩
          · rw [mI_sI_c _ _ _ _ (by decide), mI_sI_k _ _ _ hik]; exact (h2 i (by omega) hi2).1
          · rw [mI_sI_k _ _ _ hik, mI_sI_c _ _ _ _ (by decide)]; exact (h2 i (by omega) hi2).2) (fun i hi1 hi2 => by
        by_cases hik : i = k
        · subst hik; omega
        · exact h3 i (by omega) hi2)
      exact ⟨M', row', e1, f0.tr e2, e3⟩
/-- where no PLUG is left -/
theorem y_sbfull (hw : sWF S) {M : mm_M} {s : Nat} {lev : Nat → Nat} (hv : vY M S s lev) (hs : s < 8) (hlev : ∀ b, b < S 1 → lev b ≤ scap S b) {row : Nat → Nat} {many set : Nat} (hm4 : many ≤ 4) (hrow : ∀ i, i < many → row i < S 1 ∧ mI M 60 i = nI (row i)) (hs16 : set < 16) (hfull : S 3 ≤ spop set) (all : Int32) : ∀ (k i n : Nat), i + k = many → k < n → l7_setBy_156 n (nI s) (nI many) (nI set) all (nI i) M = some (nI set, M) := by
  have hB := hw.B
  have hpo := hw.pow
  have hpl := hw.plug
  intro k
  induction k with
  | zero =>
    intro i n hk hn
    obtain ⟨n, rfl⟩ : ∃ j, n = j + 1 := ⟨n - 1, by omega⟩
    unfold l7_setBy_156 b7_setBy_156
    rw [if_pos (by rw [nx_le (by omega) (by omega)]; omega)]
  | succ k ih =>
    intro i n hk hn
    obtain ⟨n, rfl⟩ : ∃ j, n = j + 1 := ⟨n - 1, by omega⟩
    obtain ⟨r1, r2⟩ := hrow i (by omega)
    have hsp := spop_le ⟨set, hs16⟩
    simp only at hsp
    unfold l7_setBy_156 b7_setBy_156 l7_setBy_236
    rw [if_neg (by rw [nx_le (by omega) (by omega)]; omega), aI_in (by omega) (by omega), r2, aI_in (by omega) (by omega), r2, nx_l4, nx_mul, nx_add, aI_in (by omega) (by omega), hv.2.2.2.2.2 _ r1, y_takes hv.1 hw r1 (hlev _ r1) (by omega) hv.2.2.1, cI_some, y_bits hs16, cI_some, bI_eq, hv.2.1, if_pos (by rw [nx_le (by omega) (by omega)]; exact hfull), nx_l1, nx_add]
    exact ih (i + 1) n (by omega) (by omega)
theorem nobit : ∀ w : Fin 16, (∀ b : Fin 4, sbit w.1 b.1 = false) → w.1 = 0 := by decide +kernel
theorem y_sb156 (hw : sWF S) {M : mm_M} {s : Nat} {lev : Nat → Nat} (hv : vY M S s lev) (hs : s < 8) (hlev : ∀ b, b < S 1 → lev b ≤ scap S b) {rk : Nat → Int32} {row : Nat → Nat} {many : Nat} (hm4 : many ≤ 4) (hrow : ∀ i, i < many → row i < S 1 ∧ mI M 60 i = nI (row i))
    (hsort : ∀ i j, i < j → j < many → (rk (row i)).toInt < (rk (row j)).toInt ∨ ((rk (row i)).toInt = (rk (row j)).toInt ∧ row i < row j)) : ∀ (k i n m w set all : Nat), i + k = many → k < n → k ≤ m → w < 16 → set < 16 → all ≤ 200 → (∀ b, b < 4 → (sbit w b = true ↔ ∃ j, i ≤ j ∧ j < many ∧ row j = b)) → (∀ b, b < 4 → sbit w b = true → sbit set b = false) → l7_setBy_156 n (nI s) (nI many) (nI set) (nI all) (nI i) M = some (nI (ssel S lev rk m w set all), M) := by
  have hB := hw.B
  have hpo := hw.pow
  have hpl := hw.plug
  have hli := hw.lim
  intro k
  induction k with
  | zero =>
    intro i n m w set all hk hn hm hw16 hs16 ha hwb hd
    obtain ⟨n, rfl⟩ : ∃ j, n = j + 1 := ⟨n - 1, by omega⟩
    have hw0 : w = 0 := nobit ⟨w, hw16⟩ (fun b => by
      cases hq : sbit w b.1 with
      | false => rfl
      | true =>
        obtain ⟨j, j1, j2, -⟩ := (hwb b.1 b.2).mp hq
        omega)
    have : ssel S lev rk m w set all = set := by
      cases m with
      | zero => rfl
      | succ m => show (if w = 0 ∨ S 3 ≤ spop set then set else _) = set; rw [if_pos (Or.inl hw0)]
    unfold l7_setBy_156 b7_setBy_156
    rw [if_pos (by rw [nx_le (by omega) (by omega)]; omega), this]
  | succ k ih =>
    intro i n m w set all hk hn hm hw16 hs16 ha hwb hd
    obtain ⟨n, rfl⟩ : ∃ j, n = j + 1 := ⟨n - 1, by omega⟩
    obtain ⟨m, rfl⟩ : ∃ j, m = j + 1 := ⟨m - 1, by omega⟩
    obtain ⟨r1, r2⟩ := hrow i (by omega)
    have hsp := spop_le ⟨set, hs16⟩
    simp only at hsp
    have hbi : sbit w (row i) = true := (hwb _ (by omega)).mpr ⟨i, Nat.le_refl _, by omega, rfl⟩
    have hw0 : w ≠ 0 := fun z => by rw [z, sbit0] at hbi; cases hbi
    have hF : isF rk w (row i) := ⟨by omega, hbi, fun b hb hsb => by
      obtain ⟨j, j1, j2, j3⟩ := (hwb b hb).mp hsb
      by_cases hij : i = j
      · subst hij; subst j3; exact ⟨Int.le_refl _, fun _ => Nat.le_refl _⟩
      · have := hsort i j (by omega) j2
        rw [j3] at this
        exact ⟨by omega, fun _ => by omega⟩⟩
    have hfe : sfst rk w = row i := isF_un (sfst_ok rk hw16 hw0) hF
    have e : ssel S lev rk (m + 1) w set all = if w = 0 ∨ S 3 ≤ spop set then set else if S 5 < all + sgain S (S 4) (row i) (lev (row i)) then ssel S lev rk m (w - 2 ^ row i) set all else ssel S lev rk m (w - 2 ^ row i) (set + 2 ^ row i) (all + sgain S (S 4) (row i) (lev (row i))) := by
      rw [← hfe]; rfl
    by_cases c1 : S 3 ≤ spop set
    · rw [e, if_pos (Or.inr c1)]
      exact y_sbfull hw hv hs hlev hm4 hrow hs16 c1 _ (k + 1) i (n + 1) hk (by omega)
    · have c01 : ¬ (w = 0 ∨ S 3 ≤ spop set) := fun z => z.elim hw0 c1
      have hcap : scap S (row i) ≤ 200 := (hw.bus _ r1).2.1.2
      have hlv := hlev _ r1
      have hgl := sgain_le (S := S) (S 4) (row i) (lev (row i))
      obtain ⟨q1, q2, q3⟩ := bit_subn hw16 (show row i < 4 by omega) hbi
      have hwb' : ∀ b, b < 4 → (sbit (w - 2 ^ row i) b = true ↔ ∃ j, i + 1 ≤ j ∧ j < many ∧ row j = b) := fun b hb => by
        rw [q3 b hb, Bool.and_eq_true, decide_eq_true_eq, hwb b hb]
        constructor
        · rintro ⟨⟨j, j1, j2, j3⟩, hne⟩
          refine ⟨j, ?_, j2, j3⟩
          apply Nat.lt_of_le_of_ne j1
          intro z
          subst z
          exact hne j3.symm
        · rintro ⟨j, j1, j2, j3⟩
          refine ⟨⟨j, by omega, j2, j3⟩, fun z => ?_⟩
          have := hsort i j (by omega) j2
          rw [j3, z] at this
          omega
      have hdd : ∀ b, b < 4 → sbit (w - 2 ^ row i) b = true → sbit w b = true ∧ b ≠ row i := fun b hb h => by
        rw [q3 b hb, Bool.and_eq_true, decide_eq_true_eq] at h
        exact h
      rw [e, if_neg c01]
      unfold l7_setBy_156 b7_setBy_156 l7_setBy_236
      rw [if_neg (by rw [nx_le (by omega) (by omega)]; omega), aI_in (by omega) (by omega), r2, aI_in (by omega) (by omega), r2, nx_l4, nx_mul, nx_add, aI_in (by omega) (by omega), hv.2.2.2.2.2 _ r1, y_takes hv.1 hw r1 hlv (by omega) hv.2.2.1, cI_some, y_bits hs16, cI_some, bI_eq, hv.2.1, if_neg (by rw [nx_le (by omega) (by omega)]; exact c1), bI_eq, hv.2.2.2.1, nx_add]
      simp only [nx_lt (show S 5 < 2 ^ 31 by omega) (show all + sgain S (S 4) (row i) (lev (row i)) < 2 ^ 31 by omega)]
      by_cases c2 : S 5 < all + sgain S (S 4) (row i) (lev (row i))
      · rw [if_pos c2, if_pos c2, nx_l1, nx_add]
        exact ih (i + 1) n m (w - 2 ^ row i) set all (by omega) (by omega) (by omega) (by omega) hs16 ha hwb' (fun b hb h => hd b hb (hdd b hb h).1)
      · obtain ⟨p1, p2, p3, p4⟩ := bit_add hs16 (show row i < 4 by omega) (hd _ (by omega) hbi)
        rw [if_neg c2, if_neg c2, aI_in (by omega) (by omega), r2, show (1 <<< (nI (row i) &&& 31) : Int32) = nI (2 ^ row i) from shl_pow' (by omega), bI_eq, p2, bI_eq, nx_l1, nx_add]
        exact ih (i + 1) n m (w - 2 ^ row i) (set + 2 ^ row i) (all + sgain S (S 4) (row i) (lev (row i))) (by omega) (by omega) (by omega) (by omega) p1 (by omega) hwb' (fun b hb h => by
          obtain ⟨u1, u2⟩ := hdd b hb h
          rw [p4 b hb, hd b hb u1, decide_eq_false u2]
          rfl)
theorem y_sb5 (hw : sWF S) {s : Nat} {lev : Nat → Nat} (hs : s < S 0) (hlev : ∀ b, b < S 1 → lev b ≤ scap S b) (hcb : ∀ b, scom S b < 100) {rule : Nat} (hr : rule < 4) : ∀ (k b n many : Nat) (row : Nat → Nat) (M : mm_M), b + k = S 1 → k < n → vY M S s lev → vO M (srank S rule s lev) (swait S s lev) row many b →
    ∃ M', l7_setBy_5 n (nI rule) (nI s) (nI many) (nI b) M = some (nI (schoose S rule s lev), M') ∧ Fr cSb M M' := by
  have hB := hw.B
  have hT := hw.T
  intro k
  induction k with
  | zero =>
    intro b n many row M hk hn hv hO
    obtain ⟨n, rfl⟩ : ∃ j, n = j + 1 := ⟨n - 1, by omega⟩
    obtain rfl : b = S 1 := by omega
    have hm := hO.1
    refine ⟨M, ?_, Fr.rf⟩
    unfold l7_setBy_5 b7_setBy_5
    rw [show (1 : Int32) = nI 1 from rfl, aI_in (by omega) (by omega), hv.1 1 (by omega), if_pos (by rw [nx_le (by omega) (by omega)]; omega), show (0 : Int32) = nI 0 from rfl]
    exact y_sb156 hw hv (by omega) hlev (show many ≤ 4 by omega) (fun i hi => ⟨(hO.2.1 i hi).1, (hO.2.1 i hi).2.2.1⟩) hO.2.2.1 many 0 FU 4 (swait S s lev) 0 0 (by omega) (by have := FU_big; omega) (by omega) (swait_lt s lev) (by omega) (by omega) (fun b hb => ⟨fun h => by
      obtain ⟨i, i1, i2⟩ := hO.2.2.2 b ((swait_bit hb).mp h).1 h
      exact ⟨i, Nat.zero_le _, i1, i2⟩, fun ⟨j, _, j2, j3⟩ => by rw [← j3]; exact (hO.2.1 j j2).2.1⟩) (fun b _ _ => sbit0 b)
  | succ k ih =>
    intro b n many row M hk hn hv hO
    obtain ⟨n, rfl⟩ : ∃ j, n = j + 1 := ⟨n - 1, by omega⟩
    have hb : b < S 1 := by omega
    have hb2 := hw.bus b hb
    have hcap : scap S b ≤ 200 := hb2.2.1.2
    have hnd : sneed S b ≤ scap S b := hb2.2.2.2.1
    have hlb := hlev b hb
    have hm := hO.1
    have skip : ¬ sbit (swait S s lev) b = true → ∃ M', l7_setBy_141 (l7_setBy_5 n) (nI rule) (nI s) (nI many) (nI b) M = some (nI (schoose S rule s lev), M') ∧ Fr cSb M M' := by
      intro hnw
      have := ih (b + 1) n many row M (by omega) (by omega) hv ⟨by omega, fun i hi => ⟨by have := (hO.2.1 i hi).1; omega, (hO.2.1 i hi).2⟩, hO.2.2.1, fun b' hb' hs' => hO.2.2.2 b' (by
        apply Nat.lt_of_le_of_ne (by omega)
        intro z
        rw [z] at hs'
        exact hnw hs') hs'⟩
      unfold l7_setBy_141
      rw [nx_l1, nx_add]
      exact this
    unfold l7_setBy_5 b7_setBy_5
    rw [show (1 : Int32) = nI 1 from rfl, aI_in (by omega) (by omega), hv.1 1 (by omega), if_neg (by rw [nx_le (by omega) (by omega)]; omega), y_isThere hv.1 hw hv.2.2.2.2.1 hcb hb (by omega), cI_some]
    by_cases c1 : sthere (scom S b) (sgo S b) s = true
    · rw [if_pos c1, if_neg (by decide), nx_l4, nx_mul, nx_add, aI_in (by omega) (by omega), hv.2.2.2.2.2 b hb, nx_l3, y_of hv.1 (by omega) (by omega), cI_some, show S (50 + 6 * b + 3) = sneed S b from rfl]
      simp only [nx_lt (show lev b < 2 ^ 31 by omega) (show sneed S b < 2 ^ 31 by omega)]
      by_cases c2 : lev b < sneed S b
      · have hbW : sbit (swait S s lev) b = true := (swait_bit (by omega)).mpr ⟨hb, c1, c2⟩
        rw [if_pos c2, y_rankOf hw hv hr hb (by omega) hlb, cI_some]
        obtain ⟨M1, row', g1, g2, g3⟩ := y_sb63 (rk := srank S rule s lev) (show b < 4 by omega) hbW hO (l7_setBy_5 n) (nI rule) (nI s) many FU M (Nat.le_refl _) (by have := FU_big; omega) (fun i hi => (hO.2.1 i hi).2.2) (fun i h1 h2 => by omega) (fun i h1 h2 => by omega)
        obtain ⟨M', e1, e2⟩ := ih (b + 1) n (many + 1) row' M1 (by omega) (by omega) (hv.mv g2) g3
        exact ⟨M', g1.trans e1, g2.tr e2⟩
      · rw [if_neg c2]
        exact skip (fun z => c2 ((swait_bit (by omega)).mp z).2.2)
    · rw [if_neg c1, if_pos rfl]
      exact skip (fun z => c1 ((swait_bit (by omega)).mp z).2.1)
theorem y_setBy (hw : sWF S) {s : Nat} {lev : Nat → Nat} (hs : s < S 0) (hlev : ∀ b, b < S 1 → lev b ≤ scap S b) (hcb : ∀ b, scom S b < 100) {rule : Nat} (hr : rule < 4) {M : mm_M} (hv : vY M S s lev) : ∃ M', f7_setBy (nI rule) (nI s) M = some (nI (schoose S rule s lev), M') ∧ Fr cSb M M' := by
  have hB := hw.B
  unfold f7_setBy
  rw [show (0 : Int32) = nI 0 from rfl]
  exact y_sb5 hw hs hlev hcb hr (S 1) 0 FU 0 (fun _ => 0) M (by omega) (by have := FU_big; omega) hv ⟨Nat.le_refl _, fun i hi => by omega, fun i j h1 h2 => by omega, fun b' hb' => by omega⟩
end RULE3
