section RULE2
variable {S : sS} {d : Nat}
theorem x_rankOf (hw : sWF S) {M : mm_M} (hv : vD M d S) {rule b s : Nat} (hr : rule < 4) (hb : b < S 1) {lev : Nat → Nat} (hl : lev b ≤ scap S b) (h43 : mI M 43 b = nI (lev b)) : f4_rankOf d (nI rule) (nI b) (nI s) M = some (srank S rule s lev b, M) := by
  have hB := hw.B
  have hb2 := hw.bus b hb
  have hn : sneed S b ≤ scap S b := hb2.2.2.2.1
  unfold f4_rankOf
  rw [if_pos hv.ok, nx_l3, x_fact hv (by omega) (by omega), cI_some, show S (50 + 6 * b + 3) = sneed S b from rfl]
  have : rule = 0 ∨ rule = 1 ∨ rule = 2 ∨ rule = 3 := by omega
  rcases this with rfl | rfl | rfl | rfl
  · rw [if_neg (by decide), if_neg (by decide), if_neg (by decide)]
    rfl
  · rw [if_pos (show nI 1 = 1 from rfl), nx_l5, x_fact hv (by omega) (by omega), cI_some]
    rfl
  · rw [if_neg (by decide), if_pos (show nI 2 = 2 from rfl), aI_in (by omega) (by omega), h43]
    rfl
  · rw [if_neg (by decide), if_neg (by decide), if_pos rfl, nx_l5, x_fact hv (by omega) (by omega), cI_some, aI_in (by omega) (by omega), h43, x_fewest hw hv hb hn hl, cI_some]
    rfl
theorem x_rc82 (hw : sWF S) {lev : Nat → Nat} (hlev : ∀ b, b < S 1 → lev b ≤ scap S b) {rk : Nat → Int32} : ∀ (k i n w set all : Nat) (M : mm_M), i + k = 4 → k < n → w < 16 → set < 16 → (∀ b, b < 4 → sbit w b = true → sbit set b = false ∧ b < S 1 ∧ mI M 44 b = rk b) → all ≤ 200 → vD M d S → (∀ b, b < S 1 → mI M 43 b = nI (lev b + if sbit set b = true then sgain S (S 4) b (lev b) else 0)) →
    ∃ M', l4_chargeSlot_82 n d (nI w) (nI set) (nI all) (nI i) M = some (nI (ssel S lev rk k w set all), M') ∧ Fr (fun c => c = 43) M M' ∧ ∀ b, b < S 1 → mI M' 43 b = nI (lev b + if sbit (ssel S lev rk k w set all) b = true then sgain S (S 4) b (lev b) else 0) := by
  have hB := hw.B
  have hpl := hw.plug
  have hli := hw.lim
  have hpo := hw.pow
  intro k
  induction k with
  | zero =>
    intro i n w set all M hk hn hw16 hs16 hwb ha hv h43
    obtain ⟨n, rfl⟩ : ∃ j, n = j + 1 := ⟨n - 1, by omega⟩
    refine ⟨M, ?_, Fr.rf, h43⟩
    unfold l4_chargeSlot_82 b4_chargeSlot_82 l4_chargeSlot_196
    rw [nx_l4, if_pos (by rw [nx_le (by omega) (by omega)]; omega)]
    rfl
  | succ k ih =>
    intro i n w set all M hk hn hw16 hs16 hwb ha hv h43
    obtain ⟨n, rfl⟩ : ∃ j, n = j + 1 := ⟨n - 1, by omega⟩
    have hsp := spop_le ⟨set, hs16⟩
    simp only at hsp
    have e : ssel S lev rk (k + 1) w set all = if w = 0 ∨ S 3 ≤ spop set then set else if S 5 < all + sgain S (S 4) (sfst rk w) (lev (sfst rk w)) then ssel S lev rk k (w - 2 ^ sfst rk w) set all else ssel S lev rk k (w - 2 ^ sfst rk w) (set + 2 ^ sfst rk w) (all + sgain S (S 4) (sfst rk w) (lev (sfst rk w))) := rfl
    unfold l4_chargeSlot_82 b4_chargeSlot_82 l4_chargeSlot_196 l4_chargeSlot_190
    rw [nx_l4, if_neg (by rw [nx_le (by omega) (by omega)]; omega)]
    by_cases c0 : w = 0
    · rw [e, if_pos (Or.inl c0)]
      refine ⟨M, ?_, Fr.rf, h43⟩
      rw [if_pos (by rw [c0]; rfl)]
    · rw [if_neg (by rw [nx_lit0, nx_eq (by omega) (by omega)]; exact c0), aT_in hs16 (by omega), show mm_ro 1 set = nI (spop set) from size_tab ⟨set, hs16⟩, aI_z (by omega) (by omega), hv.plug]
      simp only [nx_le (show S 3 < 2 ^ 31 by omega) (show spop set < 2 ^ 31 by omega)]
      by_cases c1 : S 3 ≤ spop set
      · rw [e, if_pos (Or.inr c1)]
        refine ⟨M, ?_, Fr.rf, h43⟩
        rw [if_pos c1]
      · have hf := sfst_ok rk hw16 c0
        have c01 : ¬ (w = 0 ∨ S 3 ≤ spop set) := fun z => z.elim c0 c1
        rw [if_neg c1, e, if_neg c01, x_firstOf hw16 c0 (fun b hb hs => (hwb b hb hs).2.2), cI_some]
        obtain ⟨w1, w2, w3⟩ := hwb _ hf.1 hf.2.1
        obtain ⟨q1, q2, q3⟩ := bit_subn hw16 hf.1 hf.2.1
        have hcap : scap S (sfst rk w) ≤ 200 := (hw.bus _ w2).2.1.2
        have hlv := hlev _ w2
        have hgl := sgain_le (S := S) (S 4) (sfst rk w) (lev (sfst rk w))
        have hd' : ∀ b, b < 4 → sbit (w - 2 ^ sfst rk w) b = true → sbit w b = true ∧ b ≠ sfst rk w := fun b hb h => by
          rw [q3 b hb, Bool.and_eq_true, decide_eq_true_eq] at h
          exact h
        have h43f : mI M 43 (sfst rk w) = nI (lev (sfst rk w)) := by
          rw [h43 _ w2, w1]
          rfl
        generalize sfst rk w = f at *
        rw [show (1 <<< (nI f &&& 31) : Int32) = nI (2 ^ f) from shl_pow' (by omega), bI_eq, q2, aI_in (by omega) (by omega), h43f, nx_l1, aI_in (by omega) (by omega), hv.pow, x_gain hv hw w2 hlv (by omega), cI_some, nx_l2, aI_in (by omega) (by omega), hv.lim, nx_add]
        simp only [nx_lt (show S 5 < 2 ^ 31 by omega) (show all + sgain S (S 4) f (lev f) < 2 ^ 31 by omega)]
        by_cases c2 : S 5 < all + sgain S (S 4) f (lev f)
        · rw [if_pos c2, if_pos c2, nx_add]
          exact ih (i + 1) n (w - 2 ^ f) set all M (by omega) (by omega) (by omega) hs16 (fun b hb h => hwb b hb (hd' b hb h).1) ha hv h43
        · rw [if_neg c2, if_neg c2]
          obtain ⟨p1, p2, p3, p4⟩ := bit_add hs16 hf.1 w1
          rw [bI_eq, p2, bI_eq, aI_in (by omega) (by omega), h43f, nx_add, uI_in (by omega) (by omega), nx_add]
          have f0 : Fr (fun c => c = 43) M (sI M 43 f (nI (lev f + sgain S (S 4) f (lev f)))) := Fr.sI rfl
          obtain ⟨M', e1, e2, e3⟩ := ih (i + 1) n (w - 2 ^ f) (set + 2 ^ f) (all + sgain S (S 4) f (lev f)) (sI M 43 f (nI (lev f + sgain S (S 4) f (lev f)))) (by omega) (by omega) (by omega) p1 (fun b hb h => by
            obtain ⟨u1, u2⟩ := hd' b hb h
            obtain ⟨v1, v2, v3⟩ := hwb b hb u1
            refine ⟨?_, v2, by rw [mI_sI_c _ _ _ _ (by decide)]; exact v3⟩
            rw [p4 b hb, v1, decide_eq_false u2]
            rfl) (by omega) (hv.mv f0 (fun c h => by omega)) (fun b hb => by
            by_cases hbf : b = f
            · subst hbf
              rw [mI_sI_eq, p4 b (by omega), decide_eq_true rfl, Bool.or_true]
              rfl
            · rw [mI_sI_k _ _ _ hbf, h43 b hb, p4 b (by omega), decide_eq_false hbf, Bool.or_false])
          exact ⟨M', e1, f0.tr e2, e3⟩
theorem sset_stop {p : Nat → Bool} {n : Nat} (hn : n ≤ 4) (h : ∀ b, n ≤ b → b < 4 → p b = false) : sset p n = sset p 4 := by
  have := ssum_ext (f := fun b => if p b = true then 2 ^ b else 0) (n := n) (4 - n) (fun j h1 h2 => by
    show (if p j = true then 2 ^ j else 0) = 0
    rw [h j h1 (by omega)]
    rfl)
  rw [show n + (4 - n) = 4 by omega] at this
  exact this.symm
theorem x_rc6 (hw : sWF S) {lev : Nat → Nat} (hlev : ∀ b, b < S 1 → lev b ≤ scap S b) {rule s : Nat} (hr : rule < 4) (hs : s < S 0) : ∀ (k b n : Nat) (M : mm_M), b + k = S 1 → k < n → vD M d S → (∀ b, b < S 1 → mI M 43 b = nI (lev b)) → (∀ j, j < b → sbit (swait S s lev) j = true → mI M 44 j = srank S rule s lev j) →
    ∃ M', l4_chargeSlot_6 n d (nI rule) (nI s) (nI (sset (fun b => decide (b < S 1) && sthere (scom S b) (sgo S b) s && decide (lev b < sneed S b)) b)) (nI b) M = some (nI (schoose S rule s lev), M') ∧ Fr (fun c => c = 43 ∨ c = 44) M M' ∧ ∀ b, b < S 1 → mI M' 43 b = nI (lev b + if sbit (schoose S rule s lev) b = true then sgain S (S 4) b (lev b) else 0) := by
  have hB := hw.B
  have hT := hw.T
  intro k
  induction k with
  | zero =>
    intro b n M hk hn hv h43 h44
    obtain ⟨n, rfl⟩ : ∃ j, n = j + 1 := ⟨n - 1, by omega⟩
    obtain rfl : b = S 1 := by omega
    have hst : sset (fun b => decide (b < S 1) && sthere (scom S b) (sgo S b) s && decide (lev b < sneed S b)) (S 1) = swait S s lev := sset_stop hB (fun b h1 h2 => by
      show (decide (b < S 1) && _ && _) = false
      rw [decide_eq_false (by omega)]
      rfl)
    obtain ⟨M', e1, e2, e3⟩ := x_rc82 (d := d) hw hlev (rk := srank S rule s lev) 4 0 FU (swait S s lev) 0 0 M (by omega) (by have := FU_big; omega) (swait_lt s lev) (by omega) (fun b hb h => ⟨sbit0 b, ((swait_bit hb).mp h).1, h44 b ((swait_bit hb).mp h).1 h⟩) (by omega) hv (fun b hb => by rw [h43 b hb, sbit0]; rfl)
    refine ⟨M', ?_, e2.wd (fun c h => Or.inl h), e3⟩
    unfold l4_chargeSlot_6 b4_chargeSlot_6
    rw [bI_eq, hv.B, if_pos (by rw [nx_le (by omega) (by omega)]; omega), hst]
    exact e1
  | succ k ih =>
    intro b n M hk hn hv h43 h44
    obtain ⟨n, rfl⟩ : ∃ j, n = j + 1 := ⟨n - 1, by omega⟩
    have hb : b < S 1 := by omega
    have hb2 := hw.bus b hb
    have hcap : scap S b ≤ 200 := hb2.2.1.2
    have hnd : sneed S b ≤ scap S b := hb2.2.2.2.1
    have hlb := hlev b hb
    have wl := sset_lt (fun b => decide (b < S 1) && sthere (scom S b) (sgo S b) s && decide (lev b < sneed S b)) b
    have hpw := pow_lt16 (show b < 4 by omega)
    have ws : sset (fun b => decide (b < S 1) && sthere (scom S b) (sgo S b) s && decide (lev b < sneed S b)) (b + 1) = sset (fun b => decide (b < S 1) && sthere (scom S b) (sgo S b) s && decide (lev b < sneed S b)) b + (if (decide (b < S 1) && sthere (scom S b) (sgo S b) s && decide (lev b < sneed S b)) = true then 2 ^ b else 0) := rfl
    have skip : ¬ sbit (swait S s lev) b = true → ∃ M', l4_chargeSlot_67 (l4_chargeSlot_6 n) d (nI rule) (nI s) (nI (sset (fun b => decide (b < S 1) && sthere (scom S b) (sgo S b) s && decide (lev b < sneed S b)) b)) (nI b) M = some (nI (schoose S rule s lev), M') ∧ Fr (fun c => c = 43 ∨ c = 44) M M' ∧ ∀ b, b < S 1 → mI M' 43 b = nI (lev b + if sbit (schoose S rule s lev) b = true then sgain S (S 4) b (lev b) else 0) := by
      intro hnw
      have := ih (b + 1) n M (by omega) (by omega) hv h43 (fun j hj hsj => h44 j (by
        apply Nat.lt_of_le_of_ne (by omega)
        intro z
        rw [z] at hsj
        exact hnw hsj) hsj)
      rw [ws, if_neg (fun z => hnw (by unfold swait; rw [sset_bit _ (by omega)]; exact z)), Nat.add_zero] at this
      unfold l4_chargeSlot_67
      rw [nx_l1, nx_add]
      exact this
    unfold l4_chargeSlot_6 b4_chargeSlot_6
    rw [bI_eq, hv.B, if_neg (by rw [nx_le (by omega) (by omega)]; omega), x_isThere hv hw hb (by omega), cI_some]
    by_cases c1 : sthere (scom S b) (sgo S b) s = true
    · rw [if_pos c1, if_neg (by decide), aI_in (by omega) (by omega), h43 b hb, nx_l3, x_fact hv (by omega) (by omega), cI_some, show S (50 + 6 * b + 3) = sneed S b from rfl]
      simp only [nx_le (show sneed S b < 2 ^ 31 by omega) (show lev b < 2 ^ 31 by omega)]
      by_cases c2 : sneed S b ≤ lev b
      · rw [if_pos c2]
        exact skip (fun z => by have := ((swait_bit (by omega)).mp z).2.2; omega)
      · rw [if_neg c2, show (1 <<< (nI b &&& 31) : Int32) = nI (2 ^ b) from shl_pow' (by omega), bI_eq]
        have hor := (or_pow ⟨_, show sset (fun b => decide (b < S 1) && sthere (scom S b) (sgo S b) s && decide (lev b < sneed S b)) b < 16 by omega⟩ ⟨b, by omega⟩ wl).1
        simp only at hor
        rw [hor, x_rankOf hw hv hr hb hlb (h43 b hb), cI_some, uI_in (by omega) (by omega)]
        have f0 : Fr (fun c => c = 43 ∨ c = 44) M (sI M 44 b (srank S rule s lev b)) := Fr.sI (Or.inr rfl)
        obtain ⟨M', e1, e2, e3⟩ := ih (b + 1) n (sI M 44 b (srank S rule s lev b)) (by omega) (by omega) (hv.mv f0 (fun c h => by omega)) (fun b hb => by rw [mI_sI_c _ _ _ _ (by decide)]; exact h43 b hb) (fun j hj hsj => by
          by_cases hjb : j = b
          · subst hjb; rw [mI_sI_eq]
          · rw [mI_sI_k _ _ _ hjb]; exact h44 j (by omega) hsj)
        refine ⟨M', ?_, f0.tr e2, e3⟩
        unfold l4_chargeSlot_67
        rw [ws, decide_eq_true hb, c1, decide_eq_true (show lev b < sneed S b by omega)] at e1
        rw [nx_l1, nx_add]
        exact e1
    · rw [if_neg c1, if_pos rfl]
      exact skip (fun z => c1 ((swait_bit (by omega)).mp z).2.1)
theorem x_rchargeSlot (hw : sWF S) {lev : Nat → Nat} (hlev : ∀ b, b < S 1 → lev b ≤ scap S b) {rule s : Nat} (hr : rule < 4) (hs : s < S 0) {M : mm_M} (hv : vD M d S) (h43 : ∀ b, b < S 1 → mI M 43 b = nI (lev b)) :
    ∃ M', f4_chargeSlot d (nI rule) (nI s) M = some (nI (schoose S rule s lev), M') ∧ Fr (fun c => c = 43 ∨ c = 44) M M' ∧ ∀ b, b < S 1 → mI M' 43 b = nI (lev b + if sbit (schoose S rule s lev) b = true then sgain S (S 4) b (lev b) else 0) := by
  have hB := hw.B
  unfold f4_chargeSlot
  rw [if_pos hv.ok]
  exact x_rc6 hw hlev hr hs (S 1) 0 FU M (by omega) (by have := FU_big; omega) hv h43 (fun j hj => by omega)
/-- the plan by a RULE: its first n SLOTS -/
def srq (S : sS) (rule : Nat) : Nat → (Nat → Nat)
  | 0 => fun _ => 0
  | n + 1 => fun s => if s = n then schoose S rule n (fun b => slv S (scom S) (S 4) (srq S rule n) b n) else srq S rule n s
def sru (S : sS) (rule : Nat) : Nat → Nat := srq S rule (S 0)
theorem slv_cg {com : Nat → Nat} {pow : Nat} {pl pl' : Nat → Nat} {b : Nat} : ∀ s, (∀ k, k < s → pl k = pl' k) → slv S com pow pl b s = slv S com pow pl' b s
  | 0, _ => rfl
  | s + 1, h => by
    have ih := slv_cg (com := com) (pow := pow) (b := b) s (fun k hk => h k (by omega))
    show slv S com pow pl b s + sinc S com pow pl b s (slv S com pow pl b s) = slv S com pow pl' b s + sinc S com pow pl' b s (slv S com pow pl' b s)
    rw [ih]
    unfold sinc
    rw [h s (by omega)]
theorem srq_out (rule : Nat) : ∀ n s, n ≤ s → srq S rule n s = 0
  | 0, _, _ => rfl
  | n + 1, s, h => by
    show (if s = n then _ else srq S rule n s) = 0
    rw [if_neg (by omega)]
    exact srq_out rule n s (by omega)
theorem srq_in (rule : Nat) {s : Nat} : ∀ k, srq S rule (s + 1 + k) s = srq S rule (s + 1) s
  | 0 => rfl
  | k + 1 => by
    show (if s = s + 1 + k then _ else srq S rule (s + 1 + k) s) = _
    rw [if_neg (by omega)]
    exact srq_in rule k
theorem srq_mid (rule : Nat) {n s : Nat} (h : s < n) : srq S rule n s = srq S rule (s + 1) s := by
  have := srq_in (S := S) rule (s := s) (n - (s + 1))
  rw [show s + 1 + (n - (s + 1)) = n by omega] at this
  exact this
theorem srq_at (rule s : Nat) : srq S rule (s + 1) s = schoose S rule s (fun b => slv S (scom S) (S 4) (srq S rule s) b s) := by
  show (if s = s then _ else _) = _
  rw [if_pos rfl]
theorem srq_lt (hw : sWF S) (rule : Nat) : ∀ n s, srq S rule n s < 2 ^ S 1
  | 0, _ => two_pow_pos _
  | n + 1, s => by
    show (if s = n then _ else srq S rule n s) < _
    split
    · have h := schoose_sub (S := S) rule n (fun b => slv S (scom S) (S 4) (srq S rule n) b n)
      have hB := hw.B
      exact sbit_le_tab ⟨S 1, by omega⟩ ⟨_, h.1⟩ (fun b hb => ((swait_bit b.2).mp (h.2 b.1 b.2 hb)).1)
    · exact srq_lt hw rule n s
theorem srq_lev (hw : sWF S) (rule : Nat) {b s : Nat} (hb : b < S 1) : slv S (scom S) (S 4) (srq S rule (s + 1)) b (s + 1) = slv S (scom S) (S 4) (srq S rule s) b s + if sbit (schoose S rule s (fun b => slv S (scom S) (S 4) (srq S rule s) b s)) b = true then sgain S (S 4) b (slv S (scom S) (S 4) (srq S rule s) b s) else 0 := by
  have hB := hw.B
  have h1 : slv S (scom S) (S 4) (srq S rule (s + 1)) b s = slv S (scom S) (S 4) (srq S rule s) b s := slv_cg s (fun k hk => by
    show (if k = s then _ else srq S rule s k) = _
    rw [if_neg (by omega)])
  show slv S (scom S) (S 4) (srq S rule (s + 1)) b s + sinc S (scom S) (S 4) (srq S rule (s + 1)) b s (slv S (scom S) (S 4) (srq S rule (s + 1)) b s) = _
  rw [h1]
  congr 1
  unfold sinc
  rw [srq_at]
  by_cases hs : sbit (schoose S rule s (fun b => slv S (scom S) (S 4) (srq S rule s) b s)) b = true
  · have h2 := (swait_bit (show b < 4 by omega)).mp ((schoose_sub (S := S) rule s _).2 b (by omega) hs)
    rw [if_pos hs, hs, h2.2.1]
    rfl
  · rw [if_neg hs, Bool.eq_false_iff.mpr hs]
    rfl
abbrev cRu : Nat → Prop := fun c => c = 42 ∨ c = 43 ∨ c = 44
theorem x_mk30 (hw : sWF S) {rule : Nat} (hr : rule < 4) : ∀ (k s n : Nat) (M : mm_M), s + k = 8 → k < n → vD M d S → (s ≤ S 0 → ∀ b, b < S 1 → mI M 43 b = nI (slv S (scom S) (S 4) (srq S rule s) b s)) → (∀ j, j < s → mI M 42 j = nI (sru S rule j)) → ∃ M', l4_make_30 n d (nI rule) (nI s) M = some M' ∧ Fr cRu M M' ∧ ∀ j, j < 8 → mI M' 42 j = nI (sru S rule j) := by
  have hT := hw.T
  intro k
  induction k with
  | zero =>
    intro s n M hk hn hv h43 h42
    obtain ⟨n, rfl⟩ : ∃ j, n = j + 1 := ⟨n - 1, by omega⟩
    refine ⟨M, ?_, Fr.rf, fun j hj => h42 j (by omega)⟩
    unfold l4_make_30 b4_make_30
    rw [nx_l8, if_pos (by rw [nx_le (by omega) (by omega)]; omega)]
  | succ k ih =>
    intro s n M hk hn hv h43 h42
    obtain ⟨n, rfl⟩ : ∃ j, n = j + 1 := ⟨n - 1, by omega⟩
    have step : ∀ (M1 : mm_M) (v : Nat), Fr cRu M M1 → v = sru S rule s → (s + 1 ≤ S 0 → ∀ b, b < S 1 → mI M1 43 b = nI (slv S (scom S) (S 4) (srq S rule (s + 1)) b (s + 1))) → (∀ j, mI M1 42 j = mI M 42 j) → ∃ M', l4_make_60 (l4_make_30 n) d (nI rule) (nI s) (nI v) (nI s) M1 = some M' ∧ Fr cRu M M' ∧ ∀ j, j < 8 → mI M' 42 j = nI (sru S rule j) := by
      intro M1 v f1 hvs h43' h42'
      have f0 : Fr cRu M (sI M1 42 s (nI v)) := f1.tr (Fr.sI (Or.inl rfl))
      obtain ⟨M', e1, e2, e3⟩ := ih (s + 1) n (sI M1 42 s (nI v)) (by omega) (by omega) (hv.mv f0 (fun c h => by rcases h with h | h | h <;> omega)) (fun hs b hb => by rw [mI_sI_c _ _ _ _ (by decide)]; exact h43' hs b hb) (fun j hj => by
        by_cases hjs : j = s
        · subst hjs; rw [mI_sI_eq, hvs]
        · rw [mI_sI_k _ _ _ hjs, h42']; exact h42 j (by omega))
      refine ⟨M', ?_, f0.tr e2, e3⟩
      unfold l4_make_60
      rw [uI_in (by omega) (by omega), nx_l1, nx_add]
      exact e1
    unfold l4_make_30 b4_make_30
    rw [nx_l8, if_neg (by rw [nx_le (by omega) (by omega)]; omega), bI_eq, hv.T]
    simp only [nx_le (show S 0 < 2 ^ 31 by omega) (show s < 2 ^ 31 by omega)]
    by_cases c1 : S 0 ≤ s
    · rw [if_pos c1]
      exact step M 0 Fr.rf (by unfold sru; rw [srq_out rule _ _ c1]) (fun z => by omega) (fun _ => rfl)
    · rw [if_neg c1]
      obtain ⟨M1, e1, e2, e3⟩ := x_rchargeSlot (d := d) hw (lev := fun b => slv S (scom S) (S 4) (srq S rule s) b s) (fun b hb => slv_le (hw.bus b hb).2.2.1 s) hr (show s < S 0 by omega) hv (h43 (by omega))
      rw [e1, cI_some]
      exact step M1 _ (e2.wd (fun c h => h.elim (fun z => Or.inr (Or.inl z)) (fun z => Or.inr (Or.inr z)))) (by unfold sru; rw [srq_mid rule (show s < S 0 by omega), srq_at]) (fun _ b hb => by rw [e3 b hb, srq_lev hw rule hb]) (fun j => e2.mI (by decide) j)
theorem x_mk2 (hw : sWF S) {rule : Nat} (hr : rule < 4) : ∀ (k b n : Nat) (M : mm_M), b + k = S 1 → k < n → vD M d S → (∀ j, j < b → mI M 43 j = nI (slev S j)) → ∃ M', l4_make_2 n d (nI rule) (nI b) M = some M' ∧ Fr cRu M M' ∧ ∀ j, j < 8 → mI M' 42 j = nI (sru S rule j) := by
  have hB := hw.B
  intro k
  induction k with
  | zero =>
    intro b n M hk hn hv h43
    obtain ⟨n, rfl⟩ : ∃ j, n = j + 1 := ⟨n - 1, by omega⟩
    obtain ⟨M', e1, e2, e3⟩ := x_mk30 hw hr 8 0 FU M (by omega) (by have := FU_big; omega) hv (fun _ b' hb' => h43 b' (by omega)) (fun j hj => by omega)
    refine ⟨M', ?_, e2, e3⟩
    unfold l4_make_2 b4_make_2
    rw [bI_eq, hv.B, if_pos (by rw [nx_le (by omega) (by omega)]; omega)]
    exact e1
  | succ k ih =>
    intro b n M hk hn hv h43
    obtain ⟨n, rfl⟩ : ∃ j, n = j + 1 := ⟨n - 1, by omega⟩
    have f0 : Fr cRu M (sI M 43 b (nI (slev S b))) := Fr.sI (Or.inr (Or.inl rfl))
    obtain ⟨M', e1, e2, e3⟩ := ih (b + 1) n (sI M 43 b (nI (slev S b))) (by omega) (by omega) (hv.mv f0 (fun c h => by rcases h with h | h | h <;> omega)) (fun j hj => by
      by_cases hjb : j = b
      · subst hjb; rw [mI_sI_eq]
      · rw [mI_sI_k _ _ _ hjb]; exact h43 j (by omega))
    refine ⟨M', ?_, f0.tr e2, e3⟩
    unfold l4_make_2 b4_make_2
    rw [bI_eq, hv.B, if_neg (by rw [nx_le (by omega) (by omega)]; omega), nx_l2, x_fact hv (by omega) (by omega), cI_some, uI_in (by omega) (by omega), nx_l1, nx_add]
    exact e1
theorem x_make (hw : sWF S) {rule : Nat} (hr : rule < 4) {M : mm_M} (hv : vD M d S) : ∃ M', f4_make d (nI rule) M = some M' ∧ Fr cRu M M' ∧ ∀ j, j < 8 → mI M' 42 j = nI (sru S rule j) := by
  have hB := hw.B
  unfold f4_make
  rw [if_pos hv.ok]
  exact x_mk2 hw hr (S 1) 0 FU M (by omega) (by have := FU_big; omega) hv (fun j hj => by omega)
end RULE2
