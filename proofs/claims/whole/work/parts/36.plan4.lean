section PLAN4
variable {S : sS} {P : sP}
def sprod (f : Nat → Nat) : Nat → Nat
  | 0 => 1
  | n + 1 => sprod f n * f n
theorem or_pow : ∀ a : Fin 16, ∀ b : Fin 4, a.1 < 2 ^ b.1 → (nI a.1 ||| nI (2 ^ b.1)) = nI (a.1 + 2 ^ b.1) ∧ (nI a.1 ||| 0) = nI a.1 := by decide +kernel
theorem sthN_lt (s : Nat) : ∀ b, sthN S P s b < 2 ^ b
  | 0 => Nat.one_pos
  | b + 1 => by
    have := sthN_lt s b
    have h2 : 2 ^ (b + 1) = 2 ^ b + 2 ^ b := by rw [Nat.pow_succ]; omega
    show ssum _ b + (if sth S P s b = true then 2 ^ b else 0) < _
    unfold sthN at this
    split <;> omega
theorem nx_sub1 (a b : Nat) : nI a - nI b + 1 = nI (a + 1) - nI b := by
  rw [← nx_add a 1, Int32.sub_eq_add_neg, Int32.sub_eq_add_neg, Int32.add_assoc, Int32.add_assoc, Int32.add_comm (-nI b) 1]
  rfl
/-- where the planner stands: the box of a SLOT, the state c in it -/
def vS (M : mm_M) (S : sS) (P : sP) (rdy : Bool) (s : Nat) (c : Nat → Nat) : Prop := (∀ b, b < 4 → mI M 37 b = nI (slo S P rdy s b) ∧ mI M 38 b = nI (shi S P s b) ∧ mI M 39 b = nI (sdu S P rdy s b) ∧ mI M 36 b = nI (c b)) ∧ mI M 26 15 = nI (six S P c) ∧ mI M 26 16 = nI (ssum c 4) ∧ mI M 26 17 = nI (sthN S P s 4)
def rI (rdy : Bool) : Int32 := if rdy = true then 1 else 0
theorem x_sp20 (hw : sWF S) (hP : pOK P) (rdy : Bool) {s : Nat} (hs : s ≤ 8) : ∀ (k b n : Nat) (M : mm_M), b + k = 4 → k < n → (∀ b, b < 4 → mI M 28 b = nI (P.1 b)) → (∀ b, b < 4 → vB M S P b) → (∀ s', s' < 16 → mI M 33 s' = nI (ssh S P s')) →
    (∀ b', b' < b → mI M 37 b' = nI (slo S P rdy s b') ∧ mI M 38 b' = nI (shi S P s b') ∧ mI M 39 b' = nI (sdu S P rdy s b') ∧ mI M 36 b' = nI (slo S P rdy s b')) → mI M 26 15 = nI (ssum (fun b => slo S P rdy s b * sstr S P b) b) → mI M 26 16 = nI (ssum (slo S P rdy s) b) → mI M 26 17 = nI (sthN S P s b) →
    ∃ M', l2_spread_20 n (nI s) (rI rdy) (nI (sprod (swd S P rdy s) b)) (nI b) M = some (nI (sprod (swd S P rdy s) 4), M') ∧ Fr cSp M M' ∧ vS M' S P rdy s (slo S P rdy s) ∧ mI M' 26 2 = mI M 26 2 := by
  intro k
  induction k with
  | zero =>
    intro b n M hk hn h28 hvb h33 hl h15 h16 h17
    obtain ⟨n, rfl⟩ : ∃ m, n = m + 1 := ⟨n - 1, by omega⟩
    have hb4 : b = 4 := by omega
    subst hb4
    refine ⟨M, ?_, Fr.rf, ⟨hl, h15, h16, h17⟩, rfl⟩
    unfold l2_spread_20 b2_spread_20
    rw [if_pos (by decide)]
  | succ k ih =>
    intro b n M hk hn h28 hvb h33 hl h15 h16 h17
    obtain ⟨n, rfl⟩ : ∃ m, n = m + 1 := ⟨n - 1, by omega⟩
    have hb4 : b < 4 := by omega
    have hbv := hvb b hb4
    have hsp := smt_spec S P b
    have hcom := hP.1 b
    have hst8 : sst S P b ≤ 8 := by
      unfold sst
      by_cases h : sw S P b = true
      · rw [if_pos h]
        have := (hw.bus b (sw_lt h)).2.2.2.2.2
        have hT := hw.T
        unfold sgo
        omega
      · rw [if_neg h]; omega
    have hbf : sbf S P b s ≤ sst S P b := Nat.min_le_left _ _
    have hlo : slo S P rdy s b ≤ 8 := by unfold slo; split <;> omega
    have hhi : shi S P s b ≤ 8 := by unfold shi; omega
    have hpw := pow_lt16 hb4
    have hstr := sstr_bd S P b (by omega)
    have hthl := sthN_lt (S := S) (P := P) s b
    -- the tail, with what is due
    have tail : ∀ (M1 : mm_M) (D : Nat), D = sdu S P rdy s b → Fr cSp M M1 → mI M1 26 2 = mI M 26 2 → (∀ b', b' < b → mI M1 37 b' = nI (slo S P rdy s b') ∧ mI M1 38 b' = nI (shi S P s b') ∧ mI M1 39 b' = nI (sdu S P rdy s b') ∧ mI M1 36 b' = nI (slo S P rdy s b')) → mI M1 37 b = nI (slo S P rdy s b) → mI M1 38 b = nI (shi S P s b) → mI M1 26 15 = nI (ssum (fun b => slo S P rdy s b * sstr S P b) b) → mI M1 26 16 = nI (ssum (slo S P rdy s) b) → mI M1 26 17 = nI (sthN S P s (b + 1)) →
        ∃ M', l2_spread_191 (l2_spread_20 n) (nI s) (rI rdy) (nI (sprod (swd S P rdy s) b)) (nI b) (nI D) (nI b) M1 = some (nI (sprod (swd S P rdy s) 4), M') ∧ Fr cSp M M' ∧ vS M' S P rdy s (slo S P rdy s) ∧ mI M' 26 2 = mI M 26 2 := by
      intro M1 D hD f1 h2 hl1 h37 h38 g15 g16 g17
      let M5 := sI (sI (sI (sI M1 39 b (nI D)) 36 b (nI (slo S P rdy s b))) 26 16 (nI (ssum (slo S P rdy s) (b + 1)))) 26 15 (nI (ssum (fun b => slo S P rdy s b * sstr S P b) (b + 1)))
      have f5 : Fr cSp M1 M5 := (((Fr.sI (Or.inr (Or.inr (Or.inr (Or.inr rfl))))).tr (Fr.sI (Or.inr (Or.inl rfl)))).tr (Fr.sI (Or.inl rfl))).tr (Fr.sI (Or.inl rfl))
      have fa := f1.tr f5
      obtain ⟨M', e1, e2, e3, e4⟩ := ih (b + 1) n M5 (by omega) (by omega) (fun b hb => by rw [fa.mI (by decide)]; exact h28 b hb) (fun b' hb' => (hvb b' hb').mv (fun x hx => by rcases hx with rfl | rfl <;> exact fa.mI (by decide) _) (fun x hx c hc => by rcases hx with rfl | rfl <;> exact fa.mI (by decide) _)) (fun s' hs' => by rw [fa.mI (by decide)]; exact h33 s' hs') (fun b' hb' => by
        by_cases hbb : b' = b
        · subst hbb
          refine ⟨?_, ?_, ?_, ?_⟩
          · show mI (sI (sI (sI (sI M1 39 b' _) 36 b' _) 26 16 _) 26 15 _) 37 b' = _
            rw [mI_sI_c _ _ _ _ (by decide), mI_sI_c _ _ _ _ (by decide), mI_sI_c _ _ _ _ (by decide), mI_sI_c _ _ _ _ (by decide)]; exact h37
          · show mI (sI (sI (sI (sI M1 39 b' _) 36 b' _) 26 16 _) 26 15 _) 38 b' = _
            rw [mI_sI_c _ _ _ _ (by decide), mI_sI_c _ _ _ _ (by decide), mI_sI_c _ _ _ _ (by decide), mI_sI_c _ _ _ _ (by decide)]; exact h38
          · show mI (sI (sI (sI (sI M1 39 b' _) 36 b' _) 26 16 _) 26 15 _) 39 b' = _
            rw [mI_sI_c _ _ _ _ (by decide), mI_sI_c _ _ _ _ (by decide), mI_sI_c _ _ _ _ (by decide), mI_sI_eq, hD]
          · show mI (sI (sI (sI (sI M1 39 b' _) 36 b' _) 26 16 _) 26 15 _) 36 b' = _
            rw [mI_sI_c _ _ _ _ (by decide), mI_sI_c _ _ _ _ (by decide), mI_sI_eq]
        · obtain ⟨q1, q2, q3, q4⟩ := hl1 b' (by omega)
          refine ⟨?_, ?_, ?_, ?_⟩
          · show mI (sI (sI (sI (sI M1 39 b _) 36 b _) 26 16 _) 26 15 _) 37 b' = _
            rw [mI_sI_c _ _ _ _ (by decide), mI_sI_c _ _ _ _ (by decide), mI_sI_c _ _ _ _ (by decide), mI_sI_c _ _ _ _ (by decide)]; exact q1
          · show mI (sI (sI (sI (sI M1 39 b _) 36 b _) 26 16 _) 26 15 _) 38 b' = _
            rw [mI_sI_c _ _ _ _ (by decide), mI_sI_c _ _ _ _ (by decide), mI_sI_c _ _ _ _ (by decide), mI_sI_c _ _ _ _ (by decide)]; exact q2
          · show mI (sI (sI (sI (sI M1 39 b _) 36 b _) 26 16 _) 26 15 _) 39 b' = _
            rw [mI_sI_c _ _ _ _ (by decide), mI_sI_c _ _ _ _ (by decide), mI_sI_c _ _ _ _ (by decide), mI_sI_k _ _ _ hbb]; exact q3
          · show mI (sI (sI (sI (sI M1 39 b _) 36 b _) 26 16 _) 26 15 _) 36 b' = _
            rw [mI_sI_c _ _ _ _ (by decide), mI_sI_c _ _ _ _ (by decide), mI_sI_k _ _ _ hbb, mI_sI_c _ _ _ _ (by decide)]; exact q4) (mI_sI_eq _ _ _ _) (by show mI (sI _ 26 15 _) 26 16 = _; rw [mI_sI_k _ _ _ (by decide), mI_sI_eq]) (by
        show mI (sI (sI (sI (sI M1 39 b _) 36 b _) 26 16 _) 26 15 _) 26 17 = _
        rw [mI_sI_k _ _ _ (by decide), mI_sI_k _ _ _ (by decide), mI_sI_c _ _ _ _ (by decide), mI_sI_c _ _ _ _ (by decide)]; exact g17)
      refine ⟨M', ?_, fa.tr e2, e3, e4.trans ?_⟩
      · unfold l2_spread_191
        rw [uI_in (by omega) (by omega), aI_in (by omega) (by omega), mI_sI_c _ _ _ _ (by decide), h37, uI_in (by omega) (by omega), bI_eq, mI_sI_c _ _ _ _ (by decide), mI_sI_c _ _ _ _ (by decide), g16, aI_in (by omega) (by omega), mI_sI_eq, nx_add, bM_eq, bI_eq, mI_sI_k _ _ _ (by decide), mI_sI_c _ _ _ _ (by decide), mI_sI_c _ _ _ _ (by decide), g15, aI_in (by omega) (by omega), mI_sI_c _ _ _ _ (by decide), mI_sI_eq]
        rw [show (1 <<< (nI b &&& 31) : Int32) = nI (2 ^ b) from shl_pow' (by omega), aI_in (by omega) (by omega), mI_sI_c _ _ _ _ (by decide), mI_sI_c _ _ _ _ (by decide), mI_sI_c _ _ _ _ (by decide), show mI M1 33 (2 ^ b) = nI (sstr S P b) by rw [f1.mI (by decide), h33 _ (by omega), ssh_pow hb4], nx_mul, nx_add, bM_eq]
        rw [aI_in (by omega) (by omega), mI_sI_c _ _ _ _ (by decide), mI_sI_c _ _ _ _ (by decide), mI_sI_c _ _ _ _ (by decide), mI_sI_c _ _ _ _ (by decide), h38, aI_in (by omega) (by omega), mI_sI_c _ _ _ _ (by decide), mI_sI_c _ _ _ _ (by decide), mI_sI_c _ _ _ _ (by decide), mI_sI_c _ _ _ _ (by decide), h37, nx_sub1, mx_sub (by omega) (by omega), bI_eq, nx_mul, bI_eq, nx_l1, nx_add]
        exact e1
      · show mI (sI (sI (sI (sI M1 39 b _) 36 b _) 26 16 _) 26 15 _) 26 2 = _
        rw [mI_sI_k _ _ _ (by decide), mI_sI_k _ _ _ (by decide), mI_sI_c _ _ _ _ (by decide), mI_sI_c _ _ _ _ (by decide)]
        exact h2
    -- from 'isThere' on
    have mid : ∀ (M1 : mm_M) (tt : Bool), tt = sth S P s b → Fr cSp M M1 → mI M1 26 2 = mI M 26 2 → (∀ b', b' < b → mI M1 37 b' = nI (slo S P rdy s b') ∧ mI M1 38 b' = nI (shi S P s b') ∧ mI M1 39 b' = nI (sdu S P rdy s b') ∧ mI M1 36 b' = nI (slo S P rdy s b')) → mI M1 37 b = nI (slo S P rdy s b) → mI M1 38 b = nI (shi S P s b) → mI M1 26 15 = nI (ssum (fun b => slo S P rdy s b * sstr S P b) b) → mI M1 26 16 = nI (ssum (slo S P rdy s) b) → mI M1 26 17 = nI (sthN S P s b) →
        ∃ M', l2_spread_132 (l2_spread_20 n) (nI s) (rI rdy) (nI (sprod (swd S P rdy s) b)) (nI b) (nI (sbh S P b s)) (rI tt) M1 = some (nI (sprod (swd S P rdy s) 4), M') ∧ Fr cSp M M' ∧ vS M' S P rdy s (slo S P rdy s) ∧ mI M' 26 2 = mI M 26 2 := by
      intro M1 tt htt f1 h2 hl1 h37 h38 g15 g16 g17
      have hor := or_pow ⟨sthN S P s b, by omega⟩ ⟨b, hb4⟩ hthl
      simp only at hor
      have f2 : Fr cSp M (sI M1 26 17 (nI (sthN S P s (b + 1)))) := f1.tr (Fr.sI (Or.inl rfl))
      have go : ∀ D, D = sdu S P rdy s b → ∃ M', l2_spread_191 (l2_spread_20 n) (nI s) (rI rdy) (nI (sprod (swd S P rdy s) b)) (nI b) (nI D) (nI b) (sI M1 26 17 (nI (sthN S P s (b + 1)))) = some (nI (sprod (swd S P rdy s) 4), M') ∧ Fr cSp M M' ∧ vS M' S P rdy s (slo S P rdy s) ∧ mI M' 26 2 = mI M 26 2 := fun D hD => tail _ D hD f2 (by rw [mI_sI_k _ _ _ (by decide)]; exact h2) (fun b' hb' => by
        obtain ⟨q1, q2, q3, q4⟩ := hl1 b' hb'
        exact ⟨by rw [mI_sI_c _ _ _ _ (by decide)]; exact q1, by rw [mI_sI_c _ _ _ _ (by decide)]; exact q2, by rw [mI_sI_c _ _ _ _ (by decide)]; exact q3, by rw [mI_sI_c _ _ _ _ (by decide)]; exact q4⟩) (by rw [mI_sI_c _ _ _ _ (by decide)]; exact h37) (by rw [mI_sI_c _ _ _ _ (by decide)]; exact h38) (by rw [mI_sI_k _ _ _ (by decide)]; exact g15) (by rw [mI_sI_k _ _ _ (by decide)]; exact g16) (mI_sI_eq _ _ _ _)
      have h30 : mI (sI M1 26 17 (nI (sthN S P s (b + 1)))) 30 b = nI (smt S P b) := by rw [f2.mI (by decide)]; exact hbv.2.1
      unfold l2_spread_132 l2_spread_152 l2_spread_190
      rw [bI_eq, g17]
      cases tt with
      | false =>
        rw [if_pos (show rI false = 0 from rfl), bM_eq, hor.2, show nI (sthN S P s b) = nI (sthN S P s (b + 1)) by
          rw [show sthN S P s (b + 1) = sthN S P s b + (if sth S P s b = true then 2 ^ b else 0) from rfl, ← htt]; rfl]
        have hdu : sdu S P rdy s b = 0 := by unfold sdu; rw [← htt, Bool.and_false]; rfl
        by_cases hr : rI rdy = 0
        · rw [if_pos hr]; exact go 0 hdu.symm
        · rw [if_neg hr, if_pos (show rI false = 0 from rfl)]; exact go 0 hdu.symm
      | true =>
        rw [if_neg (show ¬ rI true = 0 by decide), bM_eq, show (1 <<< (nI b &&& 31) : Int32) = nI (2 ^ b) from shl_pow' (by omega), hor.1, show sthN S P s b + 2 ^ b = sthN S P s (b + 1) by
          rw [show sthN S P s (b + 1) = sthN S P s b + (if sth S P s b = true then 2 ^ b else 0) from rfl, ← htt]; rfl]
        cases rdy with
        | false =>
          have hdu : sdu S P false s b = 0 := by unfold sdu; rw [Bool.false_and]; rfl
          rw [if_pos (show rI false = 0 from rfl)]; exact go 0 hdu.symm
        | true =>
          have hdu : sdu S P true s b = smt S P b + 1 - sbh S P b s := by unfold sdu; rw [← htt]; rfl
          have hbh : sbh S P b s ≤ 8 := by unfold sbh; omega
          rw [if_neg (show ¬ rI true = 0 by decide), if_neg (show ¬ rI true = 0 by decide), aI_in (by omega) (by omega), h30, nx_sub1, mx_sub (by omega) (by omega), bI_eq]
          exact go _ hdu.symm
    have hbfe : mi (nI (sst S P b)) (mx 0 (nI s - nI (P.1 b))) = nI (sbf S P b s) := by
      rw [mx_sub (by omega) (by omega), mi_nI (by omega) (by omega)]; rfl
    have hbhe : nI (sst S P b) - nI (sbf S P b s) = nI (sbh S P b s) := nx_sub hbf
    have hbh : sbh S P b s ≤ 8 := by unfold sbh; omega
    -- from 'low' on
    have low : ∃ M', l2_spread_91 (l2_spread_20 n) (nI s) (rI rdy) (nI (sprod (swd S P rdy s) b)) (nI b) (nI (sbf S P b s)) (nI (sbh S P b s)) (nI (slo S P rdy s b)) (nI b) M = some (nI (sprod (swd S P rdy s) 4), M') ∧ Fr cSp M M' ∧ vS M' S P rdy s (slo S P rdy s) ∧ mI M' 26 2 = mI M 26 2 := by
      have f2 : Fr cSp M (sI (sI M 37 b (nI (slo S P rdy s b))) 38 b (nI (shi S P s b))) := (Fr.sI (Or.inr (Or.inr (Or.inl rfl)))).tr (Fr.sI (Or.inr (Or.inr (Or.inr (Or.inl rfl)))))
      have go := fun (tt : Bool) (htt : tt = sth S P s b) => mid (sI (sI M 37 b (nI (slo S P rdy s b))) 38 b (nI (shi S P s b))) tt htt f2 (by rw [mI_sI_c _ _ _ _ (by decide), mI_sI_c _ _ _ _ (by decide)]) (fun b' hb' => by
        obtain ⟨q1, q2, q3, q4⟩ := hl b' hb'
        exact ⟨by rw [mI_sI_c _ _ _ _ (by decide), mI_sI_k _ _ _ (by omega)]; exact q1, by rw [mI_sI_k _ _ _ (by omega), mI_sI_c _ _ _ _ (by decide)]; exact q2, by rw [mI_sI_c _ _ _ _ (by decide), mI_sI_c _ _ _ _ (by decide)]; exact q3, by rw [mI_sI_c _ _ _ _ (by decide), mI_sI_c _ _ _ _ (by decide)]; exact q4⟩) (by rw [mI_sI_c _ _ _ _ (by decide), mI_sI_eq]) (mI_sI_eq _ _ _ _) (by rw [mI_sI_c _ _ _ _ (by decide), mI_sI_c _ _ _ _ (by decide)]; exact h15) (by rw [mI_sI_c _ _ _ _ (by decide), mI_sI_c _ _ _ _ (by decide)]; exact h16) (by rw [mI_sI_c _ _ _ _ (by decide), mI_sI_c _ _ _ _ (by decide)]; exact h17)
      unfold l2_spread_91 l2_spread_131
      rw [uI_in (by omega) (by omega), aI_in (by omega) (by omega), mI_sI_c _ _ _ _ (by decide), hbv.2.1, mi_nI (by omega) (by omega), bI_eq, uI_in (by omega) (by omega), aI_in (by omega) (by omega), mI_sI_c _ _ _ _ (by decide), mI_sI_c _ _ _ _ (by decide), h28 b hb4]
      simp only [nx_lt (show s < 2 ^ 31 by omega) (show P.1 b < 2 ^ 31 by omega), show (0 : Int32) = nI 0 from rfl, nx_le (show sbh S P b s < 2 ^ 31 by omega) (show 0 < 2 ^ 31 by omega)]
      by_cases c1 : s < P.1 b
      · rw [if_pos c1]
        exact go false (by unfold sth; simp; omega)
      · rw [if_neg c1]
        by_cases c2 : sbh S P b s ≤ 0
        · rw [if_pos c2]
          exact go false (by unfold sth; simp; omega)
        · rw [if_neg c2]
          exact go true (by unfold sth; simp; omega)
    unfold l2_spread_20 b2_spread_20
    rw [nx_l4, if_neg (by rw [nx_le (by omega) (by omega)]; omega), aI_in (by omega) (by omega), hbv.1, aI_in (by omega) (by omega), h28 b hb4, bI_eq, hbfe, bI_eq, aI_in (by omega) (by omega), hbv.1, hbhe, bI_eq]
    cases rdy with
    | false =>
      rw [if_pos (show rI false = 0 from rfl)]
      exact low
    | true =>
      rw [if_neg (show ¬ rI true = 0 by decide), aI_in (by omega) (by omega), hbv.2.1, mx_sub (by omega) (by omega), bI_eq]
      exact low
theorem x_spread (hw : sWF S) (hP : pOK P) (rdy : Bool) {s d : Nat} (hs : s ≤ 8) {M : mm_M} (hv : vP M d S P) (hvb : ∀ b, b < 4 → vB M S P b) (h33 : ∀ s', s' < 16 → mI M 33 s' = nI (ssh S P s')) : ∃ M', f2_spread (nI s) (rI rdy) M = some (nI (sprod (swd S P rdy s) 4), M') ∧ Fr cSp M M' ∧ vS M' S P rdy s (slo S P rdy s) ∧ mI M' 26 2 = mI M 26 2 := by
  have f0 : Fr cSp M (sI (sI (sI M 26 15 0) 26 16 0) 26 17 0) := ((Fr.sI (Or.inl rfl)).tr (Fr.sI (Or.inl rfl))).tr (Fr.sI (Or.inl rfl))
  obtain ⟨M', e1, e2, e3, e4⟩ := x_sp20 hw hP rdy hs 4 0 FU (sI (sI (sI M 26 15 0) 26 16 0) 26 17 0) (by omega) (by have := FU_big; omega) (fun b hb => by rw [f0.mI (by decide)]; exact hv.2.2.2.2.2.1 b hb) (fun b' hb' => (hvb b' hb').mv (fun x hx => by rcases hx with rfl | rfl <;> exact f0.mI (by decide) _) (fun x hx c hc => by rcases hx with rfl | rfl <;> exact f0.mI (by decide) _)) (fun s' hs' => by rw [f0.mI (by decide)]; exact h33 s' hs') (fun b' h => by omega) (by rw [mI_sI_k _ _ _ (by decide), mI_sI_k _ _ _ (by decide), mI_sI_eq]; rfl) (by rw [mI_sI_k _ _ _ (by decide), mI_sI_eq]; rfl) (by rw [mI_sI_eq]; rfl)
  refine ⟨M', ?_, f0.tr e2, e3, e4.trans (by rw [mI_sI_k _ _ _ (by decide), mI_sI_k _ _ _ (by decide), mI_sI_k _ _ _ (by decide)])⟩
  unfold f2_spread
  rw [bM_eq, bM_eq, bM_eq]
  exact e1
end PLAN4
