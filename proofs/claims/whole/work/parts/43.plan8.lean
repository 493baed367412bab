section PLAN8
variable {S : sS} {P : sP}
theorem sprod_bd (rdy : Bool) (s : Nat) : sprod (swd S P rdy s) 4 ≤ 6561 := by
  have m : ∀ b, swd S P rdy s b ≤ 9 := fun b => by
    have := (smt_spec S P b).1
    have := shi_le (S := S) (P := P) s b
    unfold swd
    omega
  rw [sprod4]
  exact Nat.mul_le_mul (m 0) (Nat.mul_le_mul (m 1) (Nat.mul_le_mul (m 2) (m 3)))
theorem vS.mvs {Q : Nat → Prop} {M M' : mm_M} {rdy : Bool} {s : Nat} {c : Nat → Nat} (h : vS M S P rdy s c) (hf : Fr Q M M') (h26 : ¬ Q 26) (h36 : ¬ Q 36) (h37 : ¬ Q 37) (h38 : ¬ Q 38) (h39 : ¬ Q 39) : vS M' S P rdy s c := ⟨fun b hb => by
    obtain ⟨u1, u2, u3, u4⟩ := h.1 b hb
    exact ⟨by rw [hf.mI h37]; exact u1, by rw [hf.mI h38]; exact u2, by rw [hf.mI h39]; exact u3, by rw [hf.mI h36]; exact u4⟩, by rw [hf.mI h26]; exact h.2.1, by rw [hf.mI h26]; exact h.2.2.1, by rw [hf.mI h26]; exact h.2.2.2⟩
/-- the loop over the states of a SLOT -/
theorem x_ws77 (hw : sWF S) (hP : pOK P) {rdy : Bool} {r d : Nat} (hr : r + 1 ≤ S 0) (rec : Int32 → Int32 → mm_M → Option (Int32 × mm_M)) : ∀ (k i n : Nat) (M : mm_M), i + k = sprod (swd S P rdy (S 0 - (r + 1))) 4 → k < n → vQ M d S P → vJ M S P rdy (S 0 - (r + 1)) i → (i < sprod (swd S P rdy (S 0 - (r + 1))) 4 → ∃ c, bx S P rdy (S 0 - (r + 1)) c ∧ srk S P rdy (S 0 - (r + 1)) c = i ∧ vS M S P rdy (S 0 - (r + 1)) c) →
    ∃ M', l2_weighStates_77 rec n (rI rdy) (nI (sprod (swd S P rdy (S 0 - (r + 1))) 4)) (nI (S 0 - (r + 1))) (nI i) M = rec (rI rdy) (nI (S 0 - (r + 1)) + (-1)) M' ∧ Fr cWs M M' ∧ vQ M' d S P ∧ vI M' S P rdy (S 0 - (r + 1)) := by
  have hT := hw.T
  have hN := sprod_bd (S := S) (P := P) rdy (S 0 - (r + 1))
  have hTr2 : S 0 - (S 0 - (r + 1) + 1) = r := by omega
  intro k
  induction k with
  | zero =>
    intro i n M hk hn hq hj _
    obtain ⟨n, rfl⟩ : ∃ m, n = m + 1 := ⟨n - 1, by omega⟩
    refine ⟨M, ?_, Fr.rf, hq, ⟨fun c hb hs => (hj.1 c).1 ⟨hb, by have := srk_lt hb; omega, hs⟩, fun s' c h1 h2 hb hs => hj.2 s' c h1 h2 (fun z => by subst z; exact ⟨hb, by have := srk_lt hb; omega, hs⟩) hb hs⟩⟩
    unfold l2_weighStates_77 b2_weighStates_77
    rw [if_pos (by rw [nx_le (by omega) (by omega)]; omega)]
  | succ k ih =>
    intro i n M hk hn hq hj hc
    obtain ⟨n, rfl⟩ : ∃ m, n = m + 1 := ⟨n - 1, by omega⟩
    obtain ⟨c, hb, hi, hv⟩ := hc (by omega)
    have hsum : ssum c 4 ≤ 32 := by
      have := ssum_le (f := c) (B := 8) 4 (fun b hb4 => Nat.le_trans (hb.le b hb4) (smt_spec S P b).1)
      omega
    have p1 := hP.2.1
    have hps : P.2.1 * (S 0 - (r + 1)) ≤ 1000 * 8 := Nat.mul_le_mul (by omega) (by omega)
    -- behind the state
    have next : ∀ M1, Fr cWs M M1 → vQ M1 d S P → vS M1 S P rdy (S 0 - (r + 1)) c → vJ M1 S P rdy (S 0 - (r + 1)) (i + 1) → ∃ M', l2_weighStates_105 (l2_weighStates_77 rec n) (rI rdy) (nI (sprod (swd S P rdy (S 0 - (r + 1))) 4)) (nI (S 0 - (r + 1))) (nI i) M1 = rec (rI rdy) (nI (S 0 - (r + 1)) + (-1)) M' ∧ Fr cWs M M' ∧ vQ M' d S P ∧ vI M' S P rdy (S 0 - (r + 1)) := by
      intro M1 f1 hq1 hv1 hj1
      obtain ⟨M2, e1, e2, e3, c', e4, e5⟩ := x_nextState hb hv1 hq1.2.2
      have f2 := e2.wd cNs_ws
      have hq2 := hq1.mv f2 e3 (e2.mI (by decide) 0)
      obtain ⟨M', g1, g2, g3, g4⟩ := ih (i + 1) n M2 (by omega) (by omega) hq2 (hj1.mv e2) (fun h => ⟨c', (e5 (by omega)).1, by rw [(e5 (by omega)).2, hi], e4⟩)
      refine ⟨M', ?_, f1.tr (f2.tr g2), g3, g4⟩
      unfold l2_weighStates_105
      rw [e1, cV_some, nx_l1, nx_add]
      exact g1
    unfold l2_weighStates_77 b2_weighStates_77
    rw [if_neg (by rw [nx_le (by omega) (by omega)]; omega), bI_eq, hv.2.2.1, aI_z (by omega) (by omega), hq.1.2.2.1, nx_mul]
    simp only [nx_lt (show P.2.1 * (S 0 - (r + 1)) < 2 ^ 31 by omega) (show ssum c 4 < 2 ^ 31 by omega)]
    by_cases hs : P.2.1 * (S 0 - (r + 1)) < ssum c 4
    · rw [if_pos hs]
      exact next M Fr.rf hq hv (vJ_skip hj hb hi hs)
    · rw [if_neg hs]
      have hmul : P.2.1 * (S 0 - (r + 1) + 1) = P.2.1 * (S 0 - (r + 1)) + P.2.1 := Nat.mul_succ _ _
      obtain ⟨M1, e1, e2, e3, e4, e5⟩ := x_settle hw hP hr hb hq.1 hq.2.1 hv hq.2.2 (fun k hk16 hk0 hok => by
        have ho := (wok_iff hk16).mp hok
        have hbn := bx_next hb ho.1 ho.2.2.2
        have := (hj.1 (snx c k)).2 (fun z => by
          have hne : ∃ b, b < 4 ∧ c b ≠ snx c k b := by
            have l := low_tab ⟨k, hk16⟩ hk0
            refine ⟨slow k, l.2.2.1, ?_⟩
            rw [show snx c k (slow k) = c (slow k) + 1 from if_pos l.2.2.2.2.1]
            omega
          have := srk_up hb z.1 (fun b _ => by unfold snx; split <;> omega) hne
          have := z.2.1
          omega) hbn (by rw [sum_snx hk16, hmul]; omega)
        rw [hTr2] at this
        exact this) (fun hm => by
        have hb1 := bx_next (set := 0) hb (fun b _ h => by rw [sbit0] at h; exact Bool.noConfusion h) (fun b hb4 hd => by
          have := (wmust_bit hb4).mpr hd
          rw [hm, sbit0] at this
          exact Bool.noConfusion this)
        rw [snx_0] at hb1
        have := (hj.1 c).2 (fun z => by have := z.2.1; omega) hb1 (by rw [hmul]; omega)
        rw [hTr2] at this
        exact this)
      rw [e1, cV_some]
      exact next M1 (e2.wd cSe_ws) (hq.mv (e2.wd cSe_ws) (e2.mI (by decide) 2) e3) (hv.mvs e2 (by decide) (by decide) (by decide) (by decide) (by decide)) (vJ_step hT.2 hr hj hb hi (by omega) e4 e5 (wa_lt rdy r c))
theorem six_0 : six S P (fun _ => 0) = 0 := by
  unfold six
  exact (ssum_zero 4).mpr (fun k _ => Nat.zero_mul _)
theorem bx_0 (rdy : Bool) : bx S P rdy 0 (fun _ => 0) := fun b _ => by
  have := (smt_spec S P b).2.1
  refine ⟨?_, Nat.zero_le _⟩
  unfold slo sbh sbf
  split <;> omega
theorem x_ws_end {rdy : Bool} (hw : sWF S) {M : mm_M} (hi : vI M S P rdy 0) (n : Nat) : l2_weighStates_61 (n + 1) (rI rdy) (-1) M = some (if 2 ^ 50 ≤ wv S P rdy (S 0) (fun _ => 0) then 0 else 1, M) := by
  have h := hi.1 (fun _ => 0) (bx_0 rdy) (by rw [(ssum_zero 4).mpr (fun k _ => rfl)]; exact Nat.zero_le _)
  rw [six_0, Nat.sub_zero] at h
  have hbd := wv_bd (P := P) hw rdy (S 0) (Nat.le_refl _) (fun _ => 0)
  have hT := hw.T
  unfold l2_weighStates_61 b2_weighStates_61 l2_weighStates_139
  rw [if_pos (by decide), aL_z (by omega) (by omega), h, show (1125899906842624 : Int64) = lN (2 ^ 50) from rfl]
  simp only [lx_cmp (show wv S P rdy (S 0) (fun _ => 0) < 2 ^ 63 by omega) (show 2 ^ 50 < 2 ^ 63 by omega)]
  by_cases hc : 2 ^ 50 ≤ wv S P rdy (S 0) (fun _ => 0)
  · rw [if_pos hc, if_pos hc]; rfl
  · rw [if_neg hc, if_neg hc]; rfl
theorem x_ws61 (hw : sWF S) (hP : pOK P) {rdy : Bool} {d : Nat} : ∀ (s n : Nat) (M : mm_M), s < S 0 → s + 1 < n → vQ M d S P → vI M S P rdy (s + 1) →
    ∃ M', l2_weighStates_61 n (rI rdy) (nI s) M = some (if 2 ^ 50 ≤ wv S P rdy (S 0) (fun _ => 0) then 0 else 1, M') ∧ Fr cWs M M' ∧ vQ M' d S P ∧ vI M' S P rdy 0 := by
  have hT := hw.T
  have hF := FU_big
  intro s
  induction s with
  | zero =>
    intro n M hs hn hq hi
    obtain ⟨n, rfl⟩ : ∃ m, n = m + 1 := ⟨n - 1, by omega⟩
    obtain ⟨M1, e1, e2, e3, e4⟩ := x_spread hw hP rdy (show 0 ≤ 8 by omega) hq.1 hq.2.1 hq.2.2
    have f1 := e2.wd cSp_ws
    have hq1 := hq.mv f1 e4 (e2.mI (by decide) 0)
    have hN := sprod_bd (S := S) (P := P) rdy 0
    have hr : S 0 - 1 + 1 = S 0 := by omega
    have h0 : S 0 - (S 0 - 1 + 1) = 0 := by omega
    have main := x_ws77 (S := S) (P := P) (rdy := rdy) (r := S 0 - 1) (d := d) hw hP (by omega) (l2_weighStates_61 n)
    rw [h0] at main
    obtain ⟨M', g1, g2, g3, g4⟩ := main (sprod (swd S P rdy 0) 4) 0 FU M1 (by omega) (by omega) hq1 ⟨fun c => ⟨fun z => absurd z.2.1 (by omega), fun _ hb hs => by rw [e2.mL (by decide)]; exact hi.1 c hb hs⟩, fun s' c h1 h2 h3 hb hs' => by
      have : s' ≠ 0 := fun z => absurd (h3 z).2.1 (by omega)
      rw [e2.mI (by decide)]
      exact hi.2 s' c (by omega) h2 hb hs'⟩ (fun _ => ⟨slo S P rdy 0, bx_first rdy 0, srk_first rdy 0, e3⟩)
    refine ⟨M', ?_, f1.tr g2, g3, g4⟩
    unfold l2_weighStates_61 b2_weighStates_61
    rw [if_neg (by decide), e1, cI_some, show (0 : Int32) = nI 0 from rfl, g1, show nI 0 + (-1) = -1 by decide]
    obtain ⟨n, rfl⟩ : ∃ m, n = m + 1 := ⟨n - 1, by omega⟩
    exact x_ws_end hw g4 n
  | succ s ih =>
    intro n M hs hn hq hi
    obtain ⟨n, rfl⟩ : ∃ m, n = m + 1 := ⟨n - 1, by omega⟩
    obtain ⟨M1, e1, e2, e3, e4⟩ := x_spread hw hP rdy (show s + 1 ≤ 8 by omega) hq.1 hq.2.1 hq.2.2
    have f1 := e2.wd cSp_ws
    have hq1 := hq.mv f1 e4 (e2.mI (by decide) 0)
    have hN := sprod_bd (S := S) (P := P) rdy (s + 1)
    have h0 : S 0 - (S 0 - (s + 2) + 1) = s + 1 := by omega
    have main := x_ws77 (S := S) (P := P) (rdy := rdy) (r := S 0 - (s + 2)) (d := d) hw hP (by omega) (l2_weighStates_61 n)
    rw [h0] at main
    obtain ⟨M2, g1, g2, g3, g4⟩ := main (sprod (swd S P rdy (s + 1)) 4) 0 FU M1 (by omega) (by omega) hq1 ⟨fun c => ⟨fun z => absurd z.2.1 (by omega), fun _ hb hs => by rw [e2.mL (by decide)]; exact hi.1 c hb hs⟩, fun s' c h1 h2 h3 hb hs' => by
      have : s' ≠ s + 1 := fun z => absurd (h3 z).2.1 (by omega)
      rw [e2.mI (by decide)]
      exact hi.2 s' c (by omega) h2 hb hs'⟩ (fun _ => ⟨slo S P rdy (s + 1), bx_first rdy (s + 1), srk_first rdy (s + 1), e3⟩)
    obtain ⟨M', k1, k2, k3, k4⟩ := ih n M2 (by omega) (by omega) g3 g4
    refine ⟨M', ?_, f1.tr (g2.tr k2), k3, k4⟩
    unfold l2_weighStates_61 b2_weighStates_61
    rw [if_neg (nI_pos (by omega)), e1, cI_some, show (0 : Int32) = nI 0 from rfl, g1, nx_pred (by omega), show s + 1 - 1 = s by omega]
    exact k1
theorem x_ws18 (hw : sWF S) (hP : pOK P) {rdy : Bool} {d : Nat} : ∀ (k i n : Nat) (M : mm_M), i + k = sprod (swd S P rdy (S 0)) 4 → k < n → vQ M d S P → (∀ c, bx S P rdy (S 0) c → srk S P rdy (S 0) c < i → mL M 34 (six S P c) = lN (wv S P rdy 0 c)) → (i < sprod (swd S P rdy (S 0)) 4 → ∃ c, bx S P rdy (S 0) c ∧ srk S P rdy (S 0) c = i ∧ vS M S P rdy (S 0) c) →
    ∃ M', l2_weighStates_18 n (rI rdy) (nI (S 0)) (nI (sprod (swd S P rdy (S 0)) 4)) (nI i) M = some (if 2 ^ 50 ≤ wv S P rdy (S 0) (fun _ => 0) then 0 else 1, M') ∧ Fr cWs M M' ∧ vQ M' d S P ∧ vI M' S P rdy 0 := by
  have hT := hw.T
  have hF := FU_big
  have hN := sprod_bd (S := S) (P := P) rdy (S 0)
  intro k
  induction k with
  | zero =>
    intro i n M hk hn hq hj _
    obtain ⟨n, rfl⟩ : ∃ m, n = m + 1 := ⟨n - 1, by omega⟩
    obtain ⟨M', e1, e2, e3, e4⟩ := x_ws61 (rdy := rdy) hw hP (S 0 - 1) FU M (by omega) (by omega) hq (by
      rw [show S 0 - 1 + 1 = S 0 by omega]
      refine ⟨fun c hb _ => ?_, fun s' c h1 h2 => by omega⟩
      rw [Nat.sub_self]
      exact hj c hb (by have := srk_lt hb; omega))
    refine ⟨M', ?_, e2, e3, e4⟩
    unfold l2_weighStates_18 b2_weighStates_18
    rw [if_pos (by rw [nx_le (by omega) (by omega)]; omega), bI_eq, nx_l1, nx_sub (by omega)]
    exact e1
  | succ k ih =>
    intro i n M hk hn hq hj hc
    obtain ⟨n, rfl⟩ : ∃ m, n = m + 1 := ⟨n - 1, by omega⟩
    obtain ⟨c, hb, hi, hv⟩ := hc (by omega)
    have hix := six_lt hb.le
    have hlk : ssum (fun b => slk S P b (c b)) 4 ≤ 800 := by
      rw [slk_sle hw]
      exact sle_bd hw P.2.2.1 P.2.2.2.2 c (Nat.le_refl (S 1))
    have f1 : Fr (fun x => x = 34) M (sL M 34 (six S P c) (lN (ssum (fun b => slk S P b (c b)) 4 * 100000 * 64))) := Fr.sL rfl
    have w1 : ∀ x, x = 34 → cWs x := fun x h => by omega
    have hq1 := hq.mv (f1.wd w1) (f1.mI (by decide) 2) (f1.mI (by decide) 0)
    have hv1 : vS _ S P rdy (S 0) c := hv.mvs f1 (by decide) (by decide) (by decide) (by decide) (by decide)
    obtain ⟨M2, e1, e2, e3, c', e4, e5⟩ := x_nextState hb hv1 hq1.2.2
    have f2 := e2.wd cNs_ws
    have hq2 := hq1.mv f2 e3 (e2.mI (by decide) 0)
    obtain ⟨M', g1, g2, g3, g4⟩ := ih (i + 1) n M2 (by omega) (by omega) hq2 (fun c1 hb1 hr1 => by
      rw [e2.mL (by decide), mL_sL]
      by_cases hs : six S P c1 = six S P c
      · rw [if_pos ⟨rfl, hs⟩]
        have hcc := six_inj hb.le hb1.le hs.symm
        rw [← wv_cg rdy 0 _ _ hcc]
        congr 1
        show _ = ssum (fun b => slk S P b (c b)) 4 * 6400000
        omega
      · rw [if_neg (fun z => hs z.2)]
        refine hj c1 hb1 ?_
        have : srk S P rdy (S 0) c1 ≠ i := fun z => by
          have := srk_inj hb hb1 (by rw [hi, z])
          apply hs
          unfold six
          exact ssum_congr 4 (fun k hk => by rw [this k hk])
        omega) (fun h => ⟨c', (e5 (by omega)).1, by rw [(e5 (by omega)).2, hi], e4⟩)
    refine ⟨M', ?_, (f1.wd w1).tr (f2.tr g2), g3, g4⟩
    unfold l2_weighStates_18 b2_weighStates_18
    rw [if_neg (by rw [nx_le (by omega) (by omega)]; omega), bI_eq, hv.2.1, x_lackHere hq.2.1 (fun b hb4 => (hv.1 b hb4).2.2.2) hb.le, cI_some, nI_l (by omega), show (100000 : Int64) = lN 100000 from rfl, show (64 : Int64) = lN 64 from rfl, lN_mul, lN_mul, uL_in hix (by omega), e1, cV_some, nx_l1, nx_add]
    exact g1
theorem x_weighStates (hw : sWF S) (hP : pOK P) (rdy : Bool) {d : Nat} {M : mm_M} (hq : vQ M d S P) : ∃ M', f2_weighStates (rI rdy) M = some (if 2 ^ 50 ≤ wv S P rdy (S 0) (fun _ => 0) then 0 else 1, M') ∧ Fr cWs M M' ∧ vQ M' d S P ∧ vI M' S P rdy 0 := by
  have hT := hw.T
  have hF := FU_big
  have hN := sprod_bd (S := S) (P := P) rdy (S 0)
  obtain ⟨M1, e1, e2, e3, e4⟩ := x_spread hw hP rdy (show S 0 ≤ 8 by omega) hq.1 hq.2.1 hq.2.2
  have f1 := e2.wd cSp_ws
  have hq1 := hq.mv f1 e4 (e2.mI (by decide) 0)
  obtain ⟨M', g1, g2, g3, g4⟩ := x_ws18 (rdy := rdy) hw hP (sprod (swd S P rdy (S 0)) 4) 0 FU M1 (by omega) (by omega) hq1 (fun c _ h => by omega) (fun _ => ⟨slo S P rdy (S 0), bx_first rdy (S 0), srk_first rdy (S 0), e3⟩)
  refine ⟨M', ?_, f1.tr g2, g3, g4⟩
  unfold f2_weighStates
  rw [bN_eq, hq.1.1, if_pos hq.1.2.1.ok, bI_eq, hq.1.2.1.T, e1, cI_some, show (0 : Int32) = nI 0 from rfl]
  exact g1
end PLAN8
