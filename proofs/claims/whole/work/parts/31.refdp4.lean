section REFDP4
variable {S : sS} {P : sP}
/-- the tables' entry of a state at a SLOT -/
def tE (M : mm_M) (S : sS) (P : sP) (s st : Nat) : Prop := mI M 54 (6561 * s + st) = nI (sdp S P (S 0 - s) (scn st)).1 ∧ mI M 55 (6561 * s + st) = nI (sdp S P (S 0 - s) (scn st)).2.1 ∧ mI M 56 (6561 * s + st) = nI (sdp S P (S 0 - s) (scn st)).2.2 ∧ (s < S 0 → mI M 57 (6561 * s + st) = nI (sarg S P (S 0 - (s + 1)) (scn st)))
abbrev cTb : Nat → Prop := fun c => c = 54 ∨ c = 55 ∨ c = 56 ∨ c = 57
theorem cTb_Dp : ∀ c, cTb c → cDp c := by
  intro c h
  rcases h with h | h | h | h
  · exact Or.inl h
  · exact Or.inr (Or.inl h)
  · exact Or.inr (Or.inr (Or.inl h))
  · exact Or.inr (Or.inr (Or.inr (Or.inl h)))
/-- only the place k of the tables has changed -/
def oth (k : Nat) (M M' : mm_M) : Prop := ∀ c, cTb c → ∀ j, j ≠ k → mI M' c j = mI M c j
theorem oth.rf {k : Nat} {M : mm_M} : oth k M M := fun _ _ _ _ => rfl
theorem oth.tr {k : Nat} {M M1 M2 : mm_M} (h1 : oth k M M1) (h2 : oth k M1 M2) : oth k M M2 := fun c hc j hj => (h2 c hc j hj).trans (h1 c hc j hj)
theorem tE.mv {M M' : mm_M} {k s st : Nat} (h : tE M S P s st) (ho : oth k M M') (hk : 6561 * s + st ≠ k) : tE M' S P s st := ⟨by rw [ho 54 (Or.inl rfl) _ hk]; exact h.1, by rw [ho 55 (Or.inr (Or.inl rfl)) _ hk]; exact h.2.1, by rw [ho 56 (Or.inr (Or.inr (Or.inl rfl))) _ hk]; exact h.2.2.1, fun hs => by rw [ho 57 (Or.inr (Or.inr (Or.inr rfl))) _ hk]; exact h.2.2.2 hs⟩
/-- the entry k holds the set t with its worth -/
def tK (M : mm_M) (S : sS) (P : sP) (r st k t : Nat) : Prop := mI M 54 k = nI (sfx S P r (scn st) t).1 ∧ mI M 55 k = nI (sfx S P r (scn st) t).2.1 ∧ mI M 56 k = nI (sfx S P r (scn st) t).2.2 ∧ mI M 57 k = nI t
theorem snx_st (hw : sWF S) {st s set : Nat} (hst : st < 6561) (hs : s < 8) (hm : smay S st s = true) (hset : set < 2 ^ S 1) : st + sadd set 4 < 6561 ∧ (∀ b, b < 4 → scn (st + sadd set 4) b = snx (scn st) set b) ∧ smay S (st + sadd set 4) (s + 1) = true := by
  have hB := hw.B
  have hm4 := (smay_iff S st s).mp hm
  have h9 : ∀ b, b < 4 → snx (scn st) set b < 9 := by
    intro b hb
    have h := hm4 b hb
    unfold smb at h
    unfold snx
    by_cases hbS : b < S 1
    · rw [if_pos hbS, decide_eq_true_eq] at h
      split <;> omega
    · rw [if_neg hbS, decide_eq_true_eq] at h
      split <;> omega
  have e : st + sadd set 4 = senc (snx (scn st) set) := by rw [senc_snx, senc_scn hst]
  rw [e]
  refine ⟨senc_lt h9, scn_senc h9, (smay_iff S _ _).mpr fun b hb => ?_⟩
  have h := hm4 b hb
  unfold smb at h ⊢
  rw [scn_senc h9 b hb]
  by_cases hbS : b < S 1
  · rw [if_pos hbS, decide_eq_true_eq] at h ⊢
    unfold snx
    split <;> omega
  · rw [if_neg hbS, decide_eq_true_eq] at h ⊢
    unfold snx
    rw [sbit_out hw.B hset hb (by omega)]
    simp [h]
theorem shl_pow : ∀ n : Fin 5, (1 <<< (nI n.1 &&& 31) : Int32) = nI (2 ^ n.1) := by decide +kernel
theorem shl_pow' {n : Nat} (h : n ≤ 4) : (1 <<< (nI n &&& 31) : Int32) = nI (2 ^ n) := shl_pow ⟨n, by omega⟩
theorem y_ls (hw : sWF S) (hP : pOK P) {st s : Nat} (hst : st < 6561) (hs : s < S 0) (hm : smay S st s = true) : ∀ (k t n : Nat) (M : mm_M) (fst : Nat), t + k = 2 ^ S 1 → k < n → vR M S P → vF M S P.2.2.1 → (∀ st', st' < 6561 → smay S st' (s + 1) = true → tE M S P (s + 1) st') →
    ((t = 0 ∧ fst = 1) ∨ (0 < t ∧ fst = 0 ∧ tK M S P (S 0 - (s + 1)) st (6561 * s + st) (sbest (sfx S P (S 0 - (s + 1)) (scn st)) (sok S P s (scn st)) t))) →
    ∃ M', l7_laysSlot_14 n (nI st) (nI s) (nI (6561 * s + st)) (nI fst) (nI t) M = some M' ∧ Fr cTb M M' ∧ oth (6561 * s + st) M M' ∧ tK M' S P (S 0 - (s + 1)) st (6561 * s + st) (sbest (sfx S P (S 0 - (s + 1)) (scn st)) (sok S P s (scn st)) (2 ^ S 1)) := by
  have hB := hw.B
  have hT := hw.T
  have h16 := two_pow_le hw.B
  have hpos := two_pow_pos (S 1)
  have hsub : S 0 - (S 0 - (s + 1) + 1) = s := by omega
  have hok0 : sok S P s (scn st) 0 = true := by
    unfold sok
    rw [Bool.and_eq_true, Bool.and_eq_true, decide_eq_true_eq, decide_eq_true_eq, decide_eq_true_eq]
    refine ⟨⟨Nat.zero_le _, fun b hb hq => ?_⟩, ?_⟩
    · have : ∀ b : Fin 4, sbit 0 b.1 = false := by decide +kernel
      rw [this ⟨b, by omega⟩] at hq
      cases hq
    · have : stk S P.2.2.1 (scn st) 0 (S 1) = 0 := by
        unfold stk
        have e : ∀ n, n ≤ 4 → ssum (fun b => if sbit 0 b = true then sgn S P.2.2.1 b (scn st b) else 0) n = 0 := by
          intro n
          induction n with
          | zero => intro _; rfl
          | succ n ih =>
            intro hn
            have h0 : ∀ b : Fin 4, sbit 0 b.1 = false := by decide +kernel
            have h1 : sbit 0 n = false := h0 ⟨n, by omega⟩
            show ssum _ n + (if sbit 0 n = true then sgn S P.2.2.1 n (scn st n) else 0) = 0
            rw [ih (by omega), h1]
            rfl
        exact e _ hB
      omega
  intro k
  induction k with
  | zero =>
    intro t n M fst hk hn hv hf htab hcur
    obtain ⟨n, rfl⟩ : ∃ m, n = m + 1 := ⟨n - 1, by omega⟩
    have ht : t = 2 ^ S 1 := by omega
    subst ht
    rcases hcur with ⟨h0, -⟩ | ⟨-, -, hcur⟩
    · omega
    · refine ⟨M, ?_, Fr.rf, oth.rf, hcur⟩
      unfold l7_laysSlot_14 b7_laysSlot_14
      rw [show ∀ e : Int32 → Option mm_M, aI 47 82 1 M e = e (nI (S 1)) from fun e => by rw [show (1 : Int32) = nI 1 from rfl, aI_in (by omega) (by omega), hv.1 1 (by omega)], shl_pow' hB]
      rw [if_pos (by rw [nx_le (by omega) (by omega)]; omega)]
  | succ k ih =>
    intro t n M fst hk hn hv hf htab hcur
    obtain ⟨n, rfl⟩ : ∃ m, n = m + 1 := ⟨n - 1, by omega⟩
    have htl : t < 2 ^ S 1 := by omega
    obtain ⟨q1, q2, q3⟩ := snx_st hw hst (by omega) hm htl
    obtain ⟨g1, g2, g3, -⟩ := htab _ q1 q3
    have hcg : sdp S P (S 0 - (s + 1)) (scn (st + sadd t 4)) = sdp S P (S 0 - (s + 1)) (snx (scn st) t) := sdp_cong P _ _ _ (fun b hb => q2 b (by omega))
    rw [hcg] at g1 g2 g3
    have hbd := sdp_bd hw P (S 0 - (s + 1)) (by omega) (snx (scn st) t)
    have hbd2 := sdp_bd hw P (S 0 - (s + 1)) (by omega)
    have hkb := stk_bd hw P.2.2.1 (scn st) t (Nat.le_refl (S 1))
    have hpr := hw.price s (by omega)
    have hmul : stk S P.2.2.1 (scn st) t (S 1) * S (6 + s) ≤ 800 * 99 := Nat.mul_le_mul hkb hpr
    have h4 := spop_le ⟨t, by omega⟩
    simp only at h4
    have hfx : sfx S P (S 0 - (s + 1)) (scn st) t = ((sdp S P (S 0 - (s + 1)) (snx (scn st) t)).1, (sdp S P (S 0 - (s + 1)) (snx (scn st) t)).2.1 + stk S P.2.2.1 (scn st) t (S 1) * S (6 + s), (sdp S P (S 0 - (s + 1)) (snx (scn st) t)).2.2 + spop t) := by
      unfold sfx
      rw [hsub]
    -- skipping the set
    have skip : sbest (sfx S P (S 0 - (s + 1)) (scn st)) (sok S P s (scn st)) (t + 1) = sbest (sfx S P (S 0 - (s + 1)) (scn st)) (sok S P s (scn st)) t → 0 < t → fst = 0 → ∃ M', l7_laysSlot_221 (l7_laysSlot_14 n) (nI st) (nI s) (nI (6561 * s + st)) (nI fst) (nI t) M = some M' ∧ Fr cTb M M' ∧ oth (6561 * s + st) M M' ∧ tK M' S P (S 0 - (s + 1)) st (6561 * s + st) (sbest (sfx S P (S 0 - (s + 1)) (scn st)) (sok S P s (scn st)) (2 ^ S 1)) := by
      intro he ht0 hf0
      rcases hcur with ⟨h0, -⟩ | ⟨-, -, hcur⟩
      · omega
      · unfold l7_laysSlot_221
        rw [nx_l1, nx_add]
        exact ih (t + 1) n M fst (by omega) (by omega) hv hf htab (Or.inr ⟨by omega, hf0, by rw [he]; exact hcur⟩)
    -- taking it
    have takes : sbest (sfx S P (S 0 - (s + 1)) (scn st)) (sok S P s (scn st)) (t + 1) = t → ∃ M', l7_laysSlot_181 (l7_laysSlot_14 n) (nI st) (nI s) (nI (6561 * s + st)) (nI t) (nI (6561 * (s + 1) + (st + sadd t 4))) (nI ((sdp S P (S 0 - (s + 1)) (snx (scn st) t)).2.1 + stk S P.2.2.1 (scn st) t (S 1) * S (6 + s))) (nI ((sdp S P (S 0 - (s + 1)) (snx (scn st) t)).2.2 + spop t)) M = some M' ∧ Fr cTb M M' ∧ oth (6561 * s + st) M M' ∧ tK M' S P (S 0 - (s + 1)) st (6561 * s + st) (sbest (sfx S P (S 0 - (s + 1)) (scn st)) (sok S P s (scn st)) (2 ^ S 1)) := by
      intro he
      let M4 := sI (sI (sI (sI M 54 (6561 * s + st) (nI (sdp S P (S 0 - (s + 1)) (snx (scn st) t)).1)) 55 (6561 * s + st) (nI ((sdp S P (S 0 - (s + 1)) (snx (scn st) t)).2.1 + stk S P.2.2.1 (scn st) t (S 1) * S (6 + s)))) 56 (6561 * s + st) (nI ((sdp S P (S 0 - (s + 1)) (snx (scn st) t)).2.2 + spop t))) 57 (6561 * s + st) (nI t)
      have f4 : Fr cTb M M4 := (((Fr.sI (Or.inl rfl)).tr (Fr.sI (Or.inr (Or.inl rfl)))).tr (Fr.sI (Or.inr (Or.inr (Or.inl rfl))))).tr (Fr.sI (Or.inr (Or.inr (Or.inr rfl))))
      have o4 : oth (6561 * s + st) M M4 := by
        intro c hc j hj
        show mI (sI (sI (sI (sI M 54 _ _) 55 _ _) 56 _ _) 57 _ _) c j = _
        rw [mI_sI, if_neg (fun z => hj z.2), mI_sI, if_neg (fun z => hj z.2), mI_sI, if_neg (fun z => hj z.2), mI_sI, if_neg (fun z => hj z.2)]
      have k4 : tK M4 S P (S 0 - (s + 1)) st (6561 * s + st) t := by
        unfold tK
        rw [hfx]
        refine ⟨?_, ?_, ?_, mI_sI_eq _ _ _ _⟩
        · show mI (sI (sI (sI (sI M 54 _ _) 55 _ _) 56 _ _) 57 _ _) 54 _ = _
          rw [mI_sI_c _ _ _ _ (by decide), mI_sI_c _ _ _ _ (by decide), mI_sI_c _ _ _ _ (by decide), mI_sI_eq]
        · show mI (sI (sI (sI (sI M 54 _ _) 55 _ _) 56 _ _) 57 _ _) 55 _ = _
          rw [mI_sI_c _ _ _ _ (by decide), mI_sI_c _ _ _ _ (by decide), mI_sI_eq]
        · show mI (sI (sI (sI (sI M 54 _ _) 55 _ _) 56 _ _) 57 _ _) 56 _ = _
          rw [mI_sI_c _ _ _ _ (by decide), mI_sI_eq]
      obtain ⟨M', e1, e2, e3, e4⟩ := ih (t + 1) n M4 0 (by omega) (by omega) (hv.mv (f4.wd cTb_Dp)) (fun b c hb hc => by rw [f4.mI (by decide)]; exact hf b c hb hc) (fun st' h1 h2 => (htab st' h1 h2).mv o4 (by omega)) (Or.inr ⟨by omega, rfl, by rw [he]; exact k4⟩)
      refine ⟨M', ?_, f4.tr e2, o4.tr e3, e4⟩
      unfold l7_laysSlot_181 l7_laysSlot_221
      rw [aI_in (by omega) (by omega), g1, uI_in (by omega) (by omega), uI_in (by omega) (by omega), uI_in (by omega) (by omega), uI_in (by omega) (by omega), nx_l1, nx_add, show (0 : Int32) = nI 0 from rfl]
      exact e1
    unfold l7_laysSlot_14 b7_laysSlot_14
    rw [show (6 : Int32) = nI 6 from rfl, show (6561 : Int32) = nI 6561 from rfl]
    simp only [nx_add]
    rw [show ∀ e : Int32 → Option mm_M, aI 47 82 1 M e = e (nI (S 1)) from fun e => by rw [show (1 : Int32) = nI 1 from rfl, aI_in (by omega) (by omega), hv.1 1 (by omega)], shl_pow' hB]
    rw [if_neg (by rw [nx_le (by omega) (by omega)]; omega), y_taken hw hP hst (by omega) hm htl hv hf, cI_some]
    by_cases hso : sok S P s (scn st) t = true
    · rw [if_pos hso, if_pos (by rw [show (0 : Int32) = nI 0 from rfl, nx_le (by omega) (by omega)]; omega), y_behind hw htl hv.1 hv.2.2.2.2.2.2, cI_some, bI_eq]
      rw [show (1 : Int32) = nI 1 from rfl]
      simp only [nx_add, nx_mul]
      rw [aI_in (by omega) (by omega), g2, aI_in (by omega) (by omega), hv.1 _ (by omega)]
      simp only [nx_add, nx_mul]
      rw [bI_eq, aI_in (by omega) (by omega), g3, y_bits (by omega), cI_some]
      simp only [nx_add]
      rw [bI_eq]
      rcases hcur with ⟨h0, hf1⟩ | ⟨h0, hf0, hcur⟩
      · -- the first set: taken whatever the entry holds
        subst h0; subst hf1
        have he : sbest (sfx S P (S 0 - (s + 1)) (scn st)) (sok S P s (scn st)) (0 + 1) = 0 := by
          show (if _ then 0 else 0) = 0
          split <;> rfl
        have key := takes he
        obtain ⟨M', e1, e2⟩ := key
        refine ⟨M', ?_, e2⟩
        unfold l7_laysSlot_164 l7_laysSlot_168 l7_laysSlot_169
        rw [if_neg (show ¬ nI 1 = 0 by decide), if_neg (show ¬ nI 1 = 0 by decide), e1]
        rw [aI_in (by omega) (by omega), aI_in (by omega) (by omega)]
        split
        · rfl
        · rw [aI_in (by omega) (by omega), aI_in (by omega) (by omega)]
          split
          · rw [aI_in (by omega) (by omega)]
            split
            · rfl
            · rw [aI_in (by omega) (by omega)]
              split
              · rw [aI_in (by omega) (by omega)]
                split <;> rfl
              · rfl
          · rfl
      · subst hf0
        have hbl := sbest_lt (sfx S P (S 0 - (s + 1)) (scn st)) (sok S P s (scn st)) t h0
        have hgen : sbest (sfx S P (S 0 - (s + 1)) (scn st)) (sok S P s (scn st)) (t + 1) = if sok S P s (scn st) t = true ∧ slt3 (sfx S P (S 0 - (s + 1)) (scn st) t) (sfx S P (S 0 - (s + 1)) (scn st) (sbest (sfx S P (S 0 - (s + 1)) (scn st)) (sok S P s (scn st)) t)) = true then t else sbest (sfx S P (S 0 - (s + 1)) (scn st)) (sok S P s (scn st)) t := rfl
        obtain ⟨k1, k2, k3, -⟩ := hcur
        have hcb : (sfx S P (S 0 - (s + 1)) (scn st) (sbest (sfx S P (S 0 - (s + 1)) (scn st)) (sok S P s (scn st)) t)).1 ≤ 800 ∧ (sfx S P (S 0 - (s + 1)) (scn st) (sbest (sfx S P (S 0 - (s + 1)) (scn st)) (sok S P s (scn st)) t)).2.1 ≤ 800000 ∧ (sfx S P (S 0 - (s + 1)) (scn st) (sbest (sfx S P (S 0 - (s + 1)) (scn st)) (sok S P s (scn st)) t)).2.2 ≤ 100 := by
          generalize sbest (sfx S P (S 0 - (s + 1)) (scn st)) (sok S P s (scn st)) t = u at hbl
          have b1 := hbd2 (snx (scn st) u)
          have b2 := stk_bd hw P.2.2.1 (scn st) u (Nat.le_refl (S 1))
          have b3 : stk S P.2.2.1 (scn st) u (S 1) * S (6 + s) ≤ 800 * 99 := Nat.mul_le_mul b2 hpr
          have b4 := spop_le ⟨u, by omega⟩
          simp only at b4
          unfold sfx
          rw [hsub]
          refine ⟨b1.1, ?_, ?_⟩
          · show _ + _ ≤ _
            omega
          · show _ + _ ≤ _
            omega
        generalize hcv : sfx S P (S 0 - (s + 1)) (scn st) (sbest (sfx S P (S 0 - (s + 1)) (scn st)) (sok S P s (scn st)) t) = cv at hgen k1 k2 k3 hcb
        have hyes : slt3 (sfx S P (S 0 - (s + 1)) (scn st) t) cv = true → sbest (sfx S P (S 0 - (s + 1)) (scn st)) (sok S P s (scn st)) (t + 1) = t := fun h => by rw [hgen, if_pos ⟨hso, h⟩]
        have hno : slt3 (sfx S P (S 0 - (s + 1)) (scn st) t) cv = false → sbest (sfx S P (S 0 - (s + 1)) (scn st)) (sok S P s (scn st)) (t + 1) = sbest (sfx S P (S 0 - (s + 1)) (scn st)) (sok S P s (scn st)) t := fun h => by rw [hgen, if_neg (fun z => by rw [h] at z; cases z.2)]
        rw [hfx] at hyes hno
        unfold l7_laysSlot_164 l7_laysSlot_168 l7_laysSlot_169
        rw [if_pos (show nI 0 = 0 from rfl), if_pos (show nI 0 = 0 from rfl), if_neg (show ¬ ((1 : Int32) = 0) by decide), if_pos (show (0 : Int32) = 0 from rfl)]
        rw [aI_in (by omega) (by omega), aI_in (by omega) (by omega), g1, k1]
        simp only [nx_lt (show (sdp S P (S 0 - (s + 1)) (snx (scn st) t)).1 < 2 ^ 31 by omega) (show cv.1 < 2 ^ 31 by omega), nx_eq (show (sdp S P (S 0 - (s + 1)) (snx (scn st) t)).1 < 2 ^ 31 by omega) (show cv.1 < 2 ^ 31 by omega)]
        by_cases c1 : (sdp S P (S 0 - (s + 1)) (snx (scn st) t)).1 < cv.1
        · rw [if_pos c1]
          exact takes (hyes (by simp [slt3, c1]))
        · rw [if_neg c1, aI_in (by omega) (by omega), aI_in (by omega) (by omega), g1, k1]
          simp only [nx_eq (show (sdp S P (S 0 - (s + 1)) (snx (scn st) t)).1 < 2 ^ 31 by omega) (show cv.1 < 2 ^ 31 by omega)]
          by_cases c2 : (sdp S P (S 0 - (s + 1)) (snx (scn st) t)).1 = cv.1
          · rw [if_pos c2, aI_in (by omega) (by omega), k2]
            simp only [nx_lt (show (sdp S P (S 0 - (s + 1)) (snx (scn st) t)).2.1 + stk S P.2.2.1 (scn st) t (S 1) * S (6 + s) < 2 ^ 31 by omega) (show cv.2.1 < 2 ^ 31 by omega)]
            by_cases c3 : (sdp S P (S 0 - (s + 1)) (snx (scn st) t)).2.1 + stk S P.2.2.1 (scn st) t (S 1) * S (6 + s) < cv.2.1
            · rw [if_pos c3]
              exact takes (hyes (by simp [slt3, c2, c3]))
            · rw [if_neg c3, aI_in (by omega) (by omega), k2]
              simp only [nx_eq (show (sdp S P (S 0 - (s + 1)) (snx (scn st) t)).2.1 + stk S P.2.2.1 (scn st) t (S 1) * S (6 + s) < 2 ^ 31 by omega) (show cv.2.1 < 2 ^ 31 by omega)]
              by_cases c4 : (sdp S P (S 0 - (s + 1)) (snx (scn st) t)).2.1 + stk S P.2.2.1 (scn st) t (S 1) * S (6 + s) = cv.2.1
              · rw [if_pos c4, aI_in (by omega) (by omega), k3]
                simp only [nx_le (show cv.2.2 < 2 ^ 31 by omega) (show (sdp S P (S 0 - (s + 1)) (snx (scn st) t)).2.2 + spop t < 2 ^ 31 by omega)]
                by_cases c5 : cv.2.2 ≤ (sdp S P (S 0 - (s + 1)) (snx (scn st) t)).2.2 + spop t
                · rw [if_pos c5]
                  exact skip (hno (by simp [slt3, c2, c4]; omega)) h0 rfl
                · rw [if_neg c5]
                  exact takes (hyes (by simp [slt3, c2, c4]; omega))
              · rw [if_neg c4]
                exact skip (hno (by simp [slt3, c2, c3, c4])) h0 rfl
          · rw [if_neg c2]
            exact skip (hno (by simp [slt3, c1, c2])) h0 rfl
    · rw [if_neg hso, if_neg (by decide)]
      have ht0 : 0 < t := by
        rcases Nat.eq_zero_or_pos t with h | h
        · subst h; exact absurd hok0 hso
        · exact h
      have hf0 : fst = 0 := by
        rcases hcur with ⟨h, -⟩ | ⟨-, h, -⟩
        · omega
        · exact h
      exact skip (by
        show (if _ then _ else _) = _
        rw [if_neg (fun z => hso z.1)]) ht0 hf0
end REFDP4
