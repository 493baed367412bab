/-! BEST hangs on nothing but what it looks at -/
def sAl (S S' : sS) (P P' : sP) : Prop := S 0 = S' 0 ∧ S 1 = S' 1 ∧ (∀ s, s < 8 → S (6 + s) = S' (6 + s)) ∧ (∀ b, b < S 1 → slev S b = slev S' b ∧ sneed S b = sneed S' b ∧ sgo S b = sgo S' b ∧ P.1 b = P'.1 b) ∧ (∀ b lev, b < S 1 → sgain S P.2.2.1 b lev = sgain S' P'.2.2.1 b lev) ∧ P.2.1 = P'.2.1 ∧ P.2.2.2.1 = P'.2.2.2.1 ∧ P.2.2.2.2 = P'.2.2.2.2
section ALIKE
variable {S S' : sS} {P P' : sP}
theorem al_full (h : sAl S S' P P') {b : Nat} (hb : b < S 1) : ∀ c, sfull S P.2.2.1 b c = sfull S' P'.2.2.1 b c
  | 0 => (h.2.2.2.1 b hb).1
  | c + 1 => by
    show sfull S P.2.2.1 b c + sgain S P.2.2.1 b (sfull S P.2.2.1 b c) = sfull S' P'.2.2.1 b c + sgain S' P'.2.2.1 b (sfull S' P'.2.2.1 b c)
    rw [al_full h hb c, h.2.2.2.2.1 b _ hb]
theorem al_gn (h : sAl S S' P P') {b : Nat} (hb : b < S 1) (c : Nat) : sgn S P.2.2.1 b c = sgn S' P'.2.2.1 b c := by
  unfold sgn
  rw [al_full h hb c, h.2.2.2.2.1 b _ hb]
theorem al_stk (h : sAl S S' P P') (c : Nat → Nat) (m : Nat) : stk S P.2.2.1 c m (S 1) = stk S' P'.2.2.1 c m (S' 1) := by
  rw [← h.2.1]
  unfold stk
  exact ssum_congr _ (fun k hk => by rw [al_gn h hk])
theorem al_ok (h : sAl S S' P P') (s : Nat) (c : Nat → Nat) : sok S P s c = sok S' P' s c := by
  funext m
  rw [Bool.eq_iff_iff, sok_iff, sok_iff, al_stk h, h.2.2.2.2.2.1, h.2.2.2.2.2.2.1, h.2.2.2.2.2.2.2, ← h.2.1]
  constructor
  · rintro ⟨h1, h2, h3⟩
    exact ⟨h1, fun b hb hm => by rw [← (h.2.2.2.1 b hb).2.2.1, ← (h.2.2.2.1 b hb).2.2.2]; exact h2 b hb hm, h3⟩
  · rintro ⟨h1, h2, h3⟩
    exact ⟨h1, fun b hb hm => by rw [(h.2.2.2.1 b hb).2.2.1, (h.2.2.2.1 b hb).2.2.2]; exact h2 b hb hm, h3⟩
theorem al_dp (h : sAl S S' P P') (hT : S 0 ≤ 8) : ∀ r, r ≤ S 0 → ∀ c, sdp S P r c = sdp S' P' r c
  | 0, _, c => by
    show (sle S _ _ c, 0, 0) = (sle S' _ _ c, 0, 0)
    unfold sle
    rw [← h.2.1, h.2.2.2.2.2.2.2, ssum_congr _ (fun k hk => by rw [al_full h hk, (h.2.2.2.1 k hk).2.1])]
  | r + 1, hr, c => by
    have IH := al_dp h hT r (by omega)
    have hf : sfx S P r c = sfx S' P' r c := by
      funext m
      unfold sfx
      rw [IH, al_stk h, ← h.1, h.2.2.1 _ (by omega)]
    rw [sdp_succ, sdp_succ]
    unfold sarg
    rw [hf, ← h.1, al_ok h, ← h.2.1]
theorem al_arg (h : sAl S S' P P') (hT : S 0 ≤ 8) {r : Nat} (hr : r + 1 ≤ S 0) (c : Nat → Nat) : sarg S P r c = sarg S' P' r c := by
  have IH := al_dp h hT r (by omega)
  have hf : sfx S P r c = sfx S' P' r c := by
    funext m
    unfold sfx
    rw [IH, al_stk h, ← h.1, h.2.2.1 _ (by omega)]
  unfold sarg
  rw [hf, ← h.1, al_ok h, ← h.2.1]
theorem al_cnt (h : sAl S S' P P') (hT : S 0 ≤ 8) : ∀ s, s ≤ S 0 → scnt S P s = scnt S' P' s
  | 0, _ => rfl
  | s + 1, hs => by
    show snx (scnt S P s) (sarg S P (S 0 - (s + 1)) (scnt S P s)) = snx (scnt S' P' s) (sarg S' P' (S' 0 - (s + 1)) (scnt S' P' s))
    rw [al_cnt h hT s (by omega), ← h.1, al_arg h hT (by omega)]
theorem al_bpl (h : sAl S S' P P') (hT : S 0 ≤ 8) (s : Nat) : sbpl S P s = sbpl S' P' s := by
  unfold sbpl
  rw [← h.1]
  by_cases hs : s < S 0
  · rw [if_pos hs, if_pos hs, al_cnt h hT s (by omega), al_arg h hT (by omega)]
  · rw [if_neg hs, if_neg hs]
theorem al_cn2 (h : sAl S S' P P') (hT : S 0 ≤ 8) : scn2 S P = scn2 S' P' := by
  unfold scn2
  rw [← h.1, al_dp h hT (S 0) (Nat.le_refl _)]
-- the first 74 alike
theorem spick_cg (h : ∀ j, j < 74 → S j = S' j) {c : Nat} (hc : c < 4) (cap lev : Nat) : ∀ k, k ≤ 4 → spick S c cap lev k = spick S' c cap lev k
  | 0, _ => rfl
  | k + 1, hk => by
    show (if S (14 + 9 * c + 1 + 2 * (k + 1)) * cap ≤ lev * 100 then k + 1 else spick S c cap lev k) = (if S' (14 + 9 * c + 1 + 2 * (k + 1)) * cap ≤ lev * 100 then k + 1 else spick S' c cap lev k)
    rw [h _ (by omega), spick_cg h hc cap lev k (by omega)]
theorem sgain_cg (hw : sWF S) (h : ∀ j, j < 74 → S j = S' j) {b : Nat} (hb : b < S 1) (pow lev : Nat) : sgain S pow b lev = sgain S' pow b lev := by
  have hB := hw.B
  have hC := hw.C
  have hb1 := (hw.bus b hb).1
  have hp := (hw.crv _ hb1).1
  have hk := spick_le S (S (50 + 6 * b)) (scap S b) lev (S (14 + 9 * S (50 + 6 * b)) - 1)
  have e1 : scap S b = scap S' b := h _ (by omega)
  have e2 : S (50 + 6 * b) = S' (50 + 6 * b) := h _ (by omega)
  have e3 : S (14 + 9 * S (50 + 6 * b)) = S' (14 + 9 * S (50 + 6 * b)) := h _ (by omega)
  unfold sgain srate
  rw [← e1, ← e2, ← e3, ← spick_cg h (by omega) (scap S b) lev _ (by omega), h (14 + 9 * S (50 + 6 * b) + 2 + 2 * spick S (S (50 + 6 * b)) (scap S b) lev (S (14 + 9 * S (50 + 6 * b)) - 1)) (by omega)]
theorem al_plan (hw : sWF S) (h : ∀ j, j < 74 → S j = S' j) : sAl S S' (sP0 S) (sP0 S') := by
  have hB := hw.B
  refine ⟨h 0 (by omega), h 1 (by omega), fun s hs => h _ (by omega), fun b hb => ⟨h _ (by omega), h _ (by omega), h _ (by omega), h _ (by omega)⟩, fun b lev hb => ?_, h 3 (by omega), h 5 (by omega), ?_⟩
  · show sgain S (S 4) b lev = sgain S' (S' 4) b lev
    rw [← h 4 (by omega)]
    exact sgain_cg hw h hb _ _
  · show 2 ^ S 1 - 1 = 2 ^ S' 1 - 1
    rw [h 1 (by omega)]
end ALIKE
-- what helps: fewer bounds
section MONO
variable {S : sS} {P P' : sP}
/-- with a later coming, or a lower LIMIT, nothing gets better -/
def sEas (S : sS) (P P' : sP) : Prop := (∀ b, b < S 1 → P'.1 b ≤ P.1 b) ∧ P.2.1 = P'.2.1 ∧ P.2.2.1 = P'.2.2.1 ∧ P.2.2.2.1 ≤ P'.2.2.2.1 ∧ P.2.2.2.2 = P'.2.2.2.2
theorem eas_lack (hw : sWF S) (h : sEas S P P') : ∀ r, r ≤ S 0 → ∀ c, (sdp S P r c).1 = 0 → (sdp S P' r c).1 = 0
  | 0, _, c, h0 => by
    have e : (sdp S P' 0 c).1 = sle S P'.2.2.1 P'.2.2.2.2 c := rfl
    have e0 : (sdp S P 0 c).1 = sle S P.2.2.1 P.2.2.2.2 c := rfl
    rw [e0] at h0
    rw [e, ← h.2.2.1, ← h.2.2.2.2]
    exact h0
  | r + 1, hr, c, h0 => by
    have ok := sok2_iff.mp (sok2_sarg (P := P) hw hr c)
    rw [sdp_succ] at h0
    generalize sarg S P r c = m at ok h0
    have h1 : (sdp S P r (snx c m)).1 = 0 := h0
    have h2 := eas_lack hw h r (by omega) _ h1
    have ok' : sok2 S P' r c m = true := by
      rw [sok2_iff]
      refine ⟨ok.1, by rw [← h.2.1]; exact ok.2.1, fun b hb hm => ?_, ?_⟩
      · obtain ⟨q1, q2⟩ := ok.2.2.1 b hb hm
        refine ⟨by rw [← h.2.2.2.2]; exact q1, ?_⟩
        have := h.1 b hb
        unfold sthere at q2 ⊢
        rw [Bool.and_eq_true, decide_eq_true_eq, decide_eq_true_eq] at q2 ⊢
        omega
      · rw [← h.2.2.1]
        have := h.2.2.2.1
        have := ok.2.2.2
        omega
    have hI := (sarg_iB (P := P') hw hr c).2.1 m ok'
    have h16 := two_pow_le hw.B
    have h3 := (sfx_lack (P := P') hw hr c (show m < 16 by have := ok.1; omega)).mpr ((sE_lack hw (by omega) _).mpr h2)
    have h4 : enc3 (sfx S P' r c (sarg S P' r c)) ≤ enc3 (sfx S P' r c m) := hI
    rw [← sE_lack hw hr, sE_succ]
    omega
theorem cn2_pos (hw : sWF S) (P : sP) : ((sdp S P (S 0) (fun _ => 0)).1 = 0 → ∃ n, n < 2 ^ 31 ∧ scn2 S P = nI n) ∧ (¬ (sdp S P (S 0) (fun _ => 0)).1 = 0 → scn2 S P = -2) := by
  have hT := hw.T
  have hb := sdp_bd hw P (S 0) (Nat.le_refl _) (fun _ => 0)
  constructor
  · intro h
    refine ⟨(sdp S P (S 0) (fun _ => 0)).2.1, by omega, ?_⟩
    unfold scn2
    rw [if_neg (by omega)]
  · intro h
    unfold scn2
    rw [if_pos (by omega)]
theorem cn2_neg (hw : sWF S) (P : sP) : (scn2 S P < 0) = ¬ (sdp S P (S 0) (fun _ => 0)).1 = 0 := by
  apply propext
  obtain ⟨h1, h2⟩ := cn2_pos hw P
  constructor
  · intro h z
    obtain ⟨n, hn, e⟩ := h1 z
    rw [e] at h
    exact nI_pos hn h
  · intro h
    rw [h2 h]
    decide
theorem cn2_m2 (hw : sWF S) (P : sP) : (scn2 S P = -2) = ¬ (sdp S P (S 0) (fun _ => 0)).1 = 0 := by
  apply propext
  obtain ⟨h1, h2⟩ := cn2_pos hw P
  constructor
  · intro h z
    obtain ⟨n, hn, e⟩ := h1 z
    rw [e] at h
    have := nI_pos hn
    rw [h] at this
    exact this (by decide)
  · intro h
    exact h2 h
end MONO
