section BEST2
variable {S : sS} {P : sP}
/-- LACK that can't be helped -/
theorem sle_pos {c : Nat → Nat} {b : Nat} (hs : sw S P b = true) (h : sfull S P.2.2.1 b (c b) < sneed S b) : 1 ≤ sle S P.2.2.1 P.2.2.2.2 c := by
  have hb := sw_lt hs
  have hbit : sbit P.2.2.2.2 b = true := by
    unfold sw at hs
    rw [Bool.and_eq_true] at hs
    exact hs.2
  have := ssum_ge (f := fun b => if sbit P.2.2.2.2 b = true then sneed S b - sfull S P.2.2.1 b (c b) else 0) (S 1) b hb
  simp only [hbit, if_true] at this
  unfold sle
  omega
theorem sok2_sarg (hw : sWF S) {r : Nat} (hr : r + 1 ≤ S 0) (c : Nat → Nat) : sok2 S P r c (sarg S P r c) = true := (sarg_iB hw hr c).1
theorem sst_sw {b : Nat} (h : sw S P b = true) : sst S P b = sgo S b - P.1 b := by unfold sst; rw [if_pos h]
theorem sgo_le (hw : sWF S) {b : Nat} (h : b < S 1) : sgo S b ≤ S 0 := (hw.bus b h).2.2.2.2.2
theorem lack_bh (hw : sWF S) {b : Nat} (hs : sw S P b = true) : ∀ r, r ≤ S 0 → ∀ c, sfull S P.2.2.1 b (c b + sbh S P b (S 0 - r)) < sneed S b → 1 ≤ (sdp S P r c).1
  | 0, _, c, h => by
    show 1 ≤ sle S _ _ c
    apply sle_pos hs
    have hg := sgo_le hw (sw_lt hs)
    have : sbh S P b (S 0 - 0) = 0 := by
      unfold sbh sbf
      rw [sst_sw hs]
      omega
    rw [this] at h
    exact h
  | r + 1, hr, c, h => by
    rw [sdp_succ]
    have ok := sok2_iff.mp (sok2_sarg (P := P) hw hr c)
    generalize sarg S P r c = m at ok
    show 1 ≤ (sdp S P r (snx c m)).1
    apply lack_bh hw hs r (by omega)
    refine Nat.lt_of_le_of_lt ?_ h
    have hst := sst_sw hs
    have hk : snx c m b + sbh S P b (S 0 - r) ≤ c b + sbh S P b (S 0 - (r + 1)) := by
      unfold sbh sbf
      rw [hst]
      by_cases hm : sbit m b = true
      · rw [show snx c m b = c b + 1 from if_pos hm]
        have h1 := (ok.2.2.1 b (sw_lt hs) hm).2
        unfold sthere at h1
        rw [Bool.and_eq_true, decide_eq_true_eq, decide_eq_true_eq] at h1
        omega
      · rw [show snx c m b = c b from if_neg hm]
        omega
    have := sfull_mono (S := S) P.2.2.1 b (c b + sbh S P b (S 0 - (r + 1)) - (snx c m b + sbh S P b (S 0 - r))) (snx c m b + sbh S P b (S 0 - r))
    rw [show snx c m b + sbh S P b (S 0 - r) + (c b + sbh S P b (S 0 - (r + 1)) - (snx c m b + sbh S P b (S 0 - r))) = c b + sbh S P b (S 0 - (r + 1)) by omega] at this
    exact this
theorem spop_sum : ∀ m : Fin 16, ssum (fun b => if sbit m.1 b = true then 1 else 0) 4 = spop m.1 := by decide +kernel
theorem ssum_add {f g : Nat → Nat} : ∀ n, ssum (fun k => f k + g k) n = ssum f n + ssum g n
  | 0 => rfl
  | n + 1 => by
    show ssum (fun k => f k + g k) n + (f n + g n) = ssum f n + f n + (ssum g n + g n)
    rw [ssum_add n]
    omega
/-- too few PLUGS -/
theorem lack_plug (hw : sWF S) : ∀ r, r ≤ S 0 → ∀ c, P.2.1 * r < ssum (fun b => smt S P b - c b) 4 → 1 ≤ (sdp S P r c).1
  | 0, _, c, h => by
    show 1 ≤ sle S _ _ c
    have : ∃ b, b < 4 ∧ smt S P b - c b ≠ 0 := by
      apply Classical.byContradiction
      intro hn
      have : ssum (fun b => smt S P b - c b) 4 = 0 := (ssum_zero 4).mpr (fun k hk => Classical.byContradiction (fun q => hn ⟨k, hk, q⟩))
      omega
    obtain ⟨b, _, hb⟩ := this
    have := (smt_spec S P b).2.2.1 (c b) (by omega)
    exact sle_pos this.1 this.2
  | r + 1, hr, c, h => by
    rw [sdp_succ]
    have ok := sok2_iff.mp (sok2_sarg (P := P) hw hr c)
    generalize sarg S P r c = m at ok
    show 1 ≤ (sdp S P r (snx c m)).1
    apply lack_plug hw r (by omega)
    have h16 := two_pow_le hw.B
    have hp := spop_sum ⟨m, by omega⟩
    simp only at hp
    have h1 : ssum (fun b => smt S P b - c b) 4 ≤ ssum (fun b => (smt S P b - snx c m b) + (if sbit m b = true then 1 else 0)) 4 := by
      apply ssum_mono
      intro k hk
      unfold snx
      split <;> omega
    rw [ssum_add, hp] at h1
    have : P.2.1 * (r + 1) = P.2.1 * r + P.2.1 := Nat.mul_succ _ _
    omega
def srem (S : sS) (P : sP) (b c : Nat) : Nat := ssum (fun k => if c ≤ k then sgn S P.2.2.1 b k else 0) (smt S P b)
theorem srem_step (b c : Nat) (h : c < smt S P b) : srem S P b c = srem S P b (c + 1) + sgn S P.2.2.1 b c := by
  have key : ∀ n, ssum (fun k => if c ≤ k then sgn S P.2.2.1 b k else 0) n = ssum (fun k => if c + 1 ≤ k then sgn S P.2.2.1 b k else 0) n + (if c < n then sgn S P.2.2.1 b c else 0) := by
    intro n
    induction n with
    | zero => rfl
    | succ n ih =>
      show ssum _ n + (if c ≤ n then sgn S P.2.2.1 b n else 0) = ssum _ n + (if c + 1 ≤ n then sgn S P.2.2.1 b n else 0) + _
      rw [ih]
      by_cases h1 : c = n
      · subst h1
        rw [if_neg (show ¬ c < c by omega), if_pos (Nat.le_refl c), if_neg (show ¬ c + 1 ≤ c by omega), if_pos (show c < c + 1 by omega)]
      · by_cases h2 : c < n
        · rw [if_pos h2, if_pos (show c ≤ n by omega), if_pos (show c + 1 ≤ n by omega), if_pos (show c < n + 1 by omega)]; omega
        · rw [if_neg h2, if_neg (show ¬ c ≤ n by omega), if_neg (show ¬ c + 1 ≤ n by omega), if_neg (show ¬ c < n + 1 by omega)]
  unfold srem
  rw [key, if_pos h]
theorem srem_zero (b c : Nat) (h : smt S P b ≤ c) : srem S P b c = 0 := by
  unfold srem
  exact (ssum_zero _).mpr (fun k hk => if_neg (by omega))
theorem srem_all (b : Nat) : srem S P b 0 = ssum (fun c => sgn S P.2.2.1 b c) (smt S P b) := by
  unfold srem
  apply ssum_congr
  intro k hk
  exact if_pos (Nat.zero_le _)
theorem sbit_top {m b : Nat} (hw : sWF S) (hm : m < 2 ^ S 1) (hb : b < 4) (h : sbit m b = true) : b < S 1 := by
  apply Nat.lt_of_not_le
  intro q
  rw [sbit_out hw.B hm hb q] at h
  cases h
theorem stk_4 (hw : sWF S) {m : Nat} (hm : m < 2 ^ S 1) (pow : Nat) (c : Nat → Nat) : stk S pow c m 4 = stk S pow c m (S 1) := by
  have hB := hw.B
  have key : ∀ k, S 1 + k ≤ 4 → stk S pow c m (S 1 + k) = stk S pow c m (S 1) := by
    intro k
    induction k with
    | zero => intro _; rfl
    | succ k ih =>
      intro h
      show stk S pow c m (S 1 + k) + (if sbit m (S 1 + k) = true then sgn S pow (S 1 + k) (c (S 1 + k)) else 0) = _
      rw [ih (by omega), sbit_out hB hm (by omega) (by omega)]
      rfl
  have := key (4 - S 1) (by omega)
  rw [show S 1 + (4 - S 1) = 4 by omega] at this
  exact this
/-- too low a LIMIT -/
theorem lack_lim (hw : sWF S) : ∀ r, r ≤ S 0 → ∀ c, P.2.2.2.1 * r < ssum (fun b => srem S P b (c b)) 4 → 1 ≤ (sdp S P r c).1
  | 0, _, c, h => by
    show 1 ≤ sle S _ _ c
    have : ∃ b, b < 4 ∧ c b < smt S P b := by
      apply Classical.byContradiction
      intro hn
      have : ssum (fun b => srem S P b (c b)) 4 = 0 := (ssum_zero 4).mpr (fun k hk => srem_zero k _ (Nat.le_of_not_lt (fun q => hn ⟨k, hk, q⟩)))
      omega
    obtain ⟨b, _, hb⟩ := this
    have := (smt_spec S P b).2.2.1 (c b) hb
    exact sle_pos this.1 this.2
  | r + 1, hr, c, h => by
    rw [sdp_succ]
    have ok := sok2_iff.mp (sok2_sarg (P := P) hw hr c)
    generalize sarg S P r c = m at ok
    show 1 ≤ (sdp S P r (snx c m)).1
    apply lack_lim hw r (by omega)
    have h1 : ssum (fun b => srem S P b (c b)) 4 ≤ ssum (fun b => srem S P b (snx c m b) + (if sbit m b = true then sgn S P.2.2.1 b (c b) else 0)) 4 := by
      apply ssum_mono
      intro k hk
      unfold snx
      by_cases hb : sbit m k = true
      · rw [if_pos hb, if_pos hb]
        by_cases hc : c k < smt S P k
        · rw [srem_step k (c k) hc]; exact Nat.le_refl _
        · rw [srem_zero k (c k) (by omega)]; exact Nat.zero_le _
      · rw [if_neg hb, if_neg hb]; exact Nat.le_refl _
    rw [ssum_add] at h1
    have h2 : ssum (fun b => if sbit m b = true then sgn S P.2.2.1 b (c b) else 0) 4 ≤ P.2.2.2.1 := by
      have := stk_4 hw ok.1 P.2.2.1 c
      unfold stk at this
      rw [this]
      exact ok.2.2.2
    have : P.2.2.2.1 * (r + 1) = P.2.2.2.1 * r + P.2.2.2.1 := Nat.mul_succ _ _
    omega
theorem sst_le8 (hw : sWF S) (b : Nat) : sst S P b ≤ 8 := by
  unfold sst
  by_cases h : sw S P b = true
  · rw [if_pos h]
    have := (hw.bus b (sw_lt h)).2.2.2.2.2
    have hT := hw.T
    unfold sgo
    omega
  · rw [if_neg h]; omega
/-- what mayBeReady finds -/
theorem smr_lack (hw : sWF S) (h : smr S P = false) : 1 ≤ (sdp S P (S 0) (fun _ => 0)).1 := by
  by_cases h1 : ssum (fun b => slk S P b (smt S P b)) 4 = 0
  · by_cases h2 : ssum (smt S P) 4 ≤ P.2.1 * S 0
    · have h3 : ¬ ssum (fun b => ssum (fun c => sgn S P.2.2.1 b c) (smt S P b)) 4 ≤ P.2.2.2.1 * S 0 := by
        intro h3
        unfold smr at h
        rw [decide_eq_true h1, decide_eq_true h2, decide_eq_true h3] at h
        cases h
      apply lack_lim hw (S 0) (Nat.le_refl _)
      rw [ssum_congr (g := fun b => ssum (fun c => sgn S P.2.2.1 b c) (smt S P b)) 4 (fun k _ => srem_all k)]
      omega
    · apply lack_plug hw (S 0) (Nat.le_refl _)
      show _ < ssum (fun b => smt S P b - 0) 4
      rw [ssum_congr (g := smt S P) 4 (fun k _ => Nat.sub_zero _)]
      omega
  · have : ∃ b, b < 4 ∧ slk S P b (smt S P b) ≠ 0 := by
      apply Classical.byContradiction
      intro hn
      exact h1 ((ssum_zero 4).mpr (fun k hk => Classical.byContradiction (fun q => hn ⟨k, hk, q⟩)))
    obtain ⟨b, _, hb⟩ := this
    have hs : sw S P b = true := by
      apply Classical.byContradiction
      intro q
      unfold slk at hb
      rw [if_neg q] at hb
      exact hb rfl
    unfold slk at hb
    rw [if_pos hs] at hb
    have hsp := smt_spec S P b
    have h8 := sst_le8 (P := P) hw b
    have hm : smt S P b = sst S P b := by
      rcases hsp.2.2.2 hs with q | q | q
      · exact q
      · omega
      · omega
    apply lack_bh hw hs (S 0) (Nat.le_refl _)
    show sfull S P.2.2.1 b (0 + sbh S P b (S 0 - S 0)) < _
    have : 0 + sbh S P b (S 0 - S 0) = smt S P b := by
      unfold sbh sbf
      omega
    rw [this]
    omega
end BEST2
