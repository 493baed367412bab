/-! BEST as one number; a BUS that has NEED is not charged -/
def enc3 (a : Nat × Nat × Nat) : Nat := a.1 * 6400000 + a.2.1 * 64 + a.2.2
/-- m is the first of the least -/
def iB (v : Nat → Nat) (ok : Nat → Bool) (m : Nat) : Prop := ok m = true ∧ (∀ k, ok k = true → v m ≤ v k) ∧ ∀ k, k < m → ok k = true → v m < v k
theorem iB_un {v v' : Nat → Nat} {ok ok' : Nat → Bool} {m m' : Nat} (h : iB v ok m) (h' : iB v' ok' m') (h1 : ok m' = true) (h2 : ok' m = true) (e1 : v m = v' m) (e2 : v m' = v' m') : m = m' := by
  have a1 := h.2.1 m' h1
  have a2 := h'.2.1 m h2
  rcases Nat.lt_trichotomy m m' with q | q | q
  · have := h'.2.2 m q h2; omega
  · exact q
  · have := h.2.2 m' q h1; omega
theorem slt3_nn {a b c : Nat × Nat × Nat} (h1 : slt3 a b = true) (h2 : slt3 c b = false) : slt3 a c = true := by
  simp only [slt3, Bool.or_eq_true, Bool.and_eq_true, decide_eq_true_eq, Bool.or_eq_false_iff, Bool.and_eq_false_iff, decide_eq_false_iff_not] at *
  omega
theorem sbest_first (f : Nat → Nat × Nat × Nat) (ok : Nat → Bool) : ∀ n k, k < sbest f ok n → ok k = true → slt3 (f (sbest f ok n)) (f k) = true
  | 0, k, h, _ => by simp [sbest] at h
  | n + 1, k, h, hk => by
    by_cases hc : ok n = true ∧ slt3 (f n) (f (sbest f ok n)) = true
    · have e : sbest f ok (n + 1) = n := by show (if _ then _ else _) = n; rw [if_pos hc]
      rw [e] at h ⊢
      exact slt3_nn hc.2 (sbest_min f ok n k h hk)
    · have e : sbest f ok (n + 1) = sbest f ok n := by show (if _ then _ else _) = _; rw [if_neg hc]
      rw [e] at h ⊢
      exact sbest_first f ok n k h hk
theorem enc3_lt {a b : Nat × Nat × Nat} (h1 : a.2.1 < 100000) (h2 : a.2.2 < 64) (h3 : b.2.1 < 100000) (h4 : b.2.2 < 64) : slt3 a b = true ↔ enc3 a < enc3 b := by
  simp only [slt3, Bool.or_eq_true, Bool.and_eq_true, decide_eq_true_eq, enc3]
  omega
section BEST1
variable {S : sS} {P : sP}
def spot (S : sS) (pow : Nat) (c : Nat → Nat) (n : Nat) : Nat := ssum (fun b => scap S b - sfull S pow b (c b)) n
theorem spot_step (hw : sWF S) (pow : Nat) (c : Nat → Nat) (set : Nat) : ∀ n, n ≤ S 1 → spot S pow (snx c set) n + stk S pow c set n = spot S pow c n
  | 0, _ => rfl
  | n + 1, h => by
    have ih := spot_step hw pow c set n (by omega)
    have hb := (hw.bus n (by omega)).2.2.1
    have h1 := sfull_le (S := S) hb pow (c n)
    have h2 := sfull_le (S := S) hb pow (c n + 1)
    have h3 : sfull S pow n (c n + 1) = sfull S pow n (c n) + sgn S pow n (c n) := rfl
    show (spot S pow (snx c set) n + (scap S n - sfull S pow n (snx c set n))) + (stk S pow c set n + (if sbit set n = true then sgn S pow n (c n) else 0)) = spot S pow c n + (scap S n - sfull S pow n (c n))
    by_cases hs : sbit set n = true
    · rw [if_pos hs, show snx c set n = c n + 1 from if_pos hs]
      omega
    · rw [if_neg hs, show snx c set n = c n from if_neg hs]
      omega
theorem spot_bd (hw : sWF S) (pow : Nat) (c : Nat → Nat) : spot S pow c (S 1) ≤ 800 := by
  have := ssum_le (f := fun b => scap S b - sfull S pow b (c b)) (B := 200) (S 1) (fun k hk => by
    have h := (hw.bus k hk).2.1.2
    show scap S k - _ ≤ 200
    unfold scap
    omega)
  have h4 := hw.B
  unfold spot
  omega
theorem sfx_cost (hw : sWF S) {r : Nat} (hr : r + 1 ≤ S 0) (c : Nat → Nat) (set : Nat) (ih : ∀ c, (sdp S P r c).2.1 ≤ 99 * spot S P.2.2.1 c (S 1)) : (sfx S P r c set).2.1 ≤ 99 * spot S P.2.2.1 c (S 1) := by
  have h1 := ih (snx c set)
  have h2 := spot_step hw P.2.2.1 c set (S 1) (Nat.le_refl _)
  have hT := hw.T
  have hp := hw.price (S 0 - (r + 1)) (by omega)
  have hm : stk S P.2.2.1 c set (S 1) * S (6 + (S 0 - (r + 1))) ≤ stk S P.2.2.1 c set (S 1) * 99 := Nat.mul_le_mul_left _ hp
  show (sdp S P r (snx c set)).2.1 + stk S P.2.2.1 c set (S 1) * S (6 + (S 0 - (r + 1))) ≤ _
  omega
theorem sdp_cost (hw : sWF S) : ∀ r, r ≤ S 0 → ∀ c, (sdp S P r c).2.1 ≤ 99 * spot S P.2.2.1 c (S 1)
  | 0, _, c => Nat.zero_le _
  | r + 1, hr, c => by
    rw [sdp_succ]
    exact sfx_cost hw hr c _ (sdp_cost hw r (by omega))
def sE (S : sS) (P : sP) (r : Nat) (c : Nat → Nat) : Nat := enc3 (sdp S P r c)
theorem sE_bd (hw : sWF S) {r : Nat} (hr : r ≤ S 0) (c : Nat → Nat) : (sdp S P r c).2.1 < 100000 ∧ (sdp S P r c).2.2 < 64 ∧ (sdp S P r c).1 ≤ 800 := by
  have h1 := sdp_cost (P := P) hw r hr c
  have h2 := spot_bd hw P.2.2.1 c
  have h3 := sdp_bd hw P r hr c
  have hT := hw.T
  omega
theorem sfx_bd (hw : sWF S) {r : Nat} (hr : r + 1 ≤ S 0) (c : Nat → Nat) {set : Nat} (hs : set < 16) : (sfx S P r c set).2.1 < 100000 ∧ (sfx S P r c set).2.2 < 64 := by
  have h1 := sfx_cost (P := P) hw hr c set (sdp_cost hw r (by omega))
  have h2 := spot_bd hw P.2.2.1 c
  have h3 := sdp_bd hw P r (by omega) (snx c set)
  have hT := hw.T
  have hp := spop_le ⟨set, hs⟩
  simp only at hp
  refine ⟨by omega, ?_⟩
  show (sdp S P r (snx c set)).2.2 + spop set < 64
  omega
/-- what a set comes to -/
theorem sfx_enc (r : Nat) (c : Nat → Nat) (set : Nat) : enc3 (sfx S P r c set) = sE S P r (snx c set) + stk S P.2.2.1 c set (S 1) * S (6 + (S 0 - (r + 1))) * 64 + spop set := by
  unfold sfx sE enc3
  simp only
  generalize stk S P.2.2.1 c set (S 1) * S (6 + (S 0 - (r + 1))) = q
  omega
theorem sE_succ (r : Nat) (c : Nat → Nat) : sE S P (r + 1) c = enc3 (sfx S P r c (sarg S P r c)) := by
  unfold sE; rw [sdp_succ]
def sok2 (S : sS) (P : sP) (r : Nat) (c : Nat → Nat) (k : Nat) : Bool := decide (k < 2 ^ S 1) && sok S P (S 0 - (r + 1)) c k
theorem sbit0 : ∀ b, sbit 0 b = false := by
  intro b
  unfold sbit
  rw [Nat.zero_div]
  rfl
theorem stk_0 (pow : Nat) (c : Nat → Nat) : ∀ n, stk S pow c 0 n = 0
  | 0 => rfl
  | n + 1 => by
    show stk S pow c 0 n + (if sbit 0 n = true then sgn S pow n (c n) else 0) = 0
    rw [stk_0 pow c n, sbit0]
    rfl
theorem snx_0 (c : Nat → Nat) : snx c 0 = c := by
  funext b
  unfold snx
  rw [sbit0]
  rfl
theorem sok_0 (s : Nat) (c : Nat → Nat) : sok S P s c 0 = true := by
  unfold sok
  rw [Bool.and_eq_true, Bool.and_eq_true, decide_eq_true_eq, decide_eq_true_eq, decide_eq_true_eq]
  refine ⟨⟨Nat.zero_le _, fun b _ h => by rw [sbit0] at h; cases h⟩, ?_⟩
  rw [stk_0]
  exact Nat.zero_le _
theorem sarg_iB (hw : sWF S) {r : Nat} (hr : r + 1 ≤ S 0) (c : Nat → Nat) : iB (fun set => enc3 (sfx S P r c set)) (sok2 S P r c) (sarg S P r c) := by
  have h16 := two_pow_le hw.B
  have hl := sarg_lt S P r c
  have b1 := fun k (hk : k < 2 ^ S 1) => sfx_bd (P := P) hw hr c (show k < 16 by omega)
  refine ⟨?_, fun k hk => ?_, fun k hk hok => ?_⟩
  · unfold sok2
    rw [Bool.and_eq_true, decide_eq_true_eq]
    exact ⟨hl, sbest_ok _ _ (sok_0 _ _) _⟩
  · unfold sok2 at hk
    rw [Bool.and_eq_true, decide_eq_true_eq] at hk
    have this : slt3 (sfx S P r c k) (sfx S P r c (sarg S P r c)) = false := sbest_min (sfx S P r c) (sok S P (S 0 - (r + 1)) c) (2 ^ S 1) k hk.1 hk.2
    have h2 := enc3_lt (b1 k hk.1).1 (b1 k hk.1).2 (b1 _ hl).1 (b1 _ hl).2
    apply Nat.le_of_not_lt
    intro q
    rw [h2.mpr q] at this
    exact Bool.noConfusion this
  · unfold sok2 at hok
    rw [Bool.and_eq_true, decide_eq_true_eq] at hok
    have := sbest_first (sfx S P r c) (sok S P (S 0 - (r + 1)) c) (2 ^ S 1) k hk hok.2
    exact (enc3_lt (b1 _ hl).1 (b1 _ hl).2 (b1 k hok.1).1 (b1 k hok.1).2).mp this
-- a set without a BUS
theorem bit_sub : ∀ m : Fin 16, ∀ b : Fin 4, sbit m.1 b.1 = true → m.1 - 2 ^ b.1 < m.1 ∧ spop m.1 = spop (m.1 - 2 ^ b.1) + 1 ∧ ∀ k : Fin 4, sbit (m.1 - 2 ^ b.1) k.1 = (sbit m.1 k.1 && decide (k ≠ b)) := by decide +kernel
theorem ssum_mono {f g : Nat → Nat} : ∀ n, (∀ k, k < n → f k ≤ g k) → ssum f n ≤ ssum g n
  | 0, _ => Nat.le_refl _
  | n + 1, h => by
    have h1 := ssum_mono n (fun k hk => h k (by omega))
    have h2 := h n (by omega)
    show ssum f n + f n ≤ ssum g n + g n
    omega
theorem ssum_ge {f : Nat → Nat} : ∀ n b, b < n → f b ≤ ssum f n
  | 0, b, h => by omega
  | n + 1, b, h => by
    show f b ≤ ssum f n + f n
    by_cases hb : b = n
    · subst hb; omega
    · have := ssum_ge (f := f) n b (by omega)
      omega
theorem sfull_mono (pow b : Nat) : ∀ (k c : Nat), sfull S pow b c ≤ sfull S pow b (c + k)
  | 0, c => Nat.le_refl _
  | k + 1, c => by
    have := sfull_mono pow b k c
    show _ ≤ sfull S pow b (c + k) + sgain S pow b (sfull S pow b (c + k))
    omega
/-- has NEED behind c charges -/
def ssat (S : sS) (P : sP) (b c : Nat) : Prop := sneed S b ≤ sfull S P.2.2.1 b c
def ssim (S : sS) (P : sP) (c c' : Nat → Nat) : Prop := ∀ b, b < S 1 → c b = c' b ∨ (ssat S P b (c b) ∧ ssat S P b (c' b))
theorem sok_iff {s : Nat} {c : Nat → Nat} {m : Nat} : sok S P s c m = true ↔ spop m ≤ P.2.1 ∧ (∀ b, b < S 1 → sbit m b = true → sbit P.2.2.2.2 b = true ∧ sthere (P.1 b) (sgo S b) s = true) ∧ stk S P.2.2.1 c m (S 1) ≤ P.2.2.2.1 := by
  unfold sok
  rw [Bool.and_eq_true, Bool.and_eq_true, decide_eq_true_eq, decide_eq_true_eq, decide_eq_true_eq]
  constructor
  · rintro ⟨⟨h1, h2⟩, h3⟩; exact ⟨h1, h2, h3⟩
  · rintro ⟨h1, h2, h3⟩; exact ⟨⟨h1, h2⟩, h3⟩
theorem sok2_iff {r : Nat} {c : Nat → Nat} {m : Nat} : sok2 S P r c m = true ↔ m < 2 ^ S 1 ∧ spop m ≤ P.2.1 ∧ (∀ b, b < S 1 → sbit m b = true → sbit P.2.2.2.2 b = true ∧ sthere (P.1 b) (sgo S b) (S 0 - (r + 1)) = true) ∧ stk S P.2.2.1 c m (S 1) ≤ P.2.2.2.1 := by
  unfold sok2
  rw [Bool.and_eq_true, decide_eq_true_eq, sok_iff]
theorem sat_out (hw : sWF S) {r : Nat} (hr : r + 1 ≤ S 0) (IH : ∀ c c', ssim S P c c' → sE S P r c = sE S P r c') {c : Nat → Nat} {b : Nat} (hb : b < S 1) (hs : ssat S P b (c b)) : sbit (sarg S P r c) b = false := by
  have h4 := hw.B
  have h16 := two_pow_le hw.B
  have hl := sarg_lt S P r c
  have hI := sarg_iB (P := P) hw hr c
  generalize sarg S P r c = m at hl hI
  cases hm : sbit m b with
  | false => rfl
  | true =>
    exfalso
    obtain ⟨q1, q2, q3⟩ := bit_sub ⟨m, by omega⟩ ⟨b, by omega⟩ hm
    simp only at q1 q2 q3
    have q3' : ∀ k, k < 4 → sbit (m - 2 ^ b) k = (sbit m k && decide (k ≠ b)) := fun k hk => by
      have := q3 ⟨k, hk⟩
      simp only [ne_eq, Fin.mk.injEq] at this
      exact this
    have ok := sok2_iff.mp hI.1
    have hle : stk S P.2.2.1 c (m - 2 ^ b) (S 1) ≤ stk S P.2.2.1 c m (S 1) := by
      unfold stk
      apply ssum_mono
      intro k hk
      rw [q3' k (by omega)]
      cases sbit m k
      · exact Nat.le_refl _
      · rw [Bool.true_and]
        split
        · exact Nat.le_refl _
        · exact Nat.zero_le _
    have hok : sok2 S P r c (m - 2 ^ b) = true := by
      rw [sok2_iff]
      refine ⟨by omega, by omega, fun k hk hbk => ?_, by omega⟩
      rw [q3' k (by omega), Bool.and_eq_true] at hbk
      exact ok.2.2.1 k hk hbk.1
    have hE : sE S P r (snx c m) = sE S P r (snx c (m - 2 ^ b)) := by
      apply IH
      intro k hk
      by_cases hkb : k = b
      · subst hkb
        right
        have e1 : snx c m k = c k + 1 := if_pos hm
        have e2 : snx c (m - 2 ^ k) k = c k := by
          unfold snx
          rw [q3' k (by omega)]
          simp
        rw [e1, e2]
        exact ⟨Nat.le_trans hs (sfull_mono _ _ 1 _), hs⟩
      · left
        unfold snx
        rw [q3' k (by omega)]
        simp [hkb]
    have hv := hI.2.1 _ hok
    simp only [sfx_enc] at hv
    rw [hE] at hv
    have hm2 : stk S P.2.2.1 c (m - 2 ^ b) (S 1) * S (6 + (S 0 - (r + 1))) ≤ stk S P.2.2.1 c m (S 1) * S (6 + (S 0 - (r + 1))) := Nat.mul_le_mul_right _ hle
    omega
theorem stk_eq {pow : Nat} {c c' : Nat → Nat} {m n : Nat} (h : ∀ b, b < n → sbit m b = true → c b = c' b) : stk S pow c m n = stk S pow c' m n := by
  unfold stk
  apply ssum_congr
  intro k hk
  by_cases hm : sbit m k = true
  · rw [if_pos hm, if_pos hm, h k hk hm]
  · rw [if_neg hm, if_neg hm]
theorem ssim.symm {c c' : Nat → Nat} (h : ssim S P c c') : ssim S P c' c := fun b hb => (h b hb).imp (fun e => e.symm) (fun q => ⟨q.2, q.1⟩)
theorem ssim.nx {c c' : Nat → Nat} (h : ssim S P c c') {m : Nat} (hm : ∀ b, b < S 1 → sbit m b = true → c b = c' b) : ssim S P (snx c m) (snx c' m) := by
  intro b hb
  unfold snx
  by_cases hs : sbit m b = true
  · left; rw [if_pos hs, if_pos hs, hm b hb hs]
  · rw [if_neg hs, if_neg hs]; exact h b hb
/-- counts behind NEED don't matter -/
theorem sE_sim (hw : sWF S) : ∀ r, r ≤ S 0 → ∀ c c', ssim S P c c' → sE S P r c = sE S P r c'
  | 0, _, c, c', h => by
    show enc3 (sle S _ _ c, 0, 0) = enc3 (sle S _ _ c', 0, 0)
    have : sle S P.2.2.1 P.2.2.2.2 c = sle S P.2.2.1 P.2.2.2.2 c' := by
      unfold sle
      apply ssum_congr
      intro k hk
      rcases h k hk with e | ⟨e1, e2⟩
      · rw [e]
      · unfold ssat at e1 e2
        rw [show sneed S k - sfull S P.2.2.1 k (c k) = 0 by omega, show sneed S k - sfull S P.2.2.1 k (c' k) = 0 by omega]
    rw [this]
  | r + 1, hr, c, c', h => by
    have IH := sE_sim hw r (by omega)
    have hI := sarg_iB (P := P) hw hr c
    have hI' := sarg_iB (P := P) hw hr c'
    have o1 := fun b hb hs => sat_out hw hr IH (c := c) (b := b) hb hs
    have o2 := fun b hb hs => sat_out hw hr IH (c := c') (b := b) hb hs
    rw [sE_succ, sE_succ]
    generalize sarg S P r c = m at hI o1
    generalize sarg S P r c' = m' at hI' o2
    have g1 : ∀ b, b < S 1 → sbit m b = true → c b = c' b := fun b hb hm => (h b hb).resolve_right (fun q => by rw [o1 b hb q.1] at hm; cases hm)
    have g2 : ∀ b, b < S 1 → sbit m' b = true → c b = c' b := fun b hb hm => (h b hb).resolve_right (fun q => by rw [o2 b hb q.2] at hm; cases hm)
    have v1 : enc3 (sfx S P r c m) = enc3 (sfx S P r c' m) := by
      rw [sfx_enc, sfx_enc, IH _ _ (h.nx g1), stk_eq g1]
    have v2 : enc3 (sfx S P r c m') = enc3 (sfx S P r c' m') := by
      rw [sfx_enc, sfx_enc, IH _ _ (h.nx g2), stk_eq g2]
    have k1 : sok2 S P r c m' = true := by
      have := sok2_iff.mp hI'.1
      rw [sok2_iff]
      refine ⟨this.1, this.2.1, this.2.2.1, ?_⟩
      rw [stk_eq g2]; exact this.2.2.2
    have k2 : sok2 S P r c' m = true := by
      have := sok2_iff.mp hI.1
      rw [sok2_iff]
      refine ⟨this.1, this.2.1, this.2.2.1, ?_⟩
      rw [← stk_eq g1]; exact this.2.2.2
    have := iB_un hI hI' k1 k2 v1 v2
    subst this
    exact v1
theorem sarg_sat (hw : sWF S) {r : Nat} (hr : r + 1 ≤ S 0) {c : Nat → Nat} {b : Nat} (hb : b < S 1) (hs : ssat S P b (c b)) : sbit (sarg S P r c) b = false := sat_out hw hr (sE_sim hw r (by omega)) hb hs
end BEST1
