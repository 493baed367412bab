theorem nx_subI {a b : Nat} (ha : a < 2 ^ 31) (hb : b < 2 ^ 31) : (nI a - nI b).toInt = (a : Int) - (b : Int) := by
  rw [Int32.toInt_sub, nI_toInt ha, nI_toInt hb]
  apply Int.bmod_eq_of_le <;> omega
theorem nx_sub_le {a b : Nat} (ha : a < 2 ^ 31) (hb : b < 2 ^ 31) : (nI a - nI b ≤ 0) = (a ≤ b) := by
  rw [Int32.le_iff_toInt_le, nx_subI ha hb, show (0 : Int32).toInt = 0 from rfl]
  apply propext
  omega
theorem sgn_bd {S : sS} (hw : sWF S) {b : Nat} (hb : b < S 1) (pow c : Nat) : sgn S pow b c ≤ 200 := by
  have h := (hw.bus b hb).2.1.2
  have := sgain_le (S := S) pow b (sfull S pow b c)
  unfold sgn
  unfold scap at this
  omega
theorem stk_bd {S : sS} (hw : sWF S) (pow : Nat) (c : Nat → Nat) (set : Nat) {n : Nat} (hn : n ≤ S 1) : stk S pow c set n ≤ 800 := by
  have := ssum_le (f := fun b => if sbit set b = true then sgn S pow b (c b) else 0) (B := 200) n (fun k hk => by
    split
    · exact sgn_bd hw (by omega) pow _
    · omega)
  have h4 := hw.B
  unfold stk
  omega
theorem sle_bd {S : sS} (hw : sWF S) (pow som : Nat) (c : Nat → Nat) {n : Nat} (hn : n ≤ S 1) : ssum (fun b => if sbit som b = true then sneed S b - sfull S pow b (c b) else 0) n ≤ 800 := by
  have := ssum_le (f := fun b => if sbit som b = true then sneed S b - sfull S pow b (c b) else 0) (B := 200) n (fun k hk => by
    have h := hw.bus k (by omega)
    split
    · unfold sneed; omega
    · omega)
  have h4 := hw.B
  omega
theorem sdp_bd {S : sS} (hw : sWF S) (P : sP) : ∀ r, r ≤ S 0 → ∀ c, (sdp S P r c).1 ≤ 800 ∧ (sdp S P r c).2.1 ≤ r * 80000 ∧ (sdp S P r c).2.2 ≤ r * 4
  | 0, _, c => ⟨sle_bd hw _ _ _ (Nat.le_refl _), Nat.le_refl _, Nat.le_refl _⟩
  | r + 1, hr, c => by
    rw [sdp_succ]
    have h1 := sarg_lt S P r c
    have hB := two_pow_le hw.B
    generalize sarg S P r c = set at h1 ⊢
    obtain ⟨i1, i2, i3⟩ := sdp_bd hw P r (by omega) (snx c set)
    have hk := stk_bd hw P.2.2.1 c set (Nat.le_refl (S 1))
    have hT := hw.T
    have hp := hw.price (S 0 - (r + 1)) (by omega)
    have hm : stk S P.2.2.1 c set (S 1) * S (6 + (S 0 - (r + 1))) ≤ 800 * 99 := Nat.mul_le_mul hk hp
    have hb := spop_le ⟨set, by omega⟩
    simp only at hb
    unfold sfx
    refine ⟨i1, ?_, ?_⟩
    · show (sdp S P r (snx c set)).2.1 + _ ≤ _
      omega
    · show (sdp S P r (snx c set)).2.2 + _ ≤ _
      omega
theorem ssum_fn {f g : Nat → Nat} (n : Nat) (h : ∀ k, k < n → f k = g k) : ssum f n = ssum g n := ssum_congr n h
/-- only the counts of the BUSES matter -/
theorem sdp_cong {S : sS} (P : sP) : ∀ r (c c' : Nat → Nat), (∀ b, b < S 1 → c b = c' b) → sdp S P r c = sdp S P r c'
  | 0, c, c', h => by
    show (sle S _ _ c, 0, 0) = (sle S _ _ c', 0, 0)
    unfold sle
    rw [ssum_fn (S 1) (fun k hk => by rw [h k hk])]
  | r + 1, c, c', h => by
    have hx : ∀ set, sdp S P r (snx c set) = sdp S P r (snx c' set) := fun set => sdp_cong P r _ _ (fun b hb => by unfold snx; rw [h b hb])
    have hk : ∀ set, stk S P.2.2.1 c set (S 1) = stk S P.2.2.1 c' set (S 1) := fun set => ssum_fn (S 1) (fun k hk => by rw [h k hk])
    have hf : sfx S P r c = sfx S P r c' := by funext set; unfold sfx; rw [hx, hk]
    have ho : sok S P (S 0 - (r + 1)) c = sok S P (S 0 - (r + 1)) c' := by funext set; unfold sok; rw [hk]
    rw [sdp_succ, sdp_succ]
    unfold sarg
    rw [hf, ho]
theorem sarg_cong {S : sS} (P : sP) (r : Nat) (c c' : Nat → Nat) (h : ∀ b, b < S 1 → c b = c' b) : sarg S P r c = sarg S P r c' := by
  have hx : ∀ set, sdp S P r (snx c set) = sdp S P r (snx c' set) := fun set => sdp_cong P r _ _ (fun b hb => by unfold snx; rw [h b hb])
  have hk : ∀ set, stk S P.2.2.1 c set (S 1) = stk S P.2.2.1 c' set (S 1) := fun set => ssum_fn (S 1) (fun k hk => by rw [h k hk])
  have hf : sfx S P r c = sfx S P r c' := by funext set; unfold sfx; rw [hx, hk]
  have ho : sok S P (S 0 - (r + 1)) c = sok S P (S 0 - (r + 1)) c' := by funext set; unfold sok; rw [hk]
  unfold sarg
  rw [hf, ho]
-- states
def senc (c : Nat → Nat) : Nat := c 0 + 9 * c 1 + 81 * c 2 + 729 * c 3
theorem scn_0 (st : Nat) : scn st 0 = st % 9 := by unfold scn; rw [show (9 : Nat) ^ 0 = 1 from rfl, Nat.div_one]
theorem scn_1 (st : Nat) : scn st 1 = st / 9 % 9 := rfl
theorem scn_2 (st : Nat) : scn st 2 = st / 81 % 9 := rfl
theorem scn_3 (st : Nat) : scn st 3 = st / 729 % 9 := rfl
theorem senc_scn {st : Nat} (h : st < 6561) : senc (scn st) = st := by
  unfold senc
  rw [scn_0, scn_1, scn_2, scn_3]
  omega
theorem scn_senc {c : Nat → Nat} (h : ∀ b, b < 4 → c b < 9) : ∀ b, b < 4 → scn (senc c) b = c b := by
  intro b hb
  have h0 := h 0 (by omega)
  have h1 := h 1 (by omega)
  have h2 := h 2 (by omega)
  have h3 := h 3 (by omega)
  have : b = 0 ∨ b = 1 ∨ b = 2 ∨ b = 3 := by omega
  unfold senc
  rcases this with rfl | rfl | rfl | rfl
  · rw [scn_0]; omega
  · rw [scn_1]; omega
  · rw [scn_2]; omega
  · rw [scn_3]; omega
theorem senc_lt {c : Nat → Nat} (h : ∀ b, b < 4 → c b < 9) : senc c < 6561 := by
  have h0 := h 0 (by omega)
  have h1 := h 1 (by omega)
  have h2 := h 2 (by omega)
  have h3 := h 3 (by omega)
  unfold senc
  omega
def sadd (set n : Nat) : Nat := ssum (fun b => if sbit set b = true then 9 ^ b else 0) n
theorem sbit_hi : ∀ n : Fin 5, ∀ set : Fin 16, set.1 < 2 ^ n.1 → ∀ b : Fin 4, n.1 ≤ b.1 → sbit set.1 b.1 = false := by decide +kernel
theorem sbit_out {n set b : Nat} (hn : n ≤ 4) (hs : set < 2 ^ n) (hb : b < 4) (h : n ≤ b) : sbit set b = false := by
  have := two_pow_le hn
  exact sbit_hi ⟨n, by omega⟩ ⟨set, by omega⟩ hs ⟨b, hb⟩ h
theorem sadd_4 {n set : Nat} (hn : n ≤ 4) (hs : set < 2 ^ n) : sadd set n = sadd set 4 := by
  have h : ∀ b, b < 4 → n ≤ b → (if sbit set b = true then 9 ^ b else 0) = 0 := fun b hb hnb => by rw [sbit_out hn hs hb hnb]; rfl
  have : n = 0 ∨ n = 1 ∨ n = 2 ∨ n = 3 ∨ n = 4 := by omega
  unfold sadd
  rcases this with rfl | rfl | rfl | rfl | rfl
  · simp only [ssum, h 0 (by omega) (by omega), h 1 (by omega) (by omega), h 2 (by omega) (by omega), h 3 (by omega) (by omega)]
  · simp only [ssum, h 1 (by omega) (by omega), h 2 (by omega) (by omega), h 3 (by omega) (by omega), Nat.add_zero]
  · simp only [ssum, h 2 (by omega) (by omega), h 3 (by omega) (by omega), Nat.add_zero]
  · simp only [ssum, h 3 (by omega) (by omega), Nat.add_zero]
  · rfl
theorem senc_snx (c : Nat → Nat) (set : Nat) : senc (snx c set) = senc c + sadd set 4 := by
  unfold senc sadd snx ssum ssum ssum ssum ssum
  simp only [show (9 : Nat) ^ 0 = 1 from rfl, show (9 : Nat) ^ 1 = 9 from rfl, show (9 : Nat) ^ 2 = 81 from rfl, show (9 : Nat) ^ 3 = 729 from rfl]
  by_cases h0 : sbit set 0 = true <;> by_cases h1 : sbit set 1 = true <;> by_cases h2 : sbit set 2 = true <;> by_cases h3 : sbit set 3 = true <;> simp only [h0, h1, h2, h3, if_true, if_false, Bool.false_eq_true] <;> omega
