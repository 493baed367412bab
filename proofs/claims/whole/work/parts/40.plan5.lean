/-! longs; four bits a SLOT; states as numbers -/
theorem lx_toInt {n : Nat} (h : n < 2 ^ 63) : (lN n).toInt = (n : Int) := lg_ofNat_toInt h
theorem lx_le {a b : Nat} (ha : a < 2 ^ 63) (hb : b < 2 ^ 63) : (lN a ≤ lN b) = (a ≤ b) := by
  rw [Int64.le_iff_toInt_le, lx_toInt ha, lx_toInt hb]
  exact propext Int.ofNat_le
theorem lx_cmp {a b : Nat} (ha : a < 2 ^ 63) (hb : b < 2 ^ 63) : (0 ≤ lg_cmp (lN a) (lN b)) = (b ≤ a) := by
  rw [propext (lg_cmp_ge _ _), lx_le hb ha]
theorem lx_div {a b : Nat} (ha : a < 2 ^ 63) (hb : b < 2 ^ 63) : lN a / lN b = lN (a / b) := by
  unfold lN; exact (Int64.ofNat_div ha hb).symm
-- the nibbles of choices
def wnib (w : Int32) (s : Nat) : Int32 := ((w.toUInt32 >>> ((4 * nI s).toUInt32 &&& Int32.toUInt32 31)).toInt32) &&& 15
def wput (w : Int32) (s : Nat) (v : Int32) : Int32 := (w &&& ((15 <<< ((4 * nI s) &&& 31)) ^^^ (-1))) ||| (v <<< ((4 * nI s) &&& 31))
theorem shl_n (a : Int32) {s : Nat} (hs : s < 8) : (a <<< ((4 * nI s) &&& 31)).toBitVec = a.toBitVec <<< (4 * s) := by
  have : s = 0 ∨ s = 1 ∨ s = 2 ∨ s = 3 ∨ s = 4 ∨ s = 5 ∨ s = 6 ∨ s = 7 := by omega
  rcases this with rfl | rfl | rfl | rfl | rfl | rfl | rfl | rfl <;> rfl
theorem shr_n (w : Int32) {s : Nat} (hs : s < 8) : ((w.toUInt32 >>> ((4 * nI s).toUInt32 &&& Int32.toUInt32 31)).toInt32).toBitVec = w.toBitVec >>> (4 * s) := by
  have : s = 0 ∨ s = 1 ∨ s = 2 ∨ s = 3 ∨ s = 4 ∨ s = 5 ∨ s = 6 ∨ s = 7 := by omega
  rcases this with rfl | rfl | rfl | rfl | rfl | rfl | rfl | rfl <;> rfl
theorem b15 : ∀ i : Fin 32, (15#32).getLsbD i.1 = decide (i.1 < 4) := by decide +kernel
theorem b15' (i : Nat) : (15#32).getLsbD i = decide (i < 4) := by
  by_cases h : i < 32
  · exact b15 ⟨i, h⟩
  · rw [BitVec.getLsbD_of_ge _ _ (by omega), decide_eq_false (by omega)]
theorem bv16 : ∀ v : Fin 16, ∀ i : Fin 32, 4 ≤ i.1 → (BitVec.ofNat 32 v.1).getLsbD i.1 = false := by decide +kernel
theorem bv16' {v : Nat} (hv : v < 16) {i : Nat} (hi : 4 ≤ i) : (BitVec.ofNat 32 v).getLsbD i = false := by
  by_cases h : i < 32
  · exact bv16 ⟨v, hv⟩ ⟨i, h⟩ hi
  · exact BitVec.getLsbD_of_ge _ _ (by omega)
theorem wnib_bit (w : Int32) {s : Nat} (hs : s < 8) {i : Nat} (hi : i < 32) : (wnib w s).toBitVec.getLsbD i = (w.toBitVec.getLsbD (4 * s + i) && decide (i < 4)) := by
  unfold wnib
  rw [Int32.toBitVec_and, BitVec.getLsbD_and, shr_n w hs, BitVec.getLsbD_ushiftRight]
  rw [show (15 : Int32).toBitVec = 15#32 from rfl, b15']
theorem wput_bit (w : Int32) {s : Nat} (hs : s < 8) (v : Int32) {j : Nat} (hj : j < 32) : (wput w s v).toBitVec.getLsbD j = ((w.toBitVec.getLsbD j && !(!decide (j < 4 * s) && decide (j - 4 * s < 4))) || (!decide (j < 4 * s) && v.toBitVec.getLsbD (j - 4 * s))) := by
  unfold wput
  rw [Int32.toBitVec_or, Int32.toBitVec_and, Int32.toBitVec_xor, shl_n _ hs, shl_n _ hs, BitVec.getLsbD_or, BitVec.getLsbD_and, BitVec.getLsbD_xor, BitVec.getLsbD_shiftLeft, BitVec.getLsbD_shiftLeft]
  rw [show (15 : Int32).toBitVec = 15#32 from rfl, b15', show (-1 : Int32).toBitVec = BitVec.allOnes 32 from by decide, BitVec.getLsbD_allOnes]
  simp [hj]
theorem wnib_put (w : Int32) {s : Nat} (hs : s < 8) {v : Nat} (hv : v < 16) : wnib (wput w s (nI v)) s = nI v := by
  apply Int32.toBitVec_inj.mp
  apply BitVec.eq_of_getLsbD_eq
  intro i hi
  rw [wnib_bit _ hs hi]
  by_cases h4 : i < 4
  · rw [wput_bit _ hs _ (by omega), decide_eq_true h4, decide_eq_false (show ¬ 4 * s + i < 4 * s by omega), show 4 * s + i - 4 * s = i by omega, decide_eq_true h4]
    simp
  · rw [decide_eq_false h4, Bool.and_false]
    exact (bv16' hv (by omega)).symm
theorem wnib_put_ne (w : Int32) {s s' : Nat} (hs : s < 8) (hs' : s' < 8) (hne : s' ≠ s) {v : Nat} (hv : v < 16) : wnib (wput w s (nI v)) s' = wnib w s' := by
  apply Int32.toBitVec_inj.mp
  apply BitVec.eq_of_getLsbD_eq
  intro i hi
  rw [wnib_bit _ hs' hi, wnib_bit _ hs' hi]
  by_cases h4 : i < 4
  · rw [wput_bit _ hs _ (by omega), decide_eq_true h4, Bool.and_true, Bool.and_true]
    by_cases hl : 4 * s' + i < 4 * s
    · rw [decide_eq_true hl]; simp
    · rw [decide_eq_false hl, decide_eq_false (show ¬ 4 * s' + i - 4 * s < 4 by omega)]
      rw [show (nI v).toBitVec = BitVec.ofNat 32 v from rfl, bv16' hv (by omega)]
      simp
  · rw [decide_eq_false h4, Bool.and_false, Bool.and_false]
-- mixed radix
def mrd (w x : Nat → Nat) : Nat := x 0 + w 0 * (x 1 + w 1 * (x 2 + w 2 * x 3))
theorem mrd1 {w a a' q q' : Nat} (h : a < w) (h' : a' < w) (e : a + w * q = a' + w * q') : a = a' ∧ q = q' := by
  have h1 : (a + w * q) % w = a := by rw [Nat.add_mul_mod_self_left, Nat.mod_eq_of_lt h]
  have h2 : (a' + w * q') % w = a' := by rw [Nat.add_mul_mod_self_left, Nat.mod_eq_of_lt h']
  have ea : a = a' := by rw [← h1, ← h2, e]
  refine ⟨ea, ?_⟩
  subst ea
  exact Nat.eq_of_mul_eq_mul_left (show 0 < w by omega) (by omega)
theorem mrd_inj {w x y : Nat → Nat} (hx : ∀ b, b < 3 → x b < w b) (hy : ∀ b, b < 3 → y b < w b) (h : mrd w x = mrd w y) : ∀ b, b < 4 → x b = y b := by
  unfold mrd at h
  obtain ⟨e0, h⟩ := mrd1 (hx 0 (by omega)) (hy 0 (by omega)) h
  obtain ⟨e1, h⟩ := mrd1 (hx 1 (by omega)) (hy 1 (by omega)) h
  obtain ⟨e2, e3⟩ := mrd1 (hx 2 (by omega)) (hy 2 (by omega)) h
  intro b hb
  have : b = 0 ∨ b = 1 ∨ b = 2 ∨ b = 3 := by omega
  rcases this with rfl | rfl | rfl | rfl <;> assumption
theorem mrd2 {w n a q : Nat} (h : a < w) (h' : q < n) : a + w * q < w * n := by
  have h1 : w * (q + 1) ≤ w * n := Nat.mul_le_mul_left w h'
  rw [Nat.mul_succ] at h1
  omega
theorem mrd_lt {w x : Nat → Nat} (hx : ∀ b, b < 4 → x b < w b) : mrd w x < w 0 * (w 1 * (w 2 * w 3)) := mrd2 (hx 0 (by omega)) (mrd2 (hx 1 (by omega)) (mrd2 (hx 2 (by omega)) (hx 3 (by omega))))
theorem mrd_le {w x y : Nat → Nat} (h : ∀ b, b < 4 → x b ≤ y b) : mrd w x ≤ mrd w y := by
  unfold mrd
  exact Nat.add_le_add (h 0 (by omega)) (Nat.mul_le_mul_left _ (Nat.add_le_add (h 1 (by omega)) (Nat.mul_le_mul_left _ (Nat.add_le_add (h 2 (by omega)) (Nat.mul_le_mul_left _ (h 3 (by omega)))))))
theorem mrd3 {w x q : Nat} (h : x + 1 = w) : 0 + w * (q + 1) = (x + w * q) + 1 := by
  rw [Nat.mul_succ]
  omega
theorem ssum_upd {f g : Nat → Nat} {b d : Nat} : ∀ n, b < n → (∀ k, k < n → k ≠ b → f k = g k) → f b = g b + d → ssum f n = ssum g n + d
  | 0, h, _, _ => by omega
  | n + 1, h, h1, h2 => by
    show ssum f n + f n = ssum g n + g n + d
    by_cases hb : b = n
    · subst hb
      rw [ssum_congr b (fun k hk => h1 k (by omega) (by omega)), h2]
      omega
    · rw [ssum_upd n (by omega) (fun k hk => h1 k (by omega)) h2, h1 n (by omega) (fun e => hb e.symm)]
      omega
section PLAN5
variable {S : sS} {P : sP}
theorem sprod4 (w : Nat → Nat) : sprod w 4 = w 0 * (w 1 * (w 2 * w 3)) := by
  show ((((1 * w 0) * w 1) * w 2) * w 3) = _
  rw [Nat.one_mul, Nat.mul_assoc, Nat.mul_assoc]
theorem six_mrd (c : Nat → Nat) : six S P c = mrd (fun b => smt S P b + 1) c := by
  show 0 + c 0 * 1 + c 1 * (1 * (smt S P 0 + 1)) + c 2 * (1 * (smt S P 0 + 1) * (smt S P 1 + 1)) + c 3 * (1 * (smt S P 0 + 1) * (smt S P 1 + 1) * (smt S P 2 + 1)) = c 0 + (smt S P 0 + 1) * (c 1 + (smt S P 1 + 1) * (c 2 + (smt S P 2 + 1) * c 3))
  generalize smt S P 0 + 1 = a
  generalize smt S P 1 + 1 = b
  generalize smt S P 2 + 1 = d
  simp only [Nat.mul_add, Nat.one_mul, Nat.mul_one, Nat.zero_add, Nat.mul_assoc, Nat.mul_comm, Nat.mul_left_comm, Nat.add_assoc]
theorem six_inj {c c' : Nat → Nat} (h : ∀ b, b < 4 → c b ≤ smt S P b) (h' : ∀ b, b < 4 → c' b ≤ smt S P b) (e : six S P c = six S P c') : ∀ b, b < 4 → c b = c' b := by
  rw [six_mrd, six_mrd] at e
  exact mrd_inj (fun b hb => by have := h b (by omega); show c b < smt S P b + 1; omega) (fun b hb => by have := h' b (by omega); show c' b < smt S P b + 1; omega) e
theorem six_lt {c : Nat → Nat} (h : ∀ b, b < 4 → c b ≤ smt S P b) : six S P c < 6561 := by
  rw [six_mrd]
  have h1 := mrd_lt (w := fun b => smt S P b + 1) (x := c) (fun b hb => by have := h b hb; show c b < smt S P b + 1; omega)
  have m : ∀ b, smt S P b + 1 ≤ 9 := fun b => by have := (smt_spec S P b).1; omega
  have h2 : (smt S P 0 + 1) * ((smt S P 1 + 1) * ((smt S P 2 + 1) * (smt S P 3 + 1))) ≤ 9 * (9 * (9 * 9)) := Nat.mul_le_mul (m 0) (Nat.mul_le_mul (m 1) (Nat.mul_le_mul (m 2) (m 3)))
  omega
theorem six_snx (c : Nat → Nat) (set : Nat) : six S P (snx c set) = six S P c + ssh S P set := by
  unfold six ssh
  rw [← ssum_add]
  apply ssum_congr
  intro k hk
  unfold snx
  by_cases h : sbit set k = true
  · rw [if_pos h, if_pos h, Nat.add_mul, Nat.one_mul]
  · rw [if_neg h, if_neg h, Nat.add_zero]
/-- where a state stands in its box -/
def srk (S : sS) (P : sP) (rdy : Bool) (s : Nat) (c : Nat → Nat) : Nat := mrd (swd S P rdy s) (fun b => c b - slo S P rdy s b)
theorem lo_hi (rdy : Bool) (s b : Nat) : slo S P rdy s b ≤ shi S P s b := by
  have := (smt_spec S P b).2.1
  unfold slo shi sbh
  split
  · have : sbf S P b s ≤ sst S P b := Nat.min_le_left _ _
    omega
  · omega
theorem shi_le (s b : Nat) : shi S P s b ≤ smt S P b := Nat.min_le_left _ _
theorem bx.le {rdy : Bool} {s : Nat} {c : Nat → Nat} (h : bx S P rdy s c) : ∀ b, b < 4 → c b ≤ smt S P b := fun b hb => Nat.le_trans (h b hb).2 (shi_le s b)
theorem bx.lt {rdy : Bool} {s : Nat} {c : Nat → Nat} (h : bx S P rdy s c) : ∀ b, b < 4 → c b - slo S P rdy s b < swd S P rdy s b := fun b hb => by
  have := h b hb
  unfold swd
  omega
theorem srk_lt {rdy : Bool} {s : Nat} {c : Nat → Nat} (h : bx S P rdy s c) : srk S P rdy s c < sprod (swd S P rdy s) 4 := by
  rw [sprod4]
  exact mrd_lt h.lt
theorem srk_inj {rdy : Bool} {s : Nat} {c c' : Nat → Nat} (h : bx S P rdy s c) (h' : bx S P rdy s c') (e : srk S P rdy s c = srk S P rdy s c') : ∀ b, b < 4 → c b = c' b := by
  intro b hb
  have := mrd_inj (fun b hb => h.lt b (by omega)) (fun b hb => h'.lt b (by omega)) e b hb
  have h1 := h b hb
  have h2 := h' b hb
  omega
/-- a state behind a charge stands later -/
theorem srk_up {rdy : Bool} {s : Nat} {c c' : Nat → Nat} (h : bx S P rdy s c) (h' : bx S P rdy s c') (hle : ∀ b, b < 4 → c b ≤ c' b) (hne : ∃ b, b < 4 ∧ c b ≠ c' b) : srk S P rdy s c < srk S P rdy s c' := by
  have h1 : srk S P rdy s c ≤ srk S P rdy s c' := mrd_le (fun b hb => by have := hle b hb; show c b - _ ≤ c' b - _; omega)
  apply Nat.lt_of_le_of_ne h1
  intro e
  obtain ⟨b, hb, hn⟩ := hne
  exact hn (srk_inj h h' e b hb)
theorem srk_first (rdy : Bool) (s : Nat) : srk S P rdy s (slo S P rdy s) = 0 := by
  unfold srk mrd
  simp only [Nat.sub_self, Nat.mul_zero, Nat.add_zero]
theorem bx_first (rdy : Bool) (s : Nat) : bx S P rdy s (slo S P rdy s) := fun b _ => ⟨Nat.le_refl _, lo_hi rdy s b⟩
/-- the state behind c -/
def snt (S : sS) (P : sP) (rdy : Bool) (s : Nat) (c : Nat → Nat) (b : Nat) : Nat → Nat := fun k => if k < b then slo S P rdy s k else if k = b then c k + 1 else c k
theorem snt_bx {rdy : Bool} {s : Nat} {c : Nat → Nat} (h : bx S P rdy s c) {b : Nat} (hb : c b < shi S P s b) : bx S P rdy s (snt S P rdy s c b) := by
  intro k hk
  have h1 := h k hk
  unfold snt
  by_cases k1 : k < b
  · rw [if_pos k1]; exact ⟨Nat.le_refl _, lo_hi rdy s k⟩
  · rw [if_neg k1]
    by_cases k2 : k = b
    · subst k2; rw [if_pos rfl]; omega
    · rw [if_neg k2]; exact h1
theorem snt_rk {rdy : Bool} {s : Nat} {c : Nat → Nat} (h : bx S P rdy s c) {b : Nat} (hb4 : b < 4) (hl : ∀ k, k < b → c k = shi S P s k) : srk S P rdy s (snt S P rdy s c b) = srk S P rdy s c + 1 := by
  have hf : ∀ k, k < 4 → k < b → snt S P rdy s c b k - slo S P rdy s k = 0 ∧ c k - slo S P rdy s k + 1 = swd S P rdy s k := fun k hk hkb => by
    have := lo_hi (S := S) (P := P) rdy s k
    have h2 := hl k hkb
    unfold snt swd
    rw [if_pos hkb]
    omega
  have he : ∀ k, k < 4 → k = b → snt S P rdy s c b k - slo S P rdy s k = c k - slo S P rdy s k + 1 := fun k hk hkb => by
    have h1 := h k hk
    unfold snt
    rw [if_neg (by omega), if_pos hkb]
    omega
  have hg : ∀ k, b < k → snt S P rdy s c b k = c k := fun k hk => by
    unfold snt
    rw [if_neg (by omega), if_neg (by omega)]
  unfold srk mrd
  simp only
  have : b = 0 ∨ b = 1 ∨ b = 2 ∨ b = 3 := by omega
  rcases this with rfl | rfl | rfl | rfl
  · rw [he 0 (by omega) rfl, hg 1 (by omega), hg 2 (by omega), hg 3 (by omega)]
    omega
  · rw [(hf 0 (by omega) (by omega)).1, he 1 (by omega) rfl, hg 2 (by omega), hg 3 (by omega)]
    rw [← mrd3 (hf 0 (by omega) (by omega)).2]
    congr 2
    omega
  · rw [(hf 0 (by omega) (by omega)).1, (hf 1 (by omega) (by omega)).1, he 2 (by omega) rfl, hg 3 (by omega)]
    rw [← mrd3 (hf 0 (by omega) (by omega)).2]
    congr 2
    rw [← mrd3 (hf 1 (by omega) (by omega)).2]
    congr 2
    omega
  · rw [(hf 0 (by omega) (by omega)).1, (hf 1 (by omega) (by omega)).1, (hf 2 (by omega) (by omega)).1, he 3 (by omega) rfl]
    rw [← mrd3 (hf 0 (by omega) (by omega)).2]
    congr 2
    rw [← mrd3 (hf 1 (by omega) (by omega)).2]
    congr 2
    rw [← mrd3 (hf 2 (by omega) (by omega)).2]
/-- the last state -/
theorem srk_last {rdy : Bool} {s : Nat} {c : Nat → Nat} (hl : ∀ k, k < 4 → c k = shi S P s k) : srk S P rdy s c + 1 = sprod (swd S P rdy s) 4 := by
  have hf : ∀ k, k < 4 → c k - slo S P rdy s k + 1 = swd S P rdy s k := fun k hk => by
    have := lo_hi (S := S) (P := P) rdy s k
    have h2 := hl k hk
    unfold swd
    omega
  rw [sprod4]
  unfold srk mrd
  simp only
  have e3 := hf 3 (by omega)
  rw [← mrd3 (hf 0 (by omega)), ← mrd3 (hf 1 (by omega)), ← mrd3 (hf 2 (by omega)), e3]
  simp only [Nat.zero_add]
end PLAN5
