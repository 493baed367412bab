/-! numbers: an int of the machine as nI n -/
theorem nx_lit0 : (0 : Int32) = nI 0 := rfl
theorem nx_add (a b : Nat) : nI a + nI b = nI (a + b) := by
  unfold nI; exact (Int32.ofNat_add a b).symm
theorem nx_mul (a b : Nat) : nI a * nI b = nI (a * b) := by
  unfold nI; exact (Int32.ofNat_mul a b).symm
theorem nx_sub {a b : Nat} (h : b ≤ a) : nI a - nI b = nI (a - b) := by
  have e : a = (a - b) + b := by omega
  have h2 : nI a = nI (a - b) + nI b := by rw [nx_add, ← e]
  rw [h2, Int32.add_sub_cancel]
theorem nx_toInt {n : Nat} (h : n < 2 ^ 31) : (nI n).toInt = (n : Int) := nI_toInt h
theorem nx_lt {a b : Nat} (ha : a < 2 ^ 31) (hb : b < 2 ^ 31) : (nI a < nI b) = (a < b) := by
  rw [Int32.lt_iff_toInt_lt, nI_toInt ha, nI_toInt hb]
  exact propext Int.ofNat_lt
theorem nx_le {a b : Nat} (ha : a < 2 ^ 31) (hb : b < 2 ^ 31) : (nI a ≤ nI b) = (a ≤ b) := by
  rw [Int32.le_iff_toInt_le, nI_toInt ha, nI_toInt hb]
  exact propext Int.ofNat_le
theorem nx_eq {a b : Nat} (ha : a < 2 ^ 31) (hb : b < 2 ^ 31) : (nI a = nI b) = (a = b) := by
  apply propext
  constructor
  · intro h
    have := congrArg Int32.toInt h
    rw [nI_toInt ha, nI_toInt hb] at this
    omega
  · intro h; rw [h]
theorem nx_cl {n : Nat} (h : n < 2 ^ 31) : (nI n).toNatClampNeg = n := nI_clamp h
theorem nx_inb {i n : Nat} (h : i < 2 ^ 31) : inb (nI i) n = decide (i < n) := by
  unfold inb
  rw [nI_clamp h]
  have : ¬ nI i < 0 := nI_pos h
  simp [this]
/-- a number between 0 and n -/
theorem nx_of {x : Int32} (h : ¬ x < 0) : ∃ b : Nat, b < 2 ^ 31 ∧ x = nI b := by
  refine ⟨x.toNatClampNeg, ?_, (nn_nI h).symm⟩
  have h0 : (0 : Int) ≤ x.toInt := by
    have := Int32.not_lt.mp h
    simpa using Int32.le_iff_toInt_le.mp this
  have hb : x.toInt < 2 ^ 31 := Int32.toInt_lt x
  have e : x.toNatClampNeg = x.toInt.toNat := rfl
  omega
theorem nx_rng {x : Int32} {n : Nat} (hn : n < 2 ^ 31) (h : ¬ x < 0) (h2 : ¬ nI n ≤ x) : ∃ b : Nat, b < n ∧ x = nI b := by
  obtain ⟨b, hb, rfl⟩ := nx_of h
  refine ⟨b, ?_, rfl⟩
  rw [nx_le hn hb] at h2
  omega
theorem nx_lt0 {n : Nat} (h : n < 2 ^ 31) : (nI n < 0) = False := eq_false (nI_pos h)
theorem nx_neg1 {n : Nat} (h : n < 2 ^ 31) : (nI n = -1) = False := by
  apply eq_false
  intro e
  have := congrArg Int32.toInt e
  rw [nI_toInt h] at this
  have h2 : (-1 : Int32).toInt = -1 := by decide
  omega
theorem rZ0 (M : mm_M) : rZ 0 M = some (0, M) := rfl
theorem rZ1 (M : mm_M) : rZ 1 M = some (1, M) := rfl
theorem nx_z1 : (1 : Int32) = 0 ↔ False := by decide
-- reading behind a writing
theorem mI_sI (M : mm_M) (c k : Nat) (v : Int32) (a b : Nat) : mI (sI M c k v) a b = if a = c ∧ b = k then v else mI M a b := by
  unfold mI sI sR uR upd
  by_cases h1 : a = c
  · subst h1
    by_cases h2 : b = k
    · subst h2; simp
    · simp [h2]
  · simp [h1]
theorem mI_sI_eq (M : mm_M) (c k : Nat) (v : Int32) : mI (sI M c k v) c k = v := by rw [mI_sI]; simp
theorem mI_sI_c (M : mm_M) {c a : Nat} (k : Nat) (v : Int32) (b : Nat) (h : a ≠ c) : mI (sI M c k v) a b = mI M a b := by rw [mI_sI]; simp [h]
theorem mI_sI_k (M : mm_M) {k b : Nat} (c : Nat) (v : Int32) (h : b ≠ k) : mI (sI M c k v) c b = mI M c b := by rw [mI_sI]; simp [h]
theorem mI_sR (M : mm_M) (c : Nat) (r : Nat → Int32) (a b : Nat) : mI (sR M c r) a b = if a = c then r b else mI M a b := by
  unfold mI sR uR
  by_cases h1 : a = c <;> simp [h1]
theorem mI_sL (M : mm_M) (c k : Nat) (v : Int64) (a b : Nat) : mI (sL M c k v) a b = mI M a b := rfl
theorem mL_sI (M : mm_M) (c k : Nat) (v : Int32) (a b : Nat) : mL (sI M c k v) a b = mL M a b := rfl
theorem mL_sL (M : mm_M) (c k : Nat) (v : Int64) (a b : Nat) : mL (sL M c k v) a b = if a = c ∧ b = k then v else mL M a b := by
  unfold mL sL uR vp_updL
  by_cases h1 : a = c
  · subst h1
    by_cases h2 : b = k
    · subst h2; simp
    · simp [h2]
  · simp [h1]
theorem mNow_sI (M : mm_M) (c k : Nat) (v : Int32) : mNow (sI M c k v) = mNow M := rfl
theorem mDra_sI (M : mm_M) (c k : Nat) (v : Int32) : mDra (sI M c k v) = mDra M := rfl
theorem mDep_sI (M : mm_M) (c k : Nat) (v : Int32) : mDep (sI M c k v) = mDep M := rfl
-- combinators, where the place is in
theorem aI_in {α : Type} {c n i : Nat} {M : mm_M} {e : Int32 → Option α} (hi : i < n) (hn : n < 2 ^ 31) : aI c n (nI i) M e = e (mI M c i) := by
  unfold aI
  rw [nx_inb (by omega), nx_cl (by omega)]
  simp [hi]
theorem aL_in {α : Type} {c n i : Nat} {M : mm_M} {e : Int64 → Option α} (hi : i < n) (hn : n < 2 ^ 31) : aL c n (nI i) M e = e (mL M c i) := by
  unfold aL
  rw [nx_inb (by omega), nx_cl (by omega)]
  simp [hi]
theorem aT_in {α : Type} {t n i : Nat} {e : Int32 → Option α} (hi : i < n) (hn : n < 2 ^ 31) : aT t n (nI i) e = e (mm_ro t i) := by
  unfold aT
  rw [nx_inb (by omega), nx_cl (by omega)]
  simp [hi]
theorem uI_in {α : Type} {c n i : Nat} {v : Int32} {M : mm_M} {e : mm_M → Option α} (hi : i < n) (hn : n < 2 ^ 31) : uI c n (nI i) v M e = e (sI M c i v) := by
  unfold uI
  rw [nx_inb (by omega), nx_cl (by omega)]
  simp [hi]
theorem uB_in {α : Type} {c n i : Nat} {v : Int32} {M : mm_M} {e : mm_M → Option α} (hi : i < n) (hn : n < 2 ^ 31) : uB c n (nI i) v M e = e (sI M c i v.toInt8.toInt32) := by
  unfold uB
  rw [nx_inb (by omega), nx_cl (by omega)]
  simp [hi]
theorem uL_in {α : Type} {c n i : Nat} {v : Int64} {M : mm_M} {e : mm_M → Option α} (hi : i < n) (hn : n < 2 ^ 31) : uL c n (nI i) v M e = e (sL M c i v) := by
  unfold uL
  rw [nx_inb (by omega), nx_cl (by omega)]
  simp [hi]
theorem cI_some {β : Type} {r : Int32} {M : mm_M} {e : Int32 → mm_M → Option β} : cI (some (r, M)) e = e r M := rfl
theorem cL_some {β : Type} {r : Int64} {M : mm_M} {e : Int64 → mm_M → Option β} : cL (some (r, M)) e = e r M := rfl
theorem cV_some {β : Type} {M : mm_M} {e : mm_M → Option β} : cV (some M) e = e M := rfl
theorem bI_eq {α : Type} {v : Int32} {e : Int32 → Option α} : bI v e = e v := rfl
theorem bL_eq {α : Type} {v : Int64} {e : Int64 → Option α} : bL v e = e v := rfl
theorem bN_eq {α : Type} {v : Nat} {e : Nat → Option α} : bN v e = e v := rfl
theorem bM_eq {α : Type} {v : mm_M} {e : mm_M → Option α} : bM v e = e v := rfl
theorem nx_l1 : (1 : Int32) = nI 1 := rfl
theorem nx_l2 : (2 : Int32) = nI 2 := rfl
theorem nx_l3 : (3 : Int32) = nI 3 := rfl
theorem nx_l4 : (4 : Int32) = nI 4 := rfl
theorem nx_l5 : (5 : Int32) = nI 5 := rfl
theorem nx_l6 : (6 : Int32) = nI 6 := rfl
theorem nx_l8 : (8 : Int32) = nI 8 := rfl
theorem nx_l9 : (9 : Int32) = nI 9 := rfl
theorem nx_l10 : (10 : Int32) = nI 10 := rfl
theorem nx_l14 : (14 : Int32) = nI 14 := rfl
theorem nx_l50 : (50 : Int32) = nI 50 := rfl
theorem nx_l74 : (74 : Int32) = nI 74 := rfl
theorem nx_l99 : (99 : Int32) = nI 99 := rfl
theorem nx_l100 : (100 : Int32) = nI 100 := rfl
theorem nx_l200 : (200 : Int32) = nI 200 := rfl
theorem mx_nI {a b : Nat} (ha : a < 2 ^ 31) (hb : b < 2 ^ 31) : mx (nI a) (nI b) = nI (max a b) := by
  unfold mx
  simp only [nx_lt ha hb]
  by_cases h : a < b
  · rw [if_pos h, Nat.max_eq_right (by omega)]
  · rw [if_neg h, Nat.max_eq_left (by omega)]
theorem mi_nI {a b : Nat} (ha : a < 2 ^ 31) (hb : b < 2 ^ 31) : mi (nI a) (nI b) = nI (min a b) := by
  unfold mi
  simp only [nx_lt hb ha]
  by_cases h : b < a
  · rw [if_pos h, Nat.min_eq_right (by omega)]
  · rw [if_neg h, Nat.min_eq_left (by omega)]
theorem nx_pred {a : Nat} (h : 0 < a) : nI a + (-1) = nI (a - 1) := by
  have : nI a + (-1) = nI a - nI 1 := by rw [Int32.sub_eq_add_neg]; rfl
  rw [this, nx_sub h]
