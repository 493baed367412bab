/-! rules -/
section RULE1
variable {S : sS} {d : Nat}
theorem x_fc6 (hw : sWF S) {M : mm_M} (hv : vD M d S) {b t : Nat} (hb : b < S 1) (ht : t ≤ scap S b) : ∀ (n k m lev : Nat), n + m = 200 → n < k → lev ≤ scap S b → l0_fewestCharges_6 k d (nI b) (nI t) (nI lev) (nI m) M = some (nI (m + sfew S (S 4) b t n lev), M) := by
  have hcap : scap S b ≤ 200 := (hw.bus b hb).2.1.2
  have hpow := hw.pow
  intro n
  induction n with
  | zero =>
    intro k m lev hn hk hl
    obtain ⟨k, rfl⟩ : ∃ j, k = j + 1 := ⟨k - 1, by omega⟩
    unfold l0_fewestCharges_6 b0_fewestCharges_6 l0_fewestCharges_44
    obtain rfl : m = 200 := by omega
    simp only [nx_l200, nx_le (show t < 2 ^ 31 by omega) (show lev < 2 ^ 31 by omega), nx_le (show 200 < 2 ^ 31 by omega) (show 200 < 2 ^ 31 by omega)]
    by_cases h : t ≤ lev
    · rw [if_pos h]; rfl
    · rw [if_neg h, if_pos (Nat.le_refl _)]; rfl
  | succ n ih =>
    intro k m lev hn hk hl
    obtain ⟨k, rfl⟩ : ∃ j, k = j + 1 := ⟨k - 1, by omega⟩
    have hg := sgain_le (S := S) (S 4) b lev
    unfold l0_fewestCharges_6 b0_fewestCharges_6 l0_fewestCharges_44
    simp only [nx_l200, nx_le (show t < 2 ^ 31 by omega) (show lev < 2 ^ 31 by omega), nx_le (show 200 < 2 ^ 31 by omega) (show m < 2 ^ 31 by omega)]
    by_cases h : t ≤ lev
    · rw [if_pos h]
      have : sfew S (S 4) b t (n + 1) lev = 0 := by simp only [sfew]; rw [if_pos h]
      rw [this, Nat.add_zero]
    · rw [if_neg h, if_neg (by omega), nx_l1, aI_in (by omega) (by omega), hv.pow, x_gain hv hw hb hl (by omega), cI_some, bI_eq, nx_add, nx_add, ih k (m + 1) _ (by omega) (by omega) (by omega)]
      have : sfew S (S 4) b t (n + 1) lev = sfew S (S 4) b t n (lev + sgain S (S 4) b lev) + 1 := by simp only [sfew]; rw [if_neg h]
      rw [this]
      congr 3
      omega
theorem x_fewest (hw : sWF S) {M : mm_M} (hv : vD M d S) {b t lev : Nat} (hb : b < S 1) (ht : t ≤ scap S b) (hl : lev ≤ scap S b) : f0_fewestCharges d (nI b) (nI lev) (nI t) M = some (nI (sslots S (S 4) b lev t), M) := by
  unfold f0_fewestCharges
  rw [if_pos hv.ok, show (0 : Int32) = nI 0 from rfl, x_fc6 hw hv hb ht 200 FU 0 lev (by omega) (by have := FU_big; omega) hl, Nat.zero_add]
  rfl
theorem y_so6 (hw : sWF S) {M : mm_M} (hv : vM M S) {pow : Nat} (hp1 : 1 ≤ pow) (hp : pow < 1000) (hpw : mI M 46 12 = nI pow) {b t : Nat} (hb : b < S 1) (ht : t ≤ scap S b) : ∀ (n k m lev : Nat), t - lev ≤ n → n < k → n + m < 10000 → lev ≤ scap S b → l7_slotsOf_6 k (nI b) (nI t) (nI m) (nI lev) M = some (nI (m + sfew S pow b t n lev), M) := by
  have hcap : scap S b ≤ 200 := (hw.bus b hb).2.1.2
  intro n
  induction n with
  | zero =>
    intro k m lev hn hk hm hl
    obtain ⟨k, rfl⟩ : ∃ j, k = j + 1 := ⟨k - 1, by omega⟩
    unfold l7_slotsOf_6 b7_slotsOf_6
    rw [if_pos (by rw [nx_le (by omega) (by omega)]; omega)]
    rfl
  | succ n ih =>
    intro k m lev hn hk hm hl
    obtain ⟨k, rfl⟩ : ∃ j, k = j + 1 := ⟨k - 1, by omega⟩
    have hg := sgain_le (S := S) pow b lev
    unfold l7_slotsOf_6 b7_slotsOf_6
    simp only [nx_le (show t < 2 ^ 31 by omega) (show lev < 2 ^ 31 by omega)]
    by_cases h : t ≤ lev
    · rw [if_pos h]
      have : sfew S pow b t (n + 1) lev = 0 := by simp only [sfew]; rw [if_pos h]
      rw [this, Nat.add_zero]
    · have hg1 := sgain_pos hw (lev := lev) hb hp1 (by omega)
      rw [if_neg h, y_takes hv hw hb hl hp hpw, cI_some, bI_eq, nx_l1, nx_add, nx_add, ih k (m + 1) _ (by omega) (by omega) (by omega) (by omega)]
      have : sfew S pow b t (n + 1) lev = sfew S pow b t n (lev + sgain S pow b lev) + 1 := by simp only [sfew]; rw [if_neg h]
      rw [this]
      congr 3
      omega
theorem y_slotsOf (hw : sWF S) {M : mm_M} (hv : vM M S) {pow : Nat} (hp1 : 1 ≤ pow) (hp : pow < 1000) (hpw : mI M 46 12 = nI pow) {b t lev : Nat} (hb : b < S 1) (ht : t ≤ scap S b) (hl : lev ≤ scap S b) : f7_slotsOf (nI b) (nI lev) (nI t) M = some (nI (sslots S pow b lev t), M) := by
  have hcap : scap S b ≤ 200 := (hw.bus b hb).2.1.2
  unfold f7_slotsOf
  rw [show (0 : Int32) = nI 0 from rfl, y_so6 hw hv hp1 hp hpw hb ht 200 FU 0 lev (by omega) (by have := FU_big; omega) (by omega) hl, Nat.zero_add]
  rfl
/-- the rank of a BUS by a RULE -/
def srank (S : sS) (rule s : Nat) (lev : Nat → Nat) (b : Nat) : Int32 := if rule = 0 then nI b else if rule = 1 then nI (sgo S b) else if rule = 2 then nI (lev b) - nI (sneed S b) else nI (sgo S b) - nI s - nI (sslots S (S 4) b (lev b) (sneed S b))
def swait (S : sS) (s : Nat) (lev : Nat → Nat) : Nat := sset (fun b => decide (b < S 1) && sthere (scom S b) (sgo S b) s && decide (lev b < sneed S b)) 4
theorem swait_bit {s : Nat} {lev : Nat → Nat} {b : Nat} (hb : b < 4) : sbit (swait S s lev) b = true ↔ b < S 1 ∧ sthere (scom S b) (sgo S b) s = true ∧ lev b < sneed S b := by
  unfold swait
  rw [sset_bit _ hb, Bool.and_eq_true, Bool.and_eq_true, decide_eq_true_eq, decide_eq_true_eq]
  constructor
  · rintro ⟨⟨h1, h2⟩, h3⟩; exact ⟨h1, h2, h3⟩
  · rintro ⟨h1, h2, h3⟩; exact ⟨⟨h1, h2⟩, h3⟩
-- the first of those that wait
def sfs (rk : Nat → Int32) (w : Nat) : Nat → Nat → Nat → Nat
  | 0, _, f => f
  | k + 1, b, f => if sbit w b = true ∧ rk b < rk f then sfs rk w k (b + 1) b else sfs rk w k (b + 1) f
def sfst (rk : Nat → Int32) (w : Nat) : Nat := sfs rk w (3 - slow w) (slow w + 1) (slow w)
/-- m is the first of w -/
def isF (rk : Nat → Int32) (w m : Nat) : Prop := m < 4 ∧ sbit w m = true ∧ ∀ b, b < 4 → sbit w b = true → (rk m).toInt ≤ (rk b).toInt ∧ ((rk m).toInt = (rk b).toInt → m ≤ b)
theorem isF_un {rk : Nat → Int32} {w m m' : Nat} (h : isF rk w m) (h' : isF rk w m') : m = m' := by
  have h1 := h.2.2 m' h'.1 h'.2.1
  have h2 := h'.2.2 m h.1 h.2.1
  have := h1.2 (by omega)
  have := h2.2 (by omega)
  omega
theorem sfs_ok (rk : Nat → Int32) (w : Nat) : ∀ k b f, b + k = 4 → f < b → sbit w f = true → (∀ j, j < b → sbit w j = true → (rk f).toInt ≤ (rk j).toInt ∧ ((rk f).toInt = (rk j).toInt → f ≤ j)) → isF rk w (sfs rk w k b f)
  | 0, b, f, hk, hf, hs, h => ⟨by show f < 4; omega, hs, fun j hj => h j (by omega)⟩
  | k + 1, b, f, hk, hf, hs, h => by
    show isF rk w (if sbit w b = true ∧ rk b < rk f then sfs rk w k (b + 1) b else sfs rk w k (b + 1) f)
    by_cases hc : sbit w b = true ∧ rk b < rk f
    · rw [if_pos hc]
      have hlt := Int32.lt_iff_toInt_lt.mp hc.2
      refine sfs_ok rk w k (b + 1) b (by omega) (by omega) hc.1 (fun j hj hs' => ?_)
      by_cases hjb : j = b
      · subst hjb; exact ⟨Int.le_refl _, fun _ => Nat.le_refl _⟩
      · have := h j (by omega) hs'
        exact ⟨by omega, fun _ => by omega⟩
    · rw [if_neg hc]
      refine sfs_ok rk w k (b + 1) f (by omega) (by omega) hs (fun j hj hs' => ?_)
      by_cases hjb : j = b
      · subst hjb
        have : ¬ rk j < rk f := fun z => hc ⟨hs', z⟩
        rw [Int32.lt_iff_toInt_lt] at this
        exact ⟨by omega, fun _ => by omega⟩
      · exact h j (by omega) hs'
theorem low_least : ∀ w : Fin 16, ∀ k : Fin 4, sbit w.1 k.1 = true → slow w.1 ≤ k.1 := by decide +kernel
theorem sfst_ok (rk : Nat → Int32) {w : Nat} (hw : w < 16) (h0 : w ≠ 0) : isF rk w (sfst rk w) := by
  obtain ⟨-, -, l3, -, l5, -, -⟩ := low_tab ⟨w, hw⟩ h0
  simp only at l3 l5
  refine sfs_ok rk w _ _ _ (by omega) (by omega) l5 (fun j hj hs => ?_)
  have := low_least ⟨w, hw⟩ ⟨j, by omega⟩ hs
  simp only at this
  obtain rfl : j = slow w := by omega
  exact ⟨Int.le_refl _, fun _ => Nat.le_refl _⟩
theorem x_fo10 {rk : Nat → Int32} {w : Nat} (hw : w < 16) {M : mm_M} (h44 : ∀ b, b < 4 → sbit w b = true → mI M 44 b = rk b) : ∀ (k b f n : Nat), b + k = 4 → k < n → f < 4 → sbit w f = true → l4_firstOf_10 n (nI w) (nI f) (nI b) M = some (nI (sfs rk w k b f), M) := by
  intro k
  induction k with
  | zero =>
    intro b f n hk hn hf hs
    obtain ⟨n, rfl⟩ : ∃ j, n = j + 1 := ⟨n - 1, by omega⟩
    unfold l4_firstOf_10 b4_firstOf_10
    rw [nx_l4, if_pos (by rw [nx_le (by omega) (by omega)]; omega)]
    rfl
  | succ k ih =>
    intro b f n hk hn hf hs
    obtain ⟨n, rfl⟩ : ∃ j, n = j + 1 := ⟨n - 1, by omega⟩
    have e : sfs rk w (k + 1) b f = if sbit w b = true ∧ rk b < rk f then sfs rk w k (b + 1) b else sfs rk w k (b + 1) f := rfl
    unfold l4_firstOf_10 b4_firstOf_10 l4_firstOf_41
    rw [nx_l4, if_neg (by rw [nx_le (by omega) (by omega)]; omega)]
    simp only [bit_has' hw (show b < 4 by omega)]
    by_cases c1 : sbit w b = true
    · rw [if_pos c1, aI_in (by omega) (by omega), h44 b (by omega) c1, aI_in (by omega) (by omega), h44 f hf hs, nx_l1, nx_add]
      by_cases c2 : rk f ≤ rk b
      · rw [if_pos c2, ih (b + 1) f n (by omega) (by omega) hf hs, e, if_neg (fun z => Int32.not_lt.mpr c2 z.2)]
      · rw [if_neg c2, ih (b + 1) b n (by omega) (by omega) (by omega) c1, e, if_pos ⟨c1, Int32.not_le.mp c2⟩]
    · rw [if_neg c1, nx_l1, nx_add, ih (b + 1) f n (by omega) (by omega) hf hs, e, if_neg (fun z => c1 z.1)]
theorem x_firstOf {rk : Nat → Int32} {w : Nat} (hw : w < 16) (h0 : w ≠ 0) {M : mm_M} (h44 : ∀ b, b < 4 → sbit w b = true → mI M 44 b = rk b) : f4_firstOf (nI w) M = some (nI (sfst rk w), M) := by
  obtain ⟨-, -, l3, -, l5, -, -⟩ := low_tab ⟨w, hw⟩ h0
  simp only at l3 l5
  unfold f4_firstOf
  rw [aT_in hw (by omega), show mm_ro 2 w = nI (slow w) from first_tab ⟨w, hw⟩, bI_eq, nx_l1, nx_add]
  exact x_fo10 hw h44 _ _ _ _ (by omega) (by have := FU_big; omega) l3 l5
/-- those that are charged, one after the other -/
def ssel (S : sS) (lev : Nat → Nat) (rk : Nat → Int32) : Nat → Nat → Nat → Nat → Nat
  | 0, _, set, _ => set
  | n + 1, w, set, all => if w = 0 ∨ S 3 ≤ spop set then set else if S 5 < all + sgain S (S 4) (sfst rk w) (lev (sfst rk w)) then ssel S lev rk n (w - 2 ^ sfst rk w) set all else ssel S lev rk n (w - 2 ^ sfst rk w) (set + 2 ^ sfst rk w) (all + sgain S (S 4) (sfst rk w) (lev (sfst rk w)))
def schoose (S : sS) (rule s : Nat) (lev : Nat → Nat) : Nat := ssel S lev (srank S rule s lev) 4 (swait S s lev) 0 0
theorem bit_addt : ∀ m : Fin 16, ∀ b : Fin 4, sbit m.1 b.1 = false → m.1 + 2 ^ b.1 < 16 ∧ (nI m.1 ||| nI (2 ^ b.1)) = nI (m.1 + 2 ^ b.1) ∧ spop (m.1 + 2 ^ b.1) = spop m.1 + 1 ∧ ∀ k : Fin 4, sbit (m.1 + 2 ^ b.1) k.1 = (sbit m.1 k.1 || decide (k = b)) := by decide +kernel
theorem bit_add {m b : Nat} (hm : m < 16) (hb : b < 4) (h : sbit m b = false) : m + 2 ^ b < 16 ∧ (nI m ||| nI (2 ^ b)) = nI (m + 2 ^ b) ∧ spop (m + 2 ^ b) = spop m + 1 ∧ ∀ k, k < 4 → sbit (m + 2 ^ b) k = (sbit m k || decide (k = b)) := by
  obtain ⟨q1, q2, q3, q4⟩ := bit_addt ⟨m, hm⟩ ⟨b, hb⟩ h
  refine ⟨q1, q2, q3, fun k hk => ?_⟩
  have := q4 ⟨k, hk⟩
  simp only [Fin.mk.injEq] at this
  exact this
theorem bit_subt : ∀ m : Fin 16, ∀ b : Fin 4, sbit m.1 b.1 = true → (nI m.1 &&& (nI (2 ^ b.1) ^^^ (-1))) = nI (m.1 - 2 ^ b.1) := by decide +kernel
theorem bit_subn {m b : Nat} (hm : m < 16) (hb : b < 4) (h : sbit m b = true) : m - 2 ^ b < m ∧ (nI m &&& (nI (2 ^ b) ^^^ (-1))) = nI (m - 2 ^ b) ∧ ∀ k, k < 4 → sbit (m - 2 ^ b) k = (sbit m k && decide (k ≠ b)) := by
  obtain ⟨q1, q2, q3⟩ := bit_sub ⟨m, hm⟩ ⟨b, hb⟩ h
  refine ⟨q1, bit_subt ⟨m, hm⟩ ⟨b, hb⟩ h, fun k hk => ?_⟩
  have := q3 ⟨k, hk⟩
  simp only [ne_eq, Fin.mk.injEq] at this
  exact this
/-- what is chosen waited -/
theorem ssel_sub {lev : Nat → Nat} {rk : Nat → Int32} : ∀ n w set all, w < 16 → set < 16 → (∀ b, b < 4 → sbit w b = true → sbit set b = false) → ssel S lev rk n w set all < 16 ∧ ∀ b, b < 4 → sbit (ssel S lev rk n w set all) b = true → sbit w b = true ∨ sbit set b = true
  | 0, w, set, all, hw, hs, _ => ⟨hs, fun b _ h => Or.inr h⟩
  | n + 1, w, set, all, hw, hs, hd => by
    show (if w = 0 ∨ S 3 ≤ spop set then set else _) < 16 ∧ ∀ b, b < 4 → sbit (if w = 0 ∨ S 3 ≤ spop set then set else _) b = true → _
    by_cases c1 : w = 0 ∨ S 3 ≤ spop set
    · rw [if_pos c1]
      exact ⟨hs, fun b _ h => Or.inr h⟩
    · rw [if_neg c1]
      have hf := sfst_ok rk hw (fun z => c1 (Or.inl z))
      obtain ⟨q1, q2, q3⟩ := bit_subn hw hf.1 hf.2.1
      have hd' : ∀ b, b < 4 → sbit (w - 2 ^ sfst rk w) b = true → sbit w b = true ∧ b ≠ sfst rk w := fun b hb h => by
        rw [q3 b hb, Bool.and_eq_true, decide_eq_true_eq] at h
        exact h
      split
      · have := ssel_sub (lev := lev) (rk := rk) n (w - 2 ^ sfst rk w) set all (by omega) hs (fun b hb h => hd b hb (hd' b hb h).1)
        exact ⟨this.1, fun b hb h => (this.2 b hb h).imp (fun z => (hd' b hb z).1) (fun z => z)⟩
      · obtain ⟨p1, p2, p3, p4⟩ := bit_add hs hf.1 (hd _ hf.1 hf.2.1)
        have := ssel_sub (lev := lev) (rk := rk) n (w - 2 ^ sfst rk w) (set + 2 ^ sfst rk w) (all + sgain S (S 4) (sfst rk w) (lev (sfst rk w))) (by omega) p1 (fun b hb h => by
          rw [p4 b hb, hd b hb (hd' b hb h).1, decide_eq_false (hd' b hb h).2]
          rfl)
        refine ⟨this.1, fun b hb h => ?_⟩
        rcases this.2 b hb h with z | z
        · exact Or.inl (hd' b hb z).1
        · rw [p4 b hb, Bool.or_eq_true, decide_eq_true_eq] at z
          rcases z with z | z
          · exact Or.inr z
          · subst z; exact Or.inl hf.2.1
theorem swait_lt (s : Nat) (lev : Nat → Nat) : swait S s lev < 16 := sset_lt _ 4
theorem schoose_sub (rule s : Nat) (lev : Nat → Nat) : schoose S rule s lev < 16 ∧ ∀ b, b < 4 → sbit (schoose S rule s lev) b = true → sbit (swait S s lev) b = true := by
  have := ssel_sub (S := S) (lev := lev) (rk := srank S rule s lev) 4 (swait S s lev) 0 0 (swait_lt s lev) (by omega) (fun b _ _ => sbit0 b)
  exact ⟨this.1, fun b hb h => (this.2 b hb h).resolve_right (by rw [sbit0]; exact Bool.noConfusion)⟩
end RULE1
