/-! BEST, as a recursion over SLOTS and counts of charges -/
/-- comes, PLUGS, POWER, LIMIT, the BUSES that matter -/
abbrev sP : Type := (Nat → Nat) × Nat × Nat × Nat × Nat
def sP0 (S : sS) : sP := (scom S, S 3, S 4, S 5, 2 ^ S 1 - 1)
/-- LEVEL of a BUS behind c charges -/
def sfull (S : sS) (pow b : Nat) : Nat → Nat
  | 0 => slev S b
  | c + 1 => sfull S pow b c + sgain S pow b (sfull S pow b c)
def sgn (S : sS) (pow b c : Nat) : Nat := sgain S pow b (sfull S pow b c)
/-- what a set takes, of the first n BUSES -/
def stk (S : sS) (pow : Nat) (c : Nat → Nat) (set n : Nat) : Nat := ssum (fun b => if sbit set b = true then sgn S pow b (c b) else 0) n
def snx (c : Nat → Nat) (set : Nat) : Nat → Nat := fun b => if sbit set b = true then c b + 1 else c b
def sle (S : sS) (pow som : Nat) (c : Nat → Nat) : Nat := ssum (fun b => if sbit som b = true then sneed S b - sfull S pow b (c b) else 0) (S 1)
/-- can the set be charged in SLOT s -/
def sok (S : sS) (P : sP) (s : Nat) (c : Nat → Nat) (set : Nat) : Bool :=
  decide (spop set ≤ P.2.1) && decide (∀ b, b < S 1 → sbit set b = true → sbit P.2.2.2.2 b = true ∧ sthere (P.1 b) (sgo S b) s = true) && decide (stk S P.2.2.1 c set (S 1) ≤ P.2.2.2.1)
def slt3 (a b : Nat × Nat × Nat) : Bool := decide (a.1 < b.1) || (decide (a.1 = b.1) && (decide (a.2.1 < b.2.1) || (decide (a.2.1 = b.2.1) && decide (a.2.2 < b.2.2))))
/-- the first of the least among the sets below n that can be -/
def sbest (f : Nat → Nat × Nat × Nat) (ok : Nat → Bool) : Nat → Nat
  | 0 => 0
  | n + 1 => if ok n = true ∧ slt3 (f n) (f (sbest f ok n)) = true then n else sbest f ok n
/-- LACK, COST, CHARGES from a SLOT on, with r SLOTS left -/
def sdp (S : sS) (P : sP) : Nat → (Nat → Nat) → Nat × Nat × Nat
  | 0, c => (sle S P.2.2.1 P.2.2.2.2 c, 0, 0)
  | r + 1, c =>
    let f := fun set => ((sdp S P r (snx c set)).1, (sdp S P r (snx c set)).2.1 + stk S P.2.2.1 c set (S 1) * S (6 + (S 0 - (r + 1))), (sdp S P r (snx c set)).2.2 + spop set)
    f (sbest f (sok S P (S 0 - (r + 1)) c) (2 ^ S 1))
def sfx (S : sS) (P : sP) (r : Nat) (c : Nat → Nat) (set : Nat) : Nat × Nat × Nat := ((sdp S P r (snx c set)).1, (sdp S P r (snx c set)).2.1 + stk S P.2.2.1 c set (S 1) * S (6 + (S 0 - (r + 1))), (sdp S P r (snx c set)).2.2 + spop set)
def sarg (S : sS) (P : sP) (r : Nat) (c : Nat → Nat) : Nat := sbest (sfx S P r c) (sok S P (S 0 - (r + 1)) c) (2 ^ S 1)
theorem sdp_succ (S : sS) (P : sP) (r : Nat) (c : Nat → Nat) : sdp S P (r + 1) c = sfx S P r c (sarg S P r c) := rfl
/-- the counts at the beginning of a SLOT, by BEST -/
def scnt (S : sS) (P : sP) : Nat → (Nat → Nat)
  | 0 => fun _ => 0
  | s + 1 => snx (scnt S P s) (sarg S P (S 0 - (s + 1)) (scnt S P s))
def sbpl (S : sS) (P : sP) (s : Nat) : Nat := if s < S 0 then sarg S P (S 0 - (s + 1)) (scnt S P s) else 0
theorem sbest_lt (f : Nat → Nat × Nat × Nat) (ok : Nat → Bool) : ∀ n, 0 < n → sbest f ok n < n
  | 0, h => by omega
  | n + 1, _ => by
    unfold sbest
    split
    · omega
    · cases n with
      | zero => exact Nat.zero_lt_one
      | succ n => exact Nat.lt_succ_of_lt (sbest_lt f ok (n + 1) (by omega))
theorem sbest_ok (f : Nat → Nat × Nat × Nat) (ok : Nat → Bool) (h0 : ok 0 = true) : ∀ n, ok (sbest f ok n) = true
  | 0 => h0
  | n + 1 => by
    unfold sbest
    split
    · next h => exact h.1
    · exact sbest_ok f ok h0 n
theorem two_pow_pos (n : Nat) : 0 < 2 ^ n := Nat.pos_of_ne_zero (by have := Nat.two_pow_pos n; omega)
theorem sarg_lt (S : sS) (P : sP) (r : Nat) (c : Nat → Nat) : sarg S P r c < 2 ^ S 1 := sbest_lt _ _ _ (two_pow_pos _)
theorem sbpl_lt (S : sS) (P : sP) (s : Nat) : sbpl S P s < 2 ^ S 1 := by
  unfold sbpl
  split
  · exact sarg_lt S P _ _
  · exact two_pow_pos _
theorem slt3_irr (a : Nat × Nat × Nat) : slt3 a a = false := by simp [slt3]
theorem slt3_tr {a b c : Nat × Nat × Nat} (h1 : slt3 a b = true) (h2 : slt3 b c = true) : slt3 a c = true := by
  simp only [slt3, Bool.or_eq_true, Bool.and_eq_true, decide_eq_true_eq] at *
  omega
theorem slt3_nlt {a b c : Nat × Nat × Nat} (h1 : slt3 a b = false) (h2 : slt3 b c = false) : slt3 a c = false := by
  simp only [slt3, Bool.or_eq_false_iff, Bool.and_eq_false_iff, decide_eq_false_iff_not] at *
  omega
/-- nothing that can be is less -/
theorem sbest_min (f : Nat → Nat × Nat × Nat) (ok : Nat → Bool) : ∀ n k, k < n → ok k = true → slt3 (f k) (f (sbest f ok n)) = false
  | 0, k, h, _ => by omega
  | n + 1, k, h, hk => by
    unfold sbest
    by_cases hc : ok n = true ∧ slt3 (f n) (f (sbest f ok n)) = true
    · rw [if_pos hc]
      by_cases hkn : k = n
      · subst hkn; exact slt3_irr _
      · have h1 := sbest_min f ok n k (by omega) hk
        cases h2 : slt3 (f k) (f n) with
        | false => rfl
        | true => rw [slt3_tr h2 hc.2] at h1; cases h1
    · rw [if_neg hc]
      by_cases hkn : k = n
      · subst hkn
        cases h2 : slt3 (f k) (f (sbest f ok k)) with
        | false => rfl
        | true => exact absurd ⟨hk, h2⟩ hc
      · exact sbest_min f ok n k (by omega) hk
/-- the answer is the first of the least -/
theorem sbest_eq (f g : Nat → Nat × Nat × Nat) (ok ok' : Nat → Bool) : ∀ n, (∀ k, k < n → ok k = ok' k) → (∀ k, k < n → f k = g k) → 0 < n → sbest f ok n = sbest g ok' n
  | 0, _, _, h => by omega
  | n + 1, h1, h2, _ => by
    cases n with
    | zero =>
      unfold sbest sbest
      split <;> split <;> rfl
    | succ n =>
      have ih := sbest_eq f g ok ok' (n + 1) (fun k hk => h1 k (by omega)) (fun k hk => h2 k (by omega)) (by omega)
      have hb := sbest_lt g ok' (n + 1) (by omega)
      rw [show sbest f ok (n + 1 + 1) = if ok (n + 1) = true ∧ slt3 (f (n + 1)) (f (sbest f ok (n + 1))) = true then n + 1 else sbest f ok (n + 1) from rfl, show sbest g ok' (n + 1 + 1) = if ok' (n + 1) = true ∧ slt3 (g (n + 1)) (g (sbest g ok' (n + 1))) = true then n + 1 else sbest g ok' (n + 1) from rfl]
      rw [ih, h1 (n + 1) (by omega), h2 (n + 1) (by omega), h2 _ (by omega)]
