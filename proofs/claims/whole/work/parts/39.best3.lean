/-! the planner's own recursion over states that lie in boxes, and why it is BEST -/
def nbest (g : Nat → Nat) (ok : Nat → Bool) : Nat → Nat
  | 0 => 0
  | n + 1 => if ok n = true ∧ g n < g (nbest g ok n) then n else nbest g ok n
def nok (ok : Nat → Bool) (n k : Nat) : Bool := decide (k < n) && (ok k || decide (k = 0))
theorem nok_iff {ok : Nat → Bool} {n k : Nat} : nok ok n k = true ↔ k < n ∧ (ok k = true ∨ k = 0) := by
  unfold nok
  rw [Bool.and_eq_true, Bool.or_eq_true, decide_eq_true_eq, decide_eq_true_eq]
theorem nbest_iB (g : Nat → Nat) (ok : Nat → Bool) : ∀ n, iB g (nok ok (n + 1)) (nbest g ok (n + 1))
  | 0 => by
    have e : nbest g ok 1 = 0 := by
      show (if ok 0 = true ∧ g 0 < g 0 then 0 else 0) = 0
      split <;> rfl
    rw [e]
    refine ⟨nok_iff.mpr ⟨by omega, Or.inr rfl⟩, fun k hk => ?_, fun k hk => by omega⟩
    have := (nok_iff.mp hk).1
    rw [show k = 0 by omega]
    exact Nat.le_refl _
  | n + 1 => by
    have ih := nbest_iB g ok n
    have i1 := nok_iff.mp ih.1
    have e : nbest g ok (n + 1 + 1) = if ok (n + 1) = true ∧ g (n + 1) < g (nbest g ok (n + 1)) then n + 1 else nbest g ok (n + 1) := rfl
    by_cases hc : ok (n + 1) = true ∧ g (n + 1) < g (nbest g ok (n + 1))
    · rw [e, if_pos hc]
      refine ⟨nok_iff.mpr ⟨by omega, Or.inl hc.1⟩, fun k hk => ?_, fun k hk hok => ?_⟩
      · have h := nok_iff.mp hk
        by_cases hkn : k = n + 1
        · subst hkn; exact Nat.le_refl _
        · have := ih.2.1 k (nok_iff.mpr ⟨by omega, h.2⟩)
          omega
      · have h := nok_iff.mp hok
        have := ih.2.1 k (nok_iff.mpr ⟨by omega, h.2⟩)
        omega
    · rw [e, if_neg hc]
      refine ⟨nok_iff.mpr ⟨by omega, i1.2⟩, fun k hk => ?_, fun k hk hok => ?_⟩
      · have h := nok_iff.mp hk
        by_cases hkn : k = n + 1
        · subst hkn
          have : ok (n + 1) = true := h.2.resolve_right (by omega)
          apply Nat.le_of_not_lt
          intro q
          exact hc ⟨this, q⟩
        · exact ih.2.1 k (nok_iff.mpr ⟨by omega, h.2⟩)
      · have h := nok_iff.mp hok
        exact ih.2.2 k hk (nok_iff.mpr ⟨by omega, h.2⟩)
-- sets as numbers
def sset (p : Nat → Bool) (n : Nat) : Nat := ssum (fun b => if p b = true then 2 ^ b else 0) n
theorem sset_tab : ∀ a b c d : Bool, ∀ k : Fin 4, sbit (0 + (if a = true then 2 ^ 0 else 0) + (if b = true then 2 ^ 1 else 0) + (if c = true then 2 ^ 2 else 0) + (if d = true then 2 ^ 3 else 0)) k.1 = ([a, b, c, d] : List Bool).getD k.1 false := by decide +kernel
theorem sset_bit (p : Nat → Bool) {k : Nat} (hk : k < 4) : sbit (sset p 4) k = p k := by
  have h := sset_tab (p 0) (p 1) (p 2) (p 3) ⟨k, hk⟩
  have e : sset p 4 = 0 + (if p 0 = true then 2 ^ 0 else 0) + (if p 1 = true then 2 ^ 1 else 0) + (if p 2 = true then 2 ^ 2 else 0) + (if p 3 = true then 2 ^ 3 else 0) := rfl
  rw [e, h]
  have : k = 0 ∨ k = 1 ∨ k = 2 ∨ k = 3 := by omega
  rcases this with rfl | rfl | rfl | rfl <;> rfl
theorem sset_lt (p : Nat → Bool) : ∀ n, sset p n < 2 ^ n
  | 0 => Nat.one_pos
  | b + 1 => by
    have := sset_lt p b
    have h2 : 2 ^ (b + 1) = 2 ^ b + 2 ^ b := by rw [Nat.pow_succ]; omega
    show sset p b + (if p b = true then 2 ^ b else 0) < _
    split <;> omega
def ssub (a b : Nat) : Bool := decide (a &&& b = a)
theorem ssub_tab : ∀ a b : Fin 16, ssub a.1 b.1 = ((!sbit a.1 0 || sbit b.1 0) && (!sbit a.1 1 || sbit b.1 1) && (!sbit a.1 2 || sbit b.1 2) && (!sbit a.1 3 || sbit b.1 3)) := by decide +kernel
theorem ssub_iff {a b : Nat} (ha : a < 16) (hb : b < 16) : ssub a b = true ↔ ∀ k, k < 4 → sbit a k = true → sbit b k = true := by
  have h := ssub_tab ⟨a, ha⟩ ⟨b, hb⟩
  simp only at h
  rw [h]
  simp only [Bool.and_eq_true, Bool.or_eq_true, Bool.not_eq_true']
  constructor
  · rintro ⟨⟨⟨h0, h1⟩, h2⟩, h3⟩ k hk hs
    have : k = 0 ∨ k = 1 ∨ k = 2 ∨ k = 3 := by omega
    rcases this with rfl | rfl | rfl | rfl
    · exact h0.resolve_left (by rw [hs]; exact Bool.noConfusion)
    · exact h1.resolve_left (by rw [hs]; exact Bool.noConfusion)
    · exact h2.resolve_left (by rw [hs]; exact Bool.noConfusion)
    · exact h3.resolve_left (by rw [hs]; exact Bool.noConfusion)
  · intro q
    have r : ∀ k, k < 4 → sbit a k = false ∨ sbit b k = true := fun k hk => by
      cases hs : sbit a k with
      | false => exact Or.inl rfl
      | true => exact Or.inr (q k hk hs)
    exact ⟨⟨⟨r 0 (by omega), r 1 (by omega)⟩, r 2 (by omega)⟩, r 3 (by omega)⟩
theorem sbit_le_tab : ∀ n : Fin 5, ∀ k : Fin 16, (∀ b : Fin 4, sbit k.1 b.1 = true → b.1 < n.1) → k.1 < 2 ^ n.1 := by decide +kernel
theorem ssum_ext {f : Nat → Nat} {n : Nat} : ∀ k, (∀ j, n ≤ j → j < n + k → f j = 0) → ssum f (n + k) = ssum f n
  | 0, _ => rfl
  | k + 1, h => by
    show ssum f (n + k) + f (n + k) = ssum f n
    rw [ssum_ext k (fun j h1 h2 => h j h1 (by omega)), h (n + k) (by omega) (by omega)]
    rfl
section BEST3
variable {S : sS} {P : sP}
def wcan (S : sS) (P : sP) (s : Nat) (c : Nat → Nat) : Nat := sset (fun b => decide (c b < smt S P b) && sth S P s b) 4
def wmust (S : sS) (P : sP) (rdy : Bool) (s : Nat) (c : Nat → Nat) : Nat := sset (fun b => decide (c b < sdu S P rdy s b)) 4
def wok (S : sS) (P : sP) (rdy : Bool) (s : Nat) (c : Nat → Nat) (set : Nat) : Bool := ssub set (wcan S P s c) && decide (spop set ≤ P.2.1) && decide (stk S P.2.2.1 c set 4 ≤ P.2.2.2.1) && ssub (wmust S P rdy s c) set
def wg (S : sS) (P : sP) (rdy : Bool) (W : (Nat → Nat) → Nat) (s : Nat) (c : Nat → Nat) (set : Nat) : Nat := if set = 0 then (if wmust S P rdy s c = 0 then W c else 2 ^ 50) else W (snx c set) + stk S P.2.2.1 c set 4 * S (6 + s) * 64 + spop set
/-- the planner's worth of a state, with r SLOTS left -/
def wv (S : sS) (P : sP) (rdy : Bool) : Nat → (Nat → Nat) → Nat
  | 0, c => ssum (fun b => slk S P b (c b)) 4 * 6400000
  | r + 1, c => wg S P rdy (wv S P rdy r) (S 0 - (r + 1)) c (nbest (wg S P rdy (wv S P rdy r) (S 0 - (r + 1)) c) (wok S P rdy (S 0 - (r + 1)) c) 16)
def wa (S : sS) (P : sP) (rdy : Bool) (r : Nat) (c : Nat → Nat) : Nat := nbest (wg S P rdy (wv S P rdy r) (S 0 - (r + 1)) c) (wok S P rdy (S 0 - (r + 1)) c) 16
theorem wv_succ (rdy : Bool) (r : Nat) (c : Nat → Nat) : wv S P rdy (r + 1) c = wg S P rdy (wv S P rdy r) (S 0 - (r + 1)) c (wa S P rdy r c) := rfl
def bx (S : sS) (P : sP) (rdy : Bool) (s : Nat) (c : Nat → Nat) : Prop := ∀ b, b < 4 → slo S P rdy s b ≤ c b ∧ c b ≤ shi S P s b
theorem sth_iff {s b : Nat} : sth S P s b = true ↔ sw S P b = true ∧ sthere (P.1 b) (sgo S b) s = true := by
  unfold sth sthere sbh sbf
  rw [Bool.and_eq_true, decide_eq_true_eq, decide_eq_true_eq, Bool.and_eq_true, decide_eq_true_eq, decide_eq_true_eq]
  by_cases h : sw S P b = true
  · rw [sst_sw h]
    constructor
    · rintro ⟨h1, h2⟩; exact ⟨h, h1, by omega⟩
    · rintro ⟨-, h1, h2⟩; exact ⟨h1, by omega⟩
  · have e : sst S P b = 0 := by unfold sst; rw [if_neg h]
    rw [e]
    constructor
    · rintro ⟨h1, h2⟩; omega
    · rintro ⟨h1, h2⟩; exact absurd h1 h
theorem bx_next {rdy : Bool} {s : Nat} {c : Nat → Nat} {set : Nat} (h : bx S P rdy s c) (h1 : ∀ b, b < 4 → sbit set b = true → c b < smt S P b ∧ sth S P s b = true) (h2 : ∀ b, b < 4 → c b < sdu S P rdy s b → sbit set b = true) : bx S P rdy (s + 1) (snx c set) := by
  intro b hb
  have h := h b hb
  have h1 := h1 b hb
  have h2 := h2 b hb
  have hm := (smt_spec S P b).2.1
  have hth : sth S P s b = true ↔ P.1 b ≤ s ∧ 0 < sbh S P b s := by
    unfold sth
    rw [Bool.and_eq_true, decide_eq_true_eq, decide_eq_true_eq]
  have hn : sbit set b = true → sth S P s b = true := fun z => (h1 z).2
  unfold sdu at h2
  unfold slo shi at h ⊢
  by_cases hs : sbit set b = true
  · rw [show snx c set b = c b + 1 from if_pos hs]
    obtain ⟨a1, a2⟩ := h1 hs
    have a3 := hth.mp a2
    unfold sbh sbf at *
    cases rdy with
    | false => simp only [Bool.false_eq_true, if_false] at h ⊢; omega
    | true => simp only [if_true] at h ⊢; omega
  · rw [show snx c set b = c b from if_neg hs]
    cases rdy with
    | false => simp only [Bool.false_eq_true, if_false] at h ⊢; unfold sbf at *; omega
    | true =>
      simp only [if_true] at h ⊢
      by_cases ht : sth S P s b = true
      · rw [ht] at h2
        simp only [Bool.and_self, if_true] at h2
        have : ¬ c b < smt S P b + 1 - sbh S P b s := fun z => hs (h2 z)
        have a3 := hth.mp ht
        unfold sbh sbf at *
        omega
      · have a3 : ¬ (P.1 b ≤ s ∧ 0 < sbh S P b s) := fun z => ht (hth.mpr z)
        unfold sbh sbf at *
        omega
theorem slk_sle (hw : sWF S) (c : Nat → Nat) : ssum (fun b => slk S P b (c b)) 4 = sle S P.2.2.1 P.2.2.2.2 c := by
  have hB := hw.B
  have := ssum_ext (f := fun b => slk S P b (c b)) (n := S 1) (4 - S 1) (fun j h1 h2 => by
    show slk S P j (c j) = 0
    unfold slk
    rw [if_neg (fun z => by have := sw_lt z; omega)])
  rw [show S 1 + (4 - S 1) = 4 by omega] at this
  rw [this]
  unfold sle
  apply ssum_congr
  intro k hk
  unfold slk sw
  rw [decide_eq_true hk, Bool.true_and]
/-- BEST's set lies in what can be charged -/
theorem sarg_can (hw : sWF S) {rdy : Bool} {r : Nat} (hr : r + 1 ≤ S 0) {c : Nat → Nat} (hb : bx S P rdy (S 0 - (r + 1)) c) : ∀ b, b < 4 → sbit (sarg S P r c) b = true → c b < smt S P b ∧ sth S P (S 0 - (r + 1)) b = true := by
  intro b hb4 hm
  have ok := sok2_iff.mp (sok2_sarg (P := P) hw hr c)
  have hbS := sbit_top hw ok.1 hb4 hm
  obtain ⟨o1, o2⟩ := ok.2.2.1 b hbS hm
  have hs : sw S P b = true := by
    unfold sw
    rw [Bool.and_eq_true, decide_eq_true_eq]
    exact ⟨hbS, o1⟩
  have ht : sth S P (S 0 - (r + 1)) b = true := sth_iff.mpr ⟨hs, o2⟩
  refine ⟨?_, ht⟩
  apply Classical.byContradiction
  intro hn
  have hx := (hb b hb4).2
  have hsp := smt_spec S P b
  have h8 := sst_le8 (P := P) hw b
  have ht2 : P.1 b ≤ S 0 - (r + 1) ∧ 0 < sbh S P b (S 0 - (r + 1)) := by
    unfold sth at ht
    rw [Bool.and_eq_true, decide_eq_true_eq, decide_eq_true_eq] at ht
    exact ht
  have he : c b = smt S P b := by unfold shi at hx; omega
  have hsat : ssat S P b (c b) := by
    rw [he]
    rcases hsp.2.2.2 hs with q | q | q
    · unfold shi at hx; unfold sbh at ht2; omega
    · unfold shi at hx; unfold sbh at ht2; omega
    · exact q
  rw [sarg_sat hw hr hbS hsat] at hm
  cases hm
theorem wcan_bit {s : Nat} {c : Nat → Nat} {k : Nat} (hk : k < 4) : sbit (wcan S P s c) k = true ↔ c k < smt S P k ∧ sth S P s k = true := by
  unfold wcan
  rw [sset_bit _ hk, Bool.and_eq_true, decide_eq_true_eq]
theorem wmust_bit {rdy : Bool} {s : Nat} {c : Nat → Nat} {k : Nat} (hk : k < 4) : sbit (wmust S P rdy s c) k = true ↔ c k < sdu S P rdy s k := by
  unfold wmust
  rw [sset_bit _ hk, decide_eq_true_eq]
theorem wok_iff {rdy : Bool} {s : Nat} {c : Nat → Nat} {k : Nat} (hk : k < 16) : wok S P rdy s c k = true ↔ (∀ b, b < 4 → sbit k b = true → c b < smt S P b ∧ sth S P s b = true) ∧ spop k ≤ P.2.1 ∧ stk S P.2.2.1 c k 4 ≤ P.2.2.2.1 ∧ ∀ b, b < 4 → c b < sdu S P rdy s b → sbit k b = true := by
  have hc : wcan S P s c < 16 := sset_lt _ 4
  have hm : wmust S P rdy s c < 16 := sset_lt _ 4
  unfold wok
  rw [Bool.and_eq_true, Bool.and_eq_true, Bool.and_eq_true, decide_eq_true_eq, decide_eq_true_eq, ssub_iff hk hc, ssub_iff hm hk]
  constructor
  · rintro ⟨⟨⟨h1, h2⟩, h3⟩, h4⟩
    exact ⟨fun b hb hs => (wcan_bit hb).mp (h1 b hb hs), h2, h3, fun b hb hs => h4 b hb ((wmust_bit hb).mpr hs)⟩
  · rintro ⟨h1, h2, h3, h4⟩
    exact ⟨⟨⟨fun b hb hs => (wcan_bit hb).mpr (h1 b hb hs), h2⟩, h3⟩, fun b hb hs => h4 b hb ((wmust_bit hb).mp hs)⟩
theorem can_lt (hw : sWF S) {s k : Nat} {c : Nat → Nat} (hk : k < 16) (h : ∀ b, b < 4 → sbit k b = true → c b < smt S P b ∧ sth S P s b = true) : k < 2 ^ S 1 := by
  have hB := hw.B
  refine sbit_le_tab ⟨S 1, by omega⟩ ⟨k, hk⟩ (fun b hb => ?_)
  exact sw_lt (sth_iff.mp (h b.1 b.2 hb).2).1
theorem wok_sok (hw : sWF S) {rdy : Bool} {r : Nat} {c : Nat → Nat} {k : Nat} (hk : k < 16) (h : wok S P rdy (S 0 - (r + 1)) c k = true) : sok2 S P r c k = true ∧ k < 2 ^ S 1 := by
  have h := (wok_iff hk).mp h
  have hl := can_lt hw hk h.1
  refine ⟨sok2_iff.mpr ⟨hl, h.2.1, fun b hb hs => ?_, ?_⟩, hl⟩
  · have hB := hw.B
    have := sth_iff.mp (h.1 b (by omega) hs).2
    unfold sw at this
    rw [Bool.and_eq_true] at this
    exact ⟨this.1.2, this.2⟩
  · rw [← stk_4 hw hl]; exact h.2.2.1
theorem sok_wok (hw : sWF S) {rdy : Bool} {r : Nat} {c : Nat → Nat} {k : Nat} (h : sok2 S P r c k = true) (h1 : ∀ b, b < 4 → sbit k b = true → c b < smt S P b ∧ sth S P (S 0 - (r + 1)) b = true) (h2 : ∀ b, b < 4 → c b < sdu S P rdy (S 0 - (r + 1)) b → sbit k b = true) : wok S P rdy (S 0 - (r + 1)) c k = true := by
  have h := sok2_iff.mp h
  have h16 := two_pow_le hw.B
  rw [wok_iff (by omega)]
  exact ⟨h1, h.2.1, by rw [stk_4 hw h.1]; exact h.2.2.2, h2⟩
theorem sdu_f (s b : Nat) : sdu S P false s b = 0 := rfl
theorem wmust_f (s : Nat) (c : Nat → Nat) : wmust S P false s c = 0 := by
  unfold wmust sset
  rw [ssum_congr (g := fun _ => 0) 4 (fun k _ => by
    show (if decide (c k < sdu S P false s k) = true then 2 ^ k else 0) = 0
    rw [sdu_f]
    simp)]
  rfl
/-- the value of a set, where the states behind have theirs -/
theorem wg_enc (hw : sWF S) {rdy : Bool} {r k : Nat} {c : Nat → Nat} (hk : k < 2 ^ S 1) (hm : k ≠ 0 ∨ wmust S P rdy (S 0 - (r + 1)) c = 0) (h : wv S P rdy r (snx c k) = sE S P r (snx c k)) : wg S P rdy (wv S P rdy r) (S 0 - (r + 1)) c k = enc3 (sfx S P r c k) := by
  rw [sfx_enc]
  unfold wg
  by_cases h0 : k = 0
  · subst h0
    rw [if_pos rfl, if_pos (hm.resolve_left (fun q => q rfl)), stk_0]
    rw [snx_0] at h ⊢
    rw [h]
    have : spop 0 = 0 := rfl
    omega
  · rw [if_neg h0, h, stk_4 hw hk]
theorem wv_all (hw : sWF S) : ∀ r, r ≤ S 0 → ∀ c, bx S P false (S 0 - r) c → wv S P false r c = sE S P r c ∧ ∀ r', r = r' + 1 → wa S P false r' c = sarg S P r' c
  | 0, _, c, _ => by
    refine ⟨?_, fun r' h => by omega⟩
    show ssum (fun b => slk S P b (c b)) 4 * 6400000 = enc3 (sle S _ _ c, 0, 0)
    rw [slk_sle hw]
    show _ = sle S P.2.2.1 P.2.2.2.2 c * 6400000 + 0 * 64 + 0
    omega
  | r + 1, hr, c, hb => by
    have IH := fun c hc => (wv_all hw r (by omega) c hc).1
    have hs1 : S 0 - (r + 1) + 1 = S 0 - r := by omega
    have hI := sarg_iB (P := P) hw hr c
    have hN : iB (wg S P false (wv S P false r) (S 0 - (r + 1)) c) (nok (wok S P false (S 0 - (r + 1)) c) 16) (wa S P false r c) := nbest_iB _ _ 15
    have hmc := sarg_can hw hr hb
    have hdu : ∀ k b, b < 4 → c b < sdu S P false (S 0 - (r + 1)) b → sbit k b = true := fun k b _ h => by rw [sdu_f] at h; omega
    -- what a candidate is
    have cand : ∀ k, nok (wok S P false (S 0 - (r + 1)) c) 16 k = true → sok2 S P r c k = true ∧ wg S P false (wv S P false r) (S 0 - (r + 1)) c k = enc3 (sfx S P r c k) := by
      intro k hk
      have hk := nok_iff.mp hk
      have hwk : wok S P false (S 0 - (r + 1)) c k = true := by
        rcases hk.2 with q | q
        · exact q
        · subst q
          rw [wok_iff (by omega)]
          exact ⟨fun b _ h => (by rw [sbit0] at h; exact Bool.noConfusion h), Nat.zero_le _, (by rw [stk_0]; exact Nat.zero_le _), hdu 0⟩
      obtain ⟨o1, o2⟩ := wok_sok hw hk.1 hwk
      have hbn := bx_next hb ((wok_iff hk.1).mp hwk).1 (hdu k)
      rw [hs1] at hbn
      exact ⟨o1, wg_enc hw o2 (Or.inr (wmust_f _ _)) (IH _ hbn)⟩
    have h16 := two_pow_le hw.B
    have hm2 : nok (wok S P false (S 0 - (r + 1)) c) 16 (sarg S P r c) = true := nok_iff.mpr ⟨by have := (sok2_iff.mp hI.1).1; omega, Or.inl (sok_wok hw hI.1 hmc (hdu _))⟩
    have e : wa S P false r c = sarg S P r c := iB_un hN hI hm2 (cand _ hN.1).1 (cand _ hN.1).2 (cand _ hm2).2
    refine ⟨?_, fun r' h => by obtain rfl : r' = r := by omega
                               exact e⟩
    rw [wv_succ, e, (cand _ hm2).2, sE_succ]
theorem sE_lack (hw : sWF S) {r : Nat} (hr : r ≤ S 0) (c : Nat → Nat) : sE S P r c < 6400000 ↔ (sdp S P r c).1 = 0 := by
  have := sE_bd (P := P) hw hr c
  unfold sE enc3
  omega
theorem sfx_lack (hw : sWF S) {r : Nat} (hr : r + 1 ≤ S 0) (c : Nat → Nat) {k : Nat} (hk : k < 16) : enc3 (sfx S P r c k) < 6400000 ↔ sE S P r (snx c k) < 6400000 := by
  have h1 := sfx_bd (P := P) hw hr c hk
  rw [sE_lack hw (by omega)]
  have : (sfx S P r c k).1 = (sdp S P r (snx c k)).1 := rfl
  unfold enc3
  omega
theorem sbh_end (hw : sWF S) (b : Nat) : sbh S P b (S 0) = 0 := by
  unfold sbh sbf
  by_cases h : sw S P b = true
  · have := sgo_le hw (sw_lt h)
    rw [sst_sw h]
    omega
  · have e : sst S P b = 0 := by unfold sst; rw [if_neg h]
    omega
theorem wv_rdy (hw : sWF S) (h0 : ssum (fun b => slk S P b (smt S P b)) 4 = 0) : ∀ r, r ≤ S 0 → ∀ c, bx S P true (S 0 - r) c → (sE S P r c < 6400000 → wv S P true r c = sE S P r c ∧ ∀ r', r = r' + 1 → wa S P true r' c = sarg S P r' c) ∧ (6400000 ≤ sE S P r c → 2 ^ 50 ≤ wv S P true r c)
  | 0, _, c, hb => by
    have hc : ∀ b, b < 4 → c b = smt S P b := fun b hb4 => by
      have h := hb b hb4
      have he := sbh_end (P := P) hw b
      unfold slo shi at h
      rw [show S 0 - 0 = S 0 by omega] at h
      rw [he] at h
      simp only [if_true] at h
      omega
    have e0 : ssum (fun b => slk S P b (c b)) 4 = 0 := by
      rw [← h0]
      exact ssum_congr 4 (fun k hk => by rw [hc k hk])
    have e1 : sE S P 0 c = 0 := by
      show enc3 (sle S _ _ c, 0, 0) = 0
      rw [← slk_sle hw, e0]
      rfl
    refine ⟨fun _ => ⟨?_, fun r' h => by omega⟩, fun h => by omega⟩
    rw [e1]
    show ssum (fun b => slk S P b (c b)) 4 * 6400000 = 0
    rw [e0]
  | r + 1, hr, c, hb => by
    have IH := wv_rdy hw h0 r (by omega)
    have hs1 : S 0 - (r + 1) + 1 = S 0 - r := by omega
    have hI := sarg_iB (P := P) hw hr c
    have hN : iB (wg S P true (wv S P true r) (S 0 - (r + 1)) c) (nok (wok S P true (S 0 - (r + 1)) c) 16) (wa S P true r c) := nbest_iB _ _ 15
    have hmc := sarg_can hw hr hb
    have h16 := two_pow_le hw.B
    have w0 : wmust S P true (S 0 - (r + 1)) c = 0 → wok S P true (S 0 - (r + 1)) c 0 = true := fun q => by
      rw [wok_iff (by omega)]
      exact ⟨fun b _ h => (by rw [sbit0] at h; exact Bool.noConfusion h), Nat.zero_le _, (by rw [stk_0]; exact Nat.zero_le _), fun b hb h => by
        have := (wmust_bit (S := S) (P := P) hb).mpr h
        rw [q, sbit0] at this
        cases this⟩
    -- a candidate: of a state that can be ready, or dear
    have cand : ∀ k, nok (wok S P true (S 0 - (r + 1)) c) 16 k = true → (sok2 S P r c k = true ∧ sE S P r (snx c k) < 6400000 ∧ wg S P true (wv S P true r) (S 0 - (r + 1)) c k = enc3 (sfx S P r c k)) ∨ 2 ^ 50 ≤ wg S P true (wv S P true r) (S 0 - (r + 1)) c k := by
      intro k hk
      have hk := nok_iff.mp hk
      by_cases hd : k = 0 ∧ wmust S P true (S 0 - (r + 1)) c ≠ 0
      · right
        unfold wg
        rw [if_pos hd.1, if_neg hd.2]
        exact Nat.le_refl _
      · have hm : k ≠ 0 ∨ wmust S P true (S 0 - (r + 1)) c = 0 := by
          by_cases q : k = 0
          · right
            apply Classical.byContradiction
            intro q2
            exact hd ⟨q, q2⟩
          · exact Or.inl q
        have hwk : wok S P true (S 0 - (r + 1)) c k = true := by
          rcases hk.2 with q | q
          · exact q
          · rw [q]; exact w0 (hm.resolve_left (fun z => z q))
        obtain ⟨o1, o2⟩ := wok_sok hw hk.1 hwk
        have hq := (wok_iff hk.1).mp hwk
        have hbn := bx_next hb hq.1 hq.2.2.2
        rw [hs1] at hbn
        by_cases hE : sE S P r (snx c k) < 6400000
        · exact Or.inl ⟨o1, hE, wg_enc hw o2 hm ((IH _ hbn).1 hE).1⟩
        · right
          have := (IH _ hbn).2 (by omega)
          unfold wg
          by_cases h0 : k = 0
          · subst h0
            rw [snx_0] at this
            rw [if_pos rfl, if_pos (hm.resolve_left (fun q => q rfl))]
            exact this
          · rw [if_neg h0]
            exact Nat.le_trans this (by rw [Nat.add_assoc]; exact Nat.le_add_right _ _)
    have hml := (sok2_iff.mp hI.1).1
    constructor
    · intro hE
      rw [sE_succ] at hE
      have hE2 := (sfx_lack hw hr c (show sarg S P r c < 16 by omega)).mp hE
      -- what must be charged is
      have hmu : ∀ b, b < 4 → c b < sdu S P true (S 0 - (r + 1)) b → sbit (sarg S P r c) b = true := by
        intro b hb4 hd
        apply Classical.byContradiction
        intro hn
        unfold sdu at hd
        rw [Bool.true_and] at hd
        by_cases ht : sth S P (S 0 - (r + 1)) b = true
        · rw [if_pos ht] at hd
          have hsw := (sth_iff.mp ht).1
          have ht2 : P.1 b ≤ S 0 - (r + 1) ∧ 0 < sbh S P b (S 0 - (r + 1)) := by
            unfold sth at ht
            rw [Bool.and_eq_true, decide_eq_true_eq, decide_eq_true_eq] at ht
            exact ht
          have hl := lack_bh (P := P) hw hsw r (by omega) (snx c (sarg S P r c)) (by
            rw [show snx c (sarg S P r c) b = c b from if_neg hn]
            refine ((smt_spec S P b).2.2.1 _ ?_).2
            rw [← hs1]
            unfold sbh sbf at *
            omega)
          rw [sE_lack hw (by omega)] at hE2
          omega
        · rw [if_neg ht] at hd
          omega
      have hm2 : nok (wok S P true (S 0 - (r + 1)) c) 16 (sarg S P r c) = true := nok_iff.mpr ⟨by omega, Or.inl (sok_wok hw hI.1 hmc hmu)⟩
      have p50 : 6400000 < 2 ^ 50 := by decide
      have hg : wg S P true (wv S P true r) (S 0 - (r + 1)) c (sarg S P r c) = enc3 (sfx S P r c (sarg S P r c)) := by
        rcases cand _ hm2 with q | q
        · exact q.2.2
        · have hq := (wok_iff (show sarg S P r c < 16 by omega)).mp (sok_wok hw hI.1 hmc hmu)
          have hbn := bx_next hb hq.1 hq.2.2.2
          rw [hs1] at hbn
          refine wg_enc hw hml ?_ ((IH _ hbn).1 hE2).1
          by_cases q0 : sarg S P r c = 0
          · right
            apply Classical.byContradiction
            intro q2
            have : ∃ b, b < 4 ∧ sbit (wmust S P true (S 0 - (r + 1)) c) b = true := by
              apply Classical.byContradiction
              intro hn
              have h3 : wmust S P true (S 0 - (r + 1)) c = 0 := by
                unfold wmust sset
                refine (ssum_zero 4).mpr (fun k hk => ?_)
                by_cases hd : c k < sdu S P true (S 0 - (r + 1)) k
                · exact absurd ⟨k, hk, (wmust_bit hk).mpr hd⟩ hn
                · show (if decide (c k < sdu S P true (S 0 - (r + 1)) k) = true then 2 ^ k else 0) = 0
                  rw [decide_eq_false hd]; rfl
              exact q2 h3
            obtain ⟨b, hb4, hbb⟩ := this
            have := hmu b hb4 ((wmust_bit hb4).mp hbb)
            rw [q0, sbit0] at this
            cases this
          · exact Or.inl q0
      have hle := hN.2.1 _ hm2
      have hne := cand _ hN.1
      have e : wa S P true r c = sarg S P r c := by
        rcases hne with q | q
        · exact iB_un hN hI hm2 q.1 q.2.2 hg
        · rw [hg] at hle
          omega
      refine ⟨?_, fun r' h => by obtain rfl : r' = r := by omega
                                 exact e⟩
      rw [wv_succ, e, hg, sE_succ]
    · intro hE
      rw [wv_succ]
      rcases cand _ hN.1 with q | q
      · exfalso
        have h1 := hI.2.1 _ q.1
        have h2 := (sfx_lack hw hr c (nok_iff.mp hN.1).1).mpr q.2.1
        rw [sE_succ] at hE
        simp only at h1
        omega
      · exact q
/-- what the planner's worth never goes above -/
theorem wv_bd (hw : sWF S) (rdy : Bool) : ∀ r, r ≤ S 0 → ∀ c, wv S P rdy r c ≤ 2 ^ 50 + r * 6400000
  | 0, _, c => by
    show ssum (fun b => slk S P b (c b)) 4 * 6400000 ≤ _
    rw [slk_sle hw]
    have h := sle_bd hw P.2.2.1 P.2.2.2.2 c (Nat.le_refl (S 1))
    have h2 : sle S P.2.2.1 P.2.2.2.2 c ≤ 800 := h
    have : (800 : Nat) * 6400000 ≤ 2 ^ 50 := by decide
    exact Nat.le_trans (Nat.mul_le_mul_right 6400000 h2) (Nat.le_trans this (Nat.le_add_right _ _))
  | r + 1, hr, c => by
    have ih := wv_bd hw rdy r (by omega)
    rw [wv_succ]
    have hN : iB (wg S P rdy (wv S P rdy r) (S 0 - (r + 1)) c) (nok (wok S P rdy (S 0 - (r + 1)) c) 16) (wa S P rdy r c) := nbest_iB _ _ 15
    have h0 := hN.2.1 0 (nok_iff.mpr ⟨by omega, Or.inr rfl⟩)
    have h1 : wg S P rdy (wv S P rdy r) (S 0 - (r + 1)) c 0 ≤ 2 ^ 50 + r * 6400000 := by
      unfold wg
      rw [if_pos rfl]
      split
      · exact ih c
      · omega
    omega
end BEST3
