/-! figures of a plan, what is wrong with it: both sides -/
def sfl (p : Nat → Bool) : Nat → Nat → Option Nat
  | 0, _ => none
  | k + 1, s => if p s = true then some s else sfl p k (s + 1)
section SUMS
variable {S : sS} {pl : Nat → Nat}
def sabs (S : sS) (pl : Nat → Nat) (s : Nat) : Bool := (sfl (fun b => sbit (pl s) b && !sthere (scom S b) (sgo S b) s) (S 1) 0).isSome
def swr (S : sS) (pl : Nat → Nat) (kind s : Nat) : Bool := if kind = 1 then sabs S pl s else if kind = 2 then decide (S 3 < spop (pl s)) else decide (S 5 < sused S (scom S) (S 4) pl s)
/-- kinds from kind on, then LACK -/
def swg (S : sS) (pl : Nat → Nat) : Nat → Nat → Nat
  | 0, _ => match sfl (fun b => decide (0 < slack S (scom S) (S 4) pl b)) (S 1) 0 with
    | some b => 4 + 8 * b
    | none => 0
  | k + 1, kind => match sfl (swr S pl kind) (S 0) 0 with
    | some s => kind + 8 * s
    | none => swg S pl k (kind + 1)
def sfig (S : sS) (pl : Nat → Nat) (what : Nat) : Nat := if what = 0 then scost S (scom S) (S 4) pl else if what = 1 then speak S (scom S) (S 4) pl else if what = 2 then schg S pl else sall S (scom S) (S 4) pl
theorem slack_le (hw : sWF S) {b : Nat} (hb : b < S 1) : slack S (scom S) (S 4) pl b ≤ 200 := by
  have h := hw.bus b hb
  unfold slack sneed
  omega
-- the class
section CLS
variable {d : Nat}
theorem x_figure {M : mm_M} (h : vL M S pl) (x : Int32) : f1_figure x M = some (if okR x 4 = true then nI (sfig S pl x.toNatClampNeg) else -1, M) := by
  unfold f1_figure
  by_cases h4 : okR x 4 = true
  · obtain ⟨w, hw4, rfl⟩ := okR_t h4 (by omega)
    rw [if_pos h4, nx_cl (by omega)]
    have : w = 0 ∨ w = 1 ∨ w = 2 ∨ w = 3 := by omega
    rcases this with rfl | rfl | rfl | rfl
    · rw [if_pos (show nI 0 = 0 from rfl), bI_eq, h.1]; rfl
    · rw [if_neg (by decide), if_pos (show nI 1 = 1 from rfl), bI_eq, h.2.2.2.1]; rfl
    · rw [if_neg (by decide), if_neg (by decide), if_pos (show nI 2 = 2 from rfl), bI_eq, h.2.1]; rfl
    · rw [if_neg (by decide), if_neg (by decide), if_neg (by decide), if_pos (show nI 3 = 3 from rfl), bI_eq, h.2.2.1]; rfl
  · rw [if_neg h4]
    have ne : ∀ k, k < 4 → x ≠ nI k := fun k hk z => h4 (by rw [z, okR_nI (by omega) (by omega)]; exact decide_eq_true hk)
    rw [if_neg (show ¬ x = 0 from ne 0 (by omega)), if_neg (show ¬ x = 1 from ne 1 (by omega)), if_neg (show ¬ x = 2 from ne 2 (by omega)), if_neg (show ¬ x = 3 from ne 3 (by omega))]
theorem x_ha2 (hw : sWF S) {M : mm_M} (hv : vD M d S) {s : Nat} (hs : s < S 0) (hp : pl s < 16) : ∀ (k b n : Nat), b + k = S 1 → k < n → l1_holdsAbsent_2 n d (nI s) (nI (pl s)) (nI b) M = some (if (sfl (fun b => sbit (pl s) b && !sthere (scom S b) (sgo S b) s) k b).isSome = true then 1 else 0, M) := by
  have hB := hw.B
  have hT := hw.T
  intro k
  induction k with
  | zero =>
    intro b n hk hn
    obtain ⟨n, rfl⟩ : ∃ j, n = j + 1 := ⟨n - 1, by omega⟩
    unfold l1_holdsAbsent_2 b1_holdsAbsent_2
    rw [bI_eq, hv.B, if_pos (by rw [nx_le (by omega) (by omega)]; omega)]
    rfl
  | succ k ih =>
    intro b n hk hn
    obtain ⟨n, rfl⟩ : ∃ j, n = j + 1 := ⟨n - 1, by omega⟩
    have e : sfl (fun b => sbit (pl s) b && !sthere (scom S b) (sgo S b) s) (k + 1) b = if (sbit (pl s) b && !sthere (scom S b) (sgo S b) s) = true then some b else sfl (fun b => sbit (pl s) b && !sthere (scom S b) (sgo S b) s) k (b + 1) := rfl
    unfold l1_holdsAbsent_2 b1_holdsAbsent_2 l1_holdsAbsent_30
    rw [bI_eq, hv.B, if_neg (by rw [nx_le (by omega) (by omega)]; omega), nx_l1, nx_add, ← nx_l1]
    simp only [bit_has' hp (show b < 4 by omega)]
    by_cases c1 : sbit (pl s) b = true
    · rw [if_pos c1, x_isThere hv hw (by omega) (by omega), cI_some]
      by_cases c2 : sthere (scom S b) (sgo S b) s = true
      · have hne : ¬ (sbit (pl s) b && !sthere (scom S b) (sgo S b) s) = true := by rw [c2]; simp
        rw [if_pos c2, if_neg (by decide), e, if_neg hne]
        exact ih (b + 1) n (by omega) (by omega)
      · rw [if_neg c2, if_pos rfl, e, if_pos (by rw [c1, Bool.eq_false_iff.mpr c2]; rfl)]
        rfl
    · have hne : ¬ (sbit (pl s) b && !sthere (scom S b) (sgo S b) s) = true := by rw [Bool.eq_false_iff.mpr c1]; simp
      rw [if_neg c1, e, if_neg hne]
      exact ih (b + 1) n (by omega) (by omega)
theorem x_slotIsWrong (hw : sWF S) {M : mm_M} (hv : vD M d S) (hl : vL M S pl) {s kind : Nat} (hs : s < S 0) (hk1 : 1 ≤ kind) (hk3 : kind ≤ 3) (hp : pl s < 16) : f1_slotIsWrong d (nI s) (nI (pl s)) (nI kind) M = some (if swr S pl kind s = true then 1 else 0, M) := by
  have hT := hw.T
  have hpl := hw.plug
  have hli := hw.lim
  have hsp := spop_le ⟨pl s, hp⟩
  simp only at hsp
  have hu : sused S (scom S) (S 4) pl s ≤ 800 := sus_bd hw (scom S) (S 4) pl s (Nat.le_refl (S 1))
  unfold f1_slotIsWrong l1_slotIsWrong_54 l1_slotIsWrong_75
  rw [if_pos hv.ok]
  have : kind = 1 ∨ kind = 2 ∨ kind = 3 := by omega
  rcases this with rfl | rfl | rfl
  · rw [if_pos (show nI 1 = 1 from rfl)]
    unfold f1_holdsAbsent
    rw [if_pos hv.ok, show (0 : Int32) = nI 0 from rfl, x_ha2 hw hv hs hp (S 1) 0 FU (by omega) (by have := FU_big; have := hw.B; omega), cI_some]
    show rZ (if sabs S pl s = true then 1 else 0) M = some (if sabs S pl s = true then 1 else nI 0, M)
    by_cases h : sabs S pl s = true
    · rw [if_pos h, if_pos h]; rfl
    · rw [if_neg h, if_neg h]; rfl
  · rw [if_neg (by decide), if_pos (show nI 2 = 2 from rfl), aT_in hp (by omega), show mm_ro 1 (pl s) = nI (spop (pl s)) from size_tab ⟨pl s, hp⟩, aI_z (by omega) (by omega), hv.plug]
    simp only [nx_le (show spop (pl s) < 2 ^ 31 by omega) (show S 3 < 2 ^ 31 by omega)]
    show _ = some (if decide (S 3 < spop (pl s)) = true then 1 else 0, M)
    by_cases h : spop (pl s) ≤ S 3
    · rw [if_pos h, if_neg (by rw [decide_eq_true_eq]; omega)]; rfl
    · rw [if_neg h, if_pos (by rw [decide_eq_true_eq]; omega)]; rfl
  · rw [if_neg (by decide), if_neg (by decide), aI_in (by omega) (by omega), hl.2.2.2.2.1 s hs, show (2 : Int32) = nI 2 from rfl, aI_in (by omega) (by omega), hv.lim]
    simp only [nx_le (show sused S (scom S) (S 4) pl s < 2 ^ 31 by omega) (show S 5 < 2 ^ 31 by omega)]
    show _ = some (if decide (S 5 < sused S (scom S) (S 4) pl s) = true then 1 else 0, M)
    by_cases h : sused S (scom S) (S 4) pl s ≤ S 5
    · rw [if_pos h, if_neg (by rw [decide_eq_true_eq]; omega)]; rfl
    · rw [if_neg h, if_pos (by rw [decide_eq_true_eq]; omega)]; rfl
theorem x_wr56 (hw : sWF S) {M : mm_M} (hv : vD M d S) (hl : vL M S pl) : ∀ (k b n : Nat), b + k = S 1 → k < n → l1_wrongness_56 n d (nI b) M = some (match sfl (fun b => decide (0 < slack S (scom S) (S 4) pl b)) k b with
    | some b => nI (4 + 8 * b)
    | none => 0, M) := by
  have hB := hw.B
  intro k
  induction k with
  | zero =>
    intro b n hk hn
    obtain ⟨n, rfl⟩ : ∃ j, n = j + 1 := ⟨n - 1, by omega⟩
    unfold l1_wrongness_56 b1_wrongness_56
    rw [bI_eq, hv.B, if_pos (by rw [nx_le (by omega) (by omega)]; omega)]
    rfl
  | succ k ih =>
    intro b n hk hn
    obtain ⟨n, rfl⟩ : ∃ j, n = j + 1 := ⟨n - 1, by omega⟩
    have hb : b < S 1 := by omega
    have hs2 := slack_le (pl := pl) hw hb
    have e : sfl (fun b => decide (0 < slack S (scom S) (S 4) pl b)) (k + 1) b = if decide (0 < slack S (scom S) (S 4) pl b) = true then some b else sfl (fun b => decide (0 < slack S (scom S) (S 4) pl b)) k (b + 1) := rfl
    unfold l1_wrongness_56 b1_wrongness_56
    rw [bI_eq, hv.B, if_neg (by rw [nx_le (by omega) (by omega)]; omega), x_lackOf hw hv hb (hl.2.2.2.2.2 b (S 0) hb (Nat.le_refl _)), cI_some]
    by_cases c1 : 0 < slack S (scom S) (S 4) pl b
    · rw [if_neg (nI_nle c1 (by omega)), e, if_pos (decide_eq_true c1), nx_l8, nx_mul, nx_l4, nx_add]
    · rw [if_pos (by rw [show slack S (scom S) (S 4) pl b = 0 by omega]; decide), e, if_neg (by rw [decide_eq_true_eq]; exact c1), nx_l1, nx_add]
      exact ih (b + 1) n (by omega) (by omega)
theorem x_wr10 (hw : sWF S) (hpl : ∀ s, s < S 0 → pl s < 16) {M : mm_M} (hv : vD M d S) (hl : vL M S pl) {a : Nat} (ha8 : mm_n a = 8) (hp : ∀ s, s < S 0 → mI M a s = nI (pl s)) {kind : Nat} (hk1 : 1 ≤ kind) (hk3 : kind ≤ 3) (rec : Nat → Nat → Int32 → mm_M → Option (Int32 × mm_M)) : ∀ (k s n : Nat), s + k = S 0 → k < n → l1_wrongness_10 rec n d a (nI kind) (nI s) M = match sfl (swr S pl kind) k s with
    | some s => some (nI (kind + 8 * s), M)
    | none => rec d a (nI (kind + 1)) M := by
  have hT := hw.T
  intro k
  induction k with
  | zero =>
    intro s n hk hn
    obtain ⟨n, rfl⟩ : ∃ j, n = j + 1 := ⟨n - 1, by omega⟩
    unfold l1_wrongness_10 b1_wrongness_10
    rw [bI_eq, hv.T, if_pos (by rw [nx_le (by omega) (by omega)]; omega), nx_l1, nx_add]
    rfl
  | succ k ih =>
    intro s n hk hn
    obtain ⟨n, rfl⟩ : ∃ j, n = j + 1 := ⟨n - 1, by omega⟩
    have e : sfl (swr S pl kind) (k + 1) s = if swr S pl kind s = true then some s else sfl (swr S pl kind) k (s + 1) := rfl
    unfold l1_wrongness_10 b1_wrongness_10
    rw [bI_eq, hv.T, if_neg (by rw [nx_le (by omega) (by omega)]; omega), ha8, aI_in (by omega) (by omega), hp s (by omega), x_slotIsWrong hw hv hl (by omega) hk1 hk3 (hpl s (by omega)), cI_some]
    by_cases c1 : swr S pl kind s = true
    · rw [if_pos c1, if_neg (by decide), e, if_pos c1, nx_l8, nx_mul, nx_add]
    · rw [if_neg c1, if_pos rfl, e, if_neg c1, nx_l1, nx_add]
      exact ih (s + 1) n (by omega) (by omega)
theorem x_wr2 (hw : sWF S) (hpl : ∀ s, s < S 0 → pl s < 16) {M : mm_M} (hv : vD M d S) (hl : vL M S pl) {a : Nat} (ha8 : mm_n a = 8) (hp : ∀ s, s < S 0 → mI M a s = nI (pl s)) : ∀ (k kind n : Nat), kind + k = 4 → k < n → 1 ≤ kind → l1_wrongness_2 n d a (nI kind) M = some (nI (swg S pl k kind), M) := by
  have hT := hw.T
  have hB := hw.B
  have hF := FU_big
  intro k
  induction k with
  | zero =>
    intro kind n hk hn h1
    obtain ⟨n, rfl⟩ : ∃ j, n = j + 1 := ⟨n - 1, by omega⟩
    obtain rfl : kind = 4 := by omega
    unfold l1_wrongness_2 b1_wrongness_2
    rw [if_pos (by decide), show (0 : Int32) = nI 0 from rfl, x_wr56 hw hv hl (S 1) 0 FU (by omega) (by omega)]
    unfold swg
    cases sfl (fun b => decide (0 < slack S (scom S) (S 4) pl b)) (S 1) 0 <;> rfl
  | succ k ih =>
    intro kind n hk hn h1
    obtain ⟨n, rfl⟩ : ∃ j, n = j + 1 := ⟨n - 1, by omega⟩
    unfold l1_wrongness_2 b1_wrongness_2
    rw [show (3 : Int32) = nI 3 from rfl, if_neg (by rw [nx_lt (by omega) (by omega)]; omega), show (0 : Int32) = nI 0 from rfl, x_wr10 hw hpl hv hl ha8 hp h1 (by omega) _ (S 0) 0 FU (by omega) (by omega)]
    unfold swg
    cases sfl (swr S pl kind) (S 0) 0 with
    | none => exact ih (kind + 1) n (by omega) (by omega) (by omega)
    | some s => rfl
theorem x_wrongness (hw : sWF S) (hpl : ∀ s, s < S 0 → pl s < 16) {M : mm_M} (hv : vD M d S) (hl : vL M S pl) {a : Nat} (ha : isA a = true) (ha8 : mm_n a = 8) (hp : ∀ s, s < S 0 → mI M a s = nI (pl s)) : f1_wrongness d a M = some (nI (swg S pl 3 1), M) := by
  unfold f1_wrongness
  rw [if_pos hv.ok, if_pos ha]
  exact x_wr2 hw hpl hv hl ha8 hp 3 1 FU (by omega) (by have := FU_big; omega) (by omega)
end CLS
-- the reference
theorem y_lackOf (hw : sWF S) {M : mm_M} (hv : vM M S) (hg : vG M S (scom S) (S 4) pl) {b : Nat} (hb : b < S 1) : f7_lackOf (nI b) M = some (nI (slack S (scom S) (S 4) pl b), M) := by
  have hB := hw.B
  have hT := hw.T
  have hb2 := hw.bus b hb
  have hcap : slv S (scom S) (S 4) pl b (S 0) ≤ scap S b := slv_le hb2.2.2.1 _
  have hcap2 : scap S b ≤ 200 := hb2.2.1.2
  have hn : sneed S b ≤ scap S b := hb2.2.2.2.1
  unfold f7_lackOf l7_lackOf_32
  rw [nx_l3, y_of hv (by omega) (by omega), cI_some, aI_z (by omega) (by omega), hv 0 (by omega), nx_l4, nx_mul, nx_add, aI_in (by omega) (by omega), hg.2 b (S 0) hb (Nat.le_refl _), bI_eq, show S (50 + 6 * b + 3) = sneed S b from rfl]
  simp only [nx_sub_le (show sneed S b < 2 ^ 31 by omega) (show slv S (scom S) (S 4) pl b (S 0) < 2 ^ 31 by omega)]
  by_cases h : sneed S b ≤ slv S (scom S) (S 4) pl b (S 0)
  · rw [if_pos h]
    have : slack S (scom S) (S 4) pl b = 0 := by unfold slack; omega
    rw [this]
    rfl
  · rw [if_neg h, nx_sub (by omega)]
    rfl
theorem y_so96 (hw : sWF S) {M : mm_M} (hv : vM M S) (hg : vG M S (scom S) (S 4) pl) : ∀ (k b n : Nat), b + k = S 1 → k < n → l7_sumOf_96 n (nI 3) (nI (ssum (fun b => slack S (scom S) (S 4) pl b) b)) (nI b) M = some (nI (sall S (scom S) (S 4) pl), M) := by
  have hB := hw.B
  intro k
  induction k with
  | zero =>
    intro b n hk hn
    obtain ⟨n, rfl⟩ : ∃ j, n = j + 1 := ⟨n - 1, by omega⟩
    unfold l7_sumOf_96 b7_sumOf_96 l7_sumOf_125
    rw [show (1 : Int32) = nI 1 from rfl, aI_in (by omega) (by omega), hv 1 (by omega), if_pos (by rw [nx_le (by omega) (by omega)]; omega), show b = S 1 by omega]
    rfl
  | succ k ih =>
    intro b n hk hn
    obtain ⟨n, rfl⟩ : ∃ j, n = j + 1 := ⟨n - 1, by omega⟩
    unfold l7_sumOf_96 b7_sumOf_96
    rw [show (1 : Int32) = nI 1 from rfl, aI_in (by omega) (by omega), hv 1 (by omega), if_neg (by rw [nx_le (by omega) (by omega)]; omega), if_pos (show nI 3 = 3 from rfl), y_lackOf hw hv hg (by omega), cI_some, bI_eq, nx_add, nx_add]
    exact ih (b + 1) n (by omega) (by omega)
theorem y_so96n {M : mm_M} (hv : vM M S) (hB : S 1 ≤ 4) {w : Nat} (hw3 : w < 3) (x : Int32) : l7_sumOf_96 FU (nI w) x (nI 0) M = some (x, M) := by
  have hF := FU_big
  obtain ⟨n, hn⟩ : ∃ n, FU = n + 1 := ⟨FU - 1, by omega⟩
  rw [hn]
  unfold l7_sumOf_96 b7_sumOf_96 l7_sumOf_125
  rw [show (1 : Int32) = nI 1 from rfl, aI_in (by omega) (by omega), hv 1 (by omega), show (3 : Int32) = nI 3 from rfl, if_neg (show ¬ nI w = nI 3 by rw [nx_eq (by omega) (by omega)]; omega)]
  split <;> rfl
/-- the figure of the first n SLOTS -/
def sfg (S : sS) (pl : Nat → Nat) (what n : Nat) : Nat := if what = 0 then ssum (fun s => sused S (scom S) (S 4) pl s * S (6 + s)) n else if what = 1 then smax (fun s => sused S (scom S) (S 4) pl s) n else if what = 2 then ssum (fun s => spop (pl s)) n else 0
theorem y_so4 (hw : sWF S) (hpl : ∀ s, s < S 0 → pl s < 16) {M : mm_M} (hv : vM M S) (hg : vG M S (scom S) (S 4) pl) (h51 : ∀ s, s < S 0 → mI M 51 s = nI (pl s)) {what : Nat} (hw4 : what < 4) : ∀ (k s n : Nat), s + k = S 0 → k < n → l7_sumOf_4 n (nI what) (nI (sfg S pl what s)) (nI s) M = some (nI (sfig S pl what), M) := by
  have hT := hw.T
  have hB := hw.B
  have hF := FU_big
  intro k
  induction k with
  | zero =>
    intro s n hk hn
    obtain ⟨n, rfl⟩ : ∃ j, n = j + 1 := ⟨n - 1, by omega⟩
    obtain rfl : s = S 0 := by omega
    unfold l7_sumOf_4 b7_sumOf_4
    rw [aI_z (by omega) (by omega), hv 0 (by omega), if_pos (by rw [nx_le (by omega) (by omega)]; omega), show (0 : Int32) = nI 0 from rfl]
    have : what = 0 ∨ what = 1 ∨ what = 2 ∨ what = 3 := by omega
    rcases this with rfl | rfl | rfl | rfl
    · rw [y_so96n hv hB (by omega)]; rfl
    · rw [y_so96n hv hB (by omega)]; rfl
    · rw [y_so96n hv hB (by omega)]; rfl
    · exact y_so96 hw hv hg (S 1) 0 FU (by omega) (by omega)
  | succ k ih =>
    intro s n hk hn
    obtain ⟨n, rfl⟩ : ∃ j, n = j + 1 := ⟨n - 1, by omega⟩
    have hs : s < S 0 := by omega
    have nxt := ih (s + 1) n (by omega) (by omega)
    have hu : sused S (scom S) (S 4) pl s ≤ 800 := sus_bd hw (scom S) (S 4) pl s (Nat.le_refl (S 1))
    unfold l7_sumOf_4 b7_sumOf_4 l7_sumOf_87
    rw [aI_z (by omega) (by omega), hv 0 (by omega), if_neg (by rw [nx_le (by omega) (by omega)]; omega)]
    have : what = 0 ∨ what = 1 ∨ what = 2 ∨ what = 3 := by omega
    rcases this with rfl | rfl | rfl | rfl
    · rw [if_pos (show nI 0 = 0 from rfl), aI_in (by omega) (by omega), hg.1 s hs, nx_l6, nx_add, aI_in (by omega) (by omega), hv _ (by omega), nx_mul, nx_add, nx_l1, nx_add]
      exact nxt
    · have hpk := smax_le (f := fun s => sused S (scom S) (S 4) pl s) (B := 800) s (fun k hk => sus_bd hw (scom S) (S 4) pl k (Nat.le_refl (S 1)))
      have e0 : sfg S pl 1 s = smax (fun s => sused S (scom S) (S 4) pl s) s := rfl
      have e1 : sfg S pl 1 (s + 1) = max (smax (fun s => sused S (scom S) (S 4) pl s) s) (sused S (scom S) (S 4) pl s) := rfl
      rw [if_neg (by decide), if_pos (show nI 1 = 1 from rfl), aI_in (by omega) (by omega), hg.1 s hs, nx_l1, nx_add, e0]
      simp only [nx_le (show sused S (scom S) (S 4) pl s < 2 ^ 31 by omega) (show smax (fun s => sused S (scom S) (S 4) pl s) s < 2 ^ 31 by omega)]
      rw [e1] at nxt
      by_cases c : sused S (scom S) (S 4) pl s ≤ smax (fun s => sused S (scom S) (S 4) pl s) s
      · rw [if_pos c]
        rw [Nat.max_eq_left c] at nxt
        exact nxt
      · rw [if_neg c, aI_in (by omega) (by omega), hg.1 s hs]
        rw [Nat.max_eq_right (by omega)] at nxt
        exact nxt
    · rw [if_neg (by decide), if_neg (by decide), if_pos (show nI 2 = 2 from rfl), aI_in (by omega) (by omega), h51 s hs, y_bits (hpl s hs), cI_some, nx_add, nx_l1, nx_add]
      exact nxt
    · rw [if_neg (by decide), if_neg (by decide), if_neg (by decide), nx_l1, nx_add]
      exact nxt
theorem y_sumOf (hw : sWF S) (hpl : ∀ s, s < S 0 → pl s < 16) {M : mm_M} (hv : vM M S) (hg : vG M S (scom S) (S 4) pl) (h51 : ∀ s, s < S 0 → mI M 51 s = nI (pl s)) {what : Nat} (hw4 : what < 4) : f7_sumOf (nI what) M = some (nI (sfig S pl what), M) := by
  have hT := hw.T
  have := y_so4 hw hpl hv hg h51 hw4 (S 0) 0 FU (by omega) (by have := FU_big; omega)
  have e : sfg S pl what 0 = 0 := by unfold sfg; split <;> (try split) <;> (try split) <;> rfl
  rw [e] at this
  exact this
theorem y_at2 (hw : sWF S) {M : mm_M} (hv : vM M S) (hc : ∀ b, b < 4 → mI M 50 b = nI (scom S b)) (hcb : ∀ b, scom S b < 100) {s : Nat} (hs : s < S 0) (hp : pl s < 16) (h51 : mI M 51 s = nI (pl s)) : ∀ (k b n : Nat), b + k = S 1 → k < n → l7_isAllThere_2 n (nI s) (nI b) M = some (if (sfl (fun b => sbit (pl s) b && !sthere (scom S b) (sgo S b) s) k b).isSome = true then 0 else 1, M) := by
  have hB := hw.B
  have hT := hw.T
  intro k
  induction k with
  | zero =>
    intro b n hk hn
    obtain ⟨n, rfl⟩ : ∃ j, n = j + 1 := ⟨n - 1, by omega⟩
    unfold l7_isAllThere_2 b7_isAllThere_2
    rw [show (1 : Int32) = nI 1 from rfl, aI_in (by omega) (by omega), hv 1 (by omega), if_pos (by rw [nx_le (by omega) (by omega)]; omega)]
    rfl
  | succ k ih =>
    intro b n hk hn
    obtain ⟨n, rfl⟩ : ∃ j, n = j + 1 := ⟨n - 1, by omega⟩
    have e : sfl (fun b => sbit (pl s) b && !sthere (scom S b) (sgo S b) s) (k + 1) b = if (sbit (pl s) b && !sthere (scom S b) (sgo S b) s) = true then some b else sfl (fun b => sbit (pl s) b && !sthere (scom S b) (sgo S b) s) k (b + 1) := rfl
    unfold l7_isAllThere_2 b7_isAllThere_2 l7_isAllThere_36
    rw [show (1 : Int32) = nI 1 from rfl, aI_in (by omega) (by omega), hv 1 (by omega), if_neg (by rw [nx_le (by omega) (by omega)]; omega), aI_in (by omega) (by omega), h51, y_has hp (by omega), cI_some, nx_add, ← nx_l1]
    by_cases c1 : sbit (pl s) b = true
    · rw [if_pos c1, if_neg (by decide), y_isThere hv hw hc hcb (by omega) (by omega), cI_some]
      by_cases c2 : sthere (scom S b) (sgo S b) s = true
      · have hne : ¬ (sbit (pl s) b && !sthere (scom S b) (sgo S b) s) = true := by rw [c2]; simp
        rw [if_pos c2, if_neg (by decide), e, if_neg hne]
        exact ih (b + 1) n (by omega) (by omega)
      · rw [if_neg c2, if_pos rfl, e, if_pos (by rw [c1, Bool.eq_false_iff.mpr c2]; rfl)]
        rfl
    · have hne : ¬ (sbit (pl s) b && !sthere (scom S b) (sgo S b) s) = true := by rw [Bool.eq_false_iff.mpr c1]; simp
      rw [if_neg c1, if_pos rfl, e, if_neg hne]
      exact ih (b + 1) n (by omega) (by omega)
theorem y_wr113 (hw : sWF S) {M : mm_M} (hv : vM M S) (hg : vG M S (scom S) (S 4) pl) : ∀ (k b n : Nat), b + k = S 1 → k < n → l7_wrongOf_113 n (nI b) M = some (match sfl (fun b => decide (0 < slack S (scom S) (S 4) pl b)) k b with
    | some b => nI (4 + 8 * b)
    | none => 0, M) := by
  have hB := hw.B
  intro k
  induction k with
  | zero =>
    intro b n hk hn
    obtain ⟨n, rfl⟩ : ∃ j, n = j + 1 := ⟨n - 1, by omega⟩
    unfold l7_wrongOf_113 b7_wrongOf_113
    rw [show (1 : Int32) = nI 1 from rfl, aI_in (by omega) (by omega), hv 1 (by omega), if_pos (by rw [nx_le (by omega) (by omega)]; omega)]
    rfl
  | succ k ih =>
    intro b n hk hn
    obtain ⟨n, rfl⟩ : ∃ j, n = j + 1 := ⟨n - 1, by omega⟩
    have hb : b < S 1 := by omega
    have hs2 := slack_le (pl := pl) hw hb
    have e : sfl (fun b => decide (0 < slack S (scom S) (S 4) pl b)) (k + 1) b = if decide (0 < slack S (scom S) (S 4) pl b) = true then some b else sfl (fun b => decide (0 < slack S (scom S) (S 4) pl b)) k (b + 1) := rfl
    unfold l7_wrongOf_113 b7_wrongOf_113
    rw [show (1 : Int32) = nI 1 from rfl, aI_in (by omega) (by omega), hv 1 (by omega), if_neg (by rw [nx_le (by omega) (by omega)]; omega), y_lackOf hw hv hg hb, cI_some]
    by_cases c1 : 0 < slack S (scom S) (S 4) pl b
    · rw [if_neg (nI_nle c1 (by omega)), e, if_pos (decide_eq_true c1), nx_l8, nx_mul, nx_l4, nx_add]
    · rw [if_pos (by rw [show slack S (scom S) (S 4) pl b = 0 by omega]; decide), e, if_neg (by rw [decide_eq_true_eq]; exact c1), nx_add]
      exact ih (b + 1) n (by omega) (by omega)
theorem y_wr9 (hw : sWF S) (hpl : ∀ s, s < S 0 → pl s < 16) {M : mm_M} (hv : vM M S) (hc : ∀ b, b < 4 → mI M 50 b = nI (scom S b)) (hcb : ∀ b, scom S b < 100) (hg : vG M S (scom S) (S 4) pl) (h51 : ∀ s, s < S 0 → mI M 51 s = nI (pl s)) (h11 : mI M 46 11 = nI (S 3)) (h13 : mI M 46 13 = nI (S 5)) {kind : Nat} (hk1 : 1 ≤ kind) (hk3 : kind ≤ 3) (rec : Int32 → mm_M → Option (Int32 × mm_M)) : ∀ (k s n : Nat), s + k = S 0 → k < n → l7_wrongOf_9 rec n (nI kind) (nI s) M = match sfl (swr S pl kind) k s with
    | some s => some (nI (kind + 8 * s), M)
    | none => rec (nI (kind + 1)) M := by
  have hT := hw.T
  have hB := hw.B
  have hpg := hw.plug
  have hli := hw.lim
  have hF := FU_big
  intro k
  induction k with
  | zero =>
    intro s n hk hn
    obtain ⟨n, rfl⟩ : ∃ j, n = j + 1 := ⟨n - 1, by omega⟩
    unfold l7_wrongOf_9 b7_wrongOf_9
    rw [aI_z (by omega) (by omega), hv 0 (by omega), if_pos (by rw [nx_le (by omega) (by omega)]; omega), nx_l1, nx_add]
    rfl
  | succ k ih =>
    intro s n hk hn
    obtain ⟨n, rfl⟩ : ∃ j, n = j + 1 := ⟨n - 1, by omega⟩
    have hs : s < S 0 := by omega
    have hp := hpl s hs
    have hsp := spop_le ⟨pl s, hp⟩
    simp only at hsp
    have hu : sused S (scom S) (S 4) pl s ≤ 800 := sus_bd hw (scom S) (S 4) pl s (Nat.le_refl (S 1))
    have e : sfl (swr S pl kind) (k + 1) s = if swr S pl kind s = true then some s else sfl (swr S pl kind) k (s + 1) := rfl
    have yes : swr S pl kind s = true → l7_wrongOf_87 (l7_wrongOf_9 rec n) (nI kind) (nI s) 1 M = match sfl (swr S pl kind) (k + 1) s with
        | some s => some (nI (kind + 8 * s), M)
        | none => rec (nI (kind + 1)) M := by
      intro h
      unfold l7_wrongOf_87
      rw [if_neg (by decide), e, if_pos h, nx_l8, nx_mul, nx_add]
    have no : ¬ swr S pl kind s = true → l7_wrongOf_87 (l7_wrongOf_9 rec n) (nI kind) (nI s) 0 M = match sfl (swr S pl kind) (k + 1) s with
        | some s => some (nI (kind + 8 * s), M)
        | none => rec (nI (kind + 1)) M := by
      intro h
      unfold l7_wrongOf_87
      rw [if_pos rfl, e, if_neg h, nx_l1, nx_add]
      exact ih (s + 1) n (by omega) (by omega)
    unfold l7_wrongOf_9 b7_wrongOf_9
    rw [aI_z (by omega) (by omega), hv 0 (by omega), if_neg (by rw [nx_le (by omega) (by omega)]; omega)]
    have : kind = 1 ∨ kind = 2 ∨ kind = 3 := by omega
    rcases this with rfl | rfl | rfl
    · rw [if_pos (show nI 1 = 1 from rfl)]
      unfold f7_isAllThere
      rw [show (0 : Int32) = nI 0 from rfl, y_at2 hw hv hc hcb hs hp (h51 s hs) (S 1) 0 FU (by omega) (by omega), cI_some, ← nx_lit0]
      have hx : swr S pl 1 s = (sfl (fun b => sbit (pl s) b && !sthere (scom S b) (sgo S b) s) (S 1) 0).isSome := rfl
      by_cases h : (sfl (fun b => sbit (pl s) b && !sthere (scom S b) (sgo S b) s) (S 1) 0).isSome = true
      · rw [if_pos h, if_pos rfl]; exact yes (by rw [hx]; exact h)
      · rw [if_neg h, if_neg (by decide)]; exact no (by rw [hx]; exact h)
    · rw [if_neg (by decide), if_pos (show nI 2 = 2 from rfl), aI_in (by omega) (by omega), h51 s hs, y_bits hp, cI_some, bI_eq, h11]
      simp only [nx_le (show spop (pl s) < 2 ^ 31 by omega) (show S 3 < 2 ^ 31 by omega)]
      have hx : swr S pl 2 s = decide (S 3 < spop (pl s)) := rfl
      by_cases h : spop (pl s) ≤ S 3
      · rw [if_pos h]; exact no (by rw [hx, decide_eq_true_eq]; omega)
      · rw [if_neg h]; exact yes (by rw [hx, decide_eq_true_eq]; omega)
    · rw [if_neg (by decide), if_neg (by decide), aI_in (by omega) (by omega), hg.1 s hs, bI_eq, h13]
      simp only [nx_le (show sused S (scom S) (S 4) pl s < 2 ^ 31 by omega) (show S 5 < 2 ^ 31 by omega)]
      have hx : swr S pl 3 s = decide (S 5 < sused S (scom S) (S 4) pl s) := rfl
      by_cases h : sused S (scom S) (S 4) pl s ≤ S 5
      · rw [if_pos h]; exact no (by rw [hx, decide_eq_true_eq]; omega)
      · rw [if_neg h]; exact yes (by rw [hx, decide_eq_true_eq]; omega)
theorem y_wr2 (hw : sWF S) (hpl : ∀ s, s < S 0 → pl s < 16) {M : mm_M} (hv : vM M S) (hc : ∀ b, b < 4 → mI M 50 b = nI (scom S b)) (hcb : ∀ b, scom S b < 100) (hg : vG M S (scom S) (S 4) pl) (h51 : ∀ s, s < S 0 → mI M 51 s = nI (pl s)) (h11 : mI M 46 11 = nI (S 3)) (h13 : mI M 46 13 = nI (S 5)) : ∀ (k kind n : Nat), kind + k = 4 → k < n → 1 ≤ kind → l7_wrongOf_2 n (nI kind) M = some (nI (swg S pl k kind), M) := by
  have hT := hw.T
  have hB := hw.B
  have hF := FU_big
  intro k
  induction k with
  | zero =>
    intro kind n hk hn h1
    obtain ⟨n, rfl⟩ : ∃ j, n = j + 1 := ⟨n - 1, by omega⟩
    obtain rfl : kind = 4 := by omega
    unfold l7_wrongOf_2 b7_wrongOf_2
    rw [if_pos (by decide), show (0 : Int32) = nI 0 from rfl, y_wr113 hw hv hg (S 1) 0 FU (by omega) (by omega)]
    unfold swg
    cases sfl (fun b => decide (0 < slack S (scom S) (S 4) pl b)) (S 1) 0 <;> rfl
  | succ k ih =>
    intro kind n hk hn h1
    obtain ⟨n, rfl⟩ : ∃ j, n = j + 1 := ⟨n - 1, by omega⟩
    unfold l7_wrongOf_2 b7_wrongOf_2
    rw [show (4 : Int32) = nI 4 from rfl, if_neg (by rw [nx_le (by omega) (by omega)]; omega), show (0 : Int32) = nI 0 from rfl, y_wr9 hw hpl hv hc hcb hg h51 h11 h13 h1 (by omega) _ (S 0) 0 FU (by omega) (by omega)]
    unfold swg
    cases sfl (swr S pl kind) (S 0) 0 with
    | none => exact ih (kind + 1) n (by omega) (by omega) (by omega)
    | some s => rfl
theorem y_wrongOf (hw : sWF S) (hpl : ∀ s, s < S 0 → pl s < 16) {M : mm_M} (hv : vM M S) (hc : ∀ b, b < 4 → mI M 50 b = nI (scom S b)) (hcb : ∀ b, scom S b < 100) (hg : vG M S (scom S) (S 4) pl) (h51 : ∀ s, s < S 0 → mI M 51 s = nI (pl s)) (h11 : mI M 46 11 = nI (S 3)) (h13 : mI M 46 13 = nI (S 5)) : f7_wrongOf M = some (nI (swg S pl 3 1), M) := y_wr2 hw hpl hv hc hcb hg h51 h11 h13 3 1 FU (by omega) (by have := FU_big; omega) (by omega)
theorem y_chargesOf_loop (hw : sWF S) {M : mm_M} (hv : vM M S) : ∀ (k s n : Nat), s + k = S 0 → k < n → l7_chargesOf_4 n (nI (ssum (fun s => spop (S (74 + s))) s)) (nI s) M = some (nI (schg S (fun s => S (74 + s))), M) := by
  have hT := hw.T
  have h16 := two_pow_le hw.B
  intro k
  induction k with
  | zero =>
    intro s n hk hn
    obtain ⟨n, rfl⟩ : ∃ j, n = j + 1 := ⟨n - 1, by omega⟩
    unfold l7_chargesOf_4 b7_chargesOf_4
    rw [aI_z (by omega) (by omega), hv 0 (by omega), if_pos (by rw [nx_le (by omega) (by omega)]; omega), show s = S 0 by omega]
    rfl
  | succ k ih =>
    intro s n hk hn
    obtain ⟨n, rfl⟩ : ∃ j, n = j + 1 := ⟨n - 1, by omega⟩
    have hs := hw.set s (by omega)
    unfold l7_chargesOf_4 b7_chargesOf_4
    rw [aI_z (by omega) (by omega), hv 0 (by omega), if_neg (by rw [nx_le (by omega) (by omega)]; omega), nx_l74, nx_add, aI_in (by omega) (by omega), hv _ (by omega), y_bits (by omega), cI_some, bI_eq, nx_add, nx_l1, nx_add]
    exact ih (s + 1) n (by omega) (by omega)
theorem y_chargesOf (hw : sWF S) {M : mm_M} (hv : vM M S) : f7_chargesOf M = some (nI (schg S (fun s => S (74 + s))), M) := y_chargesOf_loop hw hv (S 0) 0 FU (by omega) (by have := FU_big; have := hw.T; omega)
end SUMS
