/-- nothing but cells of P has changed -/
def Fr (P : Nat → Prop) (M M' : mm_M) : Prop := (∀ c, ¬ P c → M'.1 c = M.1 c) ∧ (∀ c, ¬ P c → M'.2.1 c = M.2.1 c) ∧ M'.2.2 = M.2.2
theorem Fr.rf {P : Nat → Prop} {M : mm_M} : Fr P M M := ⟨fun _ _ => rfl, fun _ _ => rfl, rfl⟩
theorem Fr.tr {P : Nat → Prop} {M M1 M2 : mm_M} (h1 : Fr P M M1) (h2 : Fr P M1 M2) : Fr P M M2 := ⟨fun c h => (h2.1 c h).trans (h1.1 c h), fun c h => (h2.2.1 c h).trans (h1.2.1 c h), h2.2.2.trans h1.2.2⟩
theorem Fr.wd {P Q : Nat → Prop} {M M1 : mm_M} (h : Fr P M M1) (hpq : ∀ c, P c → Q c) : Fr Q M M1 := ⟨fun c hc => h.1 c (fun z => hc (hpq c z)), fun c hc => h.2.1 c (fun z => hc (hpq c z)), h.2.2⟩
theorem Fr.sI {P : Nat → Prop} {M : mm_M} {c k : Nat} {v : Int32} (hc : P c) : Fr P M (sI M c k v) := ⟨fun a h => by
  have : a ≠ c := fun e => h (e ▸ hc)
  simp [_root_.Jvm.Pilot.@@N@@.sI, sR, uR, this], fun _ _ => rfl, rfl⟩
theorem Fr.sR {P : Nat → Prop} {M : mm_M} {c : Nat} {r : Nat → Int32} (hc : P c) : Fr P M (sR M c r) := ⟨fun a h => by
  have : a ≠ c := fun e => h (e ▸ hc)
  simp [_root_.Jvm.Pilot.@@N@@.sR, uR, this], fun _ _ => rfl, rfl⟩
theorem Fr.sL {P : Nat → Prop} {M : mm_M} {c k : Nat} {v : Int64} (hc : P c) : Fr P M (sL M c k v) := ⟨fun _ _ => rfl, fun a h => by
  have : a ≠ c := fun e => h (e ▸ hc)
  simp [_root_.Jvm.Pilot.@@N@@.sL, uR, this], rfl⟩
theorem Fr.mI {P : Nat → Prop} {M M' : mm_M} (h : Fr P M M') {c : Nat} (hc : ¬ P c) (k : Nat) : mI M' c k = mI M c k := by
  unfold _root_.Jvm.Pilot.@@N@@.mI; rw [h.1 c hc]
theorem Fr.mNow {P : Nat → Prop} {M M' : mm_M} (h : Fr P M M') : mNow M' = mNow M := by
  unfold _root_.Jvm.Pilot.@@N@@.mNow; rw [h.2.2]
theorem isD_le {d : Nat} (h : isD d = true) : 2 ≤ d ∧ d ≤ 11 := by rcases isD_or h with rfl | rfl <;> decide
theorem vD.mv {P : Nat → Prop} {M M' : mm_M} {d : Nat} {S : sS} (h : vD M d S) (hf : Fr P M M') (hP : ∀ c, P c → 20 ≤ c) : vD M' d S := by
  have hd := isD_le h.ok
  have e : ∀ k, k ≤ 8 → ∀ i, mI M' (d + k) i = mI M (d + k) i := fun k hk i => hf.mI (fun z => by have := hP _ z; omega) i
  have e0 := e 0 (by omega)
  rw [Nat.add_zero] at e0
  obtain ⟨g1, g2, g3, g4, g5, g6, g7, g8, g9, g10, g11⟩ := h
  exact ⟨g1, by rw [e0]; exact g2, by rw [e0]; exact g3, by rw [e0]; exact g4, fun k hk => by rw [e 1 (by omega)]; exact g5 k hk, fun k hk => by rw [e 2 (by omega)]; exact g6 k hk, fun k hk => by rw [e 3 (by omega)]; exact g7 k hk, fun k hk => by rw [e 4 (by omega)]; exact g8 k hk, fun c k hc hk => by rw [e 5 (by omega)]; exact g9 c k hc hk, fun c k hc hk => by rw [e 6 (by omega)]; exact g10 c k hc hk, fun b w hb hw => by rw [e 7 (by omega)]; exact g11 b w hb hw⟩
theorem vM.mv {P : Nat → Prop} {M M' : mm_M} {S : sS} (h : vM M S) (hf : Fr P M M') (hP : ¬ P 47) : vM M' S := fun k hk => by rw [hf.mI hP]; exact h k hk
-- plans
def ssum (f : Nat → Nat) : Nat → Nat
  | 0 => 0
  | n + 1 => ssum f n + f n
def smax (f : Nat → Nat) : Nat → Nat
  | 0 => 0
  | n + 1 => max (smax f n) (f n)
theorem ssum_congr {f g : Nat → Nat} : ∀ n, (∀ k, k < n → f k = g k) → ssum f n = ssum g n
  | 0, _ => rfl
  | n + 1, h => by
    unfold ssum
    rw [ssum_congr n (fun k hk => h k (by omega)), h n (by omega)]
theorem ssum_le {f : Nat → Nat} {B : Nat} : ∀ n, (∀ k, k < n → f k ≤ B) → ssum f n ≤ n * B
  | 0, _ => by simp [ssum]
  | n + 1, h => by
    have h1 := ssum_le n (fun k hk => h k (by omega))
    have h2 := h n (by omega)
    have : (n + 1) * B = n * B + B := by rw [Nat.add_mul, Nat.one_mul]
    unfold ssum
    omega
theorem smax_congr {f g : Nat → Nat} : ∀ n, (∀ k, k < n → f k = g k) → smax f n = smax g n
  | 0, _ => rfl
  | n + 1, h => by
    unfold smax
    rw [smax_congr n (fun k hk => h k (by omega)), h n (by omega)]
theorem smax_le {f : Nat → Nat} {B : Nat} : ∀ n, (∀ k, k < n → f k ≤ B) → smax f n ≤ B
  | 0, _ => by simp [smax]
  | n + 1, h => by
    have h1 := smax_le n (fun k hk => h k (by omega))
    have h2 := h n (by omega)
    unfold smax
    omega
/-- what a BUS takes in a SLOT at a LEVEL, by the plan pl, with comes com -/
def sinc (S : sS) (com : Nat → Nat) (pow : Nat) (pl : Nat → Nat) (b s lev : Nat) : Nat := if (sbit (pl s) b && sthere (com b) (sgo S b) s) = true then sgain S pow b lev else 0
def slv (S : sS) (com : Nat → Nat) (pow : Nat) (pl : Nat → Nat) (b : Nat) : Nat → Nat
  | 0 => slev S b
  | s + 1 => slv S com pow pl b s + sinc S com pow pl b s (slv S com pow pl b s)
theorem slv_le {S : sS} {com : Nat → Nat} {pow : Nat} {pl : Nat → Nat} {b : Nat} (h : slev S b ≤ scap S b) : ∀ s, slv S com pow pl b s ≤ scap S b
  | 0 => h
  | s + 1 => by
    have h1 := slv_le h s (com := com) (pow := pow) (pl := pl)
    unfold slv sinc
    split
    · have := sgain_le (S := S) pow b (slv S com pow pl b s)
      omega
    · omega
/-- USED, of the first n BUSES -/
def sus (S : sS) (com : Nat → Nat) (pow : Nat) (pl : Nat → Nat) (s n : Nat) : Nat := ssum (fun b => sinc S com pow pl b s (slv S com pow pl b s)) n
def sused (S : sS) (com : Nat → Nat) (pow : Nat) (pl : Nat → Nat) (s : Nat) : Nat := sus S com pow pl s (S 1)
def scost (S : sS) (com : Nat → Nat) (pow : Nat) (pl : Nat → Nat) : Nat := ssum (fun s => sused S com pow pl s * S (6 + s)) (S 0)
def speak (S : sS) (com : Nat → Nat) (pow : Nat) (pl : Nat → Nat) : Nat := smax (fun s => sused S com pow pl s) (S 0)
def schg (S : sS) (pl : Nat → Nat) : Nat := ssum (fun s => spop (pl s)) (S 0)
def slack (S : sS) (com : Nat → Nat) (pow : Nat) (pl : Nat → Nat) (b : Nat) : Nat := sneed S b - slv S com pow pl b (S 0)
def sall (S : sS) (com : Nat → Nat) (pow : Nat) (pl : Nat → Nat) : Nat := ssum (fun b => slack S com pow pl b) (S 1)
theorem sinc_bd {S : sS} (hw : sWF S) (com : Nat → Nat) (pow : Nat) (pl : Nat → Nat) {b : Nat} (hb : b < S 1) (s lev : Nat) : sinc S com pow pl b s lev ≤ 200 := by
  have h := (hw.bus b hb).2.1.2
  unfold sinc
  split
  · have := sgain_le (S := S) pow b lev
    unfold scap at this
    omega
  · omega
theorem sus_bd {S : sS} (hw : sWF S) (com : Nat → Nat) (pow : Nat) (pl : Nat → Nat) (s : Nat) {n : Nat} (hn : n ≤ S 1) : sus S com pow pl s n ≤ 800 := by
  have := ssum_le (f := fun b => sinc S com pow pl b s (slv S com pow pl b s)) (B := 200) n (fun k hk => sinc_bd hw com pow pl (by omega) s _)
  have h4 := hw.B
  unfold sus
  omega
theorem size_tab : ∀ s : Fin 16, mm_ro 1 s.1 = nI (spop s.1) := by decide +kernel
theorem first_tab : ∀ s : Fin 16, mm_ro 2 s.1 = nI (([0, 0, 1, 0, 2, 0, 1, 0, 3, 0, 1, 0, 2, 0, 1, 0] : List Nat).getD s.1 0) := by decide +kernel
theorem spop_le : ∀ s : Fin 16, spop s.1 ≤ 4 := by decide +kernel
