/-! what is told, changed -/
def updS (S : sS) (k v : Nat) : sS := fun j => if j = k then v else S j
def rowS (S : sS) (a n : Nat) (g : Nat → Nat) : sS := fun j => if a ≤ j ∧ j < a + n then g (j - a) else S j
theorem updS_eq (S : sS) (k v : Nat) : updS S k v k = v := if_pos rfl
theorem updS_ne (S : sS) {k j : Nat} (v : Nat) (h : j ≠ k) : updS S k v j = S j := if_neg h
theorem rowS_in (S : sS) {a n : Nat} (g : Nat → Nat) {j : Nat} (h : a ≤ j) (h2 : j < a + n) : rowS S a n g j = g (j - a) := if_pos ⟨h, h2⟩
theorem rowS_out (S : sS) {a n : Nat} (g : Nat → Nat) {j : Nat} (h : j < a ∨ a + n ≤ j) : rowS S a n g j = S j := if_neg (by omega)
/-- where an entry of a depot's row lies in what is told -/
def dix (i k : Nat) : Nat := if i = 0 then (if k = 0 then 0 else if k = 1 then 2 else 1) else if i = 1 then 3 + k else if i = 2 then 6 + k else if i = 3 then 74 + k else if i = 4 then 14 + 9 * k else if i = 5 then 14 + 9 * (k / 4) + 1 + 2 * (k % 4) else if i = 6 then 14 + 9 * (k / 4) + 2 + 2 * (k % 4) else 50 + k
def dsz (i : Nat) : Nat := ([3, 3, 8, 8, 4, 16, 16, 24] : List Nat).getD i 0
def dkey (i k : Nat) : Bool := (List.range 8).all (fun i' => (List.range 24).all (fun k' => !(decide (k' < dsz i')) || !(decide (dix i k = dix i' k')) || (decide (i = i') && decide (k = k'))))
theorem dix_tab : ∀ i : Fin 8, ∀ k : Fin 24, k.1 < dsz i.1 → dkey i.1 k.1 = true := by decide +kernel
theorem dsz_le : ∀ i : Fin 8, dsz i.1 ≤ 24 := by decide +kernel
theorem dix_lt : ∀ i : Fin 8, ∀ k : Fin 24, k.1 < dsz i.1 → dix i.1 k.1 < 82 := by decide +kernel
theorem dix_inj {i k i' k' : Nat} (hi : i < 8) (hk : k < dsz i) (hi' : i' < 8) (hk' : k' < dsz i') (h : dix i k = dix i' k') : i = i' ∧ k = k' := by
  have h1 := dsz_le ⟨i, hi⟩
  have h2 := dsz_le ⟨i', hi'⟩
  simp only at h1 h2
  have t := dix_tab ⟨i, hi⟩ ⟨k, by omega⟩ hk
  unfold dkey at t
  rw [List.all_eq_true] at t
  have t1 := t i' (List.mem_range.mpr hi')
  rw [List.all_eq_true] at t1
  have t2 := t1 k' (List.mem_range.mpr (by omega))
  simp only [Bool.or_eq_true, Bool.not_eq_true', decide_eq_false_iff_not, Bool.and_eq_true, decide_eq_true_eq] at t2
  rcases t2 with (t3 | t3) | t3
  · exact absurd hk' t3
  · exact absurd h t3
  · exact t3
/-- the depot d holds S, entry by entry -/
def vE (M : mm_M) (d : Nat) (S : sS) : Prop := isD d = true ∧ ∀ i k, i < 8 → k < dsz i → mI M (d + i) k = nI (S (dix i k))
theorem vD_E {M : mm_M} {d : Nat} {S : sS} : vD M d S ↔ vE M d S := by
  constructor
  · intro h
    refine ⟨h.ok, fun i k hi hk => ?_⟩
    have : i = 0 ∨ i = 1 ∨ i = 2 ∨ i = 3 ∨ i = 4 ∨ i = 5 ∨ i = 6 ∨ i = 7 := by omega
    rcases this with rfl | rfl | rfl | rfl | rfl | rfl | rfl | rfl
    · have hk : k < 3 := hk
      have : k = 0 ∨ k = 1 ∨ k = 2 := by omega
      rcases this with rfl | rfl | rfl
      · exact h.T
      · exact h.C
      · exact h.B
    · exact h.set k hk
    · exact h.price k hk
    · exact h.plan k hk
    · exact h.pc k hk
    · have hk : k < 16 := hk
      have := h.fr (k / 4) (k % 4) (by omega) (by omega)
      rw [show 4 * (k / 4) + k % 4 = k by omega] at this
      exact this
    · have hk : k < 16 := hk
      have := h.ra (k / 4) (k % 4) (by omega) (by omega)
      rw [show 4 * (k / 4) + k % 4 = k by omega] at this
      exact this
    · have hk : k < 24 := hk
      have := h.fact (k / 6) (k % 6) (by omega) (by omega)
      rw [show 6 * (k / 6) + k % 6 = k by omega, show 50 + 6 * (k / 6) + k % 6 = 50 + k by omega] at this
      exact this
  · intro h
    refine ⟨h.1, h.2 0 0 (by omega) (by decide), h.2 0 1 (by omega) (by decide), h.2 0 2 (by omega) (by decide), fun k hk => h.2 1 k (by omega) hk, fun k hk => h.2 2 k (by omega) hk, fun k hk => h.2 3 k (by omega) hk, fun k hk => h.2 4 k (by omega) hk, fun c k hc hk => ?_, fun c k hc hk => ?_, fun b w hb hw => ?_⟩
    · have := h.2 5 (4 * c + k) (by omega) (show 4 * c + k < 16 by omega)
      rw [show dix 5 (4 * c + k) = 14 + 9 * ((4 * c + k) / 4) + 1 + 2 * ((4 * c + k) % 4) from rfl, show (4 * c + k) / 4 = c by omega, show (4 * c + k) % 4 = k by omega] at this
      exact this
    · have := h.2 6 (4 * c + k) (by omega) (show 4 * c + k < 16 by omega)
      rw [show dix 6 (4 * c + k) = 14 + 9 * ((4 * c + k) / 4) + 2 + 2 * ((4 * c + k) % 4) from rfl, show (4 * c + k) / 4 = c by omega, show (4 * c + k) % 4 = k by omega] at this
      exact this
    · have := h.2 7 (6 * b + w) (by omega) (show 6 * b + w < 24 by omega)
      rw [show dix 7 (6 * b + w) = 50 + (6 * b + w) from rfl, show 50 + (6 * b + w) = 50 + 6 * b + w by omega] at this
      exact this
theorem vE_upd {M : mm_M} {d : Nat} {S : sS} (h : vE M d S) {i k : Nat} (hi : i < 8) (hk : k < dsz i) (v : Nat) : vE (sI M (d + i) k (nI v)) d (updS S (dix i k) v) := by
  refine ⟨h.1, fun i' k' hi' hk' => ?_⟩
  by_cases he : i' = i ∧ k' = k
  · obtain ⟨rfl, rfl⟩ := he
    rw [mI_sI_eq, updS_eq]
  · rw [updS_ne _ _ (fun z => he (dix_inj hi' hk' hi hk z)), mI_sI, if_neg (fun z => he ⟨by omega, z.2⟩)]
    exact h.2 i' k' hi' hk'
/-- a stretch of a row -/
theorem vE_rng {M M' : mm_M} {d : Nat} {S : sS} (h : vE M d S) {i a k0 n : Nat} {g : Nat → Nat} (hi : i < 8) (ha : ∀ k, dix i k = a + k) (hn : k0 + n ≤ dsz i) (h1 : ∀ k, k < dsz i → mI M' (d + i) k = if k0 ≤ k ∧ k < k0 + n then nI (g (k - k0)) else mI M (d + i) k) (h2 : ∀ i', i' < 8 → i' ≠ i → ∀ k, mI M' (d + i') k = mI M (d + i') k) : vE M' d (rowS S (a + k0) n g) := by
  refine ⟨h.1, fun i' k' hi' hk' => ?_⟩
  by_cases he : i' = i
  · subst he
    rw [h1 k' hk', ha]
    by_cases hc : k0 ≤ k' ∧ k' < k0 + n
    · rw [if_pos hc, rowS_in _ _ (by omega) (by omega), show a + k' - (a + k0) = k' - k0 by omega]
    · rw [if_neg hc, rowS_out _ _ (by omega), h.2 i' k' hi' hk', ha]
  · rw [h2 i' hi' he, h.2 i' k' hi' hk']
    congr 1
    symm
    unfold rowS
    rw [if_neg]
    intro z
    apply he
    exact (dix_inj hi' hk' hi (show dix i' k' - a < dsz i by omega) (by rw [ha]; omega)).1
theorem vM_upd {M : mm_M} {S : sS} (h : vM M S) {k : Nat} (v : Nat) : vM (sI M 47 k (nI v)) (updS S k v) := fun j hj => by
  by_cases he : j = k
  · subst he; rw [mI_sI_eq, updS_eq]
  · rw [mI_sI_k _ _ _ he, updS_ne _ _ he]; exact h j hj
theorem vD.E {M : mm_M} {d : Nat} {S : sS} (h : vD M d S) : vE M d S := vD_E.mp h
theorem vE.D {M : mm_M} {d : Nat} {S : sS} (h : vE M d S) : vD M d S := vD_E.mpr h
/-- what is told can be, piece by piece -/
theorem sWF_mk {S S' : sS} (hw : sWF S) (h0 : S' 0 = S 0) (h2 : S' 2 = S 2) (hc : ∀ j, 14 ≤ j → j < 50 → S' j = S j) (h1 : S' 1 ≤ 4) (h3 : 1 ≤ S' 3 ∧ S' 3 ≤ 4) (h4 : 1 ≤ S' 4 ∧ S' 4 ≤ 50) (h5 : 1 ≤ S' 5 ∧ S' 5 ≤ 200) (hp : ∀ s, s < 8 → S' (6 + s) ≤ 99)
    (hb : ∀ b, b < S' 1 → S' (50 + 6 * b) < S' 2 ∧ (1 ≤ S' (50 + 6 * b + 1) ∧ S' (50 + 6 * b + 1) ≤ 200) ∧ S' (50 + 6 * b + 2) ≤ S' (50 + 6 * b + 1) ∧ S' (50 + 6 * b + 3) ≤ S' (50 + 6 * b + 1) ∧ S' (50 + 6 * b + 4) < S' (50 + 6 * b + 5) ∧ S' (50 + 6 * b + 5) ≤ S' 0) (hm : ∀ b, b < 4 → S' (50 + 6 * b + 4) ≤ 8) (hs : ∀ s, s < 8 → S' (74 + s) < 2 ^ S' 1) (ho : ∀ s, S' 0 ≤ s → s < 8 → S' (74 + s) = 0) : sWF S' := by
  have hC := hw.C
  refine ⟨by rw [h0]; exact hw.T, h1, by rw [h2]; exact hC, h3, h4, h5, hp, fun c hc' => ?_, hb, hm, hs, ho⟩
  rw [h2] at hc'
  have h := hw.crv c hc'
  rw [hc (14 + 9 * c) (by omega) (by omega), hc (14 + 9 * c + 1) (by omega) (by omega)]
  refine ⟨h.1, h.2.1, fun k hk => ?_⟩
  rw [hc (14 + 9 * c + 1 + 2 * k) (by omega) (by omega), hc (14 + 9 * c + 2 + 2 * k) (by omega) (by omega)]
  exact h.2.2 k hk
/-- the plan alone changed -/
theorem sWF_plan {S S' : sS} (hw : sWF S) (h : ∀ j, j < 74 → S' j = S j) (hs : ∀ s, s < 8 → S' (74 + s) < 2 ^ S 1) (ho : ∀ s, S 0 ≤ s → s < 8 → S' (74 + s) = 0) : sWF S' := by
  have hB := hw.B
  refine sWF_mk hw (h 0 (by omega)) (h 2 (by omega)) (fun j _ h2 => h j (by omega)) (by rw [h 1 (by omega)]; exact hB) (by rw [h 3 (by omega)]; exact hw.plug) (by rw [h 4 (by omega)]; exact hw.pow) (by rw [h 5 (by omega)]; exact hw.lim) (fun s hs => by rw [h _ (by omega)]; exact hw.price s hs) (fun b hb => ?_) (fun b hb => by rw [h _ (by omega)]; exact hw.com b hb) (fun s hs' => by rw [h 1 (by omega)]; exact hs s hs') (fun s h1 h2 => by rw [h 0 (by omega)] at h1; exact ho s h1 h2)
  rw [h 1 (by omega)] at hb
  rw [h (50 + 6 * b) (by omega), h (50 + 6 * b + 1) (by omega), h (50 + 6 * b + 2) (by omega), h (50 + 6 * b + 3) (by omega), h (50 + 6 * b + 4) (by omega), h (50 + 6 * b + 5) (by omega), h 2 (by omega), h 0 (by omega)]
  exact hw.bus b hb
