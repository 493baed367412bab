/-! THE SMALL MACHINE: a memory of fixed cells (ids 1 to 62, what the constructors make), and 'Snd': what a run of the bytecode from a place on comes to, as an Option of (answer, memory); rules, an instruction each. -/
def mm_tbl : List Cond := lw_tbl.filter goodWord
theorem mm_in0 {w : Cond} (i : Nat) (h : (k2_sels lw_privs)[i]? = some w) (g : goodWord w = true) : w ∈ mm_tbl := List.mem_filter.mpr ⟨List.mem_append_left _ (List.mem_of_getElem? h), g⟩
theorem mm_inT {w : Cond} (h : w ∈ tables_1) (g : goodWord w = true) : w ∈ mm_tbl := List.mem_filter.mpr ⟨List.mem_append_right _ h, g⟩
theorem mm_in1 {w : Cond} (i : Nat) (h : tables_1_1[i]? = some w) (g : goodWord w = true) : w ∈ mm_tbl := mm_inT (List.mem_append_left _ (List.mem_of_getElem? h)) g
theorem mm_in2 {w : Cond} (i : Nat) (h : tables_1_2[i]? = some w) (g : goodWord w = true) : w ∈ mm_tbl := mm_inT (List.mem_append_right _ (List.mem_append_left _ (List.mem_of_getElem? h))) g
theorem mm_in3 {w : Cond} (i : Nat) (h : tables_1_3[i]? = some w) (g : goodWord w = true) : w ∈ mm_tbl := mm_inT (List.mem_append_right _ (List.mem_append_right _ (List.mem_append_left _ (List.mem_of_getElem? h)))) g
theorem mm_in4 {w : Cond} (i : Nat) (h : tables_1_4[i]? = some w) (g : goodWord w = true) : w ∈ mm_tbl := mm_inT (List.mem_append_right _ (List.mem_append_right _ (List.mem_append_right _ (List.mem_append_left _ (List.mem_of_getElem? h))))) g
theorem mm_in5 {w : Cond} (i : Nat) (h : tables_1_5[i]? = some w) (g : goodWord w = true) : w ∈ mm_tbl := mm_inT (List.mem_append_right _ (List.mem_append_right _ (List.mem_append_right _ (List.mem_append_right _ (List.mem_append_left _ (List.mem_of_getElem? h)))))) g
theorem mm_in6 {w : Cond} (i : Nat) (h : tables_1_6[i]? = some w) (g : goodWord w = true) : w ∈ mm_tbl := mm_inT (List.mem_append_right _ (List.mem_append_right _ (List.mem_append_right _ (List.mem_append_right _ (List.mem_append_right _ (List.mem_of_getElem? h)))))) g
theorem mm_good : GoodIn mm_tbl mm_tbl := fun w h => ⟨h, good_of_word (List.mem_filter.mp h).2⟩
theorem mm_goodC {w : Cond} (h : w ∈ mm_tbl) : GoodIn mm_tbl (w :: mm_tbl) := fun v hv => by
  rcases List.mem_cons.mp hv with e | e
  · rw [e]; exact mm_good w h
  · exact mm_good v e
-- the memory: ints by cell and place, longs likewise, the three references that move (now, draft, the planner's depot), how many exceptions were made
abbrev mm_M : Type := (Nat → Nat → Int32) × (Nat → Nat → Int64) × (Nat × Nat × Nat) × Nat
def mI (M : mm_M) (c k : Nat) : Int32 := M.1 c k
def mL (M : mm_M) (c k : Nat) : Int64 := M.2.1 c k
def mNow (M : mm_M) : Nat := M.2.2.1.1
def mDra (M : mm_M) : Nat := M.2.2.1.2.1
def mDep (M : mm_M) : Nat := M.2.2.1.2.2
def mG (M : mm_M) : Nat := M.2.2.2
def uR {α : Type} (f : Nat → α) (c : Nat) (g : α) : Nat → α := fun a => if a = c then g else f a
def sR (M : mm_M) (c : Nat) (r : Nat → Int32) : mm_M := (uR M.1 c r, M.2)
def sI (M : mm_M) (c k : Nat) (v : Int32) : mm_M := sR M c (upd (M.1 c) k v)
def sL (M : mm_M) (c k : Nat) (v : Int64) : mm_M := (M.1, uR M.2.1 c (vp_updL (M.2.1 c) k v), M.2.2)
def sNow (M : mm_M) (d : Nat) : mm_M := (M.1, M.2.1, (d, M.2.2.1.2), M.2.2.2)
def sDra (M : mm_M) (d : Nat) : mm_M := (M.1, M.2.1, (M.2.2.1.1, d, M.2.2.1.2.2), M.2.2.2)
def sDep (M : mm_M) (d : Nat) : mm_M := (M.1, M.2.1, (M.2.2.1.1, M.2.2.1.2.1, d), M.2.2.2)
def sG (M : mm_M) (g : Nat) : mm_M := (M.1, M.2.1, M.2.2.1, g)
-- shapes: (0, class, fields) an object; (1, n, 0) ints; (2, n, 0) bytes; (3, n, 0) longs
def mm_shT : List (Nat × Nat × Nat) := [(9, 0, 0), (0, 6, 9),
  (0, 0, 11), (1, 3, 0), (1, 8, 0), (1, 8, 0), (1, 4, 0), (1, 16, 0), (1, 16, 0), (1, 24, 0), (1, 6, 0),
  (0, 0, 11), (1, 3, 0), (1, 8, 0), (1, 8, 0), (1, 4, 0), (1, 16, 0), (1, 16, 0), (1, 24, 0), (1, 6, 0),
  (0, 5, 6), (2, 400, 0), (0, 3, 2), (0, 1, 6), (1, 36, 0), (1, 8, 0),
  (0, 2, 19), (1, 3, 0), (1, 4, 0), (1, 4, 0), (1, 4, 0), (1, 36, 0), (1, 36, 0), (1, 16, 0), (3, 6561, 0), (1, 6561, 0), (1, 4, 0), (1, 4, 0), (1, 4, 0), (1, 4, 0), (1, 16, 0),
  (0, 4, 3), (1, 8, 0), (1, 4, 0), (1, 4, 0), (1, 8, 0),
  (0, 7, 27), (1, 82, 0), (1, 82, 0), (1, 400, 0), (1, 4, 0), (1, 8, 0), (1, 36, 0), (1, 8, 0), (1, 59049, 0), (1, 59049, 0), (1, 59049, 0), (1, 59049, 0), (1, 36, 0), (1, 4, 0), (1, 4, 0), (1, 4, 0),
  (3, 1, 0)]
def mm_sh (c : Nat) : Nat × Nat × Nat := mm_shT.getD c (9, 0, 0)
-- what a field of an object is: 0 an int; 1 now; 2 draft; 3 the planner's depot; 10 + c the cell c
def mm_fkT : List (List Nat) := [[], [1, 2, 30, 32, 33, 36, 51, 55, 0],
  [0, 0, 0, 13, 14, 15, 16, 17, 18, 19, 20], [], [], [], [], [], [], [], [],
  [0, 0, 0, 22, 23, 24, 25, 26, 27, 28, 29], [], [], [], [], [], [], [], [],
  [31, 0, 0, 0, 0, 0], [], [30, 0], [34, 35, 0, 0, 0, 0], [], [],
  [37, 38, 0, 3, 39, 40, 41, 42, 43, 44, 45, 46, 47, 48, 49, 0, 0, 0, 50], [], [], [], [], [], [], [], [], [], [], [], [], [], [],
  [52, 53, 54], [], [], [], [],
  [0, 57, 58, 59, 0, 0, 0, 0, 0, 0, 0, 0, 0, 0, 60, 0, 61, 62, 63, 64, 65, 66, 67, 68, 69, 70, 71]]
def mm_fk (c k : Nat) : Nat := (mm_fkT.getD c []).getD k 0
def mm_fv (ad : Nat → Nat) (M : mm_M) (c k : Nat) : Value :=
  if mm_fk c k = 0 then .int (M.1 c k) else if mm_fk c k = 1 then .ref (ad M.2.2.1.1) else if mm_fk c k = 2 then .ref (ad M.2.2.1.2.1) else if mm_fk c k = 3 then .ref (ad M.2.2.1.2.2) else .ref (ad (mm_fk c k - 10))
abbrev mm_K : Type := ClassId × ClassId × ClassId
abbrev mm_ty (cs : mm_K) : List (ClassId × FieldType) := [(cs.1, .int), (cs.2.1, .byte), (cs.2.2, .long)]
def mm_e (ad : Nat → Nat) (cs : mm_K) (M : mm_M) (c : Nat) : va_E :=
  if (mm_sh c).1 = 0 then .inr ((mm_sh c).2.1, (List.range (mm_sh c).2.2).map (mm_fv ad M c))
  else if (mm_sh c).1 = 1 then .inl (cs.1, (mm_sh c).2.1, .inl (M.1 c))
  else if (mm_sh c).1 = 2 then .inl (cs.2.1, (mm_sh c).2.1, .inl (M.1 c))
  else .inl (cs.2.2, (mm_sh c).2.1, .inr (.inl (M.2.1 c)))
def mm_ws (ad : Nat → Nat) (cs : mm_K) (M : mm_M) : va_W := (List.range 62).map (fun j => (ad (j + 1), mm_e ad cs M (j + 1)))
theorem mm_get (ad : Nat → Nat) (cs : mm_K) (M : mm_M) {c : Nat} (h : 0 < c ∧ c ≤ 62) : (mm_ws ad cs M)[c - 1]? = some (ad c, mm_e ad cs M c) := by
  unfold mm_ws
  rw [List.getElem?_map, List.getElem?_range (by omega)]
  simp only [Option.map_some]
  rw [show c - 1 + 1 = c by omega]
theorem mm_set (ad : Nat → Nat) (cs : mm_K) (M M' : mm_M) {c : Nat} (h : 0 < c ∧ c ≤ 62) {E : va_E} (ho : ∀ a, a ≠ c → mm_e ad cs M a = mm_e ad cs M' a) (he : mm_e ad cs M' c = E) :
    (mm_ws ad cs M).set (c - 1) (ad c, E) = mm_ws ad cs M' := by
  unfold mm_ws
  apply List.ext_getElem?
  intro i
  rw [List.getElem?_set]
  by_cases hi : c - 1 = i
  · subst hi
    rw [if_pos rfl, if_pos (by simp; omega), List.getElem?_map, List.getElem?_range (by omega)]
    simp only [Option.map_some]
    rw [show c - 1 + 1 = c by omega, he]
  · rw [if_neg hi, List.getElem?_map, List.getElem?_map]
    by_cases hl : i < 62
    · rw [List.getElem?_range hl]
      simp only [Option.map_some]
      rw [ho (i + 1) (by omega)]
    · rw [List.getElem?_eq_none (by simp; omega)]
      rfl
theorem mm_len (ad : Nat → Nat) (cs : mm_K) (M : mm_M) : (mm_ws ad cs M).length = 62 := by simp [mm_ws]
theorem uR_ne {α : Type} {f : Nat → α} {c a : Nat} {g : α} (h : a ≠ c) : uR f c g a = f a := if_neg h
theorem uR_eq {α : Type} {f : Nat → α} {c : Nat} {g : α} : uR f c g c = g := if_pos rfl
theorem mm_fv_ne (ad : Nat → Nat) (M : mm_M) {c a : Nat} (r : Nat → Int32) (h : a ≠ c) : mm_fv ad (sR M c r) a = mm_fv ad M a := by
  funext k
  simp only [mm_fv, sR, uR_ne h]
theorem mm_e_ne (ad : Nat → Nat) (cs : mm_K) (M : mm_M) {c : Nat} (r : Nat → Int32) : ∀ a, a ≠ c → mm_e ad cs M a = mm_e ad cs (sR M c r) a := by
  intro a h
  simp only [mm_e, mm_fv_ne ad M r h]
  simp only [sR, uR_ne h]
theorem mm_eL_ne (ad : Nat → Nat) (cs : mm_K) (M : mm_M) {c k : Nat} {v : Int64} : ∀ a, a ≠ c → mm_e ad cs M a = mm_e ad cs (sL M c k v) a := by
  intro a h
  simp only [mm_e, sL, uR_ne h]
  rfl
theorem mm_fields (ad : Nat → Nat) (M : mm_M) (c n : Nat) {k : Nat} (h : k < n) : ((List.range n).map (mm_fv ad M c))[k]? = some (mm_fv ad M c k) := by
  rw [List.getElem?_map, List.getElem?_range h]; rfl
theorem mm_fset (ad : Nat → Nat) (M M' : mm_M) (c n : Nat) {k : Nat} {v : Value} (h : k < n) (hv : mm_fv ad M' c k = v) (ho : ∀ b, b ≠ k → mm_fv ad M c b = mm_fv ad M' c b) : ((List.range n).map (mm_fv ad M c)).set k v = (List.range n).map (mm_fv ad M' c) := by
  apply List.ext_getElem?
  intro i
  rw [List.getElem?_set]
  by_cases hi : k = i
  · subst hi
    rw [if_pos rfl, if_pos (by simp; omega), List.getElem?_map, List.getElem?_range h]
    simp [hv]
  · rw [if_neg hi, List.getElem?_map, List.getElem?_map]
    by_cases hl : i < n
    · rw [List.getElem?_range hl]
      simp [ho i (fun e => hi e.symm)]
    · rw [List.getElem?_eq_none (by simp; omega)]
      rfl
