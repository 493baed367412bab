section HEAPRULES
variable {α : Type} {inj : α → Option Value × mm_M} {j : mm_J} {X : mm_X} {pc : Nat} {lo lo' : List (Option Value)} {st : List Value} {M : mm_M} {ee ef : Option α}
-- objects
theorem mm_e_obj (ad : Nat → Nat) (cs : mm_K) (M : mm_M) {c ci N : Nat} (hs : mm_sh c = (0, ci, N)) : mm_e ad cs M c = .inr (ci, (List.range N).map (mm_fv ad M c)) := by simp [mm_e, hs]
theorem mm_e_int (ad : Nat → Nat) (cs : mm_K) (M : mm_M) {c n : Nat} (hs : mm_sh c = (1, n, 0)) : mm_e ad cs M c = .inl (cs.1, n, .inl (M.1 c)) := by simp [mm_e, hs]
theorem mm_e_byte (ad : Nat → Nat) (cs : mm_K) (M : mm_M) {c n : Nat} (hs : mm_sh c = (2, n, 0)) : mm_e ad cs M c = .inl (cs.2.1, n, .inl (M.1 c)) := by simp [mm_e, hs]
theorem mm_e_long (ad : Nat → Nat) (cs : mm_K) (M : mm_M) {c n : Nat} (hs : mm_sh c = (3, n, 0)) : mm_e ad cs M c = .inl (cs.2.2, n, .inr (.inl (M.2.1 c))) := by simp [mm_e, hs]
theorem mm_getv {c k ci N idx : Nat} {C : String} {T : u_T} {v : Value} (hcl : vwCl[ci]? = some (C, T, N)) (hin : ∀ w ∈ u_ws C T N, w ∈ mm_tbl) (hs : mm_sh c = (0, ci, N)) (hc : 0 < c ∧ c ≤ 62) (hk : k < N) (hf : ∀ ad, mm_fv ad M c k = mm_v ad v) (hw : Cond.fieldLink j.1.cls idx (T k).1 (T k).2.1 (T k).2.2.1 ∈ mm_tbl) (hd : decode j.2.1 pc = .ok (.getfield idx, 3)) (k1 : Snd inj j X (pc + 3) lo (v :: st) M ee) : Snd inj j X pc lo (.ref c :: st) M ee :=
  mStp.go ⟨rfl, fun p l e R s m args below meth c0 D A cs ad Q C1 H locs cells slots ls h1 h2 hW hL kk => by
    refine va_get (D := D) (ci := ci) (C := C) (T := T) (N := N) (fs := (List.range N).map (mm_fv ad M c)) (v := mm_v ad v) C1.1 C1.2.1 C1.2.2.2.2.1 hin C1.2.2.2.2.2.1 C1.2.2.2.2.2.2.2.1 hW.1 (c - 1) ?_ hcl k hk (C1.2.2.2.2.1 _ hw) (fun _ h => h) ?_ hd (kk H locs ls hW hL)
    · rw [mm_get ad cs M hc, mm_e_obj ad cs M hs]
    · rw [mm_fields ad M c N hk, hf]⟩ k1
theorem sn_gI {c k ci N idx : Nat} {C : String} {T : u_T} (hcl : vwCl[ci]? = some (C, T, N)) (hin : ∀ w ∈ u_ws C T N, w ∈ mm_tbl) (hs : mm_sh c = (0, ci, N)) (hc : 0 < c ∧ c ≤ 62) (hk : k < N) (hf : mm_fk c k = 0) (hw : Cond.fieldLink j.1.cls idx (T k).1 (T k).2.1 (T k).2.2.1 ∈ mm_tbl) (hd : decode j.2.1 pc = .ok (.getfield idx, 3)) (k1 : Snd inj j X (pc + 3) lo (.int (mI M c k) :: st) M ee) : Snd inj j X pc lo (.ref c :: st) M ee :=
  mm_getv hcl hin hs hc hk (fun ad => by simp [mm_fv, hf, mm_v, mI]) hw hd k1
theorem sn_gR {c k ci N idx : Nat} (r : Nat) {C : String} {T : u_T} (hcl : vwCl[ci]? = some (C, T, N)) (hin : ∀ w ∈ u_ws C T N, w ∈ mm_tbl) (hs : mm_sh c = (0, ci, N)) (hc : 0 < c ∧ c ≤ 62) (hk : k < N) (hf : mm_fk c k = 10 + r) (hw : Cond.fieldLink j.1.cls idx (T k).1 (T k).2.1 (T k).2.2.1 ∈ mm_tbl) (hd : decode j.2.1 pc = .ok (.getfield idx, 3)) (k1 : Snd inj j X (pc + 3) lo (.ref r :: st) M ee) : Snd inj j X pc lo (.ref c :: st) M ee :=
  mm_getv hcl hin hs hc hk (fun ad => by
    have e : 10 + r - 10 = r := by omega
    simp only [mm_fv, hf, mm_v, e]
    rw [if_neg (by omega), if_neg (by omega), if_neg (by omega), if_neg (by omega)]) hw hd k1
theorem sn_gNow {idx : Nat} (hin : ∀ w ∈ u_ws RX6 TX6 9, w ∈ mm_tbl) (hw : Cond.fieldLink j.1.cls idx (TX6 0).1 (TX6 0).2.1 (TX6 0).2.2.1 ∈ mm_tbl) (hd : decode j.2.1 pc = .ok (.getfield idx, 3)) {ex : Nat → Option α} (k1 : ∀ d, Snd inj j X (pc + 3) lo (.ref d :: st) M (ex d)) : Snd inj j X pc lo (.ref 1 :: st) M (bN (mNow M) ex) :=
  mm_getv (ci := 6) (k := 0) (T := TX6) rfl hin rfl ⟨by decide, by decide⟩ (by decide) (fun ad => rfl) hw hd (k1 (mNow M))
theorem sn_gDra {idx : Nat} (hin : ∀ w ∈ u_ws RX6 TX6 9, w ∈ mm_tbl) (hw : Cond.fieldLink j.1.cls idx (TX6 1).1 (TX6 1).2.1 (TX6 1).2.2.1 ∈ mm_tbl) (hd : decode j.2.1 pc = .ok (.getfield idx, 3)) {ex : Nat → Option α} (k1 : ∀ d, Snd inj j X (pc + 3) lo (.ref d :: st) M (ex d)) : Snd inj j X pc lo (.ref 1 :: st) M (bN (mDra M) ex) :=
  mm_getv (ci := 6) (k := 1) (T := TX6) rfl hin rfl ⟨by decide, by decide⟩ (by decide) (fun ad => rfl) hw hd (k1 (mDra M))
theorem sn_gDep {idx : Nat} (hin : ∀ w ∈ u_ws RX2 TX2 19, w ∈ mm_tbl) (hw : Cond.fieldLink j.1.cls idx (TX2 3).1 (TX2 3).2.1 (TX2 3).2.2.1 ∈ mm_tbl) (hd : decode j.2.1 pc = .ok (.getfield idx, 3)) {ex : Nat → Option α} (k1 : ∀ d, Snd inj j X (pc + 3) lo (.ref d :: st) M (ex d)) : Snd inj j X pc lo (.ref 26 :: st) M (bN (mDep M) ex) :=
  mm_getv (ci := 2) (k := 3) (T := TX2) rfl hin rfl ⟨by decide, by decide⟩ (by decide) (fun ad => rfl) hw hd (k1 (mDep M))
theorem mm_putv {M' : mm_M} {c k ci N idx : Nat} {C : String} {T : u_T} {ty : FieldType} {v : Value} (ty0 : Nat → FieldType) (hty : ∀ k, k < N → parseFieldDescriptor (T k).2.2.1 = some (ty0 k)) (hnm : ∀ a, a < N → ∀ b, b < N → a ≠ b → (T a).2.1 ≠ (T b).2.1) (hcl : vwCl[ci]? = some (C, T, N)) (hin : ∀ w ∈ u_ws C T N, w ∈ mm_tbl) (hs : mm_sh c = (0, ci, N)) (hc : 0 < c ∧ c ≤ 62) (hk : k < N) (hfin : (T k).2.2.2 = false)
    (hG : mG M' = mG M) (hf : ∀ ad, mm_fv ad M' c k = mm_v ad v) (ho : ∀ ad b, b ≠ k → mm_fv ad M c b = mm_fv ad M' c b) (hne : ∀ ad cs a, a ≠ c → mm_e ad cs M a = mm_e ad cs M' a) (hd0 : parseFieldDescriptor (T k).2.2.1 = some ty) (hn : ∀ ad, narrow ty (mm_v ad v) = mm_v ad v) (hfit : ∀ ad, fits ty (mm_v ad v) = true)
    (hw : Cond.fieldLink j.1.cls idx (T k).1 (T k).2.1 (T k).2.2.1 ∈ mm_tbl) (hd : decode j.2.1 pc = .ok (.putfield idx, 3)) (k1 : Snd inj j X (pc + 3) lo st M' ee) : Snd inj j X pc lo (v :: .ref c :: st) M ee :=
  mStp.go ⟨hG, fun p l e R s m args below meth c0 D A cs ad Q C1 H locs cells slots ls h1 h2 hW hL kk => by
    refine va_put (D := D) (ci := ci) (C := C) (T := T) (N := N) (fs := (List.range N).map (mm_fv ad M c)) (v := mm_v ad v) (ty := ty) C1.1 C1.2.1 C1.2.2.2.2.1 hin ty0 hty hnm C1.2.2.2.2.2.1 C1.2.2.2.2.2.2.2.1 hW.1 hW.2.1 hW.2.2 (c - 1) ?_ hcl k hk (C1.2.2.2.2.1 _ hw) (fun _ h => h) hfin hd0 (hn ad) (hfit ad) (by simp; exact hk) hd (fun H1 locs1 hP hD hS => ?_)
    · rw [mm_get ad cs M hc, mm_e_obj ad cs M hs]
    · rw [mm_fset ad M M' c N hk (hf ad) (ho ad), mm_set ad cs M M' hc (hne ad cs) (mm_e_obj ad cs M' hs)] at hP hD
      exact kk H1 locs1 ls ⟨hP, hD, hS⟩ hL⟩ k1
theorem mm_fv_sI (ad : Nat → Nat) {c k : Nat} {v : Int32} (hf : mm_fk c k = 0) : mm_fv ad (sI M c k v) c k = .int v := by
  simp [mm_fv, hf, sI, sR, uR, upd]
theorem mm_fv_sI_ne (ad : Nat → Nat) {c k : Nat} {v : Int32} : ∀ b, b ≠ k → mm_fv ad M c b = mm_fv ad (sI M c k v) c b := by
  intro b hb
  simp [mm_fv, sI, sR, uR, upd, hb]
theorem sn_pI {c k ci N idx : Nat} {v : Int32} {C : String} {T : u_T} (ty0 : Nat → FieldType) (hty : ∀ k, k < N → parseFieldDescriptor (T k).2.2.1 = some (ty0 k)) (hnm : ∀ a, a < N → ∀ b, b < N → a ≠ b → (T a).2.1 ≠ (T b).2.1) (hcl : vwCl[ci]? = some (C, T, N)) (hin : ∀ w ∈ u_ws C T N, w ∈ mm_tbl) (hs : mm_sh c = (0, ci, N)) (hc : 0 < c ∧ c ≤ 62) (hk : k < N) (hfin : (T k).2.2.2 = false) (hf : mm_fk c k = 0) (hd0 : parseFieldDescriptor (T k).2.2.1 = some .int)
    (hw : Cond.fieldLink j.1.cls idx (T k).1 (T k).2.1 (T k).2.2.1 ∈ mm_tbl) (hd : decode j.2.1 pc = .ok (.putfield idx, 3)) {ex : mm_M → Option α} (k1 : ∀ M, Snd inj j X (pc + 3) lo st M (ex M)) : Snd inj j X pc lo (.int v :: .ref c :: st) M (bM (sI M c k v) ex) :=
  mm_putv (M' := sI M c k v) ty0 hty hnm hcl hin hs hc hk hfin rfl (fun ad => mm_fv_sI ad hf) (fun ad => mm_fv_sI_ne ad) (fun ad cs => mm_e_ne ad cs M _) hd0 (fun _ => rfl) (fun _ => rfl) hw hd (k1 _)
theorem sn_pZ {c k ci N idx : Nat} {v : Int32} {C : String} {T : u_T} (hz : v = 0 ∨ v = 1) (ty0 : Nat → FieldType) (hty : ∀ k, k < N → parseFieldDescriptor (T k).2.2.1 = some (ty0 k)) (hnm : ∀ a, a < N → ∀ b, b < N → a ≠ b → (T a).2.1 ≠ (T b).2.1) (hcl : vwCl[ci]? = some (C, T, N)) (hin : ∀ w ∈ u_ws C T N, w ∈ mm_tbl) (hs : mm_sh c = (0, ci, N)) (hc : 0 < c ∧ c ≤ 62) (hk : k < N) (hfin : (T k).2.2.2 = false) (hf : mm_fk c k = 0) (hd0 : parseFieldDescriptor (T k).2.2.1 = some .boolean)
    (hw : Cond.fieldLink j.1.cls idx (T k).1 (T k).2.1 (T k).2.2.1 ∈ mm_tbl) (hd : decode j.2.1 pc = .ok (.putfield idx, 3)) {ex : mm_M → Option α} (k1 : ∀ M, Snd inj j X (pc + 3) lo st M (ex M)) : Snd inj j X pc lo (.int v :: .ref c :: st) M (bM (sI M c k v) ex) :=
  mm_putv (M' := sI M c k v) ty0 hty hnm hcl hin hs hc hk hfin rfl (fun ad => mm_fv_sI ad hf) (fun ad => mm_fv_sI_ne ad) (fun ad cs => mm_e_ne ad cs M _) hd0 (fun _ => by rcases hz with rfl | rfl <;> rfl) (fun _ => by rcases hz with rfl | rfl <;> rfl) hw hd (k1 _)
theorem mm_eN_ne {M' : mm_M} {c0 : Nat} (hI : M'.1 = M.1) (hLg : M'.2.1 = M.2.1) (h : ∀ ad a, a ≠ c0 → mm_fv ad M a = mm_fv ad M' a) : ∀ (ad : Nat → Nat) (cs : mm_K) (a : Nat), a ≠ c0 → mm_e ad cs M a = mm_e ad cs M' a := by
  intro ad cs a ha
  simp only [mm_e, h ad a ha, hI, hLg]
theorem mm_fk_out {c : Nat} (h : 62 < c) : ∀ k, mm_fk c k = 0 := by
  intro k
  have : mm_fkT.getD c [] = [] := by
    rw [List.getD_eq_getElem?_getD, List.getElem?_eq_none (by show 47 ≤ c; omega)]; rfl
  unfold mm_fk
  rw [this]; rfl
theorem mm_kindA : ∀ a, a ≤ 62 → a ≠ 1 → ∀ k, mm_fk a k ≠ 1 ∧ mm_fk a k ≠ 2 := by
  intro a ha h1 k
  by_cases hk : k < 27
  · revert a k
    have : ∀ a : Fin 63, a.1 ≠ 1 → ∀ k : Fin 27, mm_fk a.1 k.1 ≠ 1 ∧ mm_fk a.1 k.1 ≠ 2 := by decide +kernel
    intro a ha h1 k hk
    exact this ⟨a, by omega⟩ h1 ⟨k, hk⟩
  · have : ∀ a : Fin 63, (mm_fkT.getD a.1 []).length ≤ 27 := by decide +kernel
    have hl := this ⟨a, by omega⟩
    have e : mm_fk a k = 0 := by
      unfold mm_fk
      rw [List.getD_eq_getElem?_getD, List.getElem?_eq_none (by simp at hl ⊢; omega)]; rfl
    rw [e]; exact ⟨by decide, by decide⟩
theorem mm_kindB : ∀ a, a ≤ 62 → a ≠ 26 → ∀ k, mm_fk a k ≠ 3 := by
  intro a ha h1 k
  by_cases hk : k < 27
  · revert a k
    have : ∀ a : Fin 63, a.1 ≠ 26 → ∀ k : Fin 27, mm_fk a.1 k.1 ≠ 3 := by decide +kernel
    intro a ha h1 k hk
    exact this ⟨a, by omega⟩ h1 ⟨k, hk⟩
  · have : ∀ a : Fin 63, (mm_fkT.getD a.1 []).length ≤ 27 := by decide +kernel
    have hl := this ⟨a, by omega⟩
    have e : mm_fk a k = 0 := by
      unfold mm_fk
      rw [List.getD_eq_getElem?_getD, List.getElem?_eq_none (by simp at hl ⊢; omega)]; rfl
    rw [e]; decide
theorem mm_fvA {M' : mm_M} (hI : M'.1 = M.1) (hp : M'.2.2.1.2.2 = M.2.2.1.2.2) : ∀ (ad : Nat → Nat) (a : Nat), a ≠ 1 → mm_fv ad M a = mm_fv ad M' a := by
  intro ad a ha
  funext k
  by_cases h : a ≤ 62
  · obtain ⟨q1, q2⟩ := mm_kindA a h ha k
    simp only [mm_fv, hI, hp, if_neg q1, if_neg q2]
  · simp only [mm_fv, mm_fk_out (show 62 < a by omega) k, if_true, hI]
theorem mm_fvB {M' : mm_M} (hI : M'.1 = M.1) (h1 : M'.2.2.1.1 = M.2.2.1.1) (h2 : M'.2.2.1.2.1 = M.2.2.1.2.1) : ∀ (ad : Nat → Nat) (a : Nat), a ≠ 26 → mm_fv ad M a = mm_fv ad M' a := by
  intro ad a ha
  funext k
  by_cases h : a ≤ 62
  · have q1 := mm_kindB a h ha k
    simp only [mm_fv, hI, h1, h2, if_neg q1]
  · simp only [mm_fv, mm_fk_out (show 62 < a by omega) k, if_true, hI]
theorem sn_pNow {idx d : Nat} (hin : ∀ w ∈ u_ws RX6 TX6 9, w ∈ mm_tbl) (hw : Cond.fieldLink j.1.cls idx (TX6 0).1 (TX6 0).2.1 (TX6 0).2.2.1 ∈ mm_tbl) (hd : decode j.2.1 pc = .ok (.putfield idx, 3)) {ex : mm_M → Option α} (k1 : ∀ M, Snd inj j X (pc + 3) lo st M (ex M)) : Snd inj j X pc lo (.ref d :: .ref 1 :: st) M (bM (sNow M d) ex) :=
  mm_putv (M' := sNow M d) (c := 1) (k := 0) (ci := 6) (N := 9) (ty := .object "DepotCharge$Depot") tyX6 tyX6_ok nmX6 rfl hin rfl ⟨by decide, by decide⟩ (by decide) rfl rfl (fun ad => rfl) (fun ad b hb => by
    by_cases h9 : b < 9
    · have : b = 1 ∨ b = 2 ∨ b = 3 ∨ b = 4 ∨ b = 5 ∨ b = 6 ∨ b = 7 ∨ b = 8 := by omega
      rcases this with rfl | rfl | rfl | rfl | rfl | rfl | rfl | rfl <;> rfl
    · have e : mm_fk 1 b = 0 := by
        unfold mm_fk
        rw [List.getD_eq_getElem?_getD, List.getElem?_eq_none (by show 9 ≤ b; omega)]; rfl
      simp [mm_fv, e, sNow]) (mm_eN_ne rfl rfl (mm_fvA rfl rfl)) (tyX6_ok 0 (by decide)) (fun _ => rfl) (fun _ => rfl) hw hd (k1 _)
theorem sn_pDra {idx d : Nat} (hin : ∀ w ∈ u_ws RX6 TX6 9, w ∈ mm_tbl) (hw : Cond.fieldLink j.1.cls idx (TX6 1).1 (TX6 1).2.1 (TX6 1).2.2.1 ∈ mm_tbl) (hd : decode j.2.1 pc = .ok (.putfield idx, 3)) {ex : mm_M → Option α} (k1 : ∀ M, Snd inj j X (pc + 3) lo st M (ex M)) : Snd inj j X pc lo (.ref d :: .ref 1 :: st) M (bM (sDra M d) ex) :=
  mm_putv (M' := sDra M d) (c := 1) (k := 1) (ci := 6) (N := 9) (ty := .object "DepotCharge$Depot") tyX6 tyX6_ok nmX6 rfl hin rfl ⟨by decide, by decide⟩ (by decide) rfl rfl (fun ad => rfl) (fun ad b hb => by
    by_cases h9 : b < 9
    · have : b = 0 ∨ b = 2 ∨ b = 3 ∨ b = 4 ∨ b = 5 ∨ b = 6 ∨ b = 7 ∨ b = 8 := by omega
      rcases this with rfl | rfl | rfl | rfl | rfl | rfl | rfl | rfl <;> rfl
    · have e : mm_fk 1 b = 0 := by
        unfold mm_fk
        rw [List.getD_eq_getElem?_getD, List.getElem?_eq_none (by show 9 ≤ b; omega)]; rfl
      simp [mm_fv, e, sDra]) (mm_eN_ne rfl rfl (mm_fvA rfl rfl)) (tyX6_ok 1 (by decide)) (fun _ => rfl) (fun _ => rfl) hw hd (k1 _)
theorem sn_pDep {idx d : Nat} (hin : ∀ w ∈ u_ws RX2 TX2 19, w ∈ mm_tbl) (hw : Cond.fieldLink j.1.cls idx (TX2 3).1 (TX2 3).2.1 (TX2 3).2.2.1 ∈ mm_tbl) (hd : decode j.2.1 pc = .ok (.putfield idx, 3)) {ex : mm_M → Option α} (k1 : ∀ M, Snd inj j X (pc + 3) lo st M (ex M)) : Snd inj j X pc lo (.ref d :: .ref 26 :: st) M (bM (sDep M d) ex) :=
  mm_putv (M' := sDep M d) (c := 26) (k := 3) (ci := 2) (N := 19) (ty := .object "DepotCharge$Depot") tyX2 tyX2_ok nmX2 rfl hin rfl ⟨by decide, by decide⟩ (by decide) rfl rfl (fun ad => rfl) (fun ad b hb => by
    by_cases h9 : b < 19
    · have : b = 0 ∨ b = 1 ∨ b = 2 ∨ b = 4 ∨ b = 5 ∨ b = 6 ∨ b = 7 ∨ b = 8 ∨ b = 9 ∨ b = 10 ∨ b = 11 ∨ b = 12 ∨ b = 13 ∨ b = 14 ∨ b = 15 ∨ b = 16 ∨ b = 17 ∨ b = 18 := by omega
      rcases this with rfl | rfl | rfl | rfl | rfl | rfl | rfl | rfl | rfl | rfl | rfl | rfl | rfl | rfl | rfl | rfl | rfl | rfl <;> rfl
    · have e : mm_fk 26 b = 0 := by
        unfold mm_fk
        rw [List.getD_eq_getElem?_getD, List.getElem?_eq_none (by show 19 ≤ b; omega)]; rfl
      simp [mm_fv, e, sDep]) (mm_eN_ne rfl rfl (mm_fvB rfl rfl rfl)) (tyX2_ok 3 (by decide)) (fun _ => rfl) (fun _ => rfl) hw hd (k1 _)
-- arrays
def aI (c n : Nat) (i : Int32) (M : mm_M) (e : Int32 → Option α) : Option α := if inb i n = true then e (mI M c i.toNatClampNeg) else none
def aL (c n : Nat) (i : Int32) (M : mm_M) (e : Int64 → Option α) : Option α := if inb i n = true then e (mL M c i.toNatClampNeg) else none
def aT (t n : Nat) (i : Int32) (e : Int32 → Option α) : Option α := if inb i n = true then e (mm_ro t i.toNatClampNeg) else none
def aX (X : mm_X) (i : Int32) (e : Int32 → Option α) : Option α := if inb i X.1 = true then e (X.2 i.toNatClampNeg) else none
def uI (c n : Nat) (i v : Int32) (M : mm_M) (e : mm_M → Option α) : Option α := if inb i n = true then e (sI M c i.toNatClampNeg v) else none
def uB (c n : Nat) (i v : Int32) (M : mm_M) (e : mm_M → Option α) : Option α := if inb i n = true then e (sI M c i.toNatClampNeg v.toInt8.toInt32) else none
def uL (c n : Nat) (i : Int32) (v : Int64) (M : mm_M) (e : mm_M → Option α) : Option α := if inb i n = true then e (sL M c i.toNatClampNeg v) else none
theorem sn_iald {c n : Nat} {i : Int32} (hs : mm_sh c = (1, n, 0)) (hc : 0 < c ∧ c ≤ 62) (hd : decode j.2.1 pc = .ok (.iaload, 1)) {ex : Int32 → Option α} (k1 : ∀ x, Snd inj j X (pc + 1) lo (.int x :: st) M (ex x)) : Snd inj j X pc lo (.int i :: .ref c :: st) M (aI c n i M ex) :=
  Snd.ite fun hb => mStp.go ⟨rfl, fun p l e R s m args below meth c0 D A cs ad Q C1 H locs cells slots ls h1 h2 hW hL kk => by
    refine va_iald (D := D) (cA := cs.1) (n := n) (f := M.1 c) C1.1 C1.2.1 C1.2.2.2.2.2.2.2.1 hW.1 (c - 1) 0 ?_ rfl (inb_in hb) hd (kk H locs ls hW hL)
    rw [mm_get ad cs M hc, mm_e_int ad cs M hs]⟩ (k1 (mI M c i.toNatClampNeg))
theorem sn_bald {c n : Nat} {i : Int32} (hs : mm_sh c = (2, n, 0)) (hc : 0 < c ∧ c ≤ 62) (hd : decode j.2.1 pc = .ok (.baload, 1)) {ex : Int32 → Option α} (k1 : ∀ x, Snd inj j X (pc + 1) lo (.int x :: st) M (ex x)) : Snd inj j X pc lo (.int i :: .ref c :: st) M (aI c n i M ex) :=
  Snd.ite fun hb => mStp.go ⟨rfl, fun p l e R s m args below meth c0 D A cs ad Q C1 H locs cells slots ls h1 h2 hW hL kk => by
    refine va_bald (D := D) (cA := cs.2.1) (n := n) (f := M.1 c) C1.1 C1.2.1 C1.2.2.2.2.2.2.2.1 hW.1 (c - 1) 1 ?_ rfl (inb_in hb) hd (kk H locs ls hW hL)
    rw [mm_get ad cs M hc, mm_e_byte ad cs M hs]⟩ (k1 (mI M c i.toNatClampNeg))
theorem sn_lald {c n : Nat} {i : Int32} (hs : mm_sh c = (3, n, 0)) (hc : 0 < c ∧ c ≤ 62) (hd : decode j.2.1 pc = .ok (.laload, 1)) {ex : Int64 → Option α} (k1 : ∀ x, Snd inj j X (pc + 1) lo (.long x :: st) M (ex x)) : Snd inj j X pc lo (.int i :: .ref c :: st) M (aL c n i M ex) :=
  Snd.ite fun hb => mStp.go ⟨rfl, fun p l e R s m args below meth c0 D A cs ad Q C1 H locs cells slots ls h1 h2 hW hL kk => by
    refine va_lald (D := D) (cA := cs.2.2) (n := n) (f := M.2.1 c) C1.1 C1.2.1 C1.2.2.2.2.2.2.2.1 hW.1 (c - 1) 2 ?_ rfl (inb_in hb) hd (kk H locs ls hW hL)
    rw [mm_get ad cs M hc, mm_e_long ad cs M hs]⟩ (k1 (mL M c i.toNatClampNeg))
theorem sn_iast {c n : Nat} {i v : Int32} (hs : mm_sh c = (1, n, 0)) (hc : 0 < c ∧ c ≤ 62) (hd : decode j.2.1 pc = .ok (.iastore, 1)) {ex : mm_M → Option α} (k1 : ∀ M, Snd inj j X (pc + 1) lo st M (ex M)) : Snd inj j X pc lo (.int v :: .int i :: .ref c :: st) M (uI c n i v M ex) :=
  Snd.ite fun hb => mStp.go (M' := sI M c i.toNatClampNeg v) ⟨rfl, fun p l e R s m args below meth c0 D A cs ad Q C1 H locs cells slots ls h1 h2 hW hL kk => by
    refine va_iast (D := D) (cA := cs.1) (n := n) (f := M.1 c) C1.1 C1.2.1 C1.2.2.2.2.2.2.2.1 hW.1 hW.2.1 hW.2.2 (c - 1) 0 ?_ rfl (inb_in hb) hd (fun H1 locs1 hP hD hS => ?_)
    · rw [mm_get ad cs M hc, mm_e_int ad cs M hs]
    · rw [mm_set ad cs M (sI M c i.toNatClampNeg v) hc (mm_e_ne ad cs M _) (by rw [mm_e_int ad cs _ hs]; simp [sI, sR, uR])] at hP hD
      exact kk H1 locs1 ls ⟨hP, hD, hS⟩ hL⟩ (k1 (sI M c i.toNatClampNeg v))
theorem sn_bast {c n : Nat} {i v : Int32} (hs : mm_sh c = (2, n, 0)) (hc : 0 < c ∧ c ≤ 62) (hd : decode j.2.1 pc = .ok (.bastore, 1)) {ex : mm_M → Option α} (k1 : ∀ M, Snd inj j X (pc + 1) lo st M (ex M)) : Snd inj j X pc lo (.int v :: .int i :: .ref c :: st) M (uB c n i v M ex) :=
  Snd.ite fun hb => mStp.go (M' := sI M c i.toNatClampNeg v.toInt8.toInt32) ⟨rfl, fun p l e R s m args below meth c0 D A cs ad Q C1 H locs cells slots ls h1 h2 hW hL kk => by
    refine va_bast (D := D) (cA := cs.2.1) (n := n) (f := M.1 c) C1.1 C1.2.1 C1.2.2.2.2.2.2.2.1 hW.1 hW.2.1 hW.2.2 (c - 1) 1 ?_ rfl (inb_in hb) hd (fun H1 locs1 hP hD hS => ?_)
    · rw [mm_get ad cs M hc, mm_e_byte ad cs M hs]
    · rw [vp_nar_byte] at hP hD
      rw [mm_set ad cs M (sI M c i.toNatClampNeg v.toInt8.toInt32) hc (mm_e_ne ad cs M _) (by rw [mm_e_byte ad cs _ hs]; simp [sI, sR, uR])] at hP hD
      exact kk H1 locs1 ls ⟨hP, hD, hS⟩ hL⟩ (k1 (sI M c i.toNatClampNeg v.toInt8.toInt32))
theorem sn_last {c n : Nat} {i : Int32} {v : Int64} (hs : mm_sh c = (3, n, 0)) (hc : 0 < c ∧ c ≤ 62) (hd : decode j.2.1 pc = .ok (.lastore, 1)) {ex : mm_M → Option α} (k1 : ∀ M, Snd inj j X (pc + 1) lo st M (ex M)) : Snd inj j X pc lo (.long v :: .int i :: .ref c :: st) M (uL c n i v M ex) :=
  Snd.ite fun hb => mStp.go (M' := sL M c i.toNatClampNeg v) ⟨rfl, fun p l e R s m args below meth c0 D A cs ad Q C1 H locs cells slots ls h1 h2 hW hL kk => by
    refine va_last (D := D) (cA := cs.2.2) (n := n) (f := M.2.1 c) C1.1 C1.2.1 C1.2.2.2.2.2.2.2.1 hW.1 hW.2.1 hW.2.2 (c - 1) 2 ?_ rfl (inb_in hb) hd (fun H1 locs1 hP hD hS => ?_)
    · rw [mm_get ad cs M hc, mm_e_long ad cs M hs]
    · rw [mm_set ad cs M (sL M c i.toNatClampNeg v) hc (mm_eL_ne ad cs M) (by rw [mm_e_long ad cs _ hs]; simp [sL, uR])] at hP hD
      exact kk H1 locs1 ls ⟨hP, hD, hS⟩ hL⟩ (k1 (sL M c i.toNatClampNeg v))
theorem sn_alen {c n : Nat} (v : Int32) (hs : mm_sh c = (1, n, 0)) (hc : 0 < c ∧ c ≤ 62) (hv : Int32.ofNat n = v) (hd : decode j.2.1 pc = .ok (.arraylength, 1)) (k1 : Snd inj j X (pc + 1) lo (.int v :: st) M ee) : Snd inj j X pc lo (.ref c :: st) M ee :=
  mStp.go ⟨rfl, fun p l e R s m args below meth c0 D A cs ad Q C1 H locs cells slots ls h1 h2 hW hL kk => by
    refine va_alen (D := D) (cA := cs.1) (x := (n, .inl (M.1 c))) (ty := .int) C1.1 C1.2.1 C1.2.2.2.2.2.2.2.1 hW.1 (c - 1) 0 ?_ rfl hv hd (kk H locs ls hW hL)
    rw [mm_get ad cs M hc, mm_e_int ad cs M hs]⟩ k1
-- the static tables, the script
theorem sn_tald {t n : Nat} {i : Int32} (ht : ∀ ad A U H, mm_RO ad A U H → va_T .int (ad (100 + t)) n (fun j => .int (mm_ro t j)) A U H) (hd : decode j.2.1 pc = .ok (.iaload, 1)) {ex : Int32 → Option α} (k1 : ∀ x, Snd inj j X (pc + 1) lo (.int x :: st) M (ex x)) : Snd inj j X pc lo (.int i :: .ref (100 + t) :: st) M (aT t n i ex) :=
  Snd.ite fun hb => mStp.go ⟨rfl, fun p l e R s m args below meth c0 D A cs ad Q C1 H locs cells slots ls h1 h2 hW hL kk =>
    va_ti (v := .int (mm_ro t i.toNatClampNeg)) C1.1 C1.2.1 (ht ad A s s.heap C1.2.2.2.2.2.2.2.2.2.1) hW.2.2 (inb_in hb) rfl hd (kk H locs ls hW hL)⟩ (k1 (mm_ro t i.toNatClampNeg))
theorem mm_T0 : ∀ ad A U H, mm_RO ad A U H → va_T .int (ad (100 + 0)) 3 (fun j => .int (mm_ro 0 j)) A U H := fun _ _ _ _ h => h.2.1.1
theorem mm_T1 : ∀ ad A U H, mm_RO ad A U H → va_T .int (ad (100 + 1)) 16 (fun j => .int (mm_ro 1 j)) A U H := fun _ _ _ _ h => h.2.1.2.1
theorem mm_T2 : ∀ ad A U H, mm_RO ad A U H → va_T .int (ad (100 + 2)) 16 (fun j => .int (mm_ro 2 j)) A U H := fun _ _ _ _ h => h.2.1.2.2
theorem sn_xald {i : Int32} (hd : decode j.2.1 pc = .ok (.iaload, 1)) {ex : Int32 → Option α} (k1 : ∀ x, Snd inj j X (pc + 1) lo (.int x :: st) M (ex x)) : Snd inj j X pc lo (.int i :: .ref 103 :: st) M (aX X i ex) :=
  Snd.ite fun hb => mStp.go ⟨rfl, fun p l e R s m args below meth c0 D A cs ad Q C1 H locs cells slots ls h1 h2 hW hL kk => by
    rcases C1.2.2.2.2.2.2.2.2.2.2.1 with h0 | ⟨h0, -, -⟩
    · exfalso
      rw [h0] at hb
      simp [inb] at hb
    · exact va_ti (v := .int (X.2 i.toNatClampNeg)) C1.1 C1.2.1 h0 hW.2.2 (inb_in hb) rfl hd (kk H locs ls hW hL)⟩ (k1 (X.2 i.toNatClampNeg))
theorem sn_xlen (hX : X.1 ≠ 0) (hd : decode j.2.1 pc = .ok (.arraylength, 1)) (k1 : Snd inj j X (pc + 1) lo (.int (Int32.ofNat X.1) :: st) M ee) : Snd inj j X pc lo (.ref 103 :: st) M ee :=
  mStp.go ⟨rfl, fun p l e R s m args below meth c0 D A cs ad Q C1 H locs cells slots ls h1 h2 hW hL kk => by
    rcases C1.2.2.2.2.2.2.2.2.2.2.1 with h0 | ⟨h0, -, -⟩
    · exact absurd h0 hX
    · exact va_tlen C1.1 C1.2.1 h0 hW.2.2 rfl hd (kk H locs ls hW hL)⟩ k1
theorem sn_gst {idx t : Nat} {n : String} (ht : ∀ ad A U H, mm_RO ad A U H → va_Z "DepotCharge" n "[I" (.ref (ad (100 + t))) A U H) (hj : j.1.cls = "DepotCharge") (hw : Cond.fieldLink "DepotCharge" idx "DepotCharge" n "[I" ∈ mm_tbl) (hd : decode j.2.1 pc = .ok (.getstatic idx, 3)) (k1 : Snd inj j X (pc + 3) lo (.ref (100 + t) :: st) M ee) : Snd inj j X pc lo st M ee :=
  mStp.go ⟨rfl, fun p l e R s m args below meth c0 D A cs ad Q C1 H locs cells slots ls h1 h2 hW hL kk =>
    va_gets C1.1 C1.2.1 (ht ad A s s.heap C1.2.2.2.2.2.2.2.2.2.1) hW.2.2 (own := "DepotCharge") (by rw [← hj]; exact C1.2.2.2.2.2.1) (C1.2.2.2.2.1 _ hw) (fun _ h => h) hd (kk H locs ls hW hL)⟩ k1
theorem sn_gstN {idx t : Nat} {n : String} (ht : ∀ ad A U H, mm_RO ad A U H → va_Z "DepotCharge" n "[I" (.ref (ad (100 + t))) A U H) (hw : Cond.fieldLinkNest j.1.cls idx "DepotCharge" n "[I" "DepotCharge" ∈ mm_rw) (hd : decode j.2.1 pc = .ok (.getstatic idx, 3)) (k1 : Snd inj j X (pc + 3) lo (.ref (100 + t) :: st) M ee) : Snd inj j X pc lo st M ee :=
  mStp.go ⟨rfl, fun p l e R s m args below meth c0 D A cs ad Q C1 H locs cells slots ls h1 h2 hW hL kk =>
    va_getsN C1.1 C1.2.1 (ht ad A s s.heap C1.2.2.2.2.2.2.2.2.2.1) hW.2.2 C1.2.2.2.2.2.1 (va_Nw.use (mm_rw_tab _ hw) (C1.2.2.2.2.2.2.2.2.2.1.2.2.1 _ hw)) (fun _ h => h) hd (kk H locs ls hW hL)⟩ k1
theorem mm_Z0 : ∀ ad A U H, mm_RO ad A U H → va_Z "DepotCharge" "MOST_OF_SETTING" "[I" (.ref (ad (100 + 0))) A U H := fun _ _ _ _ h => h.1.1
theorem mm_Z1 : ∀ ad A U H, mm_RO ad A U H → va_Z "DepotCharge" "SIZE_OF_SET" "[I" (.ref (ad (100 + 1))) A U H := fun _ _ _ _ h => h.1.2.1
theorem mm_Z2 : ∀ ad A U H, mm_RO ad A U H → va_Z "DepotCharge" "FIRST_OF_SET" "[I" (.ref (ad (100 + 2))) A U H := fun _ _ _ _ h => h.1.2.2
-- the JDK's own
def mx (a b : Int32) : Int32 := if a < b then b else a
def mi (a b : Int32) : Int32 := if b < a then b else a
theorem sn_max {a b : Int32} {idx : Nat} (hl : Cond.methodLink j.1.cls idx Lib.Math.max.name ∈ mm_tbl) (h2 : Cond.static Lib.Math.max.name ∈ mm_tbl) (h3 : Cond.initialized "java/lang/Math" ∈ mm_tbl) (h4 : Cond.code Lib.Math.max.name Lib.Math.max.code 2 (some .int) ∈ mm_tbl) (hj : 1 ≤ j.2.2.2.2) (hr : ((st.map fun v => v.category).sum) ≤ 8) (hd : decode j.2.1 pc = .ok (.invokestatic idx, 3)) (k1 : Snd inj j X (pc + 3) lo (.int (mx a b) :: st) M ee) : Snd inj j X pc lo (.int b :: .int a :: st) M ee :=
  mStp.go ⟨rfl, fun p l e R s m args below meth c0 D A cs ad Q C1 H locs cells slots ls g1 g2 hW hL kk =>
    va_mmax C1.1 C1.2.1 (by rw [C1.2.2.1, hL.1]) C1.2.2.2.2.2.1 (C1.2.2.2.2.1 _ hl) (C1.2.2.2.2.1 _ h2) (C1.2.2.2.2.1 _ h3) (C1.2.2.2.2.1 _ h4) (Nat.le_trans hj C1.2.2.2.2.2.2.2.2.2.2.2.1) (by
      have e : (List.map (fun v => v.category) (List.map (mm_v ad) st)) = st.map fun v => v.category := by rw [List.map_map]; exact List.map_congr_left fun v _ => mm_v_cat ad v
      have h9 := C1.2.2.2.2.2.2.2.2.2.2.2.2
      rw [e]; omega) g1 g2 hd (kk H locs ls hW hL)⟩ k1
theorem sn_min {a b : Int32} {idx : Nat} (hl : Cond.methodLink j.1.cls idx Lib.Math.min.name ∈ mm_tbl) (h2 : Cond.static Lib.Math.min.name ∈ mm_tbl) (h3 : Cond.initialized "java/lang/Math" ∈ mm_tbl) (h4 : Cond.code Lib.Math.min.name Lib.Math.min.code 2 (some .int) ∈ mm_tbl) (hj : 1 ≤ j.2.2.2.2) (hr : ((st.map fun v => v.category).sum) ≤ 8) (hd : decode j.2.1 pc = .ok (.invokestatic idx, 3)) (k1 : Snd inj j X (pc + 3) lo (.int (mi a b) :: st) M ee) : Snd inj j X pc lo (.int b :: .int a :: st) M ee :=
  mStp.go ⟨rfl, fun p l e R s m args below meth c0 D A cs ad Q C1 H locs cells slots ls g1 g2 hW hL kk =>
    va_mmin C1.1 C1.2.1 (by rw [C1.2.2.1, hL.1]) C1.2.2.2.2.2.1 (C1.2.2.2.2.1 _ hl) (C1.2.2.2.2.1 _ h2) (C1.2.2.2.2.1 _ h3) (C1.2.2.2.2.1 _ h4) (Nat.le_trans hj C1.2.2.2.2.2.2.2.2.2.2.2.1) (by
      have e : (List.map (fun v => v.category) (List.map (mm_v ad) st)) = st.map fun v => v.category := by rw [List.map_map]; exact List.map_congr_left fun v _ => mm_v_cat ad v
      have h9 := C1.2.2.2.2.2.2.2.2.2.2.2.2
      rw [e]; omega) g1 g2 hd (kk H locs ls hW hL)⟩ k1
def cpy (a na b nb : Nat) (sp dp n : Int32) (M : mm_M) (e : mm_M → Option α) : Option α := if (!(decide (sp < 0)) && !(decide (dp < 0)) && !(decide (n < 0)) && decide (sp.toNatClampNeg + n.toNatClampNeg ≤ na) && decide (dp.toNatClampNeg + n.toNatClampNeg ≤ nb)) = true then e (sR M b (va_cpy (M.1 a) (M.1 b) sp.toNatClampNeg dp.toNatClampNeg n.toNatClampNeg)) else none
theorem sn_cpy {a na b nb idx : Nat} {sp dp n : Int32} (hsa : mm_sh a = (1, na, 0)) (hca : 0 < a ∧ a ≤ 62) (hsb : mm_sh b = (1, nb, 0)) (hcb : 0 < b ∧ b ≤ 62) (hl : Cond.methodLink j.1.cls idx arraycopyName ∈ mm_tbl) (h1 : Cond.native arraycopyName ∈ mm_tbl) (h2 : Cond.static arraycopyName ∈ mm_tbl) (h3 : Cond.initialized "java/lang/System" ∈ mm_tbl) (hj : 1 ≤ j.2.2.2.2) (hr : ((st.map fun v => v.category).sum) ≤ 8) (hd : decode j.2.1 pc = .ok (.invokestatic idx, 3)) {ex : mm_M → Option α} (k1 : ∀ M, Snd inj j X (pc + 3) lo st M (ex M)) : Snd inj j X pc lo (.int n :: .int dp :: .ref b :: .int sp :: .ref a :: st) M (cpy a na b nb sp dp n M ex) :=
  Snd.ite fun hb => by
    simp only [Bool.and_eq_true, Bool.not_eq_true', decide_eq_false_iff_not, decide_eq_true_eq] at hb
    obtain ⟨⟨⟨⟨b1, b2⟩, b3⟩, b4⟩, b5⟩ := hb
    refine mStp.go (M' := sR M b (va_cpy (M.1 a) (M.1 b) sp.toNatClampNeg dp.toNatClampNeg n.toNatClampNeg)) ⟨rfl, fun p l e R s m args below meth c0 D A cs ad Q C1 H locs cells slots ls g1 g2 hW hL kk => ?_⟩ (k1 _)
    refine va_copyi (D := D) (c0 := cs.1) (c1 := cs.1) (n0 := na) (n1 := nb) (f := M.1 a) (g := M.1 b) (ty := .int) C1.1 C1.2.1 (by rw [C1.2.2.1, hL.1]) C1.2.2.2.2.2.1 (C1.2.2.2.2.1 _ hl) (C1.2.2.2.2.1 _ h1) (C1.2.2.2.2.1 _ h2) (C1.2.2.2.2.1 _ h3) C1.2.2.2.2.2.2.2.1 hW.1 hW.2.1 hW.2.2 (a - 1) (b - 1) 0 0 ?_ ?_ rfl rfl rfl b1 b2 b3 b4 b5 (fun _ _ => rfl) (Nat.le_trans hj C1.2.2.2.2.2.2.2.2.2.2.2.1) ?_ hd (fun H1 locs1 hP hD hS => ?_)
    · rw [mm_get ad cs M hca, mm_e_int ad cs M hsa]
    · rw [mm_get ad cs M hcb, mm_e_int ad cs M hsb]
    · have e : (List.map (fun v => v.category) (List.map (mm_v ad) st)) = st.map fun v => v.category := by rw [List.map_map]; exact List.map_congr_left fun v _ => mm_v_cat ad v
      have h9 := C1.2.2.2.2.2.2.2.2.2.2.2.2
      have h8 : nativeFrameWords "java/lang/System" "arraycopy" 5 = 0 ∨ nativeFrameWords "java/lang/System" "arraycopy" 5 ≤ 17 := by right; decide +kernel
      rw [e]; omega
    · rw [mm_set ad cs M (sR M b (va_cpy (M.1 a) (M.1 b) sp.toNatClampNeg dp.toNatClampNeg n.toNatClampNeg)) hcb (mm_e_ne ad cs M _) (by rw [mm_e_int ad cs _ hsb]; simp [sR, uR])] at hP hD
      exact kk H1 locs1 ls ⟨hP, hD, hS⟩ hL
theorem sn_ldcS {idx q : Nat} {tx : String} (ht : ∀ ad A U H, mm_RO ad A U H → vk_R j.1.cls idx tx (ad q) U) (hd : decode j.2.1 pc = .ok (.ldc idx, 2)) (k1 : Snd inj j X (pc + 2) lo (.ref q :: st) M ee) : Snd inj j X pc lo st M ee :=
  mStp.go ⟨rfl, fun p l e R s m args below meth c0 D A cs ad Q C1 H locs cells slots ls g1 g2 hW hL kk => va_ldcS C1.1 C1.2.1 C1.2.2.2.2.2.1 (ht ad A s s.heap C1.2.2.2.2.2.2.2.2.2.1) hd (kk H locs ls hW hL)⟩ k1
-- ends
abbrev injI : Int32 × mm_M → Option Value × mm_M := fun x => (some (.int x.1), x.2)
abbrev injL : Int64 × mm_M → Option Value × mm_M := fun x => (some (.long x.1), x.2)
abbrev injV : mm_M → Option Value × mm_M := fun M => (none, M)
theorem sn_iret {v : Int32} (hr : j.2.2.2.1 = some .int) (hd : decode j.2.1 pc = .ok (.ireturn, 1)) : Snd injI j X pc lo [.int v] M (some (v, M)) := by
  intro x hx
  cases hx
  refine ⟨Nat.le_refl _, ?_⟩
  intro p l e R s m args below meth c D A cs ad g0 k0 s0 Q C b1 b2 hQ H locs cells slots ls hW hL hc hs
  exact hQ H locs cells slots pc ls _ hW hc hs ⟨rfl, hd, .int, hr, rfl⟩
def rZ (v : Int32) (M : mm_M) : Option (Int32 × mm_M) := if v = 0 ∨ v = 1 then some (v, M) else none
theorem sn_zret {v : Int32} (hr : j.2.2.2.1 = some .boolean) (hd : decode j.2.1 pc = .ok (.ireturn, 1)) : Snd injI j X pc lo [.int v] M (rZ v M) := by
  unfold rZ
  refine Snd.gd fun h => ?_
  intro x hx
  cases hx
  refine ⟨Nat.le_refl _, ?_⟩
  intro p l e R s m args below meth c D A cs ad g0 k0 s0 Q C b1 b2 hQ H locs cells slots ls hW hL hc hs
  exact hQ H locs cells slots pc ls _ hW hc hs ⟨rfl, hd, .boolean, hr, by rcases h with rfl | rfl <;> simp [narrow]⟩
theorem sn_lret {v : Int64} (hr : j.2.2.2.1 = some .long) (hd : decode j.2.1 pc = .ok (.lreturn, 1)) : Snd injL j X pc lo [.long v] M (some (v, M)) := by
  intro x hx
  cases hx
  refine ⟨Nat.le_refl _, ?_⟩
  intro p l e R s m args below meth c D A cs ad g0 k0 s0 Q C b1 b2 hQ H locs cells slots ls hW hL hc hs
  exact hQ H locs cells slots pc ls _ hW hc hs ⟨rfl, hd, hr⟩
theorem sn_vret (hr : j.2.2.2.1 = none) (hd : decode j.2.1 pc = .ok (.return_, 1)) : Snd injV j X pc lo [] M (some M) := by
  intro x hx
  cases hx
  refine ⟨Nat.le_refl _, ?_⟩
  intro p l e R s m args below meth c D A cs ad g0 k0 s0 Q C b1 b2 hQ H locs cells slots ls hW hL hc hs
  exact hQ H locs cells slots pc ls _ hW hc hs ⟨rfl, hd, hr⟩
end HEAPRULES
