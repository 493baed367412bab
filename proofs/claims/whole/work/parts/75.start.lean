/-! the start: what the Statement gives -/
theorem st_in1 {w : Cond} (i : Nat) (h : tables_1_1[i]? = some w) : w ∈ lw_tbl := List.mem_append_right _ (List.mem_append_left _ (List.mem_of_getElem? h))
theorem st_in2 {w : Cond} (i : Nat) (h : tables_1_2[i]? = some w) : w ∈ lw_tbl := List.mem_append_right _ (List.mem_append_right _ (List.mem_append_left _ (List.mem_of_getElem? h)))
theorem st_in3 {w : Cond} (i : Nat) (h : tables_1_3[i]? = some w) : w ∈ lw_tbl := List.mem_append_right _ (List.mem_append_right _ (List.mem_append_right _ (List.mem_append_left _ (List.mem_of_getElem? h))))
theorem st_in4 {w : Cond} (i : Nat) (h : tables_1_4[i]? = some w) : w ∈ lw_tbl := List.mem_append_right _ (List.mem_append_right _ (List.mem_append_right _ (List.mem_append_right _ (List.mem_append_left _ (List.mem_of_getElem? h)))))
theorem st_in5 {w : Cond} (i : Nat) (h : tables_1_5[i]? = some w) : w ∈ lw_tbl := List.mem_append_right _ (List.mem_append_right _ (List.mem_append_right _ (List.mem_append_right _ (List.mem_append_right _ (List.mem_append_left _ (List.mem_of_getElem? h))))))
theorem st_in6 {w : Cond} (i : Nat) (h : tables_1_6[i]? = some w) : w ∈ lw_tbl := List.mem_append_right _ (List.mem_append_right _ (List.mem_append_right _ (List.mem_append_right _ (List.mem_append_right _ (List.mem_append_right _ (List.mem_of_getElem? h))))))
def st_F : List Cond := flatC (Jvm.Cond.and given_1 narrow_1)
abbrev st_t (n : String) : Term := .static "DepotCharge" n "[I"
def st_sk : List Nat := [34, 43, 48, 54, 56, 58, 63, 68]
abbrev st_s (i : Nat) : Term := .string "DepotCharge$Reader" (st_sk.getD i 0)
abbrev st_v (i : Nat) : Term := .field (st_s i) "java/lang/String" "value" "[B"
theorem st_m0 : ∀ j : Fin 3, Cond.eq (.elem (st_t "MOST_OF_SETTING") (.int (Int32.ofNat j.1))) (.int (mm_ro 0 j.1)) ∈ st_F := by decide +kernel
theorem st_m1 : ∀ j : Fin 16, Cond.eq (.elem (st_t "SIZE_OF_SET") (.int (Int32.ofNat j.1))) (.int (mm_ro 1 j.1)) ∈ st_F := by decide +kernel
theorem st_m2 : ∀ j : Fin 16, Cond.eq (.elem (st_t "FIRST_OF_SET") (.int (Int32.ofNat j.1))) (.int (mm_ro 2 j.1)) ∈ st_F := by decide +kernel
theorem st_l0 : Cond.arrayOf (st_t "MOST_OF_SETTING") .int ∈ st_F ∧ Cond.eq (.length (st_t "MOST_OF_SETTING")) (.int 3) ∈ st_F := by decide +kernel
theorem st_l1 : Cond.arrayOf (st_t "SIZE_OF_SET") .int ∈ st_F ∧ Cond.eq (.length (st_t "SIZE_OF_SET")) (.int 16) ∈ st_F := by decide +kernel
theorem st_l2 : Cond.arrayOf (st_t "FIRST_OF_SET") .int ∈ st_F ∧ Cond.eq (.length (st_t "FIRST_OF_SET")) (.int 16) ∈ st_F := by decide +kernel
theorem st_x1 : ∀ i : Fin 8, Cond.exactly (st_s i.1) "java/lang/String" ∈ st_F ∧ Cond.eq (.field (st_s i.1) "java/lang/String" "coder" "B") (.int 0) ∈ st_F ∧ Cond.arrayOf (st_v i.1) .byte ∈ st_F ∧ Cond.eq (.length (st_v i.1)) (.int (Int32.ofNat (mm_txl.getD i.1 0))) ∈ st_F := by decide +kernel
theorem st_x2 : ∀ i : Fin 8, ∀ j : Fin 6, j.1 < mm_txl.getD i.1 0 → Cond.eq (.elem (st_v i.1) (.int (Int32.ofNat j.1))) (.int ((mm_txt.getD i.1 []).getD j.1 0)) ∈ st_F := by decide +kernel
theorem st_x3 : ∀ i : Fin 8, ∀ j : Fin 8, i.1 ≠ j.1 → Cond.not (Cond.eq (st_s i.1) (st_s j.1)) ∈ st_F ∨ Cond.not (Cond.eq (st_s j.1) (st_s i.1)) ∈ st_F := by decide +kernel
theorem st_x4 : ∀ i : Fin 8, mm_txl.getD i.1 0 ≤ 6 := by decide +kernel
theorem st_x5 : Cond.exactly (.string "DepotCharge" 140) "java/lang/String" ∈ st_F := by decide +kernel
theorem st_x6 : Cond.eq (.static "java/lang/String" "COMPACT_STRINGS" "Z") (.int 1) ∈ st_F ∧ Cond.isRef (.static "jdk/internal/util/Preconditions" "SIOOBE_FORMATTER" "Ljava/util/function/BiFunction;") ∈ st_F ∧ Cond.isRef (.static Bundle.tN "UNASSIGNED_STACK" Bundle.steD) ∈ st_F ∧ Cond.isRef (.static Bundle.tN "SUPPRESSED_SENTINEL" Bundle.listD) ∈ st_F := by decide +kernel
theorem st_z0 : Cond.laysStatic "DepotCharge" "MOST_OF_SETTING" "[I" ∈ lw_tbl := st_in2 191 rfl
theorem st_z1 : Cond.laysStatic "DepotCharge" "SIZE_OF_SET" "[I" ∈ lw_tbl := st_in3 77 rfl
theorem st_z2 : Cond.laysStatic "DepotCharge" "FIRST_OF_SET" "[I" ∈ lw_tbl := st_in3 210 rfl
theorem st_z3 : Cond.laysStatic "java/lang/String" "COMPACT_STRINGS" "Z" ∈ lw_tbl := st_in2 112 rfl
theorem st_z4 : Cond.laysStatic "jdk/internal/util/Preconditions" "SIOOBE_FORMATTER" "Ljava/util/function/BiFunction;" ∈ lw_tbl := st_in2 128 rfl
theorem st_z5 : Cond.laysStatic Bundle.tN "UNASSIGNED_STACK" Bundle.steD ∈ lw_tbl := st_in4 97 rfl
theorem st_z6 : Cond.laysStatic Bundle.tN "SUPPRESSED_SENTINEL" Bundle.listD ∈ lw_tbl := st_in4 99 rfl
theorem st_i0 : Cond.initialized "DepotCharge" ∈ lw_tbl := st_in1 1 rfl
theorem st_i1 : Cond.initialized "java/lang/String" ∈ lw_tbl := st_in1 11 rfl
theorem st_i2 : Cond.initialized "jdk/internal/util/Preconditions" ∈ lw_tbl := st_in1 13 rfl
theorem st_i3 : Cond.initialized "java/lang/Throwable" ∈ lw_tbl := st_in1 16 rfl
theorem st_r0 : Cond.stringRef "DepotCharge$Reader" 34 "slots" ∈ lw_tbl := st_in2 98 rfl
theorem st_r1 : Cond.stringRef "DepotCharge$Reader" 43 "price" ∈ lw_tbl := st_in2 172 rfl
theorem st_r2 : Cond.stringRef "DepotCharge$Reader" 48 "plugs" ∈ lw_tbl := st_in2 185 rfl
theorem st_r3 : Cond.stringRef "DepotCharge$Reader" 54 "power" ∈ lw_tbl := st_in2 200 rfl
theorem st_r4 : Cond.stringRef "DepotCharge$Reader" 56 "limit" ∈ lw_tbl := st_in2 201 rfl
theorem st_r5 : Cond.stringRef "DepotCharge$Reader" 58 "curve" ∈ lw_tbl := st_in2 202 rfl
theorem st_r6 : Cond.stringRef "DepotCharge$Reader" 63 "bus" ∈ lw_tbl := st_in2 211 rfl
theorem st_r7 : Cond.stringRef "DepotCharge$Reader" 68 "charge" ∈ lw_tbl := st_in2 234 rfl
theorem st_r8 : Cond.stringRef "DepotCharge" 140 "no such bus, or nothing such is told of it" ∈ lw_tbl := st_in4 109 rfl
theorem st_rw : ∀ w ∈ mm_rw, w ∈ lw_tbl := by
  intro w hw
  simp only [mm_rw, List.mem_cons, List.not_mem_nil, or_false] at hw
  rcases hw with e | e | e | e | e | e | e
  · rw [e]; exact st_in2 190 rfl
  · rw [e]; exact st_in2 199 rfl
  · rw [e]; exact st_in3 76 rfl
  · rw [e]; exact st_in3 208 rfl
  · rw [e]; exact st_in3 209 rfl
  · rw [e]; exact st_in4 47 rfl
  · rw [e]; exact st_in4 52 rfl
theorem st_bad : ∀ w ∈ kx_bad, w ∈ lw_tbl := by
  intro w hw
  simp only [kx_bad, List.mem_cons, List.not_mem_nil, or_false] at hw
  rcases hw with e | e | e | e
  · rw [e]; exact st_in4 74 rfl
  · rw [e]; exact st_in4 76 rfl
  · rw [e]; exact st_in4 78 rfl
  · rw [e]; exact st_in4 72 rfl
theorem st_nw : ∀ w ∈ kn_nw, w ∈ lw_tbl := by
  intro w hw
  simp only [kn_nw, List.mem_cons, List.not_mem_nil, or_false] at hw
  rcases hw with e | e | e
  · rw [e]; exact st_in1 99 rfl
  · rw [e]; exact st_in1 143 rfl
  · rw [e]; exact st_in2 0 rfl
theorem kn_tab : ∀ w ∈ kn_nw, w.onTables = true := by decide +kernel
theorem kl_c8 : Cond.classLink RL 8 RX6 ∈ mm_tbl := mm_in1 20 rfl rfl
theorem kl_c16 : Cond.classLink RL 16 RX7 ∈ mm_tbl := mm_in4 135 rfl rfl
theorem kl_is6 : Cond.instantiable RX6 9 ∈ mm_tbl := mm_in1 21 rfl rfl
theorem kl_is7 : Cond.instantiable RX7 27 ∈ mm_tbl := mm_in4 136 rfl rfl
theorem kl_in6 : Cond.initialized RX6 ∈ mm_tbl := mm_in1 1 rfl rfl
theorem kl_in7 : Cond.initialized RX7 ∈ mm_tbl := mm_in1 9 rfl rfl
theorem kl_ml15 : Cond.methodLink RL 15 yX6_init ∈ mm_tbl := mm_in1 22 rfl rfl
theorem kl_ml18 : Cond.methodLink RL 18 yX7_init ∈ mm_tbl := mm_in4 137 rfl rfl
theorem kl_im6 : Cond.instanceMethod yX6_init ∈ mm_tbl := mm_in1 23 rfl rfl
theorem kl_im7 : Cond.instanceMethod yX7_init ∈ mm_tbl := mm_in4 138 rfl rfl
theorem kl_cd6 : Cond.code yX6_init cX6_init 1 none ∈ mm_tbl := mm_in1 24 rfl rfl
theorem kl_cd7 : Cond.code yX7_init cX7_init 2 none ∈ mm_tbl := mm_in4 139 rfl rfl
theorem kl_is0 : Cond.instantiable RX0 11 ∈ mm_tbl := mm_in1 29 rfl rfl
theorem kl_is1 : Cond.instantiable RX1 6 ∈ mm_tbl := mm_in1 142 rfl rfl
theorem kl_is2 : Cond.instantiable RX2 19 ∈ mm_tbl := mm_in1 171 rfl rfl
theorem kl_is3 : Cond.instantiable RX3 2 ∈ mm_tbl := mm_in1 128 rfl rfl
theorem kl_is4 : Cond.instantiable RX4 3 ∈ mm_tbl := mm_in1 239 rfl rfl
theorem kl_is5 : Cond.instantiable RX5 6 ∈ mm_tbl := mm_in1 98 rfl rfl
def st_av (b t0 t1 t2 a8 t4 : Nat) (adK adV : Nat → Nat) : Nat → Nat := fun i => if i = 100 then t0 else if i = 101 then t1 else if i = 102 then t2 else if i = 103 then b else if i = 208 then a8 else if i = 400 then t4 else if i < 208 then adK (i - 200) else adV (i - 300)
theorem st_avK {b t0 t1 t2 a8 t4 : Nat} {adK adV : Nat → Nat} {i : Nat} (hi : i < 8) : st_av b t0 t1 t2 a8 t4 adK adV (200 + i) = adK i := by
  unfold st_av
  rw [if_neg (by omega), if_neg (by omega), if_neg (by omega), if_neg (by omega), if_neg (by omega), if_neg (by omega), if_pos (by omega), show 200 + i - 200 = i by omega]
theorem st_avV {b t0 t1 t2 a8 t4 : Nat} {adK adV : Nat → Nat} {i : Nat} (hi : i < 8) : st_av b t0 t1 t2 a8 t4 adK adV (300 + i) = adV i := by
  unfold st_av
  rw [if_neg (by omega), if_neg (by omega), if_neg (by omega), if_neg (by omega), if_neg (by omega), if_neg (by omega), if_neg (by omega), show 300 + i - 300 = i by omega]
theorem st_RO {s : State} {b : Nat} (hts : ∀ w ∈ lw_tbl, w.before #[Value.ref b] s = true) (hgv : (Jvm.Cond.and given_1 narrow_1).before #[Value.ref b] s = true) : ∃ av : Nat → Nat, av 103 = b ∧ mm_RO av (fun q => s.heap.size ≤ q) s s.heap ∧ mm_RX av (fun q => s.heap.size ≤ q) s s.heap := by
  have hs : ∀ w ∈ st_F, w.before #[Value.ref b] s = true := flat_of_before _ hgv
  have hA : ∀ a : Nat, a < s.heap.size → ¬ s.heap.size ≤ a := fun a h => by omega
  obtain ⟨t0, e0, T0⟩ := va_Tof (tm := st_t "MOST_OF_SETTING") (ty := .int) (N := 3) (f := fun j => .int (mm_ro 0 j)) (A := fun q => s.heap.size ≤ q) (by decide) (hs _ st_l0.1) (va_eqt (hs _ st_l0.2)) (fun j hj => va_eqt (hs _ (st_m0 ⟨j, hj⟩))) hA
  obtain ⟨t1, e1, T1⟩ := va_Tof (tm := st_t "SIZE_OF_SET") (ty := .int) (N := 16) (f := fun j => .int (mm_ro 1 j)) (A := fun q => s.heap.size ≤ q) (by decide) (hs _ st_l1.1) (va_eqt (hs _ st_l1.2)) (fun j hj => va_eqt (hs _ (st_m1 ⟨j, hj⟩))) hA
  obtain ⟨t2, e2, T2⟩ := va_Tof (tm := st_t "FIRST_OF_SET") (ty := .int) (N := 16) (f := fun j => .int (mm_ro 2 j)) (A := fun q => s.heap.size ≤ q) (by decide) (hs _ st_l2.1) (va_eqt (hs _ st_l2.2)) (fun j hj => va_eqt (hs _ (st_m2 ⟨j, hj⟩))) hA
  obtain ⟨adK, adV, hS, hev⟩ := vk_Sof (N := 8) (tm := st_s) (len := mm_txl) (byt := mm_txt) (A := fun q => s.heap.size ≤ q) (fun i hi => by have : mm_txl.getD i 0 ≤ 6 := st_x4 ⟨i, hi⟩; omega) (fun i hi => hs _ (st_x1 ⟨i, hi⟩).1) (fun i hi => hs _ (st_x1 ⟨i, hi⟩).2.1) (fun i hi => hs _ (st_x1 ⟨i, hi⟩).2.2.1) (fun i hi => hs _ (st_x1 ⟨i, hi⟩).2.2.2) (fun i hi j hj => hs _ (st_x2 ⟨i, hi⟩ ⟨j, by have : mm_txl.getD i 0 ≤ 6 := st_x4 ⟨i, hi⟩; omega⟩ hj)) (fun i j hi hj hij => (st_x3 ⟨i, hi⟩ ⟨j, hj⟩ hij).imp (fun h => hs _ h) (fun h => hs _ h)) hA
  obtain ⟨a8, c8, cA8, kA8, q8, -⟩ := Cond.exactly_spec (args := #[Value.ref b]) (first := s) (o := none) (s := s) (idx := []) (t := .string "DepotCharge" 140) (cls := "java/lang/String") (hs _ st_x5)
  have z4 := va_Zqof (A := fun q => s.heap.size ≤ q) (hts _ st_z4) (hts _ st_i2) (hs _ st_x6.2.1) hA
  obtain ⟨t4, h4⟩ : ∃ t4, va_Z "jdk/internal/util/Preconditions" "SIOOBE_FORMATTER" "Ljava/util/function/BiFunction;" .null (fun q => s.heap.size ≤ q) s s.heap ∨ va_Z "jdk/internal/util/Preconditions" "SIOOBE_FORMATTER" "Ljava/util/function/BiFunction;" (.ref t4) (fun q => s.heap.size ≤ q) s s.heap := by
    rcases z4 with h | ⟨t, h⟩
    · exact ⟨0, Or.inl h⟩
    · exact ⟨t, Or.inr h⟩
  refine ⟨st_av b t0 t1 t2 a8 t4 adK adV, rfl, ⟨⟨va_Zof (hts _ st_z0) (hts _ st_i0) e0 hA, va_Zof (hts _ st_z1) (hts _ st_i0) e1 hA, va_Zof (hts _ st_z2) (hts _ st_i0) e2 hA⟩, ⟨T0, T1, T2⟩, fun w hw => va_Nw.of (mm_rw_tab w hw) (hts w (st_rw w hw)), ⟨⟨fun i hi => ?_, fun i j hi hj e => ?_⟩, ?_, ?_, ?_, ?_, ?_, ?_, ?_, ?_⟩, va_Zof (hts _ st_z3) (hts _ st_i1) (va_eqi (hs _ st_x6.1)) hA, h4⟩, vk_R.of (hts _ st_r8) q8, vx_Zqof (hts _ st_z5) (hts _ st_i3) (hs _ st_x6.2.2.1) hA, vx_Zqof (hts _ st_z6) (hts _ st_i3) (hs _ st_x6.2.2.2) hA, fun w hw => va_Nw.of (kx_tab w hw) (hts w (st_bad w hw))⟩
  · show va_O "java/lang/String" (st_av b t0 t1 t2 a8 t4 adK adV (200 + i)) _ s s.heap ∧ _
    simp only [st_avK hi, st_avV hi]
    exact hS.1 i hi
  · have e : st_av b t0 t1 t2 a8 t4 adK adV (200 + i) = st_av b t0 t1 t2 a8 t4 adK adV (200 + j) := e
    rw [st_avK hi, st_avK hj] at e
    exact hS.2 i j hi hj e
  · exact vk_R.of (hts _ st_r0) (by rw [st_avK (i := 0) (by decide)]; exact hev 0 (by decide))
  · exact vk_R.of (hts _ st_r1) (by rw [st_avK (i := 1) (by decide)]; exact hev 1 (by decide))
  · exact vk_R.of (hts _ st_r2) (by rw [st_avK (i := 2) (by decide)]; exact hev 2 (by decide))
  · exact vk_R.of (hts _ st_r3) (by rw [st_avK (i := 3) (by decide)]; exact hev 3 (by decide))
  · exact vk_R.of (hts _ st_r4) (by rw [st_avK (i := 4) (by decide)]; exact hev 4 (by decide))
  · exact vk_R.of (hts _ st_r5) (by rw [st_avK (i := 5) (by decide)]; exact hev 5 (by decide))
  · exact vk_R.of (hts _ st_r6) (by rw [st_avK (i := 6) (by decide)]; exact hev 6 (by decide))
  · exact vk_R.of (hts _ st_r7) (by rw [st_avK (i := 7) (by decide)]; exact hev 7 (by decide))
theorem st_arr {s : State} {args : Array Value} {ty : FieldType} (hne : ∀ C, ty ≠ .object C) (h : (Cond.arrayClass ty).before args s = true) : ∃ cA : ClassId, ArrOfT s cA ty ∧ va_RA s cA ty := by
  obtain ⟨cA, kA, comp, h1, h2, h3⟩ := Cond.arrayClass_spec h
  refine ⟨cA, fun n z => ⟨fun k h => (by cases h), kA, h2, comp, h3⟩, ?_⟩
  cases ty with
  | object C => exact absurd rfl (hne C)
  | _ => exact h1
theorem st_K {s : State} {args : Array Value} (hts : ∀ w ∈ mm_tbl, w.before args s = true) : ∃ (D : va_G) (cs : mm_K), va_K D vwCl (mm_ty cs) s := by
  obtain ⟨cI, i1, i2⟩ := st_arr (ty := .int) (fun C h => by cases h) (hts _ kw_aI)
  obtain ⟨cB, b1, b2⟩ := st_arr (ty := .byte) (fun C h => by cases h) (hts _ kw_aB)
  obtain ⟨cJ, j1, j2⟩ := st_arr (ty := .long) (fun C h => by cases h) (hts _ kw_aJ)
  obtain ⟨c0, f0, k0⟩ := u_known (N := 11) hts iw0 (hts _ kl_is0)
  obtain ⟨c1, f1, k1⟩ := u_known (N := 6) hts iw1 (hts _ kl_is1)
  obtain ⟨c2, f2, k2⟩ := u_known (N := 19) hts iw2 (hts _ kl_is2)
  obtain ⟨c3, f3, k3⟩ := u_known (N := 2) hts iw3 (hts _ kl_is3)
  obtain ⟨c4, f4, k4⟩ := u_known (N := 3) hts iw4 (hts _ kl_is4)
  obtain ⟨c5, f5, k5⟩ := u_known (N := 6) hts iw5 (hts _ kl_is5)
  obtain ⟨c6, f6, k6⟩ := u_known (N := 9) hts iw6 (hts _ kl_is6)
  obtain ⟨c7, f7, k7⟩ := u_known (N := 27) hts iw7 (hts _ kl_is7)
  refine ⟨(fun c => ([c0, c1, c2, c3, c4, c5, c6, c7] : List ClassId).getD c c0, fun c => ([f0, f1, f2, f3, f4, f5, f6, f7] : List (Nat → Nat)).getD c f0), (cI, cB, cJ), fun c q hq => ?_, fun k q hk => ?_⟩
  · match c, hq with
    | 0, hq => cases hq; exact k0
    | 1, hq => cases hq; exact k1
    | 2, hq => cases hq; exact k2
    | 3, hq => cases hq; exact k3
    | 4, hq => cases hq; exact k4
    | 5, hq => cases hq; exact k5
    | 6, hq => cases hq; exact k6
    | 7, hq => cases hq; exact k7
    | n + 8, hq => simp at hq
  · match k, hk with
    | 0, hk => cases hk; exact ⟨i1, i2⟩
    | 1, hk => cases hk; exact ⟨b1, b2⟩
    | 2, hk => cases hk; exact ⟨j1, j2⟩
    | n + 3, hk => simp at hk
/-! the first memory -/
def st_set : Nat → Int32 := upd (upd (upd (fun _ => 0) (0 : Int32).toNatClampNeg 1) (1 : Int32).toNatClampNeg 20) (2 : Int32).toNatClampNeg 40
def st_told : Nat → Int32 := (kpl 8 (upd (upd (upd (upd (fun _ => 0) (0 : Int32).toNatClampNeg 4) (3 : Int32).toNatClampNeg 1) (4 : Int32).toNatClampNeg 20) (5 : Int32).toNatClampNeg 40))
def st_step : Nat → Int32 := (upd (upd (upd (upd (fun _ => 0) (0 : Int32).toNatClampNeg 1) (1 : Int32).toNatClampNeg 9) (2 : Int32).toNatClampNeg 81) (3 : Int32).toNatClampNeg 729)
def st_z : Nat → Int32 := fun _ => 0
def st_dep : Nat → Int32 := fun k => ([4] : List Int32).getD k 0
def st_tape : Nat → Int32 := fun k => ([0, 0, 0, 0, -1] : List Int32).getD k 0
def st_L : List (Nat → Int32) := [st_z, st_z, st_dep, st_set, kfl 10 (fun _ => 0) 8, st_z, st_z, st_z, st_z, st_z, st_z, st_dep, st_set, kfl 10 (fun _ => 0) 8, st_z, st_z, st_z, st_z, st_z, st_z, st_tape, st_z, st_z, st_z, st_z, st_z, st_z, st_z, st_z, st_z, st_z, st_z, st_z, st_z, st_z, st_z, st_z, st_z, st_z, st_z, st_z, st_z, st_z, st_z, st_z, st_z, st_z, st_told, st_z, st_z, st_z, st_z, st_z, st_z, st_z, st_z, st_z, st_z, st_z, st_step, st_z, st_z, st_z]
def st_M : mm_M := (fun c => st_L.getD c st_z, fun _ _ => 0, (2, 11, 2), 0)
def st_S : sS := fun k => ([4, 0, 0, 1, 20, 40, 10, 10, 10, 10, 10, 10, 10, 10] : List Nat).getD k 0
theorem st_d : ∀ i : Fin 8, ∀ k : Fin 24, k.1 < dsz i.1 → mI st_M (2 + i.1) k.1 = nI (st_S (dix i.1 k.1)) := by decide +kernel
theorem st_n : ∀ k : Fin 82, mI st_M 47 k.1 = nI (st_S k.1) := by decide +kernel
theorem st_s9 : ∀ b : Fin 4, mI st_M 59 b.1 = nI (9 ^ b.1) := by decide +kernel
theorem st_hi {k : Nat} (h : 14 ≤ k) : st_S k = 0 := by
  unfold st_S
  rw [List.getD_eq_getElem?_getD, List.getElem?_eq_none (by simp; omega)]
  rfl
theorem st_p8 : ∀ s : Fin 8, st_S (6 + s.1) ≤ 99 := by decide +kernel
theorem st_TT : TT st_M (st_S, fun _ => 0, 0, 0) := by
  have hw : sWF st_S := by
    refine ⟨by decide, by decide, by decide, by decide, by decide, by decide, fun s hs => st_p8 ⟨s, hs⟩, fun c hc => absurd hc (Nat.not_lt_zero _), fun b hb => absurd hb (Nat.not_lt_zero _), fun b hb => by rw [st_hi (by omega)]; omega, fun s hs => by rw [st_hi (by omega)]; exact two_pow_pos _, fun s _ hs => st_hi (by omega)⟩
  refine ⟨⟨hw, fun k hk => st_hi (by omega), Nat.zero_le _, fun j => (by decide : 0 < 256), (by decide : 0 < 10000)⟩, ⟨rfl, by decide, ?_, rfl, fun j hj => absurd hj (Nat.not_lt_zero _), rfl, rfl, rfl, Or.inl rfl⟩, fun k hk => st_n ⟨k, hk⟩, rfl, rfl, fun j hj => absurd hj (Nat.not_lt_zero _), fun b hb => st_s9 ⟨b, hb⟩⟩
  refine (show vE st_M 2 st_S from ⟨rfl, fun i k hi hk => ?_⟩).D
  have h24 : k < 24 := Nat.lt_of_lt_of_le hk (dsz_le ⟨i, hi⟩)
  exact st_d ⟨i, hi⟩ ⟨k, h24⟩ hk
