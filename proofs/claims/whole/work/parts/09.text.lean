theorem w_in_J0 : Cond.initialized "java/lang/String" ∈ mm_tbl := mm_in1 11 rfl rfl
theorem w_in_J1 : Cond.initialized "java/lang/StringLatin1" ∈ mm_tbl := mm_in1 12 rfl rfl
theorem w_in_J3 : Cond.initialized "jdk/internal/util/Preconditions" ∈ mm_tbl := mm_in1 13 rfl rfl
theorem w_cd_J0_length_8abf5 : Cond.code yJ0_length_8abf5 cJ0_length_8abf5 1 (some .int) ∈ mm_tbl := mm_in2 106 rfl rfl
theorem w_im_J0_length_8abf5 : Cond.instanceMethod yJ0_length_8abf5 ∈ mm_tbl := mm_in2 104 rfl rfl
theorem w_se_J0_length_8abf5 : Cond.selects yJ0_length_8abf5.cls yJ0_length_8abf5 yJ0_length_8abf5 ∈ mm_tbl := mm_in2 105 rfl rfl
theorem w_cd_J0_charAt_5068e : Cond.code yJ0_charAt_5068e cJ0_charAt_5068e 2 (some .char) ∈ mm_tbl := mm_in2 116 rfl rfl
theorem w_im_J0_charAt_5068e : Cond.instanceMethod yJ0_charAt_5068e ∈ mm_tbl := mm_in2 114 rfl rfl
theorem w_se_J0_charAt_5068e : Cond.selects yJ0_charAt_5068e.cls yJ0_charAt_5068e yJ0_charAt_5068e ∈ mm_tbl := mm_in2 115 rfl rfl
theorem w_cd_J0_coder_7d493 : Cond.code yJ0_coder_7d493 cJ0_coder_7d493 1 (some .byte) ∈ mm_tbl := mm_in2 110 rfl rfl
theorem w_im_J0_coder_7d493 : Cond.instanceMethod yJ0_coder_7d493 ∈ mm_tbl := mm_in2 108 rfl rfl
theorem w_se_J0_coder_7d493 : Cond.selects yJ0_coder_7d493.cls yJ0_coder_7d493 yJ0_coder_7d493 ∈ mm_tbl := mm_in2 109 rfl rfl
theorem w_cd_J0_isLatin1_aae02 : Cond.code yJ0_isLatin1_aae02 cJ0_isLatin1_aae02 1 (some .boolean) ∈ mm_tbl := mm_in2 120 rfl rfl
theorem w_im_J0_isLatin1_aae02 : Cond.instanceMethod yJ0_isLatin1_aae02 ∈ mm_tbl := mm_in2 118 rfl rfl
theorem w_se_J0_isLatin1_aae02 : Cond.selects yJ0_isLatin1_aae02.cls yJ0_isLatin1_aae02 yJ0_isLatin1_aae02 ∈ mm_tbl := mm_in2 119 rfl rfl
theorem w_cd_J0_checkIndex_df160 : Cond.code yJ0_checkIndex_df160 cJ0_checkIndex_df160 2 none ∈ mm_tbl := mm_in2 126 rfl rfl
theorem w_st_J0_checkIndex_df160 : Cond.static yJ0_checkIndex_df160 ∈ mm_tbl := mm_in2 125 rfl rfl
theorem w_cd_J1_charAt_3b067 : Cond.code yJ1_charAt_3b067 cJ1_charAt_3b067 2 (some .char) ∈ mm_tbl := mm_in2 123 rfl rfl
theorem w_st_J1_charAt_3b067 : Cond.static yJ1_charAt_3b067 ∈ mm_tbl := mm_in2 122 rfl rfl
theorem w_cd_J3_checkIndex_8e157 : Cond.code yJ3_checkIndex_8e157 cJ3_checkIndex_8e157 3 (some .int) ∈ mm_tbl := mm_in2 131 rfl rfl
theorem w_st_J3_checkIndex_8e157 : Cond.static yJ3_checkIndex_8e157 ∈ mm_tbl := mm_in2 130 rfl rfl
theorem w_fl_J0_38 : Cond.fieldLink "java/lang/String" 38 "java/lang/String" "COMPACT_STRINGS" "Z" ∈ mm_tbl := mm_in2 111 rfl rfl
theorem w_fl_J0_1053 : Cond.fieldLink "java/lang/String" 1053 "jdk/internal/util/Preconditions" "SIOOBE_FORMATTER" "Ljava/util/function/BiFunction;" ∈ mm_tbl := mm_in2 127 rfl rfl
theorem w_fl_J0_9 : Cond.fieldLink "java/lang/String" 9 "java/lang/String" "value" "[B" ∈ mm_tbl := mm_in6 81 rfl rfl
theorem w_fl_J0_15 : Cond.fieldLink "java/lang/String" 15 "java/lang/String" "coder" "B" ∈ mm_tbl := mm_in6 82 rfl rfl
theorem w_ml_J0_335 : Cond.methodLink RJ0 335 yJ0_coder_7d493 ∈ mm_tbl := mm_in2 107 rfl rfl
theorem w_ml_J0_492 : Cond.methodLink RJ0 492 yJ0_isLatin1_aae02 ∈ mm_tbl := mm_in2 117 rfl rfl
theorem w_ml_J0_495 : Cond.methodLink RJ0 495 yJ1_charAt_3b067 ∈ mm_tbl := mm_in2 121 rfl rfl
theorem w_ml_J1_9 : Cond.methodLink RJ1 9 yJ0_checkIndex_df160 ∈ mm_tbl := mm_in2 124 rfl rfl
theorem w_ml_J0_1059 : Cond.methodLink RJ0 1059 yJ3_checkIndex_8e157 ∈ mm_tbl := mm_in2 129 rfl rfl
abbrev jJ0_coder_7d493 : mm_J := (yJ0_coder_7d493, cJ0_coder_7d493, 1, (some .byte), 0)
theorem qJ0_coder_7d493 : mm_cl jJ0_coder_7d493 0 := ⟨w_cd_J0_coder_7d493, w_in_J0, by decide +kernel, by decide, by decide⟩
theorem dJ0_coder_7d493_0 : decode cJ0_coder_7d493 0 = .ok (.getstatic 38, 3) := by decide +kernel
theorem dJ0_coder_7d493_3 : decode cJ0_coder_7d493 3 = .ok (.ifCond .eq 10, 3) := by decide +kernel
theorem dJ0_coder_7d493_6 : decode cJ0_coder_7d493 6 = .ok (.aload_n 0, 1) := by decide +kernel
theorem dJ0_coder_7d493_7 : decode cJ0_coder_7d493 7 = .ok (.getfield 15, 3) := by decide +kernel
theorem dJ0_coder_7d493_10 : decode cJ0_coder_7d493 10 = .ok (.goto 4, 3) := by decide +kernel
theorem dJ0_coder_7d493_13 : decode cJ0_coder_7d493 13 = .ok (.iconst 1, 1) := by decide +kernel
theorem dJ0_coder_7d493_14 : decode cJ0_coder_7d493 14 = .ok (.ireturn, 1) := by decide +kernel
abbrev jJ0_isLatin1_aae02 : mm_J := (yJ0_isLatin1_aae02, cJ0_isLatin1_aae02, 1, (some .boolean), 0)
theorem qJ0_isLatin1_aae02 : mm_cl jJ0_isLatin1_aae02 0 := ⟨w_cd_J0_isLatin1_aae02, w_in_J0, by decide +kernel, by decide, by decide⟩
theorem dJ0_isLatin1_aae02_0 : decode cJ0_isLatin1_aae02 0 = .ok (.getstatic 38, 3) := by decide +kernel
theorem dJ0_isLatin1_aae02_3 : decode cJ0_isLatin1_aae02 3 = .ok (.ifCond .eq 14, 3) := by decide +kernel
theorem dJ0_isLatin1_aae02_6 : decode cJ0_isLatin1_aae02 6 = .ok (.aload_n 0, 1) := by decide +kernel
theorem dJ0_isLatin1_aae02_7 : decode cJ0_isLatin1_aae02 7 = .ok (.getfield 15, 3) := by decide +kernel
theorem dJ0_isLatin1_aae02_10 : decode cJ0_isLatin1_aae02 10 = .ok (.ifCond .ne 7, 3) := by decide +kernel
theorem dJ0_isLatin1_aae02_13 : decode cJ0_isLatin1_aae02 13 = .ok (.iconst 1, 1) := by decide +kernel
theorem dJ0_isLatin1_aae02_14 : decode cJ0_isLatin1_aae02 14 = .ok (.goto 4, 3) := by decide +kernel
theorem dJ0_isLatin1_aae02_17 : decode cJ0_isLatin1_aae02 17 = .ok (.iconst 0, 1) := by decide +kernel
theorem dJ0_isLatin1_aae02_18 : decode cJ0_isLatin1_aae02 18 = .ok (.ireturn, 1) := by decide +kernel
abbrev jJ0_length_8abf5 : mm_J := (yJ0_length_8abf5, cJ0_length_8abf5, 1, (some .int), 1)
theorem qJ0_length_8abf5 : mm_cl jJ0_length_8abf5 0 := ⟨w_cd_J0_length_8abf5, w_in_J0, by decide +kernel, by decide, by decide⟩
theorem dJ0_length_8abf5_0 : decode cJ0_length_8abf5 0 = .ok (.aload_n 0, 1) := by decide +kernel
theorem dJ0_length_8abf5_1 : decode cJ0_length_8abf5 1 = .ok (.getfield 9, 3) := by decide +kernel
theorem dJ0_length_8abf5_4 : decode cJ0_length_8abf5 4 = .ok (.arraylength, 1) := by decide +kernel
theorem dJ0_length_8abf5_5 : decode cJ0_length_8abf5 5 = .ok (.aload_n 0, 1) := by decide +kernel
theorem dJ0_length_8abf5_6 : decode cJ0_length_8abf5 6 = .ok (.invokevirtual 335, 3) := by decide +kernel
theorem dJ0_length_8abf5_9 : decode cJ0_length_8abf5 9 = .ok (.ishr, 1) := by decide +kernel
theorem dJ0_length_8abf5_10 : decode cJ0_length_8abf5 10 = .ok (.ireturn, 1) := by decide +kernel
abbrev jJ3_checkIndex_8e157 : mm_J := (yJ3_checkIndex_8e157, cJ3_checkIndex_8e157, 3, (some .int), 0)
theorem qJ3_checkIndex_8e157 : mm_cl jJ3_checkIndex_8e157 3 := ⟨w_cd_J3_checkIndex_8e157, w_in_J3, by decide +kernel, by decide, by decide⟩
theorem dJ3_checkIndex_8e157_0 : decode cJ3_checkIndex_8e157 0 = .ok (.iload_n 0, 1) := by decide +kernel
theorem dJ3_checkIndex_8e157_1 : decode cJ3_checkIndex_8e157 1 = .ok (.ifCond .lt 8, 3) := by decide +kernel
theorem dJ3_checkIndex_8e157_4 : decode cJ3_checkIndex_8e157 4 = .ok (.iload_n 0, 1) := by decide +kernel
theorem dJ3_checkIndex_8e157_5 : decode cJ3_checkIndex_8e157 5 = .ok (.iload_n 1, 1) := by decide +kernel
theorem dJ3_checkIndex_8e157_6 : decode cJ3_checkIndex_8e157 6 = .ok (.if_icmp .lt 10, 3) := by decide +kernel
theorem dJ3_checkIndex_8e157_9 : decode cJ3_checkIndex_8e157 9 = .ok (.aload_n 2, 1) := by decide +kernel
theorem dJ3_checkIndex_8e157_10 : decode cJ3_checkIndex_8e157 10 = .ok (.iload_n 0, 1) := by decide +kernel
theorem dJ3_checkIndex_8e157_11 : decode cJ3_checkIndex_8e157 11 = .ok (.iload_n 1, 1) := by decide +kernel
theorem dJ3_checkIndex_8e157_12 : decode cJ3_checkIndex_8e157 12 = .ok (.invokestatic 95, 3) := by decide +kernel
theorem dJ3_checkIndex_8e157_15 : decode cJ3_checkIndex_8e157 15 = .ok (.athrow, 1) := by decide +kernel
theorem dJ3_checkIndex_8e157_16 : decode cJ3_checkIndex_8e157 16 = .ok (.iload_n 0, 1) := by decide +kernel
theorem dJ3_checkIndex_8e157_17 : decode cJ3_checkIndex_8e157 17 = .ok (.ireturn, 1) := by decide +kernel
abbrev jJ0_checkIndex_df160 : mm_J := (yJ0_checkIndex_df160, cJ0_checkIndex_df160, 2, none, 1)
theorem qJ0_checkIndex_df160 : mm_cl jJ0_checkIndex_df160 2 := ⟨w_cd_J0_checkIndex_df160, w_in_J0, by decide +kernel, by decide, by decide⟩
theorem dJ0_checkIndex_df160_0 : decode cJ0_checkIndex_df160 0 = .ok (.iload_n 0, 1) := by decide +kernel
theorem dJ0_checkIndex_df160_1 : decode cJ0_checkIndex_df160 1 = .ok (.iload_n 1, 1) := by decide +kernel
theorem dJ0_checkIndex_df160_2 : decode cJ0_checkIndex_df160 2 = .ok (.getstatic 1053, 3) := by decide +kernel
theorem dJ0_checkIndex_df160_5 : decode cJ0_checkIndex_df160 5 = .ok (.invokestatic 1059, 3) := by decide +kernel
theorem dJ0_checkIndex_df160_8 : decode cJ0_checkIndex_df160 8 = .ok (.pop, 1) := by decide +kernel
theorem dJ0_checkIndex_df160_9 : decode cJ0_checkIndex_df160 9 = .ok (.return_, 1) := by decide +kernel
abbrev jJ1_charAt_3b067 : mm_J := (yJ1_charAt_3b067, cJ1_charAt_3b067, 2, (some .char), 2)
theorem qJ1_charAt_3b067 : mm_cl jJ1_charAt_3b067 2 := ⟨w_cd_J1_charAt_3b067, w_in_J1, by decide +kernel, by decide, by decide⟩
theorem dJ1_charAt_3b067_0 : decode cJ1_charAt_3b067 0 = .ok (.iload_n 1, 1) := by decide +kernel
theorem dJ1_charAt_3b067_1 : decode cJ1_charAt_3b067 1 = .ok (.aload_n 0, 1) := by decide +kernel
theorem dJ1_charAt_3b067_2 : decode cJ1_charAt_3b067 2 = .ok (.arraylength, 1) := by decide +kernel
theorem dJ1_charAt_3b067_3 : decode cJ1_charAt_3b067 3 = .ok (.invokestatic 9, 3) := by decide +kernel
theorem dJ1_charAt_3b067_6 : decode cJ1_charAt_3b067 6 = .ok (.aload_n 0, 1) := by decide +kernel
theorem dJ1_charAt_3b067_7 : decode cJ1_charAt_3b067 7 = .ok (.iload_n 1, 1) := by decide +kernel
theorem dJ1_charAt_3b067_8 : decode cJ1_charAt_3b067 8 = .ok (.baload, 1) := by decide +kernel
theorem dJ1_charAt_3b067_9 : decode cJ1_charAt_3b067 9 = .ok (.sipush 255, 3) := by decide +kernel
theorem dJ1_charAt_3b067_12 : decode cJ1_charAt_3b067 12 = .ok (.iand, 1) := by decide +kernel
theorem dJ1_charAt_3b067_13 : decode cJ1_charAt_3b067 13 = .ok (.i2c, 1) := by decide +kernel
theorem dJ1_charAt_3b067_14 : decode cJ1_charAt_3b067 14 = .ok (.ireturn, 1) := by decide +kernel
abbrev jJ0_charAt_5068e : mm_J := (yJ0_charAt_5068e, cJ0_charAt_5068e, 2, (some .char), 3)
theorem qJ0_charAt_5068e : mm_cl jJ0_charAt_5068e 1 := ⟨w_cd_J0_charAt_5068e, w_in_J0, by decide +kernel, by decide, by decide⟩
theorem dJ0_charAt_5068e_0 : decode cJ0_charAt_5068e 0 = .ok (.aload_n 0, 1) := by decide +kernel
theorem dJ0_charAt_5068e_1 : decode cJ0_charAt_5068e 1 = .ok (.invokevirtual 492, 3) := by decide +kernel
theorem dJ0_charAt_5068e_4 : decode cJ0_charAt_5068e 4 = .ok (.ifCond .eq 12, 3) := by decide +kernel
theorem dJ0_charAt_5068e_7 : decode cJ0_charAt_5068e 7 = .ok (.aload_n 0, 1) := by decide +kernel
theorem dJ0_charAt_5068e_8 : decode cJ0_charAt_5068e 8 = .ok (.getfield 9, 3) := by decide +kernel
theorem dJ0_charAt_5068e_11 : decode cJ0_charAt_5068e 11 = .ok (.iload_n 1, 1) := by decide +kernel
theorem dJ0_charAt_5068e_12 : decode cJ0_charAt_5068e 12 = .ok (.invokestatic 495, 3) := by decide +kernel
theorem dJ0_charAt_5068e_15 : decode cJ0_charAt_5068e 15 = .ok (.ireturn, 1) := by decide +kernel
theorem dJ0_charAt_5068e_16 : decode cJ0_charAt_5068e 16 = .ok (.aload_n 0, 1) := by decide +kernel
theorem dJ0_charAt_5068e_17 : decode cJ0_charAt_5068e 17 = .ok (.getfield 9, 3) := by decide +kernel
theorem dJ0_charAt_5068e_20 : decode cJ0_charAt_5068e 20 = .ok (.iload_n 1, 1) := by decide +kernel
theorem dJ0_charAt_5068e_21 : decode cJ0_charAt_5068e 21 = .ok (.invokestatic 498, 3) := by decide +kernel
theorem dJ0_charAt_5068e_24 : decode cJ0_charAt_5068e 24 = .ok (.ireturn, 1) := by decide +kernel
section TEXTS
variable {α : Type} {inj : α → Option Value × mm_M} {j : mm_J} {X : mm_X} {pc : Nat} {lo : List (Option Value)} {st : List Value} {M : mm_M} {ee ef : Option α}
def txL (q : Nat) : Nat := mm_txl.getD q 0
def txB (q k : Nat) : Int32 := (mm_txt.getD q []).getD k 0
theorem sn_tVal {q idx : Nat} (hq : q < 8) (hj : j.1.cls = "java/lang/String") (hw : Cond.fieldLink "java/lang/String" idx "java/lang/String" "value" "[B" ∈ mm_tbl) (hd : decode j.2.1 pc = .ok (.getfield idx, 3)) (k1 : Snd inj j X (pc + 3) lo (.ref (300 + q) :: st) M ee) : Snd inj j X pc lo (.ref (200 + q) :: st) M ee :=
  mStp.go ⟨rfl, fun p l e R s m args below meth c0 D A cs ad Q C H locs cells slots ls h1 h2 hW hL kk =>
    vk_getf (o := "java/lang/String") C.1 C.2.1 (C.2.2.2.2.2.2.2.2.2.1.2.2.2.1.1.1 q hq).2.2.1 hW.2.2 (by rw [← hj]; exact C.2.2.2.2.2.1) (C.2.2.2.2.1 _ hw) (fun _ h => h) hd (kk H locs ls hW hL)⟩ k1
theorem sn_tCod {q idx : Nat} (hq : q < 8) (hj : j.1.cls = "java/lang/String") (hw : Cond.fieldLink "java/lang/String" idx "java/lang/String" "coder" "B" ∈ mm_tbl) (hd : decode j.2.1 pc = .ok (.getfield idx, 3)) (k1 : Snd inj j X (pc + 3) lo (.int 0 :: st) M ee) : Snd inj j X pc lo (.ref (200 + q) :: st) M ee :=
  mStp.go ⟨rfl, fun p l e R s m args below meth c0 D A cs ad Q C H locs cells slots ls h1 h2 hW hL kk =>
    vk_getf (o := "java/lang/String") C.1 C.2.1 (C.2.2.2.2.2.2.2.2.2.1.2.2.2.1.1.1 q hq).2.1 hW.2.2 (by rw [← hj]; exact C.2.2.2.2.2.1) (C.2.2.2.2.1 _ hw) (fun _ h => h) hd (kk H locs ls hW hL)⟩ k1
theorem sn_tLen {q : Nat} (hq : q < 8) (hd : decode j.2.1 pc = .ok (.arraylength, 1)) (k1 : Snd inj j X (pc + 1) lo (.int (Int32.ofNat (txL q)) :: st) M ee) : Snd inj j X pc lo (.ref (300 + q) :: st) M ee :=
  mStp.go ⟨rfl, fun p l e R s m args below meth c0 D A cs ad Q C H locs cells slots ls h1 h2 hW hL kk =>
    va_tlen C.1 C.2.1 (C.2.2.2.2.2.2.2.2.2.1.2.2.2.1.1.1 q hq).2.2.2 hW.2.2 rfl hd (kk H locs ls hW hL)⟩ k1
theorem sn_tByt {q : Nat} {i : Int32} (hq : q < 8) (hi : inb i (txL q) = true) (hd : decode j.2.1 pc = .ok (.baload, 1)) (k1 : Snd inj j X (pc + 1) lo (.int (txB q i.toNatClampNeg) :: st) M ee) : Snd inj j X pc lo (.int i :: .ref (300 + q) :: st) M ee :=
  mStp.go ⟨rfl, fun p l e R s m args below meth c0 D A cs ad Q C H locs cells slots ls h1 h2 hW hL kk =>
    va_tb (v := .int (txB q i.toNatClampNeg)) C.1 C.2.1 (C.2.2.2.2.2.2.2.2.2.1.2.2.2.1.1.1 q hq).2.2.2 hW.2.2 (inb_in hi) rfl hd (kk H locs ls hW hL)⟩ k1
theorem sn_tCS {idx : Nat} (hj : j.1.cls = "java/lang/String") (hw : Cond.fieldLink "java/lang/String" idx "java/lang/String" "COMPACT_STRINGS" "Z" ∈ mm_tbl) (hd : decode j.2.1 pc = .ok (.getstatic idx, 3)) (k1 : Snd inj j X (pc + 3) lo (.int 1 :: st) M ee) : Snd inj j X pc lo st M ee :=
  mStp.go ⟨rfl, fun p l e R s m args below meth c0 D A cs ad Q C H locs cells slots ls h1 h2 hW hL kk =>
    va_gets C.1 C.2.1 C.2.2.2.2.2.2.2.2.2.1.2.2.2.2.1 hW.2.2 (by rw [← hj]; exact C.2.2.2.2.2.1) (C.2.2.2.2.1 _ hw) (fun _ h => h) hd (kk H locs ls hW hL)⟩ k1
theorem sn_tFm {idx : Nat} (hj : j.1.cls = "java/lang/String") (hw : Cond.fieldLink "java/lang/String" idx "jdk/internal/util/Preconditions" "SIOOBE_FORMATTER" "Ljava/util/function/BiFunction;" ∈ mm_tbl) (hd : decode j.2.1 pc = .ok (.getstatic idx, 3)) (k1 : ∀ v, v = .null ∨ v = .ref 400 → Snd inj j X (pc + 3) lo (v :: st) M ee) : Snd inj j X pc lo st M ee := by
  intro x hx
  obtain ⟨a1, a2⟩ := k1 .null (Or.inl rfl) x hx
  obtain ⟨b1, b2⟩ := k1 (.ref 400) (Or.inr rfl) x hx
  refine ⟨a1, ?_⟩
  intro p l e R s m args below meth c D A cs ad g0 k0 s0 Q C c1 c2 hQ H locs cells slots ls hW hL hcc hss
  rcases C.2.2.2.2.2.2.2.2.2.1.2.2.2.2.2 with hz | hz
  · exact va_gets C.1 C.2.1 hz hW.2.2 (by rw [← hj]; exact C.2.2.2.2.2.1) (C.2.2.2.2.1 _ hw) (fun _ h => h) hd (a2 p l e R s m args below meth c D A cs ad g0 k0 s0 Q C c1 c2 hQ H locs cells slots ls hW hL hcc hss)
  · exact va_gets C.1 C.2.1 hz hW.2.2 (by rw [← hj]; exact C.2.2.2.2.2.1) (C.2.2.2.2.1 _ hw) (fun _ h => h) hd (b2 p l e R s m args below meth c D A cs ad g0 k0 s0 Q C c1 c2 hQ H locs cells slots ls hW hL hcc hss)
theorem sn_nret {v : Int32} {ty : FieldType} (hr : j.2.2.2.1 = some ty) (hn : narrow ty (.int v) = .int v) (hd : decode j.2.1 pc = .ok (.ireturn, 1)) : Snd injI j X pc lo [.int v] M (some (v, M)) := by
  intro x hx
  cases hx
  refine ⟨Nat.le_refl _, ?_⟩
  intro p l e R s m args below meth c D A cs ad g0 k0 s0 Q C b1 b2 hQ H locs cells slots ls hW hL hc hs
  exact hQ H locs cells slots pc ls _ hW hc hs ⟨rfl, hd, ty, hr, hn⟩
theorem sn_if_eqF {a : Int32} {off : Int} (tgt : Nat) (h : ¬ a = 0) (ht : (pc : Int) + off = (tgt : Int)) (hd : decode j.2.1 pc = .ok (.ifCond .eq off, 3)) (k : Snd inj j X (pc + 3) lo st M ee) : Snd inj j X pc lo (.int a :: st) M ee := by
  have q := sn_if_eq (inj := inj) (a := a) (st := st) (ee := Option.none) tgt ht hd Snd.none k
  rwa [if_neg h] at q
theorem sn_if_neF {a : Int32} {off : Int} (tgt : Nat) (h : a = 0) (ht : (pc : Int) + off = (tgt : Int)) (hd : decode j.2.1 pc = .ok (.ifCond .ne off, 3)) (k : Snd inj j X (pc + 3) lo st M ee) : Snd inj j X pc lo (.int a :: st) M ee := by
  have q := sn_if_ne (inj := inj) (a := a) (st := st) (ee := Option.none) tgt ht hd Snd.none k
  rwa [if_pos h] at q
theorem sn_if_ltF {a : Int32} {off : Int} (tgt : Nat) (h : ¬ a < 0) (ht : (pc : Int) + off = (tgt : Int)) (hd : decode j.2.1 pc = .ok (.ifCond .lt off, 3)) (k : Snd inj j X (pc + 3) lo st M ee) : Snd inj j X pc lo (.int a :: st) M ee := by
  have q := sn_if_lt (inj := inj) (a := a) (st := st) (ee := Option.none) tgt ht hd Snd.none k
  rwa [if_neg h] at q
theorem sn_icmp_ltT {a b : Int32} {off : Int} (tgt : Nat) (h : a < b) (ht : (pc : Int) + off = (tgt : Int)) (hd : decode j.2.1 pc = .ok (.if_icmp .lt off, 3)) (k : Snd inj j X tgt lo st M ee) : Snd inj j X pc lo (.int b :: .int a :: st) M ee := by
  have q := sn_icmp_lt (inj := inj) (a := a) (b := b) (st := st) (ef := Option.none) tgt ht hd k Snd.none
  rwa [if_pos h] at q
theorem sn_callVT {β : Type} {jnj : β → Option Value × mm_M} {jc : mm_J} {idx n q : Nat} {st0 : List Value} {f : Option α} {ex : α → Option β} {As : List Value} (hq : q < 8) (hf : Snd inj jc mm_X0 0 ((.ref (200 + q) :: As).map some) [] M f) (hv : ∀ (x : α) r, (inj x).1 = some (.ref r) → False) (hc : ∀ v ∈ Value.ref (200 + q) :: As, v.category = 1) (hn : (Value.ref (200 + q) :: As).length ≤ jc.2.2.1) (hcl : mm_cl jc n) (hAs : As.length = n) (hlv : jc.2.2.2.2 + 1 ≤ j.2.2.2.2)
    (hC : jc.1.cls = "java/lang/String") (hl : Cond.methodLink j.1.cls idx jc.1 ∈ mm_tbl) (hin : Cond.instanceMethod jc.1 ∈ mm_tbl) (hse : Cond.selects jc.1.cls jc.1 jc.1 ∈ mm_tbl) (hst : st0 = As.reverse ++ .ref (200 + q) :: st) (hr : (st.map fun v => v.category).sum ≤ 8) (hd : decode j.2.1 pc = .ok (.invokevirtual idx, 3)) (k : ∀ x : α, f = some x → Snd jnj j X (pc + 3) lo ((inj x).1.toList ++ st) (inj x).2 (ex x)) : Snd jnj j X pc lo st0 M (f.bind ex) := by
  refine mm_call hf hv hc hn hcl hlv k ?_
  intro p l e R s m args below meth c D A cs ad H locs cells slots g ls Qc free C hls hWW hM hpc h1 h2
  have hts := C.2.2.2.2.1
  refine va_runV (C := jc.1.cls) (As := As.map (mm_v ad)) (rest := st.map (mm_v ad)) (b := ad (200 + q)) (n := n) (Ts := mm_tbl) (own := j.1.cls) ⟨C.1, C.2.1, C.2.2.1, C.2.2.2.2.2.1, hts⟩ hM ⟨callB_of n hts (mm_goodC hcl.1) rfl rfl rfl (hts _ hcl.2.1) (hts _ hl) hcl.2.2.1 ⟨Nat.le_trans hlv C.2.2.2.2.2.2.2.2.2.2.2.1, ?_⟩, hts _ hin, hts _ hse⟩ ⟨mm_blind D cs ad _ M _, ?_, fun U hU hWm => hpc U hU hWm⟩ rfl (by rw [List.length_map]; exact hAs) hls ?_ (lv_room (mm_cat8 hr)) hd ⟨h1, h2⟩
  · have q1 := C.2.2.2.2.2.2.2.2.2.2.2.2
    have q2 := hcl.2.2.2.2
    show 8 + (jc.2.2.1 + 11) + 36 * jc.2.2.2.2 ≤ R.locals
    omega
  · rw [hC]
    exact vk_recv (i := q) (adK := fun i => ad (200 + i)) C.2.2.2.2.2.2.2.2.2.1.2.2.2.1.1 hq hWW.2.2
  · rw [hst]
    show List.map (mm_v ad) (As.reverse ++ Value.ref (200 + q) :: st) = _
    rw [List.map_append, List.map_reverse]
    rfl
-- the methods
theorem sS_coder {q : Nat} (hq : q < 8) (M : mm_M) : Snd injI jJ0_coder_7d493 mm_X0 0 [some (.ref (200 + q))] [] M (some (0, M)) := by
  refine sn_tCS (j := jJ0_coder_7d493) (pc := 0) rfl w_fl_J0_38 dJ0_coder_7d493_0 ?_
  refine sn_if_eqF (j := jJ0_coder_7d493) (pc := 3) 13 (by decide) rfl dJ0_coder_7d493_3 ?_
  refine sn_aload_n (j := jJ0_coder_7d493) (pc := 6) rfl rfl dJ0_coder_7d493_6 ?_
  refine sn_tCod (j := jJ0_coder_7d493) (pc := 7) hq rfl w_fl_J0_15 dJ0_coder_7d493_7 ?_
  refine sn_goto (j := jJ0_coder_7d493) (pc := 10) 14 rfl dJ0_coder_7d493_10 ?_
  exact sn_nret (j := jJ0_coder_7d493) (pc := 14) rfl rfl dJ0_coder_7d493_14
theorem sS_isLatin1 {q : Nat} (hq : q < 8) (M : mm_M) : Snd injI jJ0_isLatin1_aae02 mm_X0 0 [some (.ref (200 + q))] [] M (some (1, M)) := by
  refine sn_tCS (j := jJ0_isLatin1_aae02) (pc := 0) rfl w_fl_J0_38 dJ0_isLatin1_aae02_0 ?_
  refine sn_if_eqF (j := jJ0_isLatin1_aae02) (pc := 3) 17 (by decide) rfl dJ0_isLatin1_aae02_3 ?_
  refine sn_aload_n (j := jJ0_isLatin1_aae02) (pc := 6) rfl rfl dJ0_isLatin1_aae02_6 ?_
  refine sn_tCod (j := jJ0_isLatin1_aae02) (pc := 7) hq rfl w_fl_J0_15 dJ0_isLatin1_aae02_7 ?_
  refine sn_if_neF (j := jJ0_isLatin1_aae02) (pc := 10) 17 rfl rfl dJ0_isLatin1_aae02_10 ?_
  refine sn_iconst (j := jJ0_isLatin1_aae02) (pc := 13) 1 rfl dJ0_isLatin1_aae02_13 ?_
  refine sn_goto (j := jJ0_isLatin1_aae02) (pc := 14) 18 rfl dJ0_isLatin1_aae02_14 ?_
  exact sn_nret (j := jJ0_isLatin1_aae02) (pc := 18) rfl narrow_b1 dJ0_isLatin1_aae02_18
theorem sS_length {q : Nat} (hq : q < 8) (M : mm_M) : Snd injI jJ0_length_8abf5 mm_X0 0 [some (.ref (200 + q))] [] M (some (Int32.ofNat (txL q), M)) := by
  refine sn_aload_n (j := jJ0_length_8abf5) (pc := 0) rfl rfl dJ0_length_8abf5_0 ?_
  refine sn_tVal (j := jJ0_length_8abf5) (pc := 1) hq rfl w_fl_J0_9 dJ0_length_8abf5_1 ?_
  refine sn_tLen (j := jJ0_length_8abf5) (pc := 4) hq dJ0_length_8abf5_4 ?_
  refine sn_aload_n (j := jJ0_length_8abf5) (pc := 5) rfl rfl dJ0_length_8abf5_5 ?_
  have e : (some (Int32.ofNat (txL q), M) : Option (Int32 × mm_M)) = (some (0, M) : Option (Int32 × mm_M)).bind (fun x => some (Int32.ofNat (txL q) >>> (x.1 &&& 31), x.2)) := by
    have : ∀ q : Fin 8, Int32.ofNat (txL q.1) >>> ((0 : Int32) &&& 31) = Int32.ofNat (txL q.1) := by decide +kernel
    have h9 := this ⟨q, hq⟩
    simp only [Option.bind_some]
    rw [h9]
  rw [e]
  refine sn_callVT (j := jJ0_length_8abf5) (pc := 6) (jc := jJ0_coder_7d493) (As := []) (f := some (0, M)) hq (sS_coder hq M) mm_hvI (by simp [Value.category]) (Nat.le_of_ble_eq_true rfl) qJ0_coder_7d493 rfl (by decide) rfl w_ml_J0_335 w_im_J0_coder_7d493 w_se_J0_coder_7d493 rfl (Nat.le_of_ble_eq_true rfl) dJ0_length_8abf5_6 ?_
  rintro ⟨r, M⟩ -
  show Snd injI jJ0_length_8abf5 mm_X0 9 _ [.int r, .int (Int32.ofNat (txL q))] M _
  refine sn_ishr (j := jJ0_length_8abf5) (pc := 9) dJ0_length_8abf5_9 ?_
  exact sn_nret (j := jJ0_length_8abf5) (pc := 10) rfl rfl dJ0_length_8abf5_10
theorem sS_pcheck {i n : Int32} {v : Value} (h1 : ¬ i < 0) (h2 : i < n) (M : mm_M) : Snd injI jJ3_checkIndex_8e157 mm_X0 0 [some (.int i), some (.int n), some v] [] M (some (i, M)) := by
  refine sn_iload_n (j := jJ3_checkIndex_8e157) (pc := 0) rfl rfl dJ3_checkIndex_8e157_0 ?_
  refine sn_if_ltF (j := jJ3_checkIndex_8e157) (pc := 1) 9 h1 rfl dJ3_checkIndex_8e157_1 ?_
  refine sn_iload_n (j := jJ3_checkIndex_8e157) (pc := 4) rfl rfl dJ3_checkIndex_8e157_4 ?_
  refine sn_iload_n (j := jJ3_checkIndex_8e157) (pc := 5) rfl rfl dJ3_checkIndex_8e157_5 ?_
  refine sn_icmp_ltT (j := jJ3_checkIndex_8e157) (pc := 6) 16 h2 rfl dJ3_checkIndex_8e157_6 ?_
  refine sn_iload_n (j := jJ3_checkIndex_8e157) (pc := 16) rfl rfl dJ3_checkIndex_8e157_16 ?_
  exact sn_iret (j := jJ3_checkIndex_8e157) (pc := 17) rfl dJ3_checkIndex_8e157_17
theorem sS_check {i n : Int32} (h1 : ¬ i < 0) (h2 : i < n) (M : mm_M) : Snd injV jJ0_checkIndex_df160 mm_X0 0 [some (.int i), some (.int n)] [] M (some M) := by
  refine sn_iload_n (j := jJ0_checkIndex_df160) (pc := 0) rfl rfl dJ0_checkIndex_df160_0 ?_
  refine sn_iload_n (j := jJ0_checkIndex_df160) (pc := 1) rfl rfl dJ0_checkIndex_df160_1 ?_
  refine sn_tFm (j := jJ0_checkIndex_df160) (pc := 2) rfl w_fl_J0_1053 dJ0_checkIndex_df160_2 (fun v hv => ?_)
  have hcat : v.category = 1 := by rcases hv with rfl | rfl <;> rfl
  refine sn_callS (j := jJ0_checkIndex_df160) (pc := 5) (jc := jJ3_checkIndex_8e157) (As := [.int i, .int n, v]) (ex := fun x => some x.2) (f := some (i, M)) (sS_pcheck h1 h2 M) mm_hvI (by rcases hv with rfl | rfl <;> simp [Value.category]) (Nat.le_of_ble_eq_true rfl) qJ3_checkIndex_8e157 rfl (by decide) w_ml_J0_1059 w_st_J3_checkIndex_8e157 rfl (Nat.le_of_ble_eq_true rfl) dJ0_checkIndex_df160_5 ?_
  rintro ⟨r, M⟩
  show Snd injV jJ0_checkIndex_df160 mm_X0 8 _ [.int r] M _
  refine sn_pop (j := jJ0_checkIndex_df160) (pc := 8) rfl dJ0_checkIndex_df160_8 ?_
  exact sn_vret (j := jJ0_checkIndex_df160) (pc := 9) rfl dJ0_checkIndex_df160_9
theorem tx_len : ∀ q, q < 8 → txL q < 100 := fun q h => by
  have : ∀ q : Fin 8, txL q.1 < 100 := by decide +kernel
  exact this ⟨q, h⟩
theorem inb_nn {i : Int32} {n : Nat} (h : inb i n = true) : ¬ i < 0 ∧ i.toNatClampNeg < n := by
  unfold inb at h
  simpa only [Bool.and_eq_true, Bool.not_eq_true', decide_eq_false_iff_not, decide_eq_true_eq] using h
theorem nn_nI {i : Int32} (h : ¬ i < 0) : nI i.toNatClampNeg = i := by
  have h0 : (0 : Int) ≤ i.toInt := by
    have := Int32.not_lt.mp h
    simpa using Int32.le_iff_toInt_le.mp this
  have hb : i.toInt < 2 ^ 31 := Int32.toInt_lt i
  apply Int32.toInt_inj.mp
  have e : i.toNatClampNeg = i.toInt.toNat := rfl
  rw [e, nI_toInt (by omega)]
  omega
theorem tx_chr : ∀ q, q < 8 → ∀ k, k < txL q → ((txB q k &&& 255).toUInt32 % 65536).toInt32 = txB q k ∧ narrow .char (.int (txB q k)) = .int (txB q k) := fun q hq k hk => by
  have : ∀ q : Fin 8, ∀ k : Fin 10, k.1 < txL q.1 → ((txB q.1 k.1 &&& 255).toUInt32 % 65536).toInt32 = txB q.1 k.1 ∧ vp_nar .char (txB q.1 k.1) = txB q.1 k.1 := by decide +kernel
  have hl : ∀ q : Fin 8, txL q.1 ≤ 10 := by decide +kernel
  have h1 := this ⟨q, hq⟩ ⟨k, Nat.lt_of_lt_of_le hk (hl ⟨q, hq⟩)⟩ hk
  refine ⟨h1.1, ?_⟩
  have h2 := h1.2
  rw [vp_nar_char] at h2
  show Value.int _ = _
  first | exact congrArg Value.int h2 | (simp only [narrow]; exact congrArg Value.int h2)
theorem sS_lchar {q : Nat} {i : Int32} (hq : q < 8) (hi : inb i (txL q) = true) (M : mm_M) : Snd injI jJ1_charAt_3b067 mm_X0 0 [some (.ref (300 + q)), some (.int i)] [] M (some (txB q i.toNatClampNeg, M)) := by
  obtain ⟨h1, h2⟩ := inb_nn hi
  have hlen := tx_len q hq
  refine sn_iload_n (j := jJ1_charAt_3b067) (pc := 0) rfl rfl dJ1_charAt_3b067_0 ?_
  refine sn_aload_n (j := jJ1_charAt_3b067) (pc := 1) rfl rfl dJ1_charAt_3b067_1 ?_
  refine sn_tLen (j := jJ1_charAt_3b067) (pc := 2) hq dJ1_charAt_3b067_2 ?_
  have hlt : i < Int32.ofNat (txL q) := by
    rw [← nn_nI h1]
    exact nI_lt h2 (by omega)
  refine sn_callS (j := jJ1_charAt_3b067) (pc := 3) (jc := jJ0_checkIndex_df160) (As := [.int i, .int (Int32.ofNat (txL q))]) (ex := fun M => some (txB q i.toNatClampNeg, M)) (f := some M) (sS_check h1 hlt M) mm_hvV (by simp [Value.category]) (Nat.le_of_ble_eq_true rfl) qJ0_checkIndex_df160 rfl (by decide) w_ml_J1_9 w_st_J0_checkIndex_df160 rfl (Nat.le_of_ble_eq_true rfl) dJ1_charAt_3b067_3 ?_
  intro M
  show Snd injI jJ1_charAt_3b067 mm_X0 6 _ [] M _
  refine sn_aload_n (j := jJ1_charAt_3b067) (pc := 6) rfl rfl dJ1_charAt_3b067_6 ?_
  refine sn_iload_n (j := jJ1_charAt_3b067) (pc := 7) rfl rfl dJ1_charAt_3b067_7 ?_
  refine sn_tByt (j := jJ1_charAt_3b067) (pc := 8) hq hi dJ1_charAt_3b067_8 ?_
  refine sn_sipush (j := jJ1_charAt_3b067) (pc := 9) 255 rfl dJ1_charAt_3b067_9 ?_
  refine sn_iand (j := jJ1_charAt_3b067) (pc := 12) dJ1_charAt_3b067_12 ?_
  refine sn_i2c (j := jJ1_charAt_3b067) (pc := 13) dJ1_charAt_3b067_13 ?_
  obtain ⟨e1, e2⟩ := tx_chr q hq _ h2
  rw [e1]
  exact sn_nret (j := jJ1_charAt_3b067) (pc := 14) rfl e2 dJ1_charAt_3b067_14
theorem sS_char {q : Nat} {i : Int32} (hq : q < 8) (hi : inb i (txL q) = true) (M : mm_M) : Snd injI jJ0_charAt_5068e mm_X0 0 [some (.ref (200 + q)), some (.int i)] [] M (some (txB q i.toNatClampNeg, M)) := by
  obtain ⟨h1, h2⟩ := inb_nn hi
  have hg : some (txB q i.toNatClampNeg, M) = (some ((1 : Int32), M) : Option (Int32 × mm_M)).bind (fun x => if ¬ x.1 = 0 then some (txB q i.toNatClampNeg, x.2) else none) := by simp
  refine sn_aload_n (j := jJ0_charAt_5068e) (pc := 0) rfl rfl dJ0_charAt_5068e_0 ?_
  rw [hg]
  refine sn_callVT (j := jJ0_charAt_5068e) (pc := 1) (jc := jJ0_isLatin1_aae02) (As := []) (f := some (1, M)) hq (sS_isLatin1 hq M) mm_hvI (by simp [Value.category]) (Nat.le_of_ble_eq_true rfl) qJ0_isLatin1_aae02 rfl (by decide) rfl w_ml_J0_492 w_im_J0_isLatin1_aae02 w_se_J0_isLatin1_aae02 rfl (Nat.le_of_ble_eq_true rfl) dJ0_charAt_5068e_1 ?_
  rintro ⟨r, M⟩ -
  show Snd injI jJ0_charAt_5068e mm_X0 4 _ [.int r] M _
  refine Snd.gd fun hr => ?_
  refine sn_if_eqF (j := jJ0_charAt_5068e) (pc := 4) 16 hr rfl dJ0_charAt_5068e_4 ?_
  refine sn_aload_n (j := jJ0_charAt_5068e) (pc := 7) rfl rfl dJ0_charAt_5068e_7 ?_
  refine sn_tVal (j := jJ0_charAt_5068e) (pc := 8) hq rfl w_fl_J0_9 dJ0_charAt_5068e_8 ?_
  refine sn_iload_n (j := jJ0_charAt_5068e) (pc := 11) rfl rfl dJ0_charAt_5068e_11 ?_
  have hg2 : some (txB q i.toNatClampNeg, M) = (some (txB q i.toNatClampNeg, M) : Option (Int32 × mm_M)).bind (fun x => if x.1 = txB q i.toNatClampNeg then some (x.1, x.2) else none) := by simp
  show Snd injI jJ0_charAt_5068e mm_X0 12 _ _ M (some (txB q i.toNatClampNeg, M))
  rw [hg2]
  refine sn_callS (j := jJ0_charAt_5068e) (pc := 12) (jc := jJ1_charAt_3b067) (As := [.ref (300 + q), .int i]) (f := some (txB q i.toNatClampNeg, M)) (sS_lchar hq hi M) mm_hvI (by simp [Value.category]) (Nat.le_of_ble_eq_true rfl) qJ1_charAt_3b067 rfl (by decide) w_ml_J0_495 w_st_J1_charAt_3b067 rfl (Nat.le_of_ble_eq_true rfl) dJ0_charAt_5068e_12 ?_
  rintro ⟨r, M⟩
  show Snd injI jJ0_charAt_5068e mm_X0 15 _ [.int r] M _
  refine Snd.gd fun hr => ?_
  have hr : r = txB q i.toNatClampNeg := hr
  subst hr
  exact sn_nret (j := jJ0_charAt_5068e) (pc := 15) rfl (tx_chr q hq _ h2).2 dJ0_charAt_5068e_15
-- as the class calls them
def strL (q : Nat) (e : Int32 → Option α) : Option α := e (Int32.ofNat (txL (q - 200)))
def strC (q : Nat) (i : Int32) (e : Int32 → Option α) : Option α := if inb i (txL (q - 200)) = true then e (txB (q - 200) i.toNatClampNeg) else none
theorem isS_q {q : Nat} (h : isS q = true) : ∃ k, k < 8 ∧ q = 200 + k := by
  simp only [isS, Bool.and_eq_true, decide_eq_true_eq] at h
  exact ⟨q - 200, by omega, by omega⟩
theorem sn_strlen {q idx : Nat} {ex : Int32 → Option α} (hS : isS q = true) (hl : Cond.methodLink j.1.cls idx yJ0_length_8abf5 ∈ mm_tbl) (hlv : 2 ≤ j.2.2.2.2) (hr : (st.map fun v => v.category).sum ≤ 8) (hd : decode j.2.1 pc = .ok (.invokevirtual idx, 3)) (k : ∀ x, Snd inj j X (pc + 3) lo (.int x :: st) M (ex x)) : Snd inj j X pc lo (.ref q :: st) M (strL q ex) := by
  obtain ⟨k0, hk, rfl⟩ := isS_q hS
  have e : strL (200 + k0) ex = (some (Int32.ofNat (txL k0), M) : Option (Int32 × mm_M)).bind (fun x => ex x.1) := by
    simp [strL]
  rw [e]
  refine sn_callVT (jc := jJ0_length_8abf5) (As := []) (f := some (Int32.ofNat (txL k0), M)) hk (sS_length hk M) mm_hvI (by simp [Value.category]) (Nat.le_of_ble_eq_true rfl) qJ0_length_8abf5 rfl hlv rfl hl w_im_J0_length_8abf5 w_se_J0_length_8abf5 rfl hr hd ?_
  rintro x hx
  cases hx
  exact k _
theorem sn_strchar {q idx : Nat} {i : Int32} {ex : Int32 → Option α} (hS : isS q = true) (hl : Cond.methodLink j.1.cls idx yJ0_charAt_5068e ∈ mm_tbl) (hlv : 4 ≤ j.2.2.2.2) (hr : (st.map fun v => v.category).sum ≤ 8) (hd : decode j.2.1 pc = .ok (.invokevirtual idx, 3)) (k : ∀ x, Snd inj j X (pc + 3) lo (.int x :: st) M (ex x)) : Snd inj j X pc lo (.int i :: .ref q :: st) M (strC q i ex) := by
  obtain ⟨k0, hk, rfl⟩ := isS_q hS
  unfold strC
  rw [show 200 + k0 - 200 = k0 by omega]
  refine Snd.ite fun hi => ?_
  have e : ex (txB k0 i.toNatClampNeg) = (some (txB k0 i.toNatClampNeg, M) : Option (Int32 × mm_M)).bind (fun x => ex x.1) := by
    simp
  rw [e]
  refine sn_callVT (jc := jJ0_charAt_5068e) (As := [.int i]) (f := some (txB k0 i.toNatClampNeg, M)) hk (sS_char hk hi M) mm_hvI (by simp [Value.category]) (Nat.le_of_ble_eq_true rfl) qJ0_charAt_5068e rfl hlv rfl hl w_im_J0_charAt_5068e w_se_J0_charAt_5068e rfl hr hd ?_
  rintro x hx
  cases hx
  exact k _
end TEXTS
