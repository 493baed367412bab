abbrev j2_lookAt : mm_J := (yX2_lookAt, cX2_lookAt, 3, none, 1)
theorem dX2_lookAt_0 : decode cX2_lookAt 0 = .ok (.aload_n 0, 1) := by decide +kernel
theorem dX2_lookAt_1 : decode cX2_lookAt 1 = .ok (.aload_n 1, 1) := by decide +kernel
theorem dX2_lookAt_2 : decode cX2_lookAt 2 = .ok (.putfield 68, 3) := by decide +kernel
theorem dX2_lookAt_5 : decode cX2_lookAt 5 = .ok (.aload_n 0, 1) := by decide +kernel
theorem dX2_lookAt_6 : decode cX2_lookAt 6 = .ok (.bipush 15, 2) := by decide +kernel
theorem dX2_lookAt_8 : decode cX2_lookAt 8 = .ok (.putfield 18, 3) := by decide +kernel
theorem dX2_lookAt_11 : decode cX2_lookAt 11 = .ok (.aload_n 1, 1) := by decide +kernel
theorem dX2_lookAt_12 : decode cX2_lookAt 12 = .ok (.getfield 72, 3) := by decide +kernel
theorem dX2_lookAt_15 : decode cX2_lookAt 15 = .ok (.iconst 0, 1) := by decide +kernel
theorem dX2_lookAt_16 : decode cX2_lookAt 16 = .ok (.aload_n 0, 1) := by decide +kernel
theorem dX2_lookAt_17 : decode cX2_lookAt 17 = .ok (.getfield 11, 3) := by decide +kernel
theorem dX2_lookAt_20 : decode cX2_lookAt 20 = .ok (.iconst 0, 1) := by decide +kernel
theorem dX2_lookAt_21 : decode cX2_lookAt 21 = .ok (.iconst 3, 1) := by decide +kernel
theorem dX2_lookAt_22 : decode cX2_lookAt 22 = .ok (.invokestatic 75, 3) := by decide +kernel
theorem dX2_lookAt_25 : decode cX2_lookAt 25 = .ok (.iconst 0, 1) := by decide +kernel
theorem dX2_lookAt_26 : decode cX2_lookAt 26 = .ok (.istore_n 2, 1) := by decide +kernel
theorem dX2_lookAt_27 : decode cX2_lookAt 27 = .ok (.iload_n 2, 1) := by decide +kernel
theorem dX2_lookAt_28 : decode cX2_lookAt 28 = .ok (.iconst 4, 1) := by decide +kernel
theorem dX2_lookAt_29 : decode cX2_lookAt 29 = .ok (.if_icmp .ge 21, 3) := by decide +kernel
theorem dX2_lookAt_32 : decode cX2_lookAt 32 = .ok (.aload_n 0, 1) := by decide +kernel
theorem dX2_lookAt_33 : decode cX2_lookAt 33 = .ok (.getfield 15, 3) := by decide +kernel
theorem dX2_lookAt_36 : decode cX2_lookAt 36 = .ok (.iload_n 2, 1) := by decide +kernel
theorem dX2_lookAt_37 : decode cX2_lookAt 37 = .ok (.aload_n 1, 1) := by decide +kernel
theorem dX2_lookAt_38 : decode cX2_lookAt 38 = .ok (.iload_n 2, 1) := by decide +kernel
theorem dX2_lookAt_39 : decode cX2_lookAt 39 = .ok (.iconst 4, 1) := by decide +kernel
theorem dX2_lookAt_40 : decode cX2_lookAt 40 = .ok (.invokevirtual 81, 3) := by decide +kernel
theorem dX2_lookAt_43 : decode cX2_lookAt 43 = .ok (.iastore, 1) := by decide +kernel
theorem dX2_lookAt_44 : decode cX2_lookAt 44 = .ok (.iinc 2 1, 3) := by decide +kernel
theorem dX2_lookAt_47 : decode cX2_lookAt 47 = .ok (.goto (-20), 3) := by decide +kernel
theorem dX2_lookAt_50 : decode cX2_lookAt 50 = .ok (.return_, 1) := by decide +kernel
def b2_lookAt_27  (rec27 : Nat → Int32 → mm_M → Option (mm_M)) (d1 : Nat) (x2 : Int32) (M : mm_M) : Option (mm_M) :=
  if 4 ≤ x2 then (some M) else (cI (f0_fact d1 x2 4 M) (fun r_1 M => uI 28 4 x2 r_1 M (fun M => rec27 d1 (x2 + 1) M)))
set_option maxHeartbeats 2000000 in
theorem sb2_lookAt_27   (rec27 : Nat → Int32 → mm_M → Option (mm_M)) (hrec27 : ∀ (d1 : Nat) (x2 : Int32) (M : mm_M), isD d1 = true → Snd injV j2_lookAt mm_X0 27 [some (.ref 26), some (.ref d1), some (.int x2)] [] M (rec27 d1 x2 M)) (d1 : Nat) (x2 : Int32) (hd1 : isD d1 = true) (M : mm_M) : Snd injV j2_lookAt mm_X0 27 [some (.ref 26), some (.ref d1), some (.int x2)] [] M (b2_lookAt_27  rec27 d1 x2 M) := by
  unfold b2_lookAt_27
  refine sn_iload_n (j := j2_lookAt) (pc := 27) rfl rfl dX2_lookAt_27 ?_
  refine sn_iconst (j := j2_lookAt) (pc := 28) 4 rfl dX2_lookAt_28 ?_
  refine sn_icmp_ge (j := j2_lookAt) (pc := 29) 50 rfl dX2_lookAt_29 ?_ ?_
  · exact sn_vret (j := j2_lookAt) (pc := 50) rfl dX2_lookAt_50
  · refine sn_aload_n (j := j2_lookAt) (pc := 32) rfl rfl dX2_lookAt_32 ?_
    refine g_X2_15 (j := j2_lookAt) (pc := 33) rfl dX2_lookAt_33 ?_
    refine sn_iload_n (j := j2_lookAt) (pc := 36) rfl rfl dX2_lookAt_36 ?_
    refine sn_aload_n (j := j2_lookAt) (pc := 37) rfl rfl dX2_lookAt_37 ?_
    refine sn_iload_n (j := j2_lookAt) (pc := 38) rfl rfl dX2_lookAt_38 ?_
    refine sn_iconst (j := j2_lookAt) (pc := 39) 4 rfl dX2_lookAt_39 ?_
    refine sn_callV (j := j2_lookAt) (pc := 40) (jc := j0_fact) (As := [.int x2, .int 4]) (s0_fact d1 x2 4 M) mm_hvI (by simp [Value.category]) (Nat.le_of_ble_eq_true rfl) q0_fact rfl (by decide) rfl (isD_obj hd1) (isD_pos hd1) w_ml_X2_81 w_im_X0_fact w_se_X0_fact rfl (Nat.le_of_ble_eq_true rfl) dX2_lookAt_40 ?_
    rintro ⟨r_1, M⟩
    show Snd injV j2_lookAt mm_X0 43 [some (.ref 26), some (.ref d1), some (.int x2)] [.int r_1, .int x2, .ref 28] M _
    refine sn_iast (j := j2_lookAt) (pc := 43) rfl ⟨by decide, by decide⟩ dX2_lookAt_43 (fun M => ?_)
    refine sn_iinc (j := j2_lookAt) (pc := 44) 1 rfl (by decide) rfl (lo' := [some (.ref 26), some (.ref d1), some (.int (x2 + 1))]) rfl dX2_lookAt_44 ?_
    refine sn_goto (j := j2_lookAt) (pc := 47) 27 rfl dX2_lookAt_47 ?_
    exact Snd.wk (hrec27 d1 (x2 + 1) M hd1) (by simp [mm_le])
def l2_lookAt_27  : Nat → Nat → Int32 → mm_M → Option (mm_M)
  | 0 => fun _ _ _ => none
  | n + 1 => fun d1 x2 M => b2_lookAt_27  (l2_lookAt_27  n) d1 x2 M
theorem sl2_lookAt_27   : ∀ (n : Nat) (d1 : Nat) (x2 : Int32) (hd1 : isD d1 = true) (M : mm_M), Snd injV j2_lookAt mm_X0 27 [some (.ref 26), some (.ref d1), some (.int x2)] [] M (l2_lookAt_27  n d1 x2 M)
  | 0 => fun _ _ _ _ => Snd.none
  | n + 1 => fun d1 x2 hd1 M => sb2_lookAt_27   (l2_lookAt_27  n) (fun d1 x2 M hd1 => sl2_lookAt_27   n d1 x2 hd1 M) d1 x2 hd1 M
def f2_lookAt (d1 : Nat) (M : mm_M) : Option (mm_M) :=
  if isD d1 = true then (bM (sDep M d1) (fun M => bM (sI M 26 2 15) (fun M => cpy (d1 + 1) 3 27 3 0 0 3 M (fun M => l2_lookAt_27 FU d1 0 M)))) else none
set_option maxHeartbeats 2000000 in
theorem s2_lookAt (d1 : Nat) (M : mm_M) : Snd injV j2_lookAt mm_X0 0 [some (.ref 26), some (.ref d1)] [] M (f2_lookAt d1 M) := by
  refine Snd.wk (lo' := [some (.ref 26), some (.ref d1), none]) ?_ (by simp [mm_le])
  unfold f2_lookAt
  refine Snd.ite fun hd1 => ?_
  refine sn_aload_n (j := j2_lookAt) (pc := 0) rfl rfl dX2_lookAt_0 ?_
  refine sn_aload_n (j := j2_lookAt) (pc := 1) rfl rfl dX2_lookAt_1 ?_
  refine p_X2_68 (j := j2_lookAt) (pc := 2) rfl dX2_lookAt_2 (fun M => ?_)
  refine sn_aload_n (j := j2_lookAt) (pc := 5) rfl rfl dX2_lookAt_5 ?_
  refine sn_bipush (j := j2_lookAt) (pc := 6) 15 rfl dX2_lookAt_6 ?_
  refine p_X2_18 (j := j2_lookAt) (pc := 8) rfl dX2_lookAt_8 (fun M => ?_)
  refine sn_aload_n (j := j2_lookAt) (pc := 11) rfl rfl dX2_lookAt_11 ?_
  refine g_X2_72 (j := j2_lookAt) (pc := 12) hd1 rfl dX2_lookAt_12 ?_
  refine sn_iconst (j := j2_lookAt) (pc := 15) 0 rfl dX2_lookAt_15 ?_
  refine sn_aload_n (j := j2_lookAt) (pc := 16) rfl rfl dX2_lookAt_16 ?_
  refine g_X2_11 (j := j2_lookAt) (pc := 17) rfl dX2_lookAt_17 ?_
  refine sn_iconst (j := j2_lookAt) (pc := 20) 0 rfl dX2_lookAt_20 ?_
  refine sn_iconst (j := j2_lookAt) (pc := 21) 3 rfl dX2_lookAt_21 ?_
  refine sn_cpy (j := j2_lookAt) (pc := 22) (isD_a1 hd1) (isD_p1 hd1) rfl ⟨by decide, by decide⟩ w_ml_X2_75 w_ac1 w_ac2 w_sys (by decide) (Nat.le_of_ble_eq_true rfl) dX2_lookAt_22 (fun M => ?_)
  refine sn_iconst (j := j2_lookAt) (pc := 25) 0 rfl dX2_lookAt_25 ?_
  refine sn_istore_n (j := j2_lookAt) (pc := 26) rfl (by decide) (lo' := [some (.ref 26), some (.ref d1), some (.int 0)]) rfl dX2_lookAt_26 ?_
  exact Snd.wk (sl2_lookAt_27 FU d1 0 hd1 M) (by simp [mm_le])

abbrev j2_trace : mm_J := (yX2_trace, cX2_trace, 6, none, 2)
theorem dX2_trace_0 : decode cX2_trace 0 = .ok (.aload_n 0, 1) := by decide +kernel
theorem dX2_trace_1 : decode cX2_trace 1 = .ok (.getfield 68, 3) := by decide +kernel
theorem dX2_trace_4 : decode cX2_trace 4 = .ok (.iload_n 1, 1) := by decide +kernel
theorem dX2_trace_5 : decode cX2_trace 5 = .ok (.iconst 3, 1) := by decide +kernel
theorem dX2_trace_6 : decode cX2_trace 6 = .ok (.invokevirtual 81, 3) := by decide +kernel
theorem dX2_trace_9 : decode cX2_trace 9 = .ok (.istore_n 2, 1) := by decide +kernel
theorem dX2_trace_10 : decode cX2_trace 10 = .ok (.aload_n 0, 1) := by decide +kernel
theorem dX2_trace_11 : decode cX2_trace 11 = .ok (.getfield 68, 3) := by decide +kernel
theorem dX2_trace_14 : decode cX2_trace 14 = .ok (.iload_n 1, 1) := by decide +kernel
theorem dX2_trace_15 : decode cX2_trace 15 = .ok (.iconst 2, 1) := by decide +kernel
theorem dX2_trace_16 : decode cX2_trace 16 = .ok (.invokevirtual 81, 3) := by decide +kernel
theorem dX2_trace_19 : decode cX2_trace 19 = .ok (.istore_n 3, 1) := by decide +kernel
theorem dX2_trace_20 : decode cX2_trace 20 = .ok (.aload_n 0, 1) := by decide +kernel
theorem dX2_trace_21 : decode cX2_trace 21 = .ok (.getfield 22, 3) := by decide +kernel
theorem dX2_trace_24 : decode cX2_trace 24 = .ok (.iload_n 1, 1) := by decide +kernel
theorem dX2_trace_25 : decode cX2_trace 25 = .ok (.iconst 0, 1) := by decide +kernel
theorem dX2_trace_26 : decode cX2_trace 26 = .ok (.aload_n 0, 1) := by decide +kernel
theorem dX2_trace_27 : decode cX2_trace 27 = .ok (.getfield 68, 3) := by decide +kernel
theorem dX2_trace_30 : decode cX2_trace 30 = .ok (.iload_n 1, 1) := by decide +kernel
theorem dX2_trace_31 : decode cX2_trace 31 = .ok (.iconst 5, 1) := by decide +kernel
theorem dX2_trace_32 : decode cX2_trace 32 = .ok (.invokevirtual 81, 3) := by decide +kernel
theorem dX2_trace_35 : decode cX2_trace 35 = .ok (.aload_n 0, 1) := by decide +kernel
theorem dX2_trace_36 : decode cX2_trace 36 = .ok (.getfield 15, 3) := by decide +kernel
theorem dX2_trace_39 : decode cX2_trace 39 = .ok (.iload_n 1, 1) := by decide +kernel
theorem dX2_trace_40 : decode cX2_trace 40 = .ok (.iaload, 1) := by decide +kernel
theorem dX2_trace_41 : decode cX2_trace 41 = .ok (.isub, 1) := by decide +kernel
theorem dX2_trace_42 : decode cX2_trace 42 = .ok (.invokestatic 110, 3) := by decide +kernel
theorem dX2_trace_45 : decode cX2_trace 45 = .ok (.iastore, 1) := by decide +kernel
theorem dX2_trace_46 : decode cX2_trace 46 = .ok (.iconst 0, 1) := by decide +kernel
theorem dX2_trace_47 : decode cX2_trace 47 = .ok (.istore 4, 2) := by decide +kernel
theorem dX2_trace_49 : decode cX2_trace 49 = .ok (.iload 4, 2) := by decide +kernel
theorem dX2_trace_51 : decode cX2_trace 51 = .ok (.aload_n 0, 1) := by decide +kernel
theorem dX2_trace_52 : decode cX2_trace 52 = .ok (.getfield 22, 3) := by decide +kernel
theorem dX2_trace_55 : decode cX2_trace 55 = .ok (.iload_n 1, 1) := by decide +kernel
theorem dX2_trace_56 : decode cX2_trace 56 = .ok (.iaload, 1) := by decide +kernel
theorem dX2_trace_57 : decode cX2_trace 57 = .ok (.if_icmp .ge 72, 3) := by decide +kernel
theorem dX2_trace_60 : decode cX2_trace 60 = .ok (.iload 4, 2) := by decide +kernel
theorem dX2_trace_62 : decode cX2_trace 62 = .ok (.bipush 8, 2) := by decide +kernel
theorem dX2_trace_64 : decode cX2_trace 64 = .ok (.if_icmp .ge 65, 3) := by decide +kernel
theorem dX2_trace_67 : decode cX2_trace 67 = .ok (.iload_n 3, 1) := by decide +kernel
theorem dX2_trace_68 : decode cX2_trace 68 = .ok (.iload_n 2, 1) := by decide +kernel
theorem dX2_trace_69 : decode cX2_trace 69 = .ok (.if_icmp .ge 60, 3) := by decide +kernel
theorem dX2_trace_72 : decode cX2_trace 72 = .ok (.aload_n 0, 1) := by decide +kernel
theorem dX2_trace_73 : decode cX2_trace 73 = .ok (.getfield 68, 3) := by decide +kernel
theorem dX2_trace_76 : decode cX2_trace 76 = .ok (.iload_n 1, 1) := by decide +kernel
theorem dX2_trace_77 : decode cX2_trace 77 = .ok (.iload_n 3, 1) := by decide +kernel
theorem dX2_trace_78 : decode cX2_trace 78 = .ok (.aload_n 0, 1) := by decide +kernel
theorem dX2_trace_79 : decode cX2_trace 79 = .ok (.getfield 11, 3) := by decide +kernel
theorem dX2_trace_82 : decode cX2_trace 82 = .ok (.iconst 1, 1) := by decide +kernel
theorem dX2_trace_83 : decode cX2_trace 83 = .ok (.iaload, 1) := by decide +kernel
theorem dX2_trace_84 : decode cX2_trace 84 = .ok (.invokevirtual 115, 3) := by decide +kernel
theorem dX2_trace_87 : decode cX2_trace 87 = .ok (.istore 5, 2) := by decide +kernel
theorem dX2_trace_89 : decode cX2_trace 89 = .ok (.aload_n 0, 1) := by decide +kernel
theorem dX2_trace_90 : decode cX2_trace 90 = .ok (.getfield 28, 3) := by decide +kernel
theorem dX2_trace_93 : decode cX2_trace 93 = .ok (.iload_n 1, 1) := by decide +kernel
theorem dX2_trace_94 : decode cX2_trace 94 = .ok (.bipush 9, 2) := by decide +kernel
theorem dX2_trace_96 : decode cX2_trace 96 = .ok (.imul, 1) := by decide +kernel
theorem dX2_trace_97 : decode cX2_trace 97 = .ok (.iload 4, 2) := by decide +kernel
theorem dX2_trace_99 : decode cX2_trace 99 = .ok (.iadd, 1) := by decide +kernel
theorem dX2_trace_100 : decode cX2_trace 100 = .ok (.iload 5, 2) := by decide +kernel
theorem dX2_trace_102 : decode cX2_trace 102 = .ok (.iastore, 1) := by decide +kernel
theorem dX2_trace_103 : decode cX2_trace 103 = .ok (.aload_n 0, 1) := by decide +kernel
theorem dX2_trace_104 : decode cX2_trace 104 = .ok (.getfield 31, 3) := by decide +kernel
theorem dX2_trace_107 : decode cX2_trace 107 = .ok (.iload_n 1, 1) := by decide +kernel
theorem dX2_trace_108 : decode cX2_trace 108 = .ok (.bipush 9, 2) := by decide +kernel
theorem dX2_trace_110 : decode cX2_trace 110 = .ok (.imul, 1) := by decide +kernel
theorem dX2_trace_111 : decode cX2_trace 111 = .ok (.iload 4, 2) := by decide +kernel
theorem dX2_trace_113 : decode cX2_trace 113 = .ok (.iadd, 1) := by decide +kernel
theorem dX2_trace_114 : decode cX2_trace 114 = .ok (.iload_n 2, 1) := by decide +kernel
theorem dX2_trace_115 : decode cX2_trace 115 = .ok (.iload_n 3, 1) := by decide +kernel
theorem dX2_trace_116 : decode cX2_trace 116 = .ok (.isub, 1) := by decide +kernel
theorem dX2_trace_117 : decode cX2_trace 117 = .ok (.iastore, 1) := by decide +kernel
theorem dX2_trace_118 : decode cX2_trace 118 = .ok (.iload_n 3, 1) := by decide +kernel
theorem dX2_trace_119 : decode cX2_trace 119 = .ok (.iload 5, 2) := by decide +kernel
theorem dX2_trace_121 : decode cX2_trace 121 = .ok (.iadd, 1) := by decide +kernel
theorem dX2_trace_122 : decode cX2_trace 122 = .ok (.istore_n 3, 1) := by decide +kernel
theorem dX2_trace_123 : decode cX2_trace 123 = .ok (.iinc 4 1, 3) := by decide +kernel
theorem dX2_trace_126 : decode cX2_trace 126 = .ok (.goto (-77), 3) := by decide +kernel
theorem dX2_trace_129 : decode cX2_trace 129 = .ok (.aload_n 0, 1) := by decide +kernel
theorem dX2_trace_130 : decode cX2_trace 130 = .ok (.getfield 25, 3) := by decide +kernel
theorem dX2_trace_133 : decode cX2_trace 133 = .ok (.iload_n 1, 1) := by decide +kernel
theorem dX2_trace_134 : decode cX2_trace 134 = .ok (.iload 4, 2) := by decide +kernel
theorem dX2_trace_136 : decode cX2_trace 136 = .ok (.iastore, 1) := by decide +kernel
theorem dX2_trace_137 : decode cX2_trace 137 = .ok (.aload_n 0, 1) := by decide +kernel
theorem dX2_trace_138 : decode cX2_trace 138 = .ok (.getfield 31, 3) := by decide +kernel
theorem dX2_trace_141 : decode cX2_trace 141 = .ok (.iload_n 1, 1) := by decide +kernel
theorem dX2_trace_142 : decode cX2_trace 142 = .ok (.bipush 9, 2) := by decide +kernel
theorem dX2_trace_144 : decode cX2_trace 144 = .ok (.imul, 1) := by decide +kernel
theorem dX2_trace_145 : decode cX2_trace 145 = .ok (.iload 4, 2) := by decide +kernel
theorem dX2_trace_147 : decode cX2_trace 147 = .ok (.iadd, 1) := by decide +kernel
theorem dX2_trace_148 : decode cX2_trace 148 = .ok (.iconst 0, 1) := by decide +kernel
theorem dX2_trace_149 : decode cX2_trace 149 = .ok (.iload_n 2, 1) := by decide +kernel
theorem dX2_trace_150 : decode cX2_trace 150 = .ok (.iload_n 3, 1) := by decide +kernel
theorem dX2_trace_151 : decode cX2_trace 151 = .ok (.isub, 1) := by decide +kernel
theorem dX2_trace_152 : decode cX2_trace 152 = .ok (.invokestatic 110, 3) := by decide +kernel
theorem dX2_trace_155 : decode cX2_trace 155 = .ok (.iastore, 1) := by decide +kernel
theorem dX2_trace_156 : decode cX2_trace 156 = .ok (.return_, 1) := by decide +kernel
def l2_trace_129  (x1 : Int32) (x2 : Int32) (x3 : Int32) (x4 : Int32) (M : mm_M) : Option (mm_M) :=
  uI 30 4 x1 x4 M (fun M => bI (mx 0 (x2 - x3)) (fun v_1 => uI 32 36 ((x1 * 9) + x4) v_1 M (fun M => some M)))
set_option maxHeartbeats 2000000 in
theorem sl2_trace_129   (x1 : Int32) (x2 : Int32) (x3 : Int32) (x4 : Int32)  (M : mm_M) : Snd injV j2_trace mm_X0 129 [some (.ref 26), some (.int x1), some (.int x2), some (.int x3), some (.int x4), none] [] M (l2_trace_129  x1 x2 x3 x4 M) := by
  unfold l2_trace_129
  refine sn_aload_n (j := j2_trace) (pc := 129) rfl rfl dX2_trace_129 ?_
  refine g_X2_25 (j := j2_trace) (pc := 130) rfl dX2_trace_130 ?_
  refine sn_iload_n (j := j2_trace) (pc := 133) rfl rfl dX2_trace_133 ?_
  refine sn_iload (j := j2_trace) (pc := 134) rfl dX2_trace_134 ?_
  refine sn_iast (j := j2_trace) (pc := 136) rfl ⟨by decide, by decide⟩ dX2_trace_136 (fun M => ?_)
  refine sn_aload_n (j := j2_trace) (pc := 137) rfl rfl dX2_trace_137 ?_
  refine g_X2_31 (j := j2_trace) (pc := 138) rfl dX2_trace_138 ?_
  refine sn_iload_n (j := j2_trace) (pc := 141) rfl rfl dX2_trace_141 ?_
  refine sn_bipush (j := j2_trace) (pc := 142) 9 rfl dX2_trace_142 ?_
  refine sn_imul (j := j2_trace) (pc := 144) dX2_trace_144 ?_
  refine sn_iload (j := j2_trace) (pc := 145) rfl dX2_trace_145 ?_
  refine sn_iadd (j := j2_trace) (pc := 147) dX2_trace_147 ?_
  refine sn_iconst (j := j2_trace) (pc := 148) 0 rfl dX2_trace_148 ?_
  refine sn_iload_n (j := j2_trace) (pc := 149) rfl rfl dX2_trace_149 ?_
  refine sn_iload_n (j := j2_trace) (pc := 150) rfl rfl dX2_trace_150 ?_
  refine sn_isub (j := j2_trace) (pc := 151) dX2_trace_151 ?_
  refine sn_max (j := j2_trace) (pc := 152) w_ml_X2_110 w_max1 w_math w_max2 (by decide) (Nat.le_of_ble_eq_true rfl) dX2_trace_152 ?_
  refine Snd.bI (fun v_1 => ?_)
  refine sn_iast (j := j2_trace) (pc := 155) rfl ⟨by decide, by decide⟩ dX2_trace_155 (fun M => ?_)
  exact sn_vret (j := j2_trace) (pc := 156) rfl dX2_trace_156
def b2_trace_49  (rec49 : Int32 → Int32 → Int32 → Int32 → mm_M → Option (mm_M)) (x1 : Int32) (x2 : Int32) (x3 : Int32) (x4 : Int32) (M : mm_M) : Option (mm_M) :=
  aI 29 4 x1 M (fun w_2 => if w_2 ≤ x4 then (l2_trace_129 x1 x2 x3 x4 M) else (if 8 ≤ x4 then (l2_trace_129 x1 x2 x3 x4 M) else (if x2 ≤ x3 then (l2_trace_129 x1 x2 x3 x4 M) else (bN (mDep M) (fun d_3 => if isD d_3 = true then (aI 27 3 1 M (fun w_4 => cI (f0_gain d_3 x1 x3 w_4 M) (fun r_5 M => uI 31 36 ((x1 * 9) + x4) r_5 M (fun M => uI 32 36 ((x1 * 9) + x4) (x2 - x3) M (fun M => bI (x3 + r_5) (fun x3_6 => rec49 x1 x2 x3_6 (x4 + 1) M)))))) else none)))))
set_option maxHeartbeats 2000000 in
theorem sb2_trace_49   (rec49 : Int32 → Int32 → Int32 → Int32 → mm_M → Option (mm_M)) (hrec49 : ∀ (x1 : Int32) (x2 : Int32) (x3 : Int32) (x4 : Int32) (M : mm_M), Snd injV j2_trace mm_X0 49 [some (.ref 26), some (.int x1), some (.int x2), some (.int x3), some (.int x4), none] [] M (rec49 x1 x2 x3 x4 M)) (x1 : Int32) (x2 : Int32) (x3 : Int32) (x4 : Int32)  (M : mm_M) : Snd injV j2_trace mm_X0 49 [some (.ref 26), some (.int x1), some (.int x2), some (.int x3), some (.int x4), none] [] M (b2_trace_49  rec49 x1 x2 x3 x4 M) := by
  unfold b2_trace_49
  refine sn_iload (j := j2_trace) (pc := 49) rfl dX2_trace_49 ?_
  refine sn_aload_n (j := j2_trace) (pc := 51) rfl rfl dX2_trace_51 ?_
  refine g_X2_22 (j := j2_trace) (pc := 52) rfl dX2_trace_52 ?_
  refine sn_iload_n (j := j2_trace) (pc := 55) rfl rfl dX2_trace_55 ?_
  refine sn_iald (j := j2_trace) (pc := 56) rfl ⟨by decide, by decide⟩ dX2_trace_56 (fun w_2 => ?_)
  refine sn_icmp_ge (j := j2_trace) (pc := 57) 129 rfl dX2_trace_57 ?_ ?_
  · exact Snd.wk (sl2_trace_129 x1 x2 x3 x4 M) (by simp [mm_le])
  · refine sn_iload (j := j2_trace) (pc := 60) rfl dX2_trace_60 ?_
    refine sn_bipush (j := j2_trace) (pc := 62) 8 rfl dX2_trace_62 ?_
    refine sn_icmp_ge (j := j2_trace) (pc := 64) 129 rfl dX2_trace_64 ?_ ?_
    · exact Snd.wk (sl2_trace_129 x1 x2 x3 x4 M) (by simp [mm_le])
    · refine sn_iload_n (j := j2_trace) (pc := 67) rfl rfl dX2_trace_67 ?_
      refine sn_iload_n (j := j2_trace) (pc := 68) rfl rfl dX2_trace_68 ?_
      refine sn_icmp_ge (j := j2_trace) (pc := 69) 129 rfl dX2_trace_69 ?_ ?_
      · exact Snd.wk (sl2_trace_129 x1 x2 x3 x4 M) (by simp [mm_le])
      · refine sn_aload_n (j := j2_trace) (pc := 72) rfl rfl dX2_trace_72 ?_
        refine g_X2_68 (j := j2_trace) (pc := 73) rfl dX2_trace_73 (fun d_3 => ?_)
        refine Snd.ite fun hd_3 => ?_
        refine sn_iload_n (j := j2_trace) (pc := 76) rfl rfl dX2_trace_76 ?_
        refine sn_iload_n (j := j2_trace) (pc := 77) rfl rfl dX2_trace_77 ?_
        refine sn_aload_n (j := j2_trace) (pc := 78) rfl rfl dX2_trace_78 ?_
        refine g_X2_11 (j := j2_trace) (pc := 79) rfl dX2_trace_79 ?_
        refine sn_iconst (j := j2_trace) (pc := 82) 1 rfl dX2_trace_82 ?_
        refine sn_iald (j := j2_trace) (pc := 83) rfl ⟨by decide, by decide⟩ dX2_trace_83 (fun w_4 => ?_)
        refine sn_callV (j := j2_trace) (pc := 84) (jc := j0_gain) (As := [.int x1, .int x3, .int w_4]) (s0_gain d_3 x1 x3 w_4 M) mm_hvI (by simp [Value.category]) (Nat.le_of_ble_eq_true rfl) q0_gain rfl (by decide) rfl (isD_obj hd_3) (isD_pos hd_3) w_ml_X2_115 w_im_X0_gain w_se_X0_gain rfl (Nat.le_of_ble_eq_true rfl) dX2_trace_84 ?_
        rintro ⟨r_5, M⟩
        show Snd injV j2_trace mm_X0 87 [some (.ref 26), some (.int x1), some (.int x2), some (.int x3), some (.int x4), none] [.int r_5] M _
        refine sn_istore (j := j2_trace) (pc := 87) (by decide) (lo' := [some (.ref 26), some (.int x1), some (.int x2), some (.int x3), some (.int x4), some (.int r_5)]) rfl dX2_trace_87 ?_
        refine sn_aload_n (j := j2_trace) (pc := 89) rfl rfl dX2_trace_89 ?_
        refine g_X2_28 (j := j2_trace) (pc := 90) rfl dX2_trace_90 ?_
        refine sn_iload_n (j := j2_trace) (pc := 93) rfl rfl dX2_trace_93 ?_
        refine sn_bipush (j := j2_trace) (pc := 94) 9 rfl dX2_trace_94 ?_
        refine sn_imul (j := j2_trace) (pc := 96) dX2_trace_96 ?_
        refine sn_iload (j := j2_trace) (pc := 97) rfl dX2_trace_97 ?_
        refine sn_iadd (j := j2_trace) (pc := 99) dX2_trace_99 ?_
        refine sn_iload (j := j2_trace) (pc := 100) rfl dX2_trace_100 ?_
        refine sn_iast (j := j2_trace) (pc := 102) rfl ⟨by decide, by decide⟩ dX2_trace_102 (fun M => ?_)
        refine sn_aload_n (j := j2_trace) (pc := 103) rfl rfl dX2_trace_103 ?_
        refine g_X2_31 (j := j2_trace) (pc := 104) rfl dX2_trace_104 ?_
        refine sn_iload_n (j := j2_trace) (pc := 107) rfl rfl dX2_trace_107 ?_
        refine sn_bipush (j := j2_trace) (pc := 108) 9 rfl dX2_trace_108 ?_
        refine sn_imul (j := j2_trace) (pc := 110) dX2_trace_110 ?_
        refine sn_iload (j := j2_trace) (pc := 111) rfl dX2_trace_111 ?_
        refine sn_iadd (j := j2_trace) (pc := 113) dX2_trace_113 ?_
        refine sn_iload_n (j := j2_trace) (pc := 114) rfl rfl dX2_trace_114 ?_
        refine sn_iload_n (j := j2_trace) (pc := 115) rfl rfl dX2_trace_115 ?_
        refine sn_isub (j := j2_trace) (pc := 116) dX2_trace_116 ?_
        refine sn_iast (j := j2_trace) (pc := 117) rfl ⟨by decide, by decide⟩ dX2_trace_117 (fun M => ?_)
        refine sn_iload_n (j := j2_trace) (pc := 118) rfl rfl dX2_trace_118 ?_
        refine sn_iload (j := j2_trace) (pc := 119) rfl dX2_trace_119 ?_
        refine sn_iadd (j := j2_trace) (pc := 121) dX2_trace_121 ?_
        refine sn_istoreB_n (j := j2_trace) (pc := 122) rfl (fun x3_6 => [some (.ref 26), some (.int x1), some (.int x2), some (.int x3_6), some (.int x4), some (.int r_5)]) (by decide) (fun _ => rfl) dX2_trace_122 (fun x3_6 => ?_)
        refine sn_iinc (j := j2_trace) (pc := 123) 1 rfl (by decide) rfl (lo' := [some (.ref 26), some (.int x1), some (.int x2), some (.int x3_6), some (.int (x4 + 1)), some (.int r_5)]) rfl dX2_trace_123 ?_
        refine sn_goto (j := j2_trace) (pc := 126) 49 rfl dX2_trace_126 ?_
        exact Snd.wk (hrec49 x1 x2 x3_6 (x4 + 1) M ) (by simp [mm_le])
def l2_trace_49  : Nat → Int32 → Int32 → Int32 → Int32 → mm_M → Option (mm_M)
  | 0 => fun _ _ _ _ _ => none
  | n + 1 => fun x1 x2 x3 x4 M => b2_trace_49  (l2_trace_49  n) x1 x2 x3 x4 M
theorem sl2_trace_49   : ∀ (n : Nat) (x1 : Int32) (x2 : Int32) (x3 : Int32) (x4 : Int32)  (M : mm_M), Snd injV j2_trace mm_X0 49 [some (.ref 26), some (.int x1), some (.int x2), some (.int x3), some (.int x4), none] [] M (l2_trace_49  n x1 x2 x3 x4 M)
  | 0 => fun _ _ _ _  _ => Snd.none
  | n + 1 => fun x1 x2 x3 x4  M => sb2_trace_49   (l2_trace_49  n) (fun x1 x2 x3 x4 M  => sl2_trace_49   n x1 x2 x3 x4  M) x1 x2 x3 x4  M
def f2_trace (x1 : Int32) (M : mm_M) : Option (mm_M) :=
  bN (mDep M) (fun d_7 => if isD d_7 = true then (cI (f0_fact d_7 x1 3 M) (fun r_8 M => bN (mDep M) (fun d_9 => if isD d_9 = true then (cI (f0_fact d_9 x1 2 M) (fun r_10 M => bN (mDep M) (fun d_11 => if isD d_11 = true then (cI (f0_fact d_11 x1 5 M) (fun r_12 M => aI 28 4 x1 M (fun w_13 => bI (mx 0 (r_12 - w_13)) (fun v_14 => uI 29 4 x1 v_14 M (fun M => l2_trace_49 FU x1 r_8 r_10 0 M))))) else none))) else none))) else none)
set_option maxHeartbeats 2000000 in
theorem s2_trace (x1 : Int32) (M : mm_M) : Snd injV j2_trace mm_X0 0 [some (.ref 26), some (.int x1)] [] M (f2_trace x1 M) := by
  refine Snd.wk (lo' := [some (.ref 26), some (.int x1), none, none, none, none]) ?_ (by simp [mm_le])
  unfold f2_trace
  refine sn_aload_n (j := j2_trace) (pc := 0) rfl rfl dX2_trace_0 ?_
  refine g_X2_68 (j := j2_trace) (pc := 1) rfl dX2_trace_1 (fun d_7 => ?_)
  refine Snd.ite fun hd_7 => ?_
  refine sn_iload_n (j := j2_trace) (pc := 4) rfl rfl dX2_trace_4 ?_
  refine sn_iconst (j := j2_trace) (pc := 5) 3 rfl dX2_trace_5 ?_
  refine sn_callV (j := j2_trace) (pc := 6) (jc := j0_fact) (As := [.int x1, .int 3]) (s0_fact d_7 x1 3 M) mm_hvI (by simp [Value.category]) (Nat.le_of_ble_eq_true rfl) q0_fact rfl (by decide) rfl (isD_obj hd_7) (isD_pos hd_7) w_ml_X2_81 w_im_X0_fact w_se_X0_fact rfl (Nat.le_of_ble_eq_true rfl) dX2_trace_6 ?_
  rintro ⟨r_8, M⟩
  show Snd injV j2_trace mm_X0 9 [some (.ref 26), some (.int x1), none, none, none, none] [.int r_8] M _
  refine sn_istore_n (j := j2_trace) (pc := 9) rfl (by decide) (lo' := [some (.ref 26), some (.int x1), some (.int r_8), none, none, none]) rfl dX2_trace_9 ?_
  refine sn_aload_n (j := j2_trace) (pc := 10) rfl rfl dX2_trace_10 ?_
  refine g_X2_68 (j := j2_trace) (pc := 11) rfl dX2_trace_11 (fun d_9 => ?_)
  refine Snd.ite fun hd_9 => ?_
  refine sn_iload_n (j := j2_trace) (pc := 14) rfl rfl dX2_trace_14 ?_
  refine sn_iconst (j := j2_trace) (pc := 15) 2 rfl dX2_trace_15 ?_
  refine sn_callV (j := j2_trace) (pc := 16) (jc := j0_fact) (As := [.int x1, .int 2]) (s0_fact d_9 x1 2 M) mm_hvI (by simp [Value.category]) (Nat.le_of_ble_eq_true rfl) q0_fact rfl (by decide) rfl (isD_obj hd_9) (isD_pos hd_9) w_ml_X2_81 w_im_X0_fact w_se_X0_fact rfl (Nat.le_of_ble_eq_true rfl) dX2_trace_16 ?_
  rintro ⟨r_10, M⟩
  show Snd injV j2_trace mm_X0 19 [some (.ref 26), some (.int x1), some (.int r_8), none, none, none] [.int r_10] M _
  refine sn_istore_n (j := j2_trace) (pc := 19) rfl (by decide) (lo' := [some (.ref 26), some (.int x1), some (.int r_8), some (.int r_10), none, none]) rfl dX2_trace_19 ?_
  refine sn_aload_n (j := j2_trace) (pc := 20) rfl rfl dX2_trace_20 ?_
  refine g_X2_22 (j := j2_trace) (pc := 21) rfl dX2_trace_21 ?_
  refine sn_iload_n (j := j2_trace) (pc := 24) rfl rfl dX2_trace_24 ?_
  refine sn_iconst (j := j2_trace) (pc := 25) 0 rfl dX2_trace_25 ?_
  refine sn_aload_n (j := j2_trace) (pc := 26) rfl rfl dX2_trace_26 ?_
  refine g_X2_68 (j := j2_trace) (pc := 27) rfl dX2_trace_27 (fun d_11 => ?_)
  refine Snd.ite fun hd_11 => ?_
  refine sn_iload_n (j := j2_trace) (pc := 30) rfl rfl dX2_trace_30 ?_
  refine sn_iconst (j := j2_trace) (pc := 31) 5 rfl dX2_trace_31 ?_
  refine sn_callV (j := j2_trace) (pc := 32) (jc := j0_fact) (As := [.int x1, .int 5]) (s0_fact d_11 x1 5 M) mm_hvI (by simp [Value.category]) (Nat.le_of_ble_eq_true rfl) q0_fact rfl (by decide) rfl (isD_obj hd_11) (isD_pos hd_11) w_ml_X2_81 w_im_X0_fact w_se_X0_fact rfl (Nat.le_of_ble_eq_true rfl) dX2_trace_32 ?_
  rintro ⟨r_12, M⟩
  show Snd injV j2_trace mm_X0 35 [some (.ref 26), some (.int x1), some (.int r_8), some (.int r_10), none, none] [.int r_12, .int 0, .int x1, .ref 29] M _
  refine sn_aload_n (j := j2_trace) (pc := 35) rfl rfl dX2_trace_35 ?_
  refine g_X2_15 (j := j2_trace) (pc := 36) rfl dX2_trace_36 ?_
  refine sn_iload_n (j := j2_trace) (pc := 39) rfl rfl dX2_trace_39 ?_
  refine sn_iald (j := j2_trace) (pc := 40) rfl ⟨by decide, by decide⟩ dX2_trace_40 (fun w_13 => ?_)
  refine sn_isub (j := j2_trace) (pc := 41) dX2_trace_41 ?_
  refine sn_max (j := j2_trace) (pc := 42) w_ml_X2_110 w_max1 w_math w_max2 (by decide) (Nat.le_of_ble_eq_true rfl) dX2_trace_42 ?_
  refine Snd.bI (fun v_14 => ?_)
  refine sn_iast (j := j2_trace) (pc := 45) rfl ⟨by decide, by decide⟩ dX2_trace_45 (fun M => ?_)
  refine sn_iconst (j := j2_trace) (pc := 46) 0 rfl dX2_trace_46 ?_
  refine sn_istore (j := j2_trace) (pc := 47) (by decide) (lo' := [some (.ref 26), some (.int x1), some (.int r_8), some (.int r_10), some (.int 0), none]) rfl dX2_trace_47 ?_
  exact Snd.wk (sl2_trace_49 FU x1 r_8 r_10 0 M) (by simp [mm_le])

abbrev j2_traceAll : mm_J := (yX2_traceAll, cX2_traceAll, 4, none, 3)
theorem dX2_traceAll_0 : decode cX2_traceAll 0 = .ok (.iconst 1, 1) := by decide +kernel
theorem dX2_traceAll_1 : decode cX2_traceAll 1 = .ok (.istore_n 1, 1) := by decide +kernel
theorem dX2_traceAll_2 : decode cX2_traceAll 2 = .ok (.iconst 0, 1) := by decide +kernel
theorem dX2_traceAll_3 : decode cX2_traceAll 3 = .ok (.istore_n 2, 1) := by decide +kernel
theorem dX2_traceAll_4 : decode cX2_traceAll 4 = .ok (.iload_n 2, 1) := by decide +kernel
theorem dX2_traceAll_5 : decode cX2_traceAll 5 = .ok (.iconst 4, 1) := by decide +kernel
theorem dX2_traceAll_6 : decode cX2_traceAll 6 = .ok (.if_icmp .ge 81, 3) := by decide +kernel
theorem dX2_traceAll_9 : decode cX2_traceAll 9 = .ok (.aload_n 0, 1) := by decide +kernel
theorem dX2_traceAll_10 : decode cX2_traceAll 10 = .ok (.getfield 22, 3) := by decide +kernel
theorem dX2_traceAll_13 : decode cX2_traceAll 13 = .ok (.iload_n 2, 1) := by decide +kernel
theorem dX2_traceAll_14 : decode cX2_traceAll 14 = .ok (.iconst 0, 1) := by decide +kernel
theorem dX2_traceAll_15 : decode cX2_traceAll 15 = .ok (.iastore, 1) := by decide +kernel
theorem dX2_traceAll_16 : decode cX2_traceAll 16 = .ok (.aload_n 0, 1) := by decide +kernel
theorem dX2_traceAll_17 : decode cX2_traceAll 17 = .ok (.getfield 25, 3) := by decide +kernel
theorem dX2_traceAll_20 : decode cX2_traceAll 20 = .ok (.iload_n 2, 1) := by decide +kernel
theorem dX2_traceAll_21 : decode cX2_traceAll 21 = .ok (.iconst 0, 1) := by decide +kernel
theorem dX2_traceAll_22 : decode cX2_traceAll 22 = .ok (.iastore, 1) := by decide +kernel
theorem dX2_traceAll_23 : decode cX2_traceAll 23 = .ok (.aload_n 0, 1) := by decide +kernel
theorem dX2_traceAll_24 : decode cX2_traceAll 24 = .ok (.getfield 31, 3) := by decide +kernel
theorem dX2_traceAll_27 : decode cX2_traceAll 27 = .ok (.iload_n 2, 1) := by decide +kernel
theorem dX2_traceAll_28 : decode cX2_traceAll 28 = .ok (.bipush 9, 2) := by decide +kernel
theorem dX2_traceAll_30 : decode cX2_traceAll 30 = .ok (.imul, 1) := by decide +kernel
theorem dX2_traceAll_31 : decode cX2_traceAll 31 = .ok (.iconst 0, 1) := by decide +kernel
theorem dX2_traceAll_32 : decode cX2_traceAll 32 = .ok (.iastore, 1) := by decide +kernel
theorem dX2_traceAll_33 : decode cX2_traceAll 33 = .ok (.iload_n 2, 1) := by decide +kernel
theorem dX2_traceAll_34 : decode cX2_traceAll 34 = .ok (.aload_n 0, 1) := by decide +kernel
theorem dX2_traceAll_35 : decode cX2_traceAll 35 = .ok (.getfield 68, 3) := by decide +kernel
theorem dX2_traceAll_38 : decode cX2_traceAll 38 = .ok (.getfield 103, 3) := by decide +kernel
theorem dX2_traceAll_41 : decode cX2_traceAll 41 = .ok (.if_icmp .ge 20, 3) := by decide +kernel
theorem dX2_traceAll_44 : decode cX2_traceAll 44 = .ok (.aload_n 0, 1) := by decide +kernel
theorem dX2_traceAll_45 : decode cX2_traceAll 45 = .ok (.getfield 18, 3) := by decide +kernel
theorem dX2_traceAll_48 : decode cX2_traceAll 48 = .ok (.iload_n 2, 1) := by decide +kernel
theorem dX2_traceAll_49 : decode cX2_traceAll 49 = .ok (.ishr, 1) := by decide +kernel
theorem dX2_traceAll_50 : decode cX2_traceAll 50 = .ok (.iconst 1, 1) := by decide +kernel
theorem dX2_traceAll_51 : decode cX2_traceAll 51 = .ok (.iand, 1) := by decide +kernel
theorem dX2_traceAll_52 : decode cX2_traceAll 52 = .ok (.iconst 1, 1) := by decide +kernel
theorem dX2_traceAll_53 : decode cX2_traceAll 53 = .ok (.if_icmp .ne 8, 3) := by decide +kernel
theorem dX2_traceAll_56 : decode cX2_traceAll 56 = .ok (.aload_n 0, 1) := by decide +kernel
theorem dX2_traceAll_57 : decode cX2_traceAll 57 = .ok (.iload_n 2, 1) := by decide +kernel
theorem dX2_traceAll_58 : decode cX2_traceAll 58 = .ok (.invokevirtual 106, 3) := by decide +kernel
theorem dX2_traceAll_61 : decode cX2_traceAll 61 = .ok (.aload_n 0, 1) := by decide +kernel
theorem dX2_traceAll_62 : decode cX2_traceAll 62 = .ok (.getfield 34, 3) := by decide +kernel
theorem dX2_traceAll_65 : decode cX2_traceAll 65 = .ok (.iconst 1, 1) := by decide +kernel
theorem dX2_traceAll_66 : decode cX2_traceAll 66 = .ok (.iload_n 2, 1) := by decide +kernel
theorem dX2_traceAll_67 : decode cX2_traceAll 67 = .ok (.ishl, 1) := by decide +kernel
theorem dX2_traceAll_68 : decode cX2_traceAll 68 = .ok (.iload_n 1, 1) := by decide +kernel
theorem dX2_traceAll_69 : decode cX2_traceAll 69 = .ok (.iastore, 1) := by decide +kernel
theorem dX2_traceAll_70 : decode cX2_traceAll 70 = .ok (.iload_n 1, 1) := by decide +kernel
theorem dX2_traceAll_71 : decode cX2_traceAll 71 = .ok (.aload_n 0, 1) := by decide +kernel
theorem dX2_traceAll_72 : decode cX2_traceAll 72 = .ok (.getfield 25, 3) := by decide +kernel
theorem dX2_traceAll_75 : decode cX2_traceAll 75 = .ok (.iload_n 2, 1) := by decide +kernel
theorem dX2_traceAll_76 : decode cX2_traceAll 76 = .ok (.iaload, 1) := by decide +kernel
theorem dX2_traceAll_77 : decode cX2_traceAll 77 = .ok (.iconst 1, 1) := by decide +kernel
theorem dX2_traceAll_78 : decode cX2_traceAll 78 = .ok (.iadd, 1) := by decide +kernel
theorem dX2_traceAll_79 : decode cX2_traceAll 79 = .ok (.imul, 1) := by decide +kernel
theorem dX2_traceAll_80 : decode cX2_traceAll 80 = .ok (.istore_n 1, 1) := by decide +kernel
theorem dX2_traceAll_81 : decode cX2_traceAll 81 = .ok (.iinc 2 1, 3) := by decide +kernel
theorem dX2_traceAll_84 : decode cX2_traceAll 84 = .ok (.goto (-80), 3) := by decide +kernel
theorem dX2_traceAll_87 : decode cX2_traceAll 87 = .ok (.iconst 1, 1) := by decide +kernel
theorem dX2_traceAll_88 : decode cX2_traceAll 88 = .ok (.istore_n 2, 1) := by decide +kernel
theorem dX2_traceAll_89 : decode cX2_traceAll 89 = .ok (.iload_n 2, 1) := by decide +kernel
theorem dX2_traceAll_90 : decode cX2_traceAll 90 = .ok (.bipush 16, 2) := by decide +kernel
theorem dX2_traceAll_92 : decode cX2_traceAll 92 = .ok (.if_icmp .ge 35, 3) := by decide +kernel
theorem dX2_traceAll_95 : decode cX2_traceAll 95 = .ok (.iload_n 2, 1) := by decide +kernel
theorem dX2_traceAll_96 : decode cX2_traceAll 96 = .ok (.iload_n 2, 1) := by decide +kernel
theorem dX2_traceAll_97 : decode cX2_traceAll 97 = .ok (.ineg, 1) := by decide +kernel
theorem dX2_traceAll_98 : decode cX2_traceAll 98 = .ok (.iand, 1) := by decide +kernel
theorem dX2_traceAll_99 : decode cX2_traceAll 99 = .ok (.istore_n 3, 1) := by decide +kernel
theorem dX2_traceAll_100 : decode cX2_traceAll 100 = .ok (.aload_n 0, 1) := by decide +kernel
theorem dX2_traceAll_101 : decode cX2_traceAll 101 = .ok (.getfield 34, 3) := by decide +kernel
theorem dX2_traceAll_104 : decode cX2_traceAll 104 = .ok (.iload_n 2, 1) := by decide +kernel
theorem dX2_traceAll_105 : decode cX2_traceAll 105 = .ok (.aload_n 0, 1) := by decide +kernel
theorem dX2_traceAll_106 : decode cX2_traceAll 106 = .ok (.getfield 34, 3) := by decide +kernel
theorem dX2_traceAll_109 : decode cX2_traceAll 109 = .ok (.iload_n 2, 1) := by decide +kernel
theorem dX2_traceAll_110 : decode cX2_traceAll 110 = .ok (.iload_n 3, 1) := by decide +kernel
theorem dX2_traceAll_111 : decode cX2_traceAll 111 = .ok (.ixor, 1) := by decide +kernel
theorem dX2_traceAll_112 : decode cX2_traceAll 112 = .ok (.iaload, 1) := by decide +kernel
theorem dX2_traceAll_113 : decode cX2_traceAll 113 = .ok (.aload_n 0, 1) := by decide +kernel
theorem dX2_traceAll_114 : decode cX2_traceAll 114 = .ok (.getfield 34, 3) := by decide +kernel
theorem dX2_traceAll_117 : decode cX2_traceAll 117 = .ok (.iload_n 3, 1) := by decide +kernel
theorem dX2_traceAll_118 : decode cX2_traceAll 118 = .ok (.iaload, 1) := by decide +kernel
theorem dX2_traceAll_119 : decode cX2_traceAll 119 = .ok (.iadd, 1) := by decide +kernel
theorem dX2_traceAll_120 : decode cX2_traceAll 120 = .ok (.iastore, 1) := by decide +kernel
theorem dX2_traceAll_121 : decode cX2_traceAll 121 = .ok (.iinc 2 1, 3) := by decide +kernel
theorem dX2_traceAll_124 : decode cX2_traceAll 124 = .ok (.goto (-35), 3) := by decide +kernel
theorem dX2_traceAll_127 : decode cX2_traceAll 127 = .ok (.return_, 1) := by decide +kernel
def b2_traceAll_89  (rec89 : Int32 → mm_M → Option (mm_M)) (x2 : Int32) (M : mm_M) : Option (mm_M) :=
  if 16 ≤ x2 then (some M) else (bI (x2 &&& (-x2)) (fun x3_1 => aI 33 16 (x2 ^^^ x3_1) M (fun w_2 => aI 33 16 x3_1 M (fun w_3 => uI 33 16 x2 (w_2 + w_3) M (fun M => rec89 (x2 + 1) M)))))
set_option maxHeartbeats 2000000 in
theorem sb2_traceAll_89   (rec89 : Int32 → mm_M → Option (mm_M)) (hrec89 : ∀ (x2 : Int32) (M : mm_M), Snd injV j2_traceAll mm_X0 89 [some (.ref 26), none, some (.int x2), none] [] M (rec89 x2 M)) (x2 : Int32)  (M : mm_M) : Snd injV j2_traceAll mm_X0 89 [some (.ref 26), none, some (.int x2), none] [] M (b2_traceAll_89  rec89 x2 M) := by
  unfold b2_traceAll_89
  refine sn_iload_n (j := j2_traceAll) (pc := 89) rfl rfl dX2_traceAll_89 ?_
  refine sn_bipush (j := j2_traceAll) (pc := 90) 16 rfl dX2_traceAll_90 ?_
  refine sn_icmp_ge (j := j2_traceAll) (pc := 92) 127 rfl dX2_traceAll_92 ?_ ?_
  · exact sn_vret (j := j2_traceAll) (pc := 127) rfl dX2_traceAll_127
  · refine sn_iload_n (j := j2_traceAll) (pc := 95) rfl rfl dX2_traceAll_95 ?_
    refine sn_iload_n (j := j2_traceAll) (pc := 96) rfl rfl dX2_traceAll_96 ?_
    refine sn_ineg (j := j2_traceAll) (pc := 97) dX2_traceAll_97 ?_
    refine sn_iand (j := j2_traceAll) (pc := 98) dX2_traceAll_98 ?_
    refine sn_istoreB_n (j := j2_traceAll) (pc := 99) rfl (fun x3_1 => [some (.ref 26), none, some (.int x2), some (.int x3_1)]) (by decide) (fun _ => rfl) dX2_traceAll_99 (fun x3_1 => ?_)
    refine sn_aload_n (j := j2_traceAll) (pc := 100) rfl rfl dX2_traceAll_100 ?_
    refine g_X2_34 (j := j2_traceAll) (pc := 101) rfl dX2_traceAll_101 ?_
    refine sn_iload_n (j := j2_traceAll) (pc := 104) rfl rfl dX2_traceAll_104 ?_
    refine sn_aload_n (j := j2_traceAll) (pc := 105) rfl rfl dX2_traceAll_105 ?_
    refine g_X2_34 (j := j2_traceAll) (pc := 106) rfl dX2_traceAll_106 ?_
    refine sn_iload_n (j := j2_traceAll) (pc := 109) rfl rfl dX2_traceAll_109 ?_
    refine sn_iload_n (j := j2_traceAll) (pc := 110) rfl rfl dX2_traceAll_110 ?_
    refine sn_ixor (j := j2_traceAll) (pc := 111) dX2_traceAll_111 ?_
    refine sn_iald (j := j2_traceAll) (pc := 112) rfl ⟨by decide, by decide⟩ dX2_traceAll_112 (fun w_2 => ?_)
    refine sn_aload_n (j := j2_traceAll) (pc := 113) rfl rfl dX2_traceAll_113 ?_
    refine g_X2_34 (j := j2_traceAll) (pc := 114) rfl dX2_traceAll_114 ?_
    refine sn_iload_n (j := j2_traceAll) (pc := 117) rfl rfl dX2_traceAll_117 ?_
    refine sn_iald (j := j2_traceAll) (pc := 118) rfl ⟨by decide, by decide⟩ dX2_traceAll_118 (fun w_3 => ?_)
    refine sn_iadd (j := j2_traceAll) (pc := 119) dX2_traceAll_119 ?_
    refine sn_iast (j := j2_traceAll) (pc := 120) rfl ⟨by decide, by decide⟩ dX2_traceAll_120 (fun M => ?_)
    refine sn_iinc (j := j2_traceAll) (pc := 121) 1 rfl (by decide) rfl (lo' := [some (.ref 26), none, some (.int (x2 + 1)), some (.int x3_1)]) rfl dX2_traceAll_121 ?_
    refine sn_goto (j := j2_traceAll) (pc := 124) 89 rfl dX2_traceAll_124 ?_
    exact Snd.wk (hrec89 (x2 + 1) M ) (by simp [mm_le])
def l2_traceAll_89  : Nat → Int32 → mm_M → Option (mm_M)
  | 0 => fun _ _ => none
  | n + 1 => fun x2 M => b2_traceAll_89  (l2_traceAll_89  n) x2 M
theorem sl2_traceAll_89   : ∀ (n : Nat) (x2 : Int32)  (M : mm_M), Snd injV j2_traceAll mm_X0 89 [some (.ref 26), none, some (.int x2), none] [] M (l2_traceAll_89  n x2 M)
  | 0 => fun _  _ => Snd.none
  | n + 1 => fun x2  M => sb2_traceAll_89   (l2_traceAll_89  n) (fun x2 M  => sl2_traceAll_89   n x2  M) x2  M
def l2_traceAll_61 (rec4 : Int32 → Int32 → mm_M → Option (mm_M)) (x1 : Int32) (x2 : Int32) (M : mm_M) : Option (mm_M) :=
  uI 33 16 (1 <<< (x2 &&& 31)) x1 M (fun M => aI 30 4 x2 M (fun w_4 => bI (x1 * (w_4 + 1)) (fun x1_5 => rec4 x1_5 (x2 + 1) M)))
set_option maxHeartbeats 2000000 in
theorem sl2_traceAll_61 (rec4 : Int32 → Int32 → mm_M → Option (mm_M)) (hrec4 : ∀ (x1 : Int32) (x2 : Int32) (M : mm_M), Snd injV j2_traceAll mm_X0 4 [some (.ref 26), some (.int x1), some (.int x2), none] [] M (rec4 x1 x2 M)) (x1 : Int32) (x2 : Int32)  (M : mm_M) : Snd injV j2_traceAll mm_X0 61 [some (.ref 26), some (.int x1), some (.int x2), none] [] M (l2_traceAll_61 rec4 x1 x2 M) := by
  unfold l2_traceAll_61
  refine sn_aload_n (j := j2_traceAll) (pc := 61) rfl rfl dX2_traceAll_61 ?_
  refine g_X2_34 (j := j2_traceAll) (pc := 62) rfl dX2_traceAll_62 ?_
  refine sn_iconst (j := j2_traceAll) (pc := 65) 1 rfl dX2_traceAll_65 ?_
  refine sn_iload_n (j := j2_traceAll) (pc := 66) rfl rfl dX2_traceAll_66 ?_
  refine sn_ishl (j := j2_traceAll) (pc := 67) dX2_traceAll_67 ?_
  refine sn_iload_n (j := j2_traceAll) (pc := 68) rfl rfl dX2_traceAll_68 ?_
  refine sn_iast (j := j2_traceAll) (pc := 69) rfl ⟨by decide, by decide⟩ dX2_traceAll_69 (fun M => ?_)
  refine sn_iload_n (j := j2_traceAll) (pc := 70) rfl rfl dX2_traceAll_70 ?_
  refine sn_aload_n (j := j2_traceAll) (pc := 71) rfl rfl dX2_traceAll_71 ?_
  refine g_X2_25 (j := j2_traceAll) (pc := 72) rfl dX2_traceAll_72 ?_
  refine sn_iload_n (j := j2_traceAll) (pc := 75) rfl rfl dX2_traceAll_75 ?_
  refine sn_iald (j := j2_traceAll) (pc := 76) rfl ⟨by decide, by decide⟩ dX2_traceAll_76 (fun w_4 => ?_)
  refine sn_iconst (j := j2_traceAll) (pc := 77) 1 rfl dX2_traceAll_77 ?_
  refine sn_iadd (j := j2_traceAll) (pc := 78) dX2_traceAll_78 ?_
  refine sn_imul (j := j2_traceAll) (pc := 79) dX2_traceAll_79 ?_
  refine sn_istoreB_n (j := j2_traceAll) (pc := 80) rfl (fun x1_5 => [some (.ref 26), some (.int x1_5), some (.int x2), none]) (by decide) (fun _ => rfl) dX2_traceAll_80 (fun x1_5 => ?_)
  refine sn_iinc (j := j2_traceAll) (pc := 81) 1 rfl (by decide) rfl (lo' := [some (.ref 26), some (.int x1_5), some (.int (x2 + 1)), none]) rfl dX2_traceAll_81 ?_
  refine sn_goto (j := j2_traceAll) (pc := 84) 4 rfl dX2_traceAll_84 ?_
  exact Snd.wk (hrec4 x1_5 (x2 + 1) M ) (by simp [mm_le])
def b2_traceAll_4  (rec4 : Int32 → Int32 → mm_M → Option (mm_M)) (x1 : Int32) (x2 : Int32) (M : mm_M) : Option (mm_M) :=
  if 4 ≤ x2 then (l2_traceAll_89 FU 1 M) else (uI 29 4 x2 0 M (fun M => uI 30 4 x2 0 M (fun M => uI 32 36 (x2 * 9) 0 M (fun M => bN (mDep M) (fun d_6 => if isD d_6 = true then (bI (mI M d_6 2) (fun v_7 => if v_7 ≤ x2 then (l2_traceAll_61 rec4 x1 x2 M) else (bI (mI M 26 2) (fun v_8 => if ((v_8 >>> (x2 &&& 31)) &&& 1) = 1 then (cV (f2_trace x2 M) (fun M => l2_traceAll_61 rec4 x1 x2 M)) else (l2_traceAll_61 rec4 x1 x2 M))))) else none)))))
set_option maxHeartbeats 2000000 in
theorem sb2_traceAll_4   (rec4 : Int32 → Int32 → mm_M → Option (mm_M)) (hrec4 : ∀ (x1 : Int32) (x2 : Int32) (M : mm_M), Snd injV j2_traceAll mm_X0 4 [some (.ref 26), some (.int x1), some (.int x2), none] [] M (rec4 x1 x2 M)) (x1 : Int32) (x2 : Int32)  (M : mm_M) : Snd injV j2_traceAll mm_X0 4 [some (.ref 26), some (.int x1), some (.int x2), none] [] M (b2_traceAll_4  rec4 x1 x2 M) := by
  unfold b2_traceAll_4
  refine sn_iload_n (j := j2_traceAll) (pc := 4) rfl rfl dX2_traceAll_4 ?_
  refine sn_iconst (j := j2_traceAll) (pc := 5) 4 rfl dX2_traceAll_5 ?_
  refine sn_icmp_ge (j := j2_traceAll) (pc := 6) 87 rfl dX2_traceAll_6 ?_ ?_
  · refine sn_iconst (j := j2_traceAll) (pc := 87) 1 rfl dX2_traceAll_87 ?_
    refine sn_istore_n (j := j2_traceAll) (pc := 88) rfl (by decide) (lo' := [some (.ref 26), some (.int x1), some (.int 1), none]) rfl dX2_traceAll_88 ?_
    exact Snd.wk (sl2_traceAll_89 FU 1 M) (by simp [mm_le])
  · refine sn_aload_n (j := j2_traceAll) (pc := 9) rfl rfl dX2_traceAll_9 ?_
    refine g_X2_22 (j := j2_traceAll) (pc := 10) rfl dX2_traceAll_10 ?_
    refine sn_iload_n (j := j2_traceAll) (pc := 13) rfl rfl dX2_traceAll_13 ?_
    refine sn_iconst (j := j2_traceAll) (pc := 14) 0 rfl dX2_traceAll_14 ?_
    refine sn_iast (j := j2_traceAll) (pc := 15) rfl ⟨by decide, by decide⟩ dX2_traceAll_15 (fun M => ?_)
    refine sn_aload_n (j := j2_traceAll) (pc := 16) rfl rfl dX2_traceAll_16 ?_
    refine g_X2_25 (j := j2_traceAll) (pc := 17) rfl dX2_traceAll_17 ?_
    refine sn_iload_n (j := j2_traceAll) (pc := 20) rfl rfl dX2_traceAll_20 ?_
    refine sn_iconst (j := j2_traceAll) (pc := 21) 0 rfl dX2_traceAll_21 ?_
    refine sn_iast (j := j2_traceAll) (pc := 22) rfl ⟨by decide, by decide⟩ dX2_traceAll_22 (fun M => ?_)
    refine sn_aload_n (j := j2_traceAll) (pc := 23) rfl rfl dX2_traceAll_23 ?_
    refine g_X2_31 (j := j2_traceAll) (pc := 24) rfl dX2_traceAll_24 ?_
    refine sn_iload_n (j := j2_traceAll) (pc := 27) rfl rfl dX2_traceAll_27 ?_
    refine sn_bipush (j := j2_traceAll) (pc := 28) 9 rfl dX2_traceAll_28 ?_
    refine sn_imul (j := j2_traceAll) (pc := 30) dX2_traceAll_30 ?_
    refine sn_iconst (j := j2_traceAll) (pc := 31) 0 rfl dX2_traceAll_31 ?_
    refine sn_iast (j := j2_traceAll) (pc := 32) rfl ⟨by decide, by decide⟩ dX2_traceAll_32 (fun M => ?_)
    refine sn_iload_n (j := j2_traceAll) (pc := 33) rfl rfl dX2_traceAll_33 ?_
    refine sn_aload_n (j := j2_traceAll) (pc := 34) rfl rfl dX2_traceAll_34 ?_
    refine g_X2_68 (j := j2_traceAll) (pc := 35) rfl dX2_traceAll_35 (fun d_6 => ?_)
    refine Snd.ite fun hd_6 => ?_
    refine g_X2_103 (j := j2_traceAll) (pc := 38) hd_6 rfl dX2_traceAll_38 ?_
    refine Snd.bI (fun v_7 => ?_)
    refine sn_icmp_ge (j := j2_traceAll) (pc := 41) 61 rfl dX2_traceAll_41 ?_ ?_
    · exact Snd.wk (sl2_traceAll_61 rec4 hrec4 x1 x2 M) (by simp [mm_le])
    · refine sn_aload_n (j := j2_traceAll) (pc := 44) rfl rfl dX2_traceAll_44 ?_
      refine g_X2_18 (j := j2_traceAll) (pc := 45) rfl dX2_traceAll_45 ?_
      refine Snd.bI (fun v_8 => ?_)
      refine sn_iload_n (j := j2_traceAll) (pc := 48) rfl rfl dX2_traceAll_48 ?_
      refine sn_ishr (j := j2_traceAll) (pc := 49) dX2_traceAll_49 ?_
      refine sn_iconst (j := j2_traceAll) (pc := 50) 1 rfl dX2_traceAll_50 ?_
      refine sn_iand (j := j2_traceAll) (pc := 51) dX2_traceAll_51 ?_
      refine sn_iconst (j := j2_traceAll) (pc := 52) 1 rfl dX2_traceAll_52 ?_
      refine sn_icmp_ne (j := j2_traceAll) (pc := 53) 61 rfl dX2_traceAll_53 ?_ ?_
      · exact Snd.wk (sl2_traceAll_61 rec4 hrec4 x1 x2 M) (by simp [mm_le])
      · refine sn_aload_n (j := j2_traceAll) (pc := 56) rfl rfl dX2_traceAll_56 ?_
        refine sn_iload_n (j := j2_traceAll) (pc := 57) rfl rfl dX2_traceAll_57 ?_
        refine sn_callV (j := j2_traceAll) (pc := 58) (jc := j2_trace) (As := [.int x2]) (s2_trace x2 M) mm_hvV (by simp [Value.category]) (Nat.le_of_ble_eq_true rfl) q2_trace rfl (by decide) rfl rfl ⟨by decide, by decide⟩ w_ml_X2_106 w_im_X2_trace w_se_X2_trace rfl (Nat.le_of_ble_eq_true rfl) dX2_traceAll_58 ?_
        intro M
        show Snd injV j2_traceAll mm_X0 61 [some (.ref 26), some (.int x1), some (.int x2), none] [] M _
        exact Snd.wk (sl2_traceAll_61 rec4 hrec4 x1 x2 M) (by simp [mm_le])
def l2_traceAll_4  : Nat → Int32 → Int32 → mm_M → Option (mm_M)
  | 0 => fun _ _ _ => none
  | n + 1 => fun x1 x2 M => b2_traceAll_4  (l2_traceAll_4  n) x1 x2 M
theorem sl2_traceAll_4   : ∀ (n : Nat) (x1 : Int32) (x2 : Int32)  (M : mm_M), Snd injV j2_traceAll mm_X0 4 [some (.ref 26), some (.int x1), some (.int x2), none] [] M (l2_traceAll_4  n x1 x2 M)
  | 0 => fun _ _  _ => Snd.none
  | n + 1 => fun x1 x2  M => sb2_traceAll_4   (l2_traceAll_4  n) (fun x1 x2 M  => sl2_traceAll_4   n x1 x2  M) x1 x2  M
def f2_traceAll  (M : mm_M) : Option (mm_M) :=
  l2_traceAll_4 FU 1 0 M
set_option maxHeartbeats 2000000 in
theorem s2_traceAll  (M : mm_M) : Snd injV j2_traceAll mm_X0 0 [some (.ref 26)] [] M (f2_traceAll  M) := by
  refine Snd.wk (lo' := [some (.ref 26), none, none, none]) ?_ (by simp [mm_le])
  unfold f2_traceAll
  refine sn_iconst (j := j2_traceAll) (pc := 0) 1 rfl dX2_traceAll_0 ?_
  refine sn_istore_n (j := j2_traceAll) (pc := 1) rfl (by decide) (lo' := [some (.ref 26), some (.int 1), none, none]) rfl dX2_traceAll_1 ?_
  refine sn_iconst (j := j2_traceAll) (pc := 2) 0 rfl dX2_traceAll_2 ?_
  refine sn_istore_n (j := j2_traceAll) (pc := 3) rfl (by decide) (lo' := [some (.ref 26), some (.int 1), some (.int 0), none]) rfl dX2_traceAll_3 ?_
  exact Snd.wk (sl2_traceAll_4 FU 1 0 M) (by simp [mm_le])

abbrev j2_mayBeReady : mm_J := (yX2_mayBeReady, cX2_mayBeReady, 5, (some .boolean), 0)
theorem dX2_mayBeReady_0 : decode cX2_mayBeReady 0 = .ok (.iconst 0, 1) := by decide +kernel
theorem dX2_mayBeReady_1 : decode cX2_mayBeReady 1 = .ok (.istore_n 1, 1) := by decide +kernel
theorem dX2_mayBeReady_2 : decode cX2_mayBeReady 2 = .ok (.iconst 0, 1) := by decide +kernel
theorem dX2_mayBeReady_3 : decode cX2_mayBeReady 3 = .ok (.istore_n 2, 1) := by decide +kernel
theorem dX2_mayBeReady_4 : decode cX2_mayBeReady 4 = .ok (.iconst 0, 1) := by decide +kernel
theorem dX2_mayBeReady_5 : decode cX2_mayBeReady 5 = .ok (.istore_n 3, 1) := by decide +kernel
theorem dX2_mayBeReady_6 : decode cX2_mayBeReady 6 = .ok (.iload_n 3, 1) := by decide +kernel
theorem dX2_mayBeReady_7 : decode cX2_mayBeReady 7 = .ok (.iconst 4, 1) := by decide +kernel
theorem dX2_mayBeReady_8 : decode cX2_mayBeReady 8 = .ok (.if_icmp .ge 74, 3) := by decide +kernel
theorem dX2_mayBeReady_11 : decode cX2_mayBeReady 11 = .ok (.aload_n 0, 1) := by decide +kernel
theorem dX2_mayBeReady_12 : decode cX2_mayBeReady 12 = .ok (.getfield 31, 3) := by decide +kernel
theorem dX2_mayBeReady_15 : decode cX2_mayBeReady 15 = .ok (.iload_n 3, 1) := by decide +kernel
theorem dX2_mayBeReady_16 : decode cX2_mayBeReady 16 = .ok (.bipush 9, 2) := by decide +kernel
theorem dX2_mayBeReady_18 : decode cX2_mayBeReady 18 = .ok (.imul, 1) := by decide +kernel
theorem dX2_mayBeReady_19 : decode cX2_mayBeReady 19 = .ok (.aload_n 0, 1) := by decide +kernel
theorem dX2_mayBeReady_20 : decode cX2_mayBeReady 20 = .ok (.getfield 25, 3) := by decide +kernel
theorem dX2_mayBeReady_23 : decode cX2_mayBeReady 23 = .ok (.iload_n 3, 1) := by decide +kernel
theorem dX2_mayBeReady_24 : decode cX2_mayBeReady 24 = .ok (.iaload, 1) := by decide +kernel
theorem dX2_mayBeReady_25 : decode cX2_mayBeReady 25 = .ok (.iadd, 1) := by decide +kernel
theorem dX2_mayBeReady_26 : decode cX2_mayBeReady 26 = .ok (.iaload, 1) := by decide +kernel
theorem dX2_mayBeReady_27 : decode cX2_mayBeReady 27 = .ok (.ifCond .le 5, 3) := by decide +kernel
theorem dX2_mayBeReady_30 : decode cX2_mayBeReady 30 = .ok (.iconst 0, 1) := by decide +kernel
theorem dX2_mayBeReady_31 : decode cX2_mayBeReady 31 = .ok (.ireturn, 1) := by decide +kernel
theorem dX2_mayBeReady_32 : decode cX2_mayBeReady 32 = .ok (.iload_n 1, 1) := by decide +kernel
theorem dX2_mayBeReady_33 : decode cX2_mayBeReady 33 = .ok (.aload_n 0, 1) := by decide +kernel
theorem dX2_mayBeReady_34 : decode cX2_mayBeReady 34 = .ok (.getfield 25, 3) := by decide +kernel
theorem dX2_mayBeReady_37 : decode cX2_mayBeReady 37 = .ok (.iload_n 3, 1) := by decide +kernel
theorem dX2_mayBeReady_38 : decode cX2_mayBeReady 38 = .ok (.iaload, 1) := by decide +kernel
theorem dX2_mayBeReady_39 : decode cX2_mayBeReady 39 = .ok (.iadd, 1) := by decide +kernel
theorem dX2_mayBeReady_40 : decode cX2_mayBeReady 40 = .ok (.istore_n 1, 1) := by decide +kernel
theorem dX2_mayBeReady_41 : decode cX2_mayBeReady 41 = .ok (.iconst 0, 1) := by decide +kernel
theorem dX2_mayBeReady_42 : decode cX2_mayBeReady 42 = .ok (.istore 4, 2) := by decide +kernel
theorem dX2_mayBeReady_44 : decode cX2_mayBeReady 44 = .ok (.iload 4, 2) := by decide +kernel
theorem dX2_mayBeReady_46 : decode cX2_mayBeReady 46 = .ok (.aload_n 0, 1) := by decide +kernel
theorem dX2_mayBeReady_47 : decode cX2_mayBeReady 47 = .ok (.getfield 25, 3) := by decide +kernel
theorem dX2_mayBeReady_50 : decode cX2_mayBeReady 50 = .ok (.iload_n 3, 1) := by decide +kernel
theorem dX2_mayBeReady_51 : decode cX2_mayBeReady 51 = .ok (.iaload, 1) := by decide +kernel
theorem dX2_mayBeReady_52 : decode cX2_mayBeReady 52 = .ok (.if_icmp .ge 24, 3) := by decide +kernel
theorem dX2_mayBeReady_55 : decode cX2_mayBeReady 55 = .ok (.iload_n 2, 1) := by decide +kernel
theorem dX2_mayBeReady_56 : decode cX2_mayBeReady 56 = .ok (.aload_n 0, 1) := by decide +kernel
theorem dX2_mayBeReady_57 : decode cX2_mayBeReady 57 = .ok (.getfield 28, 3) := by decide +kernel
theorem dX2_mayBeReady_60 : decode cX2_mayBeReady 60 = .ok (.iload_n 3, 1) := by decide +kernel
theorem dX2_mayBeReady_61 : decode cX2_mayBeReady 61 = .ok (.bipush 9, 2) := by decide +kernel
theorem dX2_mayBeReady_63 : decode cX2_mayBeReady 63 = .ok (.imul, 1) := by decide +kernel
theorem dX2_mayBeReady_64 : decode cX2_mayBeReady 64 = .ok (.iload 4, 2) := by decide +kernel
theorem dX2_mayBeReady_66 : decode cX2_mayBeReady 66 = .ok (.iadd, 1) := by decide +kernel
theorem dX2_mayBeReady_67 : decode cX2_mayBeReady 67 = .ok (.iaload, 1) := by decide +kernel
theorem dX2_mayBeReady_68 : decode cX2_mayBeReady 68 = .ok (.iadd, 1) := by decide +kernel
theorem dX2_mayBeReady_69 : decode cX2_mayBeReady 69 = .ok (.istore_n 2, 1) := by decide +kernel
theorem dX2_mayBeReady_70 : decode cX2_mayBeReady 70 = .ok (.iinc 4 1, 3) := by decide +kernel
theorem dX2_mayBeReady_73 : decode cX2_mayBeReady 73 = .ok (.goto (-29), 3) := by decide +kernel
theorem dX2_mayBeReady_76 : decode cX2_mayBeReady 76 = .ok (.iinc 3 1, 3) := by decide +kernel
theorem dX2_mayBeReady_79 : decode cX2_mayBeReady 79 = .ok (.goto (-73), 3) := by decide +kernel
theorem dX2_mayBeReady_82 : decode cX2_mayBeReady 82 = .ok (.iload_n 1, 1) := by decide +kernel
theorem dX2_mayBeReady_83 : decode cX2_mayBeReady 83 = .ok (.aload_n 0, 1) := by decide +kernel
theorem dX2_mayBeReady_84 : decode cX2_mayBeReady 84 = .ok (.getfield 11, 3) := by decide +kernel
theorem dX2_mayBeReady_87 : decode cX2_mayBeReady 87 = .ok (.iconst 0, 1) := by decide +kernel
theorem dX2_mayBeReady_88 : decode cX2_mayBeReady 88 = .ok (.iaload, 1) := by decide +kernel
theorem dX2_mayBeReady_89 : decode cX2_mayBeReady 89 = .ok (.aload_n 0, 1) := by decide +kernel
theorem dX2_mayBeReady_90 : decode cX2_mayBeReady 90 = .ok (.getfield 68, 3) := by decide +kernel
theorem dX2_mayBeReady_93 : decode cX2_mayBeReady 93 = .ok (.getfield 100, 3) := by decide +kernel
theorem dX2_mayBeReady_96 : decode cX2_mayBeReady 96 = .ok (.imul, 1) := by decide +kernel
theorem dX2_mayBeReady_97 : decode cX2_mayBeReady 97 = .ok (.if_icmp .gt 25, 3) := by decide +kernel
theorem dX2_mayBeReady_100 : decode cX2_mayBeReady 100 = .ok (.iload_n 2, 1) := by decide +kernel
theorem dX2_mayBeReady_101 : decode cX2_mayBeReady 101 = .ok (.aload_n 0, 1) := by decide +kernel
theorem dX2_mayBeReady_102 : decode cX2_mayBeReady 102 = .ok (.getfield 11, 3) := by decide +kernel
theorem dX2_mayBeReady_105 : decode cX2_mayBeReady 105 = .ok (.iconst 2, 1) := by decide +kernel
theorem dX2_mayBeReady_106 : decode cX2_mayBeReady 106 = .ok (.iaload, 1) := by decide +kernel
theorem dX2_mayBeReady_107 : decode cX2_mayBeReady 107 = .ok (.aload_n 0, 1) := by decide +kernel
theorem dX2_mayBeReady_108 : decode cX2_mayBeReady 108 = .ok (.getfield 68, 3) := by decide +kernel
theorem dX2_mayBeReady_111 : decode cX2_mayBeReady 111 = .ok (.getfield 100, 3) := by decide +kernel
theorem dX2_mayBeReady_114 : decode cX2_mayBeReady 114 = .ok (.imul, 1) := by decide +kernel
theorem dX2_mayBeReady_115 : decode cX2_mayBeReady 115 = .ok (.if_icmp .gt 7, 3) := by decide +kernel
theorem dX2_mayBeReady_118 : decode cX2_mayBeReady 118 = .ok (.iconst 1, 1) := by decide +kernel
theorem dX2_mayBeReady_119 : decode cX2_mayBeReady 119 = .ok (.goto 4, 3) := by decide +kernel
theorem dX2_mayBeReady_122 : decode cX2_mayBeReady 122 = .ok (.iconst 0, 1) := by decide +kernel
theorem dX2_mayBeReady_123 : decode cX2_mayBeReady 123 = .ok (.ireturn, 1) := by decide +kernel
def l2_mayBeReady_123  (s0 : Int32) (M : mm_M) : Option (Int32 × mm_M) :=
  rZ s0 M
set_option maxHeartbeats 2000000 in
theorem sl2_mayBeReady_123   (s0 : Int32)  (M : mm_M) : Snd injI j2_mayBeReady mm_X0 123 [none, none, none, none, none] [.int s0] M (l2_mayBeReady_123  s0 M) := by
  unfold l2_mayBeReady_123
  exact sn_zret (j := j2_mayBeReady) (pc := 123) rfl dX2_mayBeReady_123
def l2_mayBeReady_122   (M : mm_M) : Option (Int32 × mm_M) :=
  l2_mayBeReady_123 0 M
set_option maxHeartbeats 2000000 in
theorem sl2_mayBeReady_122     (M : mm_M) : Snd injI j2_mayBeReady mm_X0 122 [none, none, none, none, none] [] M (l2_mayBeReady_122   M) := by
  unfold l2_mayBeReady_122
  refine sn_iconst (j := j2_mayBeReady) (pc := 122) 0 rfl dX2_mayBeReady_122 ?_
  exact Snd.wk (sl2_mayBeReady_123 0 M) (by simp [mm_le])
def b2_mayBeReady_44 (rec6 : Int32 → Int32 → Int32 → mm_M → Option (Int32 × mm_M)) (rec44 : Int32 → Int32 → Int32 → Int32 → mm_M → Option (Int32 × mm_M)) (x1 : Int32) (x2 : Int32) (x3 : Int32) (x4 : Int32) (M : mm_M) : Option (Int32 × mm_M) :=
  aI 30 4 x3 M (fun w_1 => if w_1 ≤ x4 then (rec6 x1 x2 (x3 + 1) M) else (aI 31 36 ((x3 * 9) + x4) M (fun w_2 => bI (x2 + w_2) (fun x2_3 => rec44 x1 x2_3 x3 (x4 + 1) M))))
set_option maxHeartbeats 2000000 in
theorem sb2_mayBeReady_44 (rec6 : Int32 → Int32 → Int32 → mm_M → Option (Int32 × mm_M)) (hrec6 : ∀ (x1 : Int32) (x2 : Int32) (x3 : Int32) (M : mm_M), Snd injI j2_mayBeReady mm_X0 6 [some (.ref 26), some (.int x1), some (.int x2), some (.int x3), none] [] M (rec6 x1 x2 x3 M)) (rec44 : Int32 → Int32 → Int32 → Int32 → mm_M → Option (Int32 × mm_M)) (hrec44 : ∀ (x1 : Int32) (x2 : Int32) (x3 : Int32) (x4 : Int32) (M : mm_M), Snd injI j2_mayBeReady mm_X0 44 [some (.ref 26), some (.int x1), some (.int x2), some (.int x3), some (.int x4)] [] M (rec44 x1 x2 x3 x4 M)) (x1 : Int32) (x2 : Int32) (x3 : Int32) (x4 : Int32)  (M : mm_M) : Snd injI j2_mayBeReady mm_X0 44 [some (.ref 26), some (.int x1), some (.int x2), some (.int x3), some (.int x4)] [] M (b2_mayBeReady_44 rec6 rec44 x1 x2 x3 x4 M) := by
  unfold b2_mayBeReady_44
  refine sn_iload (j := j2_mayBeReady) (pc := 44) rfl dX2_mayBeReady_44 ?_
  refine sn_aload_n (j := j2_mayBeReady) (pc := 46) rfl rfl dX2_mayBeReady_46 ?_
  refine g_X2_25 (j := j2_mayBeReady) (pc := 47) rfl dX2_mayBeReady_47 ?_
  refine sn_iload_n (j := j2_mayBeReady) (pc := 50) rfl rfl dX2_mayBeReady_50 ?_
  refine sn_iald (j := j2_mayBeReady) (pc := 51) rfl ⟨by decide, by decide⟩ dX2_mayBeReady_51 (fun w_1 => ?_)
  refine sn_icmp_ge (j := j2_mayBeReady) (pc := 52) 76 rfl dX2_mayBeReady_52 ?_ ?_
  · refine sn_iinc (j := j2_mayBeReady) (pc := 76) 1 rfl (by decide) rfl (lo' := [some (.ref 26), some (.int x1), some (.int x2), some (.int (x3 + 1)), some (.int x4)]) rfl dX2_mayBeReady_76 ?_
    refine sn_goto (j := j2_mayBeReady) (pc := 79) 6 rfl dX2_mayBeReady_79 ?_
    exact Snd.wk (hrec6 x1 x2 (x3 + 1) M ) (by simp [mm_le])
  · refine sn_iload_n (j := j2_mayBeReady) (pc := 55) rfl rfl dX2_mayBeReady_55 ?_
    refine sn_aload_n (j := j2_mayBeReady) (pc := 56) rfl rfl dX2_mayBeReady_56 ?_
    refine g_X2_28 (j := j2_mayBeReady) (pc := 57) rfl dX2_mayBeReady_57 ?_
    refine sn_iload_n (j := j2_mayBeReady) (pc := 60) rfl rfl dX2_mayBeReady_60 ?_
    refine sn_bipush (j := j2_mayBeReady) (pc := 61) 9 rfl dX2_mayBeReady_61 ?_
    refine sn_imul (j := j2_mayBeReady) (pc := 63) dX2_mayBeReady_63 ?_
    refine sn_iload (j := j2_mayBeReady) (pc := 64) rfl dX2_mayBeReady_64 ?_
    refine sn_iadd (j := j2_mayBeReady) (pc := 66) dX2_mayBeReady_66 ?_
    refine sn_iald (j := j2_mayBeReady) (pc := 67) rfl ⟨by decide, by decide⟩ dX2_mayBeReady_67 (fun w_2 => ?_)
    refine sn_iadd (j := j2_mayBeReady) (pc := 68) dX2_mayBeReady_68 ?_
    refine sn_istoreB_n (j := j2_mayBeReady) (pc := 69) rfl (fun x2_3 => [some (.ref 26), some (.int x1), some (.int x2_3), some (.int x3), some (.int x4)]) (by decide) (fun _ => rfl) dX2_mayBeReady_69 (fun x2_3 => ?_)
    refine sn_iinc (j := j2_mayBeReady) (pc := 70) 1 rfl (by decide) rfl (lo' := [some (.ref 26), some (.int x1), some (.int x2_3), some (.int x3), some (.int (x4 + 1))]) rfl dX2_mayBeReady_70 ?_
    refine sn_goto (j := j2_mayBeReady) (pc := 73) 44 rfl dX2_mayBeReady_73 ?_
    exact Snd.wk (hrec44 x1 x2_3 x3 (x4 + 1) M ) (by simp [mm_le])
def l2_mayBeReady_44 (rec6 : Int32 → Int32 → Int32 → mm_M → Option (Int32 × mm_M)) : Nat → Int32 → Int32 → Int32 → Int32 → mm_M → Option (Int32 × mm_M)
  | 0 => fun _ _ _ _ _ => none
  | n + 1 => fun x1 x2 x3 x4 M => b2_mayBeReady_44 rec6 (l2_mayBeReady_44 rec6 n) x1 x2 x3 x4 M
theorem sl2_mayBeReady_44 (rec6 : Int32 → Int32 → Int32 → mm_M → Option (Int32 × mm_M)) (hrec6 : ∀ (x1 : Int32) (x2 : Int32) (x3 : Int32) (M : mm_M), Snd injI j2_mayBeReady mm_X0 6 [some (.ref 26), some (.int x1), some (.int x2), some (.int x3), none] [] M (rec6 x1 x2 x3 M)) : ∀ (n : Nat) (x1 : Int32) (x2 : Int32) (x3 : Int32) (x4 : Int32)  (M : mm_M), Snd injI j2_mayBeReady mm_X0 44 [some (.ref 26), some (.int x1), some (.int x2), some (.int x3), some (.int x4)] [] M (l2_mayBeReady_44 rec6 n x1 x2 x3 x4 M)
  | 0 => fun _ _ _ _  _ => Snd.none
  | n + 1 => fun x1 x2 x3 x4  M => sb2_mayBeReady_44 rec6 hrec6 (l2_mayBeReady_44 rec6 n) (fun x1 x2 x3 x4 M  => sl2_mayBeReady_44 rec6 hrec6 n x1 x2 x3 x4  M) x1 x2 x3 x4  M
def b2_mayBeReady_6  (rec6 : Int32 → Int32 → Int32 → mm_M → Option (Int32 × mm_M)) (x1 : Int32) (x2 : Int32) (x3 : Int32) (M : mm_M) : Option (Int32 × mm_M) :=
  if 4 ≤ x3 then (aI 27 3 0 M (fun w_4 => bN (mDep M) (fun d_5 => if isD d_5 = true then (bI (mI M d_5 0) (fun v_6 => if (w_4 * v_6) < x1 then (l2_mayBeReady_122 M) else (aI 27 3 2 M (fun w_7 => bN (mDep M) (fun d_8 => if isD d_8 = true then (bI (mI M d_8 0) (fun v_9 => if (w_7 * v_9) < x2 then (l2_mayBeReady_122 M) else (l2_mayBeReady_123 1 M))) else none))))) else none))) else (aI 30 4 x3 M (fun w_10 => aI 32 36 ((x3 * 9) + w_10) M (fun w_11 => if w_11 ≤ 0 then (aI 30 4 x3 M (fun w_12 => bI (x1 + w_12) (fun x1_13 => l2_mayBeReady_44 rec6 FU x1_13 x2 x3 0 M))) else (rZ 0 M))))
set_option maxHeartbeats 2000000 in
theorem sb2_mayBeReady_6   (rec6 : Int32 → Int32 → Int32 → mm_M → Option (Int32 × mm_M)) (hrec6 : ∀ (x1 : Int32) (x2 : Int32) (x3 : Int32) (M : mm_M), Snd injI j2_mayBeReady mm_X0 6 [some (.ref 26), some (.int x1), some (.int x2), some (.int x3), none] [] M (rec6 x1 x2 x3 M)) (x1 : Int32) (x2 : Int32) (x3 : Int32)  (M : mm_M) : Snd injI j2_mayBeReady mm_X0 6 [some (.ref 26), some (.int x1), some (.int x2), some (.int x3), none] [] M (b2_mayBeReady_6  rec6 x1 x2 x3 M) := by
  unfold b2_mayBeReady_6
  refine sn_iload_n (j := j2_mayBeReady) (pc := 6) rfl rfl dX2_mayBeReady_6 ?_
  refine sn_iconst (j := j2_mayBeReady) (pc := 7) 4 rfl dX2_mayBeReady_7 ?_
  refine sn_icmp_ge (j := j2_mayBeReady) (pc := 8) 82 rfl dX2_mayBeReady_8 ?_ ?_
  · refine sn_iload_n (j := j2_mayBeReady) (pc := 82) rfl rfl dX2_mayBeReady_82 ?_
    refine sn_aload_n (j := j2_mayBeReady) (pc := 83) rfl rfl dX2_mayBeReady_83 ?_
    refine g_X2_11 (j := j2_mayBeReady) (pc := 84) rfl dX2_mayBeReady_84 ?_
    refine sn_iconst (j := j2_mayBeReady) (pc := 87) 0 rfl dX2_mayBeReady_87 ?_
    refine sn_iald (j := j2_mayBeReady) (pc := 88) rfl ⟨by decide, by decide⟩ dX2_mayBeReady_88 (fun w_4 => ?_)
    refine sn_aload_n (j := j2_mayBeReady) (pc := 89) rfl rfl dX2_mayBeReady_89 ?_
    refine g_X2_68 (j := j2_mayBeReady) (pc := 90) rfl dX2_mayBeReady_90 (fun d_5 => ?_)
    refine Snd.ite fun hd_5 => ?_
    refine g_X2_100 (j := j2_mayBeReady) (pc := 93) hd_5 rfl dX2_mayBeReady_93 ?_
    refine Snd.bI (fun v_6 => ?_)
    refine sn_imul (j := j2_mayBeReady) (pc := 96) dX2_mayBeReady_96 ?_
    refine sn_icmp_gt (j := j2_mayBeReady) (pc := 97) 122 rfl dX2_mayBeReady_97 ?_ ?_
    · exact Snd.wk (sl2_mayBeReady_122 M) (by simp [mm_le])
    · refine sn_iload_n (j := j2_mayBeReady) (pc := 100) rfl rfl dX2_mayBeReady_100 ?_
      refine sn_aload_n (j := j2_mayBeReady) (pc := 101) rfl rfl dX2_mayBeReady_101 ?_
      refine g_X2_11 (j := j2_mayBeReady) (pc := 102) rfl dX2_mayBeReady_102 ?_
      refine sn_iconst (j := j2_mayBeReady) (pc := 105) 2 rfl dX2_mayBeReady_105 ?_
      refine sn_iald (j := j2_mayBeReady) (pc := 106) rfl ⟨by decide, by decide⟩ dX2_mayBeReady_106 (fun w_7 => ?_)
      refine sn_aload_n (j := j2_mayBeReady) (pc := 107) rfl rfl dX2_mayBeReady_107 ?_
      refine g_X2_68 (j := j2_mayBeReady) (pc := 108) rfl dX2_mayBeReady_108 (fun d_8 => ?_)
      refine Snd.ite fun hd_8 => ?_
      refine g_X2_100 (j := j2_mayBeReady) (pc := 111) hd_8 rfl dX2_mayBeReady_111 ?_
      refine Snd.bI (fun v_9 => ?_)
      refine sn_imul (j := j2_mayBeReady) (pc := 114) dX2_mayBeReady_114 ?_
      refine sn_icmp_gt (j := j2_mayBeReady) (pc := 115) 122 rfl dX2_mayBeReady_115 ?_ ?_
      · exact Snd.wk (sl2_mayBeReady_122 M) (by simp [mm_le])
      · refine sn_iconst (j := j2_mayBeReady) (pc := 118) 1 rfl dX2_mayBeReady_118 ?_
        refine sn_goto (j := j2_mayBeReady) (pc := 119) 123 rfl dX2_mayBeReady_119 ?_
        exact Snd.wk (sl2_mayBeReady_123 1 M) (by simp [mm_le])
  · refine sn_aload_n (j := j2_mayBeReady) (pc := 11) rfl rfl dX2_mayBeReady_11 ?_
    refine g_X2_31 (j := j2_mayBeReady) (pc := 12) rfl dX2_mayBeReady_12 ?_
    refine sn_iload_n (j := j2_mayBeReady) (pc := 15) rfl rfl dX2_mayBeReady_15 ?_
    refine sn_bipush (j := j2_mayBeReady) (pc := 16) 9 rfl dX2_mayBeReady_16 ?_
    refine sn_imul (j := j2_mayBeReady) (pc := 18) dX2_mayBeReady_18 ?_
    refine sn_aload_n (j := j2_mayBeReady) (pc := 19) rfl rfl dX2_mayBeReady_19 ?_
    refine g_X2_25 (j := j2_mayBeReady) (pc := 20) rfl dX2_mayBeReady_20 ?_
    refine sn_iload_n (j := j2_mayBeReady) (pc := 23) rfl rfl dX2_mayBeReady_23 ?_
    refine sn_iald (j := j2_mayBeReady) (pc := 24) rfl ⟨by decide, by decide⟩ dX2_mayBeReady_24 (fun w_10 => ?_)
    refine sn_iadd (j := j2_mayBeReady) (pc := 25) dX2_mayBeReady_25 ?_
    refine sn_iald (j := j2_mayBeReady) (pc := 26) rfl ⟨by decide, by decide⟩ dX2_mayBeReady_26 (fun w_11 => ?_)
    refine sn_if_le (j := j2_mayBeReady) (pc := 27) 32 rfl dX2_mayBeReady_27 ?_ ?_
    · refine sn_iload_n (j := j2_mayBeReady) (pc := 32) rfl rfl dX2_mayBeReady_32 ?_
      refine sn_aload_n (j := j2_mayBeReady) (pc := 33) rfl rfl dX2_mayBeReady_33 ?_
      refine g_X2_25 (j := j2_mayBeReady) (pc := 34) rfl dX2_mayBeReady_34 ?_
      refine sn_iload_n (j := j2_mayBeReady) (pc := 37) rfl rfl dX2_mayBeReady_37 ?_
      refine sn_iald (j := j2_mayBeReady) (pc := 38) rfl ⟨by decide, by decide⟩ dX2_mayBeReady_38 (fun w_12 => ?_)
      refine sn_iadd (j := j2_mayBeReady) (pc := 39) dX2_mayBeReady_39 ?_
      refine sn_istoreB_n (j := j2_mayBeReady) (pc := 40) rfl (fun x1_13 => [some (.ref 26), some (.int x1_13), some (.int x2), some (.int x3), none]) (by decide) (fun _ => rfl) dX2_mayBeReady_40 (fun x1_13 => ?_)
      refine sn_iconst (j := j2_mayBeReady) (pc := 41) 0 rfl dX2_mayBeReady_41 ?_
      refine sn_istore (j := j2_mayBeReady) (pc := 42) (by decide) (lo' := [some (.ref 26), some (.int x1_13), some (.int x2), some (.int x3), some (.int 0)]) rfl dX2_mayBeReady_42 ?_
      exact Snd.wk (sl2_mayBeReady_44 rec6 hrec6 FU x1_13 x2 x3 0 M) (by simp [mm_le])
    · refine sn_iconst (j := j2_mayBeReady) (pc := 30) 0 rfl dX2_mayBeReady_30 ?_
      exact sn_zret (j := j2_mayBeReady) (pc := 31) rfl dX2_mayBeReady_31
def l2_mayBeReady_6  : Nat → Int32 → Int32 → Int32 → mm_M → Option (Int32 × mm_M)
  | 0 => fun _ _ _ _ => none
  | n + 1 => fun x1 x2 x3 M => b2_mayBeReady_6  (l2_mayBeReady_6  n) x1 x2 x3 M
theorem sl2_mayBeReady_6   : ∀ (n : Nat) (x1 : Int32) (x2 : Int32) (x3 : Int32)  (M : mm_M), Snd injI j2_mayBeReady mm_X0 6 [some (.ref 26), some (.int x1), some (.int x2), some (.int x3), none] [] M (l2_mayBeReady_6  n x1 x2 x3 M)
  | 0 => fun _ _ _  _ => Snd.none
  | n + 1 => fun x1 x2 x3  M => sb2_mayBeReady_6   (l2_mayBeReady_6  n) (fun x1 x2 x3 M  => sl2_mayBeReady_6   n x1 x2 x3  M) x1 x2 x3  M
def f2_mayBeReady  (M : mm_M) : Option (Int32 × mm_M) :=
  l2_mayBeReady_6 FU 0 0 0 M
set_option maxHeartbeats 2000000 in
theorem s2_mayBeReady  (M : mm_M) : Snd injI j2_mayBeReady mm_X0 0 [some (.ref 26)] [] M (f2_mayBeReady  M) := by
  refine Snd.wk (lo' := [some (.ref 26), none, none, none, none]) ?_ (by simp [mm_le])
  unfold f2_mayBeReady
  refine sn_iconst (j := j2_mayBeReady) (pc := 0) 0 rfl dX2_mayBeReady_0 ?_
  refine sn_istore_n (j := j2_mayBeReady) (pc := 1) rfl (by decide) (lo' := [some (.ref 26), some (.int 0), none, none, none]) rfl dX2_mayBeReady_1 ?_
  refine sn_iconst (j := j2_mayBeReady) (pc := 2) 0 rfl dX2_mayBeReady_2 ?_
  refine sn_istore_n (j := j2_mayBeReady) (pc := 3) rfl (by decide) (lo' := [some (.ref 26), some (.int 0), some (.int 0), none, none]) rfl dX2_mayBeReady_3 ?_
  refine sn_iconst (j := j2_mayBeReady) (pc := 4) 0 rfl dX2_mayBeReady_4 ?_
  refine sn_istore_n (j := j2_mayBeReady) (pc := 5) rfl (by decide) (lo' := [some (.ref 26), some (.int 0), some (.int 0), some (.int 0), none]) rfl dX2_mayBeReady_5 ?_
  exact Snd.wk (sl2_mayBeReady_6 FU 0 0 0 M) (by simp [mm_le])

abbrev j2_spread : mm_J := (yX2_spread, cX2_spread, 8, (some .int), 1)
theorem dX2_spread_0 : decode cX2_spread 0 = .ok (.iconst 1, 1) := by decide +kernel
theorem dX2_spread_1 : decode cX2_spread 1 = .ok (.istore_n 3, 1) := by decide +kernel
theorem dX2_spread_2 : decode cX2_spread 2 = .ok (.aload_n 0, 1) := by decide +kernel
theorem dX2_spread_3 : decode cX2_spread 3 = .ok (.iconst 0, 1) := by decide +kernel
theorem dX2_spread_4 : decode cX2_spread 4 = .ok (.putfield 56, 3) := by decide +kernel
theorem dX2_spread_7 : decode cX2_spread 7 = .ok (.aload_n 0, 1) := by decide +kernel
theorem dX2_spread_8 : decode cX2_spread 8 = .ok (.iconst 0, 1) := by decide +kernel
theorem dX2_spread_9 : decode cX2_spread 9 = .ok (.putfield 59, 3) := by decide +kernel
theorem dX2_spread_12 : decode cX2_spread 12 = .ok (.aload_n 0, 1) := by decide +kernel
theorem dX2_spread_13 : decode cX2_spread 13 = .ok (.iconst 0, 1) := by decide +kernel
theorem dX2_spread_14 : decode cX2_spread 14 = .ok (.putfield 62, 3) := by decide +kernel
theorem dX2_spread_17 : decode cX2_spread 17 = .ok (.iconst 0, 1) := by decide +kernel
theorem dX2_spread_18 : decode cX2_spread 18 = .ok (.istore 4, 2) := by decide +kernel
theorem dX2_spread_20 : decode cX2_spread 20 = .ok (.iload 4, 2) := by decide +kernel
theorem dX2_spread_22 : decode cX2_spread 22 = .ok (.iconst 4, 1) := by decide +kernel
theorem dX2_spread_23 : decode cX2_spread 23 = .ok (.if_icmp .ge 255, 3) := by decide +kernel
theorem dX2_spread_26 : decode cX2_spread 26 = .ok (.aload_n 0, 1) := by decide +kernel
theorem dX2_spread_27 : decode cX2_spread 27 = .ok (.getfield 22, 3) := by decide +kernel
theorem dX2_spread_30 : decode cX2_spread 30 = .ok (.iload 4, 2) := by decide +kernel
theorem dX2_spread_32 : decode cX2_spread 32 = .ok (.iaload, 1) := by decide +kernel
theorem dX2_spread_33 : decode cX2_spread 33 = .ok (.iconst 0, 1) := by decide +kernel
theorem dX2_spread_34 : decode cX2_spread 34 = .ok (.iload_n 1, 1) := by decide +kernel
theorem dX2_spread_35 : decode cX2_spread 35 = .ok (.aload_n 0, 1) := by decide +kernel
theorem dX2_spread_36 : decode cX2_spread 36 = .ok (.getfield 15, 3) := by decide +kernel
theorem dX2_spread_39 : decode cX2_spread 39 = .ok (.iload 4, 2) := by decide +kernel
theorem dX2_spread_41 : decode cX2_spread 41 = .ok (.iaload, 1) := by decide +kernel
theorem dX2_spread_42 : decode cX2_spread 42 = .ok (.isub, 1) := by decide +kernel
theorem dX2_spread_43 : decode cX2_spread 43 = .ok (.invokestatic 110, 3) := by decide +kernel
theorem dX2_spread_46 : decode cX2_spread 46 = .ok (.invokestatic 135, 3) := by decide +kernel
theorem dX2_spread_49 : decode cX2_spread 49 = .ok (.istore 5, 2) := by decide +kernel
theorem dX2_spread_51 : decode cX2_spread 51 = .ok (.aload_n 0, 1) := by decide +kernel
theorem dX2_spread_52 : decode cX2_spread 52 = .ok (.getfield 22, 3) := by decide +kernel
theorem dX2_spread_55 : decode cX2_spread 55 = .ok (.iload 4, 2) := by decide +kernel
theorem dX2_spread_57 : decode cX2_spread 57 = .ok (.iaload, 1) := by decide +kernel
theorem dX2_spread_58 : decode cX2_spread 58 = .ok (.iload 5, 2) := by decide +kernel
theorem dX2_spread_60 : decode cX2_spread 60 = .ok (.isub, 1) := by decide +kernel
theorem dX2_spread_61 : decode cX2_spread 61 = .ok (.istore 6, 2) := by decide +kernel
theorem dX2_spread_63 : decode cX2_spread 63 = .ok (.aload_n 0, 1) := by decide +kernel
theorem dX2_spread_64 : decode cX2_spread 64 = .ok (.getfield 47, 3) := by decide +kernel
theorem dX2_spread_67 : decode cX2_spread 67 = .ok (.iload 4, 2) := by decide +kernel
theorem dX2_spread_69 : decode cX2_spread 69 = .ok (.iload_n 2, 1) := by decide +kernel
theorem dX2_spread_70 : decode cX2_spread 70 = .ok (.ifCond .eq 20, 3) := by decide +kernel
theorem dX2_spread_73 : decode cX2_spread 73 = .ok (.iconst 0, 1) := by decide +kernel
theorem dX2_spread_74 : decode cX2_spread 74 = .ok (.aload_n 0, 1) := by decide +kernel
theorem dX2_spread_75 : decode cX2_spread 75 = .ok (.getfield 25, 3) := by decide +kernel
theorem dX2_spread_78 : decode cX2_spread 78 = .ok (.iload 4, 2) := by decide +kernel
theorem dX2_spread_80 : decode cX2_spread 80 = .ok (.iaload, 1) := by decide +kernel
theorem dX2_spread_81 : decode cX2_spread 81 = .ok (.iload 6, 2) := by decide +kernel
theorem dX2_spread_83 : decode cX2_spread 83 = .ok (.isub, 1) := by decide +kernel
theorem dX2_spread_84 : decode cX2_spread 84 = .ok (.invokestatic 110, 3) := by decide +kernel
theorem dX2_spread_87 : decode cX2_spread 87 = .ok (.goto 4, 3) := by decide +kernel
theorem dX2_spread_90 : decode cX2_spread 90 = .ok (.iconst 0, 1) := by decide +kernel
theorem dX2_spread_91 : decode cX2_spread 91 = .ok (.iastore, 1) := by decide +kernel
theorem dX2_spread_92 : decode cX2_spread 92 = .ok (.aload_n 0, 1) := by decide +kernel
theorem dX2_spread_93 : decode cX2_spread 93 = .ok (.getfield 50, 3) := by decide +kernel
theorem dX2_spread_96 : decode cX2_spread 96 = .ok (.iload 4, 2) := by decide +kernel
theorem dX2_spread_98 : decode cX2_spread 98 = .ok (.aload_n 0, 1) := by decide +kernel
theorem dX2_spread_99 : decode cX2_spread 99 = .ok (.getfield 25, 3) := by decide +kernel
theorem dX2_spread_102 : decode cX2_spread 102 = .ok (.iload 4, 2) := by decide +kernel
theorem dX2_spread_104 : decode cX2_spread 104 = .ok (.iaload, 1) := by decide +kernel
theorem dX2_spread_105 : decode cX2_spread 105 = .ok (.iload 5, 2) := by decide +kernel
theorem dX2_spread_107 : decode cX2_spread 107 = .ok (.invokestatic 135, 3) := by decide +kernel
theorem dX2_spread_110 : decode cX2_spread 110 = .ok (.iastore, 1) := by decide +kernel
theorem dX2_spread_111 : decode cX2_spread 111 = .ok (.iload_n 1, 1) := by decide +kernel
theorem dX2_spread_112 : decode cX2_spread 112 = .ok (.aload_n 0, 1) := by decide +kernel
theorem dX2_spread_113 : decode cX2_spread 113 = .ok (.getfield 15, 3) := by decide +kernel
theorem dX2_spread_116 : decode cX2_spread 116 = .ok (.iload 4, 2) := by decide +kernel
theorem dX2_spread_118 : decode cX2_spread 118 = .ok (.iaload, 1) := by decide +kernel
theorem dX2_spread_119 : decode cX2_spread 119 = .ok (.if_icmp .lt 12, 3) := by decide +kernel
theorem dX2_spread_122 : decode cX2_spread 122 = .ok (.iload 6, 2) := by decide +kernel
theorem dX2_spread_124 : decode cX2_spread 124 = .ok (.ifCond .le 7, 3) := by decide +kernel
theorem dX2_spread_127 : decode cX2_spread 127 = .ok (.iconst 1, 1) := by decide +kernel
theorem dX2_spread_128 : decode cX2_spread 128 = .ok (.goto 4, 3) := by decide +kernel
theorem dX2_spread_131 : decode cX2_spread 131 = .ok (.iconst 0, 1) := by decide +kernel
theorem dX2_spread_132 : decode cX2_spread 132 = .ok (.istore 7, 2) := by decide +kernel
theorem dX2_spread_134 : decode cX2_spread 134 = .ok (.aload_n 0, 1) := by decide +kernel
theorem dX2_spread_135 : decode cX2_spread 135 = .ok (.dup, 1) := by decide +kernel
theorem dX2_spread_136 : decode cX2_spread 136 = .ok (.getfield 62, 3) := by decide +kernel
theorem dX2_spread_139 : decode cX2_spread 139 = .ok (.iload 7, 2) := by decide +kernel
theorem dX2_spread_141 : decode cX2_spread 141 = .ok (.ifCond .eq 10, 3) := by decide +kernel
theorem dX2_spread_144 : decode cX2_spread 144 = .ok (.iconst 1, 1) := by decide +kernel
theorem dX2_spread_145 : decode cX2_spread 145 = .ok (.iload 4, 2) := by decide +kernel
theorem dX2_spread_147 : decode cX2_spread 147 = .ok (.ishl, 1) := by decide +kernel
theorem dX2_spread_148 : decode cX2_spread 148 = .ok (.goto 4, 3) := by decide +kernel
theorem dX2_spread_151 : decode cX2_spread 151 = .ok (.iconst 0, 1) := by decide +kernel
theorem dX2_spread_152 : decode cX2_spread 152 = .ok (.ior, 1) := by decide +kernel
theorem dX2_spread_153 : decode cX2_spread 153 = .ok (.putfield 62, 3) := by decide +kernel
theorem dX2_spread_156 : decode cX2_spread 156 = .ok (.aload_n 0, 1) := by decide +kernel
theorem dX2_spread_157 : decode cX2_spread 157 = .ok (.getfield 53, 3) := by decide +kernel
theorem dX2_spread_160 : decode cX2_spread 160 = .ok (.iload 4, 2) := by decide +kernel
theorem dX2_spread_162 : decode cX2_spread 162 = .ok (.iload_n 2, 1) := by decide +kernel
theorem dX2_spread_163 : decode cX2_spread 163 = .ok (.ifCond .eq 27, 3) := by decide +kernel
theorem dX2_spread_166 : decode cX2_spread 166 = .ok (.iload 7, 2) := by decide +kernel
theorem dX2_spread_168 : decode cX2_spread 168 = .ok (.ifCond .eq 22, 3) := by decide +kernel
theorem dX2_spread_171 : decode cX2_spread 171 = .ok (.iconst 0, 1) := by decide +kernel
theorem dX2_spread_172 : decode cX2_spread 172 = .ok (.aload_n 0, 1) := by decide +kernel
theorem dX2_spread_173 : decode cX2_spread 173 = .ok (.getfield 25, 3) := by decide +kernel
theorem dX2_spread_176 : decode cX2_spread 176 = .ok (.iload 4, 2) := by decide +kernel
theorem dX2_spread_178 : decode cX2_spread 178 = .ok (.iaload, 1) := by decide +kernel
theorem dX2_spread_179 : decode cX2_spread 179 = .ok (.iload 6, 2) := by decide +kernel
theorem dX2_spread_181 : decode cX2_spread 181 = .ok (.isub, 1) := by decide +kernel
theorem dX2_spread_182 : decode cX2_spread 182 = .ok (.iconst 1, 1) := by decide +kernel
theorem dX2_spread_183 : decode cX2_spread 183 = .ok (.iadd, 1) := by decide +kernel
theorem dX2_spread_184 : decode cX2_spread 184 = .ok (.invokestatic 110, 3) := by decide +kernel
theorem dX2_spread_187 : decode cX2_spread 187 = .ok (.goto 4, 3) := by decide +kernel
theorem dX2_spread_190 : decode cX2_spread 190 = .ok (.iconst 0, 1) := by decide +kernel
theorem dX2_spread_191 : decode cX2_spread 191 = .ok (.iastore, 1) := by decide +kernel
theorem dX2_spread_192 : decode cX2_spread 192 = .ok (.aload_n 0, 1) := by decide +kernel
theorem dX2_spread_193 : decode cX2_spread 193 = .ok (.getfield 44, 3) := by decide +kernel
theorem dX2_spread_196 : decode cX2_spread 196 = .ok (.iload 4, 2) := by decide +kernel
theorem dX2_spread_198 : decode cX2_spread 198 = .ok (.aload_n 0, 1) := by decide +kernel
theorem dX2_spread_199 : decode cX2_spread 199 = .ok (.getfield 47, 3) := by decide +kernel
theorem dX2_spread_202 : decode cX2_spread 202 = .ok (.iload 4, 2) := by decide +kernel
theorem dX2_spread_204 : decode cX2_spread 204 = .ok (.iaload, 1) := by decide +kernel
theorem dX2_spread_205 : decode cX2_spread 205 = .ok (.iastore, 1) := by decide +kernel
theorem dX2_spread_206 : decode cX2_spread 206 = .ok (.aload_n 0, 1) := by decide +kernel
theorem dX2_spread_207 : decode cX2_spread 207 = .ok (.dup, 1) := by decide +kernel
theorem dX2_spread_208 : decode cX2_spread 208 = .ok (.getfield 59, 3) := by decide +kernel
theorem dX2_spread_211 : decode cX2_spread 211 = .ok (.aload_n 0, 1) := by decide +kernel
theorem dX2_spread_212 : decode cX2_spread 212 = .ok (.getfield 44, 3) := by decide +kernel
theorem dX2_spread_215 : decode cX2_spread 215 = .ok (.iload 4, 2) := by decide +kernel
theorem dX2_spread_217 : decode cX2_spread 217 = .ok (.iaload, 1) := by decide +kernel
theorem dX2_spread_218 : decode cX2_spread 218 = .ok (.iadd, 1) := by decide +kernel
theorem dX2_spread_219 : decode cX2_spread 219 = .ok (.putfield 59, 3) := by decide +kernel
theorem dX2_spread_222 : decode cX2_spread 222 = .ok (.aload_n 0, 1) := by decide +kernel
theorem dX2_spread_223 : decode cX2_spread 223 = .ok (.dup, 1) := by decide +kernel
theorem dX2_spread_224 : decode cX2_spread 224 = .ok (.getfield 56, 3) := by decide +kernel
theorem dX2_spread_227 : decode cX2_spread 227 = .ok (.aload_n 0, 1) := by decide +kernel
theorem dX2_spread_228 : decode cX2_spread 228 = .ok (.getfield 44, 3) := by decide +kernel
theorem dX2_spread_231 : decode cX2_spread 231 = .ok (.iload 4, 2) := by decide +kernel
theorem dX2_spread_233 : decode cX2_spread 233 = .ok (.iaload, 1) := by decide +kernel
theorem dX2_spread_234 : decode cX2_spread 234 = .ok (.aload_n 0, 1) := by decide +kernel
theorem dX2_spread_235 : decode cX2_spread 235 = .ok (.getfield 34, 3) := by decide +kernel
theorem dX2_spread_238 : decode cX2_spread 238 = .ok (.iconst 1, 1) := by decide +kernel
theorem dX2_spread_239 : decode cX2_spread 239 = .ok (.iload 4, 2) := by decide +kernel
theorem dX2_spread_241 : decode cX2_spread 241 = .ok (.ishl, 1) := by decide +kernel
theorem dX2_spread_242 : decode cX2_spread 242 = .ok (.iaload, 1) := by decide +kernel
theorem dX2_spread_243 : decode cX2_spread 243 = .ok (.imul, 1) := by decide +kernel
theorem dX2_spread_244 : decode cX2_spread 244 = .ok (.iadd, 1) := by decide +kernel
theorem dX2_spread_245 : decode cX2_spread 245 = .ok (.putfield 56, 3) := by decide +kernel
theorem dX2_spread_248 : decode cX2_spread 248 = .ok (.iload_n 3, 1) := by decide +kernel
theorem dX2_spread_249 : decode cX2_spread 249 = .ok (.iconst 0, 1) := by decide +kernel
theorem dX2_spread_250 : decode cX2_spread 250 = .ok (.aload_n 0, 1) := by decide +kernel
theorem dX2_spread_251 : decode cX2_spread 251 = .ok (.getfield 50, 3) := by decide +kernel
theorem dX2_spread_254 : decode cX2_spread 254 = .ok (.iload 4, 2) := by decide +kernel
theorem dX2_spread_256 : decode cX2_spread 256 = .ok (.iaload, 1) := by decide +kernel
theorem dX2_spread_257 : decode cX2_spread 257 = .ok (.aload_n 0, 1) := by decide +kernel
theorem dX2_spread_258 : decode cX2_spread 258 = .ok (.getfield 47, 3) := by decide +kernel
theorem dX2_spread_261 : decode cX2_spread 261 = .ok (.iload 4, 2) := by decide +kernel
theorem dX2_spread_263 : decode cX2_spread 263 = .ok (.iaload, 1) := by decide +kernel
theorem dX2_spread_264 : decode cX2_spread 264 = .ok (.isub, 1) := by decide +kernel
theorem dX2_spread_265 : decode cX2_spread 265 = .ok (.iconst 1, 1) := by decide +kernel
theorem dX2_spread_266 : decode cX2_spread 266 = .ok (.iadd, 1) := by decide +kernel
theorem dX2_spread_267 : decode cX2_spread 267 = .ok (.invokestatic 110, 3) := by decide +kernel
theorem dX2_spread_270 : decode cX2_spread 270 = .ok (.imul, 1) := by decide +kernel
theorem dX2_spread_271 : decode cX2_spread 271 = .ok (.istore_n 3, 1) := by decide +kernel
theorem dX2_spread_272 : decode cX2_spread 272 = .ok (.iinc 4 1, 3) := by decide +kernel
theorem dX2_spread_275 : decode cX2_spread 275 = .ok (.goto (-255), 3) := by decide +kernel
theorem dX2_spread_278 : decode cX2_spread 278 = .ok (.iload_n 3, 1) := by decide +kernel
theorem dX2_spread_279 : decode cX2_spread 279 = .ok (.ireturn, 1) := by decide +kernel
def l2_spread_191 (rec20 : Int32 → Int32 → Int32 → Int32 → mm_M → Option (Int32 × mm_M)) (x1 : Int32) (x2 : Int32) (x3 : Int32) (x4 : Int32) (s0 : Int32) (s1 : Int32) (M : mm_M) : Option (Int32 × mm_M) :=
  uI 39 4 s1 s0 M (fun M => aI 37 4 x4 M (fun w_1 => uI 36 4 x4 w_1 M (fun M => bI (mI M 26 16) (fun v_2 => aI 36 4 x4 M (fun w_3 => bM (sI M 26 16 (v_2 + w_3)) (fun M => bI (mI M 26 15) (fun v_4 => aI 36 4 x4 M (fun w_5 => aI 33 16 (1 <<< (x4 &&& 31)) M (fun w_6 => bM (sI M 26 15 (v_4 + (w_5 * w_6))) (fun M => aI 38 4 x4 M (fun w_7 => aI 37 4 x4 M (fun w_8 => bI (mx 0 ((w_7 - w_8) + 1)) (fun v_9 => bI (x3 * v_9) (fun x3_10 => rec20 x1 x2 x3_10 (x4 + 1) M))))))))))))))
set_option maxHeartbeats 2000000 in
theorem sl2_spread_191 (rec20 : Int32 → Int32 → Int32 → Int32 → mm_M → Option (Int32 × mm_M)) (hrec20 : ∀ (x1 : Int32) (x2 : Int32) (x3 : Int32) (x4 : Int32) (M : mm_M), Snd injI j2_spread mm_X0 20 [some (.ref 26), some (.int x1), some (.int x2), some (.int x3), some (.int x4), none, none, none] [] M (rec20 x1 x2 x3 x4 M)) (x1 : Int32) (x2 : Int32) (x3 : Int32) (x4 : Int32) (s0 : Int32) (s1 : Int32)  (M : mm_M) : Snd injI j2_spread mm_X0 191 [some (.ref 26), some (.int x1), some (.int x2), some (.int x3), some (.int x4), none, none, none] [.int s0, .int s1, .ref 39] M (l2_spread_191 rec20 x1 x2 x3 x4 s0 s1 M) := by
  unfold l2_spread_191
  refine sn_iast (j := j2_spread) (pc := 191) rfl ⟨by decide, by decide⟩ dX2_spread_191 (fun M => ?_)
  refine sn_aload_n (j := j2_spread) (pc := 192) rfl rfl dX2_spread_192 ?_
  refine g_X2_44 (j := j2_spread) (pc := 193) rfl dX2_spread_193 ?_
  refine sn_iload (j := j2_spread) (pc := 196) rfl dX2_spread_196 ?_
  refine sn_aload_n (j := j2_spread) (pc := 198) rfl rfl dX2_spread_198 ?_
  refine g_X2_47 (j := j2_spread) (pc := 199) rfl dX2_spread_199 ?_
  refine sn_iload (j := j2_spread) (pc := 202) rfl dX2_spread_202 ?_
  refine sn_iald (j := j2_spread) (pc := 204) rfl ⟨by decide, by decide⟩ dX2_spread_204 (fun w_1 => ?_)
  refine sn_iast (j := j2_spread) (pc := 205) rfl ⟨by decide, by decide⟩ dX2_spread_205 (fun M => ?_)
  refine sn_aload_n (j := j2_spread) (pc := 206) rfl rfl dX2_spread_206 ?_
  refine sn_dup (j := j2_spread) (pc := 207) rfl dX2_spread_207 ?_
  refine g_X2_59 (j := j2_spread) (pc := 208) rfl dX2_spread_208 ?_
  refine Snd.bI (fun v_2 => ?_)
  refine sn_aload_n (j := j2_spread) (pc := 211) rfl rfl dX2_spread_211 ?_
  refine g_X2_44 (j := j2_spread) (pc := 212) rfl dX2_spread_212 ?_
  refine sn_iload (j := j2_spread) (pc := 215) rfl dX2_spread_215 ?_
  refine sn_iald (j := j2_spread) (pc := 217) rfl ⟨by decide, by decide⟩ dX2_spread_217 (fun w_3 => ?_)
  refine sn_iadd (j := j2_spread) (pc := 218) dX2_spread_218 ?_
  refine p_X2_59 (j := j2_spread) (pc := 219) rfl dX2_spread_219 (fun M => ?_)
  refine sn_aload_n (j := j2_spread) (pc := 222) rfl rfl dX2_spread_222 ?_
  refine sn_dup (j := j2_spread) (pc := 223) rfl dX2_spread_223 ?_
  refine g_X2_56 (j := j2_spread) (pc := 224) rfl dX2_spread_224 ?_
  refine Snd.bI (fun v_4 => ?_)
  refine sn_aload_n (j := j2_spread) (pc := 227) rfl rfl dX2_spread_227 ?_
  refine g_X2_44 (j := j2_spread) (pc := 228) rfl dX2_spread_228 ?_
  refine sn_iload (j := j2_spread) (pc := 231) rfl dX2_spread_231 ?_
  refine sn_iald (j := j2_spread) (pc := 233) rfl ⟨by decide, by decide⟩ dX2_spread_233 (fun w_5 => ?_)
  refine sn_aload_n (j := j2_spread) (pc := 234) rfl rfl dX2_spread_234 ?_
  refine g_X2_34 (j := j2_spread) (pc := 235) rfl dX2_spread_235 ?_
  refine sn_iconst (j := j2_spread) (pc := 238) 1 rfl dX2_spread_238 ?_
  refine sn_iload (j := j2_spread) (pc := 239) rfl dX2_spread_239 ?_
  refine sn_ishl (j := j2_spread) (pc := 241) dX2_spread_241 ?_
  refine sn_iald (j := j2_spread) (pc := 242) rfl ⟨by decide, by decide⟩ dX2_spread_242 (fun w_6 => ?_)
  refine sn_imul (j := j2_spread) (pc := 243) dX2_spread_243 ?_
  refine sn_iadd (j := j2_spread) (pc := 244) dX2_spread_244 ?_
  refine p_X2_56 (j := j2_spread) (pc := 245) rfl dX2_spread_245 (fun M => ?_)
  refine sn_iload_n (j := j2_spread) (pc := 248) rfl rfl dX2_spread_248 ?_
  refine sn_iconst (j := j2_spread) (pc := 249) 0 rfl dX2_spread_249 ?_
  refine sn_aload_n (j := j2_spread) (pc := 250) rfl rfl dX2_spread_250 ?_
  refine g_X2_50 (j := j2_spread) (pc := 251) rfl dX2_spread_251 ?_
  refine sn_iload (j := j2_spread) (pc := 254) rfl dX2_spread_254 ?_
  refine sn_iald (j := j2_spread) (pc := 256) rfl ⟨by decide, by decide⟩ dX2_spread_256 (fun w_7 => ?_)
  refine sn_aload_n (j := j2_spread) (pc := 257) rfl rfl dX2_spread_257 ?_
  refine g_X2_47 (j := j2_spread) (pc := 258) rfl dX2_spread_258 ?_
  refine sn_iload (j := j2_spread) (pc := 261) rfl dX2_spread_261 ?_
  refine sn_iald (j := j2_spread) (pc := 263) rfl ⟨by decide, by decide⟩ dX2_spread_263 (fun w_8 => ?_)
  refine sn_isub (j := j2_spread) (pc := 264) dX2_spread_264 ?_
  refine sn_iconst (j := j2_spread) (pc := 265) 1 rfl dX2_spread_265 ?_
  refine sn_iadd (j := j2_spread) (pc := 266) dX2_spread_266 ?_
  refine sn_max (j := j2_spread) (pc := 267) w_ml_X2_110 w_max1 w_math w_max2 (by decide) (Nat.le_of_ble_eq_true rfl) dX2_spread_267 ?_
  refine Snd.bI (fun v_9 => ?_)
  refine sn_imul (j := j2_spread) (pc := 270) dX2_spread_270 ?_
  refine sn_istoreB_n (j := j2_spread) (pc := 271) rfl (fun x3_10 => [some (.ref 26), some (.int x1), some (.int x2), some (.int x3_10), some (.int x4), none, none, none]) (by decide) (fun _ => rfl) dX2_spread_271 (fun x3_10 => ?_)
  refine sn_iinc (j := j2_spread) (pc := 272) 1 rfl (by decide) rfl (lo' := [some (.ref 26), some (.int x1), some (.int x2), some (.int x3_10), some (.int (x4 + 1)), none, none, none]) rfl dX2_spread_272 ?_
  refine sn_goto (j := j2_spread) (pc := 275) 20 rfl dX2_spread_275 ?_
  exact Snd.wk (hrec20 x1 x2 x3_10 (x4 + 1) M ) (by simp [mm_le])
def l2_spread_190 (rec20 : Int32 → Int32 → Int32 → Int32 → mm_M → Option (Int32 × mm_M)) (x1 : Int32) (x2 : Int32) (x3 : Int32) (x4 : Int32) (s0 : Int32) (M : mm_M) : Option (Int32 × mm_M) :=
  l2_spread_191 rec20 x1 x2 x3 x4 0 s0 M
set_option maxHeartbeats 2000000 in
theorem sl2_spread_190 (rec20 : Int32 → Int32 → Int32 → Int32 → mm_M → Option (Int32 × mm_M)) (hrec20 : ∀ (x1 : Int32) (x2 : Int32) (x3 : Int32) (x4 : Int32) (M : mm_M), Snd injI j2_spread mm_X0 20 [some (.ref 26), some (.int x1), some (.int x2), some (.int x3), some (.int x4), none, none, none] [] M (rec20 x1 x2 x3 x4 M)) (x1 : Int32) (x2 : Int32) (x3 : Int32) (x4 : Int32) (s0 : Int32)  (M : mm_M) : Snd injI j2_spread mm_X0 190 [some (.ref 26), some (.int x1), some (.int x2), some (.int x3), some (.int x4), none, none, none] [.int s0, .ref 39] M (l2_spread_190 rec20 x1 x2 x3 x4 s0 M) := by
  unfold l2_spread_190
  refine sn_iconst (j := j2_spread) (pc := 190) 0 rfl dX2_spread_190 ?_
  exact Snd.wk (sl2_spread_191 rec20 hrec20 x1 x2 x3 x4 0 s0 M) (by simp [mm_le])
def l2_spread_152 (rec20 : Int32 → Int32 → Int32 → Int32 → mm_M → Option (Int32 × mm_M)) (x1 : Int32) (x2 : Int32) (x3 : Int32) (x4 : Int32) (x6 : Int32) (x7 : Int32) (s0 : Int32) (s1 : Int32) (M : mm_M) : Option (Int32 × mm_M) :=
  bM (sI M 26 17 (s1 ||| s0)) (fun M => if x2 = 0 then (l2_spread_190 rec20 x1 x2 x3 x4 x4 M) else (if x7 = 0 then (l2_spread_190 rec20 x1 x2 x3 x4 x4 M) else (aI 30 4 x4 M (fun w_11 => bI (mx 0 ((w_11 - x6) + 1)) (fun v_12 => l2_spread_191 rec20 x1 x2 x3 x4 v_12 x4 M)))))
set_option maxHeartbeats 2000000 in
theorem sl2_spread_152 (rec20 : Int32 → Int32 → Int32 → Int32 → mm_M → Option (Int32 × mm_M)) (hrec20 : ∀ (x1 : Int32) (x2 : Int32) (x3 : Int32) (x4 : Int32) (M : mm_M), Snd injI j2_spread mm_X0 20 [some (.ref 26), some (.int x1), some (.int x2), some (.int x3), some (.int x4), none, none, none] [] M (rec20 x1 x2 x3 x4 M)) (x1 : Int32) (x2 : Int32) (x3 : Int32) (x4 : Int32) (x6 : Int32) (x7 : Int32) (s0 : Int32) (s1 : Int32)  (M : mm_M) : Snd injI j2_spread mm_X0 152 [some (.ref 26), some (.int x1), some (.int x2), some (.int x3), some (.int x4), none, some (.int x6), some (.int x7)] [.int s0, .int s1, .ref 26] M (l2_spread_152 rec20 x1 x2 x3 x4 x6 x7 s0 s1 M) := by
  unfold l2_spread_152
  refine sn_ior (j := j2_spread) (pc := 152) dX2_spread_152 ?_
  refine p_X2_62 (j := j2_spread) (pc := 153) rfl dX2_spread_153 (fun M => ?_)
  refine sn_aload_n (j := j2_spread) (pc := 156) rfl rfl dX2_spread_156 ?_
  refine g_X2_53 (j := j2_spread) (pc := 157) rfl dX2_spread_157 ?_
  refine sn_iload (j := j2_spread) (pc := 160) rfl dX2_spread_160 ?_
  refine sn_iload_n (j := j2_spread) (pc := 162) rfl rfl dX2_spread_162 ?_
  refine sn_if_eq (j := j2_spread) (pc := 163) 190 rfl dX2_spread_163 ?_ ?_
  · exact Snd.wk (sl2_spread_190 rec20 hrec20 x1 x2 x3 x4 x4 M) (by simp [mm_le])
  · refine sn_iload (j := j2_spread) (pc := 166) rfl dX2_spread_166 ?_
    refine sn_if_eq (j := j2_spread) (pc := 168) 190 rfl dX2_spread_168 ?_ ?_
    · exact Snd.wk (sl2_spread_190 rec20 hrec20 x1 x2 x3 x4 x4 M) (by simp [mm_le])
    · refine sn_iconst (j := j2_spread) (pc := 171) 0 rfl dX2_spread_171 ?_
      refine sn_aload_n (j := j2_spread) (pc := 172) rfl rfl dX2_spread_172 ?_
      refine g_X2_25 (j := j2_spread) (pc := 173) rfl dX2_spread_173 ?_
      refine sn_iload (j := j2_spread) (pc := 176) rfl dX2_spread_176 ?_
      refine sn_iald (j := j2_spread) (pc := 178) rfl ⟨by decide, by decide⟩ dX2_spread_178 (fun w_11 => ?_)
      refine sn_iload (j := j2_spread) (pc := 179) rfl dX2_spread_179 ?_
      refine sn_isub (j := j2_spread) (pc := 181) dX2_spread_181 ?_
      refine sn_iconst (j := j2_spread) (pc := 182) 1 rfl dX2_spread_182 ?_
      refine sn_iadd (j := j2_spread) (pc := 183) dX2_spread_183 ?_
      refine sn_max (j := j2_spread) (pc := 184) w_ml_X2_110 w_max1 w_math w_max2 (by decide) (Nat.le_of_ble_eq_true rfl) dX2_spread_184 ?_
      refine Snd.bI (fun v_12 => ?_)
      refine sn_goto (j := j2_spread) (pc := 187) 191 rfl dX2_spread_187 ?_
      exact Snd.wk (sl2_spread_191 rec20 hrec20 x1 x2 x3 x4 v_12 x4 M) (by simp [mm_le])
def l2_spread_132 (rec20 : Int32 → Int32 → Int32 → Int32 → mm_M → Option (Int32 × mm_M)) (x1 : Int32) (x2 : Int32) (x3 : Int32) (x4 : Int32) (x6 : Int32) (s0 : Int32) (M : mm_M) : Option (Int32 × mm_M) :=
  bI (mI M 26 17) (fun v_13 => if s0 = 0 then (l2_spread_152 rec20 x1 x2 x3 x4 x6 s0 0 v_13 M) else (l2_spread_152 rec20 x1 x2 x3 x4 x6 s0 (1 <<< (x4 &&& 31)) v_13 M))
set_option maxHeartbeats 2000000 in
theorem sl2_spread_132 (rec20 : Int32 → Int32 → Int32 → Int32 → mm_M → Option (Int32 × mm_M)) (hrec20 : ∀ (x1 : Int32) (x2 : Int32) (x3 : Int32) (x4 : Int32) (M : mm_M), Snd injI j2_spread mm_X0 20 [some (.ref 26), some (.int x1), some (.int x2), some (.int x3), some (.int x4), none, none, none] [] M (rec20 x1 x2 x3 x4 M)) (x1 : Int32) (x2 : Int32) (x3 : Int32) (x4 : Int32) (x6 : Int32) (s0 : Int32)  (M : mm_M) : Snd injI j2_spread mm_X0 132 [some (.ref 26), some (.int x1), some (.int x2), some (.int x3), some (.int x4), none, some (.int x6), none] [.int s0] M (l2_spread_132 rec20 x1 x2 x3 x4 x6 s0 M) := by
  unfold l2_spread_132
  refine sn_istore (j := j2_spread) (pc := 132) (by decide) (lo' := [some (.ref 26), some (.int x1), some (.int x2), some (.int x3), some (.int x4), none, some (.int x6), some (.int s0)]) rfl dX2_spread_132 ?_
  refine sn_aload_n (j := j2_spread) (pc := 134) rfl rfl dX2_spread_134 ?_
  refine sn_dup (j := j2_spread) (pc := 135) rfl dX2_spread_135 ?_
  refine g_X2_62 (j := j2_spread) (pc := 136) rfl dX2_spread_136 ?_
  refine Snd.bI (fun v_13 => ?_)
  refine sn_iload (j := j2_spread) (pc := 139) rfl dX2_spread_139 ?_
  refine sn_if_eq (j := j2_spread) (pc := 141) 151 rfl dX2_spread_141 ?_ ?_
  · refine sn_iconst (j := j2_spread) (pc := 151) 0 rfl dX2_spread_151 ?_
    exact Snd.wk (sl2_spread_152 rec20 hrec20 x1 x2 x3 x4 x6 s0 0 v_13 M) (by simp [mm_le])
  · refine sn_iconst (j := j2_spread) (pc := 144) 1 rfl dX2_spread_144 ?_
    refine sn_iload (j := j2_spread) (pc := 145) rfl dX2_spread_145 ?_
    refine sn_ishl (j := j2_spread) (pc := 147) dX2_spread_147 ?_
    refine sn_goto (j := j2_spread) (pc := 148) 152 rfl dX2_spread_148 ?_
    exact Snd.wk (sl2_spread_152 rec20 hrec20 x1 x2 x3 x4 x6 s0 (1 <<< (x4 &&& 31)) v_13 M) (by simp [mm_le])
def l2_spread_131 (rec20 : Int32 → Int32 → Int32 → Int32 → mm_M → Option (Int32 × mm_M)) (x1 : Int32) (x2 : Int32) (x3 : Int32) (x4 : Int32) (x6 : Int32) (M : mm_M) : Option (Int32 × mm_M) :=
  l2_spread_132 rec20 x1 x2 x3 x4 x6 0 M
set_option maxHeartbeats 2000000 in
theorem sl2_spread_131 (rec20 : Int32 → Int32 → Int32 → Int32 → mm_M → Option (Int32 × mm_M)) (hrec20 : ∀ (x1 : Int32) (x2 : Int32) (x3 : Int32) (x4 : Int32) (M : mm_M), Snd injI j2_spread mm_X0 20 [some (.ref 26), some (.int x1), some (.int x2), some (.int x3), some (.int x4), none, none, none] [] M (rec20 x1 x2 x3 x4 M)) (x1 : Int32) (x2 : Int32) (x3 : Int32) (x4 : Int32) (x6 : Int32)  (M : mm_M) : Snd injI j2_spread mm_X0 131 [some (.ref 26), some (.int x1), some (.int x2), some (.int x3), some (.int x4), none, some (.int x6), none] [] M (l2_spread_131 rec20 x1 x2 x3 x4 x6 M) := by
  unfold l2_spread_131
  refine sn_iconst (j := j2_spread) (pc := 131) 0 rfl dX2_spread_131 ?_
  exact Snd.wk (sl2_spread_132 rec20 hrec20 x1 x2 x3 x4 x6 0 M) (by simp [mm_le])
def l2_spread_91 (rec20 : Int32 → Int32 → Int32 → Int32 → mm_M → Option (Int32 × mm_M)) (x1 : Int32) (x2 : Int32) (x3 : Int32) (x4 : Int32) (x5 : Int32) (x6 : Int32) (s0 : Int32) (s1 : Int32) (M : mm_M) : Option (Int32 × mm_M) :=
  uI 37 4 s1 s0 M (fun M => aI 30 4 x4 M (fun w_14 => bI (mi w_14 x5) (fun v_15 => uI 38 4 x4 v_15 M (fun M => aI 28 4 x4 M (fun w_16 => if x1 < w_16 then (l2_spread_131 rec20 x1 x2 x3 x4 x6 M) else (if x6 ≤ 0 then (l2_spread_131 rec20 x1 x2 x3 x4 x6 M) else (l2_spread_132 rec20 x1 x2 x3 x4 x6 1 M)))))))
set_option maxHeartbeats 2000000 in
theorem sl2_spread_91 (rec20 : Int32 → Int32 → Int32 → Int32 → mm_M → Option (Int32 × mm_M)) (hrec20 : ∀ (x1 : Int32) (x2 : Int32) (x3 : Int32) (x4 : Int32) (M : mm_M), Snd injI j2_spread mm_X0 20 [some (.ref 26), some (.int x1), some (.int x2), some (.int x3), some (.int x4), none, none, none] [] M (rec20 x1 x2 x3 x4 M)) (x1 : Int32) (x2 : Int32) (x3 : Int32) (x4 : Int32) (x5 : Int32) (x6 : Int32) (s0 : Int32) (s1 : Int32)  (M : mm_M) : Snd injI j2_spread mm_X0 91 [some (.ref 26), some (.int x1), some (.int x2), some (.int x3), some (.int x4), some (.int x5), some (.int x6), none] [.int s0, .int s1, .ref 37] M (l2_spread_91 rec20 x1 x2 x3 x4 x5 x6 s0 s1 M) := by
  unfold l2_spread_91
  refine sn_iast (j := j2_spread) (pc := 91) rfl ⟨by decide, by decide⟩ dX2_spread_91 (fun M => ?_)
  refine sn_aload_n (j := j2_spread) (pc := 92) rfl rfl dX2_spread_92 ?_
  refine g_X2_50 (j := j2_spread) (pc := 93) rfl dX2_spread_93 ?_
  refine sn_iload (j := j2_spread) (pc := 96) rfl dX2_spread_96 ?_
  refine sn_aload_n (j := j2_spread) (pc := 98) rfl rfl dX2_spread_98 ?_
  refine g_X2_25 (j := j2_spread) (pc := 99) rfl dX2_spread_99 ?_
  refine sn_iload (j := j2_spread) (pc := 102) rfl dX2_spread_102 ?_
  refine sn_iald (j := j2_spread) (pc := 104) rfl ⟨by decide, by decide⟩ dX2_spread_104 (fun w_14 => ?_)
  refine sn_iload (j := j2_spread) (pc := 105) rfl dX2_spread_105 ?_
  refine sn_min (j := j2_spread) (pc := 107) w_ml_X2_135 w_min1 w_math w_min2 (by decide) (Nat.le_of_ble_eq_true rfl) dX2_spread_107 ?_
  refine Snd.bI (fun v_15 => ?_)
  refine sn_iast (j := j2_spread) (pc := 110) rfl ⟨by decide, by decide⟩ dX2_spread_110 (fun M => ?_)
  refine sn_iload_n (j := j2_spread) (pc := 111) rfl rfl dX2_spread_111 ?_
  refine sn_aload_n (j := j2_spread) (pc := 112) rfl rfl dX2_spread_112 ?_
  refine g_X2_15 (j := j2_spread) (pc := 113) rfl dX2_spread_113 ?_
  refine sn_iload (j := j2_spread) (pc := 116) rfl dX2_spread_116 ?_
  refine sn_iald (j := j2_spread) (pc := 118) rfl ⟨by decide, by decide⟩ dX2_spread_118 (fun w_16 => ?_)
  refine sn_icmp_lt (j := j2_spread) (pc := 119) 131 rfl dX2_spread_119 ?_ ?_
  · exact Snd.wk (sl2_spread_131 rec20 hrec20 x1 x2 x3 x4 x6 M) (by simp [mm_le])
  · refine sn_iload (j := j2_spread) (pc := 122) rfl dX2_spread_122 ?_
    refine sn_if_le (j := j2_spread) (pc := 124) 131 rfl dX2_spread_124 ?_ ?_
    · exact Snd.wk (sl2_spread_131 rec20 hrec20 x1 x2 x3 x4 x6 M) (by simp [mm_le])
    · refine sn_iconst (j := j2_spread) (pc := 127) 1 rfl dX2_spread_127 ?_
      refine sn_goto (j := j2_spread) (pc := 128) 132 rfl dX2_spread_128 ?_
      exact Snd.wk (sl2_spread_132 rec20 hrec20 x1 x2 x3 x4 x6 1 M) (by simp [mm_le])
def b2_spread_20  (rec20 : Int32 → Int32 → Int32 → Int32 → mm_M → Option (Int32 × mm_M)) (x1 : Int32) (x2 : Int32) (x3 : Int32) (x4 : Int32) (M : mm_M) : Option (Int32 × mm_M) :=
  if 4 ≤ x4 then (some (x3, M)) else (aI 29 4 x4 M (fun w_17 => aI 28 4 x4 M (fun w_18 => bI (mx 0 (x1 - w_18)) (fun v_19 => bI (mi w_17 v_19) (fun v_20 => aI 29 4 x4 M (fun w_21 => bI (w_21 - v_20) (fun x6_22 => if x2 = 0 then (l2_spread_91 rec20 x1 x2 x3 x4 v_20 x6_22 0 x4 M) else (aI 30 4 x4 M (fun w_23 => bI (mx 0 (w_23 - x6_22)) (fun v_24 => l2_spread_91 rec20 x1 x2 x3 x4 v_20 x6_22 v_24 x4 M))))))))))
set_option maxHeartbeats 2000000 in
theorem sb2_spread_20   (rec20 : Int32 → Int32 → Int32 → Int32 → mm_M → Option (Int32 × mm_M)) (hrec20 : ∀ (x1 : Int32) (x2 : Int32) (x3 : Int32) (x4 : Int32) (M : mm_M), Snd injI j2_spread mm_X0 20 [some (.ref 26), some (.int x1), some (.int x2), some (.int x3), some (.int x4), none, none, none] [] M (rec20 x1 x2 x3 x4 M)) (x1 : Int32) (x2 : Int32) (x3 : Int32) (x4 : Int32)  (M : mm_M) : Snd injI j2_spread mm_X0 20 [some (.ref 26), some (.int x1), some (.int x2), some (.int x3), some (.int x4), none, none, none] [] M (b2_spread_20  rec20 x1 x2 x3 x4 M) := by
  unfold b2_spread_20
  refine sn_iload (j := j2_spread) (pc := 20) rfl dX2_spread_20 ?_
  refine sn_iconst (j := j2_spread) (pc := 22) 4 rfl dX2_spread_22 ?_
  refine sn_icmp_ge (j := j2_spread) (pc := 23) 278 rfl dX2_spread_23 ?_ ?_
  · refine sn_iload_n (j := j2_spread) (pc := 278) rfl rfl dX2_spread_278 ?_
    exact sn_iret (j := j2_spread) (pc := 279) rfl dX2_spread_279
  · refine sn_aload_n (j := j2_spread) (pc := 26) rfl rfl dX2_spread_26 ?_
    refine g_X2_22 (j := j2_spread) (pc := 27) rfl dX2_spread_27 ?_
    refine sn_iload (j := j2_spread) (pc := 30) rfl dX2_spread_30 ?_
    refine sn_iald (j := j2_spread) (pc := 32) rfl ⟨by decide, by decide⟩ dX2_spread_32 (fun w_17 => ?_)
    refine sn_iconst (j := j2_spread) (pc := 33) 0 rfl dX2_spread_33 ?_
    refine sn_iload_n (j := j2_spread) (pc := 34) rfl rfl dX2_spread_34 ?_
    refine sn_aload_n (j := j2_spread) (pc := 35) rfl rfl dX2_spread_35 ?_
    refine g_X2_15 (j := j2_spread) (pc := 36) rfl dX2_spread_36 ?_
    refine sn_iload (j := j2_spread) (pc := 39) rfl dX2_spread_39 ?_
    refine sn_iald (j := j2_spread) (pc := 41) rfl ⟨by decide, by decide⟩ dX2_spread_41 (fun w_18 => ?_)
    refine sn_isub (j := j2_spread) (pc := 42) dX2_spread_42 ?_
    refine sn_max (j := j2_spread) (pc := 43) w_ml_X2_110 w_max1 w_math w_max2 (by decide) (Nat.le_of_ble_eq_true rfl) dX2_spread_43 ?_
    refine Snd.bI (fun v_19 => ?_)
    refine sn_min (j := j2_spread) (pc := 46) w_ml_X2_135 w_min1 w_math w_min2 (by decide) (Nat.le_of_ble_eq_true rfl) dX2_spread_46 ?_
    refine Snd.bI (fun v_20 => ?_)
    refine sn_istore (j := j2_spread) (pc := 49) (by decide) (lo' := [some (.ref 26), some (.int x1), some (.int x2), some (.int x3), some (.int x4), some (.int v_20), none, none]) rfl dX2_spread_49 ?_
    refine sn_aload_n (j := j2_spread) (pc := 51) rfl rfl dX2_spread_51 ?_
    refine g_X2_22 (j := j2_spread) (pc := 52) rfl dX2_spread_52 ?_
    refine sn_iload (j := j2_spread) (pc := 55) rfl dX2_spread_55 ?_
    refine sn_iald (j := j2_spread) (pc := 57) rfl ⟨by decide, by decide⟩ dX2_spread_57 (fun w_21 => ?_)
    refine sn_iload (j := j2_spread) (pc := 58) rfl dX2_spread_58 ?_
    refine sn_isub (j := j2_spread) (pc := 60) dX2_spread_60 ?_
    refine sn_istoreB (j := j2_spread) (pc := 61) (fun x6_22 => [some (.ref 26), some (.int x1), some (.int x2), some (.int x3), some (.int x4), some (.int v_20), some (.int x6_22), none]) (by decide) (fun _ => rfl) dX2_spread_61 (fun x6_22 => ?_)
    refine sn_aload_n (j := j2_spread) (pc := 63) rfl rfl dX2_spread_63 ?_
    refine g_X2_47 (j := j2_spread) (pc := 64) rfl dX2_spread_64 ?_
    refine sn_iload (j := j2_spread) (pc := 67) rfl dX2_spread_67 ?_
    refine sn_iload_n (j := j2_spread) (pc := 69) rfl rfl dX2_spread_69 ?_
    refine sn_if_eq (j := j2_spread) (pc := 70) 90 rfl dX2_spread_70 ?_ ?_
    · refine sn_iconst (j := j2_spread) (pc := 90) 0 rfl dX2_spread_90 ?_
      exact Snd.wk (sl2_spread_91 rec20 hrec20 x1 x2 x3 x4 v_20 x6_22 0 x4 M) (by simp [mm_le])
    · refine sn_iconst (j := j2_spread) (pc := 73) 0 rfl dX2_spread_73 ?_
      refine sn_aload_n (j := j2_spread) (pc := 74) rfl rfl dX2_spread_74 ?_
      refine g_X2_25 (j := j2_spread) (pc := 75) rfl dX2_spread_75 ?_
      refine sn_iload (j := j2_spread) (pc := 78) rfl dX2_spread_78 ?_
      refine sn_iald (j := j2_spread) (pc := 80) rfl ⟨by decide, by decide⟩ dX2_spread_80 (fun w_23 => ?_)
      refine sn_iload (j := j2_spread) (pc := 81) rfl dX2_spread_81 ?_
      refine sn_isub (j := j2_spread) (pc := 83) dX2_spread_83 ?_
      refine sn_max (j := j2_spread) (pc := 84) w_ml_X2_110 w_max1 w_math w_max2 (by decide) (Nat.le_of_ble_eq_true rfl) dX2_spread_84 ?_
      refine Snd.bI (fun v_24 => ?_)
      refine sn_goto (j := j2_spread) (pc := 87) 91 rfl dX2_spread_87 ?_
      exact Snd.wk (sl2_spread_91 rec20 hrec20 x1 x2 x3 x4 v_20 x6_22 v_24 x4 M) (by simp [mm_le])
def l2_spread_20  : Nat → Int32 → Int32 → Int32 → Int32 → mm_M → Option (Int32 × mm_M)
  | 0 => fun _ _ _ _ _ => none
  | n + 1 => fun x1 x2 x3 x4 M => b2_spread_20  (l2_spread_20  n) x1 x2 x3 x4 M
theorem sl2_spread_20   : ∀ (n : Nat) (x1 : Int32) (x2 : Int32) (x3 : Int32) (x4 : Int32)  (M : mm_M), Snd injI j2_spread mm_X0 20 [some (.ref 26), some (.int x1), some (.int x2), some (.int x3), some (.int x4), none, none, none] [] M (l2_spread_20  n x1 x2 x3 x4 M)
  | 0 => fun _ _ _ _  _ => Snd.none
  | n + 1 => fun x1 x2 x3 x4  M => sb2_spread_20   (l2_spread_20  n) (fun x1 x2 x3 x4 M  => sl2_spread_20   n x1 x2 x3 x4  M) x1 x2 x3 x4  M
def f2_spread (x1 : Int32) (x2 : Int32) (M : mm_M) : Option (Int32 × mm_M) :=
  bM (sI M 26 15 0) (fun M => bM (sI M 26 16 0) (fun M => bM (sI M 26 17 0) (fun M => l2_spread_20 FU x1 x2 1 0 M)))
set_option maxHeartbeats 2000000 in
theorem s2_spread (x1 : Int32) (x2 : Int32) (M : mm_M) : Snd injI j2_spread mm_X0 0 [some (.ref 26), some (.int x1), some (.int x2)] [] M (f2_spread x1 x2 M) := by
  refine Snd.wk (lo' := [some (.ref 26), some (.int x1), some (.int x2), none, none, none, none, none]) ?_ (by simp [mm_le])
  unfold f2_spread
  refine sn_iconst (j := j2_spread) (pc := 0) 1 rfl dX2_spread_0 ?_
  refine sn_istore_n (j := j2_spread) (pc := 1) rfl (by decide) (lo' := [some (.ref 26), some (.int x1), some (.int x2), some (.int 1), none, none, none, none]) rfl dX2_spread_1 ?_
  refine sn_aload_n (j := j2_spread) (pc := 2) rfl rfl dX2_spread_2 ?_
  refine sn_iconst (j := j2_spread) (pc := 3) 0 rfl dX2_spread_3 ?_
  refine p_X2_56 (j := j2_spread) (pc := 4) rfl dX2_spread_4 (fun M => ?_)
  refine sn_aload_n (j := j2_spread) (pc := 7) rfl rfl dX2_spread_7 ?_
  refine sn_iconst (j := j2_spread) (pc := 8) 0 rfl dX2_spread_8 ?_
  refine p_X2_59 (j := j2_spread) (pc := 9) rfl dX2_spread_9 (fun M => ?_)
  refine sn_aload_n (j := j2_spread) (pc := 12) rfl rfl dX2_spread_12 ?_
  refine sn_iconst (j := j2_spread) (pc := 13) 0 rfl dX2_spread_13 ?_
  refine p_X2_62 (j := j2_spread) (pc := 14) rfl dX2_spread_14 (fun M => ?_)
  refine sn_iconst (j := j2_spread) (pc := 17) 0 rfl dX2_spread_17 ?_
  refine sn_istore (j := j2_spread) (pc := 18) (by decide) (lo' := [some (.ref 26), some (.int x1), some (.int x2), some (.int 1), some (.int 0), none, none, none]) rfl dX2_spread_18 ?_
  exact Snd.wk (sl2_spread_20 FU x1 x2 1 0 M) (by simp [mm_le])

abbrev j2_lackHere : mm_J := (yX2_lackHere, cX2_lackHere, 3, (some .int), 0)
theorem dX2_lackHere_0 : decode cX2_lackHere 0 = .ok (.iconst 0, 1) := by decide +kernel
theorem dX2_lackHere_1 : decode cX2_lackHere 1 = .ok (.istore_n 1, 1) := by decide +kernel
theorem dX2_lackHere_2 : decode cX2_lackHere 2 = .ok (.iconst 0, 1) := by decide +kernel
theorem dX2_lackHere_3 : decode cX2_lackHere 3 = .ok (.istore_n 2, 1) := by decide +kernel
theorem dX2_lackHere_4 : decode cX2_lackHere 4 = .ok (.iload_n 2, 1) := by decide +kernel
theorem dX2_lackHere_5 : decode cX2_lackHere 5 = .ok (.iconst 4, 1) := by decide +kernel
theorem dX2_lackHere_6 : decode cX2_lackHere 6 = .ok (.if_icmp .ge 28, 3) := by decide +kernel
theorem dX2_lackHere_9 : decode cX2_lackHere 9 = .ok (.iload_n 1, 1) := by decide +kernel
theorem dX2_lackHere_10 : decode cX2_lackHere 10 = .ok (.aload_n 0, 1) := by decide +kernel
theorem dX2_lackHere_11 : decode cX2_lackHere 11 = .ok (.getfield 31, 3) := by decide +kernel
theorem dX2_lackHere_14 : decode cX2_lackHere 14 = .ok (.iload_n 2, 1) := by decide +kernel
theorem dX2_lackHere_15 : decode cX2_lackHere 15 = .ok (.bipush 9, 2) := by decide +kernel
theorem dX2_lackHere_17 : decode cX2_lackHere 17 = .ok (.imul, 1) := by decide +kernel
theorem dX2_lackHere_18 : decode cX2_lackHere 18 = .ok (.aload_n 0, 1) := by decide +kernel
theorem dX2_lackHere_19 : decode cX2_lackHere 19 = .ok (.getfield 44, 3) := by decide +kernel
theorem dX2_lackHere_22 : decode cX2_lackHere 22 = .ok (.iload_n 2, 1) := by decide +kernel
theorem dX2_lackHere_23 : decode cX2_lackHere 23 = .ok (.iaload, 1) := by decide +kernel
theorem dX2_lackHere_24 : decode cX2_lackHere 24 = .ok (.iadd, 1) := by decide +kernel
theorem dX2_lackHere_25 : decode cX2_lackHere 25 = .ok (.iaload, 1) := by decide +kernel
theorem dX2_lackHere_26 : decode cX2_lackHere 26 = .ok (.iadd, 1) := by decide +kernel
theorem dX2_lackHere_27 : decode cX2_lackHere 27 = .ok (.istore_n 1, 1) := by decide +kernel
theorem dX2_lackHere_28 : decode cX2_lackHere 28 = .ok (.iinc 2 1, 3) := by decide +kernel
theorem dX2_lackHere_31 : decode cX2_lackHere 31 = .ok (.goto (-27), 3) := by decide +kernel
theorem dX2_lackHere_34 : decode cX2_lackHere 34 = .ok (.iload_n 1, 1) := by decide +kernel
theorem dX2_lackHere_35 : decode cX2_lackHere 35 = .ok (.ireturn, 1) := by decide +kernel
def b2_lackHere_4  (rec4 : Int32 → Int32 → mm_M → Option (Int32 × mm_M)) (x1 : Int32) (x2 : Int32) (M : mm_M) : Option (Int32 × mm_M) :=
  if 4 ≤ x2 then (some (x1, M)) else (aI 36 4 x2 M (fun w_1 => aI 32 36 ((x2 * 9) + w_1) M (fun w_2 => bI (x1 + w_2) (fun x1_3 => rec4 x1_3 (x2 + 1) M))))
set_option maxHeartbeats 2000000 in
theorem sb2_lackHere_4   (rec4 : Int32 → Int32 → mm_M → Option (Int32 × mm_M)) (hrec4 : ∀ (x1 : Int32) (x2 : Int32) (M : mm_M), Snd injI j2_lackHere mm_X0 4 [some (.ref 26), some (.int x1), some (.int x2)] [] M (rec4 x1 x2 M)) (x1 : Int32) (x2 : Int32)  (M : mm_M) : Snd injI j2_lackHere mm_X0 4 [some (.ref 26), some (.int x1), some (.int x2)] [] M (b2_lackHere_4  rec4 x1 x2 M) := by
  unfold b2_lackHere_4
  refine sn_iload_n (j := j2_lackHere) (pc := 4) rfl rfl dX2_lackHere_4 ?_
  refine sn_iconst (j := j2_lackHere) (pc := 5) 4 rfl dX2_lackHere_5 ?_
  refine sn_icmp_ge (j := j2_lackHere) (pc := 6) 34 rfl dX2_lackHere_6 ?_ ?_
  · refine sn_iload_n (j := j2_lackHere) (pc := 34) rfl rfl dX2_lackHere_34 ?_
    exact sn_iret (j := j2_lackHere) (pc := 35) rfl dX2_lackHere_35
  · refine sn_iload_n (j := j2_lackHere) (pc := 9) rfl rfl dX2_lackHere_9 ?_
    refine sn_aload_n (j := j2_lackHere) (pc := 10) rfl rfl dX2_lackHere_10 ?_
    refine g_X2_31 (j := j2_lackHere) (pc := 11) rfl dX2_lackHere_11 ?_
    refine sn_iload_n (j := j2_lackHere) (pc := 14) rfl rfl dX2_lackHere_14 ?_
    refine sn_bipush (j := j2_lackHere) (pc := 15) 9 rfl dX2_lackHere_15 ?_
    refine sn_imul (j := j2_lackHere) (pc := 17) dX2_lackHere_17 ?_
    refine sn_aload_n (j := j2_lackHere) (pc := 18) rfl rfl dX2_lackHere_18 ?_
    refine g_X2_44 (j := j2_lackHere) (pc := 19) rfl dX2_lackHere_19 ?_
    refine sn_iload_n (j := j2_lackHere) (pc := 22) rfl rfl dX2_lackHere_22 ?_
    refine sn_iald (j := j2_lackHere) (pc := 23) rfl ⟨by decide, by decide⟩ dX2_lackHere_23 (fun w_1 => ?_)
    refine sn_iadd (j := j2_lackHere) (pc := 24) dX2_lackHere_24 ?_
    refine sn_iald (j := j2_lackHere) (pc := 25) rfl ⟨by decide, by decide⟩ dX2_lackHere_25 (fun w_2 => ?_)
    refine sn_iadd (j := j2_lackHere) (pc := 26) dX2_lackHere_26 ?_
    refine sn_istoreB_n (j := j2_lackHere) (pc := 27) rfl (fun x1_3 => [some (.ref 26), some (.int x1_3), some (.int x2)]) (by decide) (fun _ => rfl) dX2_lackHere_27 (fun x1_3 => ?_)
    refine sn_iinc (j := j2_lackHere) (pc := 28) 1 rfl (by decide) rfl (lo' := [some (.ref 26), some (.int x1_3), some (.int (x2 + 1))]) rfl dX2_lackHere_28 ?_
    refine sn_goto (j := j2_lackHere) (pc := 31) 4 rfl dX2_lackHere_31 ?_
    exact Snd.wk (hrec4 x1_3 (x2 + 1) M ) (by simp [mm_le])
def l2_lackHere_4  : Nat → Int32 → Int32 → mm_M → Option (Int32 × mm_M)
  | 0 => fun _ _ _ => none
  | n + 1 => fun x1 x2 M => b2_lackHere_4  (l2_lackHere_4  n) x1 x2 M
theorem sl2_lackHere_4   : ∀ (n : Nat) (x1 : Int32) (x2 : Int32)  (M : mm_M), Snd injI j2_lackHere mm_X0 4 [some (.ref 26), some (.int x1), some (.int x2)] [] M (l2_lackHere_4  n x1 x2 M)
  | 0 => fun _ _  _ => Snd.none
  | n + 1 => fun x1 x2  M => sb2_lackHere_4   (l2_lackHere_4  n) (fun x1 x2 M  => sl2_lackHere_4   n x1 x2  M) x1 x2  M
def f2_lackHere  (M : mm_M) : Option (Int32 × mm_M) :=
  l2_lackHere_4 FU 0 0 M
set_option maxHeartbeats 2000000 in
theorem s2_lackHere  (M : mm_M) : Snd injI j2_lackHere mm_X0 0 [some (.ref 26)] [] M (f2_lackHere  M) := by
  refine Snd.wk (lo' := [some (.ref 26), none, none]) ?_ (by simp [mm_le])
  unfold f2_lackHere
  refine sn_iconst (j := j2_lackHere) (pc := 0) 0 rfl dX2_lackHere_0 ?_
  refine sn_istore_n (j := j2_lackHere) (pc := 1) rfl (by decide) (lo' := [some (.ref 26), some (.int 0), none]) rfl dX2_lackHere_1 ?_
  refine sn_iconst (j := j2_lackHere) (pc := 2) 0 rfl dX2_lackHere_2 ?_
  refine sn_istore_n (j := j2_lackHere) (pc := 3) rfl (by decide) (lo' := [some (.ref 26), some (.int 0), some (.int 0)]) rfl dX2_lackHere_3 ?_
  exact Snd.wk (sl2_lackHere_4 FU 0 0 M) (by simp [mm_le])

abbrev j2_nextState : mm_J := (yX2_nextState, cX2_nextState, 2, none, 0)
theorem dX2_nextState_0 : decode cX2_nextState 0 = .ok (.iconst 0, 1) := by decide +kernel
theorem dX2_nextState_1 : decode cX2_nextState 1 = .ok (.istore_n 1, 1) := by decide +kernel
theorem dX2_nextState_2 : decode cX2_nextState 2 = .ok (.iload_n 1, 1) := by decide +kernel
theorem dX2_nextState_3 : decode cX2_nextState 3 = .ok (.iconst 4, 1) := by decide +kernel
theorem dX2_nextState_4 : decode cX2_nextState 4 = .ok (.if_icmp .ge 127, 3) := by decide +kernel
theorem dX2_nextState_7 : decode cX2_nextState 7 = .ok (.aload_n 0, 1) := by decide +kernel
theorem dX2_nextState_8 : decode cX2_nextState 8 = .ok (.getfield 44, 3) := by decide +kernel
theorem dX2_nextState_11 : decode cX2_nextState 11 = .ok (.iload_n 1, 1) := by decide +kernel
theorem dX2_nextState_12 : decode cX2_nextState 12 = .ok (.iaload, 1) := by decide +kernel
theorem dX2_nextState_13 : decode cX2_nextState 13 = .ok (.aload_n 0, 1) := by decide +kernel
theorem dX2_nextState_14 : decode cX2_nextState 14 = .ok (.getfield 50, 3) := by decide +kernel
theorem dX2_nextState_17 : decode cX2_nextState 17 = .ok (.iload_n 1, 1) := by decide +kernel
theorem dX2_nextState_18 : decode cX2_nextState 18 = .ok (.iaload, 1) := by decide +kernel
theorem dX2_nextState_19 : decode cX2_nextState 19 = .ok (.if_icmp .ge 41, 3) := by decide +kernel
theorem dX2_nextState_22 : decode cX2_nextState 22 = .ok (.aload_n 0, 1) := by decide +kernel
theorem dX2_nextState_23 : decode cX2_nextState 23 = .ok (.getfield 44, 3) := by decide +kernel
theorem dX2_nextState_26 : decode cX2_nextState 26 = .ok (.iload_n 1, 1) := by decide +kernel
theorem dX2_nextState_27 : decode cX2_nextState 27 = .ok (.dup2, 1) := by decide +kernel
theorem dX2_nextState_28 : decode cX2_nextState 28 = .ok (.iaload, 1) := by decide +kernel
theorem dX2_nextState_29 : decode cX2_nextState 29 = .ok (.iconst 1, 1) := by decide +kernel
theorem dX2_nextState_30 : decode cX2_nextState 30 = .ok (.iadd, 1) := by decide +kernel
theorem dX2_nextState_31 : decode cX2_nextState 31 = .ok (.iastore, 1) := by decide +kernel
theorem dX2_nextState_32 : decode cX2_nextState 32 = .ok (.aload_n 0, 1) := by decide +kernel
theorem dX2_nextState_33 : decode cX2_nextState 33 = .ok (.dup, 1) := by decide +kernel
theorem dX2_nextState_34 : decode cX2_nextState 34 = .ok (.getfield 59, 3) := by decide +kernel
theorem dX2_nextState_37 : decode cX2_nextState 37 = .ok (.iconst 1, 1) := by decide +kernel
theorem dX2_nextState_38 : decode cX2_nextState 38 = .ok (.iadd, 1) := by decide +kernel
theorem dX2_nextState_39 : decode cX2_nextState 39 = .ok (.putfield 59, 3) := by decide +kernel
theorem dX2_nextState_42 : decode cX2_nextState 42 = .ok (.aload_n 0, 1) := by decide +kernel
theorem dX2_nextState_43 : decode cX2_nextState 43 = .ok (.dup, 1) := by decide +kernel
theorem dX2_nextState_44 : decode cX2_nextState 44 = .ok (.getfield 56, 3) := by decide +kernel
theorem dX2_nextState_47 : decode cX2_nextState 47 = .ok (.aload_n 0, 1) := by decide +kernel
theorem dX2_nextState_48 : decode cX2_nextState 48 = .ok (.getfield 34, 3) := by decide +kernel
theorem dX2_nextState_51 : decode cX2_nextState 51 = .ok (.iconst 1, 1) := by decide +kernel
theorem dX2_nextState_52 : decode cX2_nextState 52 = .ok (.iload_n 1, 1) := by decide +kernel
theorem dX2_nextState_53 : decode cX2_nextState 53 = .ok (.ishl, 1) := by decide +kernel
theorem dX2_nextState_54 : decode cX2_nextState 54 = .ok (.iaload, 1) := by decide +kernel
theorem dX2_nextState_55 : decode cX2_nextState 55 = .ok (.iadd, 1) := by decide +kernel
theorem dX2_nextState_56 : decode cX2_nextState 56 = .ok (.putfield 56, 3) := by decide +kernel
theorem dX2_nextState_59 : decode cX2_nextState 59 = .ok (.return_, 1) := by decide +kernel
theorem dX2_nextState_60 : decode cX2_nextState 60 = .ok (.aload_n 0, 1) := by decide +kernel
theorem dX2_nextState_61 : decode cX2_nextState 61 = .ok (.dup, 1) := by decide +kernel
theorem dX2_nextState_62 : decode cX2_nextState 62 = .ok (.getfield 56, 3) := by decide +kernel
theorem dX2_nextState_65 : decode cX2_nextState 65 = .ok (.aload_n 0, 1) := by decide +kernel
theorem dX2_nextState_66 : decode cX2_nextState 66 = .ok (.getfield 44, 3) := by decide +kernel
theorem dX2_nextState_69 : decode cX2_nextState 69 = .ok (.iload_n 1, 1) := by decide +kernel
theorem dX2_nextState_70 : decode cX2_nextState 70 = .ok (.iaload, 1) := by decide +kernel
theorem dX2_nextState_71 : decode cX2_nextState 71 = .ok (.aload_n 0, 1) := by decide +kernel
theorem dX2_nextState_72 : decode cX2_nextState 72 = .ok (.getfield 47, 3) := by decide +kernel
theorem dX2_nextState_75 : decode cX2_nextState 75 = .ok (.iload_n 1, 1) := by decide +kernel
theorem dX2_nextState_76 : decode cX2_nextState 76 = .ok (.iaload, 1) := by decide +kernel
theorem dX2_nextState_77 : decode cX2_nextState 77 = .ok (.isub, 1) := by decide +kernel
theorem dX2_nextState_78 : decode cX2_nextState 78 = .ok (.aload_n 0, 1) := by decide +kernel
theorem dX2_nextState_79 : decode cX2_nextState 79 = .ok (.getfield 34, 3) := by decide +kernel
theorem dX2_nextState_82 : decode cX2_nextState 82 = .ok (.iconst 1, 1) := by decide +kernel
theorem dX2_nextState_83 : decode cX2_nextState 83 = .ok (.iload_n 1, 1) := by decide +kernel
theorem dX2_nextState_84 : decode cX2_nextState 84 = .ok (.ishl, 1) := by decide +kernel
theorem dX2_nextState_85 : decode cX2_nextState 85 = .ok (.iaload, 1) := by decide +kernel
theorem dX2_nextState_86 : decode cX2_nextState 86 = .ok (.imul, 1) := by decide +kernel
theorem dX2_nextState_87 : decode cX2_nextState 87 = .ok (.isub, 1) := by decide +kernel
theorem dX2_nextState_88 : decode cX2_nextState 88 = .ok (.putfield 56, 3) := by decide +kernel
theorem dX2_nextState_91 : decode cX2_nextState 91 = .ok (.aload_n 0, 1) := by decide +kernel
theorem dX2_nextState_92 : decode cX2_nextState 92 = .ok (.dup, 1) := by decide +kernel
theorem dX2_nextState_93 : decode cX2_nextState 93 = .ok (.getfield 59, 3) := by decide +kernel
theorem dX2_nextState_96 : decode cX2_nextState 96 = .ok (.aload_n 0, 1) := by decide +kernel
theorem dX2_nextState_97 : decode cX2_nextState 97 = .ok (.getfield 44, 3) := by decide +kernel
theorem dX2_nextState_100 : decode cX2_nextState 100 = .ok (.iload_n 1, 1) := by decide +kernel
theorem dX2_nextState_101 : decode cX2_nextState 101 = .ok (.iaload, 1) := by decide +kernel
theorem dX2_nextState_102 : decode cX2_nextState 102 = .ok (.aload_n 0, 1) := by decide +kernel
theorem dX2_nextState_103 : decode cX2_nextState 103 = .ok (.getfield 47, 3) := by decide +kernel
theorem dX2_nextState_106 : decode cX2_nextState 106 = .ok (.iload_n 1, 1) := by decide +kernel
theorem dX2_nextState_107 : decode cX2_nextState 107 = .ok (.iaload, 1) := by decide +kernel
theorem dX2_nextState_108 : decode cX2_nextState 108 = .ok (.isub, 1) := by decide +kernel
theorem dX2_nextState_109 : decode cX2_nextState 109 = .ok (.isub, 1) := by decide +kernel
theorem dX2_nextState_110 : decode cX2_nextState 110 = .ok (.putfield 59, 3) := by decide +kernel
theorem dX2_nextState_113 : decode cX2_nextState 113 = .ok (.aload_n 0, 1) := by decide +kernel
theorem dX2_nextState_114 : decode cX2_nextState 114 = .ok (.getfield 44, 3) := by decide +kernel
theorem dX2_nextState_117 : decode cX2_nextState 117 = .ok (.iload_n 1, 1) := by decide +kernel
theorem dX2_nextState_118 : decode cX2_nextState 118 = .ok (.aload_n 0, 1) := by decide +kernel
theorem dX2_nextState_119 : decode cX2_nextState 119 = .ok (.getfield 47, 3) := by decide +kernel
theorem dX2_nextState_122 : decode cX2_nextState 122 = .ok (.iload_n 1, 1) := by decide +kernel
theorem dX2_nextState_123 : decode cX2_nextState 123 = .ok (.iaload, 1) := by decide +kernel
theorem dX2_nextState_124 : decode cX2_nextState 124 = .ok (.iastore, 1) := by decide +kernel
theorem dX2_nextState_125 : decode cX2_nextState 125 = .ok (.iinc 1 1, 3) := by decide +kernel
theorem dX2_nextState_128 : decode cX2_nextState 128 = .ok (.goto (-126), 3) := by decide +kernel
theorem dX2_nextState_131 : decode cX2_nextState 131 = .ok (.return_, 1) := by decide +kernel
def b2_nextState_2  (rec2 : Int32 → mm_M → Option (mm_M)) (x1 : Int32) (M : mm_M) : Option (mm_M) :=
  if 4 ≤ x1 then (some M) else (aI 36 4 x1 M (fun w_1 => aI 38 4 x1 M (fun w_2 => if w_2 ≤ w_1 then (bI (mI M 26 15) (fun v_3 => aI 36 4 x1 M (fun w_4 => aI 37 4 x1 M (fun w_5 => aI 33 16 (1 <<< (x1 &&& 31)) M (fun w_6 => bM (sI M 26 15 (v_3 - ((w_4 - w_5) * w_6))) (fun M => bI (mI M 26 16) (fun v_7 => aI 36 4 x1 M (fun w_8 => aI 37 4 x1 M (fun w_9 => bM (sI M 26 16 (v_7 - (w_8 - w_9))) (fun M => aI 37 4 x1 M (fun w_10 => uI 36 4 x1 w_10 M (fun M => rec2 (x1 + 1) M)))))))))))) else (aI 36 4 x1 M (fun w_11 => uI 36 4 x1 (w_11 + 1) M (fun M => bI (mI M 26 16) (fun v_12 => bM (sI M 26 16 (v_12 + 1)) (fun M => bI (mI M 26 15) (fun v_13 => aI 33 16 (1 <<< (x1 &&& 31)) M (fun w_14 => bM (sI M 26 15 (v_13 + w_14)) (fun M => some M)))))))))))
set_option maxHeartbeats 2000000 in
theorem sb2_nextState_2   (rec2 : Int32 → mm_M → Option (mm_M)) (hrec2 : ∀ (x1 : Int32) (M : mm_M), Snd injV j2_nextState mm_X0 2 [some (.ref 26), some (.int x1)] [] M (rec2 x1 M)) (x1 : Int32)  (M : mm_M) : Snd injV j2_nextState mm_X0 2 [some (.ref 26), some (.int x1)] [] M (b2_nextState_2  rec2 x1 M) := by
  unfold b2_nextState_2
  refine sn_iload_n (j := j2_nextState) (pc := 2) rfl rfl dX2_nextState_2 ?_
  refine sn_iconst (j := j2_nextState) (pc := 3) 4 rfl dX2_nextState_3 ?_
  refine sn_icmp_ge (j := j2_nextState) (pc := 4) 131 rfl dX2_nextState_4 ?_ ?_
  · exact sn_vret (j := j2_nextState) (pc := 131) rfl dX2_nextState_131
  · refine sn_aload_n (j := j2_nextState) (pc := 7) rfl rfl dX2_nextState_7 ?_
    refine g_X2_44 (j := j2_nextState) (pc := 8) rfl dX2_nextState_8 ?_
    refine sn_iload_n (j := j2_nextState) (pc := 11) rfl rfl dX2_nextState_11 ?_
    refine sn_iald (j := j2_nextState) (pc := 12) rfl ⟨by decide, by decide⟩ dX2_nextState_12 (fun w_1 => ?_)
    refine sn_aload_n (j := j2_nextState) (pc := 13) rfl rfl dX2_nextState_13 ?_
    refine g_X2_50 (j := j2_nextState) (pc := 14) rfl dX2_nextState_14 ?_
    refine sn_iload_n (j := j2_nextState) (pc := 17) rfl rfl dX2_nextState_17 ?_
    refine sn_iald (j := j2_nextState) (pc := 18) rfl ⟨by decide, by decide⟩ dX2_nextState_18 (fun w_2 => ?_)
    refine sn_icmp_ge (j := j2_nextState) (pc := 19) 60 rfl dX2_nextState_19 ?_ ?_
    · refine sn_aload_n (j := j2_nextState) (pc := 60) rfl rfl dX2_nextState_60 ?_
      refine sn_dup (j := j2_nextState) (pc := 61) rfl dX2_nextState_61 ?_
      refine g_X2_56 (j := j2_nextState) (pc := 62) rfl dX2_nextState_62 ?_
      refine Snd.bI (fun v_3 => ?_)
      refine sn_aload_n (j := j2_nextState) (pc := 65) rfl rfl dX2_nextState_65 ?_
      refine g_X2_44 (j := j2_nextState) (pc := 66) rfl dX2_nextState_66 ?_
      refine sn_iload_n (j := j2_nextState) (pc := 69) rfl rfl dX2_nextState_69 ?_
      refine sn_iald (j := j2_nextState) (pc := 70) rfl ⟨by decide, by decide⟩ dX2_nextState_70 (fun w_4 => ?_)
      refine sn_aload_n (j := j2_nextState) (pc := 71) rfl rfl dX2_nextState_71 ?_
      refine g_X2_47 (j := j2_nextState) (pc := 72) rfl dX2_nextState_72 ?_
      refine sn_iload_n (j := j2_nextState) (pc := 75) rfl rfl dX2_nextState_75 ?_
      refine sn_iald (j := j2_nextState) (pc := 76) rfl ⟨by decide, by decide⟩ dX2_nextState_76 (fun w_5 => ?_)
      refine sn_isub (j := j2_nextState) (pc := 77) dX2_nextState_77 ?_
      refine sn_aload_n (j := j2_nextState) (pc := 78) rfl rfl dX2_nextState_78 ?_
      refine g_X2_34 (j := j2_nextState) (pc := 79) rfl dX2_nextState_79 ?_
      refine sn_iconst (j := j2_nextState) (pc := 82) 1 rfl dX2_nextState_82 ?_
      refine sn_iload_n (j := j2_nextState) (pc := 83) rfl rfl dX2_nextState_83 ?_
      refine sn_ishl (j := j2_nextState) (pc := 84) dX2_nextState_84 ?_
      refine sn_iald (j := j2_nextState) (pc := 85) rfl ⟨by decide, by decide⟩ dX2_nextState_85 (fun w_6 => ?_)
      refine sn_imul (j := j2_nextState) (pc := 86) dX2_nextState_86 ?_
      refine sn_isub (j := j2_nextState) (pc := 87) dX2_nextState_87 ?_
      refine p_X2_56 (j := j2_nextState) (pc := 88) rfl dX2_nextState_88 (fun M => ?_)
      refine sn_aload_n (j := j2_nextState) (pc := 91) rfl rfl dX2_nextState_91 ?_
      refine sn_dup (j := j2_nextState) (pc := 92) rfl dX2_nextState_92 ?_
      refine g_X2_59 (j := j2_nextState) (pc := 93) rfl dX2_nextState_93 ?_
      refine Snd.bI (fun v_7 => ?_)
      refine sn_aload_n (j := j2_nextState) (pc := 96) rfl rfl dX2_nextState_96 ?_
      refine g_X2_44 (j := j2_nextState) (pc := 97) rfl dX2_nextState_97 ?_
      refine sn_iload_n (j := j2_nextState) (pc := 100) rfl rfl dX2_nextState_100 ?_
      refine sn_iald (j := j2_nextState) (pc := 101) rfl ⟨by decide, by decide⟩ dX2_nextState_101 (fun w_8 => ?_)
      refine sn_aload_n (j := j2_nextState) (pc := 102) rfl rfl dX2_nextState_102 ?_
      refine g_X2_47 (j := j2_nextState) (pc := 103) rfl dX2_nextState_103 ?_
      refine sn_iload_n (j := j2_nextState) (pc := 106) rfl rfl dX2_nextState_106 ?_
      refine sn_iald (j := j2_nextState) (pc := 107) rfl ⟨by decide, by decide⟩ dX2_nextState_107 (fun w_9 => ?_)
      refine sn_isub (j := j2_nextState) (pc := 108) dX2_nextState_108 ?_
      refine sn_isub (j := j2_nextState) (pc := 109) dX2_nextState_109 ?_
      refine p_X2_59 (j := j2_nextState) (pc := 110) rfl dX2_nextState_110 (fun M => ?_)
      refine sn_aload_n (j := j2_nextState) (pc := 113) rfl rfl dX2_nextState_113 ?_
      refine g_X2_44 (j := j2_nextState) (pc := 114) rfl dX2_nextState_114 ?_
      refine sn_iload_n (j := j2_nextState) (pc := 117) rfl rfl dX2_nextState_117 ?_
      refine sn_aload_n (j := j2_nextState) (pc := 118) rfl rfl dX2_nextState_118 ?_
      refine g_X2_47 (j := j2_nextState) (pc := 119) rfl dX2_nextState_119 ?_
      refine sn_iload_n (j := j2_nextState) (pc := 122) rfl rfl dX2_nextState_122 ?_
      refine sn_iald (j := j2_nextState) (pc := 123) rfl ⟨by decide, by decide⟩ dX2_nextState_123 (fun w_10 => ?_)
      refine sn_iast (j := j2_nextState) (pc := 124) rfl ⟨by decide, by decide⟩ dX2_nextState_124 (fun M => ?_)
      refine sn_iinc (j := j2_nextState) (pc := 125) 1 rfl (by decide) rfl (lo' := [some (.ref 26), some (.int (x1 + 1))]) rfl dX2_nextState_125 ?_
      refine sn_goto (j := j2_nextState) (pc := 128) 2 rfl dX2_nextState_128 ?_
      exact Snd.wk (hrec2 (x1 + 1) M ) (by simp [mm_le])
    · refine sn_aload_n (j := j2_nextState) (pc := 22) rfl rfl dX2_nextState_22 ?_
      refine g_X2_44 (j := j2_nextState) (pc := 23) rfl dX2_nextState_23 ?_
      refine sn_iload_n (j := j2_nextState) (pc := 26) rfl rfl dX2_nextState_26 ?_
      refine sn_dup2 (j := j2_nextState) (pc := 27) rfl rfl dX2_nextState_27 ?_
      refine sn_iald (j := j2_nextState) (pc := 28) rfl ⟨by decide, by decide⟩ dX2_nextState_28 (fun w_11 => ?_)
      refine sn_iconst (j := j2_nextState) (pc := 29) 1 rfl dX2_nextState_29 ?_
      refine sn_iadd (j := j2_nextState) (pc := 30) dX2_nextState_30 ?_
      refine sn_iast (j := j2_nextState) (pc := 31) rfl ⟨by decide, by decide⟩ dX2_nextState_31 (fun M => ?_)
      refine sn_aload_n (j := j2_nextState) (pc := 32) rfl rfl dX2_nextState_32 ?_
      refine sn_dup (j := j2_nextState) (pc := 33) rfl dX2_nextState_33 ?_
      refine g_X2_59 (j := j2_nextState) (pc := 34) rfl dX2_nextState_34 ?_
      refine Snd.bI (fun v_12 => ?_)
      refine sn_iconst (j := j2_nextState) (pc := 37) 1 rfl dX2_nextState_37 ?_
      refine sn_iadd (j := j2_nextState) (pc := 38) dX2_nextState_38 ?_
      refine p_X2_59 (j := j2_nextState) (pc := 39) rfl dX2_nextState_39 (fun M => ?_)
      refine sn_aload_n (j := j2_nextState) (pc := 42) rfl rfl dX2_nextState_42 ?_
      refine sn_dup (j := j2_nextState) (pc := 43) rfl dX2_nextState_43 ?_
      refine g_X2_56 (j := j2_nextState) (pc := 44) rfl dX2_nextState_44 ?_
      refine Snd.bI (fun v_13 => ?_)
      refine sn_aload_n (j := j2_nextState) (pc := 47) rfl rfl dX2_nextState_47 ?_
      refine g_X2_34 (j := j2_nextState) (pc := 48) rfl dX2_nextState_48 ?_
      refine sn_iconst (j := j2_nextState) (pc := 51) 1 rfl dX2_nextState_51 ?_
      refine sn_iload_n (j := j2_nextState) (pc := 52) rfl rfl dX2_nextState_52 ?_
      refine sn_ishl (j := j2_nextState) (pc := 53) dX2_nextState_53 ?_
      refine sn_iald (j := j2_nextState) (pc := 54) rfl ⟨by decide, by decide⟩ dX2_nextState_54 (fun w_14 => ?_)
      refine sn_iadd (j := j2_nextState) (pc := 55) dX2_nextState_55 ?_
      refine p_X2_56 (j := j2_nextState) (pc := 56) rfl dX2_nextState_56 (fun M => ?_)
      exact sn_vret (j := j2_nextState) (pc := 59) rfl dX2_nextState_59
def l2_nextState_2  : Nat → Int32 → mm_M → Option (mm_M)
  | 0 => fun _ _ => none
  | n + 1 => fun x1 M => b2_nextState_2  (l2_nextState_2  n) x1 M
theorem sl2_nextState_2   : ∀ (n : Nat) (x1 : Int32)  (M : mm_M), Snd injV j2_nextState mm_X0 2 [some (.ref 26), some (.int x1)] [] M (l2_nextState_2  n x1 M)
  | 0 => fun _  _ => Snd.none
  | n + 1 => fun x1  M => sb2_nextState_2   (l2_nextState_2  n) (fun x1 M  => sl2_nextState_2   n x1  M) x1  M
def f2_nextState  (M : mm_M) : Option (mm_M) :=
  l2_nextState_2 FU 0 M
set_option maxHeartbeats 2000000 in
theorem s2_nextState  (M : mm_M) : Snd injV j2_nextState mm_X0 0 [some (.ref 26)] [] M (f2_nextState  M) := by
  refine Snd.wk (lo' := [some (.ref 26), none]) ?_ (by simp [mm_le])
  unfold f2_nextState
  refine sn_iconst (j := j2_nextState) (pc := 0) 0 rfl dX2_nextState_0 ?_
  refine sn_istore_n (j := j2_nextState) (pc := 1) rfl (by decide) (lo' := [some (.ref 26), some (.int 0)]) rfl dX2_nextState_1 ?_
  exact Snd.wk (sl2_nextState_2 FU 0 M) (by simp [mm_le])

abbrev j2_settle : mm_J := (yX2_settle, cX2_settle, 14, none, 0)
theorem dX2_settle_0 : decode cX2_settle 0 = .ok (.iconst 0, 1) := by decide +kernel
theorem dX2_settle_1 : decode cX2_settle 1 = .ok (.istore_n 2, 1) := by decide +kernel
theorem dX2_settle_2 : decode cX2_settle 2 = .ok (.iconst 0, 1) := by decide +kernel
theorem dX2_settle_3 : decode cX2_settle 3 = .ok (.istore_n 3, 1) := by decide +kernel
theorem dX2_settle_4 : decode cX2_settle 4 = .ok (.iconst 0, 1) := by decide +kernel
theorem dX2_settle_5 : decode cX2_settle 5 = .ok (.istore 4, 2) := by decide +kernel
theorem dX2_settle_7 : decode cX2_settle 7 = .ok (.iload 4, 2) := by decide +kernel
theorem dX2_settle_9 : decode cX2_settle 9 = .ok (.iconst 4, 1) := by decide +kernel
theorem dX2_settle_10 : decode cX2_settle 10 = .ok (.if_icmp .ge 62, 3) := by decide +kernel
theorem dX2_settle_13 : decode cX2_settle 13 = .ok (.aload_n 0, 1) := by decide +kernel
theorem dX2_settle_14 : decode cX2_settle 14 = .ok (.getfield 44, 3) := by decide +kernel
theorem dX2_settle_17 : decode cX2_settle 17 = .ok (.iload 4, 2) := by decide +kernel
theorem dX2_settle_19 : decode cX2_settle 19 = .ok (.iaload, 1) := by decide +kernel
theorem dX2_settle_20 : decode cX2_settle 20 = .ok (.aload_n 0, 1) := by decide +kernel
theorem dX2_settle_21 : decode cX2_settle 21 = .ok (.getfield 25, 3) := by decide +kernel
theorem dX2_settle_24 : decode cX2_settle 24 = .ok (.iload 4, 2) := by decide +kernel
theorem dX2_settle_26 : decode cX2_settle 26 = .ok (.iaload, 1) := by decide +kernel
theorem dX2_settle_27 : decode cX2_settle 27 = .ok (.if_icmp .ge 15, 3) := by decide +kernel
theorem dX2_settle_30 : decode cX2_settle 30 = .ok (.iload_n 2, 1) := by decide +kernel
theorem dX2_settle_31 : decode cX2_settle 31 = .ok (.iconst 1, 1) := by decide +kernel
theorem dX2_settle_32 : decode cX2_settle 32 = .ok (.iload 4, 2) := by decide +kernel
theorem dX2_settle_34 : decode cX2_settle 34 = .ok (.ishl, 1) := by decide +kernel
theorem dX2_settle_35 : decode cX2_settle 35 = .ok (.aload_n 0, 1) := by decide +kernel
theorem dX2_settle_36 : decode cX2_settle 36 = .ok (.getfield 62, 3) := by decide +kernel
theorem dX2_settle_39 : decode cX2_settle 39 = .ok (.iand, 1) := by decide +kernel
theorem dX2_settle_40 : decode cX2_settle 40 = .ok (.ior, 1) := by decide +kernel
theorem dX2_settle_41 : decode cX2_settle 41 = .ok (.istore_n 2, 1) := by decide +kernel
theorem dX2_settle_42 : decode cX2_settle 42 = .ok (.aload_n 0, 1) := by decide +kernel
theorem dX2_settle_43 : decode cX2_settle 43 = .ok (.getfield 44, 3) := by decide +kernel
theorem dX2_settle_46 : decode cX2_settle 46 = .ok (.iload 4, 2) := by decide +kernel
theorem dX2_settle_48 : decode cX2_settle 48 = .ok (.iaload, 1) := by decide +kernel
theorem dX2_settle_49 : decode cX2_settle 49 = .ok (.aload_n 0, 1) := by decide +kernel
theorem dX2_settle_50 : decode cX2_settle 50 = .ok (.getfield 53, 3) := by decide +kernel
theorem dX2_settle_53 : decode cX2_settle 53 = .ok (.iload 4, 2) := by decide +kernel
theorem dX2_settle_55 : decode cX2_settle 55 = .ok (.iaload, 1) := by decide +kernel
theorem dX2_settle_56 : decode cX2_settle 56 = .ok (.if_icmp .ge 10, 3) := by decide +kernel
theorem dX2_settle_59 : decode cX2_settle 59 = .ok (.iload_n 3, 1) := by decide +kernel
theorem dX2_settle_60 : decode cX2_settle 60 = .ok (.iconst 1, 1) := by decide +kernel
theorem dX2_settle_61 : decode cX2_settle 61 = .ok (.iload 4, 2) := by decide +kernel
theorem dX2_settle_63 : decode cX2_settle 63 = .ok (.ishl, 1) := by decide +kernel
theorem dX2_settle_64 : decode cX2_settle 64 = .ok (.ior, 1) := by decide +kernel
theorem dX2_settle_65 : decode cX2_settle 65 = .ok (.istore_n 3, 1) := by decide +kernel
theorem dX2_settle_66 : decode cX2_settle 66 = .ok (.iinc 4 1, 3) := by decide +kernel
theorem dX2_settle_69 : decode cX2_settle 69 = .ok (.goto (-62), 3) := by decide +kernel
theorem dX2_settle_72 : decode cX2_settle 72 = .ok (.aload_n 0, 1) := by decide +kernel
theorem dX2_settle_73 : decode cX2_settle 73 = .ok (.getfield 68, 3) := by decide +kernel
theorem dX2_settle_76 : decode cX2_settle 76 = .ok (.getfield 138, 3) := by decide +kernel
theorem dX2_settle_79 : decode cX2_settle 79 = .ok (.iload_n 1, 1) := by decide +kernel
theorem dX2_settle_80 : decode cX2_settle 80 = .ok (.iaload, 1) := by decide +kernel
theorem dX2_settle_81 : decode cX2_settle 81 = .ok (.i2l, 1) := by decide +kernel
theorem dX2_settle_82 : decode cX2_settle 82 = .ok (.ldc2_w 96, 3) := by decide +kernel
theorem dX2_settle_85 : decode cX2_settle 85 = .ok (.lmul, 1) := by decide +kernel
theorem dX2_settle_86 : decode cX2_settle 86 = .ok (.lstore 4, 2) := by decide +kernel
theorem dX2_settle_88 : decode cX2_settle 88 = .ok (.iload_n 3, 1) := by decide +kernel
theorem dX2_settle_89 : decode cX2_settle 89 = .ok (.ifCond .ne 15, 3) := by decide +kernel
theorem dX2_settle_92 : decode cX2_settle 92 = .ok (.aload_n 0, 1) := by decide +kernel
theorem dX2_settle_93 : decode cX2_settle 93 = .ok (.getfield 37, 3) := by decide +kernel
theorem dX2_settle_96 : decode cX2_settle 96 = .ok (.aload_n 0, 1) := by decide +kernel
theorem dX2_settle_97 : decode cX2_settle 97 = .ok (.getfield 56, 3) := by decide +kernel
theorem dX2_settle_100 : decode cX2_settle 100 = .ok (.laload, 1) := by decide +kernel
theorem dX2_settle_101 : decode cX2_settle 101 = .ok (.goto 6, 3) := by decide +kernel
theorem dX2_settle_104 : decode cX2_settle 104 = .ok (.ldc2_w 133, 3) := by decide +kernel
theorem dX2_settle_107 : decode cX2_settle 107 = .ok (.lstore 6, 2) := by decide +kernel
theorem dX2_settle_109 : decode cX2_settle 109 = .ok (.iconst 0, 1) := by decide +kernel
theorem dX2_settle_110 : decode cX2_settle 110 = .ok (.istore 8, 2) := by decide +kernel
theorem dX2_settle_112 : decode cX2_settle 112 = .ok (.iconst 1, 1) := by decide +kernel
theorem dX2_settle_113 : decode cX2_settle 113 = .ok (.istore 9, 2) := by decide +kernel
theorem dX2_settle_115 : decode cX2_settle 115 = .ok (.iload 9, 2) := by decide +kernel
theorem dX2_settle_117 : decode cX2_settle 117 = .ok (.iload_n 2, 1) := by decide +kernel
theorem dX2_settle_118 : decode cX2_settle 118 = .ok (.if_icmp .gt 158, 3) := by decide +kernel
theorem dX2_settle_121 : decode cX2_settle 121 = .ok (.iload 9, 2) := by decide +kernel
theorem dX2_settle_123 : decode cX2_settle 123 = .ok (.iload_n 2, 1) := by decide +kernel
theorem dX2_settle_124 : decode cX2_settle 124 = .ok (.iconst (-1), 1) := by decide +kernel
theorem dX2_settle_125 : decode cX2_settle 125 = .ok (.ixor, 1) := by decide +kernel
theorem dX2_settle_126 : decode cX2_settle 126 = .ok (.iand, 1) := by decide +kernel
theorem dX2_settle_127 : decode cX2_settle 127 = .ok (.ifCond .ne 143, 3) := by decide +kernel
theorem dX2_settle_130 : decode cX2_settle 130 = .ok (.getstatic 141, 3) := by decide +kernel
theorem dX2_settle_133 : decode cX2_settle 133 = .ok (.iload 9, 2) := by decide +kernel
theorem dX2_settle_135 : decode cX2_settle 135 = .ok (.iaload, 1) := by decide +kernel
theorem dX2_settle_136 : decode cX2_settle 136 = .ok (.aload_n 0, 1) := by decide +kernel
theorem dX2_settle_137 : decode cX2_settle 137 = .ok (.getfield 11, 3) := by decide +kernel
theorem dX2_settle_140 : decode cX2_settle 140 = .ok (.iconst 0, 1) := by decide +kernel
theorem dX2_settle_141 : decode cX2_settle 141 = .ok (.iaload, 1) := by decide +kernel
theorem dX2_settle_142 : decode cX2_settle 142 = .ok (.if_icmp .le 6, 3) := by decide +kernel
theorem dX2_settle_145 : decode cX2_settle 145 = .ok (.goto 125, 3) := by decide +kernel
theorem dX2_settle_148 : decode cX2_settle 148 = .ok (.getstatic 144, 3) := by decide +kernel
theorem dX2_settle_151 : decode cX2_settle 151 = .ok (.iload 9, 2) := by decide +kernel
theorem dX2_settle_153 : decode cX2_settle 153 = .ok (.iaload, 1) := by decide +kernel
theorem dX2_settle_154 : decode cX2_settle 154 = .ok (.istore 10, 2) := by decide +kernel
theorem dX2_settle_156 : decode cX2_settle 156 = .ok (.aload_n 0, 1) := by decide +kernel
theorem dX2_settle_157 : decode cX2_settle 157 = .ok (.getfield 65, 3) := by decide +kernel
theorem dX2_settle_160 : decode cX2_settle 160 = .ok (.iload 9, 2) := by decide +kernel
theorem dX2_settle_162 : decode cX2_settle 162 = .ok (.iload 9, 2) := by decide +kernel
theorem dX2_settle_164 : decode cX2_settle 164 = .ok (.iconst 1, 1) := by decide +kernel
theorem dX2_settle_165 : decode cX2_settle 165 = .ok (.isub, 1) := by decide +kernel
theorem dX2_settle_166 : decode cX2_settle 166 = .ok (.iand, 1) := by decide +kernel
theorem dX2_settle_167 : decode cX2_settle 167 = .ok (.iaload, 1) := by decide +kernel
theorem dX2_settle_168 : decode cX2_settle 168 = .ok (.aload_n 0, 1) := by decide +kernel
theorem dX2_settle_169 : decode cX2_settle 169 = .ok (.getfield 28, 3) := by decide +kernel
theorem dX2_settle_172 : decode cX2_settle 172 = .ok (.iload 10, 2) := by decide +kernel
theorem dX2_settle_174 : decode cX2_settle 174 = .ok (.bipush 9, 2) := by decide +kernel
theorem dX2_settle_176 : decode cX2_settle 176 = .ok (.imul, 1) := by decide +kernel
theorem dX2_settle_177 : decode cX2_settle 177 = .ok (.aload_n 0, 1) := by decide +kernel
theorem dX2_settle_178 : decode cX2_settle 178 = .ok (.getfield 44, 3) := by decide +kernel
theorem dX2_settle_181 : decode cX2_settle 181 = .ok (.iload 10, 2) := by decide +kernel
theorem dX2_settle_183 : decode cX2_settle 183 = .ok (.iaload, 1) := by decide +kernel
theorem dX2_settle_184 : decode cX2_settle 184 = .ok (.iadd, 1) := by decide +kernel
theorem dX2_settle_185 : decode cX2_settle 185 = .ok (.iaload, 1) := by decide +kernel
theorem dX2_settle_186 : decode cX2_settle 186 = .ok (.iadd, 1) := by decide +kernel
theorem dX2_settle_187 : decode cX2_settle 187 = .ok (.istore 11, 2) := by decide +kernel
theorem dX2_settle_189 : decode cX2_settle 189 = .ok (.aload_n 0, 1) := by decide +kernel
theorem dX2_settle_190 : decode cX2_settle 190 = .ok (.getfield 65, 3) := by decide +kernel
theorem dX2_settle_193 : decode cX2_settle 193 = .ok (.iload 9, 2) := by decide +kernel
theorem dX2_settle_195 : decode cX2_settle 195 = .ok (.iload 11, 2) := by decide +kernel
theorem dX2_settle_197 : decode cX2_settle 197 = .ok (.iastore, 1) := by decide +kernel
theorem dX2_settle_198 : decode cX2_settle 198 = .ok (.iload 11, 2) := by decide +kernel
theorem dX2_settle_200 : decode cX2_settle 200 = .ok (.aload_n 0, 1) := by decide +kernel
theorem dX2_settle_201 : decode cX2_settle 201 = .ok (.getfield 11, 3) := by decide +kernel
theorem dX2_settle_204 : decode cX2_settle 204 = .ok (.iconst 2, 1) := by decide +kernel
theorem dX2_settle_205 : decode cX2_settle 205 = .ok (.iaload, 1) := by decide +kernel
theorem dX2_settle_206 : decode cX2_settle 206 = .ok (.if_icmp .gt 64, 3) := by decide +kernel
theorem dX2_settle_209 : decode cX2_settle 209 = .ok (.iload 9, 2) := by decide +kernel
theorem dX2_settle_211 : decode cX2_settle 211 = .ok (.iload_n 3, 1) := by decide +kernel
theorem dX2_settle_212 : decode cX2_settle 212 = .ok (.iand, 1) := by decide +kernel
theorem dX2_settle_213 : decode cX2_settle 213 = .ok (.iload_n 3, 1) := by decide +kernel
theorem dX2_settle_214 : decode cX2_settle 214 = .ok (.if_icmp .eq 6, 3) := by decide +kernel
theorem dX2_settle_217 : decode cX2_settle 217 = .ok (.goto 53, 3) := by decide +kernel
theorem dX2_settle_220 : decode cX2_settle 220 = .ok (.aload_n 0, 1) := by decide +kernel
theorem dX2_settle_221 : decode cX2_settle 221 = .ok (.getfield 37, 3) := by decide +kernel
theorem dX2_settle_224 : decode cX2_settle 224 = .ok (.aload_n 0, 1) := by decide +kernel
theorem dX2_settle_225 : decode cX2_settle 225 = .ok (.getfield 56, 3) := by decide +kernel
theorem dX2_settle_228 : decode cX2_settle 228 = .ok (.aload_n 0, 1) := by decide +kernel
theorem dX2_settle_229 : decode cX2_settle 229 = .ok (.getfield 34, 3) := by decide +kernel
theorem dX2_settle_232 : decode cX2_settle 232 = .ok (.iload 9, 2) := by decide +kernel
theorem dX2_settle_234 : decode cX2_settle 234 = .ok (.iaload, 1) := by decide +kernel
theorem dX2_settle_235 : decode cX2_settle 235 = .ok (.iadd, 1) := by decide +kernel
theorem dX2_settle_236 : decode cX2_settle 236 = .ok (.laload, 1) := by decide +kernel
theorem dX2_settle_237 : decode cX2_settle 237 = .ok (.iload 11, 2) := by decide +kernel
theorem dX2_settle_239 : decode cX2_settle 239 = .ok (.i2l, 1) := by decide +kernel
theorem dX2_settle_240 : decode cX2_settle 240 = .ok (.lload 4, 2) := by decide +kernel
theorem dX2_settle_242 : decode cX2_settle 242 = .ok (.lmul, 1) := by decide +kernel
theorem dX2_settle_243 : decode cX2_settle 243 = .ok (.ladd, 1) := by decide +kernel
theorem dX2_settle_244 : decode cX2_settle 244 = .ok (.getstatic 141, 3) := by decide +kernel
theorem dX2_settle_247 : decode cX2_settle 247 = .ok (.iload 9, 2) := by decide +kernel
theorem dX2_settle_249 : decode cX2_settle 249 = .ok (.iaload, 1) := by decide +kernel
theorem dX2_settle_250 : decode cX2_settle 250 = .ok (.i2l, 1) := by decide +kernel
theorem dX2_settle_251 : decode cX2_settle 251 = .ok (.ladd, 1) := by decide +kernel
theorem dX2_settle_252 : decode cX2_settle 252 = .ok (.lstore 12, 2) := by decide +kernel
theorem dX2_settle_254 : decode cX2_settle 254 = .ok (.lload 12, 2) := by decide +kernel
theorem dX2_settle_256 : decode cX2_settle 256 = .ok (.lload 6, 2) := by decide +kernel
theorem dX2_settle_258 : decode cX2_settle 258 = .ok (.lcmp, 1) := by decide +kernel
theorem dX2_settle_259 : decode cX2_settle 259 = .ok (.ifCond .ge 11, 3) := by decide +kernel
theorem dX2_settle_262 : decode cX2_settle 262 = .ok (.lload 12, 2) := by decide +kernel
theorem dX2_settle_264 : decode cX2_settle 264 = .ok (.lstore 6, 2) := by decide +kernel
theorem dX2_settle_266 : decode cX2_settle 266 = .ok (.iload 9, 2) := by decide +kernel
theorem dX2_settle_268 : decode cX2_settle 268 = .ok (.istore 8, 2) := by decide +kernel
theorem dX2_settle_270 : decode cX2_settle 270 = .ok (.iinc 9 1, 3) := by decide +kernel
theorem dX2_settle_273 : decode cX2_settle 273 = .ok (.goto (-158), 3) := by decide +kernel
theorem dX2_settle_276 : decode cX2_settle 276 = .ok (.aload_n 0, 1) := by decide +kernel
theorem dX2_settle_277 : decode cX2_settle 277 = .ok (.getfield 37, 3) := by decide +kernel
theorem dX2_settle_280 : decode cX2_settle 280 = .ok (.aload_n 0, 1) := by decide +kernel
theorem dX2_settle_281 : decode cX2_settle 281 = .ok (.getfield 56, 3) := by decide +kernel
theorem dX2_settle_284 : decode cX2_settle 284 = .ok (.lload 6, 2) := by decide +kernel
theorem dX2_settle_286 : decode cX2_settle 286 = .ok (.lastore, 1) := by decide +kernel
theorem dX2_settle_287 : decode cX2_settle 287 = .ok (.aload_n 0, 1) := by decide +kernel
theorem dX2_settle_288 : decode cX2_settle 288 = .ok (.getfield 41, 3) := by decide +kernel
theorem dX2_settle_291 : decode cX2_settle 291 = .ok (.aload_n 0, 1) := by decide +kernel
theorem dX2_settle_292 : decode cX2_settle 292 = .ok (.getfield 56, 3) := by decide +kernel
theorem dX2_settle_295 : decode cX2_settle 295 = .ok (.aload_n 0, 1) := by decide +kernel
theorem dX2_settle_296 : decode cX2_settle 296 = .ok (.getfield 41, 3) := by decide +kernel
theorem dX2_settle_299 : decode cX2_settle 299 = .ok (.aload_n 0, 1) := by decide +kernel
theorem dX2_settle_300 : decode cX2_settle 300 = .ok (.getfield 56, 3) := by decide +kernel
theorem dX2_settle_303 : decode cX2_settle 303 = .ok (.iaload, 1) := by decide +kernel
theorem dX2_settle_304 : decode cX2_settle 304 = .ok (.bipush 15, 2) := by decide +kernel
theorem dX2_settle_306 : decode cX2_settle 306 = .ok (.iconst 4, 1) := by decide +kernel
theorem dX2_settle_307 : decode cX2_settle 307 = .ok (.iload_n 1, 1) := by decide +kernel
theorem dX2_settle_308 : decode cX2_settle 308 = .ok (.imul, 1) := by decide +kernel
theorem dX2_settle_309 : decode cX2_settle 309 = .ok (.ishl, 1) := by decide +kernel
theorem dX2_settle_310 : decode cX2_settle 310 = .ok (.iconst (-1), 1) := by decide +kernel
theorem dX2_settle_311 : decode cX2_settle 311 = .ok (.ixor, 1) := by decide +kernel
theorem dX2_settle_312 : decode cX2_settle 312 = .ok (.iand, 1) := by decide +kernel
theorem dX2_settle_313 : decode cX2_settle 313 = .ok (.iload 8, 2) := by decide +kernel
theorem dX2_settle_315 : decode cX2_settle 315 = .ok (.iconst 4, 1) := by decide +kernel
theorem dX2_settle_316 : decode cX2_settle 316 = .ok (.iload_n 1, 1) := by decide +kernel
theorem dX2_settle_317 : decode cX2_settle 317 = .ok (.imul, 1) := by decide +kernel
theorem dX2_settle_318 : decode cX2_settle 318 = .ok (.ishl, 1) := by decide +kernel
theorem dX2_settle_319 : decode cX2_settle 319 = .ok (.ior, 1) := by decide +kernel
theorem dX2_settle_320 : decode cX2_settle 320 = .ok (.iastore, 1) := by decide +kernel
theorem dX2_settle_321 : decode cX2_settle 321 = .ok (.return_, 1) := by decide +kernel
def l2_settle_270 (rec115 : Int32 → Int32 → Int32 → Int64 → Int64 → Int32 → Int32 → mm_M → Option (mm_M)) (x1 : Int32) (x2 : Int32) (x3 : Int32) (y4 : Int64) (y6 : Int64) (x8 : Int32) (x9 : Int32) (M : mm_M) : Option (mm_M) :=
  rec115 x1 x2 x3 y4 y6 x8 (x9 + 1) M
set_option maxHeartbeats 2000000 in
theorem sl2_settle_270 (rec115 : Int32 → Int32 → Int32 → Int64 → Int64 → Int32 → Int32 → mm_M → Option (mm_M)) (hrec115 : ∀ (x1 : Int32) (x2 : Int32) (x3 : Int32) (y4 : Int64) (y6 : Int64) (x8 : Int32) (x9 : Int32) (M : mm_M), Snd injV j2_settle mm_X0 115 [some (.ref 26), some (.int x1), some (.int x2), some (.int x3), some (.long y4), none, some (.long y6), none, some (.int x8), some (.int x9), none, none, none, none] [] M (rec115 x1 x2 x3 y4 y6 x8 x9 M)) (x1 : Int32) (x2 : Int32) (x3 : Int32) (y4 : Int64) (y6 : Int64) (x8 : Int32) (x9 : Int32)  (M : mm_M) : Snd injV j2_settle mm_X0 270 [some (.ref 26), some (.int x1), some (.int x2), some (.int x3), some (.long y4), none, some (.long y6), none, some (.int x8), some (.int x9), none, none, none, none] [] M (l2_settle_270 rec115 x1 x2 x3 y4 y6 x8 x9 M) := by
  unfold l2_settle_270
  refine sn_iinc (j := j2_settle) (pc := 270) 1 rfl (by decide) rfl (lo' := [some (.ref 26), some (.int x1), some (.int x2), some (.int x3), some (.long y4), none, some (.long y6), none, some (.int x8), some (.int (x9 + 1)), none, none, none, none]) rfl dX2_settle_270 ?_
  refine sn_goto (j := j2_settle) (pc := 273) 115 rfl dX2_settle_273 ?_
  exact Snd.wk (hrec115 x1 x2 x3 y4 y6 x8 (x9 + 1) M ) (by simp [mm_le])
def b2_settle_115  (rec115 : Int32 → Int32 → Int32 → Int64 → Int64 → Int32 → Int32 → mm_M → Option (mm_M)) (x1 : Int32) (x2 : Int32) (x3 : Int32) (y4 : Int64) (y6 : Int64) (x8 : Int32) (x9 : Int32) (M : mm_M) : Option (mm_M) :=
  if x2 < x9 then (bI (mI M 26 15) (fun v_1 => uL 34 6561 v_1 y6 M (fun M => bI (mI M 26 15) (fun v_2 => bI (mI M 26 15) (fun v_3 => aI 35 6561 v_3 M (fun w_4 => uI 35 6561 v_2 ((w_4 &&& ((15 <<< ((4 * x1) &&& 31)) ^^^ (-1))) ||| (x8 <<< ((4 * x1) &&& 31))) M (fun M => some M))))))) else (if (x9 &&& (x2 ^^^ (-1))) = 0 then (aT 1 16 x9 (fun w_5 => aI 27 3 0 M (fun w_6 => if w_5 ≤ w_6 then (aT 2 16 x9 (fun w_7 => aI 40 16 (x9 &&& (x9 - 1)) M (fun w_8 => aI 36 4 w_7 M (fun w_9 => aI 31 36 ((w_7 * 9) + w_9) M (fun w_10 => bI (w_8 + w_10) (fun x11_11 => uI 40 16 x9 x11_11 M (fun M => aI 27 3 2 M (fun w_12 => if w_12 < x11_11 then (l2_settle_270 rec115 x1 x2 x3 y4 y6 x8 x9 M) else (if (x9 &&& x3) = x3 then (bI (mI M 26 15) (fun v_13 => aI 33 16 x9 M (fun w_14 => aL 34 6561 (v_13 + w_14) M (fun u_15 => aT 1 16 x9 (fun w_16 => bL ((u_15 + (x11_11.toInt64 * y4)) + w_16.toInt64) (fun y12_17 => if 0 ≤ (lg_cmp y12_17 y6) then (l2_settle_270 rec115 x1 x2 x3 y4 y6 x8 x9 M) else (l2_settle_270 rec115 x1 x2 x3 y4 y12_17 x9 x9 M))))))) else (l2_settle_270 rec115 x1 x2 x3 y4 y6 x8 x9 M)))))))))) else (l2_settle_270 rec115 x1 x2 x3 y4 y6 x8 x9 M)))) else (l2_settle_270 rec115 x1 x2 x3 y4 y6 x8 x9 M))
set_option maxHeartbeats 2000000 in
theorem sb2_settle_115   (rec115 : Int32 → Int32 → Int32 → Int64 → Int64 → Int32 → Int32 → mm_M → Option (mm_M)) (hrec115 : ∀ (x1 : Int32) (x2 : Int32) (x3 : Int32) (y4 : Int64) (y6 : Int64) (x8 : Int32) (x9 : Int32) (M : mm_M), Snd injV j2_settle mm_X0 115 [some (.ref 26), some (.int x1), some (.int x2), some (.int x3), some (.long y4), none, some (.long y6), none, some (.int x8), some (.int x9), none, none, none, none] [] M (rec115 x1 x2 x3 y4 y6 x8 x9 M)) (x1 : Int32) (x2 : Int32) (x3 : Int32) (y4 : Int64) (y6 : Int64) (x8 : Int32) (x9 : Int32)  (M : mm_M) : Snd injV j2_settle mm_X0 115 [some (.ref 26), some (.int x1), some (.int x2), some (.int x3), some (.long y4), none, some (.long y6), none, some (.int x8), some (.int x9), none, none, none, none] [] M (b2_settle_115  rec115 x1 x2 x3 y4 y6 x8 x9 M) := by
  unfold b2_settle_115
  refine sn_iload (j := j2_settle) (pc := 115) rfl dX2_settle_115 ?_
  refine sn_iload_n (j := j2_settle) (pc := 117) rfl rfl dX2_settle_117 ?_
  refine sn_icmp_gt (j := j2_settle) (pc := 118) 276 rfl dX2_settle_118 ?_ ?_
  · refine sn_aload_n (j := j2_settle) (pc := 276) rfl rfl dX2_settle_276 ?_
    refine g_X2_37 (j := j2_settle) (pc := 277) rfl dX2_settle_277 ?_
    refine sn_aload_n (j := j2_settle) (pc := 280) rfl rfl dX2_settle_280 ?_
    refine g_X2_56 (j := j2_settle) (pc := 281) rfl dX2_settle_281 ?_
    refine Snd.bI (fun v_1 => ?_)
    refine sn_lload (j := j2_settle) (pc := 284) rfl dX2_settle_284 ?_
    refine sn_last (j := j2_settle) (pc := 286) rfl ⟨by decide, by decide⟩ dX2_settle_286 (fun M => ?_)
    refine sn_aload_n (j := j2_settle) (pc := 287) rfl rfl dX2_settle_287 ?_
    refine g_X2_41 (j := j2_settle) (pc := 288) rfl dX2_settle_288 ?_
    refine sn_aload_n (j := j2_settle) (pc := 291) rfl rfl dX2_settle_291 ?_
    refine g_X2_56 (j := j2_settle) (pc := 292) rfl dX2_settle_292 ?_
    refine Snd.bI (fun v_2 => ?_)
    refine sn_aload_n (j := j2_settle) (pc := 295) rfl rfl dX2_settle_295 ?_
    refine g_X2_41 (j := j2_settle) (pc := 296) rfl dX2_settle_296 ?_
    refine sn_aload_n (j := j2_settle) (pc := 299) rfl rfl dX2_settle_299 ?_
    refine g_X2_56 (j := j2_settle) (pc := 300) rfl dX2_settle_300 ?_
    refine Snd.bI (fun v_3 => ?_)
    refine sn_iald (j := j2_settle) (pc := 303) rfl ⟨by decide, by decide⟩ dX2_settle_303 (fun w_4 => ?_)
    refine sn_bipush (j := j2_settle) (pc := 304) 15 rfl dX2_settle_304 ?_
    refine sn_iconst (j := j2_settle) (pc := 306) 4 rfl dX2_settle_306 ?_
    refine sn_iload_n (j := j2_settle) (pc := 307) rfl rfl dX2_settle_307 ?_
    refine sn_imul (j := j2_settle) (pc := 308) dX2_settle_308 ?_
    refine sn_ishl (j := j2_settle) (pc := 309) dX2_settle_309 ?_
    refine sn_iconst (j := j2_settle) (pc := 310) (-1) rfl dX2_settle_310 ?_
    refine sn_ixor (j := j2_settle) (pc := 311) dX2_settle_311 ?_
    refine sn_iand (j := j2_settle) (pc := 312) dX2_settle_312 ?_
    refine sn_iload (j := j2_settle) (pc := 313) rfl dX2_settle_313 ?_
    refine sn_iconst (j := j2_settle) (pc := 315) 4 rfl dX2_settle_315 ?_
    refine sn_iload_n (j := j2_settle) (pc := 316) rfl rfl dX2_settle_316 ?_
    refine sn_imul (j := j2_settle) (pc := 317) dX2_settle_317 ?_
    refine sn_ishl (j := j2_settle) (pc := 318) dX2_settle_318 ?_
    refine sn_ior (j := j2_settle) (pc := 319) dX2_settle_319 ?_
    refine sn_iast (j := j2_settle) (pc := 320) rfl ⟨by decide, by decide⟩ dX2_settle_320 (fun M => ?_)
    exact sn_vret (j := j2_settle) (pc := 321) rfl dX2_settle_321
  · refine sn_iload (j := j2_settle) (pc := 121) rfl dX2_settle_121 ?_
    refine sn_iload_n (j := j2_settle) (pc := 123) rfl rfl dX2_settle_123 ?_
    refine sn_iconst (j := j2_settle) (pc := 124) (-1) rfl dX2_settle_124 ?_
    refine sn_ixor (j := j2_settle) (pc := 125) dX2_settle_125 ?_
    refine sn_iand (j := j2_settle) (pc := 126) dX2_settle_126 ?_
    refine sn_if_ne (j := j2_settle) (pc := 127) 270 rfl dX2_settle_127 ?_ ?_
    · exact Snd.wk (sl2_settle_270 rec115 hrec115 x1 x2 x3 y4 y6 x8 x9 M) (by simp [mm_le])
    · refine sn_gstN (j := j2_settle) (pc := 130) (t := 1) mm_Z1 mm_rn_X2_141 dX2_settle_130 ?_
      refine sn_iload (j := j2_settle) (pc := 133) rfl dX2_settle_133 ?_
      refine sn_tald (j := j2_settle) (pc := 135) (t := 1) mm_T1 dX2_settle_135 (fun w_5 => ?_)
      refine sn_aload_n (j := j2_settle) (pc := 136) rfl rfl dX2_settle_136 ?_
      refine g_X2_11 (j := j2_settle) (pc := 137) rfl dX2_settle_137 ?_
      refine sn_iconst (j := j2_settle) (pc := 140) 0 rfl dX2_settle_140 ?_
      refine sn_iald (j := j2_settle) (pc := 141) rfl ⟨by decide, by decide⟩ dX2_settle_141 (fun w_6 => ?_)
      refine sn_icmp_le (j := j2_settle) (pc := 142) 148 rfl dX2_settle_142 ?_ ?_
      · refine sn_gstN (j := j2_settle) (pc := 148) (t := 2) mm_Z2 mm_rn_X2_144 dX2_settle_148 ?_
        refine sn_iload (j := j2_settle) (pc := 151) rfl dX2_settle_151 ?_
        refine sn_tald (j := j2_settle) (pc := 153) (t := 2) mm_T2 dX2_settle_153 (fun w_7 => ?_)
        refine sn_istore (j := j2_settle) (pc := 154) (by decide) (lo' := [some (.ref 26), some (.int x1), some (.int x2), some (.int x3), some (.long y4), none, some (.long y6), none, some (.int x8), some (.int x9), some (.int w_7), none, none, none]) rfl dX2_settle_154 ?_
        refine sn_aload_n (j := j2_settle) (pc := 156) rfl rfl dX2_settle_156 ?_
        refine g_X2_65 (j := j2_settle) (pc := 157) rfl dX2_settle_157 ?_
        refine sn_iload (j := j2_settle) (pc := 160) rfl dX2_settle_160 ?_
        refine sn_iload (j := j2_settle) (pc := 162) rfl dX2_settle_162 ?_
        refine sn_iconst (j := j2_settle) (pc := 164) 1 rfl dX2_settle_164 ?_
        refine sn_isub (j := j2_settle) (pc := 165) dX2_settle_165 ?_
        refine sn_iand (j := j2_settle) (pc := 166) dX2_settle_166 ?_
        refine sn_iald (j := j2_settle) (pc := 167) rfl ⟨by decide, by decide⟩ dX2_settle_167 (fun w_8 => ?_)
        refine sn_aload_n (j := j2_settle) (pc := 168) rfl rfl dX2_settle_168 ?_
        refine g_X2_28 (j := j2_settle) (pc := 169) rfl dX2_settle_169 ?_
        refine sn_iload (j := j2_settle) (pc := 172) rfl dX2_settle_172 ?_
        refine sn_bipush (j := j2_settle) (pc := 174) 9 rfl dX2_settle_174 ?_
        refine sn_imul (j := j2_settle) (pc := 176) dX2_settle_176 ?_
        refine sn_aload_n (j := j2_settle) (pc := 177) rfl rfl dX2_settle_177 ?_
        refine g_X2_44 (j := j2_settle) (pc := 178) rfl dX2_settle_178 ?_
        refine sn_iload (j := j2_settle) (pc := 181) rfl dX2_settle_181 ?_
        refine sn_iald (j := j2_settle) (pc := 183) rfl ⟨by decide, by decide⟩ dX2_settle_183 (fun w_9 => ?_)
        refine sn_iadd (j := j2_settle) (pc := 184) dX2_settle_184 ?_
        refine sn_iald (j := j2_settle) (pc := 185) rfl ⟨by decide, by decide⟩ dX2_settle_185 (fun w_10 => ?_)
        refine sn_iadd (j := j2_settle) (pc := 186) dX2_settle_186 ?_
        refine sn_istoreB (j := j2_settle) (pc := 187) (fun x11_11 => [some (.ref 26), some (.int x1), some (.int x2), some (.int x3), some (.long y4), none, some (.long y6), none, some (.int x8), some (.int x9), some (.int w_7), some (.int x11_11), none, none]) (by decide) (fun _ => rfl) dX2_settle_187 (fun x11_11 => ?_)
        refine sn_aload_n (j := j2_settle) (pc := 189) rfl rfl dX2_settle_189 ?_
        refine g_X2_65 (j := j2_settle) (pc := 190) rfl dX2_settle_190 ?_
        refine sn_iload (j := j2_settle) (pc := 193) rfl dX2_settle_193 ?_
        refine sn_iload (j := j2_settle) (pc := 195) rfl dX2_settle_195 ?_
        refine sn_iast (j := j2_settle) (pc := 197) rfl ⟨by decide, by decide⟩ dX2_settle_197 (fun M => ?_)
        refine sn_iload (j := j2_settle) (pc := 198) rfl dX2_settle_198 ?_
        refine sn_aload_n (j := j2_settle) (pc := 200) rfl rfl dX2_settle_200 ?_
        refine g_X2_11 (j := j2_settle) (pc := 201) rfl dX2_settle_201 ?_
        refine sn_iconst (j := j2_settle) (pc := 204) 2 rfl dX2_settle_204 ?_
        refine sn_iald (j := j2_settle) (pc := 205) rfl ⟨by decide, by decide⟩ dX2_settle_205 (fun w_12 => ?_)
        refine sn_icmp_gt (j := j2_settle) (pc := 206) 270 rfl dX2_settle_206 ?_ ?_
        · exact Snd.wk (sl2_settle_270 rec115 hrec115 x1 x2 x3 y4 y6 x8 x9 M) (by simp [mm_le])
        · refine sn_iload (j := j2_settle) (pc := 209) rfl dX2_settle_209 ?_
          refine sn_iload_n (j := j2_settle) (pc := 211) rfl rfl dX2_settle_211 ?_
          refine sn_iand (j := j2_settle) (pc := 212) dX2_settle_212 ?_
          refine sn_iload_n (j := j2_settle) (pc := 213) rfl rfl dX2_settle_213 ?_
          refine sn_icmp_eq (j := j2_settle) (pc := 214) 220 rfl dX2_settle_214 ?_ ?_
          · refine sn_aload_n (j := j2_settle) (pc := 220) rfl rfl dX2_settle_220 ?_
            refine g_X2_37 (j := j2_settle) (pc := 221) rfl dX2_settle_221 ?_
            refine sn_aload_n (j := j2_settle) (pc := 224) rfl rfl dX2_settle_224 ?_
            refine g_X2_56 (j := j2_settle) (pc := 225) rfl dX2_settle_225 ?_
            refine Snd.bI (fun v_13 => ?_)
            refine sn_aload_n (j := j2_settle) (pc := 228) rfl rfl dX2_settle_228 ?_
            refine g_X2_34 (j := j2_settle) (pc := 229) rfl dX2_settle_229 ?_
            refine sn_iload (j := j2_settle) (pc := 232) rfl dX2_settle_232 ?_
            refine sn_iald (j := j2_settle) (pc := 234) rfl ⟨by decide, by decide⟩ dX2_settle_234 (fun w_14 => ?_)
            refine sn_iadd (j := j2_settle) (pc := 235) dX2_settle_235 ?_
            refine sn_lald (j := j2_settle) (pc := 236) rfl ⟨by decide, by decide⟩ dX2_settle_236 (fun u_15 => ?_)
            refine sn_iload (j := j2_settle) (pc := 237) rfl dX2_settle_237 ?_
            refine sn_i2l (j := j2_settle) (pc := 239) dX2_settle_239 ?_
            refine sn_lload (j := j2_settle) (pc := 240) rfl dX2_settle_240 ?_
            refine sn_lmul (j := j2_settle) (pc := 242) dX2_settle_242 ?_
            refine sn_ladd (j := j2_settle) (pc := 243) dX2_settle_243 ?_
            refine sn_gstN (j := j2_settle) (pc := 244) (t := 1) mm_Z1 mm_rn_X2_141 dX2_settle_244 ?_
            refine sn_iload (j := j2_settle) (pc := 247) rfl dX2_settle_247 ?_
            refine sn_tald (j := j2_settle) (pc := 249) (t := 1) mm_T1 dX2_settle_249 (fun w_16 => ?_)
            refine sn_i2l (j := j2_settle) (pc := 250) dX2_settle_250 ?_
            refine sn_ladd (j := j2_settle) (pc := 251) dX2_settle_251 ?_
            refine sn_lstoreB (j := j2_settle) (pc := 252) (fun y12_17 => [some (.ref 26), some (.int x1), some (.int x2), some (.int x3), some (.long y4), none, some (.long y6), none, some (.int x8), some (.int x9), some (.int w_7), some (.int x11_11), some (.long y12_17), none]) (by decide) (fun _ => rfl) dX2_settle_252 (fun y12_17 => ?_)
            refine sn_lload (j := j2_settle) (pc := 254) rfl dX2_settle_254 ?_
            refine sn_lload (j := j2_settle) (pc := 256) rfl dX2_settle_256 ?_
            refine sn_lcmp (j := j2_settle) (pc := 258) dX2_settle_258 ?_
            refine sn_if_ge (j := j2_settle) (pc := 259) 270 rfl dX2_settle_259 ?_ ?_
            · exact Snd.wk (sl2_settle_270 rec115 hrec115 x1 x2 x3 y4 y6 x8 x9 M) (by simp [mm_le])
            · refine sn_lload (j := j2_settle) (pc := 262) rfl dX2_settle_262 ?_
              refine sn_lstore (j := j2_settle) (pc := 264) (by decide) (lo' := [some (.ref 26), some (.int x1), some (.int x2), some (.int x3), some (.long y4), none, some (.long y12_17), none, some (.int x8), some (.int x9), some (.int w_7), some (.int x11_11), some (.long y12_17), none]) rfl dX2_settle_264 ?_
              refine sn_iload (j := j2_settle) (pc := 266) rfl dX2_settle_266 ?_
              refine sn_istore (j := j2_settle) (pc := 268) (by decide) (lo' := [some (.ref 26), some (.int x1), some (.int x2), some (.int x3), some (.long y4), none, some (.long y12_17), none, some (.int x9), some (.int x9), some (.int w_7), some (.int x11_11), some (.long y12_17), none]) rfl dX2_settle_268 ?_
              exact Snd.wk (sl2_settle_270 rec115 hrec115 x1 x2 x3 y4 y12_17 x9 x9 M) (by simp [mm_le])
          · refine sn_goto (j := j2_settle) (pc := 217) 270 rfl dX2_settle_217 ?_
            exact Snd.wk (sl2_settle_270 rec115 hrec115 x1 x2 x3 y4 y6 x8 x9 M) (by simp [mm_le])
      · refine sn_goto (j := j2_settle) (pc := 145) 270 rfl dX2_settle_145 ?_
        exact Snd.wk (sl2_settle_270 rec115 hrec115 x1 x2 x3 y4 y6 x8 x9 M) (by simp [mm_le])
def l2_settle_115  : Nat → Int32 → Int32 → Int32 → Int64 → Int64 → Int32 → Int32 → mm_M → Option (mm_M)
  | 0 => fun _ _ _ _ _ _ _ _ => none
  | n + 1 => fun x1 x2 x3 y4 y6 x8 x9 M => b2_settle_115  (l2_settle_115  n) x1 x2 x3 y4 y6 x8 x9 M
theorem sl2_settle_115   : ∀ (n : Nat) (x1 : Int32) (x2 : Int32) (x3 : Int32) (y4 : Int64) (y6 : Int64) (x8 : Int32) (x9 : Int32)  (M : mm_M), Snd injV j2_settle mm_X0 115 [some (.ref 26), some (.int x1), some (.int x2), some (.int x3), some (.long y4), none, some (.long y6), none, some (.int x8), some (.int x9), none, none, none, none] [] M (l2_settle_115  n x1 x2 x3 y4 y6 x8 x9 M)
  | 0 => fun _ _ _ _ _ _ _  _ => Snd.none
  | n + 1 => fun x1 x2 x3 y4 y6 x8 x9  M => sb2_settle_115   (l2_settle_115  n) (fun x1 x2 x3 y4 y6 x8 x9 M  => sl2_settle_115   n x1 x2 x3 y4 y6 x8 x9  M) x1 x2 x3 y4 y6 x8 x9  M
def l2_settle_107  (x1 : Int32) (x2 : Int32) (x3 : Int32) (y4 : Int64) (t0 : Int64) (M : mm_M) : Option (mm_M) :=
  l2_settle_115 FU x1 x2 x3 y4 t0 0 1 M
set_option maxHeartbeats 2000000 in
theorem sl2_settle_107   (x1 : Int32) (x2 : Int32) (x3 : Int32) (y4 : Int64) (t0 : Int64)  (M : mm_M) : Snd injV j2_settle mm_X0 107 [some (.ref 26), some (.int x1), some (.int x2), some (.int x3), some (.long y4), none, none, none, none, none, none, none, none, none] [.long t0] M (l2_settle_107  x1 x2 x3 y4 t0 M) := by
  unfold l2_settle_107
  refine sn_lstore (j := j2_settle) (pc := 107) (by decide) (lo' := [some (.ref 26), some (.int x1), some (.int x2), some (.int x3), some (.long y4), none, some (.long t0), none, none, none, none, none, none, none]) rfl dX2_settle_107 ?_
  refine sn_iconst (j := j2_settle) (pc := 109) 0 rfl dX2_settle_109 ?_
  refine sn_istore (j := j2_settle) (pc := 110) (by decide) (lo' := [some (.ref 26), some (.int x1), some (.int x2), some (.int x3), some (.long y4), none, some (.long t0), none, some (.int 0), none, none, none, none, none]) rfl dX2_settle_110 ?_
  refine sn_iconst (j := j2_settle) (pc := 112) 1 rfl dX2_settle_112 ?_
  refine sn_istore (j := j2_settle) (pc := 113) (by decide) (lo' := [some (.ref 26), some (.int x1), some (.int x2), some (.int x3), some (.long y4), none, some (.long t0), none, some (.int 0), some (.int 1), none, none, none, none]) rfl dX2_settle_113 ?_
  exact Snd.wk (sl2_settle_115 FU x1 x2 x3 y4 t0 0 1 M) (by simp [mm_le])
def l2_settle_66 (rec7 : Int32 → Int32 → Int32 → Int32 → mm_M → Option (mm_M)) (x1 : Int32) (x2 : Int32) (x3 : Int32) (x4 : Int32) (M : mm_M) : Option (mm_M) :=
  rec7 x1 x2 x3 (x4 + 1) M
set_option maxHeartbeats 2000000 in
theorem sl2_settle_66 (rec7 : Int32 → Int32 → Int32 → Int32 → mm_M → Option (mm_M)) (hrec7 : ∀ (x1 : Int32) (x2 : Int32) (x3 : Int32) (x4 : Int32) (M : mm_M), Snd injV j2_settle mm_X0 7 [some (.ref 26), some (.int x1), some (.int x2), some (.int x3), some (.int x4), none, none, none, none, none, none, none, none, none] [] M (rec7 x1 x2 x3 x4 M)) (x1 : Int32) (x2 : Int32) (x3 : Int32) (x4 : Int32)  (M : mm_M) : Snd injV j2_settle mm_X0 66 [some (.ref 26), some (.int x1), some (.int x2), some (.int x3), some (.int x4), none, none, none, none, none, none, none, none, none] [] M (l2_settle_66 rec7 x1 x2 x3 x4 M) := by
  unfold l2_settle_66
  refine sn_iinc (j := j2_settle) (pc := 66) 1 rfl (by decide) rfl (lo' := [some (.ref 26), some (.int x1), some (.int x2), some (.int x3), some (.int (x4 + 1)), none, none, none, none, none, none, none, none, none]) rfl dX2_settle_66 ?_
  refine sn_goto (j := j2_settle) (pc := 69) 7 rfl dX2_settle_69 ?_
  exact Snd.wk (hrec7 x1 x2 x3 (x4 + 1) M ) (by simp [mm_le])
def l2_settle_42 (rec7 : Int32 → Int32 → Int32 → Int32 → mm_M → Option (mm_M)) (x1 : Int32) (x2 : Int32) (x3 : Int32) (x4 : Int32) (M : mm_M) : Option (mm_M) :=
  aI 36 4 x4 M (fun w_18 => aI 39 4 x4 M (fun w_19 => if w_19 ≤ w_18 then (l2_settle_66 rec7 x1 x2 x3 x4 M) else (bI (x3 ||| (1 <<< (x4 &&& 31))) (fun x3_20 => l2_settle_66 rec7 x1 x2 x3_20 x4 M))))
set_option maxHeartbeats 2000000 in
theorem sl2_settle_42 (rec7 : Int32 → Int32 → Int32 → Int32 → mm_M → Option (mm_M)) (hrec7 : ∀ (x1 : Int32) (x2 : Int32) (x3 : Int32) (x4 : Int32) (M : mm_M), Snd injV j2_settle mm_X0 7 [some (.ref 26), some (.int x1), some (.int x2), some (.int x3), some (.int x4), none, none, none, none, none, none, none, none, none] [] M (rec7 x1 x2 x3 x4 M)) (x1 : Int32) (x2 : Int32) (x3 : Int32) (x4 : Int32)  (M : mm_M) : Snd injV j2_settle mm_X0 42 [some (.ref 26), some (.int x1), some (.int x2), some (.int x3), some (.int x4), none, none, none, none, none, none, none, none, none] [] M (l2_settle_42 rec7 x1 x2 x3 x4 M) := by
  unfold l2_settle_42
  refine sn_aload_n (j := j2_settle) (pc := 42) rfl rfl dX2_settle_42 ?_
  refine g_X2_44 (j := j2_settle) (pc := 43) rfl dX2_settle_43 ?_
  refine sn_iload (j := j2_settle) (pc := 46) rfl dX2_settle_46 ?_
  refine sn_iald (j := j2_settle) (pc := 48) rfl ⟨by decide, by decide⟩ dX2_settle_48 (fun w_18 => ?_)
  refine sn_aload_n (j := j2_settle) (pc := 49) rfl rfl dX2_settle_49 ?_
  refine g_X2_53 (j := j2_settle) (pc := 50) rfl dX2_settle_50 ?_
  refine sn_iload (j := j2_settle) (pc := 53) rfl dX2_settle_53 ?_
  refine sn_iald (j := j2_settle) (pc := 55) rfl ⟨by decide, by decide⟩ dX2_settle_55 (fun w_19 => ?_)
  refine sn_icmp_ge (j := j2_settle) (pc := 56) 66 rfl dX2_settle_56 ?_ ?_
  · exact Snd.wk (sl2_settle_66 rec7 hrec7 x1 x2 x3 x4 M) (by simp [mm_le])
  · refine sn_iload_n (j := j2_settle) (pc := 59) rfl rfl dX2_settle_59 ?_
    refine sn_iconst (j := j2_settle) (pc := 60) 1 rfl dX2_settle_60 ?_
    refine sn_iload (j := j2_settle) (pc := 61) rfl dX2_settle_61 ?_
    refine sn_ishl (j := j2_settle) (pc := 63) dX2_settle_63 ?_
    refine sn_ior (j := j2_settle) (pc := 64) dX2_settle_64 ?_
    refine sn_istoreB_n (j := j2_settle) (pc := 65) rfl (fun x3_20 => [some (.ref 26), some (.int x1), some (.int x2), some (.int x3_20), some (.int x4), none, none, none, none, none, none, none, none, none]) (by decide) (fun _ => rfl) dX2_settle_65 (fun x3_20 => ?_)
    exact Snd.wk (sl2_settle_66 rec7 hrec7 x1 x2 x3_20 x4 M) (by simp [mm_le])
def b2_settle_7  (rec7 : Int32 → Int32 → Int32 → Int32 → mm_M → Option (mm_M)) (x1 : Int32) (x2 : Int32) (x3 : Int32) (x4 : Int32) (M : mm_M) : Option (mm_M) :=
  if 4 ≤ x4 then (bN (mDep M) (fun d_21 => if isD d_21 = true then (aI (d_21 + 2) 8 x1 M (fun w_22 => bL (w_22.toInt64 * 64) (fun y4_23 => if x3 = 0 then (bI (mI M 26 15) (fun v_24 => aL 34 6561 v_24 M (fun u_25 => l2_settle_107 x1 x2 x3 y4_23 u_25 M))) else (l2_settle_107 x1 x2 x3 y4_23 1125899906842624 M)))) else none)) else (aI 36 4 x4 M (fun w_26 => aI 30 4 x4 M (fun w_27 => if w_27 ≤ w_26 then (l2_settle_42 rec7 x1 x2 x3 x4 M) else (bI (mI M 26 17) (fun v_28 => bI (x2 ||| ((1 <<< (x4 &&& 31)) &&& v_28)) (fun x2_29 => l2_settle_42 rec7 x1 x2_29 x3 x4 M))))))
set_option maxHeartbeats 2000000 in
theorem sb2_settle_7   (rec7 : Int32 → Int32 → Int32 → Int32 → mm_M → Option (mm_M)) (hrec7 : ∀ (x1 : Int32) (x2 : Int32) (x3 : Int32) (x4 : Int32) (M : mm_M), Snd injV j2_settle mm_X0 7 [some (.ref 26), some (.int x1), some (.int x2), some (.int x3), some (.int x4), none, none, none, none, none, none, none, none, none] [] M (rec7 x1 x2 x3 x4 M)) (x1 : Int32) (x2 : Int32) (x3 : Int32) (x4 : Int32)  (M : mm_M) : Snd injV j2_settle mm_X0 7 [some (.ref 26), some (.int x1), some (.int x2), some (.int x3), some (.int x4), none, none, none, none, none, none, none, none, none] [] M (b2_settle_7  rec7 x1 x2 x3 x4 M) := by
  unfold b2_settle_7
  refine sn_iload (j := j2_settle) (pc := 7) rfl dX2_settle_7 ?_
  refine sn_iconst (j := j2_settle) (pc := 9) 4 rfl dX2_settle_9 ?_
  refine sn_icmp_ge (j := j2_settle) (pc := 10) 72 rfl dX2_settle_10 ?_ ?_
  · refine sn_aload_n (j := j2_settle) (pc := 72) rfl rfl dX2_settle_72 ?_
    refine g_X2_68 (j := j2_settle) (pc := 73) rfl dX2_settle_73 (fun d_21 => ?_)
    refine Snd.ite fun hd_21 => ?_
    refine g_X2_138 (j := j2_settle) (pc := 76) hd_21 rfl dX2_settle_76 ?_
    refine sn_iload_n (j := j2_settle) (pc := 79) rfl rfl dX2_settle_79 ?_
    refine sn_iald (j := j2_settle) (pc := 80) (isD_a2 hd_21) (isD_p2 hd_21) dX2_settle_80 (fun w_22 => ?_)
    refine sn_i2l (j := j2_settle) (pc := 81) dX2_settle_81 ?_
    refine sn_ldc2 (j := j2_settle) (pc := 82) w_cl_X2_96 dX2_settle_82 ?_
    refine sn_lmul (j := j2_settle) (pc := 85) dX2_settle_85 ?_
    refine sn_lstoreB (j := j2_settle) (pc := 86) (fun y4_23 => [some (.ref 26), some (.int x1), some (.int x2), some (.int x3), some (.long y4_23), none, none, none, none, none, none, none, none, none]) (by decide) (fun _ => rfl) dX2_settle_86 (fun y4_23 => ?_)
    refine sn_iload_n (j := j2_settle) (pc := 88) rfl rfl dX2_settle_88 ?_
    refine sn_if_ne (j := j2_settle) (pc := 89) 104 rfl dX2_settle_89 ?_ ?_
    · refine sn_ldc2 (j := j2_settle) (pc := 104) w_cl_X2_133 dX2_settle_104 ?_
      exact Snd.wk (sl2_settle_107 x1 x2 x3 y4_23 1125899906842624 M) (by simp [mm_le])
    · refine sn_aload_n (j := j2_settle) (pc := 92) rfl rfl dX2_settle_92 ?_
      refine g_X2_37 (j := j2_settle) (pc := 93) rfl dX2_settle_93 ?_
      refine sn_aload_n (j := j2_settle) (pc := 96) rfl rfl dX2_settle_96 ?_
      refine g_X2_56 (j := j2_settle) (pc := 97) rfl dX2_settle_97 ?_
      refine Snd.bI (fun v_24 => ?_)
      refine sn_lald (j := j2_settle) (pc := 100) rfl ⟨by decide, by decide⟩ dX2_settle_100 (fun u_25 => ?_)
      refine sn_goto (j := j2_settle) (pc := 101) 107 rfl dX2_settle_101 ?_
      exact Snd.wk (sl2_settle_107 x1 x2 x3 y4_23 u_25 M) (by simp [mm_le])
  · refine sn_aload_n (j := j2_settle) (pc := 13) rfl rfl dX2_settle_13 ?_
    refine g_X2_44 (j := j2_settle) (pc := 14) rfl dX2_settle_14 ?_
    refine sn_iload (j := j2_settle) (pc := 17) rfl dX2_settle_17 ?_
    refine sn_iald (j := j2_settle) (pc := 19) rfl ⟨by decide, by decide⟩ dX2_settle_19 (fun w_26 => ?_)
    refine sn_aload_n (j := j2_settle) (pc := 20) rfl rfl dX2_settle_20 ?_
    refine g_X2_25 (j := j2_settle) (pc := 21) rfl dX2_settle_21 ?_
    refine sn_iload (j := j2_settle) (pc := 24) rfl dX2_settle_24 ?_
    refine sn_iald (j := j2_settle) (pc := 26) rfl ⟨by decide, by decide⟩ dX2_settle_26 (fun w_27 => ?_)
    refine sn_icmp_ge (j := j2_settle) (pc := 27) 42 rfl dX2_settle_27 ?_ ?_
    · exact Snd.wk (sl2_settle_42 rec7 hrec7 x1 x2 x3 x4 M) (by simp [mm_le])
    · refine sn_iload_n (j := j2_settle) (pc := 30) rfl rfl dX2_settle_30 ?_
      refine sn_iconst (j := j2_settle) (pc := 31) 1 rfl dX2_settle_31 ?_
      refine sn_iload (j := j2_settle) (pc := 32) rfl dX2_settle_32 ?_
      refine sn_ishl (j := j2_settle) (pc := 34) dX2_settle_34 ?_
      refine sn_aload_n (j := j2_settle) (pc := 35) rfl rfl dX2_settle_35 ?_
      refine g_X2_62 (j := j2_settle) (pc := 36) rfl dX2_settle_36 ?_
      refine Snd.bI (fun v_28 => ?_)
      refine sn_iand (j := j2_settle) (pc := 39) dX2_settle_39 ?_
      refine sn_ior (j := j2_settle) (pc := 40) dX2_settle_40 ?_
      refine sn_istoreB_n (j := j2_settle) (pc := 41) rfl (fun x2_29 => [some (.ref 26), some (.int x1), some (.int x2_29), some (.int x3), some (.int x4), none, none, none, none, none, none, none, none, none]) (by decide) (fun _ => rfl) dX2_settle_41 (fun x2_29 => ?_)
      exact Snd.wk (sl2_settle_42 rec7 hrec7 x1 x2_29 x3 x4 M) (by simp [mm_le])
def l2_settle_7  : Nat → Int32 → Int32 → Int32 → Int32 → mm_M → Option (mm_M)
  | 0 => fun _ _ _ _ _ => none
  | n + 1 => fun x1 x2 x3 x4 M => b2_settle_7  (l2_settle_7  n) x1 x2 x3 x4 M
theorem sl2_settle_7   : ∀ (n : Nat) (x1 : Int32) (x2 : Int32) (x3 : Int32) (x4 : Int32)  (M : mm_M), Snd injV j2_settle mm_X0 7 [some (.ref 26), some (.int x1), some (.int x2), some (.int x3), some (.int x4), none, none, none, none, none, none, none, none, none] [] M (l2_settle_7  n x1 x2 x3 x4 M)
  | 0 => fun _ _ _ _  _ => Snd.none
  | n + 1 => fun x1 x2 x3 x4  M => sb2_settle_7   (l2_settle_7  n) (fun x1 x2 x3 x4 M  => sl2_settle_7   n x1 x2 x3 x4  M) x1 x2 x3 x4  M
def f2_settle (x1 : Int32) (M : mm_M) : Option (mm_M) :=
  l2_settle_7 FU x1 0 0 0 M
set_option maxHeartbeats 2000000 in
theorem s2_settle (x1 : Int32) (M : mm_M) : Snd injV j2_settle mm_X0 0 [some (.ref 26), some (.int x1)] [] M (f2_settle x1 M) := by
  refine Snd.wk (lo' := [some (.ref 26), some (.int x1), none, none, none, none, none, none, none, none, none, none, none, none]) ?_ (by simp [mm_le])
  unfold f2_settle
  refine sn_iconst (j := j2_settle) (pc := 0) 0 rfl dX2_settle_0 ?_
  refine sn_istore_n (j := j2_settle) (pc := 1) rfl (by decide) (lo' := [some (.ref 26), some (.int x1), some (.int 0), none, none, none, none, none, none, none, none, none, none, none]) rfl dX2_settle_1 ?_
  refine sn_iconst (j := j2_settle) (pc := 2) 0 rfl dX2_settle_2 ?_
  refine sn_istore_n (j := j2_settle) (pc := 3) rfl (by decide) (lo' := [some (.ref 26), some (.int x1), some (.int 0), some (.int 0), none, none, none, none, none, none, none, none, none, none]) rfl dX2_settle_3 ?_
  refine sn_iconst (j := j2_settle) (pc := 4) 0 rfl dX2_settle_4 ?_
  refine sn_istore (j := j2_settle) (pc := 5) (by decide) (lo' := [some (.ref 26), some (.int x1), some (.int 0), some (.int 0), some (.int 0), none, none, none, none, none, none, none, none, none]) rfl dX2_settle_5 ?_
  exact Snd.wk (sl2_settle_7 FU x1 0 0 0 M) (by simp [mm_le])

abbrev j2_weighStates : mm_J := (yX2_weighStates, cX2_weighStates, 6, (some .boolean), 2)
theorem dX2_weighStates_0 : decode cX2_weighStates 0 = .ok (.aload_n 0, 1) := by decide +kernel
theorem dX2_weighStates_1 : decode cX2_weighStates 1 = .ok (.getfield 68, 3) := by decide +kernel
theorem dX2_weighStates_4 : decode cX2_weighStates 4 = .ok (.getfield 100, 3) := by decide +kernel
theorem dX2_weighStates_7 : decode cX2_weighStates 7 = .ok (.istore_n 2, 1) := by decide +kernel
theorem dX2_weighStates_8 : decode cX2_weighStates 8 = .ok (.aload_n 0, 1) := by decide +kernel
theorem dX2_weighStates_9 : decode cX2_weighStates 9 = .ok (.iload_n 2, 1) := by decide +kernel
theorem dX2_weighStates_10 : decode cX2_weighStates 10 = .ok (.iload_n 1, 1) := by decide +kernel
theorem dX2_weighStates_11 : decode cX2_weighStates 11 = .ok (.invokevirtual 119, 3) := by decide +kernel
theorem dX2_weighStates_14 : decode cX2_weighStates 14 = .ok (.istore_n 3, 1) := by decide +kernel
theorem dX2_weighStates_15 : decode cX2_weighStates 15 = .ok (.iconst 0, 1) := by decide +kernel
theorem dX2_weighStates_16 : decode cX2_weighStates 16 = .ok (.istore 4, 2) := by decide +kernel
theorem dX2_weighStates_18 : decode cX2_weighStates 18 = .ok (.iload 4, 2) := by decide +kernel
theorem dX2_weighStates_20 : decode cX2_weighStates 20 = .ok (.iload_n 3, 1) := by decide +kernel
theorem dX2_weighStates_21 : decode cX2_weighStates 21 = .ok (.if_icmp .ge 35, 3) := by decide +kernel
theorem dX2_weighStates_24 : decode cX2_weighStates 24 = .ok (.aload_n 0, 1) := by decide +kernel
theorem dX2_weighStates_25 : decode cX2_weighStates 25 = .ok (.getfield 37, 3) := by decide +kernel
theorem dX2_weighStates_28 : decode cX2_weighStates 28 = .ok (.aload_n 0, 1) := by decide +kernel
theorem dX2_weighStates_29 : decode cX2_weighStates 29 = .ok (.getfield 56, 3) := by decide +kernel
theorem dX2_weighStates_32 : decode cX2_weighStates 32 = .ok (.aload_n 0, 1) := by decide +kernel
theorem dX2_weighStates_33 : decode cX2_weighStates 33 = .ok (.invokevirtual 123, 3) := by decide +kernel
theorem dX2_weighStates_36 : decode cX2_weighStates 36 = .ok (.i2l, 1) := by decide +kernel
theorem dX2_weighStates_37 : decode cX2_weighStates 37 = .ok (.ldc2_w 98, 3) := by decide +kernel
theorem dX2_weighStates_40 : decode cX2_weighStates 40 = .ok (.lmul, 1) := by decide +kernel
theorem dX2_weighStates_41 : decode cX2_weighStates 41 = .ok (.ldc2_w 96, 3) := by decide +kernel
theorem dX2_weighStates_44 : decode cX2_weighStates 44 = .ok (.lmul, 1) := by decide +kernel
theorem dX2_weighStates_45 : decode cX2_weighStates 45 = .ok (.lastore, 1) := by decide +kernel
theorem dX2_weighStates_46 : decode cX2_weighStates 46 = .ok (.aload_n 0, 1) := by decide +kernel
theorem dX2_weighStates_47 : decode cX2_weighStates 47 = .ok (.invokevirtual 127, 3) := by decide +kernel
theorem dX2_weighStates_50 : decode cX2_weighStates 50 = .ok (.iinc 4 1, 3) := by decide +kernel
theorem dX2_weighStates_53 : decode cX2_weighStates 53 = .ok (.goto (-35), 3) := by decide +kernel
theorem dX2_weighStates_56 : decode cX2_weighStates 56 = .ok (.iload_n 2, 1) := by decide +kernel
theorem dX2_weighStates_57 : decode cX2_weighStates 57 = .ok (.iconst 1, 1) := by decide +kernel
theorem dX2_weighStates_58 : decode cX2_weighStates 58 = .ok (.isub, 1) := by decide +kernel
theorem dX2_weighStates_59 : decode cX2_weighStates 59 = .ok (.istore 4, 2) := by decide +kernel
theorem dX2_weighStates_61 : decode cX2_weighStates 61 = .ok (.iload 4, 2) := by decide +kernel
theorem dX2_weighStates_63 : decode cX2_weighStates 63 = .ok (.ifCond .lt 58, 3) := by decide +kernel
theorem dX2_weighStates_66 : decode cX2_weighStates 66 = .ok (.aload_n 0, 1) := by decide +kernel
theorem dX2_weighStates_67 : decode cX2_weighStates 67 = .ok (.iload 4, 2) := by decide +kernel
theorem dX2_weighStates_69 : decode cX2_weighStates 69 = .ok (.iload_n 1, 1) := by decide +kernel
theorem dX2_weighStates_70 : decode cX2_weighStates 70 = .ok (.invokevirtual 119, 3) := by decide +kernel
theorem dX2_weighStates_73 : decode cX2_weighStates 73 = .ok (.istore_n 3, 1) := by decide +kernel
theorem dX2_weighStates_74 : decode cX2_weighStates 74 = .ok (.iconst 0, 1) := by decide +kernel
theorem dX2_weighStates_75 : decode cX2_weighStates 75 = .ok (.istore 5, 2) := by decide +kernel
theorem dX2_weighStates_77 : decode cX2_weighStates 77 = .ok (.iload 5, 2) := by decide +kernel
theorem dX2_weighStates_79 : decode cX2_weighStates 79 = .ok (.iload_n 3, 1) := by decide +kernel
theorem dX2_weighStates_80 : decode cX2_weighStates 80 = .ok (.if_icmp .ge 35, 3) := by decide +kernel
theorem dX2_weighStates_83 : decode cX2_weighStates 83 = .ok (.aload_n 0, 1) := by decide +kernel
theorem dX2_weighStates_84 : decode cX2_weighStates 84 = .ok (.getfield 59, 3) := by decide +kernel
theorem dX2_weighStates_87 : decode cX2_weighStates 87 = .ok (.aload_n 0, 1) := by decide +kernel
theorem dX2_weighStates_88 : decode cX2_weighStates 88 = .ok (.getfield 11, 3) := by decide +kernel
theorem dX2_weighStates_91 : decode cX2_weighStates 91 = .ok (.iconst 0, 1) := by decide +kernel
theorem dX2_weighStates_92 : decode cX2_weighStates 92 = .ok (.iaload, 1) := by decide +kernel
theorem dX2_weighStates_93 : decode cX2_weighStates 93 = .ok (.iload 4, 2) := by decide +kernel
theorem dX2_weighStates_95 : decode cX2_weighStates 95 = .ok (.imul, 1) := by decide +kernel
theorem dX2_weighStates_96 : decode cX2_weighStates 96 = .ok (.if_icmp .gt 9, 3) := by decide +kernel
theorem dX2_weighStates_99 : decode cX2_weighStates 99 = .ok (.aload_n 0, 1) := by decide +kernel
theorem dX2_weighStates_100 : decode cX2_weighStates 100 = .ok (.iload 4, 2) := by decide +kernel
theorem dX2_weighStates_102 : decode cX2_weighStates 102 = .ok (.invokevirtual 130, 3) := by decide +kernel
theorem dX2_weighStates_105 : decode cX2_weighStates 105 = .ok (.aload_n 0, 1) := by decide +kernel
theorem dX2_weighStates_106 : decode cX2_weighStates 106 = .ok (.invokevirtual 127, 3) := by decide +kernel
theorem dX2_weighStates_109 : decode cX2_weighStates 109 = .ok (.iinc 5 1, 3) := by decide +kernel
theorem dX2_weighStates_112 : decode cX2_weighStates 112 = .ok (.goto (-35), 3) := by decide +kernel
theorem dX2_weighStates_115 : decode cX2_weighStates 115 = .ok (.iinc 4 (-1), 3) := by decide +kernel
theorem dX2_weighStates_118 : decode cX2_weighStates 118 = .ok (.goto (-57), 3) := by decide +kernel
theorem dX2_weighStates_121 : decode cX2_weighStates 121 = .ok (.aload_n 0, 1) := by decide +kernel
theorem dX2_weighStates_122 : decode cX2_weighStates 122 = .ok (.getfield 37, 3) := by decide +kernel
theorem dX2_weighStates_125 : decode cX2_weighStates 125 = .ok (.iconst 0, 1) := by decide +kernel
theorem dX2_weighStates_126 : decode cX2_weighStates 126 = .ok (.laload, 1) := by decide +kernel
theorem dX2_weighStates_127 : decode cX2_weighStates 127 = .ok (.ldc2_w 133, 3) := by decide +kernel
theorem dX2_weighStates_130 : decode cX2_weighStates 130 = .ok (.lcmp, 1) := by decide +kernel
theorem dX2_weighStates_131 : decode cX2_weighStates 131 = .ok (.ifCond .ge 7, 3) := by decide +kernel
theorem dX2_weighStates_134 : decode cX2_weighStates 134 = .ok (.iconst 1, 1) := by decide +kernel
theorem dX2_weighStates_135 : decode cX2_weighStates 135 = .ok (.goto 4, 3) := by decide +kernel
theorem dX2_weighStates_138 : decode cX2_weighStates 138 = .ok (.iconst 0, 1) := by decide +kernel
theorem dX2_weighStates_139 : decode cX2_weighStates 139 = .ok (.ireturn, 1) := by decide +kernel
def l2_weighStates_139  (s0 : Int32) (M : mm_M) : Option (Int32 × mm_M) :=
  rZ s0 M
set_option maxHeartbeats 2000000 in
theorem sl2_weighStates_139   (s0 : Int32)  (M : mm_M) : Snd injI j2_weighStates mm_X0 139 [none, none, none, none, none, none] [.int s0] M (l2_weighStates_139  s0 M) := by
  unfold l2_weighStates_139
  exact sn_zret (j := j2_weighStates) (pc := 139) rfl dX2_weighStates_139
def l2_weighStates_105 (rec77 : Int32 → Int32 → Int32 → Int32 → mm_M → Option (Int32 × mm_M)) (x1 : Int32) (x3 : Int32) (x4 : Int32) (x5 : Int32) (M : mm_M) : Option (Int32 × mm_M) :=
  cV (f2_nextState M) (fun M => rec77 x1 x3 x4 (x5 + 1) M)
set_option maxHeartbeats 2000000 in
theorem sl2_weighStates_105 (rec77 : Int32 → Int32 → Int32 → Int32 → mm_M → Option (Int32 × mm_M)) (hrec77 : ∀ (x1 : Int32) (x3 : Int32) (x4 : Int32) (x5 : Int32) (M : mm_M), Snd injI j2_weighStates mm_X0 77 [some (.ref 26), some (.int x1), none, some (.int x3), some (.int x4), some (.int x5)] [] M (rec77 x1 x3 x4 x5 M)) (x1 : Int32) (x3 : Int32) (x4 : Int32) (x5 : Int32)  (M : mm_M) : Snd injI j2_weighStates mm_X0 105 [some (.ref 26), some (.int x1), none, some (.int x3), some (.int x4), some (.int x5)] [] M (l2_weighStates_105 rec77 x1 x3 x4 x5 M) := by
  unfold l2_weighStates_105
  refine sn_aload_n (j := j2_weighStates) (pc := 105) rfl rfl dX2_weighStates_105 ?_
  refine sn_callV (j := j2_weighStates) (pc := 106) (jc := j2_nextState) (As := []) (s2_nextState M) mm_hvV (by simp [Value.category]) (Nat.le_of_ble_eq_true rfl) q2_nextState rfl (by decide) rfl rfl ⟨by decide, by decide⟩ w_ml_X2_127 w_im_X2_nextState w_se_X2_nextState rfl (Nat.le_of_ble_eq_true rfl) dX2_weighStates_106 ?_
  intro M
  show Snd injI j2_weighStates mm_X0 109 [some (.ref 26), some (.int x1), none, some (.int x3), some (.int x4), some (.int x5)] [] M _
  refine sn_iinc (j := j2_weighStates) (pc := 109) 1 rfl (by decide) rfl (lo' := [some (.ref 26), some (.int x1), none, some (.int x3), some (.int x4), some (.int (x5 + 1))]) rfl dX2_weighStates_109 ?_
  refine sn_goto (j := j2_weighStates) (pc := 112) 77 rfl dX2_weighStates_112 ?_
  exact Snd.wk (hrec77 x1 x3 x4 (x5 + 1) M ) (by simp [mm_le])
def b2_weighStates_77 (rec61 : Int32 → Int32 → mm_M → Option (Int32 × mm_M)) (rec77 : Int32 → Int32 → Int32 → Int32 → mm_M → Option (Int32 × mm_M)) (x1 : Int32) (x3 : Int32) (x4 : Int32) (x5 : Int32) (M : mm_M) : Option (Int32 × mm_M) :=
  if x3 ≤ x5 then (rec61 x1 (x4 + (-1)) M) else (bI (mI M 26 16) (fun v_1 => aI 27 3 0 M (fun w_2 => if (w_2 * x4) < v_1 then (l2_weighStates_105 rec77 x1 x3 x4 x5 M) else (cV (f2_settle x4 M) (fun M => l2_weighStates_105 rec77 x1 x3 x4 x5 M)))))
set_option maxHeartbeats 2000000 in
theorem sb2_weighStates_77 (rec61 : Int32 → Int32 → mm_M → Option (Int32 × mm_M)) (hrec61 : ∀ (x1 : Int32) (x4 : Int32) (M : mm_M), Snd injI j2_weighStates mm_X0 61 [some (.ref 26), some (.int x1), none, none, some (.int x4), none] [] M (rec61 x1 x4 M)) (rec77 : Int32 → Int32 → Int32 → Int32 → mm_M → Option (Int32 × mm_M)) (hrec77 : ∀ (x1 : Int32) (x3 : Int32) (x4 : Int32) (x5 : Int32) (M : mm_M), Snd injI j2_weighStates mm_X0 77 [some (.ref 26), some (.int x1), none, some (.int x3), some (.int x4), some (.int x5)] [] M (rec77 x1 x3 x4 x5 M)) (x1 : Int32) (x3 : Int32) (x4 : Int32) (x5 : Int32)  (M : mm_M) : Snd injI j2_weighStates mm_X0 77 [some (.ref 26), some (.int x1), none, some (.int x3), some (.int x4), some (.int x5)] [] M (b2_weighStates_77 rec61 rec77 x1 x3 x4 x5 M) := by
  unfold b2_weighStates_77
  refine sn_iload (j := j2_weighStates) (pc := 77) rfl dX2_weighStates_77 ?_
  refine sn_iload_n (j := j2_weighStates) (pc := 79) rfl rfl dX2_weighStates_79 ?_
  refine sn_icmp_ge (j := j2_weighStates) (pc := 80) 115 rfl dX2_weighStates_80 ?_ ?_
  · refine sn_iinc (j := j2_weighStates) (pc := 115) (-1) rfl (by decide) rfl (lo' := [some (.ref 26), some (.int x1), none, some (.int x3), some (.int (x4 + (-1))), some (.int x5)]) rfl dX2_weighStates_115 ?_
    refine sn_goto (j := j2_weighStates) (pc := 118) 61 rfl dX2_weighStates_118 ?_
    exact Snd.wk (hrec61 x1 (x4 + (-1)) M ) (by simp [mm_le])
  · refine sn_aload_n (j := j2_weighStates) (pc := 83) rfl rfl dX2_weighStates_83 ?_
    refine g_X2_59 (j := j2_weighStates) (pc := 84) rfl dX2_weighStates_84 ?_
    refine Snd.bI (fun v_1 => ?_)
    refine sn_aload_n (j := j2_weighStates) (pc := 87) rfl rfl dX2_weighStates_87 ?_
    refine g_X2_11 (j := j2_weighStates) (pc := 88) rfl dX2_weighStates_88 ?_
    refine sn_iconst (j := j2_weighStates) (pc := 91) 0 rfl dX2_weighStates_91 ?_
    refine sn_iald (j := j2_weighStates) (pc := 92) rfl ⟨by decide, by decide⟩ dX2_weighStates_92 (fun w_2 => ?_)
    refine sn_iload (j := j2_weighStates) (pc := 93) rfl dX2_weighStates_93 ?_
    refine sn_imul (j := j2_weighStates) (pc := 95) dX2_weighStates_95 ?_
    refine sn_icmp_gt (j := j2_weighStates) (pc := 96) 105 rfl dX2_weighStates_96 ?_ ?_
    · exact Snd.wk (sl2_weighStates_105 rec77 hrec77 x1 x3 x4 x5 M) (by simp [mm_le])
    · refine sn_aload_n (j := j2_weighStates) (pc := 99) rfl rfl dX2_weighStates_99 ?_
      refine sn_iload (j := j2_weighStates) (pc := 100) rfl dX2_weighStates_100 ?_
      refine sn_callV (j := j2_weighStates) (pc := 102) (jc := j2_settle) (As := [.int x4]) (s2_settle x4 M) mm_hvV (by simp [Value.category]) (Nat.le_of_ble_eq_true rfl) q2_settle rfl (by decide) rfl rfl ⟨by decide, by decide⟩ w_ml_X2_130 w_im_X2_settle w_se_X2_settle rfl (Nat.le_of_ble_eq_true rfl) dX2_weighStates_102 ?_
      intro M
      show Snd injI j2_weighStates mm_X0 105 [some (.ref 26), some (.int x1), none, some (.int x3), some (.int x4), some (.int x5)] [] M _
      exact Snd.wk (sl2_weighStates_105 rec77 hrec77 x1 x3 x4 x5 M) (by simp [mm_le])
def l2_weighStates_77 (rec61 : Int32 → Int32 → mm_M → Option (Int32 × mm_M)) : Nat → Int32 → Int32 → Int32 → Int32 → mm_M → Option (Int32 × mm_M)
  | 0 => fun _ _ _ _ _ => none
  | n + 1 => fun x1 x3 x4 x5 M => b2_weighStates_77 rec61 (l2_weighStates_77 rec61 n) x1 x3 x4 x5 M
theorem sl2_weighStates_77 (rec61 : Int32 → Int32 → mm_M → Option (Int32 × mm_M)) (hrec61 : ∀ (x1 : Int32) (x4 : Int32) (M : mm_M), Snd injI j2_weighStates mm_X0 61 [some (.ref 26), some (.int x1), none, none, some (.int x4), none] [] M (rec61 x1 x4 M)) : ∀ (n : Nat) (x1 : Int32) (x3 : Int32) (x4 : Int32) (x5 : Int32)  (M : mm_M), Snd injI j2_weighStates mm_X0 77 [some (.ref 26), some (.int x1), none, some (.int x3), some (.int x4), some (.int x5)] [] M (l2_weighStates_77 rec61 n x1 x3 x4 x5 M)
  | 0 => fun _ _ _ _  _ => Snd.none
  | n + 1 => fun x1 x3 x4 x5  M => sb2_weighStates_77 rec61 hrec61 (l2_weighStates_77 rec61 n) (fun x1 x3 x4 x5 M  => sl2_weighStates_77 rec61 hrec61 n x1 x3 x4 x5  M) x1 x3 x4 x5  M
def b2_weighStates_61  (rec61 : Int32 → Int32 → mm_M → Option (Int32 × mm_M)) (x1 : Int32) (x4 : Int32) (M : mm_M) : Option (Int32 × mm_M) :=
  if x4 < 0 then (aL 34 6561 0 M (fun u_3 => if 0 ≤ (lg_cmp u_3 1125899906842624) then (l2_weighStates_139 0 M) else (l2_weighStates_139 1 M))) else (cI (f2_spread x4 x1 M) (fun r_4 M => l2_weighStates_77 rec61 FU x1 r_4 x4 0 M))
set_option maxHeartbeats 2000000 in
theorem sb2_weighStates_61   (rec61 : Int32 → Int32 → mm_M → Option (Int32 × mm_M)) (hrec61 : ∀ (x1 : Int32) (x4 : Int32) (M : mm_M), Snd injI j2_weighStates mm_X0 61 [some (.ref 26), some (.int x1), none, none, some (.int x4), none] [] M (rec61 x1 x4 M)) (x1 : Int32) (x4 : Int32)  (M : mm_M) : Snd injI j2_weighStates mm_X0 61 [some (.ref 26), some (.int x1), none, none, some (.int x4), none] [] M (b2_weighStates_61  rec61 x1 x4 M) := by
  unfold b2_weighStates_61
  refine sn_iload (j := j2_weighStates) (pc := 61) rfl dX2_weighStates_61 ?_
  refine sn_if_lt (j := j2_weighStates) (pc := 63) 121 rfl dX2_weighStates_63 ?_ ?_
  · refine sn_aload_n (j := j2_weighStates) (pc := 121) rfl rfl dX2_weighStates_121 ?_
    refine g_X2_37 (j := j2_weighStates) (pc := 122) rfl dX2_weighStates_122 ?_
    refine sn_iconst (j := j2_weighStates) (pc := 125) 0 rfl dX2_weighStates_125 ?_
    refine sn_lald (j := j2_weighStates) (pc := 126) rfl ⟨by decide, by decide⟩ dX2_weighStates_126 (fun u_3 => ?_)
    refine sn_ldc2 (j := j2_weighStates) (pc := 127) w_cl_X2_133 dX2_weighStates_127 ?_
    refine sn_lcmp (j := j2_weighStates) (pc := 130) dX2_weighStates_130 ?_
    refine sn_if_ge (j := j2_weighStates) (pc := 131) 138 rfl dX2_weighStates_131 ?_ ?_
    · refine sn_iconst (j := j2_weighStates) (pc := 138) 0 rfl dX2_weighStates_138 ?_
      exact Snd.wk (sl2_weighStates_139 0 M) (by simp [mm_le])
    · refine sn_iconst (j := j2_weighStates) (pc := 134) 1 rfl dX2_weighStates_134 ?_
      refine sn_goto (j := j2_weighStates) (pc := 135) 139 rfl dX2_weighStates_135 ?_
      exact Snd.wk (sl2_weighStates_139 1 M) (by simp [mm_le])
  · refine sn_aload_n (j := j2_weighStates) (pc := 66) rfl rfl dX2_weighStates_66 ?_
    refine sn_iload (j := j2_weighStates) (pc := 67) rfl dX2_weighStates_67 ?_
    refine sn_iload_n (j := j2_weighStates) (pc := 69) rfl rfl dX2_weighStates_69 ?_
    refine sn_callV (j := j2_weighStates) (pc := 70) (jc := j2_spread) (As := [.int x4, .int x1]) (s2_spread x4 x1 M) mm_hvI (by simp [Value.category]) (Nat.le_of_ble_eq_true rfl) q2_spread rfl (by decide) rfl rfl ⟨by decide, by decide⟩ w_ml_X2_119 w_im_X2_spread w_se_X2_spread rfl (Nat.le_of_ble_eq_true rfl) dX2_weighStates_70 ?_
    rintro ⟨r_4, M⟩
    show Snd injI j2_weighStates mm_X0 73 [some (.ref 26), some (.int x1), none, none, some (.int x4), none] [.int r_4] M _
    refine sn_istore_n (j := j2_weighStates) (pc := 73) rfl (by decide) (lo' := [some (.ref 26), some (.int x1), none, some (.int r_4), some (.int x4), none]) rfl dX2_weighStates_73 ?_
    refine sn_iconst (j := j2_weighStates) (pc := 74) 0 rfl dX2_weighStates_74 ?_
    refine sn_istore (j := j2_weighStates) (pc := 75) (by decide) (lo' := [some (.ref 26), some (.int x1), none, some (.int r_4), some (.int x4), some (.int 0)]) rfl dX2_weighStates_75 ?_
    exact Snd.wk (sl2_weighStates_77 rec61 hrec61 FU x1 r_4 x4 0 M) (by simp [mm_le])
def l2_weighStates_61  : Nat → Int32 → Int32 → mm_M → Option (Int32 × mm_M)
  | 0 => fun _ _ _ => none
  | n + 1 => fun x1 x4 M => b2_weighStates_61  (l2_weighStates_61  n) x1 x4 M
theorem sl2_weighStates_61   : ∀ (n : Nat) (x1 : Int32) (x4 : Int32)  (M : mm_M), Snd injI j2_weighStates mm_X0 61 [some (.ref 26), some (.int x1), none, none, some (.int x4), none] [] M (l2_weighStates_61  n x1 x4 M)
  | 0 => fun _ _  _ => Snd.none
  | n + 1 => fun x1 x4  M => sb2_weighStates_61   (l2_weighStates_61  n) (fun x1 x4 M  => sl2_weighStates_61   n x1 x4  M) x1 x4  M
def b2_weighStates_18  (rec18 : Int32 → Int32 → Int32 → Int32 → mm_M → Option (Int32 × mm_M)) (x1 : Int32) (x2 : Int32) (x3 : Int32) (x4 : Int32) (M : mm_M) : Option (Int32 × mm_M) :=
  if x3 ≤ x4 then (bI (x2 - 1) (fun x4_5 => l2_weighStates_61 FU x1 x4_5 M)) else (bI (mI M 26 15) (fun v_6 => cI (f2_lackHere M) (fun r_7 M => uL 34 6561 v_6 ((r_7.toInt64 * 100000) * 64) M (fun M => cV (f2_nextState M) (fun M => rec18 x1 x2 x3 (x4 + 1) M)))))
set_option maxHeartbeats 2000000 in
theorem sb2_weighStates_18   (rec18 : Int32 → Int32 → Int32 → Int32 → mm_M → Option (Int32 × mm_M)) (hrec18 : ∀ (x1 : Int32) (x2 : Int32) (x3 : Int32) (x4 : Int32) (M : mm_M), Snd injI j2_weighStates mm_X0 18 [some (.ref 26), some (.int x1), some (.int x2), some (.int x3), some (.int x4), none] [] M (rec18 x1 x2 x3 x4 M)) (x1 : Int32) (x2 : Int32) (x3 : Int32) (x4 : Int32)  (M : mm_M) : Snd injI j2_weighStates mm_X0 18 [some (.ref 26), some (.int x1), some (.int x2), some (.int x3), some (.int x4), none] [] M (b2_weighStates_18  rec18 x1 x2 x3 x4 M) := by
  unfold b2_weighStates_18
  refine sn_iload (j := j2_weighStates) (pc := 18) rfl dX2_weighStates_18 ?_
  refine sn_iload_n (j := j2_weighStates) (pc := 20) rfl rfl dX2_weighStates_20 ?_
  refine sn_icmp_ge (j := j2_weighStates) (pc := 21) 56 rfl dX2_weighStates_21 ?_ ?_
  · refine sn_iload_n (j := j2_weighStates) (pc := 56) rfl rfl dX2_weighStates_56 ?_
    refine sn_iconst (j := j2_weighStates) (pc := 57) 1 rfl dX2_weighStates_57 ?_
    refine sn_isub (j := j2_weighStates) (pc := 58) dX2_weighStates_58 ?_
    refine sn_istoreB (j := j2_weighStates) (pc := 59) (fun x4_5 => [some (.ref 26), some (.int x1), some (.int x2), some (.int x3), some (.int x4_5), none]) (by decide) (fun _ => rfl) dX2_weighStates_59 (fun x4_5 => ?_)
    exact Snd.wk (sl2_weighStates_61 FU x1 x4_5 M) (by simp [mm_le])
  · refine sn_aload_n (j := j2_weighStates) (pc := 24) rfl rfl dX2_weighStates_24 ?_
    refine g_X2_37 (j := j2_weighStates) (pc := 25) rfl dX2_weighStates_25 ?_
    refine sn_aload_n (j := j2_weighStates) (pc := 28) rfl rfl dX2_weighStates_28 ?_
    refine g_X2_56 (j := j2_weighStates) (pc := 29) rfl dX2_weighStates_29 ?_
    refine Snd.bI (fun v_6 => ?_)
    refine sn_aload_n (j := j2_weighStates) (pc := 32) rfl rfl dX2_weighStates_32 ?_
    refine sn_callV (j := j2_weighStates) (pc := 33) (jc := j2_lackHere) (As := []) (s2_lackHere M) mm_hvI (by simp [Value.category]) (Nat.le_of_ble_eq_true rfl) q2_lackHere rfl (by decide) rfl rfl ⟨by decide, by decide⟩ w_ml_X2_123 w_im_X2_lackHere w_se_X2_lackHere rfl (Nat.le_of_ble_eq_true rfl) dX2_weighStates_33 ?_
    rintro ⟨r_7, M⟩
    show Snd injI j2_weighStates mm_X0 36 [some (.ref 26), some (.int x1), some (.int x2), some (.int x3), some (.int x4), none] [.int r_7, .int v_6, .ref 34] M _
    refine sn_i2l (j := j2_weighStates) (pc := 36) dX2_weighStates_36 ?_
    refine sn_ldc2 (j := j2_weighStates) (pc := 37) w_cl_X2_98 dX2_weighStates_37 ?_
    refine sn_lmul (j := j2_weighStates) (pc := 40) dX2_weighStates_40 ?_
    refine sn_ldc2 (j := j2_weighStates) (pc := 41) w_cl_X2_96 dX2_weighStates_41 ?_
    refine sn_lmul (j := j2_weighStates) (pc := 44) dX2_weighStates_44 ?_
    refine sn_last (j := j2_weighStates) (pc := 45) rfl ⟨by decide, by decide⟩ dX2_weighStates_45 (fun M => ?_)
    refine sn_aload_n (j := j2_weighStates) (pc := 46) rfl rfl dX2_weighStates_46 ?_
    refine sn_callV (j := j2_weighStates) (pc := 47) (jc := j2_nextState) (As := []) (s2_nextState M) mm_hvV (by simp [Value.category]) (Nat.le_of_ble_eq_true rfl) q2_nextState rfl (by decide) rfl rfl ⟨by decide, by decide⟩ w_ml_X2_127 w_im_X2_nextState w_se_X2_nextState rfl (Nat.le_of_ble_eq_true rfl) dX2_weighStates_47 ?_
    intro M
    show Snd injI j2_weighStates mm_X0 50 [some (.ref 26), some (.int x1), some (.int x2), some (.int x3), some (.int x4), none] [] M _
    refine sn_iinc (j := j2_weighStates) (pc := 50) 1 rfl (by decide) rfl (lo' := [some (.ref 26), some (.int x1), some (.int x2), some (.int x3), some (.int (x4 + 1)), none]) rfl dX2_weighStates_50 ?_
    refine sn_goto (j := j2_weighStates) (pc := 53) 18 rfl dX2_weighStates_53 ?_
    exact Snd.wk (hrec18 x1 x2 x3 (x4 + 1) M ) (by simp [mm_le])
def l2_weighStates_18  : Nat → Int32 → Int32 → Int32 → Int32 → mm_M → Option (Int32 × mm_M)
  | 0 => fun _ _ _ _ _ => none
  | n + 1 => fun x1 x2 x3 x4 M => b2_weighStates_18  (l2_weighStates_18  n) x1 x2 x3 x4 M
theorem sl2_weighStates_18   : ∀ (n : Nat) (x1 : Int32) (x2 : Int32) (x3 : Int32) (x4 : Int32)  (M : mm_M), Snd injI j2_weighStates mm_X0 18 [some (.ref 26), some (.int x1), some (.int x2), some (.int x3), some (.int x4), none] [] M (l2_weighStates_18  n x1 x2 x3 x4 M)
  | 0 => fun _ _ _ _  _ => Snd.none
  | n + 1 => fun x1 x2 x3 x4  M => sb2_weighStates_18   (l2_weighStates_18  n) (fun x1 x2 x3 x4 M  => sl2_weighStates_18   n x1 x2 x3 x4  M) x1 x2 x3 x4  M
def f2_weighStates (x1 : Int32) (M : mm_M) : Option (Int32 × mm_M) :=
  bN (mDep M) (fun d_8 => if isD d_8 = true then (bI (mI M d_8 0) (fun v_9 => cI (f2_spread v_9 x1 M) (fun r_10 M => l2_weighStates_18 FU x1 v_9 r_10 0 M))) else none)
set_option maxHeartbeats 2000000 in
theorem s2_weighStates (x1 : Int32) (M : mm_M) : Snd injI j2_weighStates mm_X0 0 [some (.ref 26), some (.int x1)] [] M (f2_weighStates x1 M) := by
  refine Snd.wk (lo' := [some (.ref 26), some (.int x1), none, none, none, none]) ?_ (by simp [mm_le])
  unfold f2_weighStates
  refine sn_aload_n (j := j2_weighStates) (pc := 0) rfl rfl dX2_weighStates_0 ?_
  refine g_X2_68 (j := j2_weighStates) (pc := 1) rfl dX2_weighStates_1 (fun d_8 => ?_)
  refine Snd.ite fun hd_8 => ?_
  refine g_X2_100 (j := j2_weighStates) (pc := 4) hd_8 rfl dX2_weighStates_4 ?_
  refine Snd.bI (fun v_9 => ?_)
  refine sn_istore_n (j := j2_weighStates) (pc := 7) rfl (by decide) (lo' := [some (.ref 26), some (.int x1), some (.int v_9), none, none, none]) rfl dX2_weighStates_7 ?_
  refine sn_aload_n (j := j2_weighStates) (pc := 8) rfl rfl dX2_weighStates_8 ?_
  refine sn_iload_n (j := j2_weighStates) (pc := 9) rfl rfl dX2_weighStates_9 ?_
  refine sn_iload_n (j := j2_weighStates) (pc := 10) rfl rfl dX2_weighStates_10 ?_
  refine sn_callV (j := j2_weighStates) (pc := 11) (jc := j2_spread) (As := [.int v_9, .int x1]) (s2_spread v_9 x1 M) mm_hvI (by simp [Value.category]) (Nat.le_of_ble_eq_true rfl) q2_spread rfl (by decide) rfl rfl ⟨by decide, by decide⟩ w_ml_X2_119 w_im_X2_spread w_se_X2_spread rfl (Nat.le_of_ble_eq_true rfl) dX2_weighStates_11 ?_
  rintro ⟨r_10, M⟩
  show Snd injI j2_weighStates mm_X0 14 [some (.ref 26), some (.int x1), some (.int v_9), none, none, none] [.int r_10] M _
  refine sn_istore_n (j := j2_weighStates) (pc := 14) rfl (by decide) (lo' := [some (.ref 26), some (.int x1), some (.int v_9), some (.int r_10), none, none]) rfl dX2_weighStates_14 ?_
  refine sn_iconst (j := j2_weighStates) (pc := 15) 0 rfl dX2_weighStates_15 ?_
  refine sn_istore (j := j2_weighStates) (pc := 16) (by decide) (lo' := [some (.ref 26), some (.int x1), some (.int v_9), some (.int r_10), some (.int 0), none]) rfl dX2_weighStates_16 ?_
  exact Snd.wk (sl2_weighStates_18 FU x1 v_9 r_10 0 M) (by simp [mm_le])

abbrev j2_costIfReady : mm_J := (yX2_costIfReady, cX2_costIfReady, 1, (some .int), 4)
theorem dX2_costIfReady_0 : decode cX2_costIfReady 0 = .ok (.aload_n 0, 1) := by decide +kernel
theorem dX2_costIfReady_1 : decode cX2_costIfReady 1 = .ok (.invokevirtual 85, 3) := by decide +kernel
theorem dX2_costIfReady_4 : decode cX2_costIfReady 4 = .ok (.aload_n 0, 1) := by decide +kernel
theorem dX2_costIfReady_5 : decode cX2_costIfReady 5 = .ok (.invokevirtual 88, 3) := by decide +kernel
theorem dX2_costIfReady_8 : decode cX2_costIfReady 8 = .ok (.ifCond .eq 11, 3) := by decide +kernel
theorem dX2_costIfReady_11 : decode cX2_costIfReady 11 = .ok (.aload_n 0, 1) := by decide +kernel
theorem dX2_costIfReady_12 : decode cX2_costIfReady 12 = .ok (.iconst 1, 1) := by decide +kernel
theorem dX2_costIfReady_13 : decode cX2_costIfReady 13 = .ok (.invokevirtual 92, 3) := by decide +kernel
theorem dX2_costIfReady_16 : decode cX2_costIfReady 16 = .ok (.ifCond .ne 6, 3) := by decide +kernel
theorem dX2_costIfReady_19 : decode cX2_costIfReady 19 = .ok (.bipush (-2), 2) := by decide +kernel
theorem dX2_costIfReady_21 : decode cX2_costIfReady 21 = .ok (.ireturn, 1) := by decide +kernel
theorem dX2_costIfReady_22 : decode cX2_costIfReady 22 = .ok (.aload_n 0, 1) := by decide +kernel
theorem dX2_costIfReady_23 : decode cX2_costIfReady 23 = .ok (.getfield 37, 3) := by decide +kernel
theorem dX2_costIfReady_26 : decode cX2_costIfReady 26 = .ok (.iconst 0, 1) := by decide +kernel
theorem dX2_costIfReady_27 : decode cX2_costIfReady 27 = .ok (.laload, 1) := by decide +kernel
theorem dX2_costIfReady_28 : decode cX2_costIfReady 28 = .ok (.ldc2_w 96, 3) := by decide +kernel
theorem dX2_costIfReady_31 : decode cX2_costIfReady 31 = .ok (.ldiv, 1) := by decide +kernel
theorem dX2_costIfReady_32 : decode cX2_costIfReady 32 = .ok (.ldc2_w 98, 3) := by decide +kernel
theorem dX2_costIfReady_35 : decode cX2_costIfReady 35 = .ok (.lrem, 1) := by decide +kernel
theorem dX2_costIfReady_36 : decode cX2_costIfReady 36 = .ok (.l2i, 1) := by decide +kernel
theorem dX2_costIfReady_37 : decode cX2_costIfReady 37 = .ok (.ireturn, 1) := by decide +kernel
def l2_costIfReady_19   (M : mm_M) : Option (Int32 × mm_M) :=
  some ((-2), M)
set_option maxHeartbeats 2000000 in
theorem sl2_costIfReady_19     (M : mm_M) : Snd injI j2_costIfReady mm_X0 19 [none] [] M (l2_costIfReady_19   M) := by
  unfold l2_costIfReady_19
  refine sn_bipush (j := j2_costIfReady) (pc := 19) (-2) rfl dX2_costIfReady_19 ?_
  exact sn_iret (j := j2_costIfReady) (pc := 21) rfl dX2_costIfReady_21
def f2_costIfReady  (M : mm_M) : Option (Int32 × mm_M) :=
  cV (f2_traceAll M) (fun M => cI (f2_mayBeReady M) (fun r_1 M => if r_1 = 0 then (l2_costIfReady_19 M) else (cI (f2_weighStates 1 M) (fun r_2 M => if r_2 = 0 then (l2_costIfReady_19 M) else (aL 34 6561 0 M (fun u_3 => some (((u_3 / 64) - (u_3 / 64) / 100000 * 100000).toInt32, M)))))))
set_option maxHeartbeats 2000000 in
theorem s2_costIfReady  (M : mm_M) : Snd injI j2_costIfReady mm_X0 0 [some (.ref 26)] [] M (f2_costIfReady  M) := by
  refine Snd.wk (lo' := [some (.ref 26)]) ?_ (by simp [mm_le])
  unfold f2_costIfReady
  refine sn_aload_n (j := j2_costIfReady) (pc := 0) rfl rfl dX2_costIfReady_0 ?_
  refine sn_callV (j := j2_costIfReady) (pc := 1) (jc := j2_traceAll) (As := []) (s2_traceAll M) mm_hvV (by simp [Value.category]) (Nat.le_of_ble_eq_true rfl) q2_traceAll rfl (by decide) rfl rfl ⟨by decide, by decide⟩ w_ml_X2_85 w_im_X2_traceAll w_se_X2_traceAll rfl (Nat.le_of_ble_eq_true rfl) dX2_costIfReady_1 ?_
  intro M
  show Snd injI j2_costIfReady mm_X0 4 [some (.ref 26)] [] M _
  refine sn_aload_n (j := j2_costIfReady) (pc := 4) rfl rfl dX2_costIfReady_4 ?_
  refine sn_callV (j := j2_costIfReady) (pc := 5) (jc := j2_mayBeReady) (As := []) (s2_mayBeReady M) mm_hvI (by simp [Value.category]) (Nat.le_of_ble_eq_true rfl) q2_mayBeReady rfl (by decide) rfl rfl ⟨by decide, by decide⟩ w_ml_X2_88 w_im_X2_mayBeReady w_se_X2_mayBeReady rfl (Nat.le_of_ble_eq_true rfl) dX2_costIfReady_5 ?_
  rintro ⟨r_1, M⟩
  show Snd injI j2_costIfReady mm_X0 8 [some (.ref 26)] [.int r_1] M _
  refine sn_if_eq (j := j2_costIfReady) (pc := 8) 19 rfl dX2_costIfReady_8 ?_ ?_
  · exact Snd.wk (sl2_costIfReady_19 M) (by simp [mm_le])
  · refine sn_aload_n (j := j2_costIfReady) (pc := 11) rfl rfl dX2_costIfReady_11 ?_
    refine sn_iconst (j := j2_costIfReady) (pc := 12) 1 rfl dX2_costIfReady_12 ?_
    refine sn_callV (j := j2_costIfReady) (pc := 13) (jc := j2_weighStates) (As := [.int 1]) (s2_weighStates 1 M) mm_hvI (by simp [Value.category]) (Nat.le_of_ble_eq_true rfl) q2_weighStates rfl (by decide) rfl rfl ⟨by decide, by decide⟩ w_ml_X2_92 w_im_X2_weighStates w_se_X2_weighStates rfl (Nat.le_of_ble_eq_true rfl) dX2_costIfReady_13 ?_
    rintro ⟨r_2, M⟩
    show Snd injI j2_costIfReady mm_X0 16 [some (.ref 26)] [.int r_2] M _
    refine sn_if_ne (j := j2_costIfReady) (pc := 16) 22 rfl dX2_costIfReady_16 ?_ ?_
    · refine sn_aload_n (j := j2_costIfReady) (pc := 22) rfl rfl dX2_costIfReady_22 ?_
      refine g_X2_37 (j := j2_costIfReady) (pc := 23) rfl dX2_costIfReady_23 ?_
      refine sn_iconst (j := j2_costIfReady) (pc := 26) 0 rfl dX2_costIfReady_26 ?_
      refine sn_lald (j := j2_costIfReady) (pc := 27) rfl ⟨by decide, by decide⟩ dX2_costIfReady_27 (fun u_3 => ?_)
      refine sn_ldc2 (j := j2_costIfReady) (pc := 28) w_cl_X2_96 dX2_costIfReady_28 ?_
      refine sn_ldiv (j := j2_costIfReady) (pc := 31) (by decide) dX2_costIfReady_31 ?_
      refine sn_ldc2 (j := j2_costIfReady) (pc := 32) w_cl_X2_98 dX2_costIfReady_32 ?_
      refine sn_lrem (j := j2_costIfReady) (pc := 35) (by decide) dX2_costIfReady_35 ?_
      refine sn_l2i (j := j2_costIfReady) (pc := 36) dX2_costIfReady_36 ?_
      exact sn_iret (j := j2_costIfReady) (pc := 37) rfl dX2_costIfReady_37
    · exact Snd.wk (sl2_costIfReady_19 M) (by simp [mm_le])

abbrev j2_findPlan : mm_J := (yX2_findPlan, cX2_findPlan, 4, none, 4)
theorem dX2_findPlan_0 : decode cX2_findPlan 0 = .ok (.aload_n 0, 1) := by decide +kernel
theorem dX2_findPlan_1 : decode cX2_findPlan 1 = .ok (.invokevirtual 85, 3) := by decide +kernel
theorem dX2_findPlan_4 : decode cX2_findPlan 4 = .ok (.aload_n 0, 1) := by decide +kernel
theorem dX2_findPlan_5 : decode cX2_findPlan 5 = .ok (.invokevirtual 88, 3) := by decide +kernel
theorem dX2_findPlan_8 : decode cX2_findPlan 8 = .ok (.ifCond .eq 11, 3) := by decide +kernel
theorem dX2_findPlan_11 : decode cX2_findPlan 11 = .ok (.aload_n 0, 1) := by decide +kernel
theorem dX2_findPlan_12 : decode cX2_findPlan 12 = .ok (.iconst 1, 1) := by decide +kernel
theorem dX2_findPlan_13 : decode cX2_findPlan 13 = .ok (.invokevirtual 92, 3) := by decide +kernel
theorem dX2_findPlan_16 : decode cX2_findPlan 16 = .ok (.ifCond .ne 9, 3) := by decide +kernel
theorem dX2_findPlan_19 : decode cX2_findPlan 19 = .ok (.aload_n 0, 1) := by decide +kernel
theorem dX2_findPlan_20 : decode cX2_findPlan 20 = .ok (.iconst 0, 1) := by decide +kernel
theorem dX2_findPlan_21 : decode cX2_findPlan 21 = .ok (.invokevirtual 92, 3) := by decide +kernel
theorem dX2_findPlan_24 : decode cX2_findPlan 24 = .ok (.pop, 1) := by decide +kernel
theorem dX2_findPlan_25 : decode cX2_findPlan 25 = .ok (.iconst 0, 1) := by decide +kernel
theorem dX2_findPlan_26 : decode cX2_findPlan 26 = .ok (.istore_n 2, 1) := by decide +kernel
theorem dX2_findPlan_27 : decode cX2_findPlan 27 = .ok (.iconst 0, 1) := by decide +kernel
theorem dX2_findPlan_28 : decode cX2_findPlan 28 = .ok (.istore_n 3, 1) := by decide +kernel
theorem dX2_findPlan_29 : decode cX2_findPlan 29 = .ok (.iload_n 3, 1) := by decide +kernel
theorem dX2_findPlan_30 : decode cX2_findPlan 30 = .ok (.bipush 8, 2) := by decide +kernel
theorem dX2_findPlan_32 : decode cX2_findPlan 32 = .ok (.if_icmp .ge 51, 3) := by decide +kernel
theorem dX2_findPlan_35 : decode cX2_findPlan 35 = .ok (.aload_n 1, 1) := by decide +kernel
theorem dX2_findPlan_36 : decode cX2_findPlan 36 = .ok (.iload_n 3, 1) := by decide +kernel
theorem dX2_findPlan_37 : decode cX2_findPlan 37 = .ok (.iload_n 3, 1) := by decide +kernel
theorem dX2_findPlan_38 : decode cX2_findPlan 38 = .ok (.aload_n 0, 1) := by decide +kernel
theorem dX2_findPlan_39 : decode cX2_findPlan 39 = .ok (.getfield 68, 3) := by decide +kernel
theorem dX2_findPlan_42 : decode cX2_findPlan 42 = .ok (.getfield 100, 3) := by decide +kernel
theorem dX2_findPlan_45 : decode cX2_findPlan 45 = .ok (.if_icmp .ge 19, 3) := by decide +kernel
theorem dX2_findPlan_48 : decode cX2_findPlan 48 = .ok (.aload_n 0, 1) := by decide +kernel
theorem dX2_findPlan_49 : decode cX2_findPlan 49 = .ok (.getfield 41, 3) := by decide +kernel
theorem dX2_findPlan_52 : decode cX2_findPlan 52 = .ok (.iload_n 2, 1) := by decide +kernel
theorem dX2_findPlan_53 : decode cX2_findPlan 53 = .ok (.iaload, 1) := by decide +kernel
theorem dX2_findPlan_54 : decode cX2_findPlan 54 = .ok (.iconst 4, 1) := by decide +kernel
theorem dX2_findPlan_55 : decode cX2_findPlan 55 = .ok (.iload_n 3, 1) := by decide +kernel
theorem dX2_findPlan_56 : decode cX2_findPlan 56 = .ok (.imul, 1) := by decide +kernel
theorem dX2_findPlan_57 : decode cX2_findPlan 57 = .ok (.iushr, 1) := by decide +kernel
theorem dX2_findPlan_58 : decode cX2_findPlan 58 = .ok (.bipush 15, 2) := by decide +kernel
theorem dX2_findPlan_60 : decode cX2_findPlan 60 = .ok (.iand, 1) := by decide +kernel
theorem dX2_findPlan_61 : decode cX2_findPlan 61 = .ok (.goto 4, 3) := by decide +kernel
theorem dX2_findPlan_64 : decode cX2_findPlan 64 = .ok (.iconst 0, 1) := by decide +kernel
theorem dX2_findPlan_65 : decode cX2_findPlan 65 = .ok (.iastore, 1) := by decide +kernel
theorem dX2_findPlan_66 : decode cX2_findPlan 66 = .ok (.iload_n 2, 1) := by decide +kernel
theorem dX2_findPlan_67 : decode cX2_findPlan 67 = .ok (.aload_n 0, 1) := by decide +kernel
theorem dX2_findPlan_68 : decode cX2_findPlan 68 = .ok (.getfield 34, 3) := by decide +kernel
theorem dX2_findPlan_71 : decode cX2_findPlan 71 = .ok (.aload_n 1, 1) := by decide +kernel
theorem dX2_findPlan_72 : decode cX2_findPlan 72 = .ok (.iload_n 3, 1) := by decide +kernel
theorem dX2_findPlan_73 : decode cX2_findPlan 73 = .ok (.iaload, 1) := by decide +kernel
theorem dX2_findPlan_74 : decode cX2_findPlan 74 = .ok (.iaload, 1) := by decide +kernel
theorem dX2_findPlan_75 : decode cX2_findPlan 75 = .ok (.iadd, 1) := by decide +kernel
theorem dX2_findPlan_76 : decode cX2_findPlan 76 = .ok (.istore_n 2, 1) := by decide +kernel
theorem dX2_findPlan_77 : decode cX2_findPlan 77 = .ok (.iinc 3 1, 3) := by decide +kernel
theorem dX2_findPlan_80 : decode cX2_findPlan 80 = .ok (.goto (-51), 3) := by decide +kernel
theorem dX2_findPlan_83 : decode cX2_findPlan 83 = .ok (.return_, 1) := by decide +kernel
def l2_findPlan_65 (rec29 : Nat → Int32 → Int32 → mm_M → Option (mm_M)) (a1 : Nat) (x2 : Int32) (x3 : Int32) (s0 : Int32) (s1 : Int32) (c2 : Nat) (M : mm_M) : Option (mm_M) :=
  uI c2 (mm_n c2) s1 s0 M (fun M => aI a1 (mm_n a1) x3 M (fun w_1 => aI 33 16 w_1 M (fun w_2 => bI (x2 + w_2) (fun x2_3 => rec29 a1 x2_3 (x3 + 1) M))))
set_option maxHeartbeats 2000000 in
theorem sl2_findPlan_65 (rec29 : Nat → Int32 → Int32 → mm_M → Option (mm_M)) (hrec29 : ∀ (a1 : Nat) (x2 : Int32) (x3 : Int32) (M : mm_M), isA a1 = true → Snd injV j2_findPlan mm_X0 29 [some (.ref 26), some (.ref a1), some (.int x2), some (.int x3)] [] M (rec29 a1 x2 x3 M)) (a1 : Nat) (x2 : Int32) (x3 : Int32) (s0 : Int32) (s1 : Int32) (c2 : Nat) (ha1 : isA a1 = true) (hc2 : isA c2 = true) (M : mm_M) : Snd injV j2_findPlan mm_X0 65 [some (.ref 26), some (.ref a1), some (.int x2), some (.int x3)] [.int s0, .int s1, .ref c2] M (l2_findPlan_65 rec29 a1 x2 x3 s0 s1 c2 M) := by
  unfold l2_findPlan_65
  refine sn_iast (j := j2_findPlan) (pc := 65) (isA_sh hc2) (isA_pos hc2) dX2_findPlan_65 (fun M => ?_)
  refine sn_iload_n (j := j2_findPlan) (pc := 66) rfl rfl dX2_findPlan_66 ?_
  refine sn_aload_n (j := j2_findPlan) (pc := 67) rfl rfl dX2_findPlan_67 ?_
  refine g_X2_34 (j := j2_findPlan) (pc := 68) rfl dX2_findPlan_68 ?_
  refine sn_aload_n (j := j2_findPlan) (pc := 71) rfl rfl dX2_findPlan_71 ?_
  refine sn_iload_n (j := j2_findPlan) (pc := 72) rfl rfl dX2_findPlan_72 ?_
  refine sn_iald (j := j2_findPlan) (pc := 73) (isA_sh ha1) (isA_pos ha1) dX2_findPlan_73 (fun w_1 => ?_)
  refine sn_iald (j := j2_findPlan) (pc := 74) rfl ⟨by decide, by decide⟩ dX2_findPlan_74 (fun w_2 => ?_)
  refine sn_iadd (j := j2_findPlan) (pc := 75) dX2_findPlan_75 ?_
  refine sn_istoreB_n (j := j2_findPlan) (pc := 76) rfl (fun x2_3 => [some (.ref 26), some (.ref a1), some (.int x2_3), some (.int x3)]) (by decide) (fun _ => rfl) dX2_findPlan_76 (fun x2_3 => ?_)
  refine sn_iinc (j := j2_findPlan) (pc := 77) 1 rfl (by decide) rfl (lo' := [some (.ref 26), some (.ref a1), some (.int x2_3), some (.int (x3 + 1))]) rfl dX2_findPlan_77 ?_
  refine sn_goto (j := j2_findPlan) (pc := 80) 29 rfl dX2_findPlan_80 ?_
  exact Snd.wk (hrec29 a1 x2_3 (x3 + 1) M ha1) (by simp [mm_le])
def b2_findPlan_29  (rec29 : Nat → Int32 → Int32 → mm_M → Option (mm_M)) (a1 : Nat) (x2 : Int32) (x3 : Int32) (M : mm_M) : Option (mm_M) :=
  if 8 ≤ x3 then (some M) else (bN (mDep M) (fun d_4 => if isD d_4 = true then (bI (mI M d_4 0) (fun v_5 => if v_5 ≤ x3 then (l2_findPlan_65 rec29 a1 x2 x3 0 x3 a1 M) else (aI 35 6561 x2 M (fun w_6 => l2_findPlan_65 rec29 a1 x2 x3 (((w_6.toUInt32 >>> ((4 * x3).toUInt32 &&& Int32.toUInt32 31)).toInt32) &&& 15) x3 a1 M)))) else none))
set_option maxHeartbeats 2000000 in
theorem sb2_findPlan_29   (rec29 : Nat → Int32 → Int32 → mm_M → Option (mm_M)) (hrec29 : ∀ (a1 : Nat) (x2 : Int32) (x3 : Int32) (M : mm_M), isA a1 = true → Snd injV j2_findPlan mm_X0 29 [some (.ref 26), some (.ref a1), some (.int x2), some (.int x3)] [] M (rec29 a1 x2 x3 M)) (a1 : Nat) (x2 : Int32) (x3 : Int32) (ha1 : isA a1 = true) (M : mm_M) : Snd injV j2_findPlan mm_X0 29 [some (.ref 26), some (.ref a1), some (.int x2), some (.int x3)] [] M (b2_findPlan_29  rec29 a1 x2 x3 M) := by
  unfold b2_findPlan_29
  refine sn_iload_n (j := j2_findPlan) (pc := 29) rfl rfl dX2_findPlan_29 ?_
  refine sn_bipush (j := j2_findPlan) (pc := 30) 8 rfl dX2_findPlan_30 ?_
  refine sn_icmp_ge (j := j2_findPlan) (pc := 32) 83 rfl dX2_findPlan_32 ?_ ?_
  · exact sn_vret (j := j2_findPlan) (pc := 83) rfl dX2_findPlan_83
  · refine sn_aload_n (j := j2_findPlan) (pc := 35) rfl rfl dX2_findPlan_35 ?_
    refine sn_iload_n (j := j2_findPlan) (pc := 36) rfl rfl dX2_findPlan_36 ?_
    refine sn_iload_n (j := j2_findPlan) (pc := 37) rfl rfl dX2_findPlan_37 ?_
    refine sn_aload_n (j := j2_findPlan) (pc := 38) rfl rfl dX2_findPlan_38 ?_
    refine g_X2_68 (j := j2_findPlan) (pc := 39) rfl dX2_findPlan_39 (fun d_4 => ?_)
    refine Snd.ite fun hd_4 => ?_
    refine g_X2_100 (j := j2_findPlan) (pc := 42) hd_4 rfl dX2_findPlan_42 ?_
    refine Snd.bI (fun v_5 => ?_)
    refine sn_icmp_ge (j := j2_findPlan) (pc := 45) 64 rfl dX2_findPlan_45 ?_ ?_
    · refine sn_iconst (j := j2_findPlan) (pc := 64) 0 rfl dX2_findPlan_64 ?_
      exact Snd.wk (sl2_findPlan_65 rec29 hrec29 a1 x2 x3 0 x3 a1 ha1 ha1 M) (by simp [mm_le])
    · refine sn_aload_n (j := j2_findPlan) (pc := 48) rfl rfl dX2_findPlan_48 ?_
      refine g_X2_41 (j := j2_findPlan) (pc := 49) rfl dX2_findPlan_49 ?_
      refine sn_iload_n (j := j2_findPlan) (pc := 52) rfl rfl dX2_findPlan_52 ?_
      refine sn_iald (j := j2_findPlan) (pc := 53) rfl ⟨by decide, by decide⟩ dX2_findPlan_53 (fun w_6 => ?_)
      refine sn_iconst (j := j2_findPlan) (pc := 54) 4 rfl dX2_findPlan_54 ?_
      refine sn_iload_n (j := j2_findPlan) (pc := 55) rfl rfl dX2_findPlan_55 ?_
      refine sn_imul (j := j2_findPlan) (pc := 56) dX2_findPlan_56 ?_
      refine sn_iushr (j := j2_findPlan) (pc := 57) dX2_findPlan_57 ?_
      refine sn_bipush (j := j2_findPlan) (pc := 58) 15 rfl dX2_findPlan_58 ?_
      refine sn_iand (j := j2_findPlan) (pc := 60) dX2_findPlan_60 ?_
      refine sn_goto (j := j2_findPlan) (pc := 61) 65 rfl dX2_findPlan_61 ?_
      exact Snd.wk (sl2_findPlan_65 rec29 hrec29 a1 x2 x3 (((w_6.toUInt32 >>> ((4 * x3).toUInt32 &&& Int32.toUInt32 31)).toInt32) &&& 15) x3 a1 ha1 ha1 M) (by simp [mm_le])
def l2_findPlan_29  : Nat → Nat → Int32 → Int32 → mm_M → Option (mm_M)
  | 0 => fun _ _ _ _ => none
  | n + 1 => fun a1 x2 x3 M => b2_findPlan_29  (l2_findPlan_29  n) a1 x2 x3 M
theorem sl2_findPlan_29   : ∀ (n : Nat) (a1 : Nat) (x2 : Int32) (x3 : Int32) (ha1 : isA a1 = true) (M : mm_M), Snd injV j2_findPlan mm_X0 29 [some (.ref 26), some (.ref a1), some (.int x2), some (.int x3)] [] M (l2_findPlan_29  n a1 x2 x3 M)
  | 0 => fun _ _ _ _ _ => Snd.none
  | n + 1 => fun a1 x2 x3 ha1 M => sb2_findPlan_29   (l2_findPlan_29  n) (fun a1 x2 x3 M ha1 => sl2_findPlan_29   n a1 x2 x3 ha1 M) a1 x2 x3 ha1 M
def l2_findPlan_25  (a1 : Nat) (M : mm_M) : Option (mm_M) :=
  l2_findPlan_29 FU a1 0 0 M
set_option maxHeartbeats 2000000 in
theorem sl2_findPlan_25   (a1 : Nat) (ha1 : isA a1 = true) (M : mm_M) : Snd injV j2_findPlan mm_X0 25 [some (.ref 26), some (.ref a1), none, none] [] M (l2_findPlan_25  a1 M) := by
  unfold l2_findPlan_25
  refine sn_iconst (j := j2_findPlan) (pc := 25) 0 rfl dX2_findPlan_25 ?_
  refine sn_istore_n (j := j2_findPlan) (pc := 26) rfl (by decide) (lo' := [some (.ref 26), some (.ref a1), some (.int 0), none]) rfl dX2_findPlan_26 ?_
  refine sn_iconst (j := j2_findPlan) (pc := 27) 0 rfl dX2_findPlan_27 ?_
  refine sn_istore_n (j := j2_findPlan) (pc := 28) rfl (by decide) (lo' := [some (.ref 26), some (.ref a1), some (.int 0), some (.int 0)]) rfl dX2_findPlan_28 ?_
  exact Snd.wk (sl2_findPlan_29 FU a1 0 0 ha1 M) (by simp [mm_le])
def l2_findPlan_19  (a1 : Nat) (M : mm_M) : Option (mm_M) :=
  cI (f2_weighStates 0 M) (fun r_7 M => l2_findPlan_25 a1 M)
set_option maxHeartbeats 2000000 in
theorem sl2_findPlan_19   (a1 : Nat) (ha1 : isA a1 = true) (M : mm_M) : Snd injV j2_findPlan mm_X0 19 [some (.ref 26), some (.ref a1), none, none] [] M (l2_findPlan_19  a1 M) := by
  unfold l2_findPlan_19
  refine sn_aload_n (j := j2_findPlan) (pc := 19) rfl rfl dX2_findPlan_19 ?_
  refine sn_iconst (j := j2_findPlan) (pc := 20) 0 rfl dX2_findPlan_20 ?_
  refine sn_callV (j := j2_findPlan) (pc := 21) (jc := j2_weighStates) (As := [.int 0]) (s2_weighStates 0 M) mm_hvI (by simp [Value.category]) (Nat.le_of_ble_eq_true rfl) q2_weighStates rfl (by decide) rfl rfl ⟨by decide, by decide⟩ w_ml_X2_92 w_im_X2_weighStates w_se_X2_weighStates rfl (Nat.le_of_ble_eq_true rfl) dX2_findPlan_21 ?_
  rintro ⟨r_7, M⟩
  show Snd injV j2_findPlan mm_X0 24 [some (.ref 26), some (.ref a1), none, none] [.int r_7] M _
  refine sn_pop (j := j2_findPlan) (pc := 24) rfl dX2_findPlan_24 ?_
  exact Snd.wk (sl2_findPlan_25 a1 ha1 M) (by simp [mm_le])
def f2_findPlan (a1 : Nat) (M : mm_M) : Option (mm_M) :=
  if isA a1 = true then (cV (f2_traceAll M) (fun M => cI (f2_mayBeReady M) (fun r_8 M => if r_8 = 0 then (l2_findPlan_19 a1 M) else (cI (f2_weighStates 1 M) (fun r_9 M => if r_9 = 0 then (l2_findPlan_19 a1 M) else (l2_findPlan_25 a1 M)))))) else none
set_option maxHeartbeats 2000000 in
theorem s2_findPlan (a1 : Nat) (M : mm_M) : Snd injV j2_findPlan mm_X0 0 [some (.ref 26), some (.ref a1)] [] M (f2_findPlan a1 M) := by
  refine Snd.wk (lo' := [some (.ref 26), some (.ref a1), none, none]) ?_ (by simp [mm_le])
  unfold f2_findPlan
  refine Snd.ite fun ha1 => ?_
  refine sn_aload_n (j := j2_findPlan) (pc := 0) rfl rfl dX2_findPlan_0 ?_
  refine sn_callV (j := j2_findPlan) (pc := 1) (jc := j2_traceAll) (As := []) (s2_traceAll M) mm_hvV (by simp [Value.category]) (Nat.le_of_ble_eq_true rfl) q2_traceAll rfl (by decide) rfl rfl ⟨by decide, by decide⟩ w_ml_X2_85 w_im_X2_traceAll w_se_X2_traceAll rfl (Nat.le_of_ble_eq_true rfl) dX2_findPlan_1 ?_
  intro M
  show Snd injV j2_findPlan mm_X0 4 [some (.ref 26), some (.ref a1), none, none] [] M _
  refine sn_aload_n (j := j2_findPlan) (pc := 4) rfl rfl dX2_findPlan_4 ?_
  refine sn_callV (j := j2_findPlan) (pc := 5) (jc := j2_mayBeReady) (As := []) (s2_mayBeReady M) mm_hvI (by simp [Value.category]) (Nat.le_of_ble_eq_true rfl) q2_mayBeReady rfl (by decide) rfl rfl ⟨by decide, by decide⟩ w_ml_X2_88 w_im_X2_mayBeReady w_se_X2_mayBeReady rfl (Nat.le_of_ble_eq_true rfl) dX2_findPlan_5 ?_
  rintro ⟨r_8, M⟩
  show Snd injV j2_findPlan mm_X0 8 [some (.ref 26), some (.ref a1), none, none] [.int r_8] M _
  refine sn_if_eq (j := j2_findPlan) (pc := 8) 19 rfl dX2_findPlan_8 ?_ ?_
  · exact Snd.wk (sl2_findPlan_19 a1 ha1 M) (by simp [mm_le])
  · refine sn_aload_n (j := j2_findPlan) (pc := 11) rfl rfl dX2_findPlan_11 ?_
    refine sn_iconst (j := j2_findPlan) (pc := 12) 1 rfl dX2_findPlan_12 ?_
    refine sn_callV (j := j2_findPlan) (pc := 13) (jc := j2_weighStates) (As := [.int 1]) (s2_weighStates 1 M) mm_hvI (by simp [Value.category]) (Nat.le_of_ble_eq_true rfl) q2_weighStates rfl (by decide) rfl rfl ⟨by decide, by decide⟩ w_ml_X2_92 w_im_X2_weighStates w_se_X2_weighStates rfl (Nat.le_of_ble_eq_true rfl) dX2_findPlan_13 ?_
    rintro ⟨r_9, M⟩
    show Snd injV j2_findPlan mm_X0 16 [some (.ref 26), some (.ref a1), none, none] [.int r_9] M _
    refine sn_if_ne (j := j2_findPlan) (pc := 16) 25 rfl dX2_findPlan_16 ?_ ?_
    · exact Snd.wk (sl2_findPlan_25 a1 ha1 M) (by simp [mm_le])
    · exact Snd.wk (sl2_findPlan_19 a1 ha1 M) (by simp [mm_le])
