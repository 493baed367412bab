abbrev j7_readWord : mm_J := (yX7_readWord, cX7_readWord, 4, (some .long), 1)
theorem dX7_readWord_0 : decode cX7_readWord 0 = .ok (.lconst 0, 1) := by decide +kernel
theorem dX7_readWord_1 : decode cX7_readWord 1 = .ok (.lstore_n 1, 1) := by decide +kernel
theorem dX7_readWord_2 : decode cX7_readWord 2 = .ok (.iconst 0, 1) := by decide +kernel
theorem dX7_readWord_3 : decode cX7_readWord 3 = .ok (.istore_n 3, 1) := by decide +kernel
theorem dX7_readWord_4 : decode cX7_readWord 4 = .ok (.aload_n 0, 1) := by decide +kernel
theorem dX7_readWord_5 : decode cX7_readWord 5 = .ok (.aload_n 0, 1) := by decide +kernel
theorem dX7_readWord_6 : decode cX7_readWord 6 = .ok (.getfield 71, 3) := by decide +kernel
theorem dX7_readWord_9 : decode cX7_readWord 9 = .ok (.putfield 89, 3) := by decide +kernel
theorem dX7_readWord_12 : decode cX7_readWord 12 = .ok (.aload_n 0, 1) := by decide +kernel
theorem dX7_readWord_13 : decode cX7_readWord 13 = .ok (.getfield 71, 3) := by decide +kernel
theorem dX7_readWord_16 : decode cX7_readWord 16 = .ok (.aload_n 0, 1) := by decide +kernel
theorem dX7_readWord_17 : decode cX7_readWord 17 = .ok (.getfield 64, 3) := by decide +kernel
theorem dX7_readWord_20 : decode cX7_readWord 20 = .ok (.if_icmp .ge 71, 3) := by decide +kernel
theorem dX7_readWord_23 : decode cX7_readWord 23 = .ok (.aload_n 0, 1) := by decide +kernel
theorem dX7_readWord_24 : decode cX7_readWord 24 = .ok (.getfield 16, 3) := by decide +kernel
theorem dX7_readWord_27 : decode cX7_readWord 27 = .ok (.aload_n 0, 1) := by decide +kernel
theorem dX7_readWord_28 : decode cX7_readWord 28 = .ok (.getfield 71, 3) := by decide +kernel
theorem dX7_readWord_31 : decode cX7_readWord 31 = .ok (.iaload, 1) := by decide +kernel
theorem dX7_readWord_32 : decode cX7_readWord 32 = .ok (.bipush 97, 2) := by decide +kernel
theorem dX7_readWord_34 : decode cX7_readWord 34 = .ok (.bipush 122, 2) := by decide +kernel
theorem dX7_readWord_36 : decode cX7_readWord 36 = .ok (.invokestatic 60, 3) := by decide +kernel
theorem dX7_readWord_39 : decode cX7_readWord 39 = .ok (.ifCond .eq 52, 3) := by decide +kernel
theorem dX7_readWord_42 : decode cX7_readWord 42 = .ok (.iload_n 3, 1) := by decide +kernel
theorem dX7_readWord_43 : decode cX7_readWord 43 = .ok (.bipush 6, 2) := by decide +kernel
theorem dX7_readWord_45 : decode cX7_readWord 45 = .ok (.if_icmp .ge 26, 3) := by decide +kernel
theorem dX7_readWord_48 : decode cX7_readWord 48 = .ok (.lload_n 1, 1) := by decide +kernel
theorem dX7_readWord_49 : decode cX7_readWord 49 = .ok (.ldc2_w 101, 3) := by decide +kernel
theorem dX7_readWord_52 : decode cX7_readWord 52 = .ok (.lmul, 1) := by decide +kernel
theorem dX7_readWord_53 : decode cX7_readWord 53 = .ok (.aload_n 0, 1) := by decide +kernel
theorem dX7_readWord_54 : decode cX7_readWord 54 = .ok (.getfield 16, 3) := by decide +kernel
theorem dX7_readWord_57 : decode cX7_readWord 57 = .ok (.aload_n 0, 1) := by decide +kernel
theorem dX7_readWord_58 : decode cX7_readWord 58 = .ok (.getfield 71, 3) := by decide +kernel
theorem dX7_readWord_61 : decode cX7_readWord 61 = .ok (.iaload, 1) := by decide +kernel
theorem dX7_readWord_62 : decode cX7_readWord 62 = .ok (.i2l, 1) := by decide +kernel
theorem dX7_readWord_63 : decode cX7_readWord 63 = .ok (.ladd, 1) := by decide +kernel
theorem dX7_readWord_64 : decode cX7_readWord 64 = .ok (.ldc2_w 103, 3) := by decide +kernel
theorem dX7_readWord_67 : decode cX7_readWord 67 = .ok (.lsub, 1) := by decide +kernel
theorem dX7_readWord_68 : decode cX7_readWord 68 = .ok (.goto 6, 3) := by decide +kernel
theorem dX7_readWord_71 : decode cX7_readWord 71 = .ok (.ldc2_w 105, 3) := by decide +kernel
theorem dX7_readWord_74 : decode cX7_readWord 74 = .ok (.lstore_n 1, 1) := by decide +kernel
theorem dX7_readWord_75 : decode cX7_readWord 75 = .ok (.iinc 3 1, 3) := by decide +kernel
theorem dX7_readWord_78 : decode cX7_readWord 78 = .ok (.aload_n 0, 1) := by decide +kernel
theorem dX7_readWord_79 : decode cX7_readWord 79 = .ok (.dup, 1) := by decide +kernel
theorem dX7_readWord_80 : decode cX7_readWord 80 = .ok (.getfield 71, 3) := by decide +kernel
theorem dX7_readWord_83 : decode cX7_readWord 83 = .ok (.iconst 1, 1) := by decide +kernel
theorem dX7_readWord_84 : decode cX7_readWord 84 = .ok (.iadd, 1) := by decide +kernel
theorem dX7_readWord_85 : decode cX7_readWord 85 = .ok (.putfield 71, 3) := by decide +kernel
theorem dX7_readWord_88 : decode cX7_readWord 88 = .ok (.goto (-76), 3) := by decide +kernel
theorem dX7_readWord_91 : decode cX7_readWord 91 = .ok (.lload_n 1, 1) := by decide +kernel
theorem dX7_readWord_92 : decode cX7_readWord 92 = .ok (.lreturn, 1) := by decide +kernel
def l7_readWord_91  (y1 : Int64) (M : mm_M) : Option (Int64 × mm_M) :=
  some (y1, M)
set_option maxHeartbeats 2000000 in
theorem sl7_readWord_91   (y1 : Int64)  (M : mm_M) : Snd injL j7_readWord mm_X0 91 [none, some (.long y1), none, none] [] M (l7_readWord_91  y1 M) := by
  unfold l7_readWord_91
  refine sn_lload_n (j := j7_readWord) (pc := 91) rfl rfl dX7_readWord_91 ?_
  exact sn_lret (j := j7_readWord) (pc := 92) rfl dX7_readWord_92
def l7_readWord_74 (rec12 : Int64 → Int32 → mm_M → Option (Int64 × mm_M)) (x3 : Int32) (t0 : Int64) (M : mm_M) : Option (Int64 × mm_M) :=
  bI (mI M 46 6) (fun v_1 => bM (sI M 46 6 (v_1 + 1)) (fun M => rec12 t0 (x3 + 1) M))
set_option maxHeartbeats 2000000 in
theorem sl7_readWord_74 (rec12 : Int64 → Int32 → mm_M → Option (Int64 × mm_M)) (hrec12 : ∀ (y1 : Int64) (x3 : Int32) (M : mm_M), Snd injL j7_readWord mm_X0 12 [some (.ref 46), some (.long y1), none, some (.int x3)] [] M (rec12 y1 x3 M)) (x3 : Int32) (t0 : Int64)  (M : mm_M) : Snd injL j7_readWord mm_X0 74 [some (.ref 46), none, none, some (.int x3)] [.long t0] M (l7_readWord_74 rec12 x3 t0 M) := by
  unfold l7_readWord_74
  refine sn_lstore_n (j := j7_readWord) (pc := 74) rfl (by decide) (lo' := [some (.ref 46), some (.long t0), none, some (.int x3)]) rfl dX7_readWord_74 ?_
  refine sn_iinc (j := j7_readWord) (pc := 75) 1 rfl (by decide) rfl (lo' := [some (.ref 46), some (.long t0), none, some (.int (x3 + 1))]) rfl dX7_readWord_75 ?_
  refine sn_aload_n (j := j7_readWord) (pc := 78) rfl rfl dX7_readWord_78 ?_
  refine sn_dup (j := j7_readWord) (pc := 79) rfl dX7_readWord_79 ?_
  refine g_X7_71 (j := j7_readWord) (pc := 80) rfl dX7_readWord_80 ?_
  refine Snd.bI (fun v_1 => ?_)
  refine sn_iconst (j := j7_readWord) (pc := 83) 1 rfl dX7_readWord_83 ?_
  refine sn_iadd (j := j7_readWord) (pc := 84) dX7_readWord_84 ?_
  refine p_X7_71 (j := j7_readWord) (pc := 85) rfl dX7_readWord_85 (fun M => ?_)
  refine sn_goto (j := j7_readWord) (pc := 88) 12 rfl dX7_readWord_88 ?_
  exact Snd.wk (hrec12 t0 (x3 + 1) M ) (by simp [mm_le])
def b7_readWord_12  (rec12 : Int64 → Int32 → mm_M → Option (Int64 × mm_M)) (y1 : Int64) (x3 : Int32) (M : mm_M) : Option (Int64 × mm_M) :=
  bI (mI M 46 6) (fun v_2 => bI (mI M 46 4) (fun v_3 => if v_3 ≤ v_2 then (l7_readWord_91 y1 M) else (bI (mI M 46 6) (fun v_4 => aI 49 400 v_4 M (fun w_5 => cI (f7_in w_5 97 122 M) (fun r_6 M => if r_6 = 0 then (l7_readWord_91 y1 M) else (if 6 ≤ x3 then (l7_readWord_74 rec12 x3 (-1) M) else (bI (mI M 46 6) (fun v_7 => aI 49 400 v_7 M (fun w_8 => l7_readWord_74 rec12 x3 (((y1 * 27) + w_8.toInt64) - 96) M))))))))))
set_option maxHeartbeats 2000000 in
theorem sb7_readWord_12   (rec12 : Int64 → Int32 → mm_M → Option (Int64 × mm_M)) (hrec12 : ∀ (y1 : Int64) (x3 : Int32) (M : mm_M), Snd injL j7_readWord mm_X0 12 [some (.ref 46), some (.long y1), none, some (.int x3)] [] M (rec12 y1 x3 M)) (y1 : Int64) (x3 : Int32)  (M : mm_M) : Snd injL j7_readWord mm_X0 12 [some (.ref 46), some (.long y1), none, some (.int x3)] [] M (b7_readWord_12  rec12 y1 x3 M) := by
  unfold b7_readWord_12
  refine sn_aload_n (j := j7_readWord) (pc := 12) rfl rfl dX7_readWord_12 ?_
  refine g_X7_71 (j := j7_readWord) (pc := 13) rfl dX7_readWord_13 ?_
  refine Snd.bI (fun v_2 => ?_)
  refine sn_aload_n (j := j7_readWord) (pc := 16) rfl rfl dX7_readWord_16 ?_
  refine g_X7_64 (j := j7_readWord) (pc := 17) rfl dX7_readWord_17 ?_
  refine Snd.bI (fun v_3 => ?_)
  refine sn_icmp_ge (j := j7_readWord) (pc := 20) 91 rfl dX7_readWord_20 ?_ ?_
  · exact Snd.wk (sl7_readWord_91 y1 M) (by simp [mm_le])
  · refine sn_aload_n (j := j7_readWord) (pc := 23) rfl rfl dX7_readWord_23 ?_
    refine g_X7_16 (j := j7_readWord) (pc := 24) rfl dX7_readWord_24 ?_
    refine sn_aload_n (j := j7_readWord) (pc := 27) rfl rfl dX7_readWord_27 ?_
    refine g_X7_71 (j := j7_readWord) (pc := 28) rfl dX7_readWord_28 ?_
    refine Snd.bI (fun v_4 => ?_)
    refine sn_iald (j := j7_readWord) (pc := 31) rfl ⟨by decide, by decide⟩ dX7_readWord_31 (fun w_5 => ?_)
    refine sn_bipush (j := j7_readWord) (pc := 32) 97 rfl dX7_readWord_32 ?_
    refine sn_bipush (j := j7_readWord) (pc := 34) 122 rfl dX7_readWord_34 ?_
    refine sn_callS (j := j7_readWord) (pc := 36) (jc := j7_in) (As := [.int w_5, .int 97, .int 122]) (s7_in w_5 97 122 M) mm_hvI (by simp [Value.category]) (Nat.le_of_ble_eq_true rfl) q7_in rfl (by decide) w_ml_X7_60 w_st_X7_in rfl (Nat.le_of_ble_eq_true rfl) dX7_readWord_36 ?_
    rintro ⟨r_6, M⟩
    show Snd injL j7_readWord mm_X0 39 [some (.ref 46), some (.long y1), none, some (.int x3)] [.int r_6] M _
    refine sn_if_eq (j := j7_readWord) (pc := 39) 91 rfl dX7_readWord_39 ?_ ?_
    · exact Snd.wk (sl7_readWord_91 y1 M) (by simp [mm_le])
    · refine sn_iload_n (j := j7_readWord) (pc := 42) rfl rfl dX7_readWord_42 ?_
      refine sn_bipush (j := j7_readWord) (pc := 43) 6 rfl dX7_readWord_43 ?_
      refine sn_icmp_ge (j := j7_readWord) (pc := 45) 71 rfl dX7_readWord_45 ?_ ?_
      · refine sn_ldc2 (j := j7_readWord) (pc := 71) w_cl_X7_105 dX7_readWord_71 ?_
        exact Snd.wk (sl7_readWord_74 rec12 hrec12 x3 (-1) M) (by simp [mm_le])
      · refine sn_lload_n (j := j7_readWord) (pc := 48) rfl rfl dX7_readWord_48 ?_
        refine sn_ldc2 (j := j7_readWord) (pc := 49) w_cl_X7_101 dX7_readWord_49 ?_
        refine sn_lmul (j := j7_readWord) (pc := 52) dX7_readWord_52 ?_
        refine sn_aload_n (j := j7_readWord) (pc := 53) rfl rfl dX7_readWord_53 ?_
        refine g_X7_16 (j := j7_readWord) (pc := 54) rfl dX7_readWord_54 ?_
        refine sn_aload_n (j := j7_readWord) (pc := 57) rfl rfl dX7_readWord_57 ?_
        refine g_X7_71 (j := j7_readWord) (pc := 58) rfl dX7_readWord_58 ?_
        refine Snd.bI (fun v_7 => ?_)
        refine sn_iald (j := j7_readWord) (pc := 61) rfl ⟨by decide, by decide⟩ dX7_readWord_61 (fun w_8 => ?_)
        refine sn_i2l (j := j7_readWord) (pc := 62) dX7_readWord_62 ?_
        refine sn_ladd (j := j7_readWord) (pc := 63) dX7_readWord_63 ?_
        refine sn_ldc2 (j := j7_readWord) (pc := 64) w_cl_X7_103 dX7_readWord_64 ?_
        refine sn_lsub (j := j7_readWord) (pc := 67) dX7_readWord_67 ?_
        refine sn_goto (j := j7_readWord) (pc := 68) 74 rfl dX7_readWord_68 ?_
        exact Snd.wk (sl7_readWord_74 rec12 hrec12 x3 (((y1 * 27) + w_8.toInt64) - 96) M) (by simp [mm_le])
def l7_readWord_12  : Nat → Int64 → Int32 → mm_M → Option (Int64 × mm_M)
  | 0 => fun _ _ _ => none
  | n + 1 => fun y1 x3 M => b7_readWord_12  (l7_readWord_12  n) y1 x3 M
theorem sl7_readWord_12   : ∀ (n : Nat) (y1 : Int64) (x3 : Int32)  (M : mm_M), Snd injL j7_readWord mm_X0 12 [some (.ref 46), some (.long y1), none, some (.int x3)] [] M (l7_readWord_12  n y1 x3 M)
  | 0 => fun _ _  _ => Snd.none
  | n + 1 => fun y1 x3  M => sb7_readWord_12   (l7_readWord_12  n) (fun y1 x3 M  => sl7_readWord_12   n y1 x3  M) y1 x3  M
def f7_readWord  (M : mm_M) : Option (Int64 × mm_M) :=
  bI (mI M 46 6) (fun v_9 => bM (sI M 46 9 v_9) (fun M => l7_readWord_12 FU 0 0 M))
set_option maxHeartbeats 2000000 in
theorem s7_readWord  (M : mm_M) : Snd injL j7_readWord mm_X0 0 [some (.ref 46)] [] M (f7_readWord  M) := by
  refine Snd.wk (lo' := [some (.ref 46), none, none, none]) ?_ (by simp [mm_le])
  unfold f7_readWord
  refine sn_lconst (j := j7_readWord) (pc := 0) 0 rfl dX7_readWord_0 ?_
  refine sn_lstore_n (j := j7_readWord) (pc := 1) rfl (by decide) (lo' := [some (.ref 46), some (.long 0), none, none]) rfl dX7_readWord_1 ?_
  refine sn_iconst (j := j7_readWord) (pc := 2) 0 rfl dX7_readWord_2 ?_
  refine sn_istore_n (j := j7_readWord) (pc := 3) rfl (by decide) (lo' := [some (.ref 46), some (.long 0), none, some (.int 0)]) rfl dX7_readWord_3 ?_
  refine sn_aload_n (j := j7_readWord) (pc := 4) rfl rfl dX7_readWord_4 ?_
  refine sn_aload_n (j := j7_readWord) (pc := 5) rfl rfl dX7_readWord_5 ?_
  refine g_X7_71 (j := j7_readWord) (pc := 6) rfl dX7_readWord_6 ?_
  refine Snd.bI (fun v_9 => ?_)
  refine p_X7_89 (j := j7_readWord) (pc := 9) rfl dX7_readWord_9 (fun M => ?_)
  exact Snd.wk (sl7_readWord_12 FU 0 0 M) (by simp [mm_le])

abbrev j7_readSlots : mm_J := (yX7_readSlots, cX7_readSlots, 2, (some .boolean), 4)
theorem dX7_readSlots_0 : decode cX7_readSlots 0 = .ok (.aload_n 0, 1) := by decide +kernel
theorem dX7_readSlots_1 : decode cX7_readSlots 1 = .ok (.iconst 1, 1) := by decide +kernel
theorem dX7_readSlots_2 : decode cX7_readSlots 2 = .ok (.bipush 8, 2) := by decide +kernel
theorem dX7_readSlots_4 : decode cX7_readSlots 4 = .ok (.invokevirtual 98, 3) := by decide +kernel
theorem dX7_readSlots_7 : decode cX7_readSlots 7 = .ok (.ifCond .ne 5, 3) := by decide +kernel
theorem dX7_readSlots_10 : decode cX7_readSlots 10 = .ok (.iconst 0, 1) := by decide +kernel
theorem dX7_readSlots_11 : decode cX7_readSlots 11 = .ok (.ireturn, 1) := by decide +kernel
theorem dX7_readSlots_12 : decode cX7_readSlots 12 = .ok (.aload_n 0, 1) := by decide +kernel
theorem dX7_readSlots_13 : decode cX7_readSlots 13 = .ok (.getfield 13, 3) := by decide +kernel
theorem dX7_readSlots_16 : decode cX7_readSlots 16 = .ok (.iconst 0, 1) := by decide +kernel
theorem dX7_readSlots_17 : decode cX7_readSlots 17 = .ok (.aload_n 0, 1) := by decide +kernel
theorem dX7_readSlots_18 : decode cX7_readSlots 18 = .ok (.getfield 92, 3) := by decide +kernel
theorem dX7_readSlots_21 : decode cX7_readSlots 21 = .ok (.iastore, 1) := by decide +kernel
theorem dX7_readSlots_22 : decode cX7_readSlots 22 = .ok (.aload_n 0, 1) := by decide +kernel
theorem dX7_readSlots_23 : decode cX7_readSlots 23 = .ok (.getfield 13, 3) := by decide +kernel
theorem dX7_readSlots_26 : decode cX7_readSlots 26 = .ok (.iconst 1, 1) := by decide +kernel
theorem dX7_readSlots_27 : decode cX7_readSlots 27 = .ok (.iconst 0, 1) := by decide +kernel
theorem dX7_readSlots_28 : decode cX7_readSlots 28 = .ok (.iastore, 1) := by decide +kernel
theorem dX7_readSlots_29 : decode cX7_readSlots 29 = .ok (.iconst 0, 1) := by decide +kernel
theorem dX7_readSlots_30 : decode cX7_readSlots 30 = .ok (.istore_n 1, 1) := by decide +kernel
theorem dX7_readSlots_31 : decode cX7_readSlots 31 = .ok (.iload_n 1, 1) := by decide +kernel
theorem dX7_readSlots_32 : decode cX7_readSlots 32 = .ok (.bipush 8, 2) := by decide +kernel
theorem dX7_readSlots_34 : decode cX7_readSlots 34 = .ok (.if_icmp .ge 30, 3) := by decide +kernel
theorem dX7_readSlots_37 : decode cX7_readSlots 37 = .ok (.aload_n 0, 1) := by decide +kernel
theorem dX7_readSlots_38 : decode cX7_readSlots 38 = .ok (.getfield 13, 3) := by decide +kernel
theorem dX7_readSlots_41 : decode cX7_readSlots 41 = .ok (.bipush 6, 2) := by decide +kernel
theorem dX7_readSlots_43 : decode cX7_readSlots 43 = .ok (.iload_n 1, 1) := by decide +kernel
theorem dX7_readSlots_44 : decode cX7_readSlots 44 = .ok (.iadd, 1) := by decide +kernel
theorem dX7_readSlots_45 : decode cX7_readSlots 45 = .ok (.bipush 10, 2) := by decide +kernel
theorem dX7_readSlots_47 : decode cX7_readSlots 47 = .ok (.iastore, 1) := by decide +kernel
theorem dX7_readSlots_48 : decode cX7_readSlots 48 = .ok (.aload_n 0, 1) := by decide +kernel
theorem dX7_readSlots_49 : decode cX7_readSlots 49 = .ok (.getfield 13, 3) := by decide +kernel
theorem dX7_readSlots_52 : decode cX7_readSlots 52 = .ok (.bipush 74, 2) := by decide +kernel
theorem dX7_readSlots_54 : decode cX7_readSlots 54 = .ok (.iload_n 1, 1) := by decide +kernel
theorem dX7_readSlots_55 : decode cX7_readSlots 55 = .ok (.iadd, 1) := by decide +kernel
theorem dX7_readSlots_56 : decode cX7_readSlots 56 = .ok (.iconst 0, 1) := by decide +kernel
theorem dX7_readSlots_57 : decode cX7_readSlots 57 = .ok (.iastore, 1) := by decide +kernel
theorem dX7_readSlots_58 : decode cX7_readSlots 58 = .ok (.iinc 1 1, 3) := by decide +kernel
theorem dX7_readSlots_61 : decode cX7_readSlots 61 = .ok (.goto (-30), 3) := by decide +kernel
theorem dX7_readSlots_64 : decode cX7_readSlots 64 = .ok (.iconst 1, 1) := by decide +kernel
theorem dX7_readSlots_65 : decode cX7_readSlots 65 = .ok (.ireturn, 1) := by decide +kernel
def b7_readSlots_31  (rec31 : Int32 → mm_M → Option (Int32 × mm_M)) (x1 : Int32) (M : mm_M) : Option (Int32 × mm_M) :=
  if 8 ≤ x1 then (rZ 1 M) else (uI 48 82 (6 + x1) 10 M (fun M => uI 48 82 (74 + x1) 0 M (fun M => rec31 (x1 + 1) M)))
set_option maxHeartbeats 2000000 in
theorem sb7_readSlots_31   (rec31 : Int32 → mm_M → Option (Int32 × mm_M)) (hrec31 : ∀ (x1 : Int32) (M : mm_M), Snd injI j7_readSlots mm_X0 31 [some (.ref 46), some (.int x1)] [] M (rec31 x1 M)) (x1 : Int32)  (M : mm_M) : Snd injI j7_readSlots mm_X0 31 [some (.ref 46), some (.int x1)] [] M (b7_readSlots_31  rec31 x1 M) := by
  unfold b7_readSlots_31
  refine sn_iload_n (j := j7_readSlots) (pc := 31) rfl rfl dX7_readSlots_31 ?_
  refine sn_bipush (j := j7_readSlots) (pc := 32) 8 rfl dX7_readSlots_32 ?_
  refine sn_icmp_ge (j := j7_readSlots) (pc := 34) 64 rfl dX7_readSlots_34 ?_ ?_
  · refine sn_iconst (j := j7_readSlots) (pc := 64) 1 rfl dX7_readSlots_64 ?_
    exact sn_zret (j := j7_readSlots) (pc := 65) rfl dX7_readSlots_65
  · refine sn_aload_n (j := j7_readSlots) (pc := 37) rfl rfl dX7_readSlots_37 ?_
    refine g_X7_13 (j := j7_readSlots) (pc := 38) rfl dX7_readSlots_38 ?_
    refine sn_bipush (j := j7_readSlots) (pc := 41) 6 rfl dX7_readSlots_41 ?_
    refine sn_iload_n (j := j7_readSlots) (pc := 43) rfl rfl dX7_readSlots_43 ?_
    refine sn_iadd (j := j7_readSlots) (pc := 44) dX7_readSlots_44 ?_
    refine sn_bipush (j := j7_readSlots) (pc := 45) 10 rfl dX7_readSlots_45 ?_
    refine sn_iast (j := j7_readSlots) (pc := 47) rfl ⟨by decide, by decide⟩ dX7_readSlots_47 (fun M => ?_)
    refine sn_aload_n (j := j7_readSlots) (pc := 48) rfl rfl dX7_readSlots_48 ?_
    refine g_X7_13 (j := j7_readSlots) (pc := 49) rfl dX7_readSlots_49 ?_
    refine sn_bipush (j := j7_readSlots) (pc := 52) 74 rfl dX7_readSlots_52 ?_
    refine sn_iload_n (j := j7_readSlots) (pc := 54) rfl rfl dX7_readSlots_54 ?_
    refine sn_iadd (j := j7_readSlots) (pc := 55) dX7_readSlots_55 ?_
    refine sn_iconst (j := j7_readSlots) (pc := 56) 0 rfl dX7_readSlots_56 ?_
    refine sn_iast (j := j7_readSlots) (pc := 57) rfl ⟨by decide, by decide⟩ dX7_readSlots_57 (fun M => ?_)
    refine sn_iinc (j := j7_readSlots) (pc := 58) 1 rfl (by decide) rfl (lo' := [some (.ref 46), some (.int (x1 + 1))]) rfl dX7_readSlots_58 ?_
    refine sn_goto (j := j7_readSlots) (pc := 61) 31 rfl dX7_readSlots_61 ?_
    exact Snd.wk (hrec31 (x1 + 1) M ) (by simp [mm_le])
def l7_readSlots_31  : Nat → Int32 → mm_M → Option (Int32 × mm_M)
  | 0 => fun _ _ => none
  | n + 1 => fun x1 M => b7_readSlots_31  (l7_readSlots_31  n) x1 M
theorem sl7_readSlots_31   : ∀ (n : Nat) (x1 : Int32)  (M : mm_M), Snd injI j7_readSlots mm_X0 31 [some (.ref 46), some (.int x1)] [] M (l7_readSlots_31  n x1 M)
  | 0 => fun _  _ => Snd.none
  | n + 1 => fun x1  M => sb7_readSlots_31   (l7_readSlots_31  n) (fun x1 M  => sl7_readSlots_31   n x1  M) x1  M
def f7_readSlots  (M : mm_M) : Option (Int32 × mm_M) :=
  cI (f7_readNumber 1 8 M) (fun r_1 M => if r_1 = 0 then (rZ 0 M) else (bI (mI M 46 8) (fun v_2 => uI 48 82 0 v_2 M (fun M => uI 48 82 1 0 M (fun M => l7_readSlots_31 FU 0 M)))))
set_option maxHeartbeats 2000000 in
theorem s7_readSlots  (M : mm_M) : Snd injI j7_readSlots mm_X0 0 [some (.ref 46)] [] M (f7_readSlots  M) := by
  refine Snd.wk (lo' := [some (.ref 46), none]) ?_ (by simp [mm_le])
  unfold f7_readSlots
  refine sn_aload_n (j := j7_readSlots) (pc := 0) rfl rfl dX7_readSlots_0 ?_
  refine sn_iconst (j := j7_readSlots) (pc := 1) 1 rfl dX7_readSlots_1 ?_
  refine sn_bipush (j := j7_readSlots) (pc := 2) 8 rfl dX7_readSlots_2 ?_
  refine sn_callV (j := j7_readSlots) (pc := 4) (jc := j7_readNumber) (As := [.int 1, .int 8]) (s7_readNumber 1 8 M) mm_hvI (by simp [Value.category]) (Nat.le_of_ble_eq_true rfl) q7_readNumber rfl (by decide) rfl rfl ⟨by decide, by decide⟩ w_ml_X7_98 w_im_X7_readNumber w_se_X7_readNumber rfl (Nat.le_of_ble_eq_true rfl) dX7_readSlots_4 ?_
  rintro ⟨r_1, M⟩
  show Snd injI j7_readSlots mm_X0 7 [some (.ref 46), none] [.int r_1] M _
  refine sn_if_ne (j := j7_readSlots) (pc := 7) 12 rfl dX7_readSlots_7 ?_ ?_
  · refine sn_aload_n (j := j7_readSlots) (pc := 12) rfl rfl dX7_readSlots_12 ?_
    refine g_X7_13 (j := j7_readSlots) (pc := 13) rfl dX7_readSlots_13 ?_
    refine sn_iconst (j := j7_readSlots) (pc := 16) 0 rfl dX7_readSlots_16 ?_
    refine sn_aload_n (j := j7_readSlots) (pc := 17) rfl rfl dX7_readSlots_17 ?_
    refine g_X7_92 (j := j7_readSlots) (pc := 18) rfl dX7_readSlots_18 ?_
    refine Snd.bI (fun v_2 => ?_)
    refine sn_iast (j := j7_readSlots) (pc := 21) rfl ⟨by decide, by decide⟩ dX7_readSlots_21 (fun M => ?_)
    refine sn_aload_n (j := j7_readSlots) (pc := 22) rfl rfl dX7_readSlots_22 ?_
    refine g_X7_13 (j := j7_readSlots) (pc := 23) rfl dX7_readSlots_23 ?_
    refine sn_iconst (j := j7_readSlots) (pc := 26) 1 rfl dX7_readSlots_26 ?_
    refine sn_iconst (j := j7_readSlots) (pc := 27) 0 rfl dX7_readSlots_27 ?_
    refine sn_iast (j := j7_readSlots) (pc := 28) rfl ⟨by decide, by decide⟩ dX7_readSlots_28 (fun M => ?_)
    refine sn_iconst (j := j7_readSlots) (pc := 29) 0 rfl dX7_readSlots_29 ?_
    refine sn_istore_n (j := j7_readSlots) (pc := 30) rfl (by decide) (lo' := [some (.ref 46), some (.int 0)]) rfl dX7_readSlots_30 ?_
    exact Snd.wk (sl7_readSlots_31 FU 0 M) (by simp [mm_le])
  · refine sn_iconst (j := j7_readSlots) (pc := 10) 0 rfl dX7_readSlots_10 ?_
    exact sn_zret (j := j7_readSlots) (pc := 11) rfl dX7_readSlots_11

abbrev j7_readPrice : mm_J := (yX7_readPrice, cX7_readPrice, 1, (some .boolean), 5)
theorem dX7_readPrice_0 : decode cX7_readPrice 0 = .ok (.aload_n 0, 1) := by decide +kernel
theorem dX7_readPrice_1 : decode cX7_readPrice 1 = .ok (.iconst 0, 1) := by decide +kernel
theorem dX7_readPrice_2 : decode cX7_readPrice 2 = .ok (.aload_n 0, 1) := by decide +kernel
theorem dX7_readPrice_3 : decode cX7_readPrice 3 = .ok (.getfield 13, 3) := by decide +kernel
theorem dX7_readPrice_6 : decode cX7_readPrice 6 = .ok (.iconst 0, 1) := by decide +kernel
theorem dX7_readPrice_7 : decode cX7_readPrice 7 = .ok (.iaload, 1) := by decide +kernel
theorem dX7_readPrice_8 : decode cX7_readPrice 8 = .ok (.iconst 1, 1) := by decide +kernel
theorem dX7_readPrice_9 : decode cX7_readPrice 9 = .ok (.isub, 1) := by decide +kernel
theorem dX7_readPrice_10 : decode cX7_readPrice 10 = .ok (.invokevirtual 98, 3) := by decide +kernel
theorem dX7_readPrice_13 : decode cX7_readPrice 13 = .ok (.ifCond .eq 24, 3) := by decide +kernel
theorem dX7_readPrice_16 : decode cX7_readPrice 16 = .ok (.aload_n 0, 1) := by decide +kernel
theorem dX7_readPrice_17 : decode cX7_readPrice 17 = .ok (.bipush 6, 2) := by decide +kernel
theorem dX7_readPrice_19 : decode cX7_readPrice 19 = .ok (.aload_n 0, 1) := by decide +kernel
theorem dX7_readPrice_20 : decode cX7_readPrice 20 = .ok (.getfield 92, 3) := by decide +kernel
theorem dX7_readPrice_23 : decode cX7_readPrice 23 = .ok (.iadd, 1) := by decide +kernel
theorem dX7_readPrice_24 : decode cX7_readPrice 24 = .ok (.iconst 0, 1) := by decide +kernel
theorem dX7_readPrice_25 : decode cX7_readPrice 25 = .ok (.bipush 99, 2) := by decide +kernel
theorem dX7_readPrice_27 : decode cX7_readPrice 27 = .ok (.invokevirtual 107, 3) := by decide +kernel
theorem dX7_readPrice_30 : decode cX7_readPrice 30 = .ok (.ifCond .eq 7, 3) := by decide +kernel
theorem dX7_readPrice_33 : decode cX7_readPrice 33 = .ok (.iconst 1, 1) := by decide +kernel
theorem dX7_readPrice_34 : decode cX7_readPrice 34 = .ok (.goto 4, 3) := by decide +kernel
theorem dX7_readPrice_37 : decode cX7_readPrice 37 = .ok (.iconst 0, 1) := by decide +kernel
theorem dX7_readPrice_38 : decode cX7_readPrice 38 = .ok (.ireturn, 1) := by decide +kernel
def l7_readPrice_38  (s0 : Int32) (M : mm_M) : Option (Int32 × mm_M) :=
  rZ s0 M
set_option maxHeartbeats 2000000 in
theorem sl7_readPrice_38   (s0 : Int32)  (M : mm_M) : Snd injI j7_readPrice mm_X0 38 [none] [.int s0] M (l7_readPrice_38  s0 M) := by
  unfold l7_readPrice_38
  exact sn_zret (j := j7_readPrice) (pc := 38) rfl dX7_readPrice_38
def l7_readPrice_37   (M : mm_M) : Option (Int32 × mm_M) :=
  l7_readPrice_38 0 M
set_option maxHeartbeats 2000000 in
theorem sl7_readPrice_37     (M : mm_M) : Snd injI j7_readPrice mm_X0 37 [none] [] M (l7_readPrice_37   M) := by
  unfold l7_readPrice_37
  refine sn_iconst (j := j7_readPrice) (pc := 37) 0 rfl dX7_readPrice_37 ?_
  exact Snd.wk (sl7_readPrice_38 0 M) (by simp [mm_le])
def f7_readPrice  (M : mm_M) : Option (Int32 × mm_M) :=
  aI 48 82 0 M (fun w_1 => cI (f7_readNumber 0 (w_1 - 1) M) (fun r_2 M => if r_2 = 0 then (l7_readPrice_37 M) else (bI (mI M 46 8) (fun v_3 => cI (f7_reads (6 + v_3) 0 99 M) (fun r_4 M => if r_4 = 0 then (l7_readPrice_37 M) else (l7_readPrice_38 1 M))))))
set_option maxHeartbeats 2000000 in
theorem s7_readPrice  (M : mm_M) : Snd injI j7_readPrice mm_X0 0 [some (.ref 46)] [] M (f7_readPrice  M) := by
  refine Snd.wk (lo' := [some (.ref 46)]) ?_ (by simp [mm_le])
  unfold f7_readPrice
  refine sn_aload_n (j := j7_readPrice) (pc := 0) rfl rfl dX7_readPrice_0 ?_
  refine sn_iconst (j := j7_readPrice) (pc := 1) 0 rfl dX7_readPrice_1 ?_
  refine sn_aload_n (j := j7_readPrice) (pc := 2) rfl rfl dX7_readPrice_2 ?_
  refine g_X7_13 (j := j7_readPrice) (pc := 3) rfl dX7_readPrice_3 ?_
  refine sn_iconst (j := j7_readPrice) (pc := 6) 0 rfl dX7_readPrice_6 ?_
  refine sn_iald (j := j7_readPrice) (pc := 7) rfl ⟨by decide, by decide⟩ dX7_readPrice_7 (fun w_1 => ?_)
  refine sn_iconst (j := j7_readPrice) (pc := 8) 1 rfl dX7_readPrice_8 ?_
  refine sn_isub (j := j7_readPrice) (pc := 9) dX7_readPrice_9 ?_
  refine sn_callV (j := j7_readPrice) (pc := 10) (jc := j7_readNumber) (As := [.int 0, .int (w_1 - 1)]) (s7_readNumber 0 (w_1 - 1) M) mm_hvI (by simp [Value.category]) (Nat.le_of_ble_eq_true rfl) q7_readNumber rfl (by decide) rfl rfl ⟨by decide, by decide⟩ w_ml_X7_98 w_im_X7_readNumber w_se_X7_readNumber rfl (Nat.le_of_ble_eq_true rfl) dX7_readPrice_10 ?_
  rintro ⟨r_2, M⟩
  show Snd injI j7_readPrice mm_X0 13 [some (.ref 46)] [.int r_2] M _
  refine sn_if_eq (j := j7_readPrice) (pc := 13) 37 rfl dX7_readPrice_13 ?_ ?_
  · exact Snd.wk (sl7_readPrice_37 M) (by simp [mm_le])
  · refine sn_aload_n (j := j7_readPrice) (pc := 16) rfl rfl dX7_readPrice_16 ?_
    refine sn_bipush (j := j7_readPrice) (pc := 17) 6 rfl dX7_readPrice_17 ?_
    refine sn_aload_n (j := j7_readPrice) (pc := 19) rfl rfl dX7_readPrice_19 ?_
    refine g_X7_92 (j := j7_readPrice) (pc := 20) rfl dX7_readPrice_20 ?_
    refine Snd.bI (fun v_3 => ?_)
    refine sn_iadd (j := j7_readPrice) (pc := 23) dX7_readPrice_23 ?_
    refine sn_iconst (j := j7_readPrice) (pc := 24) 0 rfl dX7_readPrice_24 ?_
    refine sn_bipush (j := j7_readPrice) (pc := 25) 99 rfl dX7_readPrice_25 ?_
    refine sn_callV (j := j7_readPrice) (pc := 27) (jc := j7_reads) (As := [.int (6 + v_3), .int 0, .int 99]) (s7_reads (6 + v_3) 0 99 M) mm_hvI (by simp [Value.category]) (Nat.le_of_ble_eq_true rfl) q7_reads rfl (by decide) rfl rfl ⟨by decide, by decide⟩ w_ml_X7_107 w_im_X7_reads w_se_X7_reads rfl (Nat.le_of_ble_eq_true rfl) dX7_readPrice_27 ?_
    rintro ⟨r_4, M⟩
    show Snd injI j7_readPrice mm_X0 30 [some (.ref 46)] [.int r_4] M _
    refine sn_if_eq (j := j7_readPrice) (pc := 30) 37 rfl dX7_readPrice_30 ?_ ?_
    · exact Snd.wk (sl7_readPrice_37 M) (by simp [mm_le])
    · refine sn_iconst (j := j7_readPrice) (pc := 33) 1 rfl dX7_readPrice_33 ?_
      refine sn_goto (j := j7_readPrice) (pc := 34) 38 rfl dX7_readPrice_34 ?_
      exact Snd.wk (sl7_readPrice_38 1 M) (by simp [mm_le])

abbrev j7_readCurve : mm_J := (yX7_readCurve, cX7_readCurve, 6, (some .boolean), 5)
theorem dX7_readCurve_0 : decode cX7_readCurve 0 = .ok (.aload_n 0, 1) := by decide +kernel
theorem dX7_readCurve_1 : decode cX7_readCurve 1 = .ok (.getfield 13, 3) := by decide +kernel
theorem dX7_readCurve_4 : decode cX7_readCurve 4 = .ok (.iconst 2, 1) := by decide +kernel
theorem dX7_readCurve_5 : decode cX7_readCurve 5 = .ok (.iaload, 1) := by decide +kernel
theorem dX7_readCurve_6 : decode cX7_readCurve 6 = .ok (.istore_n 2, 1) := by decide +kernel
theorem dX7_readCurve_7 : decode cX7_readCurve 7 = .ok (.iload_n 2, 1) := by decide +kernel
theorem dX7_readCurve_8 : decode cX7_readCurve 8 = .ok (.iconst 4, 1) := by decide +kernel
theorem dX7_readCurve_9 : decode cX7_readCurve 9 = .ok (.if_icmp .ne 10, 3) := by decide +kernel
theorem dX7_readCurve_12 : decode cX7_readCurve 12 = .ok (.aload_n 0, 1) := by decide +kernel
theorem dX7_readCurve_13 : decode cX7_readCurve 13 = .ok (.iconst 4, 1) := by decide +kernel
theorem dX7_readCurve_14 : decode cX7_readCurve 14 = .ok (.iload_n 1, 1) := by decide +kernel
theorem dX7_readCurve_15 : decode cX7_readCurve 15 = .ok (.invokevirtual 85, 3) := by decide +kernel
theorem dX7_readCurve_18 : decode cX7_readCurve 18 = .ok (.ireturn, 1) := by decide +kernel
theorem dX7_readCurve_19 : decode cX7_readCurve 19 = .ok (.bipush 14, 2) := by decide +kernel
theorem dX7_readCurve_21 : decode cX7_readCurve 21 = .ok (.bipush 9, 2) := by decide +kernel
theorem dX7_readCurve_23 : decode cX7_readCurve 23 = .ok (.iload_n 2, 1) := by decide +kernel
theorem dX7_readCurve_24 : decode cX7_readCurve 24 = .ok (.imul, 1) := by decide +kernel
theorem dX7_readCurve_25 : decode cX7_readCurve 25 = .ok (.iadd, 1) := by decide +kernel
theorem dX7_readCurve_26 : decode cX7_readCurve 26 = .ok (.istore_n 3, 1) := by decide +kernel
theorem dX7_readCurve_27 : decode cX7_readCurve 27 = .ok (.iconst 0, 1) := by decide +kernel
theorem dX7_readCurve_28 : decode cX7_readCurve 28 = .ok (.istore 4, 2) := by decide +kernel
theorem dX7_readCurve_30 : decode cX7_readCurve 30 = .ok (.aload_n 0, 1) := by decide +kernel
theorem dX7_readCurve_31 : decode cX7_readCurve 31 = .ok (.invokevirtual 95, 3) := by decide +kernel
theorem dX7_readCurve_34 : decode cX7_readCurve 34 = .ok (.ifCond .ne 5, 3) := by decide +kernel
theorem dX7_readCurve_37 : decode cX7_readCurve 37 = .ok (.iconst 0, 1) := by decide +kernel
theorem dX7_readCurve_38 : decode cX7_readCurve 38 = .ok (.ireturn, 1) := by decide +kernel
theorem dX7_readCurve_39 : decode cX7_readCurve 39 = .ok (.iload 4, 2) := by decide +kernel
theorem dX7_readCurve_41 : decode cX7_readCurve 41 = .ok (.ifCond .ne 18, 3) := by decide +kernel
theorem dX7_readCurve_44 : decode cX7_readCurve 44 = .ok (.aload_n 0, 1) := by decide +kernel
theorem dX7_readCurve_45 : decode cX7_readCurve 45 = .ok (.getfield 92, 3) := by decide +kernel
theorem dX7_readCurve_48 : decode cX7_readCurve 48 = .ok (.ifCond .ne 7, 3) := by decide +kernel
theorem dX7_readCurve_51 : decode cX7_readCurve 51 = .ok (.iconst 1, 1) := by decide +kernel
theorem dX7_readCurve_52 : decode cX7_readCurve 52 = .ok (.goto 41, 3) := by decide +kernel
theorem dX7_readCurve_55 : decode cX7_readCurve 55 = .ok (.iconst 0, 1) := by decide +kernel
theorem dX7_readCurve_56 : decode cX7_readCurve 56 = .ok (.goto 37, 3) := by decide +kernel
theorem dX7_readCurve_59 : decode cX7_readCurve 59 = .ok (.aload_n 0, 1) := by decide +kernel
theorem dX7_readCurve_60 : decode cX7_readCurve 60 = .ok (.getfield 92, 3) := by decide +kernel
theorem dX7_readCurve_63 : decode cX7_readCurve 63 = .ok (.aload_n 0, 1) := by decide +kernel
theorem dX7_readCurve_64 : decode cX7_readCurve 64 = .ok (.getfield 13, 3) := by decide +kernel
theorem dX7_readCurve_67 : decode cX7_readCurve 67 = .ok (.iload_n 3, 1) := by decide +kernel
theorem dX7_readCurve_68 : decode cX7_readCurve 68 = .ok (.iconst 2, 1) := by decide +kernel
theorem dX7_readCurve_69 : decode cX7_readCurve 69 = .ok (.iload 4, 2) := by decide +kernel
theorem dX7_readCurve_71 : decode cX7_readCurve 71 = .ok (.imul, 1) := by decide +kernel
theorem dX7_readCurve_72 : decode cX7_readCurve 72 = .ok (.iadd, 1) := by decide +kernel
theorem dX7_readCurve_73 : decode cX7_readCurve 73 = .ok (.iconst 1, 1) := by decide +kernel
theorem dX7_readCurve_74 : decode cX7_readCurve 74 = .ok (.isub, 1) := by decide +kernel
theorem dX7_readCurve_75 : decode cX7_readCurve 75 = .ok (.iaload, 1) := by decide +kernel
theorem dX7_readCurve_76 : decode cX7_readCurve 76 = .ok (.if_icmp .le 16, 3) := by decide +kernel
theorem dX7_readCurve_79 : decode cX7_readCurve 79 = .ok (.aload_n 0, 1) := by decide +kernel
theorem dX7_readCurve_80 : decode cX7_readCurve 80 = .ok (.getfield 92, 3) := by decide +kernel
theorem dX7_readCurve_83 : decode cX7_readCurve 83 = .ok (.bipush 100, 2) := by decide +kernel
theorem dX7_readCurve_85 : decode cX7_readCurve 85 = .ok (.if_icmp .gt 7, 3) := by decide +kernel
theorem dX7_readCurve_88 : decode cX7_readCurve 88 = .ok (.iconst 1, 1) := by decide +kernel
theorem dX7_readCurve_89 : decode cX7_readCurve 89 = .ok (.goto 4, 3) := by decide +kernel
theorem dX7_readCurve_92 : decode cX7_readCurve 92 = .ok (.iconst 0, 1) := by decide +kernel
theorem dX7_readCurve_93 : decode cX7_readCurve 93 = .ok (.istore 5, 2) := by decide +kernel
theorem dX7_readCurve_95 : decode cX7_readCurve 95 = .ok (.iload 5, 2) := by decide +kernel
theorem dX7_readCurve_97 : decode cX7_readCurve 97 = .ok (.ifCond .ne 13, 3) := by decide +kernel
theorem dX7_readCurve_100 : decode cX7_readCurve 100 = .ok (.aload_n 0, 1) := by decide +kernel
theorem dX7_readCurve_101 : decode cX7_readCurve 101 = .ok (.iconst 2, 1) := by decide +kernel
theorem dX7_readCurve_102 : decode cX7_readCurve 102 = .ok (.aload_n 0, 1) := by decide +kernel
theorem dX7_readCurve_103 : decode cX7_readCurve 103 = .ok (.getfield 89, 3) := by decide +kernel
theorem dX7_readCurve_106 : decode cX7_readCurve 106 = .ok (.invokevirtual 85, 3) := by decide +kernel
theorem dX7_readCurve_109 : decode cX7_readCurve 109 = .ok (.ireturn, 1) := by decide +kernel
theorem dX7_readCurve_110 : decode cX7_readCurve 110 = .ok (.iload 4, 2) := by decide +kernel
theorem dX7_readCurve_112 : decode cX7_readCurve 112 = .ok (.iconst 4, 1) := by decide +kernel
theorem dX7_readCurve_113 : decode cX7_readCurve 113 = .ok (.if_icmp .ne 13, 3) := by decide +kernel
theorem dX7_readCurve_116 : decode cX7_readCurve 116 = .ok (.aload_n 0, 1) := by decide +kernel
theorem dX7_readCurve_117 : decode cX7_readCurve 117 = .ok (.iconst 4, 1) := by decide +kernel
theorem dX7_readCurve_118 : decode cX7_readCurve 118 = .ok (.aload_n 0, 1) := by decide +kernel
theorem dX7_readCurve_119 : decode cX7_readCurve 119 = .ok (.getfield 89, 3) := by decide +kernel
theorem dX7_readCurve_122 : decode cX7_readCurve 122 = .ok (.invokevirtual 85, 3) := by decide +kernel
theorem dX7_readCurve_125 : decode cX7_readCurve 125 = .ok (.ireturn, 1) := by decide +kernel
theorem dX7_readCurve_126 : decode cX7_readCurve 126 = .ok (.aload_n 0, 1) := by decide +kernel
theorem dX7_readCurve_127 : decode cX7_readCurve 127 = .ok (.getfield 13, 3) := by decide +kernel
theorem dX7_readCurve_130 : decode cX7_readCurve 130 = .ok (.iload_n 3, 1) := by decide +kernel
theorem dX7_readCurve_131 : decode cX7_readCurve 131 = .ok (.iconst 2, 1) := by decide +kernel
theorem dX7_readCurve_132 : decode cX7_readCurve 132 = .ok (.iload 4, 2) := by decide +kernel
theorem dX7_readCurve_134 : decode cX7_readCurve 134 = .ok (.imul, 1) := by decide +kernel
theorem dX7_readCurve_135 : decode cX7_readCurve 135 = .ok (.iadd, 1) := by decide +kernel
theorem dX7_readCurve_136 : decode cX7_readCurve 136 = .ok (.iconst 1, 1) := by decide +kernel
theorem dX7_readCurve_137 : decode cX7_readCurve 137 = .ok (.iadd, 1) := by decide +kernel
theorem dX7_readCurve_138 : decode cX7_readCurve 138 = .ok (.aload_n 0, 1) := by decide +kernel
theorem dX7_readCurve_139 : decode cX7_readCurve 139 = .ok (.getfield 92, 3) := by decide +kernel
theorem dX7_readCurve_142 : decode cX7_readCurve 142 = .ok (.iastore, 1) := by decide +kernel
theorem dX7_readCurve_143 : decode cX7_readCurve 143 = .ok (.aload_n 0, 1) := by decide +kernel
theorem dX7_readCurve_144 : decode cX7_readCurve 144 = .ok (.iload_n 3, 1) := by decide +kernel
theorem dX7_readCurve_145 : decode cX7_readCurve 145 = .ok (.iconst 2, 1) := by decide +kernel
theorem dX7_readCurve_146 : decode cX7_readCurve 146 = .ok (.iload 4, 2) := by decide +kernel
theorem dX7_readCurve_148 : decode cX7_readCurve 148 = .ok (.imul, 1) := by decide +kernel
theorem dX7_readCurve_149 : decode cX7_readCurve 149 = .ok (.iadd, 1) := by decide +kernel
theorem dX7_readCurve_150 : decode cX7_readCurve 150 = .ok (.iconst 2, 1) := by decide +kernel
theorem dX7_readCurve_151 : decode cX7_readCurve 151 = .ok (.iadd, 1) := by decide +kernel
theorem dX7_readCurve_152 : decode cX7_readCurve 152 = .ok (.iconst 1, 1) := by decide +kernel
theorem dX7_readCurve_153 : decode cX7_readCurve 153 = .ok (.bipush 50, 2) := by decide +kernel
theorem dX7_readCurve_155 : decode cX7_readCurve 155 = .ok (.invokevirtual 107, 3) := by decide +kernel
theorem dX7_readCurve_158 : decode cX7_readCurve 158 = .ok (.ifCond .ne 5, 3) := by decide +kernel
theorem dX7_readCurve_161 : decode cX7_readCurve 161 = .ok (.iconst 0, 1) := by decide +kernel
theorem dX7_readCurve_162 : decode cX7_readCurve 162 = .ok (.ireturn, 1) := by decide +kernel
theorem dX7_readCurve_163 : decode cX7_readCurve 163 = .ok (.iinc 4 1, 3) := by decide +kernel
theorem dX7_readCurve_166 : decode cX7_readCurve 166 = .ok (.aload_n 0, 1) := by decide +kernel
theorem dX7_readCurve_167 : decode cX7_readCurve 167 = .ok (.invokevirtual 81, 3) := by decide +kernel
theorem dX7_readCurve_170 : decode cX7_readCurve 170 = .ok (.ifCond .ne (-140), 3) := by decide +kernel
theorem dX7_readCurve_173 : decode cX7_readCurve 173 = .ok (.aload_n 0, 1) := by decide +kernel
theorem dX7_readCurve_174 : decode cX7_readCurve 174 = .ok (.getfield 13, 3) := by decide +kernel
theorem dX7_readCurve_177 : decode cX7_readCurve 177 = .ok (.iload_n 3, 1) := by decide +kernel
theorem dX7_readCurve_178 : decode cX7_readCurve 178 = .ok (.iload 4, 2) := by decide +kernel
theorem dX7_readCurve_180 : decode cX7_readCurve 180 = .ok (.iastore, 1) := by decide +kernel
theorem dX7_readCurve_181 : decode cX7_readCurve 181 = .ok (.aload_n 0, 1) := by decide +kernel
theorem dX7_readCurve_182 : decode cX7_readCurve 182 = .ok (.getfield 13, 3) := by decide +kernel
theorem dX7_readCurve_185 : decode cX7_readCurve 185 = .ok (.iconst 2, 1) := by decide +kernel
theorem dX7_readCurve_186 : decode cX7_readCurve 186 = .ok (.dup2, 1) := by decide +kernel
theorem dX7_readCurve_187 : decode cX7_readCurve 187 = .ok (.iaload, 1) := by decide +kernel
theorem dX7_readCurve_188 : decode cX7_readCurve 188 = .ok (.iconst 1, 1) := by decide +kernel
theorem dX7_readCurve_189 : decode cX7_readCurve 189 = .ok (.iadd, 1) := by decide +kernel
theorem dX7_readCurve_190 : decode cX7_readCurve 190 = .ok (.iastore, 1) := by decide +kernel
theorem dX7_readCurve_191 : decode cX7_readCurve 191 = .ok (.iconst 1, 1) := by decide +kernel
theorem dX7_readCurve_192 : decode cX7_readCurve 192 = .ok (.ireturn, 1) := by decide +kernel
def l7_readCurve_93 (rec30 : Int32 → Int32 → mm_M → Option (Int32 × mm_M)) (x3 : Int32) (x4 : Int32) (s0 : Int32) (M : mm_M) : Option (Int32 × mm_M) :=
  if s0 = 0 then (bI (mI M 46 9) (fun v_7 => cI (f7_fails 2 v_7 M) (fun r_8 M => rZ r_8 M))) else (if x4 = 4 then (bI (mI M 46 9) (fun v_5 => cI (f7_fails 4 v_5 M) (fun r_6 M => rZ r_6 M))) else (bI (mI M 46 8) (fun v_1 => uI 48 82 ((x3 + (2 * x4)) + 1) v_1 M (fun M => cI (f7_reads ((x3 + (2 * x4)) + 2) 1 50 M) (fun r_2 M => if r_2 = 0 then (rZ 0 M) else (cI (f7_isNumber M) (fun r_3 M => if r_3 = 0 then (uI 48 82 x3 (x4 + 1) M (fun M => aI 48 82 2 M (fun w_4 => uI 48 82 2 (w_4 + 1) M (fun M => rZ 1 M)))) else (rec30 x3 (x4 + 1) M))))))))
set_option maxHeartbeats 2000000 in
theorem sl7_readCurve_93 (rec30 : Int32 → Int32 → mm_M → Option (Int32 × mm_M)) (hrec30 : ∀ (x3 : Int32) (x4 : Int32) (M : mm_M), Snd injI j7_readCurve mm_X0 30 [some (.ref 46), none, none, some (.int x3), some (.int x4), none] [] M (rec30 x3 x4 M)) (x3 : Int32) (x4 : Int32) (s0 : Int32)  (M : mm_M) : Snd injI j7_readCurve mm_X0 93 [some (.ref 46), none, none, some (.int x3), some (.int x4), none] [.int s0] M (l7_readCurve_93 rec30 x3 x4 s0 M) := by
  unfold l7_readCurve_93
  refine sn_istore (j := j7_readCurve) (pc := 93) (by decide) (lo' := [some (.ref 46), none, none, some (.int x3), some (.int x4), some (.int s0)]) rfl dX7_readCurve_93 ?_
  refine sn_iload (j := j7_readCurve) (pc := 95) rfl dX7_readCurve_95 ?_
  refine sn_if_ne (j := j7_readCurve) (pc := 97) 110 rfl dX7_readCurve_97 ?_ ?_
  · refine sn_iload (j := j7_readCurve) (pc := 110) rfl dX7_readCurve_110 ?_
    refine sn_iconst (j := j7_readCurve) (pc := 112) 4 rfl dX7_readCurve_112 ?_
    refine sn_icmp_ne (j := j7_readCurve) (pc := 113) 126 rfl dX7_readCurve_113 ?_ ?_
    · refine sn_aload_n (j := j7_readCurve) (pc := 126) rfl rfl dX7_readCurve_126 ?_
      refine g_X7_13 (j := j7_readCurve) (pc := 127) rfl dX7_readCurve_127 ?_
      refine sn_iload_n (j := j7_readCurve) (pc := 130) rfl rfl dX7_readCurve_130 ?_
      refine sn_iconst (j := j7_readCurve) (pc := 131) 2 rfl dX7_readCurve_131 ?_
      refine sn_iload (j := j7_readCurve) (pc := 132) rfl dX7_readCurve_132 ?_
      refine sn_imul (j := j7_readCurve) (pc := 134) dX7_readCurve_134 ?_
      refine sn_iadd (j := j7_readCurve) (pc := 135) dX7_readCurve_135 ?_
      refine sn_iconst (j := j7_readCurve) (pc := 136) 1 rfl dX7_readCurve_136 ?_
      refine sn_iadd (j := j7_readCurve) (pc := 137) dX7_readCurve_137 ?_
      refine sn_aload_n (j := j7_readCurve) (pc := 138) rfl rfl dX7_readCurve_138 ?_
      refine g_X7_92 (j := j7_readCurve) (pc := 139) rfl dX7_readCurve_139 ?_
      refine Snd.bI (fun v_1 => ?_)
      refine sn_iast (j := j7_readCurve) (pc := 142) rfl ⟨by decide, by decide⟩ dX7_readCurve_142 (fun M => ?_)
      refine sn_aload_n (j := j7_readCurve) (pc := 143) rfl rfl dX7_readCurve_143 ?_
      refine sn_iload_n (j := j7_readCurve) (pc := 144) rfl rfl dX7_readCurve_144 ?_
      refine sn_iconst (j := j7_readCurve) (pc := 145) 2 rfl dX7_readCurve_145 ?_
      refine sn_iload (j := j7_readCurve) (pc := 146) rfl dX7_readCurve_146 ?_
      refine sn_imul (j := j7_readCurve) (pc := 148) dX7_readCurve_148 ?_
      refine sn_iadd (j := j7_readCurve) (pc := 149) dX7_readCurve_149 ?_
      refine sn_iconst (j := j7_readCurve) (pc := 150) 2 rfl dX7_readCurve_150 ?_
      refine sn_iadd (j := j7_readCurve) (pc := 151) dX7_readCurve_151 ?_
      refine sn_iconst (j := j7_readCurve) (pc := 152) 1 rfl dX7_readCurve_152 ?_
      refine sn_bipush (j := j7_readCurve) (pc := 153) 50 rfl dX7_readCurve_153 ?_
      refine sn_callV (j := j7_readCurve) (pc := 155) (jc := j7_reads) (As := [.int ((x3 + (2 * x4)) + 2), .int 1, .int 50]) (s7_reads ((x3 + (2 * x4)) + 2) 1 50 M) mm_hvI (by simp [Value.category]) (Nat.le_of_ble_eq_true rfl) q7_reads rfl (by decide) rfl rfl ⟨by decide, by decide⟩ w_ml_X7_107 w_im_X7_reads w_se_X7_reads rfl (Nat.le_of_ble_eq_true rfl) dX7_readCurve_155 ?_
      rintro ⟨r_2, M⟩
      show Snd injI j7_readCurve mm_X0 158 [some (.ref 46), none, none, some (.int x3), some (.int x4), some (.int s0)] [.int r_2] M _
      refine sn_if_ne (j := j7_readCurve) (pc := 158) 163 rfl dX7_readCurve_158 ?_ ?_
      · refine sn_iinc (j := j7_readCurve) (pc := 163) 1 rfl (by decide) rfl (lo' := [some (.ref 46), none, none, some (.int x3), some (.int (x4 + 1)), some (.int s0)]) rfl dX7_readCurve_163 ?_
        refine sn_aload_n (j := j7_readCurve) (pc := 166) rfl rfl dX7_readCurve_166 ?_
        refine sn_callV (j := j7_readCurve) (pc := 167) (jc := j7_isNumber) (As := []) (s7_isNumber M) mm_hvI (by simp [Value.category]) (Nat.le_of_ble_eq_true rfl) q7_isNumber rfl (by decide) rfl rfl ⟨by decide, by decide⟩ w_ml_X7_81 w_im_X7_isNumber w_se_X7_isNumber rfl (Nat.le_of_ble_eq_true rfl) dX7_readCurve_167 ?_
        rintro ⟨r_3, M⟩
        show Snd injI j7_readCurve mm_X0 170 [some (.ref 46), none, none, some (.int x3), some (.int (x4 + 1)), some (.int s0)] [.int r_3] M _
        refine sn_if_ne (j := j7_readCurve) (pc := 170) 30 rfl dX7_readCurve_170 ?_ ?_
        · exact Snd.wk (hrec30 x3 (x4 + 1) M ) (by simp [mm_le])
        · refine sn_aload_n (j := j7_readCurve) (pc := 173) rfl rfl dX7_readCurve_173 ?_
          refine g_X7_13 (j := j7_readCurve) (pc := 174) rfl dX7_readCurve_174 ?_
          refine sn_iload_n (j := j7_readCurve) (pc := 177) rfl rfl dX7_readCurve_177 ?_
          refine sn_iload (j := j7_readCurve) (pc := 178) rfl dX7_readCurve_178 ?_
          refine sn_iast (j := j7_readCurve) (pc := 180) rfl ⟨by decide, by decide⟩ dX7_readCurve_180 (fun M => ?_)
          refine sn_aload_n (j := j7_readCurve) (pc := 181) rfl rfl dX7_readCurve_181 ?_
          refine g_X7_13 (j := j7_readCurve) (pc := 182) rfl dX7_readCurve_182 ?_
          refine sn_iconst (j := j7_readCurve) (pc := 185) 2 rfl dX7_readCurve_185 ?_
          refine sn_dup2 (j := j7_readCurve) (pc := 186) rfl rfl dX7_readCurve_186 ?_
          refine sn_iald (j := j7_readCurve) (pc := 187) rfl ⟨by decide, by decide⟩ dX7_readCurve_187 (fun w_4 => ?_)
          refine sn_iconst (j := j7_readCurve) (pc := 188) 1 rfl dX7_readCurve_188 ?_
          refine sn_iadd (j := j7_readCurve) (pc := 189) dX7_readCurve_189 ?_
          refine sn_iast (j := j7_readCurve) (pc := 190) rfl ⟨by decide, by decide⟩ dX7_readCurve_190 (fun M => ?_)
          refine sn_iconst (j := j7_readCurve) (pc := 191) 1 rfl dX7_readCurve_191 ?_
          exact sn_zret (j := j7_readCurve) (pc := 192) rfl dX7_readCurve_192
      · refine sn_iconst (j := j7_readCurve) (pc := 161) 0 rfl dX7_readCurve_161 ?_
        exact sn_zret (j := j7_readCurve) (pc := 162) rfl dX7_readCurve_162
    · refine sn_aload_n (j := j7_readCurve) (pc := 116) rfl rfl dX7_readCurve_116 ?_
      refine sn_iconst (j := j7_readCurve) (pc := 117) 4 rfl dX7_readCurve_117 ?_
      refine sn_aload_n (j := j7_readCurve) (pc := 118) rfl rfl dX7_readCurve_118 ?_
      refine g_X7_89 (j := j7_readCurve) (pc := 119) rfl dX7_readCurve_119 ?_
      refine Snd.bI (fun v_5 => ?_)
      refine sn_callV (j := j7_readCurve) (pc := 122) (jc := j7_fails) (As := [.int 4, .int v_5]) (s7_fails 4 v_5 M) mm_hvI (by simp [Value.category]) (Nat.le_of_ble_eq_true rfl) q7_fails rfl (by decide) rfl rfl ⟨by decide, by decide⟩ w_ml_X7_85 w_im_X7_fails w_se_X7_fails rfl (Nat.le_of_ble_eq_true rfl) dX7_readCurve_122 ?_
      rintro ⟨r_6, M⟩
      show Snd injI j7_readCurve mm_X0 125 [some (.ref 46), none, none, some (.int x3), some (.int x4), some (.int s0)] [.int r_6] M _
      exact sn_zret (j := j7_readCurve) (pc := 125) rfl dX7_readCurve_125
  · refine sn_aload_n (j := j7_readCurve) (pc := 100) rfl rfl dX7_readCurve_100 ?_
    refine sn_iconst (j := j7_readCurve) (pc := 101) 2 rfl dX7_readCurve_101 ?_
    refine sn_aload_n (j := j7_readCurve) (pc := 102) rfl rfl dX7_readCurve_102 ?_
    refine g_X7_89 (j := j7_readCurve) (pc := 103) rfl dX7_readCurve_103 ?_
    refine Snd.bI (fun v_7 => ?_)
    refine sn_callV (j := j7_readCurve) (pc := 106) (jc := j7_fails) (As := [.int 2, .int v_7]) (s7_fails 2 v_7 M) mm_hvI (by simp [Value.category]) (Nat.le_of_ble_eq_true rfl) q7_fails rfl (by decide) rfl rfl ⟨by decide, by decide⟩ w_ml_X7_85 w_im_X7_fails w_se_X7_fails rfl (Nat.le_of_ble_eq_true rfl) dX7_readCurve_106 ?_
    rintro ⟨r_8, M⟩
    show Snd injI j7_readCurve mm_X0 109 [some (.ref 46), none, none, some (.int x3), some (.int x4), some (.int s0)] [.int r_8] M _
    exact sn_zret (j := j7_readCurve) (pc := 109) rfl dX7_readCurve_109
def l7_readCurve_92 (rec30 : Int32 → Int32 → mm_M → Option (Int32 × mm_M)) (x3 : Int32) (x4 : Int32) (M : mm_M) : Option (Int32 × mm_M) :=
  l7_readCurve_93 rec30 x3 x4 0 M
set_option maxHeartbeats 2000000 in
theorem sl7_readCurve_92 (rec30 : Int32 → Int32 → mm_M → Option (Int32 × mm_M)) (hrec30 : ∀ (x3 : Int32) (x4 : Int32) (M : mm_M), Snd injI j7_readCurve mm_X0 30 [some (.ref 46), none, none, some (.int x3), some (.int x4), none] [] M (rec30 x3 x4 M)) (x3 : Int32) (x4 : Int32)  (M : mm_M) : Snd injI j7_readCurve mm_X0 92 [some (.ref 46), none, none, some (.int x3), some (.int x4), none] [] M (l7_readCurve_92 rec30 x3 x4 M) := by
  unfold l7_readCurve_92
  refine sn_iconst (j := j7_readCurve) (pc := 92) 0 rfl dX7_readCurve_92 ?_
  exact Snd.wk (sl7_readCurve_93 rec30 hrec30 x3 x4 0 M) (by simp [mm_le])
def b7_readCurve_30  (rec30 : Int32 → Int32 → mm_M → Option (Int32 × mm_M)) (x3 : Int32) (x4 : Int32) (M : mm_M) : Option (Int32 × mm_M) :=
  cI (f7_readPlain M) (fun r_9 M => if r_9 = 0 then (rZ 0 M) else (if x4 = 0 then (bI (mI M 46 8) (fun v_13 => if v_13 = 0 then (l7_readCurve_93 rec30 x3 x4 1 M) else (l7_readCurve_93 rec30 x3 x4 0 M))) else (bI (mI M 46 8) (fun v_10 => aI 48 82 ((x3 + (2 * x4)) - 1) M (fun w_11 => if v_10 ≤ w_11 then (l7_readCurve_92 rec30 x3 x4 M) else (bI (mI M 46 8) (fun v_12 => if 100 < v_12 then (l7_readCurve_92 rec30 x3 x4 M) else (l7_readCurve_93 rec30 x3 x4 1 M))))))))
set_option maxHeartbeats 2000000 in
theorem sb7_readCurve_30   (rec30 : Int32 → Int32 → mm_M → Option (Int32 × mm_M)) (hrec30 : ∀ (x3 : Int32) (x4 : Int32) (M : mm_M), Snd injI j7_readCurve mm_X0 30 [some (.ref 46), none, none, some (.int x3), some (.int x4), none] [] M (rec30 x3 x4 M)) (x3 : Int32) (x4 : Int32)  (M : mm_M) : Snd injI j7_readCurve mm_X0 30 [some (.ref 46), none, none, some (.int x3), some (.int x4), none] [] M (b7_readCurve_30  rec30 x3 x4 M) := by
  unfold b7_readCurve_30
  refine sn_aload_n (j := j7_readCurve) (pc := 30) rfl rfl dX7_readCurve_30 ?_
  refine sn_callV (j := j7_readCurve) (pc := 31) (jc := j7_readPlain) (As := []) (s7_readPlain M) mm_hvI (by simp [Value.category]) (Nat.le_of_ble_eq_true rfl) q7_readPlain rfl (by decide) rfl rfl ⟨by decide, by decide⟩ w_ml_X7_95 w_im_X7_readPlain w_se_X7_readPlain rfl (Nat.le_of_ble_eq_true rfl) dX7_readCurve_31 ?_
  rintro ⟨r_9, M⟩
  show Snd injI j7_readCurve mm_X0 34 [some (.ref 46), none, none, some (.int x3), some (.int x4), none] [.int r_9] M _
  refine sn_if_ne (j := j7_readCurve) (pc := 34) 39 rfl dX7_readCurve_34 ?_ ?_
  · refine sn_iload (j := j7_readCurve) (pc := 39) rfl dX7_readCurve_39 ?_
    refine sn_if_ne (j := j7_readCurve) (pc := 41) 59 rfl dX7_readCurve_41 ?_ ?_
    · refine sn_aload_n (j := j7_readCurve) (pc := 59) rfl rfl dX7_readCurve_59 ?_
      refine g_X7_92 (j := j7_readCurve) (pc := 60) rfl dX7_readCurve_60 ?_
      refine Snd.bI (fun v_10 => ?_)
      refine sn_aload_n (j := j7_readCurve) (pc := 63) rfl rfl dX7_readCurve_63 ?_
      refine g_X7_13 (j := j7_readCurve) (pc := 64) rfl dX7_readCurve_64 ?_
      refine sn_iload_n (j := j7_readCurve) (pc := 67) rfl rfl dX7_readCurve_67 ?_
      refine sn_iconst (j := j7_readCurve) (pc := 68) 2 rfl dX7_readCurve_68 ?_
      refine sn_iload (j := j7_readCurve) (pc := 69) rfl dX7_readCurve_69 ?_
      refine sn_imul (j := j7_readCurve) (pc := 71) dX7_readCurve_71 ?_
      refine sn_iadd (j := j7_readCurve) (pc := 72) dX7_readCurve_72 ?_
      refine sn_iconst (j := j7_readCurve) (pc := 73) 1 rfl dX7_readCurve_73 ?_
      refine sn_isub (j := j7_readCurve) (pc := 74) dX7_readCurve_74 ?_
      refine sn_iald (j := j7_readCurve) (pc := 75) rfl ⟨by decide, by decide⟩ dX7_readCurve_75 (fun w_11 => ?_)
      refine sn_icmp_le (j := j7_readCurve) (pc := 76) 92 rfl dX7_readCurve_76 ?_ ?_
      · exact Snd.wk (sl7_readCurve_92 rec30 hrec30 x3 x4 M) (by simp [mm_le])
      · refine sn_aload_n (j := j7_readCurve) (pc := 79) rfl rfl dX7_readCurve_79 ?_
        refine g_X7_92 (j := j7_readCurve) (pc := 80) rfl dX7_readCurve_80 ?_
        refine Snd.bI (fun v_12 => ?_)
        refine sn_bipush (j := j7_readCurve) (pc := 83) 100 rfl dX7_readCurve_83 ?_
        refine sn_icmp_gt (j := j7_readCurve) (pc := 85) 92 rfl dX7_readCurve_85 ?_ ?_
        · exact Snd.wk (sl7_readCurve_92 rec30 hrec30 x3 x4 M) (by simp [mm_le])
        · refine sn_iconst (j := j7_readCurve) (pc := 88) 1 rfl dX7_readCurve_88 ?_
          refine sn_goto (j := j7_readCurve) (pc := 89) 93 rfl dX7_readCurve_89 ?_
          exact Snd.wk (sl7_readCurve_93 rec30 hrec30 x3 x4 1 M) (by simp [mm_le])
    · refine sn_aload_n (j := j7_readCurve) (pc := 44) rfl rfl dX7_readCurve_44 ?_
      refine g_X7_92 (j := j7_readCurve) (pc := 45) rfl dX7_readCurve_45 ?_
      refine Snd.bI (fun v_13 => ?_)
      refine sn_if_ne (j := j7_readCurve) (pc := 48) 55 rfl dX7_readCurve_48 ?_ ?_
      · refine sn_iconst (j := j7_readCurve) (pc := 55) 0 rfl dX7_readCurve_55 ?_
        refine sn_goto (j := j7_readCurve) (pc := 56) 93 rfl dX7_readCurve_56 ?_
        exact Snd.wk (sl7_readCurve_93 rec30 hrec30 x3 x4 0 M) (by simp [mm_le])
      · refine sn_iconst (j := j7_readCurve) (pc := 51) 1 rfl dX7_readCurve_51 ?_
        refine sn_goto (j := j7_readCurve) (pc := 52) 93 rfl dX7_readCurve_52 ?_
        exact Snd.wk (sl7_readCurve_93 rec30 hrec30 x3 x4 1 M) (by simp [mm_le])
  · refine sn_iconst (j := j7_readCurve) (pc := 37) 0 rfl dX7_readCurve_37 ?_
    exact sn_zret (j := j7_readCurve) (pc := 38) rfl dX7_readCurve_38
def l7_readCurve_30  : Nat → Int32 → Int32 → mm_M → Option (Int32 × mm_M)
  | 0 => fun _ _ _ => none
  | n + 1 => fun x3 x4 M => b7_readCurve_30  (l7_readCurve_30  n) x3 x4 M
theorem sl7_readCurve_30   : ∀ (n : Nat) (x3 : Int32) (x4 : Int32)  (M : mm_M), Snd injI j7_readCurve mm_X0 30 [some (.ref 46), none, none, some (.int x3), some (.int x4), none] [] M (l7_readCurve_30  n x3 x4 M)
  | 0 => fun _ _  _ => Snd.none
  | n + 1 => fun x3 x4  M => sb7_readCurve_30   (l7_readCurve_30  n) (fun x3 x4 M  => sl7_readCurve_30   n x3 x4  M) x3 x4  M
def f7_readCurve (x1 : Int32) (M : mm_M) : Option (Int32 × mm_M) :=
  aI 48 82 2 M (fun w_14 => if w_14 = 4 then (cI (f7_fails 4 x1 M) (fun r_16 M => rZ r_16 M)) else (bI (14 + (9 * w_14)) (fun x3_15 => l7_readCurve_30 FU x3_15 0 M)))
set_option maxHeartbeats 2000000 in
theorem s7_readCurve (x1 : Int32) (M : mm_M) : Snd injI j7_readCurve mm_X0 0 [some (.ref 46), some (.int x1)] [] M (f7_readCurve x1 M) := by
  refine Snd.wk (lo' := [some (.ref 46), some (.int x1), none, none, none, none]) ?_ (by simp [mm_le])
  unfold f7_readCurve
  refine sn_aload_n (j := j7_readCurve) (pc := 0) rfl rfl dX7_readCurve_0 ?_
  refine g_X7_13 (j := j7_readCurve) (pc := 1) rfl dX7_readCurve_1 ?_
  refine sn_iconst (j := j7_readCurve) (pc := 4) 2 rfl dX7_readCurve_4 ?_
  refine sn_iald (j := j7_readCurve) (pc := 5) rfl ⟨by decide, by decide⟩ dX7_readCurve_5 (fun w_14 => ?_)
  refine sn_istore_n (j := j7_readCurve) (pc := 6) rfl (by decide) (lo' := [some (.ref 46), some (.int x1), some (.int w_14), none, none, none]) rfl dX7_readCurve_6 ?_
  refine sn_iload_n (j := j7_readCurve) (pc := 7) rfl rfl dX7_readCurve_7 ?_
  refine sn_iconst (j := j7_readCurve) (pc := 8) 4 rfl dX7_readCurve_8 ?_
  refine sn_icmp_ne (j := j7_readCurve) (pc := 9) 19 rfl dX7_readCurve_9 ?_ ?_
  · refine sn_bipush (j := j7_readCurve) (pc := 19) 14 rfl dX7_readCurve_19 ?_
    refine sn_bipush (j := j7_readCurve) (pc := 21) 9 rfl dX7_readCurve_21 ?_
    refine sn_iload_n (j := j7_readCurve) (pc := 23) rfl rfl dX7_readCurve_23 ?_
    refine sn_imul (j := j7_readCurve) (pc := 24) dX7_readCurve_24 ?_
    refine sn_iadd (j := j7_readCurve) (pc := 25) dX7_readCurve_25 ?_
    refine sn_istoreB_n (j := j7_readCurve) (pc := 26) rfl (fun x3_15 => [some (.ref 46), some (.int x1), some (.int w_14), some (.int x3_15), none, none]) (by decide) (fun _ => rfl) dX7_readCurve_26 (fun x3_15 => ?_)
    refine sn_iconst (j := j7_readCurve) (pc := 27) 0 rfl dX7_readCurve_27 ?_
    refine sn_istore (j := j7_readCurve) (pc := 28) (by decide) (lo' := [some (.ref 46), some (.int x1), some (.int w_14), some (.int x3_15), some (.int 0), none]) rfl dX7_readCurve_28 ?_
    exact Snd.wk (sl7_readCurve_30 FU x3_15 0 M) (by simp [mm_le])
  · refine sn_aload_n (j := j7_readCurve) (pc := 12) rfl rfl dX7_readCurve_12 ?_
    refine sn_iconst (j := j7_readCurve) (pc := 13) 4 rfl dX7_readCurve_13 ?_
    refine sn_iload_n (j := j7_readCurve) (pc := 14) rfl rfl dX7_readCurve_14 ?_
    refine sn_callV (j := j7_readCurve) (pc := 15) (jc := j7_fails) (As := [.int 4, .int x1]) (s7_fails 4 x1 M) mm_hvI (by simp [Value.category]) (Nat.le_of_ble_eq_true rfl) q7_fails rfl (by decide) rfl rfl ⟨by decide, by decide⟩ w_ml_X7_85 w_im_X7_fails w_se_X7_fails rfl (Nat.le_of_ble_eq_true rfl) dX7_readCurve_15 ?_
    rintro ⟨r_16, M⟩
    show Snd injI j7_readCurve mm_X0 18 [some (.ref 46), some (.int x1), some (.int w_14), none, none, none] [.int r_16] M _
    exact sn_zret (j := j7_readCurve) (pc := 18) rfl dX7_readCurve_18

abbrev j7_readBus : mm_J := (yX7_readBus, cX7_readBus, 3, (some .boolean), 5)
theorem dX7_readBus_0 : decode cX7_readBus 0 = .ok (.aload_n 0, 1) := by decide +kernel
theorem dX7_readBus_1 : decode cX7_readBus 1 = .ok (.getfield 13, 3) := by decide +kernel
theorem dX7_readBus_4 : decode cX7_readBus 4 = .ok (.iconst 1, 1) := by decide +kernel
theorem dX7_readBus_5 : decode cX7_readBus 5 = .ok (.iaload, 1) := by decide +kernel
theorem dX7_readBus_6 : decode cX7_readBus 6 = .ok (.iconst 4, 1) := by decide +kernel
theorem dX7_readBus_7 : decode cX7_readBus 7 = .ok (.if_icmp .ne 10, 3) := by decide +kernel
theorem dX7_readBus_10 : decode cX7_readBus 10 = .ok (.aload_n 0, 1) := by decide +kernel
theorem dX7_readBus_11 : decode cX7_readBus 11 = .ok (.iconst 4, 1) := by decide +kernel
theorem dX7_readBus_12 : decode cX7_readBus 12 = .ok (.iload_n 1, 1) := by decide +kernel
theorem dX7_readBus_13 : decode cX7_readBus 13 = .ok (.invokevirtual 85, 3) := by decide +kernel
theorem dX7_readBus_16 : decode cX7_readBus 16 = .ok (.ireturn, 1) := by decide +kernel
theorem dX7_readBus_17 : decode cX7_readBus 17 = .ok (.bipush 50, 2) := by decide +kernel
theorem dX7_readBus_19 : decode cX7_readBus 19 = .ok (.bipush 6, 2) := by decide +kernel
theorem dX7_readBus_21 : decode cX7_readBus 21 = .ok (.aload_n 0, 1) := by decide +kernel
theorem dX7_readBus_22 : decode cX7_readBus 22 = .ok (.getfield 13, 3) := by decide +kernel
theorem dX7_readBus_25 : decode cX7_readBus 25 = .ok (.iconst 1, 1) := by decide +kernel
theorem dX7_readBus_26 : decode cX7_readBus 26 = .ok (.iaload, 1) := by decide +kernel
theorem dX7_readBus_27 : decode cX7_readBus 27 = .ok (.imul, 1) := by decide +kernel
theorem dX7_readBus_28 : decode cX7_readBus 28 = .ok (.iadd, 1) := by decide +kernel
theorem dX7_readBus_29 : decode cX7_readBus 29 = .ok (.istore_n 2, 1) := by decide +kernel
theorem dX7_readBus_30 : decode cX7_readBus 30 = .ok (.aload_n 0, 1) := by decide +kernel
theorem dX7_readBus_31 : decode cX7_readBus 31 = .ok (.iload_n 2, 1) := by decide +kernel
theorem dX7_readBus_32 : decode cX7_readBus 32 = .ok (.iconst 0, 1) := by decide +kernel
theorem dX7_readBus_33 : decode cX7_readBus 33 = .ok (.aload_n 0, 1) := by decide +kernel
theorem dX7_readBus_34 : decode cX7_readBus 34 = .ok (.getfield 13, 3) := by decide +kernel
theorem dX7_readBus_37 : decode cX7_readBus 37 = .ok (.iconst 2, 1) := by decide +kernel
theorem dX7_readBus_38 : decode cX7_readBus 38 = .ok (.iaload, 1) := by decide +kernel
theorem dX7_readBus_39 : decode cX7_readBus 39 = .ok (.iconst 1, 1) := by decide +kernel
theorem dX7_readBus_40 : decode cX7_readBus 40 = .ok (.isub, 1) := by decide +kernel
theorem dX7_readBus_41 : decode cX7_readBus 41 = .ok (.invokevirtual 107, 3) := by decide +kernel
theorem dX7_readBus_44 : decode cX7_readBus 44 = .ok (.ifCond .eq 55, 3) := by decide +kernel
theorem dX7_readBus_47 : decode cX7_readBus 47 = .ok (.aload_n 0, 1) := by decide +kernel
theorem dX7_readBus_48 : decode cX7_readBus 48 = .ok (.iload_n 2, 1) := by decide +kernel
theorem dX7_readBus_49 : decode cX7_readBus 49 = .ok (.iconst 1, 1) := by decide +kernel
theorem dX7_readBus_50 : decode cX7_readBus 50 = .ok (.iadd, 1) := by decide +kernel
theorem dX7_readBus_51 : decode cX7_readBus 51 = .ok (.iconst 1, 1) := by decide +kernel
theorem dX7_readBus_52 : decode cX7_readBus 52 = .ok (.sipush 200, 3) := by decide +kernel
theorem dX7_readBus_55 : decode cX7_readBus 55 = .ok (.invokevirtual 107, 3) := by decide +kernel
theorem dX7_readBus_58 : decode cX7_readBus 58 = .ok (.ifCond .eq 41, 3) := by decide +kernel
theorem dX7_readBus_61 : decode cX7_readBus 61 = .ok (.aload_n 0, 1) := by decide +kernel
theorem dX7_readBus_62 : decode cX7_readBus 62 = .ok (.iload_n 2, 1) := by decide +kernel
theorem dX7_readBus_63 : decode cX7_readBus 63 = .ok (.iconst 2, 1) := by decide +kernel
theorem dX7_readBus_64 : decode cX7_readBus 64 = .ok (.iadd, 1) := by decide +kernel
theorem dX7_readBus_65 : decode cX7_readBus 65 = .ok (.iconst 0, 1) := by decide +kernel
theorem dX7_readBus_66 : decode cX7_readBus 66 = .ok (.aload_n 0, 1) := by decide +kernel
theorem dX7_readBus_67 : decode cX7_readBus 67 = .ok (.getfield 13, 3) := by decide +kernel
theorem dX7_readBus_70 : decode cX7_readBus 70 = .ok (.iload_n 2, 1) := by decide +kernel
theorem dX7_readBus_71 : decode cX7_readBus 71 = .ok (.iconst 1, 1) := by decide +kernel
theorem dX7_readBus_72 : decode cX7_readBus 72 = .ok (.iadd, 1) := by decide +kernel
theorem dX7_readBus_73 : decode cX7_readBus 73 = .ok (.iaload, 1) := by decide +kernel
theorem dX7_readBus_74 : decode cX7_readBus 74 = .ok (.invokevirtual 107, 3) := by decide +kernel
theorem dX7_readBus_77 : decode cX7_readBus 77 = .ok (.ifCond .eq 22, 3) := by decide +kernel
theorem dX7_readBus_80 : decode cX7_readBus 80 = .ok (.aload_n 0, 1) := by decide +kernel
theorem dX7_readBus_81 : decode cX7_readBus 81 = .ok (.iload_n 2, 1) := by decide +kernel
theorem dX7_readBus_82 : decode cX7_readBus 82 = .ok (.iconst 3, 1) := by decide +kernel
theorem dX7_readBus_83 : decode cX7_readBus 83 = .ok (.iadd, 1) := by decide +kernel
theorem dX7_readBus_84 : decode cX7_readBus 84 = .ok (.iconst 0, 1) := by decide +kernel
theorem dX7_readBus_85 : decode cX7_readBus 85 = .ok (.aload_n 0, 1) := by decide +kernel
theorem dX7_readBus_86 : decode cX7_readBus 86 = .ok (.getfield 13, 3) := by decide +kernel
theorem dX7_readBus_89 : decode cX7_readBus 89 = .ok (.iload_n 2, 1) := by decide +kernel
theorem dX7_readBus_90 : decode cX7_readBus 90 = .ok (.iconst 1, 1) := by decide +kernel
theorem dX7_readBus_91 : decode cX7_readBus 91 = .ok (.iadd, 1) := by decide +kernel
theorem dX7_readBus_92 : decode cX7_readBus 92 = .ok (.iaload, 1) := by decide +kernel
theorem dX7_readBus_93 : decode cX7_readBus 93 = .ok (.invokevirtual 107, 3) := by decide +kernel
theorem dX7_readBus_96 : decode cX7_readBus 96 = .ok (.ifCond .ne 5, 3) := by decide +kernel
theorem dX7_readBus_99 : decode cX7_readBus 99 = .ok (.iconst 0, 1) := by decide +kernel
theorem dX7_readBus_100 : decode cX7_readBus 100 = .ok (.ireturn, 1) := by decide +kernel
theorem dX7_readBus_101 : decode cX7_readBus 101 = .ok (.aload_n 0, 1) := by decide +kernel
theorem dX7_readBus_102 : decode cX7_readBus 102 = .ok (.iload_n 2, 1) := by decide +kernel
theorem dX7_readBus_103 : decode cX7_readBus 103 = .ok (.iconst 4, 1) := by decide +kernel
theorem dX7_readBus_104 : decode cX7_readBus 104 = .ok (.iadd, 1) := by decide +kernel
theorem dX7_readBus_105 : decode cX7_readBus 105 = .ok (.iconst 0, 1) := by decide +kernel
theorem dX7_readBus_106 : decode cX7_readBus 106 = .ok (.aload_n 0, 1) := by decide +kernel
theorem dX7_readBus_107 : decode cX7_readBus 107 = .ok (.getfield 13, 3) := by decide +kernel
theorem dX7_readBus_110 : decode cX7_readBus 110 = .ok (.iconst 0, 1) := by decide +kernel
theorem dX7_readBus_111 : decode cX7_readBus 111 = .ok (.iaload, 1) := by decide +kernel
theorem dX7_readBus_112 : decode cX7_readBus 112 = .ok (.iconst 1, 1) := by decide +kernel
theorem dX7_readBus_113 : decode cX7_readBus 113 = .ok (.isub, 1) := by decide +kernel
theorem dX7_readBus_114 : decode cX7_readBus 114 = .ok (.invokevirtual 107, 3) := by decide +kernel
theorem dX7_readBus_117 : decode cX7_readBus 117 = .ok (.ifCond .eq 29, 3) := by decide +kernel
theorem dX7_readBus_120 : decode cX7_readBus 120 = .ok (.aload_n 0, 1) := by decide +kernel
theorem dX7_readBus_121 : decode cX7_readBus 121 = .ok (.iload_n 2, 1) := by decide +kernel
theorem dX7_readBus_122 : decode cX7_readBus 122 = .ok (.iconst 5, 1) := by decide +kernel
theorem dX7_readBus_123 : decode cX7_readBus 123 = .ok (.iadd, 1) := by decide +kernel
theorem dX7_readBus_124 : decode cX7_readBus 124 = .ok (.aload_n 0, 1) := by decide +kernel
theorem dX7_readBus_125 : decode cX7_readBus 125 = .ok (.getfield 13, 3) := by decide +kernel
theorem dX7_readBus_128 : decode cX7_readBus 128 = .ok (.iload_n 2, 1) := by decide +kernel
theorem dX7_readBus_129 : decode cX7_readBus 129 = .ok (.iconst 4, 1) := by decide +kernel
theorem dX7_readBus_130 : decode cX7_readBus 130 = .ok (.iadd, 1) := by decide +kernel
theorem dX7_readBus_131 : decode cX7_readBus 131 = .ok (.iaload, 1) := by decide +kernel
theorem dX7_readBus_132 : decode cX7_readBus 132 = .ok (.iconst 1, 1) := by decide +kernel
theorem dX7_readBus_133 : decode cX7_readBus 133 = .ok (.iadd, 1) := by decide +kernel
theorem dX7_readBus_134 : decode cX7_readBus 134 = .ok (.aload_n 0, 1) := by decide +kernel
theorem dX7_readBus_135 : decode cX7_readBus 135 = .ok (.getfield 13, 3) := by decide +kernel
theorem dX7_readBus_138 : decode cX7_readBus 138 = .ok (.iconst 0, 1) := by decide +kernel
theorem dX7_readBus_139 : decode cX7_readBus 139 = .ok (.iaload, 1) := by decide +kernel
theorem dX7_readBus_140 : decode cX7_readBus 140 = .ok (.invokevirtual 107, 3) := by decide +kernel
theorem dX7_readBus_143 : decode cX7_readBus 143 = .ok (.ifCond .ne 5, 3) := by decide +kernel
theorem dX7_readBus_146 : decode cX7_readBus 146 = .ok (.iconst 0, 1) := by decide +kernel
theorem dX7_readBus_147 : decode cX7_readBus 147 = .ok (.ireturn, 1) := by decide +kernel
theorem dX7_readBus_148 : decode cX7_readBus 148 = .ok (.aload_n 0, 1) := by decide +kernel
theorem dX7_readBus_149 : decode cX7_readBus 149 = .ok (.getfield 13, 3) := by decide +kernel
theorem dX7_readBus_152 : decode cX7_readBus 152 = .ok (.iconst 1, 1) := by decide +kernel
theorem dX7_readBus_153 : decode cX7_readBus 153 = .ok (.dup2, 1) := by decide +kernel
theorem dX7_readBus_154 : decode cX7_readBus 154 = .ok (.iaload, 1) := by decide +kernel
theorem dX7_readBus_155 : decode cX7_readBus 155 = .ok (.iconst 1, 1) := by decide +kernel
theorem dX7_readBus_156 : decode cX7_readBus 156 = .ok (.iadd, 1) := by decide +kernel
theorem dX7_readBus_157 : decode cX7_readBus 157 = .ok (.iastore, 1) := by decide +kernel
theorem dX7_readBus_158 : decode cX7_readBus 158 = .ok (.iconst 1, 1) := by decide +kernel
theorem dX7_readBus_159 : decode cX7_readBus 159 = .ok (.ireturn, 1) := by decide +kernel
def l7_readBus_146   (M : mm_M) : Option (Int32 × mm_M) :=
  rZ 0 M
set_option maxHeartbeats 2000000 in
theorem sl7_readBus_146     (M : mm_M) : Snd injI j7_readBus mm_X0 146 [none, none, none] [] M (l7_readBus_146   M) := by
  unfold l7_readBus_146
  refine sn_iconst (j := j7_readBus) (pc := 146) 0 rfl dX7_readBus_146 ?_
  exact sn_zret (j := j7_readBus) (pc := 147) rfl dX7_readBus_147
def l7_readBus_99   (M : mm_M) : Option (Int32 × mm_M) :=
  rZ 0 M
set_option maxHeartbeats 2000000 in
theorem sl7_readBus_99     (M : mm_M) : Snd injI j7_readBus mm_X0 99 [none, none, none] [] M (l7_readBus_99   M) := by
  unfold l7_readBus_99
  refine sn_iconst (j := j7_readBus) (pc := 99) 0 rfl dX7_readBus_99 ?_
  exact sn_zret (j := j7_readBus) (pc := 100) rfl dX7_readBus_100
def f7_readBus (x1 : Int32) (M : mm_M) : Option (Int32 × mm_M) :=
  aI 48 82 1 M (fun w_1 => if w_1 = 4 then (cI (f7_fails 4 x1 M) (fun r_17 M => rZ r_17 M)) else (aI 48 82 1 M (fun w_2 => bI (50 + (6 * w_2)) (fun x2_3 => aI 48 82 2 M (fun w_4 => cI (f7_reads x2_3 0 (w_4 - 1) M) (fun r_5 M => if r_5 = 0 then (l7_readBus_99 M) else (cI (f7_reads (x2_3 + 1) 1 200 M) (fun r_6 M => if r_6 = 0 then (l7_readBus_99 M) else (aI 48 82 (x2_3 + 1) M (fun w_7 => cI (f7_reads (x2_3 + 2) 0 w_7 M) (fun r_8 M => if r_8 = 0 then (l7_readBus_99 M) else (aI 48 82 (x2_3 + 1) M (fun w_9 => cI (f7_reads (x2_3 + 3) 0 w_9 M) (fun r_10 M => if r_10 = 0 then (l7_readBus_99 M) else (aI 48 82 0 M (fun w_11 => cI (f7_reads (x2_3 + 4) 0 (w_11 - 1) M) (fun r_12 M => if r_12 = 0 then (l7_readBus_146 M) else (aI 48 82 (x2_3 + 4) M (fun w_13 => aI 48 82 0 M (fun w_14 => cI (f7_reads (x2_3 + 5) (w_13 + 1) w_14 M) (fun r_15 M => if r_15 = 0 then (l7_readBus_146 M) else (aI 48 82 1 M (fun w_16 => uI 48 82 1 (w_16 + 1) M (fun M => rZ 1 M))))))))))))))))))))))))
set_option maxHeartbeats 2000000 in
theorem s7_readBus (x1 : Int32) (M : mm_M) : Snd injI j7_readBus mm_X0 0 [some (.ref 46), some (.int x1)] [] M (f7_readBus x1 M) := by
  refine Snd.wk (lo' := [some (.ref 46), some (.int x1), none]) ?_ (by simp [mm_le])
  unfold f7_readBus
  refine sn_aload_n (j := j7_readBus) (pc := 0) rfl rfl dX7_readBus_0 ?_
  refine g_X7_13 (j := j7_readBus) (pc := 1) rfl dX7_readBus_1 ?_
  refine sn_iconst (j := j7_readBus) (pc := 4) 1 rfl dX7_readBus_4 ?_
  refine sn_iald (j := j7_readBus) (pc := 5) rfl ⟨by decide, by decide⟩ dX7_readBus_5 (fun w_1 => ?_)
  refine sn_iconst (j := j7_readBus) (pc := 6) 4 rfl dX7_readBus_6 ?_
  refine sn_icmp_ne (j := j7_readBus) (pc := 7) 17 rfl dX7_readBus_7 ?_ ?_
  · refine sn_bipush (j := j7_readBus) (pc := 17) 50 rfl dX7_readBus_17 ?_
    refine sn_bipush (j := j7_readBus) (pc := 19) 6 rfl dX7_readBus_19 ?_
    refine sn_aload_n (j := j7_readBus) (pc := 21) rfl rfl dX7_readBus_21 ?_
    refine g_X7_13 (j := j7_readBus) (pc := 22) rfl dX7_readBus_22 ?_
    refine sn_iconst (j := j7_readBus) (pc := 25) 1 rfl dX7_readBus_25 ?_
    refine sn_iald (j := j7_readBus) (pc := 26) rfl ⟨by decide, by decide⟩ dX7_readBus_26 (fun w_2 => ?_)
    refine sn_imul (j := j7_readBus) (pc := 27) dX7_readBus_27 ?_
    refine sn_iadd (j := j7_readBus) (pc := 28) dX7_readBus_28 ?_
    refine sn_istoreB_n (j := j7_readBus) (pc := 29) rfl (fun x2_3 => [some (.ref 46), some (.int x1), some (.int x2_3)]) (by decide) (fun _ => rfl) dX7_readBus_29 (fun x2_3 => ?_)
    refine sn_aload_n (j := j7_readBus) (pc := 30) rfl rfl dX7_readBus_30 ?_
    refine sn_iload_n (j := j7_readBus) (pc := 31) rfl rfl dX7_readBus_31 ?_
    refine sn_iconst (j := j7_readBus) (pc := 32) 0 rfl dX7_readBus_32 ?_
    refine sn_aload_n (j := j7_readBus) (pc := 33) rfl rfl dX7_readBus_33 ?_
    refine g_X7_13 (j := j7_readBus) (pc := 34) rfl dX7_readBus_34 ?_
    refine sn_iconst (j := j7_readBus) (pc := 37) 2 rfl dX7_readBus_37 ?_
    refine sn_iald (j := j7_readBus) (pc := 38) rfl ⟨by decide, by decide⟩ dX7_readBus_38 (fun w_4 => ?_)
    refine sn_iconst (j := j7_readBus) (pc := 39) 1 rfl dX7_readBus_39 ?_
    refine sn_isub (j := j7_readBus) (pc := 40) dX7_readBus_40 ?_
    refine sn_callV (j := j7_readBus) (pc := 41) (jc := j7_reads) (As := [.int x2_3, .int 0, .int (w_4 - 1)]) (s7_reads x2_3 0 (w_4 - 1) M) mm_hvI (by simp [Value.category]) (Nat.le_of_ble_eq_true rfl) q7_reads rfl (by decide) rfl rfl ⟨by decide, by decide⟩ w_ml_X7_107 w_im_X7_reads w_se_X7_reads rfl (Nat.le_of_ble_eq_true rfl) dX7_readBus_41 ?_
    rintro ⟨r_5, M⟩
    show Snd injI j7_readBus mm_X0 44 [some (.ref 46), some (.int x1), some (.int x2_3)] [.int r_5] M _
    refine sn_if_eq (j := j7_readBus) (pc := 44) 99 rfl dX7_readBus_44 ?_ ?_
    · exact Snd.wk (sl7_readBus_99 M) (by simp [mm_le])
    · refine sn_aload_n (j := j7_readBus) (pc := 47) rfl rfl dX7_readBus_47 ?_
      refine sn_iload_n (j := j7_readBus) (pc := 48) rfl rfl dX7_readBus_48 ?_
      refine sn_iconst (j := j7_readBus) (pc := 49) 1 rfl dX7_readBus_49 ?_
      refine sn_iadd (j := j7_readBus) (pc := 50) dX7_readBus_50 ?_
      refine sn_iconst (j := j7_readBus) (pc := 51) 1 rfl dX7_readBus_51 ?_
      refine sn_sipush (j := j7_readBus) (pc := 52) 200 rfl dX7_readBus_52 ?_
      refine sn_callV (j := j7_readBus) (pc := 55) (jc := j7_reads) (As := [.int (x2_3 + 1), .int 1, .int 200]) (s7_reads (x2_3 + 1) 1 200 M) mm_hvI (by simp [Value.category]) (Nat.le_of_ble_eq_true rfl) q7_reads rfl (by decide) rfl rfl ⟨by decide, by decide⟩ w_ml_X7_107 w_im_X7_reads w_se_X7_reads rfl (Nat.le_of_ble_eq_true rfl) dX7_readBus_55 ?_
      rintro ⟨r_6, M⟩
      show Snd injI j7_readBus mm_X0 58 [some (.ref 46), some (.int x1), some (.int x2_3)] [.int r_6] M _
      refine sn_if_eq (j := j7_readBus) (pc := 58) 99 rfl dX7_readBus_58 ?_ ?_
      · exact Snd.wk (sl7_readBus_99 M) (by simp [mm_le])
      · refine sn_aload_n (j := j7_readBus) (pc := 61) rfl rfl dX7_readBus_61 ?_
        refine sn_iload_n (j := j7_readBus) (pc := 62) rfl rfl dX7_readBus_62 ?_
        refine sn_iconst (j := j7_readBus) (pc := 63) 2 rfl dX7_readBus_63 ?_
        refine sn_iadd (j := j7_readBus) (pc := 64) dX7_readBus_64 ?_
        refine sn_iconst (j := j7_readBus) (pc := 65) 0 rfl dX7_readBus_65 ?_
        refine sn_aload_n (j := j7_readBus) (pc := 66) rfl rfl dX7_readBus_66 ?_
        refine g_X7_13 (j := j7_readBus) (pc := 67) rfl dX7_readBus_67 ?_
        refine sn_iload_n (j := j7_readBus) (pc := 70) rfl rfl dX7_readBus_70 ?_
        refine sn_iconst (j := j7_readBus) (pc := 71) 1 rfl dX7_readBus_71 ?_
        refine sn_iadd (j := j7_readBus) (pc := 72) dX7_readBus_72 ?_
        refine sn_iald (j := j7_readBus) (pc := 73) rfl ⟨by decide, by decide⟩ dX7_readBus_73 (fun w_7 => ?_)
        refine sn_callV (j := j7_readBus) (pc := 74) (jc := j7_reads) (As := [.int (x2_3 + 2), .int 0, .int w_7]) (s7_reads (x2_3 + 2) 0 w_7 M) mm_hvI (by simp [Value.category]) (Nat.le_of_ble_eq_true rfl) q7_reads rfl (by decide) rfl rfl ⟨by decide, by decide⟩ w_ml_X7_107 w_im_X7_reads w_se_X7_reads rfl (Nat.le_of_ble_eq_true rfl) dX7_readBus_74 ?_
        rintro ⟨r_8, M⟩
        show Snd injI j7_readBus mm_X0 77 [some (.ref 46), some (.int x1), some (.int x2_3)] [.int r_8] M _
        refine sn_if_eq (j := j7_readBus) (pc := 77) 99 rfl dX7_readBus_77 ?_ ?_
        · exact Snd.wk (sl7_readBus_99 M) (by simp [mm_le])
        · refine sn_aload_n (j := j7_readBus) (pc := 80) rfl rfl dX7_readBus_80 ?_
          refine sn_iload_n (j := j7_readBus) (pc := 81) rfl rfl dX7_readBus_81 ?_
          refine sn_iconst (j := j7_readBus) (pc := 82) 3 rfl dX7_readBus_82 ?_
          refine sn_iadd (j := j7_readBus) (pc := 83) dX7_readBus_83 ?_
          refine sn_iconst (j := j7_readBus) (pc := 84) 0 rfl dX7_readBus_84 ?_
          refine sn_aload_n (j := j7_readBus) (pc := 85) rfl rfl dX7_readBus_85 ?_
          refine g_X7_13 (j := j7_readBus) (pc := 86) rfl dX7_readBus_86 ?_
          refine sn_iload_n (j := j7_readBus) (pc := 89) rfl rfl dX7_readBus_89 ?_
          refine sn_iconst (j := j7_readBus) (pc := 90) 1 rfl dX7_readBus_90 ?_
          refine sn_iadd (j := j7_readBus) (pc := 91) dX7_readBus_91 ?_
          refine sn_iald (j := j7_readBus) (pc := 92) rfl ⟨by decide, by decide⟩ dX7_readBus_92 (fun w_9 => ?_)
          refine sn_callV (j := j7_readBus) (pc := 93) (jc := j7_reads) (As := [.int (x2_3 + 3), .int 0, .int w_9]) (s7_reads (x2_3 + 3) 0 w_9 M) mm_hvI (by simp [Value.category]) (Nat.le_of_ble_eq_true rfl) q7_reads rfl (by decide) rfl rfl ⟨by decide, by decide⟩ w_ml_X7_107 w_im_X7_reads w_se_X7_reads rfl (Nat.le_of_ble_eq_true rfl) dX7_readBus_93 ?_
          rintro ⟨r_10, M⟩
          show Snd injI j7_readBus mm_X0 96 [some (.ref 46), some (.int x1), some (.int x2_3)] [.int r_10] M _
          refine sn_if_ne (j := j7_readBus) (pc := 96) 101 rfl dX7_readBus_96 ?_ ?_
          · refine sn_aload_n (j := j7_readBus) (pc := 101) rfl rfl dX7_readBus_101 ?_
            refine sn_iload_n (j := j7_readBus) (pc := 102) rfl rfl dX7_readBus_102 ?_
            refine sn_iconst (j := j7_readBus) (pc := 103) 4 rfl dX7_readBus_103 ?_
            refine sn_iadd (j := j7_readBus) (pc := 104) dX7_readBus_104 ?_
            refine sn_iconst (j := j7_readBus) (pc := 105) 0 rfl dX7_readBus_105 ?_
            refine sn_aload_n (j := j7_readBus) (pc := 106) rfl rfl dX7_readBus_106 ?_
            refine g_X7_13 (j := j7_readBus) (pc := 107) rfl dX7_readBus_107 ?_
            refine sn_iconst (j := j7_readBus) (pc := 110) 0 rfl dX7_readBus_110 ?_
            refine sn_iald (j := j7_readBus) (pc := 111) rfl ⟨by decide, by decide⟩ dX7_readBus_111 (fun w_11 => ?_)
            refine sn_iconst (j := j7_readBus) (pc := 112) 1 rfl dX7_readBus_112 ?_
            refine sn_isub (j := j7_readBus) (pc := 113) dX7_readBus_113 ?_
            refine sn_callV (j := j7_readBus) (pc := 114) (jc := j7_reads) (As := [.int (x2_3 + 4), .int 0, .int (w_11 - 1)]) (s7_reads (x2_3 + 4) 0 (w_11 - 1) M) mm_hvI (by simp [Value.category]) (Nat.le_of_ble_eq_true rfl) q7_reads rfl (by decide) rfl rfl ⟨by decide, by decide⟩ w_ml_X7_107 w_im_X7_reads w_se_X7_reads rfl (Nat.le_of_ble_eq_true rfl) dX7_readBus_114 ?_
            rintro ⟨r_12, M⟩
            show Snd injI j7_readBus mm_X0 117 [some (.ref 46), some (.int x1), some (.int x2_3)] [.int r_12] M _
            refine sn_if_eq (j := j7_readBus) (pc := 117) 146 rfl dX7_readBus_117 ?_ ?_
            · exact Snd.wk (sl7_readBus_146 M) (by simp [mm_le])
            · refine sn_aload_n (j := j7_readBus) (pc := 120) rfl rfl dX7_readBus_120 ?_
              refine sn_iload_n (j := j7_readBus) (pc := 121) rfl rfl dX7_readBus_121 ?_
              refine sn_iconst (j := j7_readBus) (pc := 122) 5 rfl dX7_readBus_122 ?_
              refine sn_iadd (j := j7_readBus) (pc := 123) dX7_readBus_123 ?_
              refine sn_aload_n (j := j7_readBus) (pc := 124) rfl rfl dX7_readBus_124 ?_
              refine g_X7_13 (j := j7_readBus) (pc := 125) rfl dX7_readBus_125 ?_
              refine sn_iload_n (j := j7_readBus) (pc := 128) rfl rfl dX7_readBus_128 ?_
              refine sn_iconst (j := j7_readBus) (pc := 129) 4 rfl dX7_readBus_129 ?_
              refine sn_iadd (j := j7_readBus) (pc := 130) dX7_readBus_130 ?_
              refine sn_iald (j := j7_readBus) (pc := 131) rfl ⟨by decide, by decide⟩ dX7_readBus_131 (fun w_13 => ?_)
              refine sn_iconst (j := j7_readBus) (pc := 132) 1 rfl dX7_readBus_132 ?_
              refine sn_iadd (j := j7_readBus) (pc := 133) dX7_readBus_133 ?_
              refine sn_aload_n (j := j7_readBus) (pc := 134) rfl rfl dX7_readBus_134 ?_
              refine g_X7_13 (j := j7_readBus) (pc := 135) rfl dX7_readBus_135 ?_
              refine sn_iconst (j := j7_readBus) (pc := 138) 0 rfl dX7_readBus_138 ?_
              refine sn_iald (j := j7_readBus) (pc := 139) rfl ⟨by decide, by decide⟩ dX7_readBus_139 (fun w_14 => ?_)
              refine sn_callV (j := j7_readBus) (pc := 140) (jc := j7_reads) (As := [.int (x2_3 + 5), .int (w_13 + 1), .int w_14]) (s7_reads (x2_3 + 5) (w_13 + 1) w_14 M) mm_hvI (by simp [Value.category]) (Nat.le_of_ble_eq_true rfl) q7_reads rfl (by decide) rfl rfl ⟨by decide, by decide⟩ w_ml_X7_107 w_im_X7_reads w_se_X7_reads rfl (Nat.le_of_ble_eq_true rfl) dX7_readBus_140 ?_
              rintro ⟨r_15, M⟩
              show Snd injI j7_readBus mm_X0 143 [some (.ref 46), some (.int x1), some (.int x2_3)] [.int r_15] M _
              refine sn_if_ne (j := j7_readBus) (pc := 143) 148 rfl dX7_readBus_143 ?_ ?_
              · refine sn_aload_n (j := j7_readBus) (pc := 148) rfl rfl dX7_readBus_148 ?_
                refine g_X7_13 (j := j7_readBus) (pc := 149) rfl dX7_readBus_149 ?_
                refine sn_iconst (j := j7_readBus) (pc := 152) 1 rfl dX7_readBus_152 ?_
                refine sn_dup2 (j := j7_readBus) (pc := 153) rfl rfl dX7_readBus_153 ?_
                refine sn_iald (j := j7_readBus) (pc := 154) rfl ⟨by decide, by decide⟩ dX7_readBus_154 (fun w_16 => ?_)
                refine sn_iconst (j := j7_readBus) (pc := 155) 1 rfl dX7_readBus_155 ?_
                refine sn_iadd (j := j7_readBus) (pc := 156) dX7_readBus_156 ?_
                refine sn_iast (j := j7_readBus) (pc := 157) rfl ⟨by decide, by decide⟩ dX7_readBus_157 (fun M => ?_)
                refine sn_iconst (j := j7_readBus) (pc := 158) 1 rfl dX7_readBus_158 ?_
                exact sn_zret (j := j7_readBus) (pc := 159) rfl dX7_readBus_159
              · exact Snd.wk (sl7_readBus_146 M) (by simp [mm_le])
          · exact Snd.wk (sl7_readBus_99 M) (by simp [mm_le])
  · refine sn_aload_n (j := j7_readBus) (pc := 10) rfl rfl dX7_readBus_10 ?_
    refine sn_iconst (j := j7_readBus) (pc := 11) 4 rfl dX7_readBus_11 ?_
    refine sn_iload_n (j := j7_readBus) (pc := 12) rfl rfl dX7_readBus_12 ?_
    refine sn_callV (j := j7_readBus) (pc := 13) (jc := j7_fails) (As := [.int 4, .int x1]) (s7_fails 4 x1 M) mm_hvI (by simp [Value.category]) (Nat.le_of_ble_eq_true rfl) q7_fails rfl (by decide) rfl rfl ⟨by decide, by decide⟩ w_ml_X7_85 w_im_X7_fails w_se_X7_fails rfl (Nat.le_of_ble_eq_true rfl) dX7_readBus_13 ?_
    rintro ⟨r_17, M⟩
    show Snd injI j7_readBus mm_X0 16 [some (.ref 46), some (.int x1), none] [.int r_17] M _
    exact sn_zret (j := j7_readBus) (pc := 16) rfl dX7_readBus_16

abbrev j7_readCharge : mm_J := (yX7_readCharge, cX7_readCharge, 3, (some .boolean), 4)
theorem dX7_readCharge_0 : decode cX7_readCharge 0 = .ok (.aload_n 0, 1) := by decide +kernel
theorem dX7_readCharge_1 : decode cX7_readCharge 1 = .ok (.iconst 0, 1) := by decide +kernel
theorem dX7_readCharge_2 : decode cX7_readCharge 2 = .ok (.aload_n 0, 1) := by decide +kernel
theorem dX7_readCharge_3 : decode cX7_readCharge 3 = .ok (.getfield 13, 3) := by decide +kernel
theorem dX7_readCharge_6 : decode cX7_readCharge 6 = .ok (.iconst 0, 1) := by decide +kernel
theorem dX7_readCharge_7 : decode cX7_readCharge 7 = .ok (.iaload, 1) := by decide +kernel
theorem dX7_readCharge_8 : decode cX7_readCharge 8 = .ok (.iconst 1, 1) := by decide +kernel
theorem dX7_readCharge_9 : decode cX7_readCharge 9 = .ok (.isub, 1) := by decide +kernel
theorem dX7_readCharge_10 : decode cX7_readCharge 10 = .ok (.invokevirtual 98, 3) := by decide +kernel
theorem dX7_readCharge_13 : decode cX7_readCharge 13 = .ok (.ifCond .ne 5, 3) := by decide +kernel
theorem dX7_readCharge_16 : decode cX7_readCharge 16 = .ok (.iconst 0, 1) := by decide +kernel
theorem dX7_readCharge_17 : decode cX7_readCharge 17 = .ok (.ireturn, 1) := by decide +kernel
theorem dX7_readCharge_18 : decode cX7_readCharge 18 = .ok (.aload_n 0, 1) := by decide +kernel
theorem dX7_readCharge_19 : decode cX7_readCharge 19 = .ok (.getfield 92, 3) := by decide +kernel
theorem dX7_readCharge_22 : decode cX7_readCharge 22 = .ok (.istore_n 1, 1) := by decide +kernel
theorem dX7_readCharge_23 : decode cX7_readCharge 23 = .ok (.iconst 0, 1) := by decide +kernel
theorem dX7_readCharge_24 : decode cX7_readCharge 24 = .ok (.istore_n 2, 1) := by decide +kernel
theorem dX7_readCharge_25 : decode cX7_readCharge 25 = .ok (.aload_n 0, 1) := by decide +kernel
theorem dX7_readCharge_26 : decode cX7_readCharge 26 = .ok (.invokevirtual 81, 3) := by decide +kernel
theorem dX7_readCharge_29 : decode cX7_readCharge 29 = .ok (.ifCond .eq 54, 3) := by decide +kernel
theorem dX7_readCharge_32 : decode cX7_readCharge 32 = .ok (.aload_n 0, 1) := by decide +kernel
theorem dX7_readCharge_33 : decode cX7_readCharge 33 = .ok (.iconst 0, 1) := by decide +kernel
theorem dX7_readCharge_34 : decode cX7_readCharge 34 = .ok (.aload_n 0, 1) := by decide +kernel
theorem dX7_readCharge_35 : decode cX7_readCharge 35 = .ok (.getfield 13, 3) := by decide +kernel
theorem dX7_readCharge_38 : decode cX7_readCharge 38 = .ok (.iconst 1, 1) := by decide +kernel
theorem dX7_readCharge_39 : decode cX7_readCharge 39 = .ok (.iaload, 1) := by decide +kernel
theorem dX7_readCharge_40 : decode cX7_readCharge 40 = .ok (.iconst 1, 1) := by decide +kernel
theorem dX7_readCharge_41 : decode cX7_readCharge 41 = .ok (.isub, 1) := by decide +kernel
theorem dX7_readCharge_42 : decode cX7_readCharge 42 = .ok (.invokevirtual 98, 3) := by decide +kernel
theorem dX7_readCharge_45 : decode cX7_readCharge 45 = .ok (.ifCond .ne 5, 3) := by decide +kernel
theorem dX7_readCharge_48 : decode cX7_readCharge 48 = .ok (.iconst 0, 1) := by decide +kernel
theorem dX7_readCharge_49 : decode cX7_readCharge 49 = .ok (.ireturn, 1) := by decide +kernel
theorem dX7_readCharge_50 : decode cX7_readCharge 50 = .ok (.iload_n 2, 1) := by decide +kernel
theorem dX7_readCharge_51 : decode cX7_readCharge 51 = .ok (.aload_n 0, 1) := by decide +kernel
theorem dX7_readCharge_52 : decode cX7_readCharge 52 = .ok (.getfield 92, 3) := by decide +kernel
theorem dX7_readCharge_55 : decode cX7_readCharge 55 = .ok (.invokestatic 110, 3) := by decide +kernel
theorem dX7_readCharge_58 : decode cX7_readCharge 58 = .ok (.ifCond .eq 13, 3) := by decide +kernel
theorem dX7_readCharge_61 : decode cX7_readCharge 61 = .ok (.aload_n 0, 1) := by decide +kernel
theorem dX7_readCharge_62 : decode cX7_readCharge 62 = .ok (.iconst 3, 1) := by decide +kernel
theorem dX7_readCharge_63 : decode cX7_readCharge 63 = .ok (.aload_n 0, 1) := by decide +kernel
theorem dX7_readCharge_64 : decode cX7_readCharge 64 = .ok (.getfield 89, 3) := by decide +kernel
theorem dX7_readCharge_67 : decode cX7_readCharge 67 = .ok (.invokevirtual 85, 3) := by decide +kernel
theorem dX7_readCharge_70 : decode cX7_readCharge 70 = .ok (.ireturn, 1) := by decide +kernel
theorem dX7_readCharge_71 : decode cX7_readCharge 71 = .ok (.iload_n 2, 1) := by decide +kernel
theorem dX7_readCharge_72 : decode cX7_readCharge 72 = .ok (.iconst 1, 1) := by decide +kernel
theorem dX7_readCharge_73 : decode cX7_readCharge 73 = .ok (.aload_n 0, 1) := by decide +kernel
theorem dX7_readCharge_74 : decode cX7_readCharge 74 = .ok (.getfield 92, 3) := by decide +kernel
theorem dX7_readCharge_77 : decode cX7_readCharge 77 = .ok (.ishl, 1) := by decide +kernel
theorem dX7_readCharge_78 : decode cX7_readCharge 78 = .ok (.ior, 1) := by decide +kernel
theorem dX7_readCharge_79 : decode cX7_readCharge 79 = .ok (.istore_n 2, 1) := by decide +kernel
theorem dX7_readCharge_80 : decode cX7_readCharge 80 = .ok (.goto (-55), 3) := by decide +kernel
theorem dX7_readCharge_83 : decode cX7_readCharge 83 = .ok (.aload_n 0, 1) := by decide +kernel
theorem dX7_readCharge_84 : decode cX7_readCharge 84 = .ok (.getfield 13, 3) := by decide +kernel
theorem dX7_readCharge_87 : decode cX7_readCharge 87 = .ok (.bipush 74, 2) := by decide +kernel
theorem dX7_readCharge_89 : decode cX7_readCharge 89 = .ok (.iload_n 1, 1) := by decide +kernel
theorem dX7_readCharge_90 : decode cX7_readCharge 90 = .ok (.iadd, 1) := by decide +kernel
theorem dX7_readCharge_91 : decode cX7_readCharge 91 = .ok (.iload_n 2, 1) := by decide +kernel
theorem dX7_readCharge_92 : decode cX7_readCharge 92 = .ok (.iastore, 1) := by decide +kernel
theorem dX7_readCharge_93 : decode cX7_readCharge 93 = .ok (.iconst 1, 1) := by decide +kernel
theorem dX7_readCharge_94 : decode cX7_readCharge 94 = .ok (.ireturn, 1) := by decide +kernel
def b7_readCharge_25  (rec25 : Int32 → Int32 → mm_M → Option (Int32 × mm_M)) (x1 : Int32) (x2 : Int32) (M : mm_M) : Option (Int32 × mm_M) :=
  cI (f7_isNumber M) (fun r_1 M => if r_1 = 0 then (uI 48 82 (74 + x1) x2 M (fun M => rZ 1 M)) else (aI 48 82 1 M (fun w_2 => cI (f7_readNumber 0 (w_2 - 1) M) (fun r_3 M => if r_3 = 0 then (rZ 0 M) else (bI (mI M 46 8) (fun v_4 => cI (f7_has x2 v_4 M) (fun r_5 M => if r_5 = 0 then (bI (mI M 46 8) (fun v_6 => bI (x2 ||| (1 <<< (v_6 &&& 31))) (fun x2_7 => rec25 x1 x2_7 M))) else (bI (mI M 46 9) (fun v_8 => cI (f7_fails 3 v_8 M) (fun r_9 M => rZ r_9 M))))))))))
set_option maxHeartbeats 2000000 in
theorem sb7_readCharge_25   (rec25 : Int32 → Int32 → mm_M → Option (Int32 × mm_M)) (hrec25 : ∀ (x1 : Int32) (x2 : Int32) (M : mm_M), Snd injI j7_readCharge mm_X0 25 [some (.ref 46), some (.int x1), some (.int x2)] [] M (rec25 x1 x2 M)) (x1 : Int32) (x2 : Int32)  (M : mm_M) : Snd injI j7_readCharge mm_X0 25 [some (.ref 46), some (.int x1), some (.int x2)] [] M (b7_readCharge_25  rec25 x1 x2 M) := by
  unfold b7_readCharge_25
  refine sn_aload_n (j := j7_readCharge) (pc := 25) rfl rfl dX7_readCharge_25 ?_
  refine sn_callV (j := j7_readCharge) (pc := 26) (jc := j7_isNumber) (As := []) (s7_isNumber M) mm_hvI (by simp [Value.category]) (Nat.le_of_ble_eq_true rfl) q7_isNumber rfl (by decide) rfl rfl ⟨by decide, by decide⟩ w_ml_X7_81 w_im_X7_isNumber w_se_X7_isNumber rfl (Nat.le_of_ble_eq_true rfl) dX7_readCharge_26 ?_
  rintro ⟨r_1, M⟩
  show Snd injI j7_readCharge mm_X0 29 [some (.ref 46), some (.int x1), some (.int x2)] [.int r_1] M _
  refine sn_if_eq (j := j7_readCharge) (pc := 29) 83 rfl dX7_readCharge_29 ?_ ?_
  · refine sn_aload_n (j := j7_readCharge) (pc := 83) rfl rfl dX7_readCharge_83 ?_
    refine g_X7_13 (j := j7_readCharge) (pc := 84) rfl dX7_readCharge_84 ?_
    refine sn_bipush (j := j7_readCharge) (pc := 87) 74 rfl dX7_readCharge_87 ?_
    refine sn_iload_n (j := j7_readCharge) (pc := 89) rfl rfl dX7_readCharge_89 ?_
    refine sn_iadd (j := j7_readCharge) (pc := 90) dX7_readCharge_90 ?_
    refine sn_iload_n (j := j7_readCharge) (pc := 91) rfl rfl dX7_readCharge_91 ?_
    refine sn_iast (j := j7_readCharge) (pc := 92) rfl ⟨by decide, by decide⟩ dX7_readCharge_92 (fun M => ?_)
    refine sn_iconst (j := j7_readCharge) (pc := 93) 1 rfl dX7_readCharge_93 ?_
    exact sn_zret (j := j7_readCharge) (pc := 94) rfl dX7_readCharge_94
  · refine sn_aload_n (j := j7_readCharge) (pc := 32) rfl rfl dX7_readCharge_32 ?_
    refine sn_iconst (j := j7_readCharge) (pc := 33) 0 rfl dX7_readCharge_33 ?_
    refine sn_aload_n (j := j7_readCharge) (pc := 34) rfl rfl dX7_readCharge_34 ?_
    refine g_X7_13 (j := j7_readCharge) (pc := 35) rfl dX7_readCharge_35 ?_
    refine sn_iconst (j := j7_readCharge) (pc := 38) 1 rfl dX7_readCharge_38 ?_
    refine sn_iald (j := j7_readCharge) (pc := 39) rfl ⟨by decide, by decide⟩ dX7_readCharge_39 (fun w_2 => ?_)
    refine sn_iconst (j := j7_readCharge) (pc := 40) 1 rfl dX7_readCharge_40 ?_
    refine sn_isub (j := j7_readCharge) (pc := 41) dX7_readCharge_41 ?_
    refine sn_callV (j := j7_readCharge) (pc := 42) (jc := j7_readNumber) (As := [.int 0, .int (w_2 - 1)]) (s7_readNumber 0 (w_2 - 1) M) mm_hvI (by simp [Value.category]) (Nat.le_of_ble_eq_true rfl) q7_readNumber rfl (by decide) rfl rfl ⟨by decide, by decide⟩ w_ml_X7_98 w_im_X7_readNumber w_se_X7_readNumber rfl (Nat.le_of_ble_eq_true rfl) dX7_readCharge_42 ?_
    rintro ⟨r_3, M⟩
    show Snd injI j7_readCharge mm_X0 45 [some (.ref 46), some (.int x1), some (.int x2)] [.int r_3] M _
    refine sn_if_ne (j := j7_readCharge) (pc := 45) 50 rfl dX7_readCharge_45 ?_ ?_
    · refine sn_iload_n (j := j7_readCharge) (pc := 50) rfl rfl dX7_readCharge_50 ?_
      refine sn_aload_n (j := j7_readCharge) (pc := 51) rfl rfl dX7_readCharge_51 ?_
      refine g_X7_92 (j := j7_readCharge) (pc := 52) rfl dX7_readCharge_52 ?_
      refine Snd.bI (fun v_4 => ?_)
      refine sn_callS (j := j7_readCharge) (pc := 55) (jc := j7_has) (As := [.int x2, .int v_4]) (s7_has x2 v_4 M) mm_hvI (by simp [Value.category]) (Nat.le_of_ble_eq_true rfl) q7_has rfl (by decide) w_ml_X7_110 w_st_X7_has rfl (Nat.le_of_ble_eq_true rfl) dX7_readCharge_55 ?_
      rintro ⟨r_5, M⟩
      show Snd injI j7_readCharge mm_X0 58 [some (.ref 46), some (.int x1), some (.int x2)] [.int r_5] M _
      refine sn_if_eq (j := j7_readCharge) (pc := 58) 71 rfl dX7_readCharge_58 ?_ ?_
      · refine sn_iload_n (j := j7_readCharge) (pc := 71) rfl rfl dX7_readCharge_71 ?_
        refine sn_iconst (j := j7_readCharge) (pc := 72) 1 rfl dX7_readCharge_72 ?_
        refine sn_aload_n (j := j7_readCharge) (pc := 73) rfl rfl dX7_readCharge_73 ?_
        refine g_X7_92 (j := j7_readCharge) (pc := 74) rfl dX7_readCharge_74 ?_
        refine Snd.bI (fun v_6 => ?_)
        refine sn_ishl (j := j7_readCharge) (pc := 77) dX7_readCharge_77 ?_
        refine sn_ior (j := j7_readCharge) (pc := 78) dX7_readCharge_78 ?_
        refine sn_istoreB_n (j := j7_readCharge) (pc := 79) rfl (fun x2_7 => [some (.ref 46), some (.int x1), some (.int x2_7)]) (by decide) (fun _ => rfl) dX7_readCharge_79 (fun x2_7 => ?_)
        refine sn_goto (j := j7_readCharge) (pc := 80) 25 rfl dX7_readCharge_80 ?_
        exact Snd.wk (hrec25 x1 x2_7 M ) (by simp [mm_le])
      · refine sn_aload_n (j := j7_readCharge) (pc := 61) rfl rfl dX7_readCharge_61 ?_
        refine sn_iconst (j := j7_readCharge) (pc := 62) 3 rfl dX7_readCharge_62 ?_
        refine sn_aload_n (j := j7_readCharge) (pc := 63) rfl rfl dX7_readCharge_63 ?_
        refine g_X7_89 (j := j7_readCharge) (pc := 64) rfl dX7_readCharge_64 ?_
        refine Snd.bI (fun v_8 => ?_)
        refine sn_callV (j := j7_readCharge) (pc := 67) (jc := j7_fails) (As := [.int 3, .int v_8]) (s7_fails 3 v_8 M) mm_hvI (by simp [Value.category]) (Nat.le_of_ble_eq_true rfl) q7_fails rfl (by decide) rfl rfl ⟨by decide, by decide⟩ w_ml_X7_85 w_im_X7_fails w_se_X7_fails rfl (Nat.le_of_ble_eq_true rfl) dX7_readCharge_67 ?_
        rintro ⟨r_9, M⟩
        show Snd injI j7_readCharge mm_X0 70 [some (.ref 46), some (.int x1), some (.int x2)] [.int r_9] M _
        exact sn_zret (j := j7_readCharge) (pc := 70) rfl dX7_readCharge_70
    · refine sn_iconst (j := j7_readCharge) (pc := 48) 0 rfl dX7_readCharge_48 ?_
      exact sn_zret (j := j7_readCharge) (pc := 49) rfl dX7_readCharge_49
def l7_readCharge_25  : Nat → Int32 → Int32 → mm_M → Option (Int32 × mm_M)
  | 0 => fun _ _ _ => none
  | n + 1 => fun x1 x2 M => b7_readCharge_25  (l7_readCharge_25  n) x1 x2 M
theorem sl7_readCharge_25   : ∀ (n : Nat) (x1 : Int32) (x2 : Int32)  (M : mm_M), Snd injI j7_readCharge mm_X0 25 [some (.ref 46), some (.int x1), some (.int x2)] [] M (l7_readCharge_25  n x1 x2 M)
  | 0 => fun _ _  _ => Snd.none
  | n + 1 => fun x1 x2  M => sb7_readCharge_25   (l7_readCharge_25  n) (fun x1 x2 M  => sl7_readCharge_25   n x1 x2  M) x1 x2  M
def f7_readCharge  (M : mm_M) : Option (Int32 × mm_M) :=
  aI 48 82 0 M (fun w_10 => cI (f7_readNumber 0 (w_10 - 1) M) (fun r_11 M => if r_11 = 0 then (rZ 0 M) else (bI (mI M 46 8) (fun v_12 => l7_readCharge_25 FU v_12 0 M))))
set_option maxHeartbeats 2000000 in
theorem s7_readCharge  (M : mm_M) : Snd injI j7_readCharge mm_X0 0 [some (.ref 46)] [] M (f7_readCharge  M) := by
  refine Snd.wk (lo' := [some (.ref 46), none, none]) ?_ (by simp [mm_le])
  unfold f7_readCharge
  refine sn_aload_n (j := j7_readCharge) (pc := 0) rfl rfl dX7_readCharge_0 ?_
  refine sn_iconst (j := j7_readCharge) (pc := 1) 0 rfl dX7_readCharge_1 ?_
  refine sn_aload_n (j := j7_readCharge) (pc := 2) rfl rfl dX7_readCharge_2 ?_
  refine g_X7_13 (j := j7_readCharge) (pc := 3) rfl dX7_readCharge_3 ?_
  refine sn_iconst (j := j7_readCharge) (pc := 6) 0 rfl dX7_readCharge_6 ?_
  refine sn_iald (j := j7_readCharge) (pc := 7) rfl ⟨by decide, by decide⟩ dX7_readCharge_7 (fun w_10 => ?_)
  refine sn_iconst (j := j7_readCharge) (pc := 8) 1 rfl dX7_readCharge_8 ?_
  refine sn_isub (j := j7_readCharge) (pc := 9) dX7_readCharge_9 ?_
  refine sn_callV (j := j7_readCharge) (pc := 10) (jc := j7_readNumber) (As := [.int 0, .int (w_10 - 1)]) (s7_readNumber 0 (w_10 - 1) M) mm_hvI (by simp [Value.category]) (Nat.le_of_ble_eq_true rfl) q7_readNumber rfl (by decide) rfl rfl ⟨by decide, by decide⟩ w_ml_X7_98 w_im_X7_readNumber w_se_X7_readNumber rfl (Nat.le_of_ble_eq_true rfl) dX7_readCharge_10 ?_
  rintro ⟨r_11, M⟩
  show Snd injI j7_readCharge mm_X0 13 [some (.ref 46), none, none] [.int r_11] M _
  refine sn_if_ne (j := j7_readCharge) (pc := 13) 18 rfl dX7_readCharge_13 ?_ ?_
  · refine sn_aload_n (j := j7_readCharge) (pc := 18) rfl rfl dX7_readCharge_18 ?_
    refine g_X7_92 (j := j7_readCharge) (pc := 19) rfl dX7_readCharge_19 ?_
    refine Snd.bI (fun v_12 => ?_)
    refine sn_istore_n (j := j7_readCharge) (pc := 22) rfl (by decide) (lo' := [some (.ref 46), some (.int v_12), none]) rfl dX7_readCharge_22 ?_
    refine sn_iconst (j := j7_readCharge) (pc := 23) 0 rfl dX7_readCharge_23 ?_
    refine sn_istore_n (j := j7_readCharge) (pc := 24) rfl (by decide) (lo' := [some (.ref 46), some (.int v_12), some (.int 0)]) rfl dX7_readCharge_24 ?_
    exact Snd.wk (sl7_readCharge_25 FU v_12 0 M) (by simp [mm_le])
  · refine sn_iconst (j := j7_readCharge) (pc := 16) 0 rfl dX7_readCharge_16 ?_
    exact sn_zret (j := j7_readCharge) (pc := 17) rfl dX7_readCharge_17

abbrev j7_readStatement : mm_J := (yX7_readStatement, cX7_readStatement, 4, (some .boolean), 6)
theorem dX7_readStatement_0 : decode cX7_readStatement 0 = .ok (.aload_n 0, 1) := by decide +kernel
theorem dX7_readStatement_1 : decode cX7_readStatement 1 = .ok (.invokevirtual 77, 3) := by decide +kernel
theorem dX7_readStatement_4 : decode cX7_readStatement 4 = .ok (.bipush 97, 2) := by decide +kernel
theorem dX7_readStatement_6 : decode cX7_readStatement 6 = .ok (.bipush 122, 2) := by decide +kernel
theorem dX7_readStatement_8 : decode cX7_readStatement 8 = .ok (.invokestatic 60, 3) := by decide +kernel
theorem dX7_readStatement_11 : decode cX7_readStatement 11 = .ok (.ifCond .ne 13, 3) := by decide +kernel
theorem dX7_readStatement_14 : decode cX7_readStatement 14 = .ok (.aload_n 0, 1) := by decide +kernel
theorem dX7_readStatement_15 : decode cX7_readStatement 15 = .ok (.iconst 1, 1) := by decide +kernel
theorem dX7_readStatement_16 : decode cX7_readStatement 16 = .ok (.aload_n 0, 1) := by decide +kernel
theorem dX7_readStatement_17 : decode cX7_readStatement 17 = .ok (.getfield 71, 3) := by decide +kernel
theorem dX7_readStatement_20 : decode cX7_readStatement 20 = .ok (.invokevirtual 85, 3) := by decide +kernel
theorem dX7_readStatement_23 : decode cX7_readStatement 23 = .ok (.ireturn, 1) := by decide +kernel
theorem dX7_readStatement_24 : decode cX7_readStatement 24 = .ok (.aload_n 0, 1) := by decide +kernel
theorem dX7_readStatement_25 : decode cX7_readStatement 25 = .ok (.invokevirtual 113, 3) := by decide +kernel
theorem dX7_readStatement_28 : decode cX7_readStatement 28 = .ok (.lstore_n 1, 1) := by decide +kernel
theorem dX7_readStatement_29 : decode cX7_readStatement 29 = .ok (.aload_n 0, 1) := by decide +kernel
theorem dX7_readStatement_30 : decode cX7_readStatement 30 = .ok (.getfield 89, 3) := by decide +kernel
theorem dX7_readStatement_33 : decode cX7_readStatement 33 = .ok (.istore_n 3, 1) := by decide +kernel
theorem dX7_readStatement_34 : decode cX7_readStatement 34 = .ok (.lload_n 1, 1) := by decide +kernel
theorem dX7_readStatement_35 : decode cX7_readStatement 35 = .ok (.ldc2_w 117, 3) := by decide +kernel
theorem dX7_readStatement_38 : decode cX7_readStatement 38 = .ok (.lcmp, 1) := by decide +kernel
theorem dX7_readStatement_39 : decode cX7_readStatement 39 = .ok (.ifCond .ne 8, 3) := by decide +kernel
theorem dX7_readStatement_42 : decode cX7_readStatement 42 = .ok (.aload_n 0, 1) := by decide +kernel
theorem dX7_readStatement_43 : decode cX7_readStatement 43 = .ok (.invokevirtual 119, 3) := by decide +kernel
theorem dX7_readStatement_46 : decode cX7_readStatement 46 = .ok (.ireturn, 1) := by decide +kernel
theorem dX7_readStatement_47 : decode cX7_readStatement 47 = .ok (.lload_n 1, 1) := by decide +kernel
theorem dX7_readStatement_48 : decode cX7_readStatement 48 = .ok (.ldc2_w 122, 3) := by decide +kernel
theorem dX7_readStatement_51 : decode cX7_readStatement 51 = .ok (.lcmp, 1) := by decide +kernel
theorem dX7_readStatement_52 : decode cX7_readStatement 52 = .ok (.ifCond .ne 8, 3) := by decide +kernel
theorem dX7_readStatement_55 : decode cX7_readStatement 55 = .ok (.aload_n 0, 1) := by decide +kernel
theorem dX7_readStatement_56 : decode cX7_readStatement 56 = .ok (.invokevirtual 124, 3) := by decide +kernel
theorem dX7_readStatement_59 : decode cX7_readStatement 59 = .ok (.ireturn, 1) := by decide +kernel
theorem dX7_readStatement_60 : decode cX7_readStatement 60 = .ok (.lload_n 1, 1) := by decide +kernel
theorem dX7_readStatement_61 : decode cX7_readStatement 61 = .ok (.ldc2_w 127, 3) := by decide +kernel
theorem dX7_readStatement_64 : decode cX7_readStatement 64 = .ok (.lcmp, 1) := by decide +kernel
theorem dX7_readStatement_65 : decode cX7_readStatement 65 = .ok (.ifCond .ne 11, 3) := by decide +kernel
theorem dX7_readStatement_68 : decode cX7_readStatement 68 = .ok (.aload_n 0, 1) := by decide +kernel
theorem dX7_readStatement_69 : decode cX7_readStatement 69 = .ok (.iconst 3, 1) := by decide +kernel
theorem dX7_readStatement_70 : decode cX7_readStatement 70 = .ok (.iconst 1, 1) := by decide +kernel
theorem dX7_readStatement_71 : decode cX7_readStatement 71 = .ok (.iconst 4, 1) := by decide +kernel
theorem dX7_readStatement_72 : decode cX7_readStatement 72 = .ok (.invokevirtual 107, 3) := by decide +kernel
theorem dX7_readStatement_75 : decode cX7_readStatement 75 = .ok (.ireturn, 1) := by decide +kernel
theorem dX7_readStatement_76 : decode cX7_readStatement 76 = .ok (.lload_n 1, 1) := by decide +kernel
theorem dX7_readStatement_77 : decode cX7_readStatement 77 = .ok (.ldc2_w 129, 3) := by decide +kernel
theorem dX7_readStatement_80 : decode cX7_readStatement 80 = .ok (.lcmp, 1) := by decide +kernel
theorem dX7_readStatement_81 : decode cX7_readStatement 81 = .ok (.ifCond .ne 12, 3) := by decide +kernel
theorem dX7_readStatement_84 : decode cX7_readStatement 84 = .ok (.aload_n 0, 1) := by decide +kernel
theorem dX7_readStatement_85 : decode cX7_readStatement 85 = .ok (.iconst 4, 1) := by decide +kernel
theorem dX7_readStatement_86 : decode cX7_readStatement 86 = .ok (.iconst 1, 1) := by decide +kernel
theorem dX7_readStatement_87 : decode cX7_readStatement 87 = .ok (.bipush 50, 2) := by decide +kernel
theorem dX7_readStatement_89 : decode cX7_readStatement 89 = .ok (.invokevirtual 107, 3) := by decide +kernel
theorem dX7_readStatement_92 : decode cX7_readStatement 92 = .ok (.ireturn, 1) := by decide +kernel
theorem dX7_readStatement_93 : decode cX7_readStatement 93 = .ok (.lload_n 1, 1) := by decide +kernel
theorem dX7_readStatement_94 : decode cX7_readStatement 94 = .ok (.ldc2_w 131, 3) := by decide +kernel
theorem dX7_readStatement_97 : decode cX7_readStatement 97 = .ok (.lcmp, 1) := by decide +kernel
theorem dX7_readStatement_98 : decode cX7_readStatement 98 = .ok (.ifCond .ne 13, 3) := by decide +kernel
theorem dX7_readStatement_101 : decode cX7_readStatement 101 = .ok (.aload_n 0, 1) := by decide +kernel
theorem dX7_readStatement_102 : decode cX7_readStatement 102 = .ok (.iconst 5, 1) := by decide +kernel
theorem dX7_readStatement_103 : decode cX7_readStatement 103 = .ok (.iconst 1, 1) := by decide +kernel
theorem dX7_readStatement_104 : decode cX7_readStatement 104 = .ok (.sipush 200, 3) := by decide +kernel
theorem dX7_readStatement_107 : decode cX7_readStatement 107 = .ok (.invokevirtual 107, 3) := by decide +kernel
theorem dX7_readStatement_110 : decode cX7_readStatement 110 = .ok (.ireturn, 1) := by decide +kernel
theorem dX7_readStatement_111 : decode cX7_readStatement 111 = .ok (.lload_n 1, 1) := by decide +kernel
theorem dX7_readStatement_112 : decode cX7_readStatement 112 = .ok (.ldc2_w 133, 3) := by decide +kernel
theorem dX7_readStatement_115 : decode cX7_readStatement 115 = .ok (.lcmp, 1) := by decide +kernel
theorem dX7_readStatement_116 : decode cX7_readStatement 116 = .ok (.ifCond .ne 9, 3) := by decide +kernel
theorem dX7_readStatement_119 : decode cX7_readStatement 119 = .ok (.aload_n 0, 1) := by decide +kernel
theorem dX7_readStatement_120 : decode cX7_readStatement 120 = .ok (.iload_n 3, 1) := by decide +kernel
theorem dX7_readStatement_121 : decode cX7_readStatement 121 = .ok (.invokevirtual 135, 3) := by decide +kernel
theorem dX7_readStatement_124 : decode cX7_readStatement 124 = .ok (.ireturn, 1) := by decide +kernel
theorem dX7_readStatement_125 : decode cX7_readStatement 125 = .ok (.lload_n 1, 1) := by decide +kernel
theorem dX7_readStatement_126 : decode cX7_readStatement 126 = .ok (.ldc2_w 139, 3) := by decide +kernel
theorem dX7_readStatement_129 : decode cX7_readStatement 129 = .ok (.lcmp, 1) := by decide +kernel
theorem dX7_readStatement_130 : decode cX7_readStatement 130 = .ok (.ifCond .ne 9, 3) := by decide +kernel
theorem dX7_readStatement_133 : decode cX7_readStatement 133 = .ok (.aload_n 0, 1) := by decide +kernel
theorem dX7_readStatement_134 : decode cX7_readStatement 134 = .ok (.iload_n 3, 1) := by decide +kernel
theorem dX7_readStatement_135 : decode cX7_readStatement 135 = .ok (.invokevirtual 141, 3) := by decide +kernel
theorem dX7_readStatement_138 : decode cX7_readStatement 138 = .ok (.ireturn, 1) := by decide +kernel
theorem dX7_readStatement_139 : decode cX7_readStatement 139 = .ok (.lload_n 1, 1) := by decide +kernel
theorem dX7_readStatement_140 : decode cX7_readStatement 140 = .ok (.ldc2_w 144, 3) := by decide +kernel
theorem dX7_readStatement_143 : decode cX7_readStatement 143 = .ok (.lcmp, 1) := by decide +kernel
theorem dX7_readStatement_144 : decode cX7_readStatement 144 = .ok (.ifCond .ne 10, 3) := by decide +kernel
theorem dX7_readStatement_147 : decode cX7_readStatement 147 = .ok (.aload_n 0, 1) := by decide +kernel
theorem dX7_readStatement_148 : decode cX7_readStatement 148 = .ok (.invokevirtual 146, 3) := by decide +kernel
theorem dX7_readStatement_151 : decode cX7_readStatement 151 = .ok (.goto 9, 3) := by decide +kernel
theorem dX7_readStatement_154 : decode cX7_readStatement 154 = .ok (.aload_n 0, 1) := by decide +kernel
theorem dX7_readStatement_155 : decode cX7_readStatement 155 = .ok (.iconst 1, 1) := by decide +kernel
theorem dX7_readStatement_156 : decode cX7_readStatement 156 = .ok (.iload_n 3, 1) := by decide +kernel
theorem dX7_readStatement_157 : decode cX7_readStatement 157 = .ok (.invokevirtual 85, 3) := by decide +kernel
theorem dX7_readStatement_160 : decode cX7_readStatement 160 = .ok (.ireturn, 1) := by decide +kernel
def l7_readStatement_160  (s0 : Int32) (M : mm_M) : Option (Int32 × mm_M) :=
  rZ s0 M
set_option maxHeartbeats 2000000 in
theorem sl7_readStatement_160   (s0 : Int32)  (M : mm_M) : Snd injI j7_readStatement mm_X0 160 [none, none, none, none] [.int s0] M (l7_readStatement_160  s0 M) := by
  unfold l7_readStatement_160
  exact sn_zret (j := j7_readStatement) (pc := 160) rfl dX7_readStatement_160
def f7_readStatement  (M : mm_M) : Option (Int32 × mm_M) :=
  cI (f7_here M) (fun r_1 M => cI (f7_in r_1 97 122 M) (fun r_2 M => if r_2 = 0 then (bI (mI M 46 6) (fun v_14 => cI (f7_fails 1 v_14 M) (fun r_15 M => rZ r_15 M))) else (cL (f7_readWord M) (fun r_3 M => bI (mI M 46 9) (fun v_4 => if (lg_cmp r_3 10345069) = 0 then (cI (f7_readSlots M) (fun r_13 M => rZ r_13 M)) else (if (lg_cmp r_3 8863997) = 0 then (cI (f7_readPrice M) (fun r_12 M => rZ r_12 M)) else (if (lg_cmp r_3 8754769) = 0 then (cI (f7_reads 3 1 4 M) (fun r_11 M => rZ r_11 M)) else (if (lg_cmp r_3 8815221) = 0 then (cI (f7_reads 4 1 50 M) (fun r_10 M => rZ r_10 M)) else (if (lg_cmp r_3 6564179) = 0 then (cI (f7_reads 5 1 200 M) (fun r_9 M => rZ r_9 M)) else (if (lg_cmp r_3 2021387) = 0 then (cI (f7_readCurve v_4 M) (fun r_8 M => rZ r_8 M)) else (if (lg_cmp r_3 2044) = 0 then (cI (f7_readBus v_4 M) (fun r_7 M => rZ r_7 M)) else (if (lg_cmp r_3 47331248) = 0 then (cI (f7_readCharge M) (fun r_6 M => l7_readStatement_160 r_6 M)) else (cI (f7_fails 1 v_4 M) (fun r_5 M => l7_readStatement_160 r_5 M))))))))))))))
set_option maxHeartbeats 2000000 in
theorem s7_readStatement  (M : mm_M) : Snd injI j7_readStatement mm_X0 0 [some (.ref 46)] [] M (f7_readStatement  M) := by
  refine Snd.wk (lo' := [some (.ref 46), none, none, none]) ?_ (by simp [mm_le])
  unfold f7_readStatement
  refine sn_aload_n (j := j7_readStatement) (pc := 0) rfl rfl dX7_readStatement_0 ?_
  refine sn_callV (j := j7_readStatement) (pc := 1) (jc := j7_here) (As := []) (s7_here M) mm_hvI (by simp [Value.category]) (Nat.le_of_ble_eq_true rfl) q7_here rfl (by decide) rfl rfl ⟨by decide, by decide⟩ w_ml_X7_77 w_im_X7_here w_se_X7_here rfl (Nat.le_of_ble_eq_true rfl) dX7_readStatement_1 ?_
  rintro ⟨r_1, M⟩
  show Snd injI j7_readStatement mm_X0 4 [some (.ref 46), none, none, none] [.int r_1] M _
  refine sn_bipush (j := j7_readStatement) (pc := 4) 97 rfl dX7_readStatement_4 ?_
  refine sn_bipush (j := j7_readStatement) (pc := 6) 122 rfl dX7_readStatement_6 ?_
  refine sn_callS (j := j7_readStatement) (pc := 8) (jc := j7_in) (As := [.int r_1, .int 97, .int 122]) (s7_in r_1 97 122 M) mm_hvI (by simp [Value.category]) (Nat.le_of_ble_eq_true rfl) q7_in rfl (by decide) w_ml_X7_60 w_st_X7_in rfl (Nat.le_of_ble_eq_true rfl) dX7_readStatement_8 ?_
  rintro ⟨r_2, M⟩
  show Snd injI j7_readStatement mm_X0 11 [some (.ref 46), none, none, none] [.int r_2] M _
  refine sn_if_ne (j := j7_readStatement) (pc := 11) 24 rfl dX7_readStatement_11 ?_ ?_
  · refine sn_aload_n (j := j7_readStatement) (pc := 24) rfl rfl dX7_readStatement_24 ?_
    refine sn_callV (j := j7_readStatement) (pc := 25) (jc := j7_readWord) (As := []) (s7_readWord M) mm_hvL (by simp [Value.category]) (Nat.le_of_ble_eq_true rfl) q7_readWord rfl (by decide) rfl rfl ⟨by decide, by decide⟩ w_ml_X7_113 w_im_X7_readWord w_se_X7_readWord rfl (Nat.le_of_ble_eq_true rfl) dX7_readStatement_25 ?_
    rintro ⟨r_3, M⟩
    show Snd injI j7_readStatement mm_X0 28 [some (.ref 46), none, none, none] [.long r_3] M _
    refine sn_lstore_n (j := j7_readStatement) (pc := 28) rfl (by decide) (lo' := [some (.ref 46), some (.long r_3), none, none]) rfl dX7_readStatement_28 ?_
    refine sn_aload_n (j := j7_readStatement) (pc := 29) rfl rfl dX7_readStatement_29 ?_
    refine g_X7_89 (j := j7_readStatement) (pc := 30) rfl dX7_readStatement_30 ?_
    refine Snd.bI (fun v_4 => ?_)
    refine sn_istore_n (j := j7_readStatement) (pc := 33) rfl (by decide) (lo' := [some (.ref 46), some (.long r_3), none, some (.int v_4)]) rfl dX7_readStatement_33 ?_
    refine sn_lload_n (j := j7_readStatement) (pc := 34) rfl rfl dX7_readStatement_34 ?_
    refine sn_ldc2 (j := j7_readStatement) (pc := 35) w_cl_X7_117 dX7_readStatement_35 ?_
    refine sn_lcmp (j := j7_readStatement) (pc := 38) dX7_readStatement_38 ?_
    refine sn_if_ne (j := j7_readStatement) (pc := 39) 47 rfl dX7_readStatement_39 ?_ ?_
    · refine sn_lload_n (j := j7_readStatement) (pc := 47) rfl rfl dX7_readStatement_47 ?_
      refine sn_ldc2 (j := j7_readStatement) (pc := 48) w_cl_X7_122 dX7_readStatement_48 ?_
      refine sn_lcmp (j := j7_readStatement) (pc := 51) dX7_readStatement_51 ?_
      refine sn_if_ne (j := j7_readStatement) (pc := 52) 60 rfl dX7_readStatement_52 ?_ ?_
      · refine sn_lload_n (j := j7_readStatement) (pc := 60) rfl rfl dX7_readStatement_60 ?_
        refine sn_ldc2 (j := j7_readStatement) (pc := 61) w_cl_X7_127 dX7_readStatement_61 ?_
        refine sn_lcmp (j := j7_readStatement) (pc := 64) dX7_readStatement_64 ?_
        refine sn_if_ne (j := j7_readStatement) (pc := 65) 76 rfl dX7_readStatement_65 ?_ ?_
        · refine sn_lload_n (j := j7_readStatement) (pc := 76) rfl rfl dX7_readStatement_76 ?_
          refine sn_ldc2 (j := j7_readStatement) (pc := 77) w_cl_X7_129 dX7_readStatement_77 ?_
          refine sn_lcmp (j := j7_readStatement) (pc := 80) dX7_readStatement_80 ?_
          refine sn_if_ne (j := j7_readStatement) (pc := 81) 93 rfl dX7_readStatement_81 ?_ ?_
          · refine sn_lload_n (j := j7_readStatement) (pc := 93) rfl rfl dX7_readStatement_93 ?_
            refine sn_ldc2 (j := j7_readStatement) (pc := 94) w_cl_X7_131 dX7_readStatement_94 ?_
            refine sn_lcmp (j := j7_readStatement) (pc := 97) dX7_readStatement_97 ?_
            refine sn_if_ne (j := j7_readStatement) (pc := 98) 111 rfl dX7_readStatement_98 ?_ ?_
            · refine sn_lload_n (j := j7_readStatement) (pc := 111) rfl rfl dX7_readStatement_111 ?_
              refine sn_ldc2 (j := j7_readStatement) (pc := 112) w_cl_X7_133 dX7_readStatement_112 ?_
              refine sn_lcmp (j := j7_readStatement) (pc := 115) dX7_readStatement_115 ?_
              refine sn_if_ne (j := j7_readStatement) (pc := 116) 125 rfl dX7_readStatement_116 ?_ ?_
              · refine sn_lload_n (j := j7_readStatement) (pc := 125) rfl rfl dX7_readStatement_125 ?_
                refine sn_ldc2 (j := j7_readStatement) (pc := 126) w_cl_X7_139 dX7_readStatement_126 ?_
                refine sn_lcmp (j := j7_readStatement) (pc := 129) dX7_readStatement_129 ?_
                refine sn_if_ne (j := j7_readStatement) (pc := 130) 139 rfl dX7_readStatement_130 ?_ ?_
                · refine sn_lload_n (j := j7_readStatement) (pc := 139) rfl rfl dX7_readStatement_139 ?_
                  refine sn_ldc2 (j := j7_readStatement) (pc := 140) w_cl_X7_144 dX7_readStatement_140 ?_
                  refine sn_lcmp (j := j7_readStatement) (pc := 143) dX7_readStatement_143 ?_
                  refine sn_if_ne (j := j7_readStatement) (pc := 144) 154 rfl dX7_readStatement_144 ?_ ?_
                  · refine sn_aload_n (j := j7_readStatement) (pc := 154) rfl rfl dX7_readStatement_154 ?_
                    refine sn_iconst (j := j7_readStatement) (pc := 155) 1 rfl dX7_readStatement_155 ?_
                    refine sn_iload_n (j := j7_readStatement) (pc := 156) rfl rfl dX7_readStatement_156 ?_
                    refine sn_callV (j := j7_readStatement) (pc := 157) (jc := j7_fails) (As := [.int 1, .int v_4]) (s7_fails 1 v_4 M) mm_hvI (by simp [Value.category]) (Nat.le_of_ble_eq_true rfl) q7_fails rfl (by decide) rfl rfl ⟨by decide, by decide⟩ w_ml_X7_85 w_im_X7_fails w_se_X7_fails rfl (Nat.le_of_ble_eq_true rfl) dX7_readStatement_157 ?_
                    rintro ⟨r_5, M⟩
                    show Snd injI j7_readStatement mm_X0 160 [some (.ref 46), some (.long r_3), none, some (.int v_4)] [.int r_5] M _
                    exact Snd.wk (sl7_readStatement_160 r_5 M) (by simp [mm_le])
                  · refine sn_aload_n (j := j7_readStatement) (pc := 147) rfl rfl dX7_readStatement_147 ?_
                    refine sn_callV (j := j7_readStatement) (pc := 148) (jc := j7_readCharge) (As := []) (s7_readCharge M) mm_hvI (by simp [Value.category]) (Nat.le_of_ble_eq_true rfl) q7_readCharge rfl (by decide) rfl rfl ⟨by decide, by decide⟩ w_ml_X7_146 w_im_X7_readCharge w_se_X7_readCharge rfl (Nat.le_of_ble_eq_true rfl) dX7_readStatement_148 ?_
                    rintro ⟨r_6, M⟩
                    show Snd injI j7_readStatement mm_X0 151 [some (.ref 46), some (.long r_3), none, some (.int v_4)] [.int r_6] M _
                    refine sn_goto (j := j7_readStatement) (pc := 151) 160 rfl dX7_readStatement_151 ?_
                    exact Snd.wk (sl7_readStatement_160 r_6 M) (by simp [mm_le])
                · refine sn_aload_n (j := j7_readStatement) (pc := 133) rfl rfl dX7_readStatement_133 ?_
                  refine sn_iload_n (j := j7_readStatement) (pc := 134) rfl rfl dX7_readStatement_134 ?_
                  refine sn_callV (j := j7_readStatement) (pc := 135) (jc := j7_readBus) (As := [.int v_4]) (s7_readBus v_4 M) mm_hvI (by simp [Value.category]) (Nat.le_of_ble_eq_true rfl) q7_readBus rfl (by decide) rfl rfl ⟨by decide, by decide⟩ w_ml_X7_141 w_im_X7_readBus w_se_X7_readBus rfl (Nat.le_of_ble_eq_true rfl) dX7_readStatement_135 ?_
                  rintro ⟨r_7, M⟩
                  show Snd injI j7_readStatement mm_X0 138 [some (.ref 46), some (.long r_3), none, some (.int v_4)] [.int r_7] M _
                  exact sn_zret (j := j7_readStatement) (pc := 138) rfl dX7_readStatement_138
              · refine sn_aload_n (j := j7_readStatement) (pc := 119) rfl rfl dX7_readStatement_119 ?_
                refine sn_iload_n (j := j7_readStatement) (pc := 120) rfl rfl dX7_readStatement_120 ?_
                refine sn_callV (j := j7_readStatement) (pc := 121) (jc := j7_readCurve) (As := [.int v_4]) (s7_readCurve v_4 M) mm_hvI (by simp [Value.category]) (Nat.le_of_ble_eq_true rfl) q7_readCurve rfl (by decide) rfl rfl ⟨by decide, by decide⟩ w_ml_X7_135 w_im_X7_readCurve w_se_X7_readCurve rfl (Nat.le_of_ble_eq_true rfl) dX7_readStatement_121 ?_
                rintro ⟨r_8, M⟩
                show Snd injI j7_readStatement mm_X0 124 [some (.ref 46), some (.long r_3), none, some (.int v_4)] [.int r_8] M _
                exact sn_zret (j := j7_readStatement) (pc := 124) rfl dX7_readStatement_124
            · refine sn_aload_n (j := j7_readStatement) (pc := 101) rfl rfl dX7_readStatement_101 ?_
              refine sn_iconst (j := j7_readStatement) (pc := 102) 5 rfl dX7_readStatement_102 ?_
              refine sn_iconst (j := j7_readStatement) (pc := 103) 1 rfl dX7_readStatement_103 ?_
              refine sn_sipush (j := j7_readStatement) (pc := 104) 200 rfl dX7_readStatement_104 ?_
              refine sn_callV (j := j7_readStatement) (pc := 107) (jc := j7_reads) (As := [.int 5, .int 1, .int 200]) (s7_reads 5 1 200 M) mm_hvI (by simp [Value.category]) (Nat.le_of_ble_eq_true rfl) q7_reads rfl (by decide) rfl rfl ⟨by decide, by decide⟩ w_ml_X7_107 w_im_X7_reads w_se_X7_reads rfl (Nat.le_of_ble_eq_true rfl) dX7_readStatement_107 ?_
              rintro ⟨r_9, M⟩
              show Snd injI j7_readStatement mm_X0 110 [some (.ref 46), some (.long r_3), none, some (.int v_4)] [.int r_9] M _
              exact sn_zret (j := j7_readStatement) (pc := 110) rfl dX7_readStatement_110
          · refine sn_aload_n (j := j7_readStatement) (pc := 84) rfl rfl dX7_readStatement_84 ?_
            refine sn_iconst (j := j7_readStatement) (pc := 85) 4 rfl dX7_readStatement_85 ?_
            refine sn_iconst (j := j7_readStatement) (pc := 86) 1 rfl dX7_readStatement_86 ?_
            refine sn_bipush (j := j7_readStatement) (pc := 87) 50 rfl dX7_readStatement_87 ?_
            refine sn_callV (j := j7_readStatement) (pc := 89) (jc := j7_reads) (As := [.int 4, .int 1, .int 50]) (s7_reads 4 1 50 M) mm_hvI (by simp [Value.category]) (Nat.le_of_ble_eq_true rfl) q7_reads rfl (by decide) rfl rfl ⟨by decide, by decide⟩ w_ml_X7_107 w_im_X7_reads w_se_X7_reads rfl (Nat.le_of_ble_eq_true rfl) dX7_readStatement_89 ?_
            rintro ⟨r_10, M⟩
            show Snd injI j7_readStatement mm_X0 92 [some (.ref 46), some (.long r_3), none, some (.int v_4)] [.int r_10] M _
            exact sn_zret (j := j7_readStatement) (pc := 92) rfl dX7_readStatement_92
        · refine sn_aload_n (j := j7_readStatement) (pc := 68) rfl rfl dX7_readStatement_68 ?_
          refine sn_iconst (j := j7_readStatement) (pc := 69) 3 rfl dX7_readStatement_69 ?_
          refine sn_iconst (j := j7_readStatement) (pc := 70) 1 rfl dX7_readStatement_70 ?_
          refine sn_iconst (j := j7_readStatement) (pc := 71) 4 rfl dX7_readStatement_71 ?_
          refine sn_callV (j := j7_readStatement) (pc := 72) (jc := j7_reads) (As := [.int 3, .int 1, .int 4]) (s7_reads 3 1 4 M) mm_hvI (by simp [Value.category]) (Nat.le_of_ble_eq_true rfl) q7_reads rfl (by decide) rfl rfl ⟨by decide, by decide⟩ w_ml_X7_107 w_im_X7_reads w_se_X7_reads rfl (Nat.le_of_ble_eq_true rfl) dX7_readStatement_72 ?_
          rintro ⟨r_11, M⟩
          show Snd injI j7_readStatement mm_X0 75 [some (.ref 46), some (.long r_3), none, some (.int v_4)] [.int r_11] M _
          exact sn_zret (j := j7_readStatement) (pc := 75) rfl dX7_readStatement_75
      · refine sn_aload_n (j := j7_readStatement) (pc := 55) rfl rfl dX7_readStatement_55 ?_
        refine sn_callV (j := j7_readStatement) (pc := 56) (jc := j7_readPrice) (As := []) (s7_readPrice M) mm_hvI (by simp [Value.category]) (Nat.le_of_ble_eq_true rfl) q7_readPrice rfl (by decide) rfl rfl ⟨by decide, by decide⟩ w_ml_X7_124 w_im_X7_readPrice w_se_X7_readPrice rfl (Nat.le_of_ble_eq_true rfl) dX7_readStatement_56 ?_
        rintro ⟨r_12, M⟩
        show Snd injI j7_readStatement mm_X0 59 [some (.ref 46), some (.long r_3), none, some (.int v_4)] [.int r_12] M _
        exact sn_zret (j := j7_readStatement) (pc := 59) rfl dX7_readStatement_59
    · refine sn_aload_n (j := j7_readStatement) (pc := 42) rfl rfl dX7_readStatement_42 ?_
      refine sn_callV (j := j7_readStatement) (pc := 43) (jc := j7_readSlots) (As := []) (s7_readSlots M) mm_hvI (by simp [Value.category]) (Nat.le_of_ble_eq_true rfl) q7_readSlots rfl (by decide) rfl rfl ⟨by decide, by decide⟩ w_ml_X7_119 w_im_X7_readSlots w_se_X7_readSlots rfl (Nat.le_of_ble_eq_true rfl) dX7_readStatement_43 ?_
      rintro ⟨r_13, M⟩
      show Snd injI j7_readStatement mm_X0 46 [some (.ref 46), some (.long r_3), none, some (.int v_4)] [.int r_13] M _
      exact sn_zret (j := j7_readStatement) (pc := 46) rfl dX7_readStatement_46
  · refine sn_aload_n (j := j7_readStatement) (pc := 14) rfl rfl dX7_readStatement_14 ?_
    refine sn_iconst (j := j7_readStatement) (pc := 15) 1 rfl dX7_readStatement_15 ?_
    refine sn_aload_n (j := j7_readStatement) (pc := 16) rfl rfl dX7_readStatement_16 ?_
    refine g_X7_71 (j := j7_readStatement) (pc := 17) rfl dX7_readStatement_17 ?_
    refine Snd.bI (fun v_14 => ?_)
    refine sn_callV (j := j7_readStatement) (pc := 20) (jc := j7_fails) (As := [.int 1, .int v_14]) (s7_fails 1 v_14 M) mm_hvI (by simp [Value.category]) (Nat.le_of_ble_eq_true rfl) q7_fails rfl (by decide) rfl rfl ⟨by decide, by decide⟩ w_ml_X7_85 w_im_X7_fails w_se_X7_fails rfl (Nat.le_of_ble_eq_true rfl) dX7_readStatement_20 ?_
    rintro ⟨r_15, M⟩
    show Snd injI j7_readStatement mm_X0 23 [some (.ref 46), none, none, none] [.int r_15] M _
    exact sn_zret (j := j7_readStatement) (pc := 23) rfl dX7_readStatement_23

abbrev j7_readText : mm_J := (yX7_readText, cX7_readText, 1, (some .boolean), 7)
theorem dX7_readText_0 : decode cX7_readText 0 = .ok (.aload_n 0, 1) := by decide +kernel
theorem dX7_readText_1 : decode cX7_readText 1 = .ok (.iconst 0, 1) := by decide +kernel
theorem dX7_readText_2 : decode cX7_readText 2 = .ok (.putfield 149, 3) := by decide +kernel
theorem dX7_readText_5 : decode cX7_readText 5 = .ok (.aload_n 0, 1) := by decide +kernel
theorem dX7_readText_6 : decode cX7_readText 6 = .ok (.iconst 0, 1) := by decide +kernel
theorem dX7_readText_7 : decode cX7_readText 7 = .ok (.putfield 71, 3) := by decide +kernel
theorem dX7_readText_10 : decode cX7_readText 10 = .ok (.aload_n 0, 1) := by decide +kernel
theorem dX7_readText_11 : decode cX7_readText 11 = .ok (.iconst 0, 1) := by decide +kernel
theorem dX7_readText_12 : decode cX7_readText 12 = .ok (.putfield 74, 3) := by decide +kernel
theorem dX7_readText_15 : decode cX7_readText 15 = .ok (.aload_n 0, 1) := by decide +kernel
theorem dX7_readText_16 : decode cX7_readText 16 = .ok (.invokevirtual 77, 3) := by decide +kernel
theorem dX7_readText_19 : decode cX7_readText 19 = .ok (.iconst (-1), 1) := by decide +kernel
theorem dX7_readText_20 : decode cX7_readText 20 = .ok (.if_icmp .eq 54, 3) := by decide +kernel
theorem dX7_readText_23 : decode cX7_readText 23 = .ok (.aload_n 0, 1) := by decide +kernel
theorem dX7_readText_24 : decode cX7_readText 24 = .ok (.invokevirtual 152, 3) := by decide +kernel
theorem dX7_readText_27 : decode cX7_readText 27 = .ok (.ifCond .ne 5, 3) := by decide +kernel
theorem dX7_readText_30 : decode cX7_readText 30 = .ok (.iconst 0, 1) := by decide +kernel
theorem dX7_readText_31 : decode cX7_readText 31 = .ok (.ireturn, 1) := by decide +kernel
theorem dX7_readText_32 : decode cX7_readText 32 = .ok (.aload_n 0, 1) := by decide +kernel
theorem dX7_readText_33 : decode cX7_readText 33 = .ok (.invokevirtual 77, 3) := by decide +kernel
theorem dX7_readText_36 : decode cX7_readText 36 = .ok (.bipush 59, 2) := by decide +kernel
theorem dX7_readText_38 : decode cX7_readText 38 = .ok (.if_icmp .eq 13, 3) := by decide +kernel
theorem dX7_readText_41 : decode cX7_readText 41 = .ok (.aload_n 0, 1) := by decide +kernel
theorem dX7_readText_42 : decode cX7_readText 42 = .ok (.iconst 1, 1) := by decide +kernel
theorem dX7_readText_43 : decode cX7_readText 43 = .ok (.aload_n 0, 1) := by decide +kernel
theorem dX7_readText_44 : decode cX7_readText 44 = .ok (.getfield 71, 3) := by decide +kernel
theorem dX7_readText_47 : decode cX7_readText 47 = .ok (.invokevirtual 85, 3) := by decide +kernel
theorem dX7_readText_50 : decode cX7_readText 50 = .ok (.ireturn, 1) := by decide +kernel
theorem dX7_readText_51 : decode cX7_readText 51 = .ok (.aload_n 0, 1) := by decide +kernel
theorem dX7_readText_52 : decode cX7_readText 52 = .ok (.dup, 1) := by decide +kernel
theorem dX7_readText_53 : decode cX7_readText 53 = .ok (.getfield 71, 3) := by decide +kernel
theorem dX7_readText_56 : decode cX7_readText 56 = .ok (.iconst 1, 1) := by decide +kernel
theorem dX7_readText_57 : decode cX7_readText 57 = .ok (.iadd, 1) := by decide +kernel
theorem dX7_readText_58 : decode cX7_readText 58 = .ok (.putfield 71, 3) := by decide +kernel
theorem dX7_readText_61 : decode cX7_readText 61 = .ok (.aload_n 0, 1) := by decide +kernel
theorem dX7_readText_62 : decode cX7_readText 62 = .ok (.dup, 1) := by decide +kernel
theorem dX7_readText_63 : decode cX7_readText 63 = .ok (.getfield 149, 3) := by decide +kernel
theorem dX7_readText_66 : decode cX7_readText 66 = .ok (.iconst 1, 1) := by decide +kernel
theorem dX7_readText_67 : decode cX7_readText 67 = .ok (.iadd, 1) := by decide +kernel
theorem dX7_readText_68 : decode cX7_readText 68 = .ok (.putfield 149, 3) := by decide +kernel
theorem dX7_readText_71 : decode cX7_readText 71 = .ok (.goto (-56), 3) := by decide +kernel
theorem dX7_readText_74 : decode cX7_readText 74 = .ok (.iconst 1, 1) := by decide +kernel
theorem dX7_readText_75 : decode cX7_readText 75 = .ok (.ireturn, 1) := by decide +kernel
def b7_readText_15  (rec15 : mm_M → Option (Int32 × mm_M))  (M : mm_M) : Option (Int32 × mm_M) :=
  cI (f7_here M) (fun r_1 M => if r_1 = (-1) then (rZ 1 M) else (cI (f7_readStatement M) (fun r_2 M => if r_2 = 0 then (rZ 0 M) else (cI (f7_here M) (fun r_3 M => if r_3 = 59 then (bI (mI M 46 6) (fun v_4 => bM (sI M 46 6 (v_4 + 1)) (fun M => bI (mI M 46 10) (fun v_5 => bM (sI M 46 10 (v_5 + 1)) (fun M => rec15 M))))) else (bI (mI M 46 6) (fun v_6 => cI (f7_fails 1 v_6 M) (fun r_7 M => rZ r_7 M))))))))
set_option maxHeartbeats 2000000 in
theorem sb7_readText_15   (rec15 : mm_M → Option (Int32 × mm_M)) (hrec15 : ∀  (M : mm_M), Snd injI j7_readText mm_X0 15 [some (.ref 46)] [] M (rec15  M))   (M : mm_M) : Snd injI j7_readText mm_X0 15 [some (.ref 46)] [] M (b7_readText_15  rec15  M) := by
  unfold b7_readText_15
  refine sn_aload_n (j := j7_readText) (pc := 15) rfl rfl dX7_readText_15 ?_
  refine sn_callV (j := j7_readText) (pc := 16) (jc := j7_here) (As := []) (s7_here M) mm_hvI (by simp [Value.category]) (Nat.le_of_ble_eq_true rfl) q7_here rfl (by decide) rfl rfl ⟨by decide, by decide⟩ w_ml_X7_77 w_im_X7_here w_se_X7_here rfl (Nat.le_of_ble_eq_true rfl) dX7_readText_16 ?_
  rintro ⟨r_1, M⟩
  show Snd injI j7_readText mm_X0 19 [some (.ref 46)] [.int r_1] M _
  refine sn_iconst (j := j7_readText) (pc := 19) (-1) rfl dX7_readText_19 ?_
  refine sn_icmp_eq (j := j7_readText) (pc := 20) 74 rfl dX7_readText_20 ?_ ?_
  · refine sn_iconst (j := j7_readText) (pc := 74) 1 rfl dX7_readText_74 ?_
    exact sn_zret (j := j7_readText) (pc := 75) rfl dX7_readText_75
  · refine sn_aload_n (j := j7_readText) (pc := 23) rfl rfl dX7_readText_23 ?_
    refine sn_callV (j := j7_readText) (pc := 24) (jc := j7_readStatement) (As := []) (s7_readStatement M) mm_hvI (by simp [Value.category]) (Nat.le_of_ble_eq_true rfl) q7_readStatement rfl (by decide) rfl rfl ⟨by decide, by decide⟩ w_ml_X7_152 w_im_X7_readStatement w_se_X7_readStatement rfl (Nat.le_of_ble_eq_true rfl) dX7_readText_24 ?_
    rintro ⟨r_2, M⟩
    show Snd injI j7_readText mm_X0 27 [some (.ref 46)] [.int r_2] M _
    refine sn_if_ne (j := j7_readText) (pc := 27) 32 rfl dX7_readText_27 ?_ ?_
    · refine sn_aload_n (j := j7_readText) (pc := 32) rfl rfl dX7_readText_32 ?_
      refine sn_callV (j := j7_readText) (pc := 33) (jc := j7_here) (As := []) (s7_here M) mm_hvI (by simp [Value.category]) (Nat.le_of_ble_eq_true rfl) q7_here rfl (by decide) rfl rfl ⟨by decide, by decide⟩ w_ml_X7_77 w_im_X7_here w_se_X7_here rfl (Nat.le_of_ble_eq_true rfl) dX7_readText_33 ?_
      rintro ⟨r_3, M⟩
      show Snd injI j7_readText mm_X0 36 [some (.ref 46)] [.int r_3] M _
      refine sn_bipush (j := j7_readText) (pc := 36) 59 rfl dX7_readText_36 ?_
      refine sn_icmp_eq (j := j7_readText) (pc := 38) 51 rfl dX7_readText_38 ?_ ?_
      · refine sn_aload_n (j := j7_readText) (pc := 51) rfl rfl dX7_readText_51 ?_
        refine sn_dup (j := j7_readText) (pc := 52) rfl dX7_readText_52 ?_
        refine g_X7_71 (j := j7_readText) (pc := 53) rfl dX7_readText_53 ?_
        refine Snd.bI (fun v_4 => ?_)
        refine sn_iconst (j := j7_readText) (pc := 56) 1 rfl dX7_readText_56 ?_
        refine sn_iadd (j := j7_readText) (pc := 57) dX7_readText_57 ?_
        refine p_X7_71 (j := j7_readText) (pc := 58) rfl dX7_readText_58 (fun M => ?_)
        refine sn_aload_n (j := j7_readText) (pc := 61) rfl rfl dX7_readText_61 ?_
        refine sn_dup (j := j7_readText) (pc := 62) rfl dX7_readText_62 ?_
        refine g_X7_149 (j := j7_readText) (pc := 63) rfl dX7_readText_63 ?_
        refine Snd.bI (fun v_5 => ?_)
        refine sn_iconst (j := j7_readText) (pc := 66) 1 rfl dX7_readText_66 ?_
        refine sn_iadd (j := j7_readText) (pc := 67) dX7_readText_67 ?_
        refine p_X7_149 (j := j7_readText) (pc := 68) rfl dX7_readText_68 (fun M => ?_)
        refine sn_goto (j := j7_readText) (pc := 71) 15 rfl dX7_readText_71 ?_
        exact Snd.wk (hrec15 M ) (by simp [mm_le])
      · refine sn_aload_n (j := j7_readText) (pc := 41) rfl rfl dX7_readText_41 ?_
        refine sn_iconst (j := j7_readText) (pc := 42) 1 rfl dX7_readText_42 ?_
        refine sn_aload_n (j := j7_readText) (pc := 43) rfl rfl dX7_readText_43 ?_
        refine g_X7_71 (j := j7_readText) (pc := 44) rfl dX7_readText_44 ?_
        refine Snd.bI (fun v_6 => ?_)
        refine sn_callV (j := j7_readText) (pc := 47) (jc := j7_fails) (As := [.int 1, .int v_6]) (s7_fails 1 v_6 M) mm_hvI (by simp [Value.category]) (Nat.le_of_ble_eq_true rfl) q7_fails rfl (by decide) rfl rfl ⟨by decide, by decide⟩ w_ml_X7_85 w_im_X7_fails w_se_X7_fails rfl (Nat.le_of_ble_eq_true rfl) dX7_readText_47 ?_
        rintro ⟨r_7, M⟩
        show Snd injI j7_readText mm_X0 50 [some (.ref 46)] [.int r_7] M _
        exact sn_zret (j := j7_readText) (pc := 50) rfl dX7_readText_50
    · refine sn_iconst (j := j7_readText) (pc := 30) 0 rfl dX7_readText_30 ?_
      exact sn_zret (j := j7_readText) (pc := 31) rfl dX7_readText_31
def l7_readText_15  : Nat → mm_M → Option (Int32 × mm_M)
  | 0 => fun  _ => none
  | n + 1 => fun  M => b7_readText_15  (l7_readText_15  n)  M
theorem sl7_readText_15   : ∀ (n : Nat)   (M : mm_M), Snd injI j7_readText mm_X0 15 [some (.ref 46)] [] M (l7_readText_15  n  M)
  | 0 => fun   _ => Snd.none
  | n + 1 => fun   M => sb7_readText_15   (l7_readText_15  n) (fun  M  => sl7_readText_15   n   M)   M
def f7_readText  (M : mm_M) : Option (Int32 × mm_M) :=
  bM (sI M 46 10 0) (fun M => bM (sI M 46 6 0) (fun M => bM (sI M 46 7 0) (fun M => l7_readText_15 FU M)))
set_option maxHeartbeats 2000000 in
theorem s7_readText  (M : mm_M) : Snd injI j7_readText mm_X0 0 [some (.ref 46)] [] M (f7_readText  M) := by
  refine Snd.wk (lo' := [some (.ref 46)]) ?_ (by simp [mm_le])
  unfold f7_readText
  refine sn_aload_n (j := j7_readText) (pc := 0) rfl rfl dX7_readText_0 ?_
  refine sn_iconst (j := j7_readText) (pc := 1) 0 rfl dX7_readText_1 ?_
  refine p_X7_149 (j := j7_readText) (pc := 2) rfl dX7_readText_2 (fun M => ?_)
  refine sn_aload_n (j := j7_readText) (pc := 5) rfl rfl dX7_readText_5 ?_
  refine sn_iconst (j := j7_readText) (pc := 6) 0 rfl dX7_readText_6 ?_
  refine p_X7_71 (j := j7_readText) (pc := 7) rfl dX7_readText_7 (fun M => ?_)
  refine sn_aload_n (j := j7_readText) (pc := 10) rfl rfl dX7_readText_10 ?_
  refine sn_iconst (j := j7_readText) (pc := 11) 0 rfl dX7_readText_11 ?_
  refine p_X7_74 (j := j7_readText) (pc := 12) rfl dX7_readText_12 (fun M => ?_)
  exact Snd.wk (sl7_readText_15 FU M) (by simp [mm_le])

abbrev j7_copies : mm_J := (yX7_copies, cX7_copies, 3, none, 0)
theorem dX7_copies_0 : decode cX7_copies 0 = .ok (.iconst 0, 1) := by decide +kernel
theorem dX7_copies_1 : decode cX7_copies 1 = .ok (.istore_n 2, 1) := by decide +kernel
theorem dX7_copies_2 : decode cX7_copies 2 = .ok (.iload_n 2, 1) := by decide +kernel
theorem dX7_copies_3 : decode cX7_copies 3 = .ok (.bipush 82, 2) := by decide +kernel
theorem dX7_copies_5 : decode cX7_copies 5 = .ok (.if_icmp .ge 40, 3) := by decide +kernel
theorem dX7_copies_8 : decode cX7_copies 8 = .ok (.iload_n 1, 1) := by decide +kernel
theorem dX7_copies_9 : decode cX7_copies 9 = .ok (.ifCond .eq 18, 3) := by decide +kernel
theorem dX7_copies_12 : decode cX7_copies 12 = .ok (.aload_n 0, 1) := by decide +kernel
theorem dX7_copies_13 : decode cX7_copies 13 = .ok (.getfield 7, 3) := by decide +kernel
theorem dX7_copies_16 : decode cX7_copies 16 = .ok (.iload_n 2, 1) := by decide +kernel
theorem dX7_copies_17 : decode cX7_copies 17 = .ok (.aload_n 0, 1) := by decide +kernel
theorem dX7_copies_18 : decode cX7_copies 18 = .ok (.getfield 13, 3) := by decide +kernel
theorem dX7_copies_21 : decode cX7_copies 21 = .ok (.iload_n 2, 1) := by decide +kernel
theorem dX7_copies_22 : decode cX7_copies 22 = .ok (.iaload, 1) := by decide +kernel
theorem dX7_copies_23 : decode cX7_copies 23 = .ok (.iastore, 1) := by decide +kernel
theorem dX7_copies_24 : decode cX7_copies 24 = .ok (.goto 15, 3) := by decide +kernel
theorem dX7_copies_27 : decode cX7_copies 27 = .ok (.aload_n 0, 1) := by decide +kernel
theorem dX7_copies_28 : decode cX7_copies 28 = .ok (.getfield 13, 3) := by decide +kernel
theorem dX7_copies_31 : decode cX7_copies 31 = .ok (.iload_n 2, 1) := by decide +kernel
theorem dX7_copies_32 : decode cX7_copies 32 = .ok (.aload_n 0, 1) := by decide +kernel
theorem dX7_copies_33 : decode cX7_copies 33 = .ok (.getfield 7, 3) := by decide +kernel
theorem dX7_copies_36 : decode cX7_copies 36 = .ok (.iload_n 2, 1) := by decide +kernel
theorem dX7_copies_37 : decode cX7_copies 37 = .ok (.iaload, 1) := by decide +kernel
theorem dX7_copies_38 : decode cX7_copies 38 = .ok (.iastore, 1) := by decide +kernel
theorem dX7_copies_39 : decode cX7_copies 39 = .ok (.iinc 2 1, 3) := by decide +kernel
theorem dX7_copies_42 : decode cX7_copies 42 = .ok (.goto (-40), 3) := by decide +kernel
theorem dX7_copies_45 : decode cX7_copies 45 = .ok (.return_, 1) := by decide +kernel
def l7_copies_39 (rec2 : Int32 → Int32 → mm_M → Option (mm_M)) (x1 : Int32) (x2 : Int32) (M : mm_M) : Option (mm_M) :=
  rec2 x1 (x2 + 1) M
set_option maxHeartbeats 2000000 in
theorem sl7_copies_39 (rec2 : Int32 → Int32 → mm_M → Option (mm_M)) (hrec2 : ∀ (x1 : Int32) (x2 : Int32) (M : mm_M), Snd injV j7_copies mm_X0 2 [some (.ref 46), some (.int x1), some (.int x2)] [] M (rec2 x1 x2 M)) (x1 : Int32) (x2 : Int32)  (M : mm_M) : Snd injV j7_copies mm_X0 39 [some (.ref 46), some (.int x1), some (.int x2)] [] M (l7_copies_39 rec2 x1 x2 M) := by
  unfold l7_copies_39
  refine sn_iinc (j := j7_copies) (pc := 39) 1 rfl (by decide) rfl (lo' := [some (.ref 46), some (.int x1), some (.int (x2 + 1))]) rfl dX7_copies_39 ?_
  refine sn_goto (j := j7_copies) (pc := 42) 2 rfl dX7_copies_42 ?_
  exact Snd.wk (hrec2 x1 (x2 + 1) M ) (by simp [mm_le])
def b7_copies_2  (rec2 : Int32 → Int32 → mm_M → Option (mm_M)) (x1 : Int32) (x2 : Int32) (M : mm_M) : Option (mm_M) :=
  if 82 ≤ x2 then (some M) else (if x1 = 0 then (aI 47 82 x2 M (fun w_1 => uI 48 82 x2 w_1 M (fun M => l7_copies_39 rec2 x1 x2 M))) else (aI 48 82 x2 M (fun w_2 => uI 47 82 x2 w_2 M (fun M => l7_copies_39 rec2 x1 x2 M))))
set_option maxHeartbeats 2000000 in
theorem sb7_copies_2   (rec2 : Int32 → Int32 → mm_M → Option (mm_M)) (hrec2 : ∀ (x1 : Int32) (x2 : Int32) (M : mm_M), Snd injV j7_copies mm_X0 2 [some (.ref 46), some (.int x1), some (.int x2)] [] M (rec2 x1 x2 M)) (x1 : Int32) (x2 : Int32)  (M : mm_M) : Snd injV j7_copies mm_X0 2 [some (.ref 46), some (.int x1), some (.int x2)] [] M (b7_copies_2  rec2 x1 x2 M) := by
  unfold b7_copies_2
  refine sn_iload_n (j := j7_copies) (pc := 2) rfl rfl dX7_copies_2 ?_
  refine sn_bipush (j := j7_copies) (pc := 3) 82 rfl dX7_copies_3 ?_
  refine sn_icmp_ge (j := j7_copies) (pc := 5) 45 rfl dX7_copies_5 ?_ ?_
  · exact sn_vret (j := j7_copies) (pc := 45) rfl dX7_copies_45
  · refine sn_iload_n (j := j7_copies) (pc := 8) rfl rfl dX7_copies_8 ?_
    refine sn_if_eq (j := j7_copies) (pc := 9) 27 rfl dX7_copies_9 ?_ ?_
    · refine sn_aload_n (j := j7_copies) (pc := 27) rfl rfl dX7_copies_27 ?_
      refine g_X7_13 (j := j7_copies) (pc := 28) rfl dX7_copies_28 ?_
      refine sn_iload_n (j := j7_copies) (pc := 31) rfl rfl dX7_copies_31 ?_
      refine sn_aload_n (j := j7_copies) (pc := 32) rfl rfl dX7_copies_32 ?_
      refine g_X7_7 (j := j7_copies) (pc := 33) rfl dX7_copies_33 ?_
      refine sn_iload_n (j := j7_copies) (pc := 36) rfl rfl dX7_copies_36 ?_
      refine sn_iald (j := j7_copies) (pc := 37) rfl ⟨by decide, by decide⟩ dX7_copies_37 (fun w_1 => ?_)
      refine sn_iast (j := j7_copies) (pc := 38) rfl ⟨by decide, by decide⟩ dX7_copies_38 (fun M => ?_)
      exact Snd.wk (sl7_copies_39 rec2 hrec2 x1 x2 M) (by simp [mm_le])
    · refine sn_aload_n (j := j7_copies) (pc := 12) rfl rfl dX7_copies_12 ?_
      refine g_X7_7 (j := j7_copies) (pc := 13) rfl dX7_copies_13 ?_
      refine sn_iload_n (j := j7_copies) (pc := 16) rfl rfl dX7_copies_16 ?_
      refine sn_aload_n (j := j7_copies) (pc := 17) rfl rfl dX7_copies_17 ?_
      refine g_X7_13 (j := j7_copies) (pc := 18) rfl dX7_copies_18 ?_
      refine sn_iload_n (j := j7_copies) (pc := 21) rfl rfl dX7_copies_21 ?_
      refine sn_iald (j := j7_copies) (pc := 22) rfl ⟨by decide, by decide⟩ dX7_copies_22 (fun w_2 => ?_)
      refine sn_iast (j := j7_copies) (pc := 23) rfl ⟨by decide, by decide⟩ dX7_copies_23 (fun M => ?_)
      refine sn_goto (j := j7_copies) (pc := 24) 39 rfl dX7_copies_24 ?_
      exact Snd.wk (sl7_copies_39 rec2 hrec2 x1 x2 M) (by simp [mm_le])
def l7_copies_2  : Nat → Int32 → Int32 → mm_M → Option (mm_M)
  | 0 => fun _ _ _ => none
  | n + 1 => fun x1 x2 M => b7_copies_2  (l7_copies_2  n) x1 x2 M
theorem sl7_copies_2   : ∀ (n : Nat) (x1 : Int32) (x2 : Int32)  (M : mm_M), Snd injV j7_copies mm_X0 2 [some (.ref 46), some (.int x1), some (.int x2)] [] M (l7_copies_2  n x1 x2 M)
  | 0 => fun _ _  _ => Snd.none
  | n + 1 => fun x1 x2  M => sb7_copies_2   (l7_copies_2  n) (fun x1 x2 M  => sl7_copies_2   n x1 x2  M) x1 x2  M
def f7_copies (x1 : Int32) (M : mm_M) : Option (mm_M) :=
  l7_copies_2 FU x1 0 M
set_option maxHeartbeats 2000000 in
theorem s7_copies (x1 : Int32) (M : mm_M) : Snd injV j7_copies mm_X0 0 [some (.ref 46), some (.int x1)] [] M (f7_copies x1 M) := by
  refine Snd.wk (lo' := [some (.ref 46), some (.int x1), none]) ?_ (by simp [mm_le])
  unfold f7_copies
  refine sn_iconst (j := j7_copies) (pc := 0) 0 rfl dX7_copies_0 ?_
  refine sn_istore_n (j := j7_copies) (pc := 1) rfl (by decide) (lo' := [some (.ref 46), some (.int x1), some (.int 0)]) rfl dX7_copies_1 ?_
  exact Snd.wk (sl7_copies_2 FU x1 0 M) (by simp [mm_le])

abbrev j7_tell : mm_J := (yX7_tell, cX7_tell, 2, (some .int), 8)
theorem dX7_tell_0 : decode cX7_tell 0 = .ok (.aload_n 0, 1) := by decide +kernel
theorem dX7_tell_1 : decode cX7_tell 1 = .ok (.iconst 0, 1) := by decide +kernel
theorem dX7_tell_2 : decode cX7_tell 2 = .ok (.putfield 56, 3) := by decide +kernel
theorem dX7_tell_5 : decode cX7_tell 5 = .ok (.aload_n 0, 1) := by decide +kernel
theorem dX7_tell_6 : decode cX7_tell 6 = .ok (.iconst 0, 1) := by decide +kernel
theorem dX7_tell_7 : decode cX7_tell 7 = .ok (.invokevirtual 155, 3) := by decide +kernel
theorem dX7_tell_10 : decode cX7_tell 10 = .ok (.aload_n 0, 1) := by decide +kernel
theorem dX7_tell_11 : decode cX7_tell 11 = .ok (.invokevirtual 159, 3) := by decide +kernel
theorem dX7_tell_14 : decode cX7_tell 14 = .ok (.istore_n 1, 1) := by decide +kernel
theorem dX7_tell_15 : decode cX7_tell 15 = .ok (.aload_n 0, 1) := by decide +kernel
theorem dX7_tell_16 : decode cX7_tell 16 = .ok (.iconst 0, 1) := by decide +kernel
theorem dX7_tell_17 : decode cX7_tell 17 = .ok (.putfield 64, 3) := by decide +kernel
theorem dX7_tell_20 : decode cX7_tell 20 = .ok (.aload_n 0, 1) := by decide +kernel
theorem dX7_tell_21 : decode cX7_tell 21 = .ok (.aload_n 0, 1) := by decide +kernel
theorem dX7_tell_22 : decode cX7_tell 22 = .ok (.getfield 74, 3) := by decide +kernel
theorem dX7_tell_25 : decode cX7_tell 25 = .ok (.putfield 162, 3) := by decide +kernel
theorem dX7_tell_28 : decode cX7_tell 28 = .ok (.iload_n 1, 1) := by decide +kernel
theorem dX7_tell_29 : decode cX7_tell 29 = .ok (.ifCond .ne 5, 3) := by decide +kernel
theorem dX7_tell_32 : decode cX7_tell 32 = .ok (.iconst (-1), 1) := by decide +kernel
theorem dX7_tell_33 : decode cX7_tell 33 = .ok (.ireturn, 1) := by decide +kernel
theorem dX7_tell_34 : decode cX7_tell 34 = .ok (.aload_n 0, 1) := by decide +kernel
theorem dX7_tell_35 : decode cX7_tell 35 = .ok (.iconst 1, 1) := by decide +kernel
theorem dX7_tell_36 : decode cX7_tell 36 = .ok (.invokevirtual 155, 3) := by decide +kernel
theorem dX7_tell_39 : decode cX7_tell 39 = .ok (.aload_n 0, 1) := by decide +kernel
theorem dX7_tell_40 : decode cX7_tell 40 = .ok (.getfield 149, 3) := by decide +kernel
theorem dX7_tell_43 : decode cX7_tell 43 = .ok (.ireturn, 1) := by decide +kernel
def f7_tell  (M : mm_M) : Option (Int32 × mm_M) :=
  bM (sI M 46 0 0) (fun M => cV (f7_copies 0 M) (fun M => cI (f7_readText M) (fun r_1 M => bM (sI M 46 4 0) (fun M => bI (mI M 46 7) (fun v_2 => bM (sI M 46 5 v_2) (fun M => if r_1 = 0 then (some ((-1), M)) else (cV (f7_copies 1 M) (fun M => bI (mI M 46 10) (fun v_3 => some (v_3, M))))))))))
set_option maxHeartbeats 2000000 in
theorem s7_tell  (M : mm_M) : Snd injI j7_tell mm_X0 0 [some (.ref 46)] [] M (f7_tell  M) := by
  refine Snd.wk (lo' := [some (.ref 46), none]) ?_ (by simp [mm_le])
  unfold f7_tell
  refine sn_aload_n (j := j7_tell) (pc := 0) rfl rfl dX7_tell_0 ?_
  refine sn_iconst (j := j7_tell) (pc := 1) 0 rfl dX7_tell_1 ?_
  refine p_X7_56 (j := j7_tell) (pc := 2) rfl dX7_tell_2 (fun M => ?_)
  refine sn_aload_n (j := j7_tell) (pc := 5) rfl rfl dX7_tell_5 ?_
  refine sn_iconst (j := j7_tell) (pc := 6) 0 rfl dX7_tell_6 ?_
  refine sn_callV (j := j7_tell) (pc := 7) (jc := j7_copies) (As := [.int 0]) (s7_copies 0 M) mm_hvV (by simp [Value.category]) (Nat.le_of_ble_eq_true rfl) q7_copies rfl (by decide) rfl rfl ⟨by decide, by decide⟩ w_ml_X7_155 w_im_X7_copies w_se_X7_copies rfl (Nat.le_of_ble_eq_true rfl) dX7_tell_7 ?_
  intro M
  show Snd injI j7_tell mm_X0 10 [some (.ref 46), none] [] M _
  refine sn_aload_n (j := j7_tell) (pc := 10) rfl rfl dX7_tell_10 ?_
  refine sn_callV (j := j7_tell) (pc := 11) (jc := j7_readText) (As := []) (s7_readText M) mm_hvI (by simp [Value.category]) (Nat.le_of_ble_eq_true rfl) q7_readText rfl (by decide) rfl rfl ⟨by decide, by decide⟩ w_ml_X7_159 w_im_X7_readText w_se_X7_readText rfl (Nat.le_of_ble_eq_true rfl) dX7_tell_11 ?_
  rintro ⟨r_1, M⟩
  show Snd injI j7_tell mm_X0 14 [some (.ref 46), none] [.int r_1] M _
  refine sn_istore_n (j := j7_tell) (pc := 14) rfl (by decide) (lo' := [some (.ref 46), some (.int r_1)]) rfl dX7_tell_14 ?_
  refine sn_aload_n (j := j7_tell) (pc := 15) rfl rfl dX7_tell_15 ?_
  refine sn_iconst (j := j7_tell) (pc := 16) 0 rfl dX7_tell_16 ?_
  refine p_X7_64 (j := j7_tell) (pc := 17) rfl dX7_tell_17 (fun M => ?_)
  refine sn_aload_n (j := j7_tell) (pc := 20) rfl rfl dX7_tell_20 ?_
  refine sn_aload_n (j := j7_tell) (pc := 21) rfl rfl dX7_tell_21 ?_
  refine g_X7_74 (j := j7_tell) (pc := 22) rfl dX7_tell_22 ?_
  refine Snd.bI (fun v_2 => ?_)
  refine p_X7_162 (j := j7_tell) (pc := 25) rfl dX7_tell_25 (fun M => ?_)
  refine sn_iload_n (j := j7_tell) (pc := 28) rfl rfl dX7_tell_28 ?_
  refine sn_if_ne (j := j7_tell) (pc := 29) 34 rfl dX7_tell_29 ?_ ?_
  · refine sn_aload_n (j := j7_tell) (pc := 34) rfl rfl dX7_tell_34 ?_
    refine sn_iconst (j := j7_tell) (pc := 35) 1 rfl dX7_tell_35 ?_
    refine sn_callV (j := j7_tell) (pc := 36) (jc := j7_copies) (As := [.int 1]) (s7_copies 1 M) mm_hvV (by simp [Value.category]) (Nat.le_of_ble_eq_true rfl) q7_copies rfl (by decide) rfl rfl ⟨by decide, by decide⟩ w_ml_X7_155 w_im_X7_copies w_se_X7_copies rfl (Nat.le_of_ble_eq_true rfl) dX7_tell_36 ?_
    intro M
    show Snd injI j7_tell mm_X0 39 [some (.ref 46), some (.int r_1)] [] M _
    refine sn_aload_n (j := j7_tell) (pc := 39) rfl rfl dX7_tell_39 ?_
    refine g_X7_149 (j := j7_tell) (pc := 40) rfl dX7_tell_40 ?_
    refine Snd.bI (fun v_3 => ?_)
    exact sn_iret (j := j7_tell) (pc := 43) rfl dX7_tell_43
  · refine sn_iconst (j := j7_tell) (pc := 32) (-1) rfl dX7_tell_32 ?_
    exact sn_iret (j := j7_tell) (pc := 33) rfl dX7_tell_33

abbrev j7_fault : mm_J := (yX7_fault, cX7_fault, 1, (some .int), 0)
theorem dX7_fault_0 : decode cX7_fault 0 = .ok (.aload_n 0, 1) := by decide +kernel
theorem dX7_fault_1 : decode cX7_fault 1 = .ok (.iconst 0, 1) := by decide +kernel
theorem dX7_fault_2 : decode cX7_fault 2 = .ok (.putfield 56, 3) := by decide +kernel
theorem dX7_fault_5 : decode cX7_fault 5 = .ok (.aload_n 0, 1) := by decide +kernel
theorem dX7_fault_6 : decode cX7_fault 6 = .ok (.getfield 162, 3) := by decide +kernel
theorem dX7_fault_9 : decode cX7_fault 9 = .ok (.ireturn, 1) := by decide +kernel
def f7_fault  (M : mm_M) : Option (Int32 × mm_M) :=
  bM (sI M 46 0 0) (fun M => bI (mI M 46 5) (fun v_1 => some (v_1, M)))
set_option maxHeartbeats 2000000 in
theorem s7_fault  (M : mm_M) : Snd injI j7_fault mm_X0 0 [some (.ref 46)] [] M (f7_fault  M) := by
  refine Snd.wk (lo' := [some (.ref 46)]) ?_ (by simp [mm_le])
  unfold f7_fault
  refine sn_aload_n (j := j7_fault) (pc := 0) rfl rfl dX7_fault_0 ?_
  refine sn_iconst (j := j7_fault) (pc := 1) 0 rfl dX7_fault_1 ?_
  refine p_X7_56 (j := j7_fault) (pc := 2) rfl dX7_fault_2 (fun M => ?_)
  refine sn_aload_n (j := j7_fault) (pc := 5) rfl rfl dX7_fault_5 ?_
  refine g_X7_162 (j := j7_fault) (pc := 6) rfl dX7_fault_6 ?_
  refine Snd.bI (fun v_1 => ?_)
  exact sn_iret (j := j7_fault) (pc := 9) rfl dX7_fault_9

abbrev j7_mostOf : mm_J := (yX7_mostOf, cX7_mostOf, 1, (some .int), 0)
theorem dX7_mostOf_0 : decode cX7_mostOf 0 = .ok (.iload_n 0, 1) := by decide +kernel
theorem dX7_mostOf_1 : decode cX7_mostOf 1 = .ok (.ifCond .ne 7, 3) := by decide +kernel
theorem dX7_mostOf_4 : decode cX7_mostOf 4 = .ok (.iconst 4, 1) := by decide +kernel
theorem dX7_mostOf_5 : decode cX7_mostOf 5 = .ok (.goto 16, 3) := by decide +kernel
theorem dX7_mostOf_8 : decode cX7_mostOf 8 = .ok (.iload_n 0, 1) := by decide +kernel
theorem dX7_mostOf_9 : decode cX7_mostOf 9 = .ok (.iconst 1, 1) := by decide +kernel
theorem dX7_mostOf_10 : decode cX7_mostOf 10 = .ok (.if_icmp .ne 8, 3) := by decide +kernel
theorem dX7_mostOf_13 : decode cX7_mostOf 13 = .ok (.bipush 50, 2) := by decide +kernel
theorem dX7_mostOf_15 : decode cX7_mostOf 15 = .ok (.goto 6, 3) := by decide +kernel
theorem dX7_mostOf_18 : decode cX7_mostOf 18 = .ok (.sipush 200, 3) := by decide +kernel
theorem dX7_mostOf_21 : decode cX7_mostOf 21 = .ok (.ireturn, 1) := by decide +kernel
def l7_mostOf_21  (s0 : Int32) (M : mm_M) : Option (Int32 × mm_M) :=
  some (s0, M)
set_option maxHeartbeats 2000000 in
theorem sl7_mostOf_21   (s0 : Int32)  (M : mm_M) : Snd injI j7_mostOf mm_X0 21 [none] [.int s0] M (l7_mostOf_21  s0 M) := by
  unfold l7_mostOf_21
  exact sn_iret (j := j7_mostOf) (pc := 21) rfl dX7_mostOf_21
def f7_mostOf (x0 : Int32) (M : mm_M) : Option (Int32 × mm_M) :=
  if x0 = 0 then (l7_mostOf_21 4 M) else (if x0 = 1 then (l7_mostOf_21 50 M) else (l7_mostOf_21 200 M))
set_option maxHeartbeats 2000000 in
theorem s7_mostOf (x0 : Int32) (M : mm_M) : Snd injI j7_mostOf mm_X0 0 [some (.int x0)] [] M (f7_mostOf x0 M) := by
  refine Snd.wk (lo' := [some (.int x0)]) ?_ (by simp [mm_le])
  unfold f7_mostOf
  refine sn_iload_n (j := j7_mostOf) (pc := 0) rfl rfl dX7_mostOf_0 ?_
  refine sn_if_ne (j := j7_mostOf) (pc := 1) 8 rfl dX7_mostOf_1 ?_ ?_
  · refine sn_iload_n (j := j7_mostOf) (pc := 8) rfl rfl dX7_mostOf_8 ?_
    refine sn_iconst (j := j7_mostOf) (pc := 9) 1 rfl dX7_mostOf_9 ?_
    refine sn_icmp_ne (j := j7_mostOf) (pc := 10) 18 rfl dX7_mostOf_10 ?_ ?_
    · refine sn_sipush (j := j7_mostOf) (pc := 18) 200 rfl dX7_mostOf_18 ?_
      exact Snd.wk (sl7_mostOf_21 200 M) (by simp [mm_le])
    · refine sn_bipush (j := j7_mostOf) (pc := 13) 50 rfl dX7_mostOf_13 ?_
      refine sn_goto (j := j7_mostOf) (pc := 15) 21 rfl dX7_mostOf_15 ?_
      exact Snd.wk (sl7_mostOf_21 50 M) (by simp [mm_le])
  · refine sn_iconst (j := j7_mostOf) (pc := 4) 4 rfl dX7_mostOf_4 ?_
    refine sn_goto (j := j7_mostOf) (pc := 5) 21 rfl dX7_mostOf_5 ?_
    exact Snd.wk (sl7_mostOf_21 4 M) (by simp [mm_le])

abbrev j7_set : mm_J := (yX7_set, cX7_set, 5, (some .boolean), 1)
theorem dX7_set_0 : decode cX7_set 0 = .ok (.aload_n 0, 1) := by decide +kernel
theorem dX7_set_1 : decode cX7_set 1 = .ok (.iconst 0, 1) := by decide +kernel
theorem dX7_set_2 : decode cX7_set 2 = .ok (.putfield 56, 3) := by decide +kernel
theorem dX7_set_5 : decode cX7_set 5 = .ok (.iload_n 1, 1) := by decide +kernel
theorem dX7_set_6 : decode cX7_set 6 = .ok (.iconst 0, 1) := by decide +kernel
theorem dX7_set_7 : decode cX7_set 7 = .ok (.iconst 2, 1) := by decide +kernel
theorem dX7_set_8 : decode cX7_set 8 = .ok (.invokestatic 60, 3) := by decide +kernel
theorem dX7_set_11 : decode cX7_set 11 = .ok (.ifCond .eq 15, 3) := by decide +kernel
theorem dX7_set_14 : decode cX7_set 14 = .ok (.iload_n 2, 1) := by decide +kernel
theorem dX7_set_15 : decode cX7_set 15 = .ok (.iconst 1, 1) := by decide +kernel
theorem dX7_set_16 : decode cX7_set 16 = .ok (.iload_n 1, 1) := by decide +kernel
theorem dX7_set_17 : decode cX7_set 17 = .ok (.invokestatic 165, 3) := by decide +kernel
theorem dX7_set_20 : decode cX7_set 20 = .ok (.invokestatic 60, 3) := by decide +kernel
theorem dX7_set_23 : decode cX7_set 23 = .ok (.goto 34, 3) := by decide +kernel
theorem dX7_set_26 : decode cX7_set 26 = .ok (.iload_n 1, 1) := by decide +kernel
theorem dX7_set_27 : decode cX7_set 27 = .ok (.iconst 3, 1) := by decide +kernel
theorem dX7_set_28 : decode cX7_set 28 = .ok (.iconst 2, 1) := by decide +kernel
theorem dX7_set_29 : decode cX7_set 29 = .ok (.aload_n 0, 1) := by decide +kernel
theorem dX7_set_30 : decode cX7_set 30 = .ok (.getfield 7, 3) := by decide +kernel
theorem dX7_set_33 : decode cX7_set 33 = .ok (.iconst 0, 1) := by decide +kernel
theorem dX7_set_34 : decode cX7_set 34 = .ok (.iaload, 1) := by decide +kernel
theorem dX7_set_35 : decode cX7_set 35 = .ok (.iadd, 1) := by decide +kernel
theorem dX7_set_36 : decode cX7_set 36 = .ok (.invokestatic 60, 3) := by decide +kernel
theorem dX7_set_39 : decode cX7_set 39 = .ok (.ifCond .eq 17, 3) := by decide +kernel
theorem dX7_set_42 : decode cX7_set 42 = .ok (.iload_n 2, 1) := by decide +kernel
theorem dX7_set_43 : decode cX7_set 43 = .ok (.iconst 0, 1) := by decide +kernel
theorem dX7_set_44 : decode cX7_set 44 = .ok (.bipush 99, 2) := by decide +kernel
theorem dX7_set_46 : decode cX7_set 46 = .ok (.invokestatic 60, 3) := by decide +kernel
theorem dX7_set_49 : decode cX7_set 49 = .ok (.ifCond .eq 7, 3) := by decide +kernel
theorem dX7_set_52 : decode cX7_set 52 = .ok (.iconst 1, 1) := by decide +kernel
theorem dX7_set_53 : decode cX7_set 53 = .ok (.goto 4, 3) := by decide +kernel
theorem dX7_set_56 : decode cX7_set 56 = .ok (.iconst 0, 1) := by decide +kernel
theorem dX7_set_57 : decode cX7_set 57 = .ok (.istore_n 3, 1) := by decide +kernel
theorem dX7_set_58 : decode cX7_set 58 = .ok (.iload_n 1, 1) := by decide +kernel
theorem dX7_set_59 : decode cX7_set 59 = .ok (.iconst 3, 1) := by decide +kernel
theorem dX7_set_60 : decode cX7_set 60 = .ok (.if_icmp .ge 9, 3) := by decide +kernel
theorem dX7_set_63 : decode cX7_set 63 = .ok (.iconst 3, 1) := by decide +kernel
theorem dX7_set_64 : decode cX7_set 64 = .ok (.iload_n 1, 1) := by decide +kernel
theorem dX7_set_65 : decode cX7_set 65 = .ok (.iadd, 1) := by decide +kernel
theorem dX7_set_66 : decode cX7_set 66 = .ok (.goto 9, 3) := by decide +kernel
theorem dX7_set_69 : decode cX7_set 69 = .ok (.bipush 6, 2) := by decide +kernel
theorem dX7_set_71 : decode cX7_set 71 = .ok (.iload_n 1, 1) := by decide +kernel
theorem dX7_set_72 : decode cX7_set 72 = .ok (.iadd, 1) := by decide +kernel
theorem dX7_set_73 : decode cX7_set 73 = .ok (.iconst 3, 1) := by decide +kernel
theorem dX7_set_74 : decode cX7_set 74 = .ok (.isub, 1) := by decide +kernel
theorem dX7_set_75 : decode cX7_set 75 = .ok (.istore 4, 2) := by decide +kernel
theorem dX7_set_77 : decode cX7_set 77 = .ok (.iload_n 3, 1) := by decide +kernel
theorem dX7_set_78 : decode cX7_set 78 = .ok (.ifCond .eq 14, 3) := by decide +kernel
theorem dX7_set_81 : decode cX7_set 81 = .ok (.aload_n 0, 1) := by decide +kernel
theorem dX7_set_82 : decode cX7_set 82 = .ok (.getfield 7, 3) := by decide +kernel
theorem dX7_set_85 : decode cX7_set 85 = .ok (.iload 4, 2) := by decide +kernel
theorem dX7_set_87 : decode cX7_set 87 = .ok (.iaload, 1) := by decide +kernel
theorem dX7_set_88 : decode cX7_set 88 = .ok (.iload_n 2, 1) := by decide +kernel
theorem dX7_set_89 : decode cX7_set 89 = .ok (.if_icmp .ne 5, 3) := by decide +kernel
theorem dX7_set_92 : decode cX7_set 92 = .ok (.iconst 0, 1) := by decide +kernel
theorem dX7_set_93 : decode cX7_set 93 = .ok (.ireturn, 1) := by decide +kernel
theorem dX7_set_94 : decode cX7_set 94 = .ok (.aload_n 0, 1) := by decide +kernel
theorem dX7_set_95 : decode cX7_set 95 = .ok (.getfield 7, 3) := by decide +kernel
theorem dX7_set_98 : decode cX7_set 98 = .ok (.iload 4, 2) := by decide +kernel
theorem dX7_set_100 : decode cX7_set 100 = .ok (.iload_n 2, 1) := by decide +kernel
theorem dX7_set_101 : decode cX7_set 101 = .ok (.iastore, 1) := by decide +kernel
theorem dX7_set_102 : decode cX7_set 102 = .ok (.iconst 1, 1) := by decide +kernel
theorem dX7_set_103 : decode cX7_set 103 = .ok (.ireturn, 1) := by decide +kernel
def l7_set_92   (M : mm_M) : Option (Int32 × mm_M) :=
  rZ 0 M
set_option maxHeartbeats 2000000 in
theorem sl7_set_92     (M : mm_M) : Snd injI j7_set mm_X0 92 [none, none, none, none, none] [] M (l7_set_92   M) := by
  unfold l7_set_92
  refine sn_iconst (j := j7_set) (pc := 92) 0 rfl dX7_set_92 ?_
  exact sn_zret (j := j7_set) (pc := 93) rfl dX7_set_93
def l7_set_75  (x2 : Int32) (x3 : Int32) (s0 : Int32) (M : mm_M) : Option (Int32 × mm_M) :=
  if x3 = 0 then (l7_set_92 M) else (aI 47 82 s0 M (fun w_1 => if w_1 = x2 then (l7_set_92 M) else (uI 47 82 s0 x2 M (fun M => rZ 1 M))))
set_option maxHeartbeats 2000000 in
theorem sl7_set_75   (x2 : Int32) (x3 : Int32) (s0 : Int32)  (M : mm_M) : Snd injI j7_set mm_X0 75 [some (.ref 46), none, some (.int x2), some (.int x3), none] [.int s0] M (l7_set_75  x2 x3 s0 M) := by
  unfold l7_set_75
  refine sn_istore (j := j7_set) (pc := 75) (by decide) (lo' := [some (.ref 46), none, some (.int x2), some (.int x3), some (.int s0)]) rfl dX7_set_75 ?_
  refine sn_iload_n (j := j7_set) (pc := 77) rfl rfl dX7_set_77 ?_
  refine sn_if_eq (j := j7_set) (pc := 78) 92 rfl dX7_set_78 ?_ ?_
  · exact Snd.wk (sl7_set_92 M) (by simp [mm_le])
  · refine sn_aload_n (j := j7_set) (pc := 81) rfl rfl dX7_set_81 ?_
    refine g_X7_7 (j := j7_set) (pc := 82) rfl dX7_set_82 ?_
    refine sn_iload (j := j7_set) (pc := 85) rfl dX7_set_85 ?_
    refine sn_iald (j := j7_set) (pc := 87) rfl ⟨by decide, by decide⟩ dX7_set_87 (fun w_1 => ?_)
    refine sn_iload_n (j := j7_set) (pc := 88) rfl rfl dX7_set_88 ?_
    refine sn_icmp_ne (j := j7_set) (pc := 89) 94 rfl dX7_set_89 ?_ ?_
    · refine sn_aload_n (j := j7_set) (pc := 94) rfl rfl dX7_set_94 ?_
      refine g_X7_7 (j := j7_set) (pc := 95) rfl dX7_set_95 ?_
      refine sn_iload (j := j7_set) (pc := 98) rfl dX7_set_98 ?_
      refine sn_iload_n (j := j7_set) (pc := 100) rfl rfl dX7_set_100 ?_
      refine sn_iast (j := j7_set) (pc := 101) rfl ⟨by decide, by decide⟩ dX7_set_101 (fun M => ?_)
      refine sn_iconst (j := j7_set) (pc := 102) 1 rfl dX7_set_102 ?_
      exact sn_zret (j := j7_set) (pc := 103) rfl dX7_set_103
    · exact Snd.wk (sl7_set_92 M) (by simp [mm_le])
def l7_set_57  (x1 : Int32) (x2 : Int32) (s0 : Int32) (M : mm_M) : Option (Int32 × mm_M) :=
  if 3 ≤ x1 then (l7_set_75 x2 s0 ((6 + x1) - 3) M) else (l7_set_75 x2 s0 (3 + x1) M)
set_option maxHeartbeats 2000000 in
theorem sl7_set_57   (x1 : Int32) (x2 : Int32) (s0 : Int32)  (M : mm_M) : Snd injI j7_set mm_X0 57 [some (.ref 46), some (.int x1), some (.int x2), none, none] [.int s0] M (l7_set_57  x1 x2 s0 M) := by
  unfold l7_set_57
  refine sn_istore_n (j := j7_set) (pc := 57) rfl (by decide) (lo' := [some (.ref 46), some (.int x1), some (.int x2), some (.int s0), none]) rfl dX7_set_57 ?_
  refine sn_iload_n (j := j7_set) (pc := 58) rfl rfl dX7_set_58 ?_
  refine sn_iconst (j := j7_set) (pc := 59) 3 rfl dX7_set_59 ?_
  refine sn_icmp_ge (j := j7_set) (pc := 60) 69 rfl dX7_set_60 ?_ ?_
  · refine sn_bipush (j := j7_set) (pc := 69) 6 rfl dX7_set_69 ?_
    refine sn_iload_n (j := j7_set) (pc := 71) rfl rfl dX7_set_71 ?_
    refine sn_iadd (j := j7_set) (pc := 72) dX7_set_72 ?_
    refine sn_iconst (j := j7_set) (pc := 73) 3 rfl dX7_set_73 ?_
    refine sn_isub (j := j7_set) (pc := 74) dX7_set_74 ?_
    exact Snd.wk (sl7_set_75 x2 s0 ((6 + x1) - 3) M) (by simp [mm_le])
  · refine sn_iconst (j := j7_set) (pc := 63) 3 rfl dX7_set_63 ?_
    refine sn_iload_n (j := j7_set) (pc := 64) rfl rfl dX7_set_64 ?_
    refine sn_iadd (j := j7_set) (pc := 65) dX7_set_65 ?_
    refine sn_goto (j := j7_set) (pc := 66) 75 rfl dX7_set_66 ?_
    exact Snd.wk (sl7_set_75 x2 s0 (3 + x1) M) (by simp [mm_le])
def l7_set_56  (x1 : Int32) (x2 : Int32) (M : mm_M) : Option (Int32 × mm_M) :=
  l7_set_57 x1 x2 0 M
set_option maxHeartbeats 2000000 in
theorem sl7_set_56   (x1 : Int32) (x2 : Int32)  (M : mm_M) : Snd injI j7_set mm_X0 56 [some (.ref 46), some (.int x1), some (.int x2), none, none] [] M (l7_set_56  x1 x2 M) := by
  unfold l7_set_56
  refine sn_iconst (j := j7_set) (pc := 56) 0 rfl dX7_set_56 ?_
  exact Snd.wk (sl7_set_57 x1 x2 0 M) (by simp [mm_le])
def f7_set (x1 : Int32) (x2 : Int32) (M : mm_M) : Option (Int32 × mm_M) :=
  bM (sI M 46 0 0) (fun M => cI (f7_in x1 0 2 M) (fun r_2 M => if r_2 = 0 then (aI 47 82 0 M (fun w_3 => cI (f7_in x1 3 (2 + w_3) M) (fun r_4 M => if r_4 = 0 then (l7_set_56 x1 x2 M) else (cI (f7_in x2 0 99 M) (fun r_5 M => if r_5 = 0 then (l7_set_56 x1 x2 M) else (l7_set_57 x1 x2 1 M)))))) else (cI (f7_mostOf x1 M) (fun r_6 M => cI (f7_in x2 1 r_6 M) (fun r_7 M => l7_set_57 x1 x2 r_7 M)))))
set_option maxHeartbeats 2000000 in
theorem s7_set (x1 : Int32) (x2 : Int32) (M : mm_M) : Snd injI j7_set mm_X0 0 [some (.ref 46), some (.int x1), some (.int x2)] [] M (f7_set x1 x2 M) := by
  refine Snd.wk (lo' := [some (.ref 46), some (.int x1), some (.int x2), none, none]) ?_ (by simp [mm_le])
  unfold f7_set
  refine sn_aload_n (j := j7_set) (pc := 0) rfl rfl dX7_set_0 ?_
  refine sn_iconst (j := j7_set) (pc := 1) 0 rfl dX7_set_1 ?_
  refine p_X7_56 (j := j7_set) (pc := 2) rfl dX7_set_2 (fun M => ?_)
  refine sn_iload_n (j := j7_set) (pc := 5) rfl rfl dX7_set_5 ?_
  refine sn_iconst (j := j7_set) (pc := 6) 0 rfl dX7_set_6 ?_
  refine sn_iconst (j := j7_set) (pc := 7) 2 rfl dX7_set_7 ?_
  refine sn_callS (j := j7_set) (pc := 8) (jc := j7_in) (As := [.int x1, .int 0, .int 2]) (s7_in x1 0 2 M) mm_hvI (by simp [Value.category]) (Nat.le_of_ble_eq_true rfl) q7_in rfl (by decide) w_ml_X7_60 w_st_X7_in rfl (Nat.le_of_ble_eq_true rfl) dX7_set_8 ?_
  rintro ⟨r_2, M⟩
  show Snd injI j7_set mm_X0 11 [some (.ref 46), some (.int x1), some (.int x2), none, none] [.int r_2] M _
  refine sn_if_eq (j := j7_set) (pc := 11) 26 rfl dX7_set_11 ?_ ?_
  · refine sn_iload_n (j := j7_set) (pc := 26) rfl rfl dX7_set_26 ?_
    refine sn_iconst (j := j7_set) (pc := 27) 3 rfl dX7_set_27 ?_
    refine sn_iconst (j := j7_set) (pc := 28) 2 rfl dX7_set_28 ?_
    refine sn_aload_n (j := j7_set) (pc := 29) rfl rfl dX7_set_29 ?_
    refine g_X7_7 (j := j7_set) (pc := 30) rfl dX7_set_30 ?_
    refine sn_iconst (j := j7_set) (pc := 33) 0 rfl dX7_set_33 ?_
    refine sn_iald (j := j7_set) (pc := 34) rfl ⟨by decide, by decide⟩ dX7_set_34 (fun w_3 => ?_)
    refine sn_iadd (j := j7_set) (pc := 35) dX7_set_35 ?_
    refine sn_callS (j := j7_set) (pc := 36) (jc := j7_in) (As := [.int x1, .int 3, .int (2 + w_3)]) (s7_in x1 3 (2 + w_3) M) mm_hvI (by simp [Value.category]) (Nat.le_of_ble_eq_true rfl) q7_in rfl (by decide) w_ml_X7_60 w_st_X7_in rfl (Nat.le_of_ble_eq_true rfl) dX7_set_36 ?_
    rintro ⟨r_4, M⟩
    show Snd injI j7_set mm_X0 39 [some (.ref 46), some (.int x1), some (.int x2), none, none] [.int r_4] M _
    refine sn_if_eq (j := j7_set) (pc := 39) 56 rfl dX7_set_39 ?_ ?_
    · exact Snd.wk (sl7_set_56 x1 x2 M) (by simp [mm_le])
    · refine sn_iload_n (j := j7_set) (pc := 42) rfl rfl dX7_set_42 ?_
      refine sn_iconst (j := j7_set) (pc := 43) 0 rfl dX7_set_43 ?_
      refine sn_bipush (j := j7_set) (pc := 44) 99 rfl dX7_set_44 ?_
      refine sn_callS (j := j7_set) (pc := 46) (jc := j7_in) (As := [.int x2, .int 0, .int 99]) (s7_in x2 0 99 M) mm_hvI (by simp [Value.category]) (Nat.le_of_ble_eq_true rfl) q7_in rfl (by decide) w_ml_X7_60 w_st_X7_in rfl (Nat.le_of_ble_eq_true rfl) dX7_set_46 ?_
      rintro ⟨r_5, M⟩
      show Snd injI j7_set mm_X0 49 [some (.ref 46), some (.int x1), some (.int x2), none, none] [.int r_5] M _
      refine sn_if_eq (j := j7_set) (pc := 49) 56 rfl dX7_set_49 ?_ ?_
      · exact Snd.wk (sl7_set_56 x1 x2 M) (by simp [mm_le])
      · refine sn_iconst (j := j7_set) (pc := 52) 1 rfl dX7_set_52 ?_
        refine sn_goto (j := j7_set) (pc := 53) 57 rfl dX7_set_53 ?_
        exact Snd.wk (sl7_set_57 x1 x2 1 M) (by simp [mm_le])
  · refine sn_iload_n (j := j7_set) (pc := 14) rfl rfl dX7_set_14 ?_
    refine sn_iconst (j := j7_set) (pc := 15) 1 rfl dX7_set_15 ?_
    refine sn_iload_n (j := j7_set) (pc := 16) rfl rfl dX7_set_16 ?_
    refine sn_callS (j := j7_set) (pc := 17) (jc := j7_mostOf) (As := [.int x1]) (s7_mostOf x1 M) mm_hvI (by simp [Value.category]) (Nat.le_of_ble_eq_true rfl) q7_mostOf rfl (by decide) w_ml_X7_165 w_st_X7_mostOf rfl (Nat.le_of_ble_eq_true rfl) dX7_set_17 ?_
    rintro ⟨r_6, M⟩
    show Snd injI j7_set mm_X0 20 [some (.ref 46), some (.int x1), some (.int x2), none, none] [.int r_6, .int 1, .int x2] M _
    refine sn_callS (j := j7_set) (pc := 20) (jc := j7_in) (As := [.int x2, .int 1, .int r_6]) (s7_in x2 1 r_6 M) mm_hvI (by simp [Value.category]) (Nat.le_of_ble_eq_true rfl) q7_in rfl (by decide) w_ml_X7_60 w_st_X7_in rfl (Nat.le_of_ble_eq_true rfl) dX7_set_20 ?_
    rintro ⟨r_7, M⟩
    show Snd injI j7_set mm_X0 23 [some (.ref 46), some (.int x1), some (.int x2), none, none] [.int r_7] M _
    refine sn_goto (j := j7_set) (pc := 23) 57 rfl dX7_set_23 ?_
    exact Snd.wk (sl7_set_57 x1 x2 r_7 M) (by simp [mm_le])

abbrev j7_bus : mm_J := (yX7_bus, cX7_bus, 8, (some .int), 1)
theorem dX7_bus_0 : decode cX7_bus 0 = .ok (.aload_n 0, 1) := by decide +kernel
theorem dX7_bus_1 : decode cX7_bus 1 = .ok (.iconst 0, 1) := by decide +kernel
theorem dX7_bus_2 : decode cX7_bus 2 = .ok (.putfield 56, 3) := by decide +kernel
theorem dX7_bus_5 : decode cX7_bus 5 = .ok (.iload_n 1, 1) := by decide +kernel
theorem dX7_bus_6 : decode cX7_bus 6 = .ok (.iconst 0, 1) := by decide +kernel
theorem dX7_bus_7 : decode cX7_bus 7 = .ok (.aload_n 0, 1) := by decide +kernel
theorem dX7_bus_8 : decode cX7_bus 8 = .ok (.getfield 7, 3) := by decide +kernel
theorem dX7_bus_11 : decode cX7_bus 11 = .ok (.iconst 2, 1) := by decide +kernel
theorem dX7_bus_12 : decode cX7_bus 12 = .ok (.iaload, 1) := by decide +kernel
theorem dX7_bus_13 : decode cX7_bus 13 = .ok (.iconst 1, 1) := by decide +kernel
theorem dX7_bus_14 : decode cX7_bus 14 = .ok (.isub, 1) := by decide +kernel
theorem dX7_bus_15 : decode cX7_bus 15 = .ok (.invokestatic 60, 3) := by decide +kernel
theorem dX7_bus_18 : decode cX7_bus 18 = .ok (.ifCond .eq 68, 3) := by decide +kernel
theorem dX7_bus_21 : decode cX7_bus 21 = .ok (.iload_n 2, 1) := by decide +kernel
theorem dX7_bus_22 : decode cX7_bus 22 = .ok (.iconst 1, 1) := by decide +kernel
theorem dX7_bus_23 : decode cX7_bus 23 = .ok (.sipush 200, 3) := by decide +kernel
theorem dX7_bus_26 : decode cX7_bus 26 = .ok (.invokestatic 60, 3) := by decide +kernel
theorem dX7_bus_29 : decode cX7_bus 29 = .ok (.ifCond .eq 57, 3) := by decide +kernel
theorem dX7_bus_32 : decode cX7_bus 32 = .ok (.iload_n 3, 1) := by decide +kernel
theorem dX7_bus_33 : decode cX7_bus 33 = .ok (.iconst 0, 1) := by decide +kernel
theorem dX7_bus_34 : decode cX7_bus 34 = .ok (.iload_n 2, 1) := by decide +kernel
theorem dX7_bus_35 : decode cX7_bus 35 = .ok (.invokestatic 60, 3) := by decide +kernel
theorem dX7_bus_38 : decode cX7_bus 38 = .ok (.ifCond .eq 48, 3) := by decide +kernel
theorem dX7_bus_41 : decode cX7_bus 41 = .ok (.iload 4, 2) := by decide +kernel
theorem dX7_bus_43 : decode cX7_bus 43 = .ok (.iconst 0, 1) := by decide +kernel
theorem dX7_bus_44 : decode cX7_bus 44 = .ok (.iload_n 2, 1) := by decide +kernel
theorem dX7_bus_45 : decode cX7_bus 45 = .ok (.invokestatic 60, 3) := by decide +kernel
theorem dX7_bus_48 : decode cX7_bus 48 = .ok (.ifCond .eq 38, 3) := by decide +kernel
theorem dX7_bus_51 : decode cX7_bus 51 = .ok (.iload 5, 2) := by decide +kernel
theorem dX7_bus_53 : decode cX7_bus 53 = .ok (.iconst 0, 1) := by decide +kernel
theorem dX7_bus_54 : decode cX7_bus 54 = .ok (.aload_n 0, 1) := by decide +kernel
theorem dX7_bus_55 : decode cX7_bus 55 = .ok (.getfield 7, 3) := by decide +kernel
theorem dX7_bus_58 : decode cX7_bus 58 = .ok (.iconst 0, 1) := by decide +kernel
theorem dX7_bus_59 : decode cX7_bus 59 = .ok (.iaload, 1) := by decide +kernel
theorem dX7_bus_60 : decode cX7_bus 60 = .ok (.iconst 1, 1) := by decide +kernel
theorem dX7_bus_61 : decode cX7_bus 61 = .ok (.isub, 1) := by decide +kernel
theorem dX7_bus_62 : decode cX7_bus 62 = .ok (.invokestatic 60, 3) := by decide +kernel
theorem dX7_bus_65 : decode cX7_bus 65 = .ok (.ifCond .eq 21, 3) := by decide +kernel
theorem dX7_bus_68 : decode cX7_bus 68 = .ok (.iload 6, 2) := by decide +kernel
theorem dX7_bus_70 : decode cX7_bus 70 = .ok (.iload 5, 2) := by decide +kernel
theorem dX7_bus_72 : decode cX7_bus 72 = .ok (.iconst 1, 1) := by decide +kernel
theorem dX7_bus_73 : decode cX7_bus 73 = .ok (.iadd, 1) := by decide +kernel
theorem dX7_bus_74 : decode cX7_bus 74 = .ok (.aload_n 0, 1) := by decide +kernel
theorem dX7_bus_75 : decode cX7_bus 75 = .ok (.getfield 7, 3) := by decide +kernel
theorem dX7_bus_78 : decode cX7_bus 78 = .ok (.iconst 0, 1) := by decide +kernel
theorem dX7_bus_79 : decode cX7_bus 79 = .ok (.iaload, 1) := by decide +kernel
theorem dX7_bus_80 : decode cX7_bus 80 = .ok (.invokestatic 60, 3) := by decide +kernel
theorem dX7_bus_83 : decode cX7_bus 83 = .ok (.ifCond .ne 5, 3) := by decide +kernel
theorem dX7_bus_86 : decode cX7_bus 86 = .ok (.iconst (-1), 1) := by decide +kernel
theorem dX7_bus_87 : decode cX7_bus 87 = .ok (.ireturn, 1) := by decide +kernel
theorem dX7_bus_88 : decode cX7_bus 88 = .ok (.aload_n 0, 1) := by decide +kernel
theorem dX7_bus_89 : decode cX7_bus 89 = .ok (.getfield 7, 3) := by decide +kernel
theorem dX7_bus_92 : decode cX7_bus 92 = .ok (.iconst 1, 1) := by decide +kernel
theorem dX7_bus_93 : decode cX7_bus 93 = .ok (.iaload, 1) := by decide +kernel
theorem dX7_bus_94 : decode cX7_bus 94 = .ok (.iconst 4, 1) := by decide +kernel
theorem dX7_bus_95 : decode cX7_bus 95 = .ok (.if_icmp .ne 6, 3) := by decide +kernel
theorem dX7_bus_98 : decode cX7_bus 98 = .ok (.bipush (-2), 2) := by decide +kernel
theorem dX7_bus_100 : decode cX7_bus 100 = .ok (.ireturn, 1) := by decide +kernel
theorem dX7_bus_101 : decode cX7_bus 101 = .ok (.bipush 50, 2) := by decide +kernel
theorem dX7_bus_103 : decode cX7_bus 103 = .ok (.bipush 6, 2) := by decide +kernel
theorem dX7_bus_105 : decode cX7_bus 105 = .ok (.aload_n 0, 1) := by decide +kernel
theorem dX7_bus_106 : decode cX7_bus 106 = .ok (.getfield 7, 3) := by decide +kernel
theorem dX7_bus_109 : decode cX7_bus 109 = .ok (.iconst 1, 1) := by decide +kernel
theorem dX7_bus_110 : decode cX7_bus 110 = .ok (.iaload, 1) := by decide +kernel
theorem dX7_bus_111 : decode cX7_bus 111 = .ok (.imul, 1) := by decide +kernel
theorem dX7_bus_112 : decode cX7_bus 112 = .ok (.iadd, 1) := by decide +kernel
theorem dX7_bus_113 : decode cX7_bus 113 = .ok (.istore 7, 2) := by decide +kernel
theorem dX7_bus_115 : decode cX7_bus 115 = .ok (.aload_n 0, 1) := by decide +kernel
theorem dX7_bus_116 : decode cX7_bus 116 = .ok (.getfield 7, 3) := by decide +kernel
theorem dX7_bus_119 : decode cX7_bus 119 = .ok (.iload 7, 2) := by decide +kernel
theorem dX7_bus_121 : decode cX7_bus 121 = .ok (.iload_n 1, 1) := by decide +kernel
theorem dX7_bus_122 : decode cX7_bus 122 = .ok (.iastore, 1) := by decide +kernel
theorem dX7_bus_123 : decode cX7_bus 123 = .ok (.aload_n 0, 1) := by decide +kernel
theorem dX7_bus_124 : decode cX7_bus 124 = .ok (.getfield 7, 3) := by decide +kernel
theorem dX7_bus_127 : decode cX7_bus 127 = .ok (.iload 7, 2) := by decide +kernel
theorem dX7_bus_129 : decode cX7_bus 129 = .ok (.iconst 1, 1) := by decide +kernel
theorem dX7_bus_130 : decode cX7_bus 130 = .ok (.iadd, 1) := by decide +kernel
theorem dX7_bus_131 : decode cX7_bus 131 = .ok (.iload_n 2, 1) := by decide +kernel
theorem dX7_bus_132 : decode cX7_bus 132 = .ok (.iastore, 1) := by decide +kernel
theorem dX7_bus_133 : decode cX7_bus 133 = .ok (.aload_n 0, 1) := by decide +kernel
theorem dX7_bus_134 : decode cX7_bus 134 = .ok (.getfield 7, 3) := by decide +kernel
theorem dX7_bus_137 : decode cX7_bus 137 = .ok (.iload 7, 2) := by decide +kernel
theorem dX7_bus_139 : decode cX7_bus 139 = .ok (.iconst 2, 1) := by decide +kernel
theorem dX7_bus_140 : decode cX7_bus 140 = .ok (.iadd, 1) := by decide +kernel
theorem dX7_bus_141 : decode cX7_bus 141 = .ok (.iload_n 3, 1) := by decide +kernel
theorem dX7_bus_142 : decode cX7_bus 142 = .ok (.iastore, 1) := by decide +kernel
theorem dX7_bus_143 : decode cX7_bus 143 = .ok (.aload_n 0, 1) := by decide +kernel
theorem dX7_bus_144 : decode cX7_bus 144 = .ok (.getfield 7, 3) := by decide +kernel
theorem dX7_bus_147 : decode cX7_bus 147 = .ok (.iload 7, 2) := by decide +kernel
theorem dX7_bus_149 : decode cX7_bus 149 = .ok (.iconst 3, 1) := by decide +kernel
theorem dX7_bus_150 : decode cX7_bus 150 = .ok (.iadd, 1) := by decide +kernel
theorem dX7_bus_151 : decode cX7_bus 151 = .ok (.iload 4, 2) := by decide +kernel
theorem dX7_bus_153 : decode cX7_bus 153 = .ok (.iastore, 1) := by decide +kernel
theorem dX7_bus_154 : decode cX7_bus 154 = .ok (.aload_n 0, 1) := by decide +kernel
theorem dX7_bus_155 : decode cX7_bus 155 = .ok (.getfield 7, 3) := by decide +kernel
theorem dX7_bus_158 : decode cX7_bus 158 = .ok (.iload 7, 2) := by decide +kernel
theorem dX7_bus_160 : decode cX7_bus 160 = .ok (.iconst 4, 1) := by decide +kernel
theorem dX7_bus_161 : decode cX7_bus 161 = .ok (.iadd, 1) := by decide +kernel
theorem dX7_bus_162 : decode cX7_bus 162 = .ok (.iload 5, 2) := by decide +kernel
theorem dX7_bus_164 : decode cX7_bus 164 = .ok (.iastore, 1) := by decide +kernel
theorem dX7_bus_165 : decode cX7_bus 165 = .ok (.aload_n 0, 1) := by decide +kernel
theorem dX7_bus_166 : decode cX7_bus 166 = .ok (.getfield 7, 3) := by decide +kernel
theorem dX7_bus_169 : decode cX7_bus 169 = .ok (.iload 7, 2) := by decide +kernel
theorem dX7_bus_171 : decode cX7_bus 171 = .ok (.iconst 5, 1) := by decide +kernel
theorem dX7_bus_172 : decode cX7_bus 172 = .ok (.iadd, 1) := by decide +kernel
theorem dX7_bus_173 : decode cX7_bus 173 = .ok (.iload 6, 2) := by decide +kernel
theorem dX7_bus_175 : decode cX7_bus 175 = .ok (.iastore, 1) := by decide +kernel
theorem dX7_bus_176 : decode cX7_bus 176 = .ok (.aload_n 0, 1) := by decide +kernel
theorem dX7_bus_177 : decode cX7_bus 177 = .ok (.getfield 7, 3) := by decide +kernel
theorem dX7_bus_180 : decode cX7_bus 180 = .ok (.iconst 1, 1) := by decide +kernel
theorem dX7_bus_181 : decode cX7_bus 181 = .ok (.dup2, 1) := by decide +kernel
theorem dX7_bus_182 : decode cX7_bus 182 = .ok (.iaload, 1) := by decide +kernel
theorem dX7_bus_183 : decode cX7_bus 183 = .ok (.iconst 1, 1) := by decide +kernel
theorem dX7_bus_184 : decode cX7_bus 184 = .ok (.iadd, 1) := by decide +kernel
theorem dX7_bus_185 : decode cX7_bus 185 = .ok (.iastore, 1) := by decide +kernel
theorem dX7_bus_186 : decode cX7_bus 186 = .ok (.aload_n 0, 1) := by decide +kernel
theorem dX7_bus_187 : decode cX7_bus 187 = .ok (.getfield 7, 3) := by decide +kernel
theorem dX7_bus_190 : decode cX7_bus 190 = .ok (.iconst 1, 1) := by decide +kernel
theorem dX7_bus_191 : decode cX7_bus 191 = .ok (.iaload, 1) := by decide +kernel
theorem dX7_bus_192 : decode cX7_bus 192 = .ok (.iconst 1, 1) := by decide +kernel
theorem dX7_bus_193 : decode cX7_bus 193 = .ok (.isub, 1) := by decide +kernel
theorem dX7_bus_194 : decode cX7_bus 194 = .ok (.ireturn, 1) := by decide +kernel
def l7_bus_86   (M : mm_M) : Option (Int32 × mm_M) :=
  some ((-1), M)
set_option maxHeartbeats 2000000 in
theorem sl7_bus_86     (M : mm_M) : Snd injI j7_bus mm_X0 86 [none, none, none, none, none, none, none, none] [] M (l7_bus_86   M) := by
  unfold l7_bus_86
  refine sn_iconst (j := j7_bus) (pc := 86) (-1) rfl dX7_bus_86 ?_
  exact sn_iret (j := j7_bus) (pc := 87) rfl dX7_bus_87
def f7_bus (x1 : Int32) (x2 : Int32) (x3 : Int32) (x4 : Int32) (x5 : Int32) (x6 : Int32) (M : mm_M) : Option (Int32 × mm_M) :=
  bM (sI M 46 0 0) (fun M => aI 47 82 2 M (fun w_1 => cI (f7_in x1 0 (w_1 - 1) M) (fun r_2 M => if r_2 = 0 then (l7_bus_86 M) else (cI (f7_in x2 1 200 M) (fun r_3 M => if r_3 = 0 then (l7_bus_86 M) else (cI (f7_in x3 0 x2 M) (fun r_4 M => if r_4 = 0 then (l7_bus_86 M) else (cI (f7_in x4 0 x2 M) (fun r_5 M => if r_5 = 0 then (l7_bus_86 M) else (aI 47 82 0 M (fun w_6 => cI (f7_in x5 0 (w_6 - 1) M) (fun r_7 M => if r_7 = 0 then (l7_bus_86 M) else (aI 47 82 0 M (fun w_8 => cI (f7_in x6 (x5 + 1) w_8 M) (fun r_9 M => if r_9 = 0 then (l7_bus_86 M) else (aI 47 82 1 M (fun w_10 => if w_10 = 4 then (some ((-2), M)) else (aI 47 82 1 M (fun w_11 => bI (50 + (6 * w_11)) (fun x7_12 => uI 47 82 x7_12 x1 M (fun M => uI 47 82 (x7_12 + 1) x2 M (fun M => uI 47 82 (x7_12 + 2) x3 M (fun M => uI 47 82 (x7_12 + 3) x4 M (fun M => uI 47 82 (x7_12 + 4) x5 M (fun M => uI 47 82 (x7_12 + 5) x6 M (fun M => aI 47 82 1 M (fun w_13 => uI 47 82 1 (w_13 + 1) M (fun M => aI 47 82 1 M (fun w_14 => some (w_14 - 1, M))))))))))))))))))))))))))))))
set_option maxHeartbeats 2000000 in
theorem s7_bus (x1 : Int32) (x2 : Int32) (x3 : Int32) (x4 : Int32) (x5 : Int32) (x6 : Int32) (M : mm_M) : Snd injI j7_bus mm_X0 0 [some (.ref 46), some (.int x1), some (.int x2), some (.int x3), some (.int x4), some (.int x5), some (.int x6)] [] M (f7_bus x1 x2 x3 x4 x5 x6 M) := by
  refine Snd.wk (lo' := [some (.ref 46), some (.int x1), some (.int x2), some (.int x3), some (.int x4), some (.int x5), some (.int x6), none]) ?_ (by simp [mm_le])
  unfold f7_bus
  refine sn_aload_n (j := j7_bus) (pc := 0) rfl rfl dX7_bus_0 ?_
  refine sn_iconst (j := j7_bus) (pc := 1) 0 rfl dX7_bus_1 ?_
  refine p_X7_56 (j := j7_bus) (pc := 2) rfl dX7_bus_2 (fun M => ?_)
  refine sn_iload_n (j := j7_bus) (pc := 5) rfl rfl dX7_bus_5 ?_
  refine sn_iconst (j := j7_bus) (pc := 6) 0 rfl dX7_bus_6 ?_
  refine sn_aload_n (j := j7_bus) (pc := 7) rfl rfl dX7_bus_7 ?_
  refine g_X7_7 (j := j7_bus) (pc := 8) rfl dX7_bus_8 ?_
  refine sn_iconst (j := j7_bus) (pc := 11) 2 rfl dX7_bus_11 ?_
  refine sn_iald (j := j7_bus) (pc := 12) rfl ⟨by decide, by decide⟩ dX7_bus_12 (fun w_1 => ?_)
  refine sn_iconst (j := j7_bus) (pc := 13) 1 rfl dX7_bus_13 ?_
  refine sn_isub (j := j7_bus) (pc := 14) dX7_bus_14 ?_
  refine sn_callS (j := j7_bus) (pc := 15) (jc := j7_in) (As := [.int x1, .int 0, .int (w_1 - 1)]) (s7_in x1 0 (w_1 - 1) M) mm_hvI (by simp [Value.category]) (Nat.le_of_ble_eq_true rfl) q7_in rfl (by decide) w_ml_X7_60 w_st_X7_in rfl (Nat.le_of_ble_eq_true rfl) dX7_bus_15 ?_
  rintro ⟨r_2, M⟩
  show Snd injI j7_bus mm_X0 18 [some (.ref 46), some (.int x1), some (.int x2), some (.int x3), some (.int x4), some (.int x5), some (.int x6), none] [.int r_2] M _
  refine sn_if_eq (j := j7_bus) (pc := 18) 86 rfl dX7_bus_18 ?_ ?_
  · exact Snd.wk (sl7_bus_86 M) (by simp [mm_le])
  · refine sn_iload_n (j := j7_bus) (pc := 21) rfl rfl dX7_bus_21 ?_
    refine sn_iconst (j := j7_bus) (pc := 22) 1 rfl dX7_bus_22 ?_
    refine sn_sipush (j := j7_bus) (pc := 23) 200 rfl dX7_bus_23 ?_
    refine sn_callS (j := j7_bus) (pc := 26) (jc := j7_in) (As := [.int x2, .int 1, .int 200]) (s7_in x2 1 200 M) mm_hvI (by simp [Value.category]) (Nat.le_of_ble_eq_true rfl) q7_in rfl (by decide) w_ml_X7_60 w_st_X7_in rfl (Nat.le_of_ble_eq_true rfl) dX7_bus_26 ?_
    rintro ⟨r_3, M⟩
    show Snd injI j7_bus mm_X0 29 [some (.ref 46), some (.int x1), some (.int x2), some (.int x3), some (.int x4), some (.int x5), some (.int x6), none] [.int r_3] M _
    refine sn_if_eq (j := j7_bus) (pc := 29) 86 rfl dX7_bus_29 ?_ ?_
    · exact Snd.wk (sl7_bus_86 M) (by simp [mm_le])
    · refine sn_iload_n (j := j7_bus) (pc := 32) rfl rfl dX7_bus_32 ?_
      refine sn_iconst (j := j7_bus) (pc := 33) 0 rfl dX7_bus_33 ?_
      refine sn_iload_n (j := j7_bus) (pc := 34) rfl rfl dX7_bus_34 ?_
      refine sn_callS (j := j7_bus) (pc := 35) (jc := j7_in) (As := [.int x3, .int 0, .int x2]) (s7_in x3 0 x2 M) mm_hvI (by simp [Value.category]) (Nat.le_of_ble_eq_true rfl) q7_in rfl (by decide) w_ml_X7_60 w_st_X7_in rfl (Nat.le_of_ble_eq_true rfl) dX7_bus_35 ?_
      rintro ⟨r_4, M⟩
      show Snd injI j7_bus mm_X0 38 [some (.ref 46), some (.int x1), some (.int x2), some (.int x3), some (.int x4), some (.int x5), some (.int x6), none] [.int r_4] M _
      refine sn_if_eq (j := j7_bus) (pc := 38) 86 rfl dX7_bus_38 ?_ ?_
      · exact Snd.wk (sl7_bus_86 M) (by simp [mm_le])
      · refine sn_iload (j := j7_bus) (pc := 41) rfl dX7_bus_41 ?_
        refine sn_iconst (j := j7_bus) (pc := 43) 0 rfl dX7_bus_43 ?_
        refine sn_iload_n (j := j7_bus) (pc := 44) rfl rfl dX7_bus_44 ?_
        refine sn_callS (j := j7_bus) (pc := 45) (jc := j7_in) (As := [.int x4, .int 0, .int x2]) (s7_in x4 0 x2 M) mm_hvI (by simp [Value.category]) (Nat.le_of_ble_eq_true rfl) q7_in rfl (by decide) w_ml_X7_60 w_st_X7_in rfl (Nat.le_of_ble_eq_true rfl) dX7_bus_45 ?_
        rintro ⟨r_5, M⟩
        show Snd injI j7_bus mm_X0 48 [some (.ref 46), some (.int x1), some (.int x2), some (.int x3), some (.int x4), some (.int x5), some (.int x6), none] [.int r_5] M _
        refine sn_if_eq (j := j7_bus) (pc := 48) 86 rfl dX7_bus_48 ?_ ?_
        · exact Snd.wk (sl7_bus_86 M) (by simp [mm_le])
        · refine sn_iload (j := j7_bus) (pc := 51) rfl dX7_bus_51 ?_
          refine sn_iconst (j := j7_bus) (pc := 53) 0 rfl dX7_bus_53 ?_
          refine sn_aload_n (j := j7_bus) (pc := 54) rfl rfl dX7_bus_54 ?_
          refine g_X7_7 (j := j7_bus) (pc := 55) rfl dX7_bus_55 ?_
          refine sn_iconst (j := j7_bus) (pc := 58) 0 rfl dX7_bus_58 ?_
          refine sn_iald (j := j7_bus) (pc := 59) rfl ⟨by decide, by decide⟩ dX7_bus_59 (fun w_6 => ?_)
          refine sn_iconst (j := j7_bus) (pc := 60) 1 rfl dX7_bus_60 ?_
          refine sn_isub (j := j7_bus) (pc := 61) dX7_bus_61 ?_
          refine sn_callS (j := j7_bus) (pc := 62) (jc := j7_in) (As := [.int x5, .int 0, .int (w_6 - 1)]) (s7_in x5 0 (w_6 - 1) M) mm_hvI (by simp [Value.category]) (Nat.le_of_ble_eq_true rfl) q7_in rfl (by decide) w_ml_X7_60 w_st_X7_in rfl (Nat.le_of_ble_eq_true rfl) dX7_bus_62 ?_
          rintro ⟨r_7, M⟩
          show Snd injI j7_bus mm_X0 65 [some (.ref 46), some (.int x1), some (.int x2), some (.int x3), some (.int x4), some (.int x5), some (.int x6), none] [.int r_7] M _
          refine sn_if_eq (j := j7_bus) (pc := 65) 86 rfl dX7_bus_65 ?_ ?_
          · exact Snd.wk (sl7_bus_86 M) (by simp [mm_le])
          · refine sn_iload (j := j7_bus) (pc := 68) rfl dX7_bus_68 ?_
            refine sn_iload (j := j7_bus) (pc := 70) rfl dX7_bus_70 ?_
            refine sn_iconst (j := j7_bus) (pc := 72) 1 rfl dX7_bus_72 ?_
            refine sn_iadd (j := j7_bus) (pc := 73) dX7_bus_73 ?_
            refine sn_aload_n (j := j7_bus) (pc := 74) rfl rfl dX7_bus_74 ?_
            refine g_X7_7 (j := j7_bus) (pc := 75) rfl dX7_bus_75 ?_
            refine sn_iconst (j := j7_bus) (pc := 78) 0 rfl dX7_bus_78 ?_
            refine sn_iald (j := j7_bus) (pc := 79) rfl ⟨by decide, by decide⟩ dX7_bus_79 (fun w_8 => ?_)
            refine sn_callS (j := j7_bus) (pc := 80) (jc := j7_in) (As := [.int x6, .int (x5 + 1), .int w_8]) (s7_in x6 (x5 + 1) w_8 M) mm_hvI (by simp [Value.category]) (Nat.le_of_ble_eq_true rfl) q7_in rfl (by decide) w_ml_X7_60 w_st_X7_in rfl (Nat.le_of_ble_eq_true rfl) dX7_bus_80 ?_
            rintro ⟨r_9, M⟩
            show Snd injI j7_bus mm_X0 83 [some (.ref 46), some (.int x1), some (.int x2), some (.int x3), some (.int x4), some (.int x5), some (.int x6), none] [.int r_9] M _
            refine sn_if_ne (j := j7_bus) (pc := 83) 88 rfl dX7_bus_83 ?_ ?_
            · refine sn_aload_n (j := j7_bus) (pc := 88) rfl rfl dX7_bus_88 ?_
              refine g_X7_7 (j := j7_bus) (pc := 89) rfl dX7_bus_89 ?_
              refine sn_iconst (j := j7_bus) (pc := 92) 1 rfl dX7_bus_92 ?_
              refine sn_iald (j := j7_bus) (pc := 93) rfl ⟨by decide, by decide⟩ dX7_bus_93 (fun w_10 => ?_)
              refine sn_iconst (j := j7_bus) (pc := 94) 4 rfl dX7_bus_94 ?_
              refine sn_icmp_ne (j := j7_bus) (pc := 95) 101 rfl dX7_bus_95 ?_ ?_
              · refine sn_bipush (j := j7_bus) (pc := 101) 50 rfl dX7_bus_101 ?_
                refine sn_bipush (j := j7_bus) (pc := 103) 6 rfl dX7_bus_103 ?_
                refine sn_aload_n (j := j7_bus) (pc := 105) rfl rfl dX7_bus_105 ?_
                refine g_X7_7 (j := j7_bus) (pc := 106) rfl dX7_bus_106 ?_
                refine sn_iconst (j := j7_bus) (pc := 109) 1 rfl dX7_bus_109 ?_
                refine sn_iald (j := j7_bus) (pc := 110) rfl ⟨by decide, by decide⟩ dX7_bus_110 (fun w_11 => ?_)
                refine sn_imul (j := j7_bus) (pc := 111) dX7_bus_111 ?_
                refine sn_iadd (j := j7_bus) (pc := 112) dX7_bus_112 ?_
                refine sn_istoreB (j := j7_bus) (pc := 113) (fun x7_12 => [some (.ref 46), some (.int x1), some (.int x2), some (.int x3), some (.int x4), some (.int x5), some (.int x6), some (.int x7_12)]) (by decide) (fun _ => rfl) dX7_bus_113 (fun x7_12 => ?_)
                refine sn_aload_n (j := j7_bus) (pc := 115) rfl rfl dX7_bus_115 ?_
                refine g_X7_7 (j := j7_bus) (pc := 116) rfl dX7_bus_116 ?_
                refine sn_iload (j := j7_bus) (pc := 119) rfl dX7_bus_119 ?_
                refine sn_iload_n (j := j7_bus) (pc := 121) rfl rfl dX7_bus_121 ?_
                refine sn_iast (j := j7_bus) (pc := 122) rfl ⟨by decide, by decide⟩ dX7_bus_122 (fun M => ?_)
                refine sn_aload_n (j := j7_bus) (pc := 123) rfl rfl dX7_bus_123 ?_
                refine g_X7_7 (j := j7_bus) (pc := 124) rfl dX7_bus_124 ?_
                refine sn_iload (j := j7_bus) (pc := 127) rfl dX7_bus_127 ?_
                refine sn_iconst (j := j7_bus) (pc := 129) 1 rfl dX7_bus_129 ?_
                refine sn_iadd (j := j7_bus) (pc := 130) dX7_bus_130 ?_
                refine sn_iload_n (j := j7_bus) (pc := 131) rfl rfl dX7_bus_131 ?_
                refine sn_iast (j := j7_bus) (pc := 132) rfl ⟨by decide, by decide⟩ dX7_bus_132 (fun M => ?_)
                refine sn_aload_n (j := j7_bus) (pc := 133) rfl rfl dX7_bus_133 ?_
                refine g_X7_7 (j := j7_bus) (pc := 134) rfl dX7_bus_134 ?_
                refine sn_iload (j := j7_bus) (pc := 137) rfl dX7_bus_137 ?_
                refine sn_iconst (j := j7_bus) (pc := 139) 2 rfl dX7_bus_139 ?_
                refine sn_iadd (j := j7_bus) (pc := 140) dX7_bus_140 ?_
                refine sn_iload_n (j := j7_bus) (pc := 141) rfl rfl dX7_bus_141 ?_
                refine sn_iast (j := j7_bus) (pc := 142) rfl ⟨by decide, by decide⟩ dX7_bus_142 (fun M => ?_)
                refine sn_aload_n (j := j7_bus) (pc := 143) rfl rfl dX7_bus_143 ?_
                refine g_X7_7 (j := j7_bus) (pc := 144) rfl dX7_bus_144 ?_
                refine sn_iload (j := j7_bus) (pc := 147) rfl dX7_bus_147 ?_
                refine sn_iconst (j := j7_bus) (pc := 149) 3 rfl dX7_bus_149 ?_
                refine sn_iadd (j := j7_bus) (pc := 150) dX7_bus_150 ?_
                refine sn_iload (j := j7_bus) (pc := 151) rfl dX7_bus_151 ?_
                refine sn_iast (j := j7_bus) (pc := 153) rfl ⟨by decide, by decide⟩ dX7_bus_153 (fun M => ?_)
                refine sn_aload_n (j := j7_bus) (pc := 154) rfl rfl dX7_bus_154 ?_
                refine g_X7_7 (j := j7_bus) (pc := 155) rfl dX7_bus_155 ?_
                refine sn_iload (j := j7_bus) (pc := 158) rfl dX7_bus_158 ?_
                refine sn_iconst (j := j7_bus) (pc := 160) 4 rfl dX7_bus_160 ?_
                refine sn_iadd (j := j7_bus) (pc := 161) dX7_bus_161 ?_
                refine sn_iload (j := j7_bus) (pc := 162) rfl dX7_bus_162 ?_
                refine sn_iast (j := j7_bus) (pc := 164) rfl ⟨by decide, by decide⟩ dX7_bus_164 (fun M => ?_)
                refine sn_aload_n (j := j7_bus) (pc := 165) rfl rfl dX7_bus_165 ?_
                refine g_X7_7 (j := j7_bus) (pc := 166) rfl dX7_bus_166 ?_
                refine sn_iload (j := j7_bus) (pc := 169) rfl dX7_bus_169 ?_
                refine sn_iconst (j := j7_bus) (pc := 171) 5 rfl dX7_bus_171 ?_
                refine sn_iadd (j := j7_bus) (pc := 172) dX7_bus_172 ?_
                refine sn_iload (j := j7_bus) (pc := 173) rfl dX7_bus_173 ?_
                refine sn_iast (j := j7_bus) (pc := 175) rfl ⟨by decide, by decide⟩ dX7_bus_175 (fun M => ?_)
                refine sn_aload_n (j := j7_bus) (pc := 176) rfl rfl dX7_bus_176 ?_
                refine g_X7_7 (j := j7_bus) (pc := 177) rfl dX7_bus_177 ?_
                refine sn_iconst (j := j7_bus) (pc := 180) 1 rfl dX7_bus_180 ?_
                refine sn_dup2 (j := j7_bus) (pc := 181) rfl rfl dX7_bus_181 ?_
                refine sn_iald (j := j7_bus) (pc := 182) rfl ⟨by decide, by decide⟩ dX7_bus_182 (fun w_13 => ?_)
                refine sn_iconst (j := j7_bus) (pc := 183) 1 rfl dX7_bus_183 ?_
                refine sn_iadd (j := j7_bus) (pc := 184) dX7_bus_184 ?_
                refine sn_iast (j := j7_bus) (pc := 185) rfl ⟨by decide, by decide⟩ dX7_bus_185 (fun M => ?_)
                refine sn_aload_n (j := j7_bus) (pc := 186) rfl rfl dX7_bus_186 ?_
                refine g_X7_7 (j := j7_bus) (pc := 187) rfl dX7_bus_187 ?_
                refine sn_iconst (j := j7_bus) (pc := 190) 1 rfl dX7_bus_190 ?_
                refine sn_iald (j := j7_bus) (pc := 191) rfl ⟨by decide, by decide⟩ dX7_bus_191 (fun w_14 => ?_)
                refine sn_iconst (j := j7_bus) (pc := 192) 1 rfl dX7_bus_192 ?_
                refine sn_isub (j := j7_bus) (pc := 193) dX7_bus_193 ?_
                exact sn_iret (j := j7_bus) (pc := 194) rfl dX7_bus_194
              · refine sn_bipush (j := j7_bus) (pc := 98) (-2) rfl dX7_bus_98 ?_
                exact sn_iret (j := j7_bus) (pc := 100) rfl dX7_bus_100
            · exact Snd.wk (sl7_bus_86 M) (by simp [mm_le])

abbrev j7_drop : mm_J := (yX7_drop, cX7_drop, 2, (some .int), 0)
theorem dX7_drop_0 : decode cX7_drop 0 = .ok (.aload_n 0, 1) := by decide +kernel
theorem dX7_drop_1 : decode cX7_drop 1 = .ok (.iconst 0, 1) := by decide +kernel
theorem dX7_drop_2 : decode cX7_drop 2 = .ok (.putfield 56, 3) := by decide +kernel
theorem dX7_drop_5 : decode cX7_drop 5 = .ok (.aload_n 0, 1) := by decide +kernel
theorem dX7_drop_6 : decode cX7_drop 6 = .ok (.getfield 7, 3) := by decide +kernel
theorem dX7_drop_9 : decode cX7_drop 9 = .ok (.iconst 1, 1) := by decide +kernel
theorem dX7_drop_10 : decode cX7_drop 10 = .ok (.iaload, 1) := by decide +kernel
theorem dX7_drop_11 : decode cX7_drop 11 = .ok (.ifCond .ne 5, 3) := by decide +kernel
theorem dX7_drop_14 : decode cX7_drop 14 = .ok (.iconst (-1), 1) := by decide +kernel
theorem dX7_drop_15 : decode cX7_drop 15 = .ok (.ireturn, 1) := by decide +kernel
theorem dX7_drop_16 : decode cX7_drop 16 = .ok (.aload_n 0, 1) := by decide +kernel
theorem dX7_drop_17 : decode cX7_drop 17 = .ok (.getfield 7, 3) := by decide +kernel
theorem dX7_drop_20 : decode cX7_drop 20 = .ok (.iconst 1, 1) := by decide +kernel
theorem dX7_drop_21 : decode cX7_drop 21 = .ok (.dup2, 1) := by decide +kernel
theorem dX7_drop_22 : decode cX7_drop 22 = .ok (.iaload, 1) := by decide +kernel
theorem dX7_drop_23 : decode cX7_drop 23 = .ok (.iconst 1, 1) := by decide +kernel
theorem dX7_drop_24 : decode cX7_drop 24 = .ok (.isub, 1) := by decide +kernel
theorem dX7_drop_25 : decode cX7_drop 25 = .ok (.iastore, 1) := by decide +kernel
theorem dX7_drop_26 : decode cX7_drop 26 = .ok (.iconst 0, 1) := by decide +kernel
theorem dX7_drop_27 : decode cX7_drop 27 = .ok (.istore_n 1, 1) := by decide +kernel
theorem dX7_drop_28 : decode cX7_drop 28 = .ok (.iload_n 1, 1) := by decide +kernel
theorem dX7_drop_29 : decode cX7_drop 29 = .ok (.bipush 8, 2) := by decide +kernel
theorem dX7_drop_31 : decode cX7_drop 31 = .ok (.if_icmp .ge 31, 3) := by decide +kernel
theorem dX7_drop_34 : decode cX7_drop 34 = .ok (.aload_n 0, 1) := by decide +kernel
theorem dX7_drop_35 : decode cX7_drop 35 = .ok (.getfield 7, 3) := by decide +kernel
theorem dX7_drop_38 : decode cX7_drop 38 = .ok (.bipush 74, 2) := by decide +kernel
theorem dX7_drop_40 : decode cX7_drop 40 = .ok (.iload_n 1, 1) := by decide +kernel
theorem dX7_drop_41 : decode cX7_drop 41 = .ok (.iadd, 1) := by decide +kernel
theorem dX7_drop_42 : decode cX7_drop 42 = .ok (.dup2, 1) := by decide +kernel
theorem dX7_drop_43 : decode cX7_drop 43 = .ok (.iaload, 1) := by decide +kernel
theorem dX7_drop_44 : decode cX7_drop 44 = .ok (.iconst 1, 1) := by decide +kernel
theorem dX7_drop_45 : decode cX7_drop 45 = .ok (.aload_n 0, 1) := by decide +kernel
theorem dX7_drop_46 : decode cX7_drop 46 = .ok (.getfield 7, 3) := by decide +kernel
theorem dX7_drop_49 : decode cX7_drop 49 = .ok (.iconst 1, 1) := by decide +kernel
theorem dX7_drop_50 : decode cX7_drop 50 = .ok (.iaload, 1) := by decide +kernel
theorem dX7_drop_51 : decode cX7_drop 51 = .ok (.ishl, 1) := by decide +kernel
theorem dX7_drop_52 : decode cX7_drop 52 = .ok (.iconst 1, 1) := by decide +kernel
theorem dX7_drop_53 : decode cX7_drop 53 = .ok (.isub, 1) := by decide +kernel
theorem dX7_drop_54 : decode cX7_drop 54 = .ok (.iand, 1) := by decide +kernel
theorem dX7_drop_55 : decode cX7_drop 55 = .ok (.iastore, 1) := by decide +kernel
theorem dX7_drop_56 : decode cX7_drop 56 = .ok (.iinc 1 1, 3) := by decide +kernel
theorem dX7_drop_59 : decode cX7_drop 59 = .ok (.goto (-31), 3) := by decide +kernel
theorem dX7_drop_62 : decode cX7_drop 62 = .ok (.aload_n 0, 1) := by decide +kernel
theorem dX7_drop_63 : decode cX7_drop 63 = .ok (.getfield 7, 3) := by decide +kernel
theorem dX7_drop_66 : decode cX7_drop 66 = .ok (.iconst 1, 1) := by decide +kernel
theorem dX7_drop_67 : decode cX7_drop 67 = .ok (.iaload, 1) := by decide +kernel
theorem dX7_drop_68 : decode cX7_drop 68 = .ok (.ireturn, 1) := by decide +kernel
def b7_drop_28  (rec28 : Int32 → mm_M → Option (Int32 × mm_M)) (x1 : Int32) (M : mm_M) : Option (Int32 × mm_M) :=
  if 8 ≤ x1 then (aI 47 82 1 M (fun w_1 => some (w_1, M))) else (aI 47 82 (74 + x1) M (fun w_2 => aI 47 82 1 M (fun w_3 => uI 47 82 (74 + x1) (w_2 &&& ((1 <<< (w_3 &&& 31)) - 1)) M (fun M => rec28 (x1 + 1) M))))
set_option maxHeartbeats 2000000 in
theorem sb7_drop_28   (rec28 : Int32 → mm_M → Option (Int32 × mm_M)) (hrec28 : ∀ (x1 : Int32) (M : mm_M), Snd injI j7_drop mm_X0 28 [some (.ref 46), some (.int x1)] [] M (rec28 x1 M)) (x1 : Int32)  (M : mm_M) : Snd injI j7_drop mm_X0 28 [some (.ref 46), some (.int x1)] [] M (b7_drop_28  rec28 x1 M) := by
  unfold b7_drop_28
  refine sn_iload_n (j := j7_drop) (pc := 28) rfl rfl dX7_drop_28 ?_
  refine sn_bipush (j := j7_drop) (pc := 29) 8 rfl dX7_drop_29 ?_
  refine sn_icmp_ge (j := j7_drop) (pc := 31) 62 rfl dX7_drop_31 ?_ ?_
  · refine sn_aload_n (j := j7_drop) (pc := 62) rfl rfl dX7_drop_62 ?_
    refine g_X7_7 (j := j7_drop) (pc := 63) rfl dX7_drop_63 ?_
    refine sn_iconst (j := j7_drop) (pc := 66) 1 rfl dX7_drop_66 ?_
    refine sn_iald (j := j7_drop) (pc := 67) rfl ⟨by decide, by decide⟩ dX7_drop_67 (fun w_1 => ?_)
    exact sn_iret (j := j7_drop) (pc := 68) rfl dX7_drop_68
  · refine sn_aload_n (j := j7_drop) (pc := 34) rfl rfl dX7_drop_34 ?_
    refine g_X7_7 (j := j7_drop) (pc := 35) rfl dX7_drop_35 ?_
    refine sn_bipush (j := j7_drop) (pc := 38) 74 rfl dX7_drop_38 ?_
    refine sn_iload_n (j := j7_drop) (pc := 40) rfl rfl dX7_drop_40 ?_
    refine sn_iadd (j := j7_drop) (pc := 41) dX7_drop_41 ?_
    refine sn_dup2 (j := j7_drop) (pc := 42) rfl rfl dX7_drop_42 ?_
    refine sn_iald (j := j7_drop) (pc := 43) rfl ⟨by decide, by decide⟩ dX7_drop_43 (fun w_2 => ?_)
    refine sn_iconst (j := j7_drop) (pc := 44) 1 rfl dX7_drop_44 ?_
    refine sn_aload_n (j := j7_drop) (pc := 45) rfl rfl dX7_drop_45 ?_
    refine g_X7_7 (j := j7_drop) (pc := 46) rfl dX7_drop_46 ?_
    refine sn_iconst (j := j7_drop) (pc := 49) 1 rfl dX7_drop_49 ?_
    refine sn_iald (j := j7_drop) (pc := 50) rfl ⟨by decide, by decide⟩ dX7_drop_50 (fun w_3 => ?_)
    refine sn_ishl (j := j7_drop) (pc := 51) dX7_drop_51 ?_
    refine sn_iconst (j := j7_drop) (pc := 52) 1 rfl dX7_drop_52 ?_
    refine sn_isub (j := j7_drop) (pc := 53) dX7_drop_53 ?_
    refine sn_iand (j := j7_drop) (pc := 54) dX7_drop_54 ?_
    refine sn_iast (j := j7_drop) (pc := 55) rfl ⟨by decide, by decide⟩ dX7_drop_55 (fun M => ?_)
    refine sn_iinc (j := j7_drop) (pc := 56) 1 rfl (by decide) rfl (lo' := [some (.ref 46), some (.int (x1 + 1))]) rfl dX7_drop_56 ?_
    refine sn_goto (j := j7_drop) (pc := 59) 28 rfl dX7_drop_59 ?_
    exact Snd.wk (hrec28 (x1 + 1) M ) (by simp [mm_le])
def l7_drop_28  : Nat → Int32 → mm_M → Option (Int32 × mm_M)
  | 0 => fun _ _ => none
  | n + 1 => fun x1 M => b7_drop_28  (l7_drop_28  n) x1 M
theorem sl7_drop_28   : ∀ (n : Nat) (x1 : Int32)  (M : mm_M), Snd injI j7_drop mm_X0 28 [some (.ref 46), some (.int x1)] [] M (l7_drop_28  n x1 M)
  | 0 => fun _  _ => Snd.none
  | n + 1 => fun x1  M => sb7_drop_28   (l7_drop_28  n) (fun x1 M  => sl7_drop_28   n x1  M) x1  M
def f7_drop  (M : mm_M) : Option (Int32 × mm_M) :=
  bM (sI M 46 0 0) (fun M => aI 47 82 1 M (fun w_4 => if w_4 = 0 then (some ((-1), M)) else (aI 47 82 1 M (fun w_5 => uI 47 82 1 (w_5 - 1) M (fun M => l7_drop_28 FU 0 M)))))
set_option maxHeartbeats 2000000 in
theorem s7_drop  (M : mm_M) : Snd injI j7_drop mm_X0 0 [some (.ref 46)] [] M (f7_drop  M) := by
  refine Snd.wk (lo' := [some (.ref 46), none]) ?_ (by simp [mm_le])
  unfold f7_drop
  refine sn_aload_n (j := j7_drop) (pc := 0) rfl rfl dX7_drop_0 ?_
  refine sn_iconst (j := j7_drop) (pc := 1) 0 rfl dX7_drop_1 ?_
  refine p_X7_56 (j := j7_drop) (pc := 2) rfl dX7_drop_2 (fun M => ?_)
  refine sn_aload_n (j := j7_drop) (pc := 5) rfl rfl dX7_drop_5 ?_
  refine g_X7_7 (j := j7_drop) (pc := 6) rfl dX7_drop_6 ?_
  refine sn_iconst (j := j7_drop) (pc := 9) 1 rfl dX7_drop_9 ?_
  refine sn_iald (j := j7_drop) (pc := 10) rfl ⟨by decide, by decide⟩ dX7_drop_10 (fun w_4 => ?_)
  refine sn_if_ne (j := j7_drop) (pc := 11) 16 rfl dX7_drop_11 ?_ ?_
  · refine sn_aload_n (j := j7_drop) (pc := 16) rfl rfl dX7_drop_16 ?_
    refine g_X7_7 (j := j7_drop) (pc := 17) rfl dX7_drop_17 ?_
    refine sn_iconst (j := j7_drop) (pc := 20) 1 rfl dX7_drop_20 ?_
    refine sn_dup2 (j := j7_drop) (pc := 21) rfl rfl dX7_drop_21 ?_
    refine sn_iald (j := j7_drop) (pc := 22) rfl ⟨by decide, by decide⟩ dX7_drop_22 (fun w_5 => ?_)
    refine sn_iconst (j := j7_drop) (pc := 23) 1 rfl dX7_drop_23 ?_
    refine sn_isub (j := j7_drop) (pc := 24) dX7_drop_24 ?_
    refine sn_iast (j := j7_drop) (pc := 25) rfl ⟨by decide, by decide⟩ dX7_drop_25 (fun M => ?_)
    refine sn_iconst (j := j7_drop) (pc := 26) 0 rfl dX7_drop_26 ?_
    refine sn_istore_n (j := j7_drop) (pc := 27) rfl (by decide) (lo' := [some (.ref 46), some (.int 0)]) rfl dX7_drop_27 ?_
    exact Snd.wk (sl7_drop_28 FU 0 M) (by simp [mm_le])
  · refine sn_iconst (j := j7_drop) (pc := 14) (-1) rfl dX7_drop_14 ?_
    exact sn_iret (j := j7_drop) (pc := 15) rfl dX7_drop_15

abbrev j7_charge : mm_J := (yX7_charge, cX7_charge, 4, (some .boolean), 2)
theorem dX7_charge_0 : decode cX7_charge 0 = .ok (.aload_n 0, 1) := by decide +kernel
theorem dX7_charge_1 : decode cX7_charge 1 = .ok (.iconst 0, 1) := by decide +kernel
theorem dX7_charge_2 : decode cX7_charge 2 = .ok (.putfield 56, 3) := by decide +kernel
theorem dX7_charge_5 : decode cX7_charge 5 = .ok (.aload_n 0, 1) := by decide +kernel
theorem dX7_charge_6 : decode cX7_charge 6 = .ok (.iload_n 1, 1) := by decide +kernel
theorem dX7_charge_7 : decode cX7_charge 7 = .ok (.invokevirtual 169, 3) := by decide +kernel
theorem dX7_charge_10 : decode cX7_charge 10 = .ok (.ifCond .eq 28, 3) := by decide +kernel
theorem dX7_charge_13 : decode cX7_charge 13 = .ok (.aload_n 0, 1) := by decide +kernel
theorem dX7_charge_14 : decode cX7_charge 14 = .ok (.iload_n 2, 1) := by decide +kernel
theorem dX7_charge_15 : decode cX7_charge 15 = .ok (.invokevirtual 172, 3) := by decide +kernel
theorem dX7_charge_18 : decode cX7_charge 18 = .ok (.ifCond .eq 20, 3) := by decide +kernel
theorem dX7_charge_21 : decode cX7_charge 21 = .ok (.aload_n 0, 1) := by decide +kernel
theorem dX7_charge_22 : decode cX7_charge 22 = .ok (.getfield 7, 3) := by decide +kernel
theorem dX7_charge_25 : decode cX7_charge 25 = .ok (.bipush 74, 2) := by decide +kernel
theorem dX7_charge_27 : decode cX7_charge 27 = .ok (.iload_n 1, 1) := by decide +kernel
theorem dX7_charge_28 : decode cX7_charge 28 = .ok (.iadd, 1) := by decide +kernel
theorem dX7_charge_29 : decode cX7_charge 29 = .ok (.iaload, 1) := by decide +kernel
theorem dX7_charge_30 : decode cX7_charge 30 = .ok (.iload_n 2, 1) := by decide +kernel
theorem dX7_charge_31 : decode cX7_charge 31 = .ok (.invokestatic 110, 3) := by decide +kernel
theorem dX7_charge_34 : decode cX7_charge 34 = .ok (.iload_n 3, 1) := by decide +kernel
theorem dX7_charge_35 : decode cX7_charge 35 = .ok (.if_icmp .ne 5, 3) := by decide +kernel
theorem dX7_charge_38 : decode cX7_charge 38 = .ok (.iconst 0, 1) := by decide +kernel
theorem dX7_charge_39 : decode cX7_charge 39 = .ok (.ireturn, 1) := by decide +kernel
theorem dX7_charge_40 : decode cX7_charge 40 = .ok (.aload_n 0, 1) := by decide +kernel
theorem dX7_charge_41 : decode cX7_charge 41 = .ok (.getfield 7, 3) := by decide +kernel
theorem dX7_charge_44 : decode cX7_charge 44 = .ok (.bipush 74, 2) := by decide +kernel
theorem dX7_charge_46 : decode cX7_charge 46 = .ok (.iload_n 1, 1) := by decide +kernel
theorem dX7_charge_47 : decode cX7_charge 47 = .ok (.iadd, 1) := by decide +kernel
theorem dX7_charge_48 : decode cX7_charge 48 = .ok (.dup2, 1) := by decide +kernel
theorem dX7_charge_49 : decode cX7_charge 49 = .ok (.iaload, 1) := by decide +kernel
theorem dX7_charge_50 : decode cX7_charge 50 = .ok (.iconst 1, 1) := by decide +kernel
theorem dX7_charge_51 : decode cX7_charge 51 = .ok (.iload_n 2, 1) := by decide +kernel
theorem dX7_charge_52 : decode cX7_charge 52 = .ok (.ishl, 1) := by decide +kernel
theorem dX7_charge_53 : decode cX7_charge 53 = .ok (.ixor, 1) := by decide +kernel
theorem dX7_charge_54 : decode cX7_charge 54 = .ok (.iastore, 1) := by decide +kernel
theorem dX7_charge_55 : decode cX7_charge 55 = .ok (.iconst 1, 1) := by decide +kernel
theorem dX7_charge_56 : decode cX7_charge 56 = .ok (.ireturn, 1) := by decide +kernel
def l7_charge_38   (M : mm_M) : Option (Int32 × mm_M) :=
  rZ 0 M
set_option maxHeartbeats 2000000 in
theorem sl7_charge_38     (M : mm_M) : Snd injI j7_charge mm_X0 38 [none, none, none, none] [] M (l7_charge_38   M) := by
  unfold l7_charge_38
  refine sn_iconst (j := j7_charge) (pc := 38) 0 rfl dX7_charge_38 ?_
  exact sn_zret (j := j7_charge) (pc := 39) rfl dX7_charge_39
def f7_charge (x1 : Int32) (x2 : Int32) (x3 : Int32) (M : mm_M) : Option (Int32 × mm_M) :=
  bM (sI M 46 0 0) (fun M => cI (f7_isSlot x1 M) (fun r_1 M => if r_1 = 0 then (l7_charge_38 M) else (cI (f7_isBus x2 M) (fun r_2 M => if r_2 = 0 then (l7_charge_38 M) else (aI 47 82 (74 + x1) M (fun w_3 => cI (f7_has w_3 x2 M) (fun r_4 M => if r_4 = x3 then (l7_charge_38 M) else (aI 47 82 (74 + x1) M (fun w_5 => uI 47 82 (74 + x1) (w_5 ^^^ (1 <<< (x2 &&& 31))) M (fun M => rZ 1 M))))))))))
set_option maxHeartbeats 2000000 in
theorem s7_charge (x1 : Int32) (x2 : Int32) (x3 : Int32) (M : mm_M) : Snd injI j7_charge mm_X0 0 [some (.ref 46), some (.int x1), some (.int x2), some (.int x3)] [] M (f7_charge x1 x2 x3 M) := by
  refine Snd.wk (lo' := [some (.ref 46), some (.int x1), some (.int x2), some (.int x3)]) ?_ (by simp [mm_le])
  unfold f7_charge
  refine sn_aload_n (j := j7_charge) (pc := 0) rfl rfl dX7_charge_0 ?_
  refine sn_iconst (j := j7_charge) (pc := 1) 0 rfl dX7_charge_1 ?_
  refine p_X7_56 (j := j7_charge) (pc := 2) rfl dX7_charge_2 (fun M => ?_)
  refine sn_aload_n (j := j7_charge) (pc := 5) rfl rfl dX7_charge_5 ?_
  refine sn_iload_n (j := j7_charge) (pc := 6) rfl rfl dX7_charge_6 ?_
  refine sn_callV (j := j7_charge) (pc := 7) (jc := j7_isSlot) (As := [.int x1]) (s7_isSlot x1 M) mm_hvI (by simp [Value.category]) (Nat.le_of_ble_eq_true rfl) q7_isSlot rfl (by decide) rfl rfl ⟨by decide, by decide⟩ w_ml_X7_169 w_im_X7_isSlot w_se_X7_isSlot rfl (Nat.le_of_ble_eq_true rfl) dX7_charge_7 ?_
  rintro ⟨r_1, M⟩
  show Snd injI j7_charge mm_X0 10 [some (.ref 46), some (.int x1), some (.int x2), some (.int x3)] [.int r_1] M _
  refine sn_if_eq (j := j7_charge) (pc := 10) 38 rfl dX7_charge_10 ?_ ?_
  · exact Snd.wk (sl7_charge_38 M) (by simp [mm_le])
  · refine sn_aload_n (j := j7_charge) (pc := 13) rfl rfl dX7_charge_13 ?_
    refine sn_iload_n (j := j7_charge) (pc := 14) rfl rfl dX7_charge_14 ?_
    refine sn_callV (j := j7_charge) (pc := 15) (jc := j7_isBus) (As := [.int x2]) (s7_isBus x2 M) mm_hvI (by simp [Value.category]) (Nat.le_of_ble_eq_true rfl) q7_isBus rfl (by decide) rfl rfl ⟨by decide, by decide⟩ w_ml_X7_172 w_im_X7_isBus w_se_X7_isBus rfl (Nat.le_of_ble_eq_true rfl) dX7_charge_15 ?_
    rintro ⟨r_2, M⟩
    show Snd injI j7_charge mm_X0 18 [some (.ref 46), some (.int x1), some (.int x2), some (.int x3)] [.int r_2] M _
    refine sn_if_eq (j := j7_charge) (pc := 18) 38 rfl dX7_charge_18 ?_ ?_
    · exact Snd.wk (sl7_charge_38 M) (by simp [mm_le])
    · refine sn_aload_n (j := j7_charge) (pc := 21) rfl rfl dX7_charge_21 ?_
      refine g_X7_7 (j := j7_charge) (pc := 22) rfl dX7_charge_22 ?_
      refine sn_bipush (j := j7_charge) (pc := 25) 74 rfl dX7_charge_25 ?_
      refine sn_iload_n (j := j7_charge) (pc := 27) rfl rfl dX7_charge_27 ?_
      refine sn_iadd (j := j7_charge) (pc := 28) dX7_charge_28 ?_
      refine sn_iald (j := j7_charge) (pc := 29) rfl ⟨by decide, by decide⟩ dX7_charge_29 (fun w_3 => ?_)
      refine sn_iload_n (j := j7_charge) (pc := 30) rfl rfl dX7_charge_30 ?_
      refine sn_callS (j := j7_charge) (pc := 31) (jc := j7_has) (As := [.int w_3, .int x2]) (s7_has w_3 x2 M) mm_hvI (by simp [Value.category]) (Nat.le_of_ble_eq_true rfl) q7_has rfl (by decide) w_ml_X7_110 w_st_X7_has rfl (Nat.le_of_ble_eq_true rfl) dX7_charge_31 ?_
      rintro ⟨r_4, M⟩
      show Snd injI j7_charge mm_X0 34 [some (.ref 46), some (.int x1), some (.int x2), some (.int x3)] [.int r_4] M _
      refine sn_iload_n (j := j7_charge) (pc := 34) rfl rfl dX7_charge_34 ?_
      refine sn_icmp_ne (j := j7_charge) (pc := 35) 40 rfl dX7_charge_35 ?_ ?_
      · refine sn_aload_n (j := j7_charge) (pc := 40) rfl rfl dX7_charge_40 ?_
        refine g_X7_7 (j := j7_charge) (pc := 41) rfl dX7_charge_41 ?_
        refine sn_bipush (j := j7_charge) (pc := 44) 74 rfl dX7_charge_44 ?_
        refine sn_iload_n (j := j7_charge) (pc := 46) rfl rfl dX7_charge_46 ?_
        refine sn_iadd (j := j7_charge) (pc := 47) dX7_charge_47 ?_
        refine sn_dup2 (j := j7_charge) (pc := 48) rfl rfl dX7_charge_48 ?_
        refine sn_iald (j := j7_charge) (pc := 49) rfl ⟨by decide, by decide⟩ dX7_charge_49 (fun w_5 => ?_)
        refine sn_iconst (j := j7_charge) (pc := 50) 1 rfl dX7_charge_50 ?_
        refine sn_iload_n (j := j7_charge) (pc := 51) rfl rfl dX7_charge_51 ?_
        refine sn_ishl (j := j7_charge) (pc := 52) dX7_charge_52 ?_
        refine sn_ixor (j := j7_charge) (pc := 53) dX7_charge_53 ?_
        refine sn_iast (j := j7_charge) (pc := 54) rfl ⟨by decide, by decide⟩ dX7_charge_54 (fun M => ?_)
        refine sn_iconst (j := j7_charge) (pc := 55) 1 rfl dX7_charge_55 ?_
        exact sn_zret (j := j7_charge) (pc := 56) rfl dX7_charge_56
      · exact Snd.wk (sl7_charge_38 M) (by simp [mm_le])
