abbrev j5_isWord : mm_J := (yX5_isWord, cX5_isWord, 3, (some .boolean), 4)
theorem dX5_isWord_0 : decode cX5_isWord 0 = .ok (.aload_n 0, 1) := by decide +kernel
theorem dX5_isWord_1 : decode cX5_isWord 1 = .ok (.getfield 19, 3) := by decide +kernel
theorem dX5_isWord_4 : decode cX5_isWord 4 = .ok (.iconst 1, 1) := by decide +kernel
theorem dX5_isWord_5 : decode cX5_isWord 5 = .ok (.if_icmp .ne 19, 3) := by decide +kernel
theorem dX5_isWord_8 : decode cX5_isWord 8 = .ok (.aload_n 0, 1) := by decide +kernel
theorem dX5_isWord_9 : decode cX5_isWord 9 = .ok (.getfield 28, 3) := by decide +kernel
theorem dX5_isWord_12 : decode cX5_isWord 12 = .ok (.aload_n 0, 1) := by decide +kernel
theorem dX5_isWord_13 : decode cX5_isWord 13 = .ok (.getfield 22, 3) := by decide +kernel
theorem dX5_isWord_16 : decode cX5_isWord 16 = .ok (.isub, 1) := by decide +kernel
theorem dX5_isWord_17 : decode cX5_isWord 17 = .ok (.aload_n 1, 1) := by decide +kernel
theorem dX5_isWord_18 : decode cX5_isWord 18 = .ok (.invokevirtual 47, 3) := by decide +kernel
theorem dX5_isWord_21 : decode cX5_isWord 21 = .ok (.if_icmp .eq 5, 3) := by decide +kernel
theorem dX5_isWord_24 : decode cX5_isWord 24 = .ok (.iconst 0, 1) := by decide +kernel
theorem dX5_isWord_25 : decode cX5_isWord 25 = .ok (.ireturn, 1) := by decide +kernel
theorem dX5_isWord_26 : decode cX5_isWord 26 = .ok (.iconst 0, 1) := by decide +kernel
theorem dX5_isWord_27 : decode cX5_isWord 27 = .ok (.istore_n 2, 1) := by decide +kernel
theorem dX5_isWord_28 : decode cX5_isWord 28 = .ok (.iload_n 2, 1) := by decide +kernel
theorem dX5_isWord_29 : decode cX5_isWord 29 = .ok (.aload_n 1, 1) := by decide +kernel
theorem dX5_isWord_30 : decode cX5_isWord 30 = .ok (.invokevirtual 47, 3) := by decide +kernel
theorem dX5_isWord_33 : decode cX5_isWord 33 = .ok (.if_icmp .ge 43, 3) := by decide +kernel
theorem dX5_isWord_36 : decode cX5_isWord 36 = .ok (.aload_n 0, 1) := by decide +kernel
theorem dX5_isWord_37 : decode cX5_isWord 37 = .ok (.getfield 22, 3) := by decide +kernel
theorem dX5_isWord_40 : decode cX5_isWord 40 = .ok (.iload_n 2, 1) := by decide +kernel
theorem dX5_isWord_41 : decode cX5_isWord 41 = .ok (.iadd, 1) := by decide +kernel
theorem dX5_isWord_42 : decode cX5_isWord 42 = .ok (.aload_n 0, 1) := by decide +kernel
theorem dX5_isWord_43 : decode cX5_isWord 43 = .ok (.getfield 15, 3) := by decide +kernel
theorem dX5_isWord_46 : decode cX5_isWord 46 = .ok (.if_icmp .ge 30, 3) := by decide +kernel
theorem dX5_isWord_49 : decode cX5_isWord 49 = .ok (.aload_n 0, 1) := by decide +kernel
theorem dX5_isWord_50 : decode cX5_isWord 50 = .ok (.getfield 9, 3) := by decide +kernel
theorem dX5_isWord_53 : decode cX5_isWord 53 = .ok (.aload_n 0, 1) := by decide +kernel
theorem dX5_isWord_54 : decode cX5_isWord 54 = .ok (.getfield 22, 3) := by decide +kernel
theorem dX5_isWord_57 : decode cX5_isWord 57 = .ok (.iload_n 2, 1) := by decide +kernel
theorem dX5_isWord_58 : decode cX5_isWord 58 = .ok (.iadd, 1) := by decide +kernel
theorem dX5_isWord_59 : decode cX5_isWord 59 = .ok (.baload, 1) := by decide +kernel
theorem dX5_isWord_60 : decode cX5_isWord 60 = .ok (.aload_n 1, 1) := by decide +kernel
theorem dX5_isWord_61 : decode cX5_isWord 61 = .ok (.iload_n 2, 1) := by decide +kernel
theorem dX5_isWord_62 : decode cX5_isWord 62 = .ok (.invokevirtual 52, 3) := by decide +kernel
theorem dX5_isWord_65 : decode cX5_isWord 65 = .ok (.if_icmp .eq 5, 3) := by decide +kernel
theorem dX5_isWord_68 : decode cX5_isWord 68 = .ok (.iconst 0, 1) := by decide +kernel
theorem dX5_isWord_69 : decode cX5_isWord 69 = .ok (.ireturn, 1) := by decide +kernel
theorem dX5_isWord_70 : decode cX5_isWord 70 = .ok (.iinc 2 1, 3) := by decide +kernel
theorem dX5_isWord_73 : decode cX5_isWord 73 = .ok (.goto (-45), 3) := by decide +kernel
theorem dX5_isWord_76 : decode cX5_isWord 76 = .ok (.iconst 1, 1) := by decide +kernel
theorem dX5_isWord_77 : decode cX5_isWord 77 = .ok (.ireturn, 1) := by decide +kernel
def l5_isWord_76   (M : mm_M) : Option (Int32 × mm_M) :=
  rZ 1 M
set_option maxHeartbeats 2000000 in
theorem sl5_isWord_76     (M : mm_M) : Snd injI j5_isWord mm_X0 76 [none, none, none] [] M (l5_isWord_76   M) := by
  unfold l5_isWord_76
  refine sn_iconst (j := j5_isWord) (pc := 76) 1 rfl dX5_isWord_76 ?_
  exact sn_zret (j := j5_isWord) (pc := 77) rfl dX5_isWord_77
def b5_isWord_28  (rec28 : Nat → Int32 → mm_M → Option (Int32 × mm_M)) (q1 : Nat) (x2 : Int32) (M : mm_M) : Option (Int32 × mm_M) :=
  strL q1 (fun w_1 => if w_1 ≤ x2 then (l5_isWord_76 M) else (bI (mI M 20 3) (fun v_2 => bI (mI M 20 1) (fun v_3 => if v_3 ≤ (v_2 + x2) then (l5_isWord_76 M) else (bI (mI M 20 3) (fun v_4 => aI 21 400 (v_4 + x2) M (fun w_5 => strC q1 x2 (fun w_6 => if w_5 = w_6 then (rec28 q1 (x2 + 1) M) else (rZ 0 M)))))))))
set_option maxHeartbeats 2000000 in
theorem sb5_isWord_28   (rec28 : Nat → Int32 → mm_M → Option (Int32 × mm_M)) (hrec28 : ∀ (q1 : Nat) (x2 : Int32) (M : mm_M), isS q1 = true → Snd injI j5_isWord mm_X0 28 [some (.ref 20), some (.ref q1), some (.int x2)] [] M (rec28 q1 x2 M)) (q1 : Nat) (x2 : Int32) (hq1 : isS q1 = true) (M : mm_M) : Snd injI j5_isWord mm_X0 28 [some (.ref 20), some (.ref q1), some (.int x2)] [] M (b5_isWord_28  rec28 q1 x2 M) := by
  unfold b5_isWord_28
  refine sn_iload_n (j := j5_isWord) (pc := 28) rfl rfl dX5_isWord_28 ?_
  refine sn_aload_n (j := j5_isWord) (pc := 29) rfl rfl dX5_isWord_29 ?_
  refine sn_strlen (j := j5_isWord) (pc := 30) hq1 w_ml_X5_47 (by decide) (Nat.le_of_ble_eq_true rfl) dX5_isWord_30 (fun w_1 => ?_)
  refine sn_icmp_ge (j := j5_isWord) (pc := 33) 76 rfl dX5_isWord_33 ?_ ?_
  · exact Snd.wk (sl5_isWord_76 M) (by simp [mm_le])
  · refine sn_aload_n (j := j5_isWord) (pc := 36) rfl rfl dX5_isWord_36 ?_
    refine g_X5_22 (j := j5_isWord) (pc := 37) rfl dX5_isWord_37 ?_
    refine Snd.bI (fun v_2 => ?_)
    refine sn_iload_n (j := j5_isWord) (pc := 40) rfl rfl dX5_isWord_40 ?_
    refine sn_iadd (j := j5_isWord) (pc := 41) dX5_isWord_41 ?_
    refine sn_aload_n (j := j5_isWord) (pc := 42) rfl rfl dX5_isWord_42 ?_
    refine g_X5_15 (j := j5_isWord) (pc := 43) rfl dX5_isWord_43 ?_
    refine Snd.bI (fun v_3 => ?_)
    refine sn_icmp_ge (j := j5_isWord) (pc := 46) 76 rfl dX5_isWord_46 ?_ ?_
    · exact Snd.wk (sl5_isWord_76 M) (by simp [mm_le])
    · refine sn_aload_n (j := j5_isWord) (pc := 49) rfl rfl dX5_isWord_49 ?_
      refine g_X5_9 (j := j5_isWord) (pc := 50) rfl dX5_isWord_50 ?_
      refine sn_aload_n (j := j5_isWord) (pc := 53) rfl rfl dX5_isWord_53 ?_
      refine g_X5_22 (j := j5_isWord) (pc := 54) rfl dX5_isWord_54 ?_
      refine Snd.bI (fun v_4 => ?_)
      refine sn_iload_n (j := j5_isWord) (pc := 57) rfl rfl dX5_isWord_57 ?_
      refine sn_iadd (j := j5_isWord) (pc := 58) dX5_isWord_58 ?_
      refine sn_bald (j := j5_isWord) (pc := 59) rfl ⟨by decide, by decide⟩ dX5_isWord_59 (fun w_5 => ?_)
      refine sn_aload_n (j := j5_isWord) (pc := 60) rfl rfl dX5_isWord_60 ?_
      refine sn_iload_n (j := j5_isWord) (pc := 61) rfl rfl dX5_isWord_61 ?_
      refine sn_strchar (j := j5_isWord) (pc := 62) hq1 w_ml_X5_52 (by decide) (Nat.le_of_ble_eq_true rfl) dX5_isWord_62 (fun w_6 => ?_)
      refine sn_icmp_eq (j := j5_isWord) (pc := 65) 70 rfl dX5_isWord_65 ?_ ?_
      · refine sn_iinc (j := j5_isWord) (pc := 70) 1 rfl (by decide) rfl (lo' := [some (.ref 20), some (.ref q1), some (.int (x2 + 1))]) rfl dX5_isWord_70 ?_
        refine sn_goto (j := j5_isWord) (pc := 73) 28 rfl dX5_isWord_73 ?_
        exact Snd.wk (hrec28 q1 (x2 + 1) M hq1) (by simp [mm_le])
      · refine sn_iconst (j := j5_isWord) (pc := 68) 0 rfl dX5_isWord_68 ?_
        exact sn_zret (j := j5_isWord) (pc := 69) rfl dX5_isWord_69
def l5_isWord_28  : Nat → Nat → Int32 → mm_M → Option (Int32 × mm_M)
  | 0 => fun _ _ _ => none
  | n + 1 => fun q1 x2 M => b5_isWord_28  (l5_isWord_28  n) q1 x2 M
theorem sl5_isWord_28   : ∀ (n : Nat) (q1 : Nat) (x2 : Int32) (hq1 : isS q1 = true) (M : mm_M), Snd injI j5_isWord mm_X0 28 [some (.ref 20), some (.ref q1), some (.int x2)] [] M (l5_isWord_28  n q1 x2 M)
  | 0 => fun _ _ _ _ => Snd.none
  | n + 1 => fun q1 x2 hq1 M => sb5_isWord_28   (l5_isWord_28  n) (fun q1 x2 M hq1 => sl5_isWord_28   n q1 x2 hq1 M) q1 x2 hq1 M
def l5_isWord_24   (M : mm_M) : Option (Int32 × mm_M) :=
  rZ 0 M
set_option maxHeartbeats 2000000 in
theorem sl5_isWord_24     (M : mm_M) : Snd injI j5_isWord mm_X0 24 [none, none, none] [] M (l5_isWord_24   M) := by
  unfold l5_isWord_24
  refine sn_iconst (j := j5_isWord) (pc := 24) 0 rfl dX5_isWord_24 ?_
  exact sn_zret (j := j5_isWord) (pc := 25) rfl dX5_isWord_25
def f5_isWord (q1 : Nat) (M : mm_M) : Option (Int32 × mm_M) :=
  if isS q1 = true then (bI (mI M 20 2) (fun v_7 => if v_7 = 1 then (bI (mI M 20 5) (fun v_8 => bI (mI M 20 3) (fun v_9 => strL q1 (fun w_10 => if (v_8 - v_9) = w_10 then (l5_isWord_28 FU q1 0 M) else (l5_isWord_24 M))))) else (l5_isWord_24 M))) else none
set_option maxHeartbeats 2000000 in
theorem s5_isWord (q1 : Nat) (M : mm_M) : Snd injI j5_isWord mm_X0 0 [some (.ref 20), some (.ref q1)] [] M (f5_isWord q1 M) := by
  refine Snd.wk (lo' := [some (.ref 20), some (.ref q1), none]) ?_ (by simp [mm_le])
  unfold f5_isWord
  refine Snd.ite fun hq1 => ?_
  refine sn_aload_n (j := j5_isWord) (pc := 0) rfl rfl dX5_isWord_0 ?_
  refine g_X5_19 (j := j5_isWord) (pc := 1) rfl dX5_isWord_1 ?_
  refine Snd.bI (fun v_7 => ?_)
  refine sn_iconst (j := j5_isWord) (pc := 4) 1 rfl dX5_isWord_4 ?_
  refine sn_icmp_ne (j := j5_isWord) (pc := 5) 24 rfl dX5_isWord_5 ?_ ?_
  · exact Snd.wk (sl5_isWord_24 M) (by simp [mm_le])
  · refine sn_aload_n (j := j5_isWord) (pc := 8) rfl rfl dX5_isWord_8 ?_
    refine g_X5_28 (j := j5_isWord) (pc := 9) rfl dX5_isWord_9 ?_
    refine Snd.bI (fun v_8 => ?_)
    refine sn_aload_n (j := j5_isWord) (pc := 12) rfl rfl dX5_isWord_12 ?_
    refine g_X5_22 (j := j5_isWord) (pc := 13) rfl dX5_isWord_13 ?_
    refine Snd.bI (fun v_9 => ?_)
    refine sn_isub (j := j5_isWord) (pc := 16) dX5_isWord_16 ?_
    refine sn_aload_n (j := j5_isWord) (pc := 17) rfl rfl dX5_isWord_17 ?_
    refine sn_strlen (j := j5_isWord) (pc := 18) hq1 w_ml_X5_47 (by decide) (Nat.le_of_ble_eq_true rfl) dX5_isWord_18 (fun w_10 => ?_)
    refine sn_icmp_eq (j := j5_isWord) (pc := 21) 26 rfl dX5_isWord_21 ?_ ?_
    · refine sn_iconst (j := j5_isWord) (pc := 26) 0 rfl dX5_isWord_26 ?_
      refine sn_istore_n (j := j5_isWord) (pc := 27) rfl (by decide) (lo' := [some (.ref 20), some (.ref q1), some (.int 0)]) rfl dX5_isWord_27 ?_
      exact Snd.wk (sl5_isWord_28 FU q1 0 hq1 M) (by simp [mm_le])
    · exact Snd.wk (sl5_isWord_24 M) (by simp [mm_le])

abbrev j3_blame : mm_J := (yX3_blame, cX3_blame, 2, none, 0)
theorem dX3_blame_0 : decode cX3_blame 0 = .ok (.aload_n 0, 1) := by decide +kernel
theorem dX3_blame_1 : decode cX3_blame 1 = .ok (.getfield 9, 3) := by decide +kernel
theorem dX3_blame_4 : decode cX3_blame 4 = .ok (.ifCond .ne 19, 3) := by decide +kernel
theorem dX3_blame_7 : decode cX3_blame 7 = .ok (.aload_n 0, 1) := by decide +kernel
theorem dX3_blame_8 : decode cX3_blame 8 = .ok (.iload_n 1, 1) := by decide +kernel
theorem dX3_blame_9 : decode cX3_blame 9 = .ok (.bipush 8, 2) := by decide +kernel
theorem dX3_blame_11 : decode cX3_blame 11 = .ok (.aload_n 0, 1) := by decide +kernel
theorem dX3_blame_12 : decode cX3_blame 12 = .ok (.getfield 15, 3) := by decide +kernel
theorem dX3_blame_15 : decode cX3_blame 15 = .ok (.getfield 31, 3) := by decide +kernel
theorem dX3_blame_18 : decode cX3_blame 18 = .ok (.imul, 1) := by decide +kernel
theorem dX3_blame_19 : decode cX3_blame 19 = .ok (.iadd, 1) := by decide +kernel
theorem dX3_blame_20 : decode cX3_blame 20 = .ok (.putfield 9, 3) := by decide +kernel
theorem dX3_blame_23 : decode cX3_blame 23 = .ok (.return_, 1) := by decide +kernel
def l3_blame_23   (M : mm_M) : Option (mm_M) :=
  some M
set_option maxHeartbeats 2000000 in
theorem sl3_blame_23     (M : mm_M) : Snd injV j3_blame mm_X0 23 [none, none] [] M (l3_blame_23   M) := by
  unfold l3_blame_23
  exact sn_vret (j := j3_blame) (pc := 23) rfl dX3_blame_23
def f3_blame (x1 : Int32) (M : mm_M) : Option (mm_M) :=
  bI (mI M 22 1) (fun v_1 => if v_1 = 0 then (bI (mI M 20 3) (fun v_2 => bM (sI M 22 1 (x1 + (8 * v_2))) (fun M => l3_blame_23 M))) else (l3_blame_23 M))
set_option maxHeartbeats 2000000 in
theorem s3_blame (x1 : Int32) (M : mm_M) : Snd injV j3_blame mm_X0 0 [some (.ref 22), some (.int x1)] [] M (f3_blame x1 M) := by
  refine Snd.wk (lo' := [some (.ref 22), some (.int x1)]) ?_ (by simp [mm_le])
  unfold f3_blame
  refine sn_aload_n (j := j3_blame) (pc := 0) rfl rfl dX3_blame_0 ?_
  refine g_X3_9 (j := j3_blame) (pc := 1) rfl dX3_blame_1 ?_
  refine Snd.bI (fun v_1 => ?_)
  refine sn_if_ne (j := j3_blame) (pc := 4) 23 rfl dX3_blame_4 ?_ ?_
  · exact Snd.wk (sl3_blame_23 M) (by simp [mm_le])
  · refine sn_aload_n (j := j3_blame) (pc := 7) rfl rfl dX3_blame_7 ?_
    refine sn_iload_n (j := j3_blame) (pc := 8) rfl rfl dX3_blame_8 ?_
    refine sn_bipush (j := j3_blame) (pc := 9) 8 rfl dX3_blame_9 ?_
    refine sn_aload_n (j := j3_blame) (pc := 11) rfl rfl dX3_blame_11 ?_
    refine g_X3_15 (j := j3_blame) (pc := 12) rfl dX3_blame_12 ?_
    refine g_X3_31 (j := j3_blame) (pc := 15) rfl dX3_blame_15 ?_
    refine Snd.bI (fun v_2 => ?_)
    refine sn_imul (j := j3_blame) (pc := 18) dX3_blame_18 ?_
    refine sn_iadd (j := j3_blame) (pc := 19) dX3_blame_19 ?_
    refine p_X3_9 (j := j3_blame) (pc := 20) rfl dX3_blame_20 (fun M => ?_)
    exact Snd.wk (sl3_blame_23 M) (by simp [mm_le])

abbrev j3_numberIsWithin : mm_J := (yX3_numberIsWithin, cX3_numberIsWithin, 3, (some .boolean), 1)
theorem dX3_numberIsWithin_0 : decode cX3_numberIsWithin 0 = .ok (.aload_n 0, 1) := by decide +kernel
theorem dX3_numberIsWithin_1 : decode cX3_numberIsWithin 1 = .ok (.getfield 15, 3) := by decide +kernel
theorem dX3_numberIsWithin_4 : decode cX3_numberIsWithin 4 = .ok (.getfield 24, 3) := by decide +kernel
theorem dX3_numberIsWithin_7 : decode cX3_numberIsWithin 7 = .ok (.iconst 2, 1) := by decide +kernel
theorem dX3_numberIsWithin_8 : decode cX3_numberIsWithin 8 = .ok (.if_icmp .ne 14, 3) := by decide +kernel
theorem dX3_numberIsWithin_11 : decode cX3_numberIsWithin 11 = .ok (.aload_n 0, 1) := by decide +kernel
theorem dX3_numberIsWithin_12 : decode cX3_numberIsWithin 12 = .ok (.getfield 15, 3) := by decide +kernel
theorem dX3_numberIsWithin_15 : decode cX3_numberIsWithin 15 = .ok (.getfield 87, 3) := by decide +kernel
theorem dX3_numberIsWithin_18 : decode cX3_numberIsWithin 18 = .ok (.iconst (-1), 1) := by decide +kernel
theorem dX3_numberIsWithin_19 : decode cX3_numberIsWithin 19 = .ok (.if_icmp .ne 11, 3) := by decide +kernel
theorem dX3_numberIsWithin_22 : decode cX3_numberIsWithin 22 = .ok (.aload_n 0, 1) := by decide +kernel
theorem dX3_numberIsWithin_23 : decode cX3_numberIsWithin 23 = .ok (.iconst 1, 1) := by decide +kernel
theorem dX3_numberIsWithin_24 : decode cX3_numberIsWithin 24 = .ok (.invokevirtual 73, 3) := by decide +kernel
theorem dX3_numberIsWithin_27 : decode cX3_numberIsWithin 27 = .ok (.goto 30, 3) := by decide +kernel
theorem dX3_numberIsWithin_30 : decode cX3_numberIsWithin 30 = .ok (.aload_n 0, 1) := by decide +kernel
theorem dX3_numberIsWithin_31 : decode cX3_numberIsWithin 31 = .ok (.getfield 15, 3) := by decide +kernel
theorem dX3_numberIsWithin_34 : decode cX3_numberIsWithin 34 = .ok (.getfield 87, 3) := by decide +kernel
theorem dX3_numberIsWithin_37 : decode cX3_numberIsWithin 37 = .ok (.iload_n 1, 1) := by decide +kernel
theorem dX3_numberIsWithin_38 : decode cX3_numberIsWithin 38 = .ok (.if_icmp .lt 14, 3) := by decide +kernel
theorem dX3_numberIsWithin_41 : decode cX3_numberIsWithin 41 = .ok (.aload_n 0, 1) := by decide +kernel
theorem dX3_numberIsWithin_42 : decode cX3_numberIsWithin 42 = .ok (.getfield 15, 3) := by decide +kernel
theorem dX3_numberIsWithin_45 : decode cX3_numberIsWithin 45 = .ok (.getfield 87, 3) := by decide +kernel
theorem dX3_numberIsWithin_48 : decode cX3_numberIsWithin 48 = .ok (.iload_n 2, 1) := by decide +kernel
theorem dX3_numberIsWithin_49 : decode cX3_numberIsWithin 49 = .ok (.if_icmp .le 8, 3) := by decide +kernel
theorem dX3_numberIsWithin_52 : decode cX3_numberIsWithin 52 = .ok (.aload_n 0, 1) := by decide +kernel
theorem dX3_numberIsWithin_53 : decode cX3_numberIsWithin 53 = .ok (.iconst 2, 1) := by decide +kernel
theorem dX3_numberIsWithin_54 : decode cX3_numberIsWithin 54 = .ok (.invokevirtual 73, 3) := by decide +kernel
theorem dX3_numberIsWithin_57 : decode cX3_numberIsWithin 57 = .ok (.aload_n 0, 1) := by decide +kernel
theorem dX3_numberIsWithin_58 : decode cX3_numberIsWithin 58 = .ok (.getfield 9, 3) := by decide +kernel
theorem dX3_numberIsWithin_61 : decode cX3_numberIsWithin 61 = .ok (.ifCond .ne 7, 3) := by decide +kernel
theorem dX3_numberIsWithin_64 : decode cX3_numberIsWithin 64 = .ok (.iconst 1, 1) := by decide +kernel
theorem dX3_numberIsWithin_65 : decode cX3_numberIsWithin 65 = .ok (.goto 4, 3) := by decide +kernel
theorem dX3_numberIsWithin_68 : decode cX3_numberIsWithin 68 = .ok (.iconst 0, 1) := by decide +kernel
theorem dX3_numberIsWithin_69 : decode cX3_numberIsWithin 69 = .ok (.ireturn, 1) := by decide +kernel
def l3_numberIsWithin_69  (s0 : Int32) (M : mm_M) : Option (Int32 × mm_M) :=
  rZ s0 M
set_option maxHeartbeats 2000000 in
theorem sl3_numberIsWithin_69   (s0 : Int32)  (M : mm_M) : Snd injI j3_numberIsWithin mm_X0 69 [none, none, none] [.int s0] M (l3_numberIsWithin_69  s0 M) := by
  unfold l3_numberIsWithin_69
  exact sn_zret (j := j3_numberIsWithin) (pc := 69) rfl dX3_numberIsWithin_69
def l3_numberIsWithin_57   (M : mm_M) : Option (Int32 × mm_M) :=
  bI (mI M 22 1) (fun v_1 => if v_1 = 0 then (l3_numberIsWithin_69 1 M) else (l3_numberIsWithin_69 0 M))
set_option maxHeartbeats 2000000 in
theorem sl3_numberIsWithin_57     (M : mm_M) : Snd injI j3_numberIsWithin mm_X0 57 [some (.ref 22), none, none] [] M (l3_numberIsWithin_57   M) := by
  unfold l3_numberIsWithin_57
  refine sn_aload_n (j := j3_numberIsWithin) (pc := 57) rfl rfl dX3_numberIsWithin_57 ?_
  refine g_X3_9 (j := j3_numberIsWithin) (pc := 58) rfl dX3_numberIsWithin_58 ?_
  refine Snd.bI (fun v_1 => ?_)
  refine sn_if_ne (j := j3_numberIsWithin) (pc := 61) 68 rfl dX3_numberIsWithin_61 ?_ ?_
  · refine sn_iconst (j := j3_numberIsWithin) (pc := 68) 0 rfl dX3_numberIsWithin_68 ?_
    exact Snd.wk (sl3_numberIsWithin_69 0 M) (by simp [mm_le])
  · refine sn_iconst (j := j3_numberIsWithin) (pc := 64) 1 rfl dX3_numberIsWithin_64 ?_
    refine sn_goto (j := j3_numberIsWithin) (pc := 65) 69 rfl dX3_numberIsWithin_65 ?_
    exact Snd.wk (sl3_numberIsWithin_69 1 M) (by simp [mm_le])
def l3_numberIsWithin_52   (M : mm_M) : Option (Int32 × mm_M) :=
  cV (f3_blame 2 M) (fun M => l3_numberIsWithin_57 M)
set_option maxHeartbeats 2000000 in
theorem sl3_numberIsWithin_52     (M : mm_M) : Snd injI j3_numberIsWithin mm_X0 52 [some (.ref 22), none, none] [] M (l3_numberIsWithin_52   M) := by
  unfold l3_numberIsWithin_52
  refine sn_aload_n (j := j3_numberIsWithin) (pc := 52) rfl rfl dX3_numberIsWithin_52 ?_
  refine sn_iconst (j := j3_numberIsWithin) (pc := 53) 2 rfl dX3_numberIsWithin_53 ?_
  refine sn_callV (j := j3_numberIsWithin) (pc := 54) (jc := j3_blame) (As := [.int 2]) (s3_blame 2 M) mm_hvV (by simp [Value.category]) (Nat.le_of_ble_eq_true rfl) q3_blame rfl (by decide) rfl rfl ⟨by decide, by decide⟩ w_ml_X3_73 w_im_X3_blame w_se_X3_blame rfl (Nat.le_of_ble_eq_true rfl) dX3_numberIsWithin_54 ?_
  intro M
  show Snd injI j3_numberIsWithin mm_X0 57 [some (.ref 22), none, none] [] M _
  exact Snd.wk (sl3_numberIsWithin_57 M) (by simp [mm_le])
def l3_numberIsWithin_22   (M : mm_M) : Option (Int32 × mm_M) :=
  cV (f3_blame 1 M) (fun M => l3_numberIsWithin_57 M)
set_option maxHeartbeats 2000000 in
theorem sl3_numberIsWithin_22     (M : mm_M) : Snd injI j3_numberIsWithin mm_X0 22 [some (.ref 22), none, none] [] M (l3_numberIsWithin_22   M) := by
  unfold l3_numberIsWithin_22
  refine sn_aload_n (j := j3_numberIsWithin) (pc := 22) rfl rfl dX3_numberIsWithin_22 ?_
  refine sn_iconst (j := j3_numberIsWithin) (pc := 23) 1 rfl dX3_numberIsWithin_23 ?_
  refine sn_callV (j := j3_numberIsWithin) (pc := 24) (jc := j3_blame) (As := [.int 1]) (s3_blame 1 M) mm_hvV (by simp [Value.category]) (Nat.le_of_ble_eq_true rfl) q3_blame rfl (by decide) rfl rfl ⟨by decide, by decide⟩ w_ml_X3_73 w_im_X3_blame w_se_X3_blame rfl (Nat.le_of_ble_eq_true rfl) dX3_numberIsWithin_24 ?_
  intro M
  show Snd injI j3_numberIsWithin mm_X0 27 [some (.ref 22), none, none] [] M _
  refine sn_goto (j := j3_numberIsWithin) (pc := 27) 57 rfl dX3_numberIsWithin_27 ?_
  exact Snd.wk (sl3_numberIsWithin_57 M) (by simp [mm_le])
def f3_numberIsWithin (x1 : Int32) (x2 : Int32) (M : mm_M) : Option (Int32 × mm_M) :=
  bI (mI M 20 2) (fun v_2 => if v_2 = 2 then (bI (mI M 20 4) (fun v_3 => if v_3 = (-1) then (l3_numberIsWithin_22 M) else (bI (mI M 20 4) (fun v_4 => if v_4 < x1 then (l3_numberIsWithin_52 M) else (bI (mI M 20 4) (fun v_5 => if v_5 ≤ x2 then (l3_numberIsWithin_57 M) else (l3_numberIsWithin_52 M))))))) else (l3_numberIsWithin_22 M))
set_option maxHeartbeats 2000000 in
theorem s3_numberIsWithin (x1 : Int32) (x2 : Int32) (M : mm_M) : Snd injI j3_numberIsWithin mm_X0 0 [some (.ref 22), some (.int x1), some (.int x2)] [] M (f3_numberIsWithin x1 x2 M) := by
  refine Snd.wk (lo' := [some (.ref 22), some (.int x1), some (.int x2)]) ?_ (by simp [mm_le])
  unfold f3_numberIsWithin
  refine sn_aload_n (j := j3_numberIsWithin) (pc := 0) rfl rfl dX3_numberIsWithin_0 ?_
  refine g_X3_15 (j := j3_numberIsWithin) (pc := 1) rfl dX3_numberIsWithin_1 ?_
  refine g_X3_24 (j := j3_numberIsWithin) (pc := 4) rfl dX3_numberIsWithin_4 ?_
  refine Snd.bI (fun v_2 => ?_)
  refine sn_iconst (j := j3_numberIsWithin) (pc := 7) 2 rfl dX3_numberIsWithin_7 ?_
  refine sn_icmp_ne (j := j3_numberIsWithin) (pc := 8) 22 rfl dX3_numberIsWithin_8 ?_ ?_
  · exact Snd.wk (sl3_numberIsWithin_22 M) (by simp [mm_le])
  · refine sn_aload_n (j := j3_numberIsWithin) (pc := 11) rfl rfl dX3_numberIsWithin_11 ?_
    refine g_X3_15 (j := j3_numberIsWithin) (pc := 12) rfl dX3_numberIsWithin_12 ?_
    refine g_X3_87 (j := j3_numberIsWithin) (pc := 15) rfl dX3_numberIsWithin_15 ?_
    refine Snd.bI (fun v_3 => ?_)
    refine sn_iconst (j := j3_numberIsWithin) (pc := 18) (-1) rfl dX3_numberIsWithin_18 ?_
    refine sn_icmp_ne (j := j3_numberIsWithin) (pc := 19) 30 rfl dX3_numberIsWithin_19 ?_ ?_
    · refine sn_aload_n (j := j3_numberIsWithin) (pc := 30) rfl rfl dX3_numberIsWithin_30 ?_
      refine g_X3_15 (j := j3_numberIsWithin) (pc := 31) rfl dX3_numberIsWithin_31 ?_
      refine g_X3_87 (j := j3_numberIsWithin) (pc := 34) rfl dX3_numberIsWithin_34 ?_
      refine Snd.bI (fun v_4 => ?_)
      refine sn_iload_n (j := j3_numberIsWithin) (pc := 37) rfl rfl dX3_numberIsWithin_37 ?_
      refine sn_icmp_lt (j := j3_numberIsWithin) (pc := 38) 52 rfl dX3_numberIsWithin_38 ?_ ?_
      · exact Snd.wk (sl3_numberIsWithin_52 M) (by simp [mm_le])
      · refine sn_aload_n (j := j3_numberIsWithin) (pc := 41) rfl rfl dX3_numberIsWithin_41 ?_
        refine g_X3_15 (j := j3_numberIsWithin) (pc := 42) rfl dX3_numberIsWithin_42 ?_
        refine g_X3_87 (j := j3_numberIsWithin) (pc := 45) rfl dX3_numberIsWithin_45 ?_
        refine Snd.bI (fun v_5 => ?_)
        refine sn_iload_n (j := j3_numberIsWithin) (pc := 48) rfl rfl dX3_numberIsWithin_48 ?_
        refine sn_icmp_le (j := j3_numberIsWithin) (pc := 49) 57 rfl dX3_numberIsWithin_49 ?_ ?_
        · exact Snd.wk (sl3_numberIsWithin_57 M) (by simp [mm_le])
        · exact Snd.wk (sl3_numberIsWithin_52 M) (by simp [mm_le])
    · exact Snd.wk (sl3_numberIsWithin_22 M) (by simp [mm_le])

abbrev j3_readNumber : mm_J := (yX3_readNumber, cX3_readNumber, 4, (some .int), 3)
theorem dX3_readNumber_0 : decode cX3_readNumber 0 = .ok (.aload_n 0, 1) := by decide +kernel
theorem dX3_readNumber_1 : decode cX3_readNumber 1 = .ok (.iload_n 1, 1) := by decide +kernel
theorem dX3_readNumber_2 : decode cX3_readNumber 2 = .ok (.iload_n 2, 1) := by decide +kernel
theorem dX3_readNumber_3 : decode cX3_readNumber 3 = .ok (.invokevirtual 90, 3) := by decide +kernel
theorem dX3_readNumber_6 : decode cX3_readNumber 6 = .ok (.ifCond .ne 5, 3) := by decide +kernel
theorem dX3_readNumber_9 : decode cX3_readNumber 9 = .ok (.iconst (-1), 1) := by decide +kernel
theorem dX3_readNumber_10 : decode cX3_readNumber 10 = .ok (.ireturn, 1) := by decide +kernel
theorem dX3_readNumber_11 : decode cX3_readNumber 11 = .ok (.aload_n 0, 1) := by decide +kernel
theorem dX3_readNumber_12 : decode cX3_readNumber 12 = .ok (.getfield 15, 3) := by decide +kernel
theorem dX3_readNumber_15 : decode cX3_readNumber 15 = .ok (.getfield 87, 3) := by decide +kernel
theorem dX3_readNumber_18 : decode cX3_readNumber 18 = .ok (.istore_n 3, 1) := by decide +kernel
theorem dX3_readNumber_19 : decode cX3_readNumber 19 = .ok (.aload_n 0, 1) := by decide +kernel
theorem dX3_readNumber_20 : decode cX3_readNumber 20 = .ok (.getfield 15, 3) := by decide +kernel
theorem dX3_readNumber_23 : decode cX3_readNumber 23 = .ok (.invokevirtual 84, 3) := by decide +kernel
theorem dX3_readNumber_26 : decode cX3_readNumber 26 = .ok (.iload_n 3, 1) := by decide +kernel
theorem dX3_readNumber_27 : decode cX3_readNumber 27 = .ok (.ireturn, 1) := by decide +kernel
def f3_readNumber (x1 : Int32) (x2 : Int32) (M : mm_M) : Option (Int32 × mm_M) :=
  cI (f3_numberIsWithin x1 x2 M) (fun r_1 M => if r_1 = 0 then (some ((-1), M)) else (bI (mI M 20 4) (fun v_2 => cV (f5_step M) (fun M => some (v_2, M)))))
set_option maxHeartbeats 2000000 in
theorem s3_readNumber (x1 : Int32) (x2 : Int32) (M : mm_M) : Snd injI j3_readNumber mm_X0 0 [some (.ref 22), some (.int x1), some (.int x2)] [] M (f3_readNumber x1 x2 M) := by
  refine Snd.wk (lo' := [some (.ref 22), some (.int x1), some (.int x2), none]) ?_ (by simp [mm_le])
  unfold f3_readNumber
  refine sn_aload_n (j := j3_readNumber) (pc := 0) rfl rfl dX3_readNumber_0 ?_
  refine sn_iload_n (j := j3_readNumber) (pc := 1) rfl rfl dX3_readNumber_1 ?_
  refine sn_iload_n (j := j3_readNumber) (pc := 2) rfl rfl dX3_readNumber_2 ?_
  refine sn_callV (j := j3_readNumber) (pc := 3) (jc := j3_numberIsWithin) (As := [.int x1, .int x2]) (s3_numberIsWithin x1 x2 M) mm_hvI (by simp [Value.category]) (Nat.le_of_ble_eq_true rfl) q3_numberIsWithin rfl (by decide) rfl rfl ⟨by decide, by decide⟩ w_ml_X3_90 w_im_X3_numberIsWithin w_se_X3_numberIsWithin rfl (Nat.le_of_ble_eq_true rfl) dX3_readNumber_3 ?_
  rintro ⟨r_1, M⟩
  show Snd injI j3_readNumber mm_X0 6 [some (.ref 22), some (.int x1), some (.int x2), none] [.int r_1] M _
  refine sn_if_ne (j := j3_readNumber) (pc := 6) 11 rfl dX3_readNumber_6 ?_ ?_
  · refine sn_aload_n (j := j3_readNumber) (pc := 11) rfl rfl dX3_readNumber_11 ?_
    refine g_X3_15 (j := j3_readNumber) (pc := 12) rfl dX3_readNumber_12 ?_
    refine g_X3_87 (j := j3_readNumber) (pc := 15) rfl dX3_readNumber_15 ?_
    refine Snd.bI (fun v_2 => ?_)
    refine sn_istore_n (j := j3_readNumber) (pc := 18) rfl (by decide) (lo' := [some (.ref 22), some (.int x1), some (.int x2), some (.int v_2)]) rfl dX3_readNumber_18 ?_
    refine sn_aload_n (j := j3_readNumber) (pc := 19) rfl rfl dX3_readNumber_19 ?_
    refine g_X3_15 (j := j3_readNumber) (pc := 20) rfl dX3_readNumber_20 ?_
    refine sn_callV (j := j3_readNumber) (pc := 23) (jc := j5_step) (As := []) (s5_step M) mm_hvV (by simp [Value.category]) (Nat.le_of_ble_eq_true rfl) q5_step rfl (by decide) rfl rfl ⟨by decide, by decide⟩ w_ml_X3_84 w_im_X5_step w_se_X5_step rfl (Nat.le_of_ble_eq_true rfl) dX3_readNumber_23 ?_
    intro M
    show Snd injI j3_readNumber mm_X0 26 [some (.ref 22), some (.int x1), some (.int x2), some (.int v_2)] [] M _
    refine sn_iload_n (j := j3_readNumber) (pc := 26) rfl rfl dX3_readNumber_26 ?_
    exact sn_iret (j := j3_readNumber) (pc := 27) rfl dX3_readNumber_27
  · refine sn_iconst (j := j3_readNumber) (pc := 9) (-1) rfl dX3_readNumber_9 ?_
    exact sn_iret (j := j3_readNumber) (pc := 10) rfl dX3_readNumber_10

abbrev j3_readSlots : mm_J := (yX3_readSlots, cX3_readSlots, 3, none, 4)
theorem dX3_readSlots_0 : decode cX3_readSlots 0 = .ok (.aload_n 0, 1) := by decide +kernel
theorem dX3_readSlots_1 : decode cX3_readSlots 1 = .ok (.getfield 15, 3) := by decide +kernel
theorem dX3_readSlots_4 : decode cX3_readSlots 4 = .ok (.invokevirtual 84, 3) := by decide +kernel
theorem dX3_readSlots_7 : decode cX3_readSlots 7 = .ok (.aload_n 0, 1) := by decide +kernel
theorem dX3_readSlots_8 : decode cX3_readSlots 8 = .ok (.iconst 1, 1) := by decide +kernel
theorem dX3_readSlots_9 : decode cX3_readSlots 9 = .ok (.bipush 8, 2) := by decide +kernel
theorem dX3_readSlots_11 : decode cX3_readSlots 11 = .ok (.invokevirtual 94, 3) := by decide +kernel
theorem dX3_readSlots_14 : decode cX3_readSlots 14 = .ok (.istore_n 2, 1) := by decide +kernel
theorem dX3_readSlots_15 : decode cX3_readSlots 15 = .ok (.iload_n 2, 1) := by decide +kernel
theorem dX3_readSlots_16 : decode cX3_readSlots 16 = .ok (.iconst (-1), 1) := by decide +kernel
theorem dX3_readSlots_17 : decode cX3_readSlots 17 = .ok (.if_icmp .eq 8, 3) := by decide +kernel
theorem dX3_readSlots_20 : decode cX3_readSlots 20 = .ok (.aload_n 1, 1) := by decide +kernel
theorem dX3_readSlots_21 : decode cX3_readSlots 21 = .ok (.iload_n 2, 1) := by decide +kernel
theorem dX3_readSlots_22 : decode cX3_readSlots 22 = .ok (.invokevirtual 98, 3) := by decide +kernel
theorem dX3_readSlots_25 : decode cX3_readSlots 25 = .ok (.return_, 1) := by decide +kernel
def l3_readSlots_25   (M : mm_M) : Option (mm_M) :=
  some M
set_option maxHeartbeats 2000000 in
theorem sl3_readSlots_25     (M : mm_M) : Snd injV j3_readSlots mm_X0 25 [none, none, none] [] M (l3_readSlots_25   M) := by
  unfold l3_readSlots_25
  exact sn_vret (j := j3_readSlots) (pc := 25) rfl dX3_readSlots_25
def f3_readSlots (d1 : Nat) (M : mm_M) : Option (mm_M) :=
  if isD d1 = true then (cV (f5_step M) (fun M => cI (f3_readNumber 1 8 M) (fun r_1 M => if r_1 = (-1) then (l3_readSlots_25 M) else (cV (f0_beginAnew d1 r_1 M) (fun M => l3_readSlots_25 M))))) else none
set_option maxHeartbeats 2000000 in
theorem s3_readSlots (d1 : Nat) (M : mm_M) : Snd injV j3_readSlots mm_X0 0 [some (.ref 22), some (.ref d1)] [] M (f3_readSlots d1 M) := by
  refine Snd.wk (lo' := [some (.ref 22), some (.ref d1), none]) ?_ (by simp [mm_le])
  unfold f3_readSlots
  refine Snd.ite fun hd1 => ?_
  refine sn_aload_n (j := j3_readSlots) (pc := 0) rfl rfl dX3_readSlots_0 ?_
  refine g_X3_15 (j := j3_readSlots) (pc := 1) rfl dX3_readSlots_1 ?_
  refine sn_callV (j := j3_readSlots) (pc := 4) (jc := j5_step) (As := []) (s5_step M) mm_hvV (by simp [Value.category]) (Nat.le_of_ble_eq_true rfl) q5_step rfl (by decide) rfl rfl ⟨by decide, by decide⟩ w_ml_X3_84 w_im_X5_step w_se_X5_step rfl (Nat.le_of_ble_eq_true rfl) dX3_readSlots_4 ?_
  intro M
  show Snd injV j3_readSlots mm_X0 7 [some (.ref 22), some (.ref d1), none] [] M _
  refine sn_aload_n (j := j3_readSlots) (pc := 7) rfl rfl dX3_readSlots_7 ?_
  refine sn_iconst (j := j3_readSlots) (pc := 8) 1 rfl dX3_readSlots_8 ?_
  refine sn_bipush (j := j3_readSlots) (pc := 9) 8 rfl dX3_readSlots_9 ?_
  refine sn_callV (j := j3_readSlots) (pc := 11) (jc := j3_readNumber) (As := [.int 1, .int 8]) (s3_readNumber 1 8 M) mm_hvI (by simp [Value.category]) (Nat.le_of_ble_eq_true rfl) q3_readNumber rfl (by decide) rfl rfl ⟨by decide, by decide⟩ w_ml_X3_94 w_im_X3_readNumber w_se_X3_readNumber rfl (Nat.le_of_ble_eq_true rfl) dX3_readSlots_11 ?_
  rintro ⟨r_1, M⟩
  show Snd injV j3_readSlots mm_X0 14 [some (.ref 22), some (.ref d1), none] [.int r_1] M _
  refine sn_istore_n (j := j3_readSlots) (pc := 14) rfl (by decide) (lo' := [some (.ref 22), some (.ref d1), some (.int r_1)]) rfl dX3_readSlots_14 ?_
  refine sn_iload_n (j := j3_readSlots) (pc := 15) rfl rfl dX3_readSlots_15 ?_
  refine sn_iconst (j := j3_readSlots) (pc := 16) (-1) rfl dX3_readSlots_16 ?_
  refine sn_icmp_eq (j := j3_readSlots) (pc := 17) 25 rfl dX3_readSlots_17 ?_ ?_
  · exact Snd.wk (sl3_readSlots_25 M) (by simp [mm_le])
  · refine sn_aload_n (j := j3_readSlots) (pc := 20) rfl rfl dX3_readSlots_20 ?_
    refine sn_iload_n (j := j3_readSlots) (pc := 21) rfl rfl dX3_readSlots_21 ?_
    refine sn_callV (j := j3_readSlots) (pc := 22) (jc := j0_beginAnew) (As := [.int r_1]) (s0_beginAnew d1 r_1 M) mm_hvV (by simp [Value.category]) (Nat.le_of_ble_eq_true rfl) q0_beginAnew rfl (by decide) rfl (isD_obj hd1) (isD_pos hd1) w_ml_X3_98 w_im_X0_beginAnew w_se_X0_beginAnew rfl (Nat.le_of_ble_eq_true rfl) dX3_readSlots_22 ?_
    intro M
    show Snd injV j3_readSlots mm_X0 25 [some (.ref 22), some (.ref d1), some (.int r_1)] [] M _
    exact Snd.wk (sl3_readSlots_25 M) (by simp [mm_le])

abbrev j3_readPrice : mm_J := (yX3_readPrice, cX3_readPrice, 4, none, 4)
theorem dX3_readPrice_0 : decode cX3_readPrice 0 = .ok (.aload_n 0, 1) := by decide +kernel
theorem dX3_readPrice_1 : decode cX3_readPrice 1 = .ok (.getfield 15, 3) := by decide +kernel
theorem dX3_readPrice_4 : decode cX3_readPrice 4 = .ok (.invokevirtual 84, 3) := by decide +kernel
theorem dX3_readPrice_7 : decode cX3_readPrice 7 = .ok (.aload_n 0, 1) := by decide +kernel
theorem dX3_readPrice_8 : decode cX3_readPrice 8 = .ok (.iconst 0, 1) := by decide +kernel
theorem dX3_readPrice_9 : decode cX3_readPrice 9 = .ok (.aload_n 1, 1) := by decide +kernel
theorem dX3_readPrice_10 : decode cX3_readPrice 10 = .ok (.getfield 103, 3) := by decide +kernel
theorem dX3_readPrice_13 : decode cX3_readPrice 13 = .ok (.iconst 1, 1) := by decide +kernel
theorem dX3_readPrice_14 : decode cX3_readPrice 14 = .ok (.isub, 1) := by decide +kernel
theorem dX3_readPrice_15 : decode cX3_readPrice 15 = .ok (.invokevirtual 94, 3) := by decide +kernel
theorem dX3_readPrice_18 : decode cX3_readPrice 18 = .ok (.istore_n 2, 1) := by decide +kernel
theorem dX3_readPrice_19 : decode cX3_readPrice 19 = .ok (.iload_n 2, 1) := by decide +kernel
theorem dX3_readPrice_20 : decode cX3_readPrice 20 = .ok (.iconst (-1), 1) := by decide +kernel
theorem dX3_readPrice_21 : decode cX3_readPrice 21 = .ok (.if_icmp .ne 4, 3) := by decide +kernel
theorem dX3_readPrice_24 : decode cX3_readPrice 24 = .ok (.return_, 1) := by decide +kernel
theorem dX3_readPrice_25 : decode cX3_readPrice 25 = .ok (.aload_n 0, 1) := by decide +kernel
theorem dX3_readPrice_26 : decode cX3_readPrice 26 = .ok (.iconst 0, 1) := by decide +kernel
theorem dX3_readPrice_27 : decode cX3_readPrice 27 = .ok (.bipush 99, 2) := by decide +kernel
theorem dX3_readPrice_29 : decode cX3_readPrice 29 = .ok (.invokevirtual 94, 3) := by decide +kernel
theorem dX3_readPrice_32 : decode cX3_readPrice 32 = .ok (.istore_n 3, 1) := by decide +kernel
theorem dX3_readPrice_33 : decode cX3_readPrice 33 = .ok (.iload_n 3, 1) := by decide +kernel
theorem dX3_readPrice_34 : decode cX3_readPrice 34 = .ok (.iconst (-1), 1) := by decide +kernel
theorem dX3_readPrice_35 : decode cX3_readPrice 35 = .ok (.if_icmp .eq 10, 3) := by decide +kernel
theorem dX3_readPrice_38 : decode cX3_readPrice 38 = .ok (.aload_n 1, 1) := by decide +kernel
theorem dX3_readPrice_39 : decode cX3_readPrice 39 = .ok (.iload_n 2, 1) := by decide +kernel
theorem dX3_readPrice_40 : decode cX3_readPrice 40 = .ok (.iload_n 3, 1) := by decide +kernel
theorem dX3_readPrice_41 : decode cX3_readPrice 41 = .ok (.invokevirtual 106, 3) := by decide +kernel
theorem dX3_readPrice_44 : decode cX3_readPrice 44 = .ok (.pop, 1) := by decide +kernel
theorem dX3_readPrice_45 : decode cX3_readPrice 45 = .ok (.return_, 1) := by decide +kernel
def l3_readPrice_45   (M : mm_M) : Option (mm_M) :=
  some M
set_option maxHeartbeats 2000000 in
theorem sl3_readPrice_45     (M : mm_M) : Snd injV j3_readPrice mm_X0 45 [none, none, none, none] [] M (l3_readPrice_45   M) := by
  unfold l3_readPrice_45
  exact sn_vret (j := j3_readPrice) (pc := 45) rfl dX3_readPrice_45
def f3_readPrice (d1 : Nat) (M : mm_M) : Option (mm_M) :=
  if isD d1 = true then (cV (f5_step M) (fun M => bI (mI M d1 0) (fun v_1 => cI (f3_readNumber 0 (v_1 - 1) M) (fun r_2 M => if r_2 = (-1) then (some M) else (cI (f3_readNumber 0 99 M) (fun r_3 M => if r_3 = (-1) then (l3_readPrice_45 M) else (cI (f0_changePrice d1 r_2 r_3 M) (fun r_4 M => l3_readPrice_45 M)))))))) else none
set_option maxHeartbeats 2000000 in
theorem s3_readPrice (d1 : Nat) (M : mm_M) : Snd injV j3_readPrice mm_X0 0 [some (.ref 22), some (.ref d1)] [] M (f3_readPrice d1 M) := by
  refine Snd.wk (lo' := [some (.ref 22), some (.ref d1), none, none]) ?_ (by simp [mm_le])
  unfold f3_readPrice
  refine Snd.ite fun hd1 => ?_
  refine sn_aload_n (j := j3_readPrice) (pc := 0) rfl rfl dX3_readPrice_0 ?_
  refine g_X3_15 (j := j3_readPrice) (pc := 1) rfl dX3_readPrice_1 ?_
  refine sn_callV (j := j3_readPrice) (pc := 4) (jc := j5_step) (As := []) (s5_step M) mm_hvV (by simp [Value.category]) (Nat.le_of_ble_eq_true rfl) q5_step rfl (by decide) rfl rfl ⟨by decide, by decide⟩ w_ml_X3_84 w_im_X5_step w_se_X5_step rfl (Nat.le_of_ble_eq_true rfl) dX3_readPrice_4 ?_
  intro M
  show Snd injV j3_readPrice mm_X0 7 [some (.ref 22), some (.ref d1), none, none] [] M _
  refine sn_aload_n (j := j3_readPrice) (pc := 7) rfl rfl dX3_readPrice_7 ?_
  refine sn_iconst (j := j3_readPrice) (pc := 8) 0 rfl dX3_readPrice_8 ?_
  refine sn_aload_n (j := j3_readPrice) (pc := 9) rfl rfl dX3_readPrice_9 ?_
  refine g_X3_103 (j := j3_readPrice) (pc := 10) hd1 rfl dX3_readPrice_10 ?_
  refine Snd.bI (fun v_1 => ?_)
  refine sn_iconst (j := j3_readPrice) (pc := 13) 1 rfl dX3_readPrice_13 ?_
  refine sn_isub (j := j3_readPrice) (pc := 14) dX3_readPrice_14 ?_
  refine sn_callV (j := j3_readPrice) (pc := 15) (jc := j3_readNumber) (As := [.int 0, .int (v_1 - 1)]) (s3_readNumber 0 (v_1 - 1) M) mm_hvI (by simp [Value.category]) (Nat.le_of_ble_eq_true rfl) q3_readNumber rfl (by decide) rfl rfl ⟨by decide, by decide⟩ w_ml_X3_94 w_im_X3_readNumber w_se_X3_readNumber rfl (Nat.le_of_ble_eq_true rfl) dX3_readPrice_15 ?_
  rintro ⟨r_2, M⟩
  show Snd injV j3_readPrice mm_X0 18 [some (.ref 22), some (.ref d1), none, none] [.int r_2] M _
  refine sn_istore_n (j := j3_readPrice) (pc := 18) rfl (by decide) (lo' := [some (.ref 22), some (.ref d1), some (.int r_2), none]) rfl dX3_readPrice_18 ?_
  refine sn_iload_n (j := j3_readPrice) (pc := 19) rfl rfl dX3_readPrice_19 ?_
  refine sn_iconst (j := j3_readPrice) (pc := 20) (-1) rfl dX3_readPrice_20 ?_
  refine sn_icmp_ne (j := j3_readPrice) (pc := 21) 25 rfl dX3_readPrice_21 ?_ ?_
  · refine sn_aload_n (j := j3_readPrice) (pc := 25) rfl rfl dX3_readPrice_25 ?_
    refine sn_iconst (j := j3_readPrice) (pc := 26) 0 rfl dX3_readPrice_26 ?_
    refine sn_bipush (j := j3_readPrice) (pc := 27) 99 rfl dX3_readPrice_27 ?_
    refine sn_callV (j := j3_readPrice) (pc := 29) (jc := j3_readNumber) (As := [.int 0, .int 99]) (s3_readNumber 0 99 M) mm_hvI (by simp [Value.category]) (Nat.le_of_ble_eq_true rfl) q3_readNumber rfl (by decide) rfl rfl ⟨by decide, by decide⟩ w_ml_X3_94 w_im_X3_readNumber w_se_X3_readNumber rfl (Nat.le_of_ble_eq_true rfl) dX3_readPrice_29 ?_
    rintro ⟨r_3, M⟩
    show Snd injV j3_readPrice mm_X0 32 [some (.ref 22), some (.ref d1), some (.int r_2), none] [.int r_3] M _
    refine sn_istore_n (j := j3_readPrice) (pc := 32) rfl (by decide) (lo' := [some (.ref 22), some (.ref d1), some (.int r_2), some (.int r_3)]) rfl dX3_readPrice_32 ?_
    refine sn_iload_n (j := j3_readPrice) (pc := 33) rfl rfl dX3_readPrice_33 ?_
    refine sn_iconst (j := j3_readPrice) (pc := 34) (-1) rfl dX3_readPrice_34 ?_
    refine sn_icmp_eq (j := j3_readPrice) (pc := 35) 45 rfl dX3_readPrice_35 ?_ ?_
    · exact Snd.wk (sl3_readPrice_45 M) (by simp [mm_le])
    · refine sn_aload_n (j := j3_readPrice) (pc := 38) rfl rfl dX3_readPrice_38 ?_
      refine sn_iload_n (j := j3_readPrice) (pc := 39) rfl rfl dX3_readPrice_39 ?_
      refine sn_iload_n (j := j3_readPrice) (pc := 40) rfl rfl dX3_readPrice_40 ?_
      refine sn_callV (j := j3_readPrice) (pc := 41) (jc := j0_changePrice) (As := [.int r_2, .int r_3]) (s0_changePrice d1 r_2 r_3 M) mm_hvI (by simp [Value.category]) (Nat.le_of_ble_eq_true rfl) q0_changePrice rfl (by decide) rfl (isD_obj hd1) (isD_pos hd1) w_ml_X3_106 w_im_X0_changePrice w_se_X0_changePrice rfl (Nat.le_of_ble_eq_true rfl) dX3_readPrice_41 ?_
      rintro ⟨r_4, M⟩
      show Snd injV j3_readPrice mm_X0 44 [some (.ref 22), some (.ref d1), some (.int r_2), some (.int r_3)] [.int r_4] M _
      refine sn_pop (j := j3_readPrice) (pc := 44) rfl dX3_readPrice_44 ?_
      exact Snd.wk (sl3_readPrice_45 M) (by simp [mm_le])
  · exact sn_vret (j := j3_readPrice) (pc := 24) rfl dX3_readPrice_24

abbrev j3_readSetting : mm_J := (yX3_readSetting, cX3_readSetting, 4, none, 4)
theorem dX3_readSetting_0 : decode cX3_readSetting 0 = .ok (.aload_n 0, 1) := by decide +kernel
theorem dX3_readSetting_1 : decode cX3_readSetting 1 = .ok (.getfield 15, 3) := by decide +kernel
theorem dX3_readSetting_4 : decode cX3_readSetting 4 = .ok (.invokevirtual 84, 3) := by decide +kernel
theorem dX3_readSetting_7 : decode cX3_readSetting 7 = .ok (.aload_n 0, 1) := by decide +kernel
theorem dX3_readSetting_8 : decode cX3_readSetting 8 = .ok (.iconst 1, 1) := by decide +kernel
theorem dX3_readSetting_9 : decode cX3_readSetting 9 = .ok (.getstatic 109, 3) := by decide +kernel
theorem dX3_readSetting_12 : decode cX3_readSetting 12 = .ok (.iload_n 2, 1) := by decide +kernel
theorem dX3_readSetting_13 : decode cX3_readSetting 13 = .ok (.iaload, 1) := by decide +kernel
theorem dX3_readSetting_14 : decode cX3_readSetting 14 = .ok (.invokevirtual 94, 3) := by decide +kernel
theorem dX3_readSetting_17 : decode cX3_readSetting 17 = .ok (.istore_n 3, 1) := by decide +kernel
theorem dX3_readSetting_18 : decode cX3_readSetting 18 = .ok (.iload_n 3, 1) := by decide +kernel
theorem dX3_readSetting_19 : decode cX3_readSetting 19 = .ok (.iconst (-1), 1) := by decide +kernel
theorem dX3_readSetting_20 : decode cX3_readSetting 20 = .ok (.if_icmp .eq 10, 3) := by decide +kernel
theorem dX3_readSetting_23 : decode cX3_readSetting 23 = .ok (.aload_n 1, 1) := by decide +kernel
theorem dX3_readSetting_24 : decode cX3_readSetting 24 = .ok (.iload_n 2, 1) := by decide +kernel
theorem dX3_readSetting_25 : decode cX3_readSetting 25 = .ok (.iload_n 3, 1) := by decide +kernel
theorem dX3_readSetting_26 : decode cX3_readSetting 26 = .ok (.invokevirtual 113, 3) := by decide +kernel
theorem dX3_readSetting_29 : decode cX3_readSetting 29 = .ok (.pop, 1) := by decide +kernel
theorem dX3_readSetting_30 : decode cX3_readSetting 30 = .ok (.return_, 1) := by decide +kernel
def l3_readSetting_30   (M : mm_M) : Option (mm_M) :=
  some M
set_option maxHeartbeats 2000000 in
theorem sl3_readSetting_30     (M : mm_M) : Snd injV j3_readSetting mm_X0 30 [none, none, none, none] [] M (l3_readSetting_30   M) := by
  unfold l3_readSetting_30
  exact sn_vret (j := j3_readSetting) (pc := 30) rfl dX3_readSetting_30
def f3_readSetting (d1 : Nat) (x2 : Int32) (M : mm_M) : Option (mm_M) :=
  if isD d1 = true then (cV (f5_step M) (fun M => aT 0 3 x2 (fun w_1 => cI (f3_readNumber 1 w_1 M) (fun r_2 M => if r_2 = (-1) then (l3_readSetting_30 M) else (cI (f0_changeSetting d1 x2 r_2 M) (fun r_3 M => l3_readSetting_30 M)))))) else none
set_option maxHeartbeats 2000000 in
theorem s3_readSetting (d1 : Nat) (x2 : Int32) (M : mm_M) : Snd injV j3_readSetting mm_X0 0 [some (.ref 22), some (.ref d1), some (.int x2)] [] M (f3_readSetting d1 x2 M) := by
  refine Snd.wk (lo' := [some (.ref 22), some (.ref d1), some (.int x2), none]) ?_ (by simp [mm_le])
  unfold f3_readSetting
  refine Snd.ite fun hd1 => ?_
  refine sn_aload_n (j := j3_readSetting) (pc := 0) rfl rfl dX3_readSetting_0 ?_
  refine g_X3_15 (j := j3_readSetting) (pc := 1) rfl dX3_readSetting_1 ?_
  refine sn_callV (j := j3_readSetting) (pc := 4) (jc := j5_step) (As := []) (s5_step M) mm_hvV (by simp [Value.category]) (Nat.le_of_ble_eq_true rfl) q5_step rfl (by decide) rfl rfl ⟨by decide, by decide⟩ w_ml_X3_84 w_im_X5_step w_se_X5_step rfl (Nat.le_of_ble_eq_true rfl) dX3_readSetting_4 ?_
  intro M
  show Snd injV j3_readSetting mm_X0 7 [some (.ref 22), some (.ref d1), some (.int x2), none] [] M _
  refine sn_aload_n (j := j3_readSetting) (pc := 7) rfl rfl dX3_readSetting_7 ?_
  refine sn_iconst (j := j3_readSetting) (pc := 8) 1 rfl dX3_readSetting_8 ?_
  refine sn_gstN (j := j3_readSetting) (pc := 9) (t := 0) mm_Z0 mm_rn_X3_109 dX3_readSetting_9 ?_
  refine sn_iload_n (j := j3_readSetting) (pc := 12) rfl rfl dX3_readSetting_12 ?_
  refine sn_tald (j := j3_readSetting) (pc := 13) (t := 0) mm_T0 dX3_readSetting_13 (fun w_1 => ?_)
  refine sn_callV (j := j3_readSetting) (pc := 14) (jc := j3_readNumber) (As := [.int 1, .int w_1]) (s3_readNumber 1 w_1 M) mm_hvI (by simp [Value.category]) (Nat.le_of_ble_eq_true rfl) q3_readNumber rfl (by decide) rfl rfl ⟨by decide, by decide⟩ w_ml_X3_94 w_im_X3_readNumber w_se_X3_readNumber rfl (Nat.le_of_ble_eq_true rfl) dX3_readSetting_14 ?_
  rintro ⟨r_2, M⟩
  show Snd injV j3_readSetting mm_X0 17 [some (.ref 22), some (.ref d1), some (.int x2), none] [.int r_2] M _
  refine sn_istore_n (j := j3_readSetting) (pc := 17) rfl (by decide) (lo' := [some (.ref 22), some (.ref d1), some (.int x2), some (.int r_2)]) rfl dX3_readSetting_17 ?_
  refine sn_iload_n (j := j3_readSetting) (pc := 18) rfl rfl dX3_readSetting_18 ?_
  refine sn_iconst (j := j3_readSetting) (pc := 19) (-1) rfl dX3_readSetting_19 ?_
  refine sn_icmp_eq (j := j3_readSetting) (pc := 20) 30 rfl dX3_readSetting_20 ?_ ?_
  · exact Snd.wk (sl3_readSetting_30 M) (by simp [mm_le])
  · refine sn_aload_n (j := j3_readSetting) (pc := 23) rfl rfl dX3_readSetting_23 ?_
    refine sn_iload_n (j := j3_readSetting) (pc := 24) rfl rfl dX3_readSetting_24 ?_
    refine sn_iload_n (j := j3_readSetting) (pc := 25) rfl rfl dX3_readSetting_25 ?_
    refine sn_callV (j := j3_readSetting) (pc := 26) (jc := j0_changeSetting) (As := [.int x2, .int r_2]) (s0_changeSetting d1 x2 r_2 M) mm_hvI (by simp [Value.category]) (Nat.le_of_ble_eq_true rfl) q0_changeSetting rfl (by decide) rfl (isD_obj hd1) (isD_pos hd1) w_ml_X3_113 w_im_X0_changeSetting w_se_X0_changeSetting rfl (Nat.le_of_ble_eq_true rfl) dX3_readSetting_26 ?_
    rintro ⟨r_3, M⟩
    show Snd injV j3_readSetting mm_X0 29 [some (.ref 22), some (.ref d1), some (.int x2), some (.int r_2)] [.int r_3] M _
    refine sn_pop (j := j3_readSetting) (pc := 29) rfl dX3_readSetting_29 ?_
    exact Snd.wk (sl3_readSetting_30 M) (by simp [mm_le])

abbrev j3_readCurve : mm_J := (yX3_readCurve, cX3_readCurve, 8, none, 4)
theorem dX3_readCurve_0 : decode cX3_readCurve 0 = .ok (.aload_n 1, 1) := by decide +kernel
theorem dX3_readCurve_1 : decode cX3_readCurve 1 = .ok (.getfield 116, 3) := by decide +kernel
theorem dX3_readCurve_4 : decode cX3_readCurve 4 = .ok (.iconst 4, 1) := by decide +kernel
theorem dX3_readCurve_5 : decode cX3_readCurve 5 = .ok (.if_icmp .lt 9, 3) := by decide +kernel
theorem dX3_readCurve_8 : decode cX3_readCurve 8 = .ok (.aload_n 0, 1) := by decide +kernel
theorem dX3_readCurve_9 : decode cX3_readCurve 9 = .ok (.iconst 4, 1) := by decide +kernel
theorem dX3_readCurve_10 : decode cX3_readCurve 10 = .ok (.invokevirtual 73, 3) := by decide +kernel
theorem dX3_readCurve_13 : decode cX3_readCurve 13 = .ok (.return_, 1) := by decide +kernel
theorem dX3_readCurve_14 : decode cX3_readCurve 14 = .ok (.aload_n 0, 1) := by decide +kernel
theorem dX3_readCurve_15 : decode cX3_readCurve 15 = .ok (.getfield 15, 3) := by decide +kernel
theorem dX3_readCurve_18 : decode cX3_readCurve 18 = .ok (.invokevirtual 84, 3) := by decide +kernel
theorem dX3_readCurve_21 : decode cX3_readCurve 21 = .ok (.aload_n 1, 1) := by decide +kernel
theorem dX3_readCurve_22 : decode cX3_readCurve 22 = .ok (.getfield 116, 3) := by decide +kernel
theorem dX3_readCurve_25 : decode cX3_readCurve 25 = .ok (.istore_n 2, 1) := by decide +kernel
theorem dX3_readCurve_26 : decode cX3_readCurve 26 = .ok (.aload_n 1, 1) := by decide +kernel
theorem dX3_readCurve_27 : decode cX3_readCurve 27 = .ok (.getfield 119, 3) := by decide +kernel
theorem dX3_readCurve_30 : decode cX3_readCurve 30 = .ok (.iload_n 2, 1) := by decide +kernel
theorem dX3_readCurve_31 : decode cX3_readCurve 31 = .ok (.iconst 0, 1) := by decide +kernel
theorem dX3_readCurve_32 : decode cX3_readCurve 32 = .ok (.iastore, 1) := by decide +kernel
theorem dX3_readCurve_33 : decode cX3_readCurve 33 = .ok (.iconst 0, 1) := by decide +kernel
theorem dX3_readCurve_34 : decode cX3_readCurve 34 = .ok (.istore_n 3, 1) := by decide +kernel
theorem dX3_readCurve_35 : decode cX3_readCurve 35 = .ok (.iconst 0, 1) := by decide +kernel
theorem dX3_readCurve_36 : decode cX3_readCurve 36 = .ok (.istore 4, 2) := by decide +kernel
theorem dX3_readCurve_38 : decode cX3_readCurve 38 = .ok (.iconst 0, 1) := by decide +kernel
theorem dX3_readCurve_39 : decode cX3_readCurve 39 = .ok (.istore 5, 2) := by decide +kernel
theorem dX3_readCurve_41 : decode cX3_readCurve 41 = .ok (.iload 5, 2) := by decide +kernel
theorem dX3_readCurve_43 : decode cX3_readCurve 43 = .ok (.iconst 4, 1) := by decide +kernel
theorem dX3_readCurve_44 : decode cX3_readCurve 44 = .ok (.if_icmp .gt 98, 3) := by decide +kernel
theorem dX3_readCurve_47 : decode cX3_readCurve 47 = .ok (.iload 5, 2) := by decide +kernel
theorem dX3_readCurve_49 : decode cX3_readCurve 49 = .ok (.ifCond .eq 14, 3) := by decide +kernel
theorem dX3_readCurve_52 : decode cX3_readCurve 52 = .ok (.aload_n 0, 1) := by decide +kernel
theorem dX3_readCurve_53 : decode cX3_readCurve 53 = .ok (.getfield 15, 3) := by decide +kernel
theorem dX3_readCurve_56 : decode cX3_readCurve 56 = .ok (.getfield 24, 3) := by decide +kernel
theorem dX3_readCurve_59 : decode cX3_readCurve 59 = .ok (.iconst 2, 1) := by decide +kernel
theorem dX3_readCurve_60 : decode cX3_readCurve 60 = .ok (.if_icmp .ne 82, 3) := by decide +kernel
theorem dX3_readCurve_63 : decode cX3_readCurve 63 = .ok (.aload_n 0, 1) := by decide +kernel
theorem dX3_readCurve_64 : decode cX3_readCurve 64 = .ok (.iload_n 3, 1) := by decide +kernel
theorem dX3_readCurve_65 : decode cX3_readCurve 65 = .ok (.iload 4, 2) := by decide +kernel
theorem dX3_readCurve_67 : decode cX3_readCurve 67 = .ok (.invokevirtual 90, 3) := by decide +kernel
theorem dX3_readCurve_70 : decode cX3_readCurve 70 = .ok (.ifCond .ne 4, 3) := by decide +kernel
theorem dX3_readCurve_73 : decode cX3_readCurve 73 = .ok (.return_, 1) := by decide +kernel
theorem dX3_readCurve_74 : decode cX3_readCurve 74 = .ok (.iload 5, 2) := by decide +kernel
theorem dX3_readCurve_76 : decode cX3_readCurve 76 = .ok (.iconst 4, 1) := by decide +kernel
theorem dX3_readCurve_77 : decode cX3_readCurve 77 = .ok (.if_icmp .ne 9, 3) := by decide +kernel
theorem dX3_readCurve_80 : decode cX3_readCurve 80 = .ok (.aload_n 0, 1) := by decide +kernel
theorem dX3_readCurve_81 : decode cX3_readCurve 81 = .ok (.iconst 4, 1) := by decide +kernel
theorem dX3_readCurve_82 : decode cX3_readCurve 82 = .ok (.invokevirtual 73, 3) := by decide +kernel
theorem dX3_readCurve_85 : decode cX3_readCurve 85 = .ok (.return_, 1) := by decide +kernel
theorem dX3_readCurve_86 : decode cX3_readCurve 86 = .ok (.aload_n 0, 1) := by decide +kernel
theorem dX3_readCurve_87 : decode cX3_readCurve 87 = .ok (.getfield 15, 3) := by decide +kernel
theorem dX3_readCurve_90 : decode cX3_readCurve 90 = .ok (.getfield 87, 3) := by decide +kernel
theorem dX3_readCurve_93 : decode cX3_readCurve 93 = .ok (.istore 6, 2) := by decide +kernel
theorem dX3_readCurve_95 : decode cX3_readCurve 95 = .ok (.aload_n 0, 1) := by decide +kernel
theorem dX3_readCurve_96 : decode cX3_readCurve 96 = .ok (.getfield 15, 3) := by decide +kernel
theorem dX3_readCurve_99 : decode cX3_readCurve 99 = .ok (.invokevirtual 84, 3) := by decide +kernel
theorem dX3_readCurve_102 : decode cX3_readCurve 102 = .ok (.aload_n 0, 1) := by decide +kernel
theorem dX3_readCurve_103 : decode cX3_readCurve 103 = .ok (.iconst 1, 1) := by decide +kernel
theorem dX3_readCurve_104 : decode cX3_readCurve 104 = .ok (.bipush 50, 2) := by decide +kernel
theorem dX3_readCurve_106 : decode cX3_readCurve 106 = .ok (.invokevirtual 94, 3) := by decide +kernel
theorem dX3_readCurve_109 : decode cX3_readCurve 109 = .ok (.istore 7, 2) := by decide +kernel
theorem dX3_readCurve_111 : decode cX3_readCurve 111 = .ok (.iload 7, 2) := by decide +kernel
theorem dX3_readCurve_113 : decode cX3_readCurve 113 = .ok (.iconst (-1), 1) := by decide +kernel
theorem dX3_readCurve_114 : decode cX3_readCurve 114 = .ok (.if_icmp .ne 4, 3) := by decide +kernel
theorem dX3_readCurve_117 : decode cX3_readCurve 117 = .ok (.return_, 1) := by decide +kernel
theorem dX3_readCurve_118 : decode cX3_readCurve 118 = .ok (.aload_n 1, 1) := by decide +kernel
theorem dX3_readCurve_119 : decode cX3_readCurve 119 = .ok (.iload_n 2, 1) := by decide +kernel
theorem dX3_readCurve_120 : decode cX3_readCurve 120 = .ok (.iload 6, 2) := by decide +kernel
theorem dX3_readCurve_122 : decode cX3_readCurve 122 = .ok (.iload 7, 2) := by decide +kernel
theorem dX3_readCurve_124 : decode cX3_readCurve 124 = .ok (.invokevirtual 122, 3) := by decide +kernel
theorem dX3_readCurve_127 : decode cX3_readCurve 127 = .ok (.iload 6, 2) := by decide +kernel
theorem dX3_readCurve_129 : decode cX3_readCurve 129 = .ok (.iconst 1, 1) := by decide +kernel
theorem dX3_readCurve_130 : decode cX3_readCurve 130 = .ok (.iadd, 1) := by decide +kernel
theorem dX3_readCurve_131 : decode cX3_readCurve 131 = .ok (.istore_n 3, 1) := by decide +kernel
theorem dX3_readCurve_132 : decode cX3_readCurve 132 = .ok (.bipush 100, 2) := by decide +kernel
theorem dX3_readCurve_134 : decode cX3_readCurve 134 = .ok (.istore 4, 2) := by decide +kernel
theorem dX3_readCurve_136 : decode cX3_readCurve 136 = .ok (.iinc 5 1, 3) := by decide +kernel
theorem dX3_readCurve_139 : decode cX3_readCurve 139 = .ok (.goto (-98), 3) := by decide +kernel
theorem dX3_readCurve_142 : decode cX3_readCurve 142 = .ok (.aload_n 1, 1) := by decide +kernel
theorem dX3_readCurve_143 : decode cX3_readCurve 143 = .ok (.dup, 1) := by decide +kernel
theorem dX3_readCurve_144 : decode cX3_readCurve 144 = .ok (.getfield 116, 3) := by decide +kernel
theorem dX3_readCurve_147 : decode cX3_readCurve 147 = .ok (.iconst 1, 1) := by decide +kernel
theorem dX3_readCurve_148 : decode cX3_readCurve 148 = .ok (.iadd, 1) := by decide +kernel
theorem dX3_readCurve_149 : decode cX3_readCurve 149 = .ok (.putfield 116, 3) := by decide +kernel
theorem dX3_readCurve_152 : decode cX3_readCurve 152 = .ok (.return_, 1) := by decide +kernel
def l3_readCurve_142  (d1 : Nat) (M : mm_M) : Option (mm_M) :=
  bI (mI M d1 1) (fun v_1 => bM (sI M d1 1 (v_1 + 1)) (fun M => some M))
set_option maxHeartbeats 2000000 in
theorem sl3_readCurve_142   (d1 : Nat) (hd1 : isD d1 = true) (M : mm_M) : Snd injV j3_readCurve mm_X0 142 [none, some (.ref d1), none, none, none, none, none, none] [] M (l3_readCurve_142  d1 M) := by
  unfold l3_readCurve_142
  refine sn_aload_n (j := j3_readCurve) (pc := 142) rfl rfl dX3_readCurve_142 ?_
  refine sn_dup (j := j3_readCurve) (pc := 143) rfl dX3_readCurve_143 ?_
  refine g_X3_116 (j := j3_readCurve) (pc := 144) hd1 rfl dX3_readCurve_144 ?_
  refine Snd.bI (fun v_1 => ?_)
  refine sn_iconst (j := j3_readCurve) (pc := 147) 1 rfl dX3_readCurve_147 ?_
  refine sn_iadd (j := j3_readCurve) (pc := 148) dX3_readCurve_148 ?_
  refine p_X3_116 (j := j3_readCurve) (pc := 149) hd1 rfl dX3_readCurve_149 (fun M => ?_)
  exact sn_vret (j := j3_readCurve) (pc := 152) rfl dX3_readCurve_152
def l3_readCurve_63 (rec41 : Nat → Int32 → Int32 → Int32 → Int32 → mm_M → Option (mm_M)) (d1 : Nat) (x2 : Int32) (x3 : Int32) (x4 : Int32) (x5 : Int32) (M : mm_M) : Option (mm_M) :=
  cI (f3_numberIsWithin x3 x4 M) (fun r_2 M => if r_2 = 0 then (some M) else (if x5 = 4 then (cV (f3_blame 4 M) (fun M => some M)) else (bI (mI M 20 4) (fun v_3 => cV (f5_step M) (fun M => cI (f3_readNumber 1 50 M) (fun r_4 M => if r_4 = (-1) then (some M) else (cV (f0_addPiece d1 x2 v_3 r_4 M) (fun M => bI (v_3 + 1) (fun x3_5 => rec41 d1 x2 x3_5 100 (x5 + 1) M)))))))))
set_option maxHeartbeats 2000000 in
theorem sl3_readCurve_63 (rec41 : Nat → Int32 → Int32 → Int32 → Int32 → mm_M → Option (mm_M)) (hrec41 : ∀ (d1 : Nat) (x2 : Int32) (x3 : Int32) (x4 : Int32) (x5 : Int32) (M : mm_M), isD d1 = true → Snd injV j3_readCurve mm_X0 41 [some (.ref 22), some (.ref d1), some (.int x2), some (.int x3), some (.int x4), some (.int x5), none, none] [] M (rec41 d1 x2 x3 x4 x5 M)) (d1 : Nat) (x2 : Int32) (x3 : Int32) (x4 : Int32) (x5 : Int32) (hd1 : isD d1 = true) (M : mm_M) : Snd injV j3_readCurve mm_X0 63 [some (.ref 22), some (.ref d1), some (.int x2), some (.int x3), some (.int x4), some (.int x5), none, none] [] M (l3_readCurve_63 rec41 d1 x2 x3 x4 x5 M) := by
  unfold l3_readCurve_63
  refine sn_aload_n (j := j3_readCurve) (pc := 63) rfl rfl dX3_readCurve_63 ?_
  refine sn_iload_n (j := j3_readCurve) (pc := 64) rfl rfl dX3_readCurve_64 ?_
  refine sn_iload (j := j3_readCurve) (pc := 65) rfl dX3_readCurve_65 ?_
  refine sn_callV (j := j3_readCurve) (pc := 67) (jc := j3_numberIsWithin) (As := [.int x3, .int x4]) (s3_numberIsWithin x3 x4 M) mm_hvI (by simp [Value.category]) (Nat.le_of_ble_eq_true rfl) q3_numberIsWithin rfl (by decide) rfl rfl ⟨by decide, by decide⟩ w_ml_X3_90 w_im_X3_numberIsWithin w_se_X3_numberIsWithin rfl (Nat.le_of_ble_eq_true rfl) dX3_readCurve_67 ?_
  rintro ⟨r_2, M⟩
  show Snd injV j3_readCurve mm_X0 70 [some (.ref 22), some (.ref d1), some (.int x2), some (.int x3), some (.int x4), some (.int x5), none, none] [.int r_2] M _
  refine sn_if_ne (j := j3_readCurve) (pc := 70) 74 rfl dX3_readCurve_70 ?_ ?_
  · refine sn_iload (j := j3_readCurve) (pc := 74) rfl dX3_readCurve_74 ?_
    refine sn_iconst (j := j3_readCurve) (pc := 76) 4 rfl dX3_readCurve_76 ?_
    refine sn_icmp_ne (j := j3_readCurve) (pc := 77) 86 rfl dX3_readCurve_77 ?_ ?_
    · refine sn_aload_n (j := j3_readCurve) (pc := 86) rfl rfl dX3_readCurve_86 ?_
      refine g_X3_15 (j := j3_readCurve) (pc := 87) rfl dX3_readCurve_87 ?_
      refine g_X3_87 (j := j3_readCurve) (pc := 90) rfl dX3_readCurve_90 ?_
      refine Snd.bI (fun v_3 => ?_)
      refine sn_istore (j := j3_readCurve) (pc := 93) (by decide) (lo' := [some (.ref 22), some (.ref d1), some (.int x2), some (.int x3), some (.int x4), some (.int x5), some (.int v_3), none]) rfl dX3_readCurve_93 ?_
      refine sn_aload_n (j := j3_readCurve) (pc := 95) rfl rfl dX3_readCurve_95 ?_
      refine g_X3_15 (j := j3_readCurve) (pc := 96) rfl dX3_readCurve_96 ?_
      refine sn_callV (j := j3_readCurve) (pc := 99) (jc := j5_step) (As := []) (s5_step M) mm_hvV (by simp [Value.category]) (Nat.le_of_ble_eq_true rfl) q5_step rfl (by decide) rfl rfl ⟨by decide, by decide⟩ w_ml_X3_84 w_im_X5_step w_se_X5_step rfl (Nat.le_of_ble_eq_true rfl) dX3_readCurve_99 ?_
      intro M
      show Snd injV j3_readCurve mm_X0 102 [some (.ref 22), some (.ref d1), some (.int x2), some (.int x3), some (.int x4), some (.int x5), some (.int v_3), none] [] M _
      refine sn_aload_n (j := j3_readCurve) (pc := 102) rfl rfl dX3_readCurve_102 ?_
      refine sn_iconst (j := j3_readCurve) (pc := 103) 1 rfl dX3_readCurve_103 ?_
      refine sn_bipush (j := j3_readCurve) (pc := 104) 50 rfl dX3_readCurve_104 ?_
      refine sn_callV (j := j3_readCurve) (pc := 106) (jc := j3_readNumber) (As := [.int 1, .int 50]) (s3_readNumber 1 50 M) mm_hvI (by simp [Value.category]) (Nat.le_of_ble_eq_true rfl) q3_readNumber rfl (by decide) rfl rfl ⟨by decide, by decide⟩ w_ml_X3_94 w_im_X3_readNumber w_se_X3_readNumber rfl (Nat.le_of_ble_eq_true rfl) dX3_readCurve_106 ?_
      rintro ⟨r_4, M⟩
      show Snd injV j3_readCurve mm_X0 109 [some (.ref 22), some (.ref d1), some (.int x2), some (.int x3), some (.int x4), some (.int x5), some (.int v_3), none] [.int r_4] M _
      refine sn_istore (j := j3_readCurve) (pc := 109) (by decide) (lo' := [some (.ref 22), some (.ref d1), some (.int x2), some (.int x3), some (.int x4), some (.int x5), some (.int v_3), some (.int r_4)]) rfl dX3_readCurve_109 ?_
      refine sn_iload (j := j3_readCurve) (pc := 111) rfl dX3_readCurve_111 ?_
      refine sn_iconst (j := j3_readCurve) (pc := 113) (-1) rfl dX3_readCurve_113 ?_
      refine sn_icmp_ne (j := j3_readCurve) (pc := 114) 118 rfl dX3_readCurve_114 ?_ ?_
      · refine sn_aload_n (j := j3_readCurve) (pc := 118) rfl rfl dX3_readCurve_118 ?_
        refine sn_iload_n (j := j3_readCurve) (pc := 119) rfl rfl dX3_readCurve_119 ?_
        refine sn_iload (j := j3_readCurve) (pc := 120) rfl dX3_readCurve_120 ?_
        refine sn_iload (j := j3_readCurve) (pc := 122) rfl dX3_readCurve_122 ?_
        refine sn_callV (j := j3_readCurve) (pc := 124) (jc := j0_addPiece) (As := [.int x2, .int v_3, .int r_4]) (s0_addPiece d1 x2 v_3 r_4 M) mm_hvV (by simp [Value.category]) (Nat.le_of_ble_eq_true rfl) q0_addPiece rfl (by decide) rfl (isD_obj hd1) (isD_pos hd1) w_ml_X3_122 w_im_X0_addPiece w_se_X0_addPiece rfl (Nat.le_of_ble_eq_true rfl) dX3_readCurve_124 ?_
        intro M
        show Snd injV j3_readCurve mm_X0 127 [some (.ref 22), some (.ref d1), some (.int x2), some (.int x3), some (.int x4), some (.int x5), some (.int v_3), some (.int r_4)] [] M _
        refine sn_iload (j := j3_readCurve) (pc := 127) rfl dX3_readCurve_127 ?_
        refine sn_iconst (j := j3_readCurve) (pc := 129) 1 rfl dX3_readCurve_129 ?_
        refine sn_iadd (j := j3_readCurve) (pc := 130) dX3_readCurve_130 ?_
        refine sn_istoreB_n (j := j3_readCurve) (pc := 131) rfl (fun x3_5 => [some (.ref 22), some (.ref d1), some (.int x2), some (.int x3_5), some (.int x4), some (.int x5), some (.int v_3), some (.int r_4)]) (by decide) (fun _ => rfl) dX3_readCurve_131 (fun x3_5 => ?_)
        refine sn_bipush (j := j3_readCurve) (pc := 132) 100 rfl dX3_readCurve_132 ?_
        refine sn_istore (j := j3_readCurve) (pc := 134) (by decide) (lo' := [some (.ref 22), some (.ref d1), some (.int x2), some (.int x3_5), some (.int 100), some (.int x5), some (.int v_3), some (.int r_4)]) rfl dX3_readCurve_134 ?_
        refine sn_iinc (j := j3_readCurve) (pc := 136) 1 rfl (by decide) rfl (lo' := [some (.ref 22), some (.ref d1), some (.int x2), some (.int x3_5), some (.int 100), some (.int (x5 + 1)), some (.int v_3), some (.int r_4)]) rfl dX3_readCurve_136 ?_
        refine sn_goto (j := j3_readCurve) (pc := 139) 41 rfl dX3_readCurve_139 ?_
        exact Snd.wk (hrec41 d1 x2 x3_5 100 (x5 + 1) M hd1) (by simp [mm_le])
      · exact sn_vret (j := j3_readCurve) (pc := 117) rfl dX3_readCurve_117
    · refine sn_aload_n (j := j3_readCurve) (pc := 80) rfl rfl dX3_readCurve_80 ?_
      refine sn_iconst (j := j3_readCurve) (pc := 81) 4 rfl dX3_readCurve_81 ?_
      refine sn_callV (j := j3_readCurve) (pc := 82) (jc := j3_blame) (As := [.int 4]) (s3_blame 4 M) mm_hvV (by simp [Value.category]) (Nat.le_of_ble_eq_true rfl) q3_blame rfl (by decide) rfl rfl ⟨by decide, by decide⟩ w_ml_X3_73 w_im_X3_blame w_se_X3_blame rfl (Nat.le_of_ble_eq_true rfl) dX3_readCurve_82 ?_
      intro M
      show Snd injV j3_readCurve mm_X0 85 [some (.ref 22), some (.ref d1), some (.int x2), some (.int x3), some (.int x4), some (.int x5), none, none] [] M _
      exact sn_vret (j := j3_readCurve) (pc := 85) rfl dX3_readCurve_85
  · exact sn_vret (j := j3_readCurve) (pc := 73) rfl dX3_readCurve_73
def b3_readCurve_41  (rec41 : Nat → Int32 → Int32 → Int32 → Int32 → mm_M → Option (mm_M)) (d1 : Nat) (x2 : Int32) (x3 : Int32) (x4 : Int32) (x5 : Int32) (M : mm_M) : Option (mm_M) :=
  if 4 < x5 then (l3_readCurve_142 d1 M) else (if x5 = 0 then (l3_readCurve_63 rec41 d1 x2 x3 x4 x5 M) else (bI (mI M 20 2) (fun v_6 => if v_6 = 2 then (l3_readCurve_63 rec41 d1 x2 x3 x4 x5 M) else (l3_readCurve_142 d1 M))))
set_option maxHeartbeats 2000000 in
theorem sb3_readCurve_41   (rec41 : Nat → Int32 → Int32 → Int32 → Int32 → mm_M → Option (mm_M)) (hrec41 : ∀ (d1 : Nat) (x2 : Int32) (x3 : Int32) (x4 : Int32) (x5 : Int32) (M : mm_M), isD d1 = true → Snd injV j3_readCurve mm_X0 41 [some (.ref 22), some (.ref d1), some (.int x2), some (.int x3), some (.int x4), some (.int x5), none, none] [] M (rec41 d1 x2 x3 x4 x5 M)) (d1 : Nat) (x2 : Int32) (x3 : Int32) (x4 : Int32) (x5 : Int32) (hd1 : isD d1 = true) (M : mm_M) : Snd injV j3_readCurve mm_X0 41 [some (.ref 22), some (.ref d1), some (.int x2), some (.int x3), some (.int x4), some (.int x5), none, none] [] M (b3_readCurve_41  rec41 d1 x2 x3 x4 x5 M) := by
  unfold b3_readCurve_41
  refine sn_iload (j := j3_readCurve) (pc := 41) rfl dX3_readCurve_41 ?_
  refine sn_iconst (j := j3_readCurve) (pc := 43) 4 rfl dX3_readCurve_43 ?_
  refine sn_icmp_gt (j := j3_readCurve) (pc := 44) 142 rfl dX3_readCurve_44 ?_ ?_
  · exact Snd.wk (sl3_readCurve_142 d1 hd1 M) (by simp [mm_le])
  · refine sn_iload (j := j3_readCurve) (pc := 47) rfl dX3_readCurve_47 ?_
    refine sn_if_eq (j := j3_readCurve) (pc := 49) 63 rfl dX3_readCurve_49 ?_ ?_
    · exact Snd.wk (sl3_readCurve_63 rec41 hrec41 d1 x2 x3 x4 x5 hd1 M) (by simp [mm_le])
    · refine sn_aload_n (j := j3_readCurve) (pc := 52) rfl rfl dX3_readCurve_52 ?_
      refine g_X3_15 (j := j3_readCurve) (pc := 53) rfl dX3_readCurve_53 ?_
      refine g_X3_24 (j := j3_readCurve) (pc := 56) rfl dX3_readCurve_56 ?_
      refine Snd.bI (fun v_6 => ?_)
      refine sn_iconst (j := j3_readCurve) (pc := 59) 2 rfl dX3_readCurve_59 ?_
      refine sn_icmp_ne (j := j3_readCurve) (pc := 60) 142 rfl dX3_readCurve_60 ?_ ?_
      · exact Snd.wk (sl3_readCurve_142 d1 hd1 M) (by simp [mm_le])
      · exact Snd.wk (sl3_readCurve_63 rec41 hrec41 d1 x2 x3 x4 x5 hd1 M) (by simp [mm_le])
def l3_readCurve_41  : Nat → Nat → Int32 → Int32 → Int32 → Int32 → mm_M → Option (mm_M)
  | 0 => fun _ _ _ _ _ _ => none
  | n + 1 => fun d1 x2 x3 x4 x5 M => b3_readCurve_41  (l3_readCurve_41  n) d1 x2 x3 x4 x5 M
theorem sl3_readCurve_41   : ∀ (n : Nat) (d1 : Nat) (x2 : Int32) (x3 : Int32) (x4 : Int32) (x5 : Int32) (hd1 : isD d1 = true) (M : mm_M), Snd injV j3_readCurve mm_X0 41 [some (.ref 22), some (.ref d1), some (.int x2), some (.int x3), some (.int x4), some (.int x5), none, none] [] M (l3_readCurve_41  n d1 x2 x3 x4 x5 M)
  | 0 => fun _ _ _ _ _ _ _ => Snd.none
  | n + 1 => fun d1 x2 x3 x4 x5 hd1 M => sb3_readCurve_41   (l3_readCurve_41  n) (fun d1 x2 x3 x4 x5 M hd1 => sl3_readCurve_41   n d1 x2 x3 x4 x5 hd1 M) d1 x2 x3 x4 x5 hd1 M
def f3_readCurve (d1 : Nat) (M : mm_M) : Option (mm_M) :=
  if isD d1 = true then (bI (mI M d1 1) (fun v_7 => if v_7 < 4 then (cV (f5_step M) (fun M => bI (mI M d1 1) (fun v_8 => uI (d1 + 4) 4 v_8 0 M (fun M => l3_readCurve_41 FU d1 v_8 0 0 0 M)))) else (cV (f3_blame 4 M) (fun M => some M)))) else none
set_option maxHeartbeats 2000000 in
theorem s3_readCurve (d1 : Nat) (M : mm_M) : Snd injV j3_readCurve mm_X0 0 [some (.ref 22), some (.ref d1)] [] M (f3_readCurve d1 M) := by
  refine Snd.wk (lo' := [some (.ref 22), some (.ref d1), none, none, none, none, none, none]) ?_ (by simp [mm_le])
  unfold f3_readCurve
  refine Snd.ite fun hd1 => ?_
  refine sn_aload_n (j := j3_readCurve) (pc := 0) rfl rfl dX3_readCurve_0 ?_
  refine g_X3_116 (j := j3_readCurve) (pc := 1) hd1 rfl dX3_readCurve_1 ?_
  refine Snd.bI (fun v_7 => ?_)
  refine sn_iconst (j := j3_readCurve) (pc := 4) 4 rfl dX3_readCurve_4 ?_
  refine sn_icmp_lt (j := j3_readCurve) (pc := 5) 14 rfl dX3_readCurve_5 ?_ ?_
  · refine sn_aload_n (j := j3_readCurve) (pc := 14) rfl rfl dX3_readCurve_14 ?_
    refine g_X3_15 (j := j3_readCurve) (pc := 15) rfl dX3_readCurve_15 ?_
    refine sn_callV (j := j3_readCurve) (pc := 18) (jc := j5_step) (As := []) (s5_step M) mm_hvV (by simp [Value.category]) (Nat.le_of_ble_eq_true rfl) q5_step rfl (by decide) rfl rfl ⟨by decide, by decide⟩ w_ml_X3_84 w_im_X5_step w_se_X5_step rfl (Nat.le_of_ble_eq_true rfl) dX3_readCurve_18 ?_
    intro M
    show Snd injV j3_readCurve mm_X0 21 [some (.ref 22), some (.ref d1), none, none, none, none, none, none] [] M _
    refine sn_aload_n (j := j3_readCurve) (pc := 21) rfl rfl dX3_readCurve_21 ?_
    refine g_X3_116 (j := j3_readCurve) (pc := 22) hd1 rfl dX3_readCurve_22 ?_
    refine Snd.bI (fun v_8 => ?_)
    refine sn_istore_n (j := j3_readCurve) (pc := 25) rfl (by decide) (lo' := [some (.ref 22), some (.ref d1), some (.int v_8), none, none, none, none, none]) rfl dX3_readCurve_25 ?_
    refine sn_aload_n (j := j3_readCurve) (pc := 26) rfl rfl dX3_readCurve_26 ?_
    refine g_X3_119 (j := j3_readCurve) (pc := 27) hd1 rfl dX3_readCurve_27 ?_
    refine sn_iload_n (j := j3_readCurve) (pc := 30) rfl rfl dX3_readCurve_30 ?_
    refine sn_iconst (j := j3_readCurve) (pc := 31) 0 rfl dX3_readCurve_31 ?_
    refine sn_iast (j := j3_readCurve) (pc := 32) (isD_a4 hd1) (isD_p4 hd1) dX3_readCurve_32 (fun M => ?_)
    refine sn_iconst (j := j3_readCurve) (pc := 33) 0 rfl dX3_readCurve_33 ?_
    refine sn_istore_n (j := j3_readCurve) (pc := 34) rfl (by decide) (lo' := [some (.ref 22), some (.ref d1), some (.int v_8), some (.int 0), none, none, none, none]) rfl dX3_readCurve_34 ?_
    refine sn_iconst (j := j3_readCurve) (pc := 35) 0 rfl dX3_readCurve_35 ?_
    refine sn_istore (j := j3_readCurve) (pc := 36) (by decide) (lo' := [some (.ref 22), some (.ref d1), some (.int v_8), some (.int 0), some (.int 0), none, none, none]) rfl dX3_readCurve_36 ?_
    refine sn_iconst (j := j3_readCurve) (pc := 38) 0 rfl dX3_readCurve_38 ?_
    refine sn_istore (j := j3_readCurve) (pc := 39) (by decide) (lo' := [some (.ref 22), some (.ref d1), some (.int v_8), some (.int 0), some (.int 0), some (.int 0), none, none]) rfl dX3_readCurve_39 ?_
    exact Snd.wk (sl3_readCurve_41 FU d1 v_8 0 0 0 hd1 M) (by simp [mm_le])
  · refine sn_aload_n (j := j3_readCurve) (pc := 8) rfl rfl dX3_readCurve_8 ?_
    refine sn_iconst (j := j3_readCurve) (pc := 9) 4 rfl dX3_readCurve_9 ?_
    refine sn_callV (j := j3_readCurve) (pc := 10) (jc := j3_blame) (As := [.int 4]) (s3_blame 4 M) mm_hvV (by simp [Value.category]) (Nat.le_of_ble_eq_true rfl) q3_blame rfl (by decide) rfl rfl ⟨by decide, by decide⟩ w_ml_X3_73 w_im_X3_blame w_se_X3_blame rfl (Nat.le_of_ble_eq_true rfl) dX3_readCurve_10 ?_
    intro M
    show Snd injV j3_readCurve mm_X0 13 [some (.ref 22), some (.ref d1), none, none, none, none, none, none] [] M _
    exact sn_vret (j := j3_readCurve) (pc := 13) rfl dX3_readCurve_13

abbrev j3_readBus : mm_J := (yX3_readBus, cX3_readBus, 4, none, 4)
theorem dX3_readBus_0 : decode cX3_readBus 0 = .ok (.aload_n 1, 1) := by decide +kernel
theorem dX3_readBus_1 : decode cX3_readBus 1 = .ok (.getfield 126, 3) := by decide +kernel
theorem dX3_readBus_4 : decode cX3_readBus 4 = .ok (.iconst 4, 1) := by decide +kernel
theorem dX3_readBus_5 : decode cX3_readBus 5 = .ok (.if_icmp .lt 9, 3) := by decide +kernel
theorem dX3_readBus_8 : decode cX3_readBus 8 = .ok (.aload_n 0, 1) := by decide +kernel
theorem dX3_readBus_9 : decode cX3_readBus 9 = .ok (.iconst 4, 1) := by decide +kernel
theorem dX3_readBus_10 : decode cX3_readBus 10 = .ok (.invokevirtual 73, 3) := by decide +kernel
theorem dX3_readBus_13 : decode cX3_readBus 13 = .ok (.return_, 1) := by decide +kernel
theorem dX3_readBus_14 : decode cX3_readBus 14 = .ok (.aload_n 0, 1) := by decide +kernel
theorem dX3_readBus_15 : decode cX3_readBus 15 = .ok (.getfield 15, 3) := by decide +kernel
theorem dX3_readBus_18 : decode cX3_readBus 18 = .ok (.invokevirtual 84, 3) := by decide +kernel
theorem dX3_readBus_21 : decode cX3_readBus 21 = .ok (.iconst 0, 1) := by decide +kernel
theorem dX3_readBus_22 : decode cX3_readBus 22 = .ok (.istore_n 2, 1) := by decide +kernel
theorem dX3_readBus_23 : decode cX3_readBus 23 = .ok (.iload_n 2, 1) := by decide +kernel
theorem dX3_readBus_24 : decode cX3_readBus 24 = .ok (.bipush 6, 2) := by decide +kernel
theorem dX3_readBus_26 : decode cX3_readBus 26 = .ok (.if_icmp .ge 37, 3) := by decide +kernel
theorem dX3_readBus_29 : decode cX3_readBus 29 = .ok (.aload_n 0, 1) := by decide +kernel
theorem dX3_readBus_30 : decode cX3_readBus 30 = .ok (.aload_n 1, 1) := by decide +kernel
theorem dX3_readBus_31 : decode cX3_readBus 31 = .ok (.iload_n 2, 1) := by decide +kernel
theorem dX3_readBus_32 : decode cX3_readBus 32 = .ok (.invokevirtual 129, 3) := by decide +kernel
theorem dX3_readBus_35 : decode cX3_readBus 35 = .ok (.aload_n 1, 1) := by decide +kernel
theorem dX3_readBus_36 : decode cX3_readBus 36 = .ok (.iload_n 2, 1) := by decide +kernel
theorem dX3_readBus_37 : decode cX3_readBus 37 = .ok (.invokevirtual 133, 3) := by decide +kernel
theorem dX3_readBus_40 : decode cX3_readBus 40 = .ok (.invokevirtual 94, 3) := by decide +kernel
theorem dX3_readBus_43 : decode cX3_readBus 43 = .ok (.istore_n 3, 1) := by decide +kernel
theorem dX3_readBus_44 : decode cX3_readBus 44 = .ok (.iload_n 3, 1) := by decide +kernel
theorem dX3_readBus_45 : decode cX3_readBus 45 = .ok (.iconst (-1), 1) := by decide +kernel
theorem dX3_readBus_46 : decode cX3_readBus 46 = .ok (.if_icmp .ne 4, 3) := by decide +kernel
theorem dX3_readBus_49 : decode cX3_readBus 49 = .ok (.return_, 1) := by decide +kernel
theorem dX3_readBus_50 : decode cX3_readBus 50 = .ok (.aload_n 1, 1) := by decide +kernel
theorem dX3_readBus_51 : decode cX3_readBus 51 = .ok (.iload_n 2, 1) := by decide +kernel
theorem dX3_readBus_52 : decode cX3_readBus 52 = .ok (.iload_n 3, 1) := by decide +kernel
theorem dX3_readBus_53 : decode cX3_readBus 53 = .ok (.invokevirtual 136, 3) := by decide +kernel
theorem dX3_readBus_56 : decode cX3_readBus 56 = .ok (.pop, 1) := by decide +kernel
theorem dX3_readBus_57 : decode cX3_readBus 57 = .ok (.iinc 2 1, 3) := by decide +kernel
theorem dX3_readBus_60 : decode cX3_readBus 60 = .ok (.goto (-37), 3) := by decide +kernel
theorem dX3_readBus_63 : decode cX3_readBus 63 = .ok (.aload_n 1, 1) := by decide +kernel
theorem dX3_readBus_64 : decode cX3_readBus 64 = .ok (.invokevirtual 139, 3) := by decide +kernel
theorem dX3_readBus_67 : decode cX3_readBus 67 = .ok (.return_, 1) := by decide +kernel
def b3_readBus_23  (rec23 : Nat → Int32 → mm_M → Option (mm_M)) (d1 : Nat) (x2 : Int32) (M : mm_M) : Option (mm_M) :=
  if 6 ≤ x2 then (cV (f0_addOffered d1 M) (fun M => some M)) else (cI (f0_leastOffer d1 x2 M) (fun r_1 M => cI (f0_mostOffer d1 x2 M) (fun r_2 M => cI (f3_readNumber r_1 r_2 M) (fun r_3 M => if r_3 = (-1) then (some M) else (cI (f0_offer d1 x2 r_3 M) (fun r_4 M => rec23 d1 (x2 + 1) M))))))
set_option maxHeartbeats 2000000 in
theorem sb3_readBus_23   (rec23 : Nat → Int32 → mm_M → Option (mm_M)) (hrec23 : ∀ (d1 : Nat) (x2 : Int32) (M : mm_M), isD d1 = true → Snd injV j3_readBus mm_X0 23 [some (.ref 22), some (.ref d1), some (.int x2), none] [] M (rec23 d1 x2 M)) (d1 : Nat) (x2 : Int32) (hd1 : isD d1 = true) (M : mm_M) : Snd injV j3_readBus mm_X0 23 [some (.ref 22), some (.ref d1), some (.int x2), none] [] M (b3_readBus_23  rec23 d1 x2 M) := by
  unfold b3_readBus_23
  refine sn_iload_n (j := j3_readBus) (pc := 23) rfl rfl dX3_readBus_23 ?_
  refine sn_bipush (j := j3_readBus) (pc := 24) 6 rfl dX3_readBus_24 ?_
  refine sn_icmp_ge (j := j3_readBus) (pc := 26) 63 rfl dX3_readBus_26 ?_ ?_
  · refine sn_aload_n (j := j3_readBus) (pc := 63) rfl rfl dX3_readBus_63 ?_
    refine sn_callV (j := j3_readBus) (pc := 64) (jc := j0_addOffered) (As := []) (s0_addOffered d1 M) mm_hvV (by simp [Value.category]) (Nat.le_of_ble_eq_true rfl) q0_addOffered rfl (by decide) rfl (isD_obj hd1) (isD_pos hd1) w_ml_X3_139 w_im_X0_addOffered w_se_X0_addOffered rfl (Nat.le_of_ble_eq_true rfl) dX3_readBus_64 ?_
    intro M
    show Snd injV j3_readBus mm_X0 67 [some (.ref 22), some (.ref d1), some (.int x2), none] [] M _
    exact sn_vret (j := j3_readBus) (pc := 67) rfl dX3_readBus_67
  · refine sn_aload_n (j := j3_readBus) (pc := 29) rfl rfl dX3_readBus_29 ?_
    refine sn_aload_n (j := j3_readBus) (pc := 30) rfl rfl dX3_readBus_30 ?_
    refine sn_iload_n (j := j3_readBus) (pc := 31) rfl rfl dX3_readBus_31 ?_
    refine sn_callV (j := j3_readBus) (pc := 32) (jc := j0_leastOffer) (As := [.int x2]) (s0_leastOffer d1 x2 M) mm_hvI (by simp [Value.category]) (Nat.le_of_ble_eq_true rfl) q0_leastOffer rfl (by decide) rfl (isD_obj hd1) (isD_pos hd1) w_ml_X3_129 w_im_X0_leastOffer w_se_X0_leastOffer rfl (Nat.le_of_ble_eq_true rfl) dX3_readBus_32 ?_
    rintro ⟨r_1, M⟩
    show Snd injV j3_readBus mm_X0 35 [some (.ref 22), some (.ref d1), some (.int x2), none] [.int r_1, .ref 22] M _
    refine sn_aload_n (j := j3_readBus) (pc := 35) rfl rfl dX3_readBus_35 ?_
    refine sn_iload_n (j := j3_readBus) (pc := 36) rfl rfl dX3_readBus_36 ?_
    refine sn_callV (j := j3_readBus) (pc := 37) (jc := j0_mostOffer) (As := [.int x2]) (s0_mostOffer d1 x2 M) mm_hvI (by simp [Value.category]) (Nat.le_of_ble_eq_true rfl) q0_mostOffer rfl (by decide) rfl (isD_obj hd1) (isD_pos hd1) w_ml_X3_133 w_im_X0_mostOffer w_se_X0_mostOffer rfl (Nat.le_of_ble_eq_true rfl) dX3_readBus_37 ?_
    rintro ⟨r_2, M⟩
    show Snd injV j3_readBus mm_X0 40 [some (.ref 22), some (.ref d1), some (.int x2), none] [.int r_2, .int r_1, .ref 22] M _
    refine sn_callV (j := j3_readBus) (pc := 40) (jc := j3_readNumber) (As := [.int r_1, .int r_2]) (s3_readNumber r_1 r_2 M) mm_hvI (by simp [Value.category]) (Nat.le_of_ble_eq_true rfl) q3_readNumber rfl (by decide) rfl rfl ⟨by decide, by decide⟩ w_ml_X3_94 w_im_X3_readNumber w_se_X3_readNumber rfl (Nat.le_of_ble_eq_true rfl) dX3_readBus_40 ?_
    rintro ⟨r_3, M⟩
    show Snd injV j3_readBus mm_X0 43 [some (.ref 22), some (.ref d1), some (.int x2), none] [.int r_3] M _
    refine sn_istore_n (j := j3_readBus) (pc := 43) rfl (by decide) (lo' := [some (.ref 22), some (.ref d1), some (.int x2), some (.int r_3)]) rfl dX3_readBus_43 ?_
    refine sn_iload_n (j := j3_readBus) (pc := 44) rfl rfl dX3_readBus_44 ?_
    refine sn_iconst (j := j3_readBus) (pc := 45) (-1) rfl dX3_readBus_45 ?_
    refine sn_icmp_ne (j := j3_readBus) (pc := 46) 50 rfl dX3_readBus_46 ?_ ?_
    · refine sn_aload_n (j := j3_readBus) (pc := 50) rfl rfl dX3_readBus_50 ?_
      refine sn_iload_n (j := j3_readBus) (pc := 51) rfl rfl dX3_readBus_51 ?_
      refine sn_iload_n (j := j3_readBus) (pc := 52) rfl rfl dX3_readBus_52 ?_
      refine sn_callV (j := j3_readBus) (pc := 53) (jc := j0_offer) (As := [.int x2, .int r_3]) (s0_offer d1 x2 r_3 M) mm_hvI (by simp [Value.category]) (Nat.le_of_ble_eq_true rfl) q0_offer rfl (by decide) rfl (isD_obj hd1) (isD_pos hd1) w_ml_X3_136 w_im_X0_offer w_se_X0_offer rfl (Nat.le_of_ble_eq_true rfl) dX3_readBus_53 ?_
      rintro ⟨r_4, M⟩
      show Snd injV j3_readBus mm_X0 56 [some (.ref 22), some (.ref d1), some (.int x2), some (.int r_3)] [.int r_4] M _
      refine sn_pop (j := j3_readBus) (pc := 56) rfl dX3_readBus_56 ?_
      refine sn_iinc (j := j3_readBus) (pc := 57) 1 rfl (by decide) rfl (lo' := [some (.ref 22), some (.ref d1), some (.int (x2 + 1)), some (.int r_3)]) rfl dX3_readBus_57 ?_
      refine sn_goto (j := j3_readBus) (pc := 60) 23 rfl dX3_readBus_60 ?_
      exact Snd.wk (hrec23 d1 (x2 + 1) M hd1) (by simp [mm_le])
    · exact sn_vret (j := j3_readBus) (pc := 49) rfl dX3_readBus_49
def l3_readBus_23  : Nat → Nat → Int32 → mm_M → Option (mm_M)
  | 0 => fun _ _ _ => none
  | n + 1 => fun d1 x2 M => b3_readBus_23  (l3_readBus_23  n) d1 x2 M
theorem sl3_readBus_23   : ∀ (n : Nat) (d1 : Nat) (x2 : Int32) (hd1 : isD d1 = true) (M : mm_M), Snd injV j3_readBus mm_X0 23 [some (.ref 22), some (.ref d1), some (.int x2), none] [] M (l3_readBus_23  n d1 x2 M)
  | 0 => fun _ _ _ _ => Snd.none
  | n + 1 => fun d1 x2 hd1 M => sb3_readBus_23   (l3_readBus_23  n) (fun d1 x2 M hd1 => sl3_readBus_23   n d1 x2 hd1 M) d1 x2 hd1 M
def f3_readBus (d1 : Nat) (M : mm_M) : Option (mm_M) :=
  if isD d1 = true then (bI (mI M d1 2) (fun v_5 => if v_5 < 4 then (cV (f5_step M) (fun M => l3_readBus_23 FU d1 0 M)) else (cV (f3_blame 4 M) (fun M => some M)))) else none
set_option maxHeartbeats 2000000 in
theorem s3_readBus (d1 : Nat) (M : mm_M) : Snd injV j3_readBus mm_X0 0 [some (.ref 22), some (.ref d1)] [] M (f3_readBus d1 M) := by
  refine Snd.wk (lo' := [some (.ref 22), some (.ref d1), none, none]) ?_ (by simp [mm_le])
  unfold f3_readBus
  refine Snd.ite fun hd1 => ?_
  refine sn_aload_n (j := j3_readBus) (pc := 0) rfl rfl dX3_readBus_0 ?_
  refine g_X3_126 (j := j3_readBus) (pc := 1) hd1 rfl dX3_readBus_1 ?_
  refine Snd.bI (fun v_5 => ?_)
  refine sn_iconst (j := j3_readBus) (pc := 4) 4 rfl dX3_readBus_4 ?_
  refine sn_icmp_lt (j := j3_readBus) (pc := 5) 14 rfl dX3_readBus_5 ?_ ?_
  · refine sn_aload_n (j := j3_readBus) (pc := 14) rfl rfl dX3_readBus_14 ?_
    refine g_X3_15 (j := j3_readBus) (pc := 15) rfl dX3_readBus_15 ?_
    refine sn_callV (j := j3_readBus) (pc := 18) (jc := j5_step) (As := []) (s5_step M) mm_hvV (by simp [Value.category]) (Nat.le_of_ble_eq_true rfl) q5_step rfl (by decide) rfl rfl ⟨by decide, by decide⟩ w_ml_X3_84 w_im_X5_step w_se_X5_step rfl (Nat.le_of_ble_eq_true rfl) dX3_readBus_18 ?_
    intro M
    show Snd injV j3_readBus mm_X0 21 [some (.ref 22), some (.ref d1), none, none] [] M _
    refine sn_iconst (j := j3_readBus) (pc := 21) 0 rfl dX3_readBus_21 ?_
    refine sn_istore_n (j := j3_readBus) (pc := 22) rfl (by decide) (lo' := [some (.ref 22), some (.ref d1), some (.int 0), none]) rfl dX3_readBus_22 ?_
    exact Snd.wk (sl3_readBus_23 FU d1 0 hd1 M) (by simp [mm_le])
  · refine sn_aload_n (j := j3_readBus) (pc := 8) rfl rfl dX3_readBus_8 ?_
    refine sn_iconst (j := j3_readBus) (pc := 9) 4 rfl dX3_readBus_9 ?_
    refine sn_callV (j := j3_readBus) (pc := 10) (jc := j3_blame) (As := [.int 4]) (s3_blame 4 M) mm_hvV (by simp [Value.category]) (Nat.le_of_ble_eq_true rfl) q3_blame rfl (by decide) rfl rfl ⟨by decide, by decide⟩ w_ml_X3_73 w_im_X3_blame w_se_X3_blame rfl (Nat.le_of_ble_eq_true rfl) dX3_readBus_10 ?_
    intro M
    show Snd injV j3_readBus mm_X0 13 [some (.ref 22), some (.ref d1), none, none] [] M _
    exact sn_vret (j := j3_readBus) (pc := 13) rfl dX3_readBus_13

abbrev j3_readCharge : mm_J := (yX3_readCharge, cX3_readCharge, 6, none, 4)
theorem dX3_readCharge_0 : decode cX3_readCharge 0 = .ok (.aload_n 0, 1) := by decide +kernel
theorem dX3_readCharge_1 : decode cX3_readCharge 1 = .ok (.getfield 15, 3) := by decide +kernel
theorem dX3_readCharge_4 : decode cX3_readCharge 4 = .ok (.invokevirtual 84, 3) := by decide +kernel
theorem dX3_readCharge_7 : decode cX3_readCharge 7 = .ok (.aload_n 0, 1) := by decide +kernel
theorem dX3_readCharge_8 : decode cX3_readCharge 8 = .ok (.iconst 0, 1) := by decide +kernel
theorem dX3_readCharge_9 : decode cX3_readCharge 9 = .ok (.aload_n 1, 1) := by decide +kernel
theorem dX3_readCharge_10 : decode cX3_readCharge 10 = .ok (.getfield 103, 3) := by decide +kernel
theorem dX3_readCharge_13 : decode cX3_readCharge 13 = .ok (.iconst 1, 1) := by decide +kernel
theorem dX3_readCharge_14 : decode cX3_readCharge 14 = .ok (.isub, 1) := by decide +kernel
theorem dX3_readCharge_15 : decode cX3_readCharge 15 = .ok (.invokevirtual 94, 3) := by decide +kernel
theorem dX3_readCharge_18 : decode cX3_readCharge 18 = .ok (.istore_n 2, 1) := by decide +kernel
theorem dX3_readCharge_19 : decode cX3_readCharge 19 = .ok (.iload_n 2, 1) := by decide +kernel
theorem dX3_readCharge_20 : decode cX3_readCharge 20 = .ok (.iconst (-1), 1) := by decide +kernel
theorem dX3_readCharge_21 : decode cX3_readCharge 21 = .ok (.if_icmp .ne 4, 3) := by decide +kernel
theorem dX3_readCharge_24 : decode cX3_readCharge 24 = .ok (.return_, 1) := by decide +kernel
theorem dX3_readCharge_25 : decode cX3_readCharge 25 = .ok (.iconst 0, 1) := by decide +kernel
theorem dX3_readCharge_26 : decode cX3_readCharge 26 = .ok (.istore_n 3, 1) := by decide +kernel
theorem dX3_readCharge_27 : decode cX3_readCharge 27 = .ok (.iconst 0, 1) := by decide +kernel
theorem dX3_readCharge_28 : decode cX3_readCharge 28 = .ok (.istore 4, 2) := by decide +kernel
theorem dX3_readCharge_30 : decode cX3_readCharge 30 = .ok (.iload 4, 2) := by decide +kernel
theorem dX3_readCharge_32 : decode cX3_readCharge 32 = .ok (.iconst 4, 1) := by decide +kernel
theorem dX3_readCharge_33 : decode cX3_readCharge 33 = .ok (.if_icmp .gt 71, 3) := by decide +kernel
theorem dX3_readCharge_36 : decode cX3_readCharge 36 = .ok (.aload_n 0, 1) := by decide +kernel
theorem dX3_readCharge_37 : decode cX3_readCharge 37 = .ok (.getfield 15, 3) := by decide +kernel
theorem dX3_readCharge_40 : decode cX3_readCharge 40 = .ok (.getfield 24, 3) := by decide +kernel
theorem dX3_readCharge_43 : decode cX3_readCharge 43 = .ok (.iconst 2, 1) := by decide +kernel
theorem dX3_readCharge_44 : decode cX3_readCharge 44 = .ok (.if_icmp .ne 60, 3) := by decide +kernel
theorem dX3_readCharge_47 : decode cX3_readCharge 47 = .ok (.aload_n 0, 1) := by decide +kernel
theorem dX3_readCharge_48 : decode cX3_readCharge 48 = .ok (.iconst 0, 1) := by decide +kernel
theorem dX3_readCharge_49 : decode cX3_readCharge 49 = .ok (.aload_n 1, 1) := by decide +kernel
theorem dX3_readCharge_50 : decode cX3_readCharge 50 = .ok (.getfield 126, 3) := by decide +kernel
theorem dX3_readCharge_53 : decode cX3_readCharge 53 = .ok (.iconst 1, 1) := by decide +kernel
theorem dX3_readCharge_54 : decode cX3_readCharge 54 = .ok (.isub, 1) := by decide +kernel
theorem dX3_readCharge_55 : decode cX3_readCharge 55 = .ok (.invokevirtual 90, 3) := by decide +kernel
theorem dX3_readCharge_58 : decode cX3_readCharge 58 = .ok (.ifCond .ne 4, 3) := by decide +kernel
theorem dX3_readCharge_61 : decode cX3_readCharge 61 = .ok (.return_, 1) := by decide +kernel
theorem dX3_readCharge_62 : decode cX3_readCharge 62 = .ok (.iconst 1, 1) := by decide +kernel
theorem dX3_readCharge_63 : decode cX3_readCharge 63 = .ok (.aload_n 0, 1) := by decide +kernel
theorem dX3_readCharge_64 : decode cX3_readCharge 64 = .ok (.getfield 15, 3) := by decide +kernel
theorem dX3_readCharge_67 : decode cX3_readCharge 67 = .ok (.getfield 87, 3) := by decide +kernel
theorem dX3_readCharge_70 : decode cX3_readCharge 70 = .ok (.ishl, 1) := by decide +kernel
theorem dX3_readCharge_71 : decode cX3_readCharge 71 = .ok (.istore 5, 2) := by decide +kernel
theorem dX3_readCharge_73 : decode cX3_readCharge 73 = .ok (.iload_n 3, 1) := by decide +kernel
theorem dX3_readCharge_74 : decode cX3_readCharge 74 = .ok (.iload 5, 2) := by decide +kernel
theorem dX3_readCharge_76 : decode cX3_readCharge 76 = .ok (.iand, 1) := by decide +kernel
theorem dX3_readCharge_77 : decode cX3_readCharge 77 = .ok (.ifCond .eq 9, 3) := by decide +kernel
theorem dX3_readCharge_80 : decode cX3_readCharge 80 = .ok (.aload_n 0, 1) := by decide +kernel
theorem dX3_readCharge_81 : decode cX3_readCharge 81 = .ok (.iconst 3, 1) := by decide +kernel
theorem dX3_readCharge_82 : decode cX3_readCharge 82 = .ok (.invokevirtual 73, 3) := by decide +kernel
theorem dX3_readCharge_85 : decode cX3_readCharge 85 = .ok (.return_, 1) := by decide +kernel
theorem dX3_readCharge_86 : decode cX3_readCharge 86 = .ok (.iload_n 3, 1) := by decide +kernel
theorem dX3_readCharge_87 : decode cX3_readCharge 87 = .ok (.iload 5, 2) := by decide +kernel
theorem dX3_readCharge_89 : decode cX3_readCharge 89 = .ok (.ior, 1) := by decide +kernel
theorem dX3_readCharge_90 : decode cX3_readCharge 90 = .ok (.istore_n 3, 1) := by decide +kernel
theorem dX3_readCharge_91 : decode cX3_readCharge 91 = .ok (.aload_n 0, 1) := by decide +kernel
theorem dX3_readCharge_92 : decode cX3_readCharge 92 = .ok (.getfield 15, 3) := by decide +kernel
theorem dX3_readCharge_95 : decode cX3_readCharge 95 = .ok (.invokevirtual 84, 3) := by decide +kernel
theorem dX3_readCharge_98 : decode cX3_readCharge 98 = .ok (.iinc 4 1, 3) := by decide +kernel
theorem dX3_readCharge_101 : decode cX3_readCharge 101 = .ok (.goto (-71), 3) := by decide +kernel
theorem dX3_readCharge_104 : decode cX3_readCharge 104 = .ok (.aload_n 1, 1) := by decide +kernel
theorem dX3_readCharge_105 : decode cX3_readCharge 105 = .ok (.getfield 142, 3) := by decide +kernel
theorem dX3_readCharge_108 : decode cX3_readCharge 108 = .ok (.iload_n 2, 1) := by decide +kernel
theorem dX3_readCharge_109 : decode cX3_readCharge 109 = .ok (.iload_n 3, 1) := by decide +kernel
theorem dX3_readCharge_110 : decode cX3_readCharge 110 = .ok (.iastore, 1) := by decide +kernel
theorem dX3_readCharge_111 : decode cX3_readCharge 111 = .ok (.return_, 1) := by decide +kernel
def l3_readCharge_104  (d1 : Nat) (x2 : Int32) (x3 : Int32) (M : mm_M) : Option (mm_M) :=
  uI (d1 + 3) 8 x2 x3 M (fun M => some M)
set_option maxHeartbeats 2000000 in
theorem sl3_readCharge_104   (d1 : Nat) (x2 : Int32) (x3 : Int32) (hd1 : isD d1 = true) (M : mm_M) : Snd injV j3_readCharge mm_X0 104 [none, some (.ref d1), some (.int x2), some (.int x3), none, none] [] M (l3_readCharge_104  d1 x2 x3 M) := by
  unfold l3_readCharge_104
  refine sn_aload_n (j := j3_readCharge) (pc := 104) rfl rfl dX3_readCharge_104 ?_
  refine g_X3_142 (j := j3_readCharge) (pc := 105) hd1 rfl dX3_readCharge_105 ?_
  refine sn_iload_n (j := j3_readCharge) (pc := 108) rfl rfl dX3_readCharge_108 ?_
  refine sn_iload_n (j := j3_readCharge) (pc := 109) rfl rfl dX3_readCharge_109 ?_
  refine sn_iast (j := j3_readCharge) (pc := 110) (isD_a3 hd1) (isD_p3 hd1) dX3_readCharge_110 (fun M => ?_)
  exact sn_vret (j := j3_readCharge) (pc := 111) rfl dX3_readCharge_111
def b3_readCharge_30  (rec30 : Nat → Int32 → Int32 → Int32 → mm_M → Option (mm_M)) (d1 : Nat) (x2 : Int32) (x3 : Int32) (x4 : Int32) (M : mm_M) : Option (mm_M) :=
  if 4 < x4 then (l3_readCharge_104 d1 x2 x3 M) else (bI (mI M 20 2) (fun v_1 => if v_1 = 2 then (bI (mI M d1 2) (fun v_2 => cI (f3_numberIsWithin 0 (v_2 - 1) M) (fun r_3 M => if r_3 = 0 then (some M) else (bI (mI M 20 4) (fun v_4 => bI (1 <<< (v_4 &&& 31)) (fun x5_5 => if (x3 &&& x5_5) = 0 then (bI (x3 ||| x5_5) (fun x3_6 => cV (f5_step M) (fun M => rec30 d1 x2 x3_6 (x4 + 1) M))) else (cV (f3_blame 3 M) (fun M => some M)))))))) else (l3_readCharge_104 d1 x2 x3 M)))
set_option maxHeartbeats 2000000 in
theorem sb3_readCharge_30   (rec30 : Nat → Int32 → Int32 → Int32 → mm_M → Option (mm_M)) (hrec30 : ∀ (d1 : Nat) (x2 : Int32) (x3 : Int32) (x4 : Int32) (M : mm_M), isD d1 = true → Snd injV j3_readCharge mm_X0 30 [some (.ref 22), some (.ref d1), some (.int x2), some (.int x3), some (.int x4), none] [] M (rec30 d1 x2 x3 x4 M)) (d1 : Nat) (x2 : Int32) (x3 : Int32) (x4 : Int32) (hd1 : isD d1 = true) (M : mm_M) : Snd injV j3_readCharge mm_X0 30 [some (.ref 22), some (.ref d1), some (.int x2), some (.int x3), some (.int x4), none] [] M (b3_readCharge_30  rec30 d1 x2 x3 x4 M) := by
  unfold b3_readCharge_30
  refine sn_iload (j := j3_readCharge) (pc := 30) rfl dX3_readCharge_30 ?_
  refine sn_iconst (j := j3_readCharge) (pc := 32) 4 rfl dX3_readCharge_32 ?_
  refine sn_icmp_gt (j := j3_readCharge) (pc := 33) 104 rfl dX3_readCharge_33 ?_ ?_
  · exact Snd.wk (sl3_readCharge_104 d1 x2 x3 hd1 M) (by simp [mm_le])
  · refine sn_aload_n (j := j3_readCharge) (pc := 36) rfl rfl dX3_readCharge_36 ?_
    refine g_X3_15 (j := j3_readCharge) (pc := 37) rfl dX3_readCharge_37 ?_
    refine g_X3_24 (j := j3_readCharge) (pc := 40) rfl dX3_readCharge_40 ?_
    refine Snd.bI (fun v_1 => ?_)
    refine sn_iconst (j := j3_readCharge) (pc := 43) 2 rfl dX3_readCharge_43 ?_
    refine sn_icmp_ne (j := j3_readCharge) (pc := 44) 104 rfl dX3_readCharge_44 ?_ ?_
    · exact Snd.wk (sl3_readCharge_104 d1 x2 x3 hd1 M) (by simp [mm_le])
    · refine sn_aload_n (j := j3_readCharge) (pc := 47) rfl rfl dX3_readCharge_47 ?_
      refine sn_iconst (j := j3_readCharge) (pc := 48) 0 rfl dX3_readCharge_48 ?_
      refine sn_aload_n (j := j3_readCharge) (pc := 49) rfl rfl dX3_readCharge_49 ?_
      refine g_X3_126 (j := j3_readCharge) (pc := 50) hd1 rfl dX3_readCharge_50 ?_
      refine Snd.bI (fun v_2 => ?_)
      refine sn_iconst (j := j3_readCharge) (pc := 53) 1 rfl dX3_readCharge_53 ?_
      refine sn_isub (j := j3_readCharge) (pc := 54) dX3_readCharge_54 ?_
      refine sn_callV (j := j3_readCharge) (pc := 55) (jc := j3_numberIsWithin) (As := [.int 0, .int (v_2 - 1)]) (s3_numberIsWithin 0 (v_2 - 1) M) mm_hvI (by simp [Value.category]) (Nat.le_of_ble_eq_true rfl) q3_numberIsWithin rfl (by decide) rfl rfl ⟨by decide, by decide⟩ w_ml_X3_90 w_im_X3_numberIsWithin w_se_X3_numberIsWithin rfl (Nat.le_of_ble_eq_true rfl) dX3_readCharge_55 ?_
      rintro ⟨r_3, M⟩
      show Snd injV j3_readCharge mm_X0 58 [some (.ref 22), some (.ref d1), some (.int x2), some (.int x3), some (.int x4), none] [.int r_3] M _
      refine sn_if_ne (j := j3_readCharge) (pc := 58) 62 rfl dX3_readCharge_58 ?_ ?_
      · refine sn_iconst (j := j3_readCharge) (pc := 62) 1 rfl dX3_readCharge_62 ?_
        refine sn_aload_n (j := j3_readCharge) (pc := 63) rfl rfl dX3_readCharge_63 ?_
        refine g_X3_15 (j := j3_readCharge) (pc := 64) rfl dX3_readCharge_64 ?_
        refine g_X3_87 (j := j3_readCharge) (pc := 67) rfl dX3_readCharge_67 ?_
        refine Snd.bI (fun v_4 => ?_)
        refine sn_ishl (j := j3_readCharge) (pc := 70) dX3_readCharge_70 ?_
        refine sn_istoreB (j := j3_readCharge) (pc := 71) (fun x5_5 => [some (.ref 22), some (.ref d1), some (.int x2), some (.int x3), some (.int x4), some (.int x5_5)]) (by decide) (fun _ => rfl) dX3_readCharge_71 (fun x5_5 => ?_)
        refine sn_iload_n (j := j3_readCharge) (pc := 73) rfl rfl dX3_readCharge_73 ?_
        refine sn_iload (j := j3_readCharge) (pc := 74) rfl dX3_readCharge_74 ?_
        refine sn_iand (j := j3_readCharge) (pc := 76) dX3_readCharge_76 ?_
        refine sn_if_eq (j := j3_readCharge) (pc := 77) 86 rfl dX3_readCharge_77 ?_ ?_
        · refine sn_iload_n (j := j3_readCharge) (pc := 86) rfl rfl dX3_readCharge_86 ?_
          refine sn_iload (j := j3_readCharge) (pc := 87) rfl dX3_readCharge_87 ?_
          refine sn_ior (j := j3_readCharge) (pc := 89) dX3_readCharge_89 ?_
          refine sn_istoreB_n (j := j3_readCharge) (pc := 90) rfl (fun x3_6 => [some (.ref 22), some (.ref d1), some (.int x2), some (.int x3_6), some (.int x4), some (.int x5_5)]) (by decide) (fun _ => rfl) dX3_readCharge_90 (fun x3_6 => ?_)
          refine sn_aload_n (j := j3_readCharge) (pc := 91) rfl rfl dX3_readCharge_91 ?_
          refine g_X3_15 (j := j3_readCharge) (pc := 92) rfl dX3_readCharge_92 ?_
          refine sn_callV (j := j3_readCharge) (pc := 95) (jc := j5_step) (As := []) (s5_step M) mm_hvV (by simp [Value.category]) (Nat.le_of_ble_eq_true rfl) q5_step rfl (by decide) rfl rfl ⟨by decide, by decide⟩ w_ml_X3_84 w_im_X5_step w_se_X5_step rfl (Nat.le_of_ble_eq_true rfl) dX3_readCharge_95 ?_
          intro M
          show Snd injV j3_readCharge mm_X0 98 [some (.ref 22), some (.ref d1), some (.int x2), some (.int x3_6), some (.int x4), some (.int x5_5)] [] M _
          refine sn_iinc (j := j3_readCharge) (pc := 98) 1 rfl (by decide) rfl (lo' := [some (.ref 22), some (.ref d1), some (.int x2), some (.int x3_6), some (.int (x4 + 1)), some (.int x5_5)]) rfl dX3_readCharge_98 ?_
          refine sn_goto (j := j3_readCharge) (pc := 101) 30 rfl dX3_readCharge_101 ?_
          exact Snd.wk (hrec30 d1 x2 x3_6 (x4 + 1) M hd1) (by simp [mm_le])
        · refine sn_aload_n (j := j3_readCharge) (pc := 80) rfl rfl dX3_readCharge_80 ?_
          refine sn_iconst (j := j3_readCharge) (pc := 81) 3 rfl dX3_readCharge_81 ?_
          refine sn_callV (j := j3_readCharge) (pc := 82) (jc := j3_blame) (As := [.int 3]) (s3_blame 3 M) mm_hvV (by simp [Value.category]) (Nat.le_of_ble_eq_true rfl) q3_blame rfl (by decide) rfl rfl ⟨by decide, by decide⟩ w_ml_X3_73 w_im_X3_blame w_se_X3_blame rfl (Nat.le_of_ble_eq_true rfl) dX3_readCharge_82 ?_
          intro M
          show Snd injV j3_readCharge mm_X0 85 [some (.ref 22), some (.ref d1), some (.int x2), some (.int x3), some (.int x4), some (.int x5_5)] [] M _
          exact sn_vret (j := j3_readCharge) (pc := 85) rfl dX3_readCharge_85
      · exact sn_vret (j := j3_readCharge) (pc := 61) rfl dX3_readCharge_61
def l3_readCharge_30  : Nat → Nat → Int32 → Int32 → Int32 → mm_M → Option (mm_M)
  | 0 => fun _ _ _ _ _ => none
  | n + 1 => fun d1 x2 x3 x4 M => b3_readCharge_30  (l3_readCharge_30  n) d1 x2 x3 x4 M
theorem sl3_readCharge_30   : ∀ (n : Nat) (d1 : Nat) (x2 : Int32) (x3 : Int32) (x4 : Int32) (hd1 : isD d1 = true) (M : mm_M), Snd injV j3_readCharge mm_X0 30 [some (.ref 22), some (.ref d1), some (.int x2), some (.int x3), some (.int x4), none] [] M (l3_readCharge_30  n d1 x2 x3 x4 M)
  | 0 => fun _ _ _ _ _ _ => Snd.none
  | n + 1 => fun d1 x2 x3 x4 hd1 M => sb3_readCharge_30   (l3_readCharge_30  n) (fun d1 x2 x3 x4 M hd1 => sl3_readCharge_30   n d1 x2 x3 x4 hd1 M) d1 x2 x3 x4 hd1 M
def f3_readCharge (d1 : Nat) (M : mm_M) : Option (mm_M) :=
  if isD d1 = true then (cV (f5_step M) (fun M => bI (mI M d1 0) (fun v_7 => cI (f3_readNumber 0 (v_7 - 1) M) (fun r_8 M => if r_8 = (-1) then (some M) else (l3_readCharge_30 FU d1 r_8 0 0 M))))) else none
set_option maxHeartbeats 2000000 in
theorem s3_readCharge (d1 : Nat) (M : mm_M) : Snd injV j3_readCharge mm_X0 0 [some (.ref 22), some (.ref d1)] [] M (f3_readCharge d1 M) := by
  refine Snd.wk (lo' := [some (.ref 22), some (.ref d1), none, none, none, none]) ?_ (by simp [mm_le])
  unfold f3_readCharge
  refine Snd.ite fun hd1 => ?_
  refine sn_aload_n (j := j3_readCharge) (pc := 0) rfl rfl dX3_readCharge_0 ?_
  refine g_X3_15 (j := j3_readCharge) (pc := 1) rfl dX3_readCharge_1 ?_
  refine sn_callV (j := j3_readCharge) (pc := 4) (jc := j5_step) (As := []) (s5_step M) mm_hvV (by simp [Value.category]) (Nat.le_of_ble_eq_true rfl) q5_step rfl (by decide) rfl rfl ⟨by decide, by decide⟩ w_ml_X3_84 w_im_X5_step w_se_X5_step rfl (Nat.le_of_ble_eq_true rfl) dX3_readCharge_4 ?_
  intro M
  show Snd injV j3_readCharge mm_X0 7 [some (.ref 22), some (.ref d1), none, none, none, none] [] M _
  refine sn_aload_n (j := j3_readCharge) (pc := 7) rfl rfl dX3_readCharge_7 ?_
  refine sn_iconst (j := j3_readCharge) (pc := 8) 0 rfl dX3_readCharge_8 ?_
  refine sn_aload_n (j := j3_readCharge) (pc := 9) rfl rfl dX3_readCharge_9 ?_
  refine g_X3_103 (j := j3_readCharge) (pc := 10) hd1 rfl dX3_readCharge_10 ?_
  refine Snd.bI (fun v_7 => ?_)
  refine sn_iconst (j := j3_readCharge) (pc := 13) 1 rfl dX3_readCharge_13 ?_
  refine sn_isub (j := j3_readCharge) (pc := 14) dX3_readCharge_14 ?_
  refine sn_callV (j := j3_readCharge) (pc := 15) (jc := j3_readNumber) (As := [.int 0, .int (v_7 - 1)]) (s3_readNumber 0 (v_7 - 1) M) mm_hvI (by simp [Value.category]) (Nat.le_of_ble_eq_true rfl) q3_readNumber rfl (by decide) rfl rfl ⟨by decide, by decide⟩ w_ml_X3_94 w_im_X3_readNumber w_se_X3_readNumber rfl (Nat.le_of_ble_eq_true rfl) dX3_readCharge_15 ?_
  rintro ⟨r_8, M⟩
  show Snd injV j3_readCharge mm_X0 18 [some (.ref 22), some (.ref d1), none, none, none, none] [.int r_8] M _
  refine sn_istore_n (j := j3_readCharge) (pc := 18) rfl (by decide) (lo' := [some (.ref 22), some (.ref d1), some (.int r_8), none, none, none]) rfl dX3_readCharge_18 ?_
  refine sn_iload_n (j := j3_readCharge) (pc := 19) rfl rfl dX3_readCharge_19 ?_
  refine sn_iconst (j := j3_readCharge) (pc := 20) (-1) rfl dX3_readCharge_20 ?_
  refine sn_icmp_ne (j := j3_readCharge) (pc := 21) 25 rfl dX3_readCharge_21 ?_ ?_
  · refine sn_iconst (j := j3_readCharge) (pc := 25) 0 rfl dX3_readCharge_25 ?_
    refine sn_istore_n (j := j3_readCharge) (pc := 26) rfl (by decide) (lo' := [some (.ref 22), some (.ref d1), some (.int r_8), some (.int 0), none, none]) rfl dX3_readCharge_26 ?_
    refine sn_iconst (j := j3_readCharge) (pc := 27) 0 rfl dX3_readCharge_27 ?_
    refine sn_istore (j := j3_readCharge) (pc := 28) (by decide) (lo' := [some (.ref 22), some (.ref d1), some (.int r_8), some (.int 0), some (.int 0), none]) rfl dX3_readCharge_28 ?_
    exact Snd.wk (sl3_readCharge_30 FU d1 r_8 0 0 hd1 M) (by simp [mm_le])
  · exact sn_vret (j := j3_readCharge) (pc := 24) rfl dX3_readCharge_24

abbrev j3_readSemicolon : mm_J := (yX3_readSemicolon, cX3_readSemicolon, 1, none, 3)
theorem dX3_readSemicolon_0 : decode cX3_readSemicolon 0 = .ok (.aload_n 0, 1) := by decide +kernel
theorem dX3_readSemicolon_1 : decode cX3_readSemicolon 1 = .ok (.getfield 9, 3) := by decide +kernel
theorem dX3_readSemicolon_4 : decode cX3_readSemicolon 4 = .ok (.ifCond .eq 4, 3) := by decide +kernel
theorem dX3_readSemicolon_7 : decode cX3_readSemicolon 7 = .ok (.return_, 1) := by decide +kernel
theorem dX3_readSemicolon_8 : decode cX3_readSemicolon 8 = .ok (.aload_n 0, 1) := by decide +kernel
theorem dX3_readSemicolon_9 : decode cX3_readSemicolon 9 = .ok (.getfield 15, 3) := by decide +kernel
theorem dX3_readSemicolon_12 : decode cX3_readSemicolon 12 = .ok (.invokevirtual 80, 3) := by decide +kernel
theorem dX3_readSemicolon_15 : decode cX3_readSemicolon 15 = .ok (.ifCond .eq 13, 3) := by decide +kernel
theorem dX3_readSemicolon_18 : decode cX3_readSemicolon 18 = .ok (.aload_n 0, 1) := by decide +kernel
theorem dX3_readSemicolon_19 : decode cX3_readSemicolon 19 = .ok (.getfield 15, 3) := by decide +kernel
theorem dX3_readSemicolon_22 : decode cX3_readSemicolon 22 = .ok (.invokevirtual 84, 3) := by decide +kernel
theorem dX3_readSemicolon_25 : decode cX3_readSemicolon 25 = .ok (.goto 8, 3) := by decide +kernel
theorem dX3_readSemicolon_28 : decode cX3_readSemicolon 28 = .ok (.aload_n 0, 1) := by decide +kernel
theorem dX3_readSemicolon_29 : decode cX3_readSemicolon 29 = .ok (.iconst 1, 1) := by decide +kernel
theorem dX3_readSemicolon_30 : decode cX3_readSemicolon 30 = .ok (.invokevirtual 73, 3) := by decide +kernel
theorem dX3_readSemicolon_33 : decode cX3_readSemicolon 33 = .ok (.return_, 1) := by decide +kernel
def l3_readSemicolon_33   (M : mm_M) : Option (mm_M) :=
  some M
set_option maxHeartbeats 2000000 in
theorem sl3_readSemicolon_33     (M : mm_M) : Snd injV j3_readSemicolon mm_X0 33 [none] [] M (l3_readSemicolon_33   M) := by
  unfold l3_readSemicolon_33
  exact sn_vret (j := j3_readSemicolon) (pc := 33) rfl dX3_readSemicolon_33
def f3_readSemicolon  (M : mm_M) : Option (mm_M) :=
  bI (mI M 22 1) (fun v_1 => if v_1 = 0 then (cI (f5_isSemicolon M) (fun r_2 M => if r_2 = 0 then (cV (f3_blame 1 M) (fun M => l3_readSemicolon_33 M)) else (cV (f5_step M) (fun M => l3_readSemicolon_33 M)))) else (some M))
set_option maxHeartbeats 2000000 in
theorem s3_readSemicolon  (M : mm_M) : Snd injV j3_readSemicolon mm_X0 0 [some (.ref 22)] [] M (f3_readSemicolon  M) := by
  refine Snd.wk (lo' := [some (.ref 22)]) ?_ (by simp [mm_le])
  unfold f3_readSemicolon
  refine sn_aload_n (j := j3_readSemicolon) (pc := 0) rfl rfl dX3_readSemicolon_0 ?_
  refine g_X3_9 (j := j3_readSemicolon) (pc := 1) rfl dX3_readSemicolon_1 ?_
  refine Snd.bI (fun v_1 => ?_)
  refine sn_if_eq (j := j3_readSemicolon) (pc := 4) 8 rfl dX3_readSemicolon_4 ?_ ?_
  · refine sn_aload_n (j := j3_readSemicolon) (pc := 8) rfl rfl dX3_readSemicolon_8 ?_
    refine g_X3_15 (j := j3_readSemicolon) (pc := 9) rfl dX3_readSemicolon_9 ?_
    refine sn_callV (j := j3_readSemicolon) (pc := 12) (jc := j5_isSemicolon) (As := []) (s5_isSemicolon M) mm_hvI (by simp [Value.category]) (Nat.le_of_ble_eq_true rfl) q5_isSemicolon rfl (by decide) rfl rfl ⟨by decide, by decide⟩ w_ml_X3_80 w_im_X5_isSemicolon w_se_X5_isSemicolon rfl (Nat.le_of_ble_eq_true rfl) dX3_readSemicolon_12 ?_
    rintro ⟨r_2, M⟩
    show Snd injV j3_readSemicolon mm_X0 15 [some (.ref 22)] [.int r_2] M _
    refine sn_if_eq (j := j3_readSemicolon) (pc := 15) 28 rfl dX3_readSemicolon_15 ?_ ?_
    · refine sn_aload_n (j := j3_readSemicolon) (pc := 28) rfl rfl dX3_readSemicolon_28 ?_
      refine sn_iconst (j := j3_readSemicolon) (pc := 29) 1 rfl dX3_readSemicolon_29 ?_
      refine sn_callV (j := j3_readSemicolon) (pc := 30) (jc := j3_blame) (As := [.int 1]) (s3_blame 1 M) mm_hvV (by simp [Value.category]) (Nat.le_of_ble_eq_true rfl) q3_blame rfl (by decide) rfl rfl ⟨by decide, by decide⟩ w_ml_X3_73 w_im_X3_blame w_se_X3_blame rfl (Nat.le_of_ble_eq_true rfl) dX3_readSemicolon_30 ?_
      intro M
      show Snd injV j3_readSemicolon mm_X0 33 [some (.ref 22)] [] M _
      exact Snd.wk (sl3_readSemicolon_33 M) (by simp [mm_le])
    · refine sn_aload_n (j := j3_readSemicolon) (pc := 18) rfl rfl dX3_readSemicolon_18 ?_
      refine g_X3_15 (j := j3_readSemicolon) (pc := 19) rfl dX3_readSemicolon_19 ?_
      refine sn_callV (j := j3_readSemicolon) (pc := 22) (jc := j5_step) (As := []) (s5_step M) mm_hvV (by simp [Value.category]) (Nat.le_of_ble_eq_true rfl) q5_step rfl (by decide) rfl rfl ⟨by decide, by decide⟩ w_ml_X3_84 w_im_X5_step w_se_X5_step rfl (Nat.le_of_ble_eq_true rfl) dX3_readSemicolon_22 ?_
      intro M
      show Snd injV j3_readSemicolon mm_X0 25 [some (.ref 22)] [] M _
      refine sn_goto (j := j3_readSemicolon) (pc := 25) 33 rfl dX3_readSemicolon_25 ?_
      exact Snd.wk (sl3_readSemicolon_33 M) (by simp [mm_le])
  · exact sn_vret (j := j3_readSemicolon) (pc := 7) rfl dX3_readSemicolon_7

abbrev j3_readStatement : mm_J := (yX3_readStatement, cX3_readStatement, 2, none, 5)
theorem dX3_readStatement_0 : decode cX3_readStatement 0 = .ok (.aload_n 0, 1) := by decide +kernel
theorem dX3_readStatement_1 : decode cX3_readStatement 1 = .ok (.getfield 15, 3) := by decide +kernel
theorem dX3_readStatement_4 : decode cX3_readStatement 4 = .ok (.ldc 34, 2) := by decide +kernel
theorem dX3_readStatement_6 : decode cX3_readStatement 6 = .ok (.invokevirtual 36, 3) := by decide +kernel
theorem dX3_readStatement_9 : decode cX3_readStatement 9 = .ok (.ifCond .eq 11, 3) := by decide +kernel
theorem dX3_readStatement_12 : decode cX3_readStatement 12 = .ok (.aload_n 0, 1) := by decide +kernel
theorem dX3_readStatement_13 : decode cX3_readStatement 13 = .ok (.aload_n 1, 1) := by decide +kernel
theorem dX3_readStatement_14 : decode cX3_readStatement 14 = .ok (.invokevirtual 40, 3) := by decide +kernel
theorem dX3_readStatement_17 : decode cX3_readStatement 17 = .ok (.goto 151, 3) := by decide +kernel
theorem dX3_readStatement_20 : decode cX3_readStatement 20 = .ok (.aload_n 0, 1) := by decide +kernel
theorem dX3_readStatement_21 : decode cX3_readStatement 21 = .ok (.getfield 15, 3) := by decide +kernel
theorem dX3_readStatement_24 : decode cX3_readStatement 24 = .ok (.ldc 43, 2) := by decide +kernel
theorem dX3_readStatement_26 : decode cX3_readStatement 26 = .ok (.invokevirtual 36, 3) := by decide +kernel
theorem dX3_readStatement_29 : decode cX3_readStatement 29 = .ok (.ifCond .eq 11, 3) := by decide +kernel
theorem dX3_readStatement_32 : decode cX3_readStatement 32 = .ok (.aload_n 0, 1) := by decide +kernel
theorem dX3_readStatement_33 : decode cX3_readStatement 33 = .ok (.aload_n 1, 1) := by decide +kernel
theorem dX3_readStatement_34 : decode cX3_readStatement 34 = .ok (.invokevirtual 45, 3) := by decide +kernel
theorem dX3_readStatement_37 : decode cX3_readStatement 37 = .ok (.goto 131, 3) := by decide +kernel
theorem dX3_readStatement_40 : decode cX3_readStatement 40 = .ok (.aload_n 0, 1) := by decide +kernel
theorem dX3_readStatement_41 : decode cX3_readStatement 41 = .ok (.getfield 15, 3) := by decide +kernel
theorem dX3_readStatement_44 : decode cX3_readStatement 44 = .ok (.ldc 48, 2) := by decide +kernel
theorem dX3_readStatement_46 : decode cX3_readStatement 46 = .ok (.invokevirtual 36, 3) := by decide +kernel
theorem dX3_readStatement_49 : decode cX3_readStatement 49 = .ok (.ifCond .eq 12, 3) := by decide +kernel
theorem dX3_readStatement_52 : decode cX3_readStatement 52 = .ok (.aload_n 0, 1) := by decide +kernel
theorem dX3_readStatement_53 : decode cX3_readStatement 53 = .ok (.aload_n 1, 1) := by decide +kernel
theorem dX3_readStatement_54 : decode cX3_readStatement 54 = .ok (.iconst 0, 1) := by decide +kernel
theorem dX3_readStatement_55 : decode cX3_readStatement 55 = .ok (.invokevirtual 50, 3) := by decide +kernel
theorem dX3_readStatement_58 : decode cX3_readStatement 58 = .ok (.goto 110, 3) := by decide +kernel
theorem dX3_readStatement_61 : decode cX3_readStatement 61 = .ok (.aload_n 0, 1) := by decide +kernel
theorem dX3_readStatement_62 : decode cX3_readStatement 62 = .ok (.getfield 15, 3) := by decide +kernel
theorem dX3_readStatement_65 : decode cX3_readStatement 65 = .ok (.ldc 54, 2) := by decide +kernel
theorem dX3_readStatement_67 : decode cX3_readStatement 67 = .ok (.invokevirtual 36, 3) := by decide +kernel
theorem dX3_readStatement_70 : decode cX3_readStatement 70 = .ok (.ifCond .eq 12, 3) := by decide +kernel
theorem dX3_readStatement_73 : decode cX3_readStatement 73 = .ok (.aload_n 0, 1) := by decide +kernel
theorem dX3_readStatement_74 : decode cX3_readStatement 74 = .ok (.aload_n 1, 1) := by decide +kernel
theorem dX3_readStatement_75 : decode cX3_readStatement 75 = .ok (.iconst 1, 1) := by decide +kernel
theorem dX3_readStatement_76 : decode cX3_readStatement 76 = .ok (.invokevirtual 50, 3) := by decide +kernel
theorem dX3_readStatement_79 : decode cX3_readStatement 79 = .ok (.goto 89, 3) := by decide +kernel
theorem dX3_readStatement_82 : decode cX3_readStatement 82 = .ok (.aload_n 0, 1) := by decide +kernel
theorem dX3_readStatement_83 : decode cX3_readStatement 83 = .ok (.getfield 15, 3) := by decide +kernel
theorem dX3_readStatement_86 : decode cX3_readStatement 86 = .ok (.ldc 56, 2) := by decide +kernel
theorem dX3_readStatement_88 : decode cX3_readStatement 88 = .ok (.invokevirtual 36, 3) := by decide +kernel
theorem dX3_readStatement_91 : decode cX3_readStatement 91 = .ok (.ifCond .eq 12, 3) := by decide +kernel
theorem dX3_readStatement_94 : decode cX3_readStatement 94 = .ok (.aload_n 0, 1) := by decide +kernel
theorem dX3_readStatement_95 : decode cX3_readStatement 95 = .ok (.aload_n 1, 1) := by decide +kernel
theorem dX3_readStatement_96 : decode cX3_readStatement 96 = .ok (.iconst 2, 1) := by decide +kernel
theorem dX3_readStatement_97 : decode cX3_readStatement 97 = .ok (.invokevirtual 50, 3) := by decide +kernel
theorem dX3_readStatement_100 : decode cX3_readStatement 100 = .ok (.goto 68, 3) := by decide +kernel
theorem dX3_readStatement_103 : decode cX3_readStatement 103 = .ok (.aload_n 0, 1) := by decide +kernel
theorem dX3_readStatement_104 : decode cX3_readStatement 104 = .ok (.getfield 15, 3) := by decide +kernel
theorem dX3_readStatement_107 : decode cX3_readStatement 107 = .ok (.ldc 58, 2) := by decide +kernel
theorem dX3_readStatement_109 : decode cX3_readStatement 109 = .ok (.invokevirtual 36, 3) := by decide +kernel
theorem dX3_readStatement_112 : decode cX3_readStatement 112 = .ok (.ifCond .eq 11, 3) := by decide +kernel
theorem dX3_readStatement_115 : decode cX3_readStatement 115 = .ok (.aload_n 0, 1) := by decide +kernel
theorem dX3_readStatement_116 : decode cX3_readStatement 116 = .ok (.aload_n 1, 1) := by decide +kernel
theorem dX3_readStatement_117 : decode cX3_readStatement 117 = .ok (.invokevirtual 60, 3) := by decide +kernel
theorem dX3_readStatement_120 : decode cX3_readStatement 120 = .ok (.goto 48, 3) := by decide +kernel
theorem dX3_readStatement_123 : decode cX3_readStatement 123 = .ok (.aload_n 0, 1) := by decide +kernel
theorem dX3_readStatement_124 : decode cX3_readStatement 124 = .ok (.getfield 15, 3) := by decide +kernel
theorem dX3_readStatement_127 : decode cX3_readStatement 127 = .ok (.ldc 63, 2) := by decide +kernel
theorem dX3_readStatement_129 : decode cX3_readStatement 129 = .ok (.invokevirtual 36, 3) := by decide +kernel
theorem dX3_readStatement_132 : decode cX3_readStatement 132 = .ok (.ifCond .eq 11, 3) := by decide +kernel
theorem dX3_readStatement_135 : decode cX3_readStatement 135 = .ok (.aload_n 0, 1) := by decide +kernel
theorem dX3_readStatement_136 : decode cX3_readStatement 136 = .ok (.aload_n 1, 1) := by decide +kernel
theorem dX3_readStatement_137 : decode cX3_readStatement 137 = .ok (.invokevirtual 65, 3) := by decide +kernel
theorem dX3_readStatement_140 : decode cX3_readStatement 140 = .ok (.goto 28, 3) := by decide +kernel
theorem dX3_readStatement_143 : decode cX3_readStatement 143 = .ok (.aload_n 0, 1) := by decide +kernel
theorem dX3_readStatement_144 : decode cX3_readStatement 144 = .ok (.getfield 15, 3) := by decide +kernel
theorem dX3_readStatement_147 : decode cX3_readStatement 147 = .ok (.ldc 68, 2) := by decide +kernel
theorem dX3_readStatement_149 : decode cX3_readStatement 149 = .ok (.invokevirtual 36, 3) := by decide +kernel
theorem dX3_readStatement_152 : decode cX3_readStatement 152 = .ok (.ifCond .eq 11, 3) := by decide +kernel
theorem dX3_readStatement_155 : decode cX3_readStatement 155 = .ok (.aload_n 0, 1) := by decide +kernel
theorem dX3_readStatement_156 : decode cX3_readStatement 156 = .ok (.aload_n 1, 1) := by decide +kernel
theorem dX3_readStatement_157 : decode cX3_readStatement 157 = .ok (.invokevirtual 70, 3) := by decide +kernel
theorem dX3_readStatement_160 : decode cX3_readStatement 160 = .ok (.goto 8, 3) := by decide +kernel
theorem dX3_readStatement_163 : decode cX3_readStatement 163 = .ok (.aload_n 0, 1) := by decide +kernel
theorem dX3_readStatement_164 : decode cX3_readStatement 164 = .ok (.iconst 1, 1) := by decide +kernel
theorem dX3_readStatement_165 : decode cX3_readStatement 165 = .ok (.invokevirtual 73, 3) := by decide +kernel
theorem dX3_readStatement_168 : decode cX3_readStatement 168 = .ok (.aload_n 0, 1) := by decide +kernel
theorem dX3_readStatement_169 : decode cX3_readStatement 169 = .ok (.invokevirtual 77, 3) := by decide +kernel
theorem dX3_readStatement_172 : decode cX3_readStatement 172 = .ok (.return_, 1) := by decide +kernel
def l3_readStatement_168   (M : mm_M) : Option (mm_M) :=
  cV (f3_readSemicolon M) (fun M => some M)
set_option maxHeartbeats 2000000 in
theorem sl3_readStatement_168     (M : mm_M) : Snd injV j3_readStatement mm_X0 168 [some (.ref 22), none] [] M (l3_readStatement_168   M) := by
  unfold l3_readStatement_168
  refine sn_aload_n (j := j3_readStatement) (pc := 168) rfl rfl dX3_readStatement_168 ?_
  refine sn_callV (j := j3_readStatement) (pc := 169) (jc := j3_readSemicolon) (As := []) (s3_readSemicolon M) mm_hvV (by simp [Value.category]) (Nat.le_of_ble_eq_true rfl) q3_readSemicolon rfl (by decide) rfl rfl ⟨by decide, by decide⟩ w_ml_X3_77 w_im_X3_readSemicolon w_se_X3_readSemicolon rfl (Nat.le_of_ble_eq_true rfl) dX3_readStatement_169 ?_
  intro M
  show Snd injV j3_readStatement mm_X0 172 [some (.ref 22), none] [] M _
  exact sn_vret (j := j3_readStatement) (pc := 172) rfl dX3_readStatement_172
def f3_readStatement (d1 : Nat) (M : mm_M) : Option (mm_M) :=
  if isD d1 = true then (cI (f5_isWord 200 M) (fun r_1 M => if r_1 = 0 then (cI (f5_isWord 201 M) (fun r_2 M => if r_2 = 0 then (cI (f5_isWord 202 M) (fun r_3 M => if r_3 = 0 then (cI (f5_isWord 203 M) (fun r_4 M => if r_4 = 0 then (cI (f5_isWord 204 M) (fun r_5 M => if r_5 = 0 then (cI (f5_isWord 205 M) (fun r_6 M => if r_6 = 0 then (cI (f5_isWord 206 M) (fun r_7 M => if r_7 = 0 then (cI (f5_isWord 207 M) (fun r_8 M => if r_8 = 0 then (cV (f3_blame 1 M) (fun M => l3_readStatement_168 M)) else (cV (f3_readCharge d1 M) (fun M => l3_readStatement_168 M)))) else (cV (f3_readBus d1 M) (fun M => l3_readStatement_168 M)))) else (cV (f3_readCurve d1 M) (fun M => l3_readStatement_168 M)))) else (cV (f3_readSetting d1 2 M) (fun M => l3_readStatement_168 M)))) else (cV (f3_readSetting d1 1 M) (fun M => l3_readStatement_168 M)))) else (cV (f3_readSetting d1 0 M) (fun M => l3_readStatement_168 M)))) else (cV (f3_readPrice d1 M) (fun M => l3_readStatement_168 M)))) else (cV (f3_readSlots d1 M) (fun M => l3_readStatement_168 M)))) else none
set_option maxHeartbeats 2000000 in
theorem s3_readStatement (d1 : Nat) (M : mm_M) : Snd injV j3_readStatement mm_X0 0 [some (.ref 22), some (.ref d1)] [] M (f3_readStatement d1 M) := by
  refine Snd.wk (lo' := [some (.ref 22), some (.ref d1)]) ?_ (by simp [mm_le])
  unfold f3_readStatement
  refine Snd.ite fun hd1 => ?_
  refine sn_aload_n (j := j3_readStatement) (pc := 0) rfl rfl dX3_readStatement_0 ?_
  refine g_X3_15 (j := j3_readStatement) (pc := 1) rfl dX3_readStatement_1 ?_
  refine sn_ldcS (j := j3_readStatement) (pc := 4) (q := 200) mm_S0 dX3_readStatement_4 ?_
  refine sn_callV (j := j3_readStatement) (pc := 6) (jc := j5_isWord) (As := [.ref 200]) (s5_isWord 200 M) mm_hvI (by simp [Value.category]) (Nat.le_of_ble_eq_true rfl) q5_isWord rfl (by decide) rfl rfl ⟨by decide, by decide⟩ w_ml_X3_36 w_im_X5_isWord w_se_X5_isWord rfl (Nat.le_of_ble_eq_true rfl) dX3_readStatement_6 ?_
  rintro ⟨r_1, M⟩
  show Snd injV j3_readStatement mm_X0 9 [some (.ref 22), some (.ref d1)] [.int r_1] M _
  refine sn_if_eq (j := j3_readStatement) (pc := 9) 20 rfl dX3_readStatement_9 ?_ ?_
  · refine sn_aload_n (j := j3_readStatement) (pc := 20) rfl rfl dX3_readStatement_20 ?_
    refine g_X3_15 (j := j3_readStatement) (pc := 21) rfl dX3_readStatement_21 ?_
    refine sn_ldcS (j := j3_readStatement) (pc := 24) (q := 201) mm_S1 dX3_readStatement_24 ?_
    refine sn_callV (j := j3_readStatement) (pc := 26) (jc := j5_isWord) (As := [.ref 201]) (s5_isWord 201 M) mm_hvI (by simp [Value.category]) (Nat.le_of_ble_eq_true rfl) q5_isWord rfl (by decide) rfl rfl ⟨by decide, by decide⟩ w_ml_X3_36 w_im_X5_isWord w_se_X5_isWord rfl (Nat.le_of_ble_eq_true rfl) dX3_readStatement_26 ?_
    rintro ⟨r_2, M⟩
    show Snd injV j3_readStatement mm_X0 29 [some (.ref 22), some (.ref d1)] [.int r_2] M _
    refine sn_if_eq (j := j3_readStatement) (pc := 29) 40 rfl dX3_readStatement_29 ?_ ?_
    · refine sn_aload_n (j := j3_readStatement) (pc := 40) rfl rfl dX3_readStatement_40 ?_
      refine g_X3_15 (j := j3_readStatement) (pc := 41) rfl dX3_readStatement_41 ?_
      refine sn_ldcS (j := j3_readStatement) (pc := 44) (q := 202) mm_S2 dX3_readStatement_44 ?_
      refine sn_callV (j := j3_readStatement) (pc := 46) (jc := j5_isWord) (As := [.ref 202]) (s5_isWord 202 M) mm_hvI (by simp [Value.category]) (Nat.le_of_ble_eq_true rfl) q5_isWord rfl (by decide) rfl rfl ⟨by decide, by decide⟩ w_ml_X3_36 w_im_X5_isWord w_se_X5_isWord rfl (Nat.le_of_ble_eq_true rfl) dX3_readStatement_46 ?_
      rintro ⟨r_3, M⟩
      show Snd injV j3_readStatement mm_X0 49 [some (.ref 22), some (.ref d1)] [.int r_3] M _
      refine sn_if_eq (j := j3_readStatement) (pc := 49) 61 rfl dX3_readStatement_49 ?_ ?_
      · refine sn_aload_n (j := j3_readStatement) (pc := 61) rfl rfl dX3_readStatement_61 ?_
        refine g_X3_15 (j := j3_readStatement) (pc := 62) rfl dX3_readStatement_62 ?_
        refine sn_ldcS (j := j3_readStatement) (pc := 65) (q := 203) mm_S3 dX3_readStatement_65 ?_
        refine sn_callV (j := j3_readStatement) (pc := 67) (jc := j5_isWord) (As := [.ref 203]) (s5_isWord 203 M) mm_hvI (by simp [Value.category]) (Nat.le_of_ble_eq_true rfl) q5_isWord rfl (by decide) rfl rfl ⟨by decide, by decide⟩ w_ml_X3_36 w_im_X5_isWord w_se_X5_isWord rfl (Nat.le_of_ble_eq_true rfl) dX3_readStatement_67 ?_
        rintro ⟨r_4, M⟩
        show Snd injV j3_readStatement mm_X0 70 [some (.ref 22), some (.ref d1)] [.int r_4] M _
        refine sn_if_eq (j := j3_readStatement) (pc := 70) 82 rfl dX3_readStatement_70 ?_ ?_
        · refine sn_aload_n (j := j3_readStatement) (pc := 82) rfl rfl dX3_readStatement_82 ?_
          refine g_X3_15 (j := j3_readStatement) (pc := 83) rfl dX3_readStatement_83 ?_
          refine sn_ldcS (j := j3_readStatement) (pc := 86) (q := 204) mm_S4 dX3_readStatement_86 ?_
          refine sn_callV (j := j3_readStatement) (pc := 88) (jc := j5_isWord) (As := [.ref 204]) (s5_isWord 204 M) mm_hvI (by simp [Value.category]) (Nat.le_of_ble_eq_true rfl) q5_isWord rfl (by decide) rfl rfl ⟨by decide, by decide⟩ w_ml_X3_36 w_im_X5_isWord w_se_X5_isWord rfl (Nat.le_of_ble_eq_true rfl) dX3_readStatement_88 ?_
          rintro ⟨r_5, M⟩
          show Snd injV j3_readStatement mm_X0 91 [some (.ref 22), some (.ref d1)] [.int r_5] M _
          refine sn_if_eq (j := j3_readStatement) (pc := 91) 103 rfl dX3_readStatement_91 ?_ ?_
          · refine sn_aload_n (j := j3_readStatement) (pc := 103) rfl rfl dX3_readStatement_103 ?_
            refine g_X3_15 (j := j3_readStatement) (pc := 104) rfl dX3_readStatement_104 ?_
            refine sn_ldcS (j := j3_readStatement) (pc := 107) (q := 205) mm_S5 dX3_readStatement_107 ?_
            refine sn_callV (j := j3_readStatement) (pc := 109) (jc := j5_isWord) (As := [.ref 205]) (s5_isWord 205 M) mm_hvI (by simp [Value.category]) (Nat.le_of_ble_eq_true rfl) q5_isWord rfl (by decide) rfl rfl ⟨by decide, by decide⟩ w_ml_X3_36 w_im_X5_isWord w_se_X5_isWord rfl (Nat.le_of_ble_eq_true rfl) dX3_readStatement_109 ?_
            rintro ⟨r_6, M⟩
            show Snd injV j3_readStatement mm_X0 112 [some (.ref 22), some (.ref d1)] [.int r_6] M _
            refine sn_if_eq (j := j3_readStatement) (pc := 112) 123 rfl dX3_readStatement_112 ?_ ?_
            · refine sn_aload_n (j := j3_readStatement) (pc := 123) rfl rfl dX3_readStatement_123 ?_
              refine g_X3_15 (j := j3_readStatement) (pc := 124) rfl dX3_readStatement_124 ?_
              refine sn_ldcS (j := j3_readStatement) (pc := 127) (q := 206) mm_S6 dX3_readStatement_127 ?_
              refine sn_callV (j := j3_readStatement) (pc := 129) (jc := j5_isWord) (As := [.ref 206]) (s5_isWord 206 M) mm_hvI (by simp [Value.category]) (Nat.le_of_ble_eq_true rfl) q5_isWord rfl (by decide) rfl rfl ⟨by decide, by decide⟩ w_ml_X3_36 w_im_X5_isWord w_se_X5_isWord rfl (Nat.le_of_ble_eq_true rfl) dX3_readStatement_129 ?_
              rintro ⟨r_7, M⟩
              show Snd injV j3_readStatement mm_X0 132 [some (.ref 22), some (.ref d1)] [.int r_7] M _
              refine sn_if_eq (j := j3_readStatement) (pc := 132) 143 rfl dX3_readStatement_132 ?_ ?_
              · refine sn_aload_n (j := j3_readStatement) (pc := 143) rfl rfl dX3_readStatement_143 ?_
                refine g_X3_15 (j := j3_readStatement) (pc := 144) rfl dX3_readStatement_144 ?_
                refine sn_ldcS (j := j3_readStatement) (pc := 147) (q := 207) mm_S7 dX3_readStatement_147 ?_
                refine sn_callV (j := j3_readStatement) (pc := 149) (jc := j5_isWord) (As := [.ref 207]) (s5_isWord 207 M) mm_hvI (by simp [Value.category]) (Nat.le_of_ble_eq_true rfl) q5_isWord rfl (by decide) rfl rfl ⟨by decide, by decide⟩ w_ml_X3_36 w_im_X5_isWord w_se_X5_isWord rfl (Nat.le_of_ble_eq_true rfl) dX3_readStatement_149 ?_
                rintro ⟨r_8, M⟩
                show Snd injV j3_readStatement mm_X0 152 [some (.ref 22), some (.ref d1)] [.int r_8] M _
                refine sn_if_eq (j := j3_readStatement) (pc := 152) 163 rfl dX3_readStatement_152 ?_ ?_
                · refine sn_aload_n (j := j3_readStatement) (pc := 163) rfl rfl dX3_readStatement_163 ?_
                  refine sn_iconst (j := j3_readStatement) (pc := 164) 1 rfl dX3_readStatement_164 ?_
                  refine sn_callV (j := j3_readStatement) (pc := 165) (jc := j3_blame) (As := [.int 1]) (s3_blame 1 M) mm_hvV (by simp [Value.category]) (Nat.le_of_ble_eq_true rfl) q3_blame rfl (by decide) rfl rfl ⟨by decide, by decide⟩ w_ml_X3_73 w_im_X3_blame w_se_X3_blame rfl (Nat.le_of_ble_eq_true rfl) dX3_readStatement_165 ?_
                  intro M
                  show Snd injV j3_readStatement mm_X0 168 [some (.ref 22), some (.ref d1)] [] M _
                  exact Snd.wk (sl3_readStatement_168 M) (by simp [mm_le])
                · refine sn_aload_n (j := j3_readStatement) (pc := 155) rfl rfl dX3_readStatement_155 ?_
                  refine sn_aload_n (j := j3_readStatement) (pc := 156) rfl rfl dX3_readStatement_156 ?_
                  refine sn_callV (j := j3_readStatement) (pc := 157) (jc := j3_readCharge) (As := [.ref d1]) (s3_readCharge d1 M) mm_hvV (by simp [Value.category]) (Nat.le_of_ble_eq_true rfl) q3_readCharge rfl (by decide) rfl rfl ⟨by decide, by decide⟩ w_ml_X3_70 w_im_X3_readCharge w_se_X3_readCharge rfl (Nat.le_of_ble_eq_true rfl) dX3_readStatement_157 ?_
                  intro M
                  show Snd injV j3_readStatement mm_X0 160 [some (.ref 22), some (.ref d1)] [] M _
                  refine sn_goto (j := j3_readStatement) (pc := 160) 168 rfl dX3_readStatement_160 ?_
                  exact Snd.wk (sl3_readStatement_168 M) (by simp [mm_le])
              · refine sn_aload_n (j := j3_readStatement) (pc := 135) rfl rfl dX3_readStatement_135 ?_
                refine sn_aload_n (j := j3_readStatement) (pc := 136) rfl rfl dX3_readStatement_136 ?_
                refine sn_callV (j := j3_readStatement) (pc := 137) (jc := j3_readBus) (As := [.ref d1]) (s3_readBus d1 M) mm_hvV (by simp [Value.category]) (Nat.le_of_ble_eq_true rfl) q3_readBus rfl (by decide) rfl rfl ⟨by decide, by decide⟩ w_ml_X3_65 w_im_X3_readBus w_se_X3_readBus rfl (Nat.le_of_ble_eq_true rfl) dX3_readStatement_137 ?_
                intro M
                show Snd injV j3_readStatement mm_X0 140 [some (.ref 22), some (.ref d1)] [] M _
                refine sn_goto (j := j3_readStatement) (pc := 140) 168 rfl dX3_readStatement_140 ?_
                exact Snd.wk (sl3_readStatement_168 M) (by simp [mm_le])
            · refine sn_aload_n (j := j3_readStatement) (pc := 115) rfl rfl dX3_readStatement_115 ?_
              refine sn_aload_n (j := j3_readStatement) (pc := 116) rfl rfl dX3_readStatement_116 ?_
              refine sn_callV (j := j3_readStatement) (pc := 117) (jc := j3_readCurve) (As := [.ref d1]) (s3_readCurve d1 M) mm_hvV (by simp [Value.category]) (Nat.le_of_ble_eq_true rfl) q3_readCurve rfl (by decide) rfl rfl ⟨by decide, by decide⟩ w_ml_X3_60 w_im_X3_readCurve w_se_X3_readCurve rfl (Nat.le_of_ble_eq_true rfl) dX3_readStatement_117 ?_
              intro M
              show Snd injV j3_readStatement mm_X0 120 [some (.ref 22), some (.ref d1)] [] M _
              refine sn_goto (j := j3_readStatement) (pc := 120) 168 rfl dX3_readStatement_120 ?_
              exact Snd.wk (sl3_readStatement_168 M) (by simp [mm_le])
          · refine sn_aload_n (j := j3_readStatement) (pc := 94) rfl rfl dX3_readStatement_94 ?_
            refine sn_aload_n (j := j3_readStatement) (pc := 95) rfl rfl dX3_readStatement_95 ?_
            refine sn_iconst (j := j3_readStatement) (pc := 96) 2 rfl dX3_readStatement_96 ?_
            refine sn_callV (j := j3_readStatement) (pc := 97) (jc := j3_readSetting) (As := [.ref d1, .int 2]) (s3_readSetting d1 2 M) mm_hvV (by simp [Value.category]) (Nat.le_of_ble_eq_true rfl) q3_readSetting rfl (by decide) rfl rfl ⟨by decide, by decide⟩ w_ml_X3_50 w_im_X3_readSetting w_se_X3_readSetting rfl (Nat.le_of_ble_eq_true rfl) dX3_readStatement_97 ?_
            intro M
            show Snd injV j3_readStatement mm_X0 100 [some (.ref 22), some (.ref d1)] [] M _
            refine sn_goto (j := j3_readStatement) (pc := 100) 168 rfl dX3_readStatement_100 ?_
            exact Snd.wk (sl3_readStatement_168 M) (by simp [mm_le])
        · refine sn_aload_n (j := j3_readStatement) (pc := 73) rfl rfl dX3_readStatement_73 ?_
          refine sn_aload_n (j := j3_readStatement) (pc := 74) rfl rfl dX3_readStatement_74 ?_
          refine sn_iconst (j := j3_readStatement) (pc := 75) 1 rfl dX3_readStatement_75 ?_
          refine sn_callV (j := j3_readStatement) (pc := 76) (jc := j3_readSetting) (As := [.ref d1, .int 1]) (s3_readSetting d1 1 M) mm_hvV (by simp [Value.category]) (Nat.le_of_ble_eq_true rfl) q3_readSetting rfl (by decide) rfl rfl ⟨by decide, by decide⟩ w_ml_X3_50 w_im_X3_readSetting w_se_X3_readSetting rfl (Nat.le_of_ble_eq_true rfl) dX3_readStatement_76 ?_
          intro M
          show Snd injV j3_readStatement mm_X0 79 [some (.ref 22), some (.ref d1)] [] M _
          refine sn_goto (j := j3_readStatement) (pc := 79) 168 rfl dX3_readStatement_79 ?_
          exact Snd.wk (sl3_readStatement_168 M) (by simp [mm_le])
      · refine sn_aload_n (j := j3_readStatement) (pc := 52) rfl rfl dX3_readStatement_52 ?_
        refine sn_aload_n (j := j3_readStatement) (pc := 53) rfl rfl dX3_readStatement_53 ?_
        refine sn_iconst (j := j3_readStatement) (pc := 54) 0 rfl dX3_readStatement_54 ?_
        refine sn_callV (j := j3_readStatement) (pc := 55) (jc := j3_readSetting) (As := [.ref d1, .int 0]) (s3_readSetting d1 0 M) mm_hvV (by simp [Value.category]) (Nat.le_of_ble_eq_true rfl) q3_readSetting rfl (by decide) rfl rfl ⟨by decide, by decide⟩ w_ml_X3_50 w_im_X3_readSetting w_se_X3_readSetting rfl (Nat.le_of_ble_eq_true rfl) dX3_readStatement_55 ?_
        intro M
        show Snd injV j3_readStatement mm_X0 58 [some (.ref 22), some (.ref d1)] [] M _
        refine sn_goto (j := j3_readStatement) (pc := 58) 168 rfl dX3_readStatement_58 ?_
        exact Snd.wk (sl3_readStatement_168 M) (by simp [mm_le])
    · refine sn_aload_n (j := j3_readStatement) (pc := 32) rfl rfl dX3_readStatement_32 ?_
      refine sn_aload_n (j := j3_readStatement) (pc := 33) rfl rfl dX3_readStatement_33 ?_
      refine sn_callV (j := j3_readStatement) (pc := 34) (jc := j3_readPrice) (As := [.ref d1]) (s3_readPrice d1 M) mm_hvV (by simp [Value.category]) (Nat.le_of_ble_eq_true rfl) q3_readPrice rfl (by decide) rfl rfl ⟨by decide, by decide⟩ w_ml_X3_45 w_im_X3_readPrice w_se_X3_readPrice rfl (Nat.le_of_ble_eq_true rfl) dX3_readStatement_34 ?_
      intro M
      show Snd injV j3_readStatement mm_X0 37 [some (.ref 22), some (.ref d1)] [] M _
      refine sn_goto (j := j3_readStatement) (pc := 37) 168 rfl dX3_readStatement_37 ?_
      exact Snd.wk (sl3_readStatement_168 M) (by simp [mm_le])
  · refine sn_aload_n (j := j3_readStatement) (pc := 12) rfl rfl dX3_readStatement_12 ?_
    refine sn_aload_n (j := j3_readStatement) (pc := 13) rfl rfl dX3_readStatement_13 ?_
    refine sn_callV (j := j3_readStatement) (pc := 14) (jc := j3_readSlots) (As := [.ref d1]) (s3_readSlots d1 M) mm_hvV (by simp [Value.category]) (Nat.le_of_ble_eq_true rfl) q3_readSlots rfl (by decide) rfl rfl ⟨by decide, by decide⟩ w_ml_X3_40 w_im_X3_readSlots w_se_X3_readSlots rfl (Nat.le_of_ble_eq_true rfl) dX3_readStatement_14 ?_
    intro M
    show Snd injV j3_readStatement mm_X0 17 [some (.ref 22), some (.ref d1)] [] M _
    refine sn_goto (j := j3_readStatement) (pc := 17) 168 rfl dX3_readStatement_17 ?_
    exact Snd.wk (sl3_readStatement_168 M) (by simp [mm_le])

abbrev j3_readInto : mm_J := (yX3_readInto, cX3_readInto, 3, (some .int), 6)
theorem dX3_readInto_0 : decode cX3_readInto 0 = .ok (.aload_n 0, 1) := by decide +kernel
theorem dX3_readInto_1 : decode cX3_readInto 1 = .ok (.iconst 0, 1) := by decide +kernel
theorem dX3_readInto_2 : decode cX3_readInto 2 = .ok (.putfield 9, 3) := by decide +kernel
theorem dX3_readInto_5 : decode cX3_readInto 5 = .ok (.iconst 0, 1) := by decide +kernel
theorem dX3_readInto_6 : decode cX3_readInto 6 = .ok (.istore_n 2, 1) := by decide +kernel
theorem dX3_readInto_7 : decode cX3_readInto 7 = .ok (.aload_n 0, 1) := by decide +kernel
theorem dX3_readInto_8 : decode cX3_readInto 8 = .ok (.getfield 15, 3) := by decide +kernel
theorem dX3_readInto_11 : decode cX3_readInto 11 = .ok (.invokevirtual 19, 3) := by decide +kernel
theorem dX3_readInto_14 : decode cX3_readInto 14 = .ok (.iload_n 2, 1) := by decide +kernel
theorem dX3_readInto_15 : decode cX3_readInto 15 = .ok (.sipush 400, 3) := by decide +kernel
theorem dX3_readInto_18 : decode cX3_readInto 18 = .ok (.if_icmp .ge 31, 3) := by decide +kernel
theorem dX3_readInto_21 : decode cX3_readInto 21 = .ok (.aload_n 0, 1) := by decide +kernel
theorem dX3_readInto_22 : decode cX3_readInto 22 = .ok (.getfield 9, 3) := by decide +kernel
theorem dX3_readInto_25 : decode cX3_readInto 25 = .ok (.ifCond .ne 24, 3) := by decide +kernel
theorem dX3_readInto_28 : decode cX3_readInto 28 = .ok (.aload_n 0, 1) := by decide +kernel
theorem dX3_readInto_29 : decode cX3_readInto 29 = .ok (.getfield 15, 3) := by decide +kernel
theorem dX3_readInto_32 : decode cX3_readInto 32 = .ok (.getfield 24, 3) := by decide +kernel
theorem dX3_readInto_35 : decode cX3_readInto 35 = .ok (.ifCond .eq 14, 3) := by decide +kernel
theorem dX3_readInto_38 : decode cX3_readInto 38 = .ok (.aload_n 0, 1) := by decide +kernel
theorem dX3_readInto_39 : decode cX3_readInto 39 = .ok (.aload_n 1, 1) := by decide +kernel
theorem dX3_readInto_40 : decode cX3_readInto 40 = .ok (.invokevirtual 27, 3) := by decide +kernel
theorem dX3_readInto_43 : decode cX3_readInto 43 = .ok (.iinc 2 1, 3) := by decide +kernel
theorem dX3_readInto_46 : decode cX3_readInto 46 = .ok (.goto (-32), 3) := by decide +kernel
theorem dX3_readInto_49 : decode cX3_readInto 49 = .ok (.aload_n 0, 1) := by decide +kernel
theorem dX3_readInto_50 : decode cX3_readInto 50 = .ok (.getfield 9, 3) := by decide +kernel
theorem dX3_readInto_53 : decode cX3_readInto 53 = .ok (.ifCond .ne 7, 3) := by decide +kernel
theorem dX3_readInto_56 : decode cX3_readInto 56 = .ok (.iload_n 2, 1) := by decide +kernel
theorem dX3_readInto_57 : decode cX3_readInto 57 = .ok (.goto 4, 3) := by decide +kernel
theorem dX3_readInto_60 : decode cX3_readInto 60 = .ok (.iconst (-1), 1) := by decide +kernel
theorem dX3_readInto_61 : decode cX3_readInto 61 = .ok (.ireturn, 1) := by decide +kernel
def l3_readInto_61  (s0 : Int32) (M : mm_M) : Option (Int32 × mm_M) :=
  some (s0, M)
set_option maxHeartbeats 2000000 in
theorem sl3_readInto_61   (s0 : Int32)  (M : mm_M) : Snd injI j3_readInto mm_X0 61 [none, none, none] [.int s0] M (l3_readInto_61  s0 M) := by
  unfold l3_readInto_61
  exact sn_iret (j := j3_readInto) (pc := 61) rfl dX3_readInto_61
def l3_readInto_49  (x2 : Int32) (M : mm_M) : Option (Int32 × mm_M) :=
  bI (mI M 22 1) (fun v_1 => if v_1 = 0 then (l3_readInto_61 x2 M) else (l3_readInto_61 (-1) M))
set_option maxHeartbeats 2000000 in
theorem sl3_readInto_49   (x2 : Int32)  (M : mm_M) : Snd injI j3_readInto mm_X0 49 [some (.ref 22), none, some (.int x2)] [] M (l3_readInto_49  x2 M) := by
  unfold l3_readInto_49
  refine sn_aload_n (j := j3_readInto) (pc := 49) rfl rfl dX3_readInto_49 ?_
  refine g_X3_9 (j := j3_readInto) (pc := 50) rfl dX3_readInto_50 ?_
  refine Snd.bI (fun v_1 => ?_)
  refine sn_if_ne (j := j3_readInto) (pc := 53) 60 rfl dX3_readInto_53 ?_ ?_
  · refine sn_iconst (j := j3_readInto) (pc := 60) (-1) rfl dX3_readInto_60 ?_
    exact Snd.wk (sl3_readInto_61 (-1) M) (by simp [mm_le])
  · refine sn_iload_n (j := j3_readInto) (pc := 56) rfl rfl dX3_readInto_56 ?_
    refine sn_goto (j := j3_readInto) (pc := 57) 61 rfl dX3_readInto_57 ?_
    exact Snd.wk (sl3_readInto_61 x2 M) (by simp [mm_le])
def b3_readInto_14  (rec14 : Nat → Int32 → mm_M → Option (Int32 × mm_M)) (d1 : Nat) (x2 : Int32) (M : mm_M) : Option (Int32 × mm_M) :=
  if 400 ≤ x2 then (l3_readInto_49 x2 M) else (bI (mI M 22 1) (fun v_2 => if v_2 = 0 then (bI (mI M 20 2) (fun v_3 => if v_3 = 0 then (l3_readInto_49 x2 M) else (cV (f3_readStatement d1 M) (fun M => rec14 d1 (x2 + 1) M)))) else (l3_readInto_49 x2 M)))
set_option maxHeartbeats 2000000 in
theorem sb3_readInto_14   (rec14 : Nat → Int32 → mm_M → Option (Int32 × mm_M)) (hrec14 : ∀ (d1 : Nat) (x2 : Int32) (M : mm_M), isD d1 = true → Snd injI j3_readInto mm_X0 14 [some (.ref 22), some (.ref d1), some (.int x2)] [] M (rec14 d1 x2 M)) (d1 : Nat) (x2 : Int32) (hd1 : isD d1 = true) (M : mm_M) : Snd injI j3_readInto mm_X0 14 [some (.ref 22), some (.ref d1), some (.int x2)] [] M (b3_readInto_14  rec14 d1 x2 M) := by
  unfold b3_readInto_14
  refine sn_iload_n (j := j3_readInto) (pc := 14) rfl rfl dX3_readInto_14 ?_
  refine sn_sipush (j := j3_readInto) (pc := 15) 400 rfl dX3_readInto_15 ?_
  refine sn_icmp_ge (j := j3_readInto) (pc := 18) 49 rfl dX3_readInto_18 ?_ ?_
  · exact Snd.wk (sl3_readInto_49 x2 M) (by simp [mm_le])
  · refine sn_aload_n (j := j3_readInto) (pc := 21) rfl rfl dX3_readInto_21 ?_
    refine g_X3_9 (j := j3_readInto) (pc := 22) rfl dX3_readInto_22 ?_
    refine Snd.bI (fun v_2 => ?_)
    refine sn_if_ne (j := j3_readInto) (pc := 25) 49 rfl dX3_readInto_25 ?_ ?_
    · exact Snd.wk (sl3_readInto_49 x2 M) (by simp [mm_le])
    · refine sn_aload_n (j := j3_readInto) (pc := 28) rfl rfl dX3_readInto_28 ?_
      refine g_X3_15 (j := j3_readInto) (pc := 29) rfl dX3_readInto_29 ?_
      refine g_X3_24 (j := j3_readInto) (pc := 32) rfl dX3_readInto_32 ?_
      refine Snd.bI (fun v_3 => ?_)
      refine sn_if_eq (j := j3_readInto) (pc := 35) 49 rfl dX3_readInto_35 ?_ ?_
      · exact Snd.wk (sl3_readInto_49 x2 M) (by simp [mm_le])
      · refine sn_aload_n (j := j3_readInto) (pc := 38) rfl rfl dX3_readInto_38 ?_
        refine sn_aload_n (j := j3_readInto) (pc := 39) rfl rfl dX3_readInto_39 ?_
        refine sn_callV (j := j3_readInto) (pc := 40) (jc := j3_readStatement) (As := [.ref d1]) (s3_readStatement d1 M) mm_hvV (by simp [Value.category]) (Nat.le_of_ble_eq_true rfl) q3_readStatement rfl (by decide) rfl rfl ⟨by decide, by decide⟩ w_ml_X3_27 w_im_X3_readStatement w_se_X3_readStatement rfl (Nat.le_of_ble_eq_true rfl) dX3_readInto_40 ?_
        intro M
        show Snd injI j3_readInto mm_X0 43 [some (.ref 22), some (.ref d1), some (.int x2)] [] M _
        refine sn_iinc (j := j3_readInto) (pc := 43) 1 rfl (by decide) rfl (lo' := [some (.ref 22), some (.ref d1), some (.int (x2 + 1))]) rfl dX3_readInto_43 ?_
        refine sn_goto (j := j3_readInto) (pc := 46) 14 rfl dX3_readInto_46 ?_
        exact Snd.wk (hrec14 d1 (x2 + 1) M hd1) (by simp [mm_le])
def l3_readInto_14  : Nat → Nat → Int32 → mm_M → Option (Int32 × mm_M)
  | 0 => fun _ _ _ => none
  | n + 1 => fun d1 x2 M => b3_readInto_14  (l3_readInto_14  n) d1 x2 M
theorem sl3_readInto_14   : ∀ (n : Nat) (d1 : Nat) (x2 : Int32) (hd1 : isD d1 = true) (M : mm_M), Snd injI j3_readInto mm_X0 14 [some (.ref 22), some (.ref d1), some (.int x2)] [] M (l3_readInto_14  n d1 x2 M)
  | 0 => fun _ _ _ _ => Snd.none
  | n + 1 => fun d1 x2 hd1 M => sb3_readInto_14   (l3_readInto_14  n) (fun d1 x2 M hd1 => sl3_readInto_14   n d1 x2 hd1 M) d1 x2 hd1 M
def f3_readInto (d1 : Nat) (M : mm_M) : Option (Int32 × mm_M) :=
  if isD d1 = true then (bM (sI M 22 1 0) (fun M => cV (f5_rewind M) (fun M => l3_readInto_14 FU d1 0 M))) else none
set_option maxHeartbeats 2000000 in
theorem s3_readInto (d1 : Nat) (M : mm_M) : Snd injI j3_readInto mm_X0 0 [some (.ref 22), some (.ref d1)] [] M (f3_readInto d1 M) := by
  refine Snd.wk (lo' := [some (.ref 22), some (.ref d1), none]) ?_ (by simp [mm_le])
  unfold f3_readInto
  refine Snd.ite fun hd1 => ?_
  refine sn_aload_n (j := j3_readInto) (pc := 0) rfl rfl dX3_readInto_0 ?_
  refine sn_iconst (j := j3_readInto) (pc := 1) 0 rfl dX3_readInto_1 ?_
  refine p_X3_9 (j := j3_readInto) (pc := 2) rfl dX3_readInto_2 (fun M => ?_)
  refine sn_iconst (j := j3_readInto) (pc := 5) 0 rfl dX3_readInto_5 ?_
  refine sn_istore_n (j := j3_readInto) (pc := 6) rfl (by decide) (lo' := [some (.ref 22), some (.ref d1), some (.int 0)]) rfl dX3_readInto_6 ?_
  refine sn_aload_n (j := j3_readInto) (pc := 7) rfl rfl dX3_readInto_7 ?_
  refine g_X3_15 (j := j3_readInto) (pc := 8) rfl dX3_readInto_8 ?_
  refine sn_callV (j := j3_readInto) (pc := 11) (jc := j5_rewind) (As := []) (s5_rewind M) mm_hvV (by simp [Value.category]) (Nat.le_of_ble_eq_true rfl) q5_rewind rfl (by decide) rfl rfl ⟨by decide, by decide⟩ w_ml_X3_19 w_im_X5_rewind w_se_X5_rewind rfl (Nat.le_of_ble_eq_true rfl) dX3_readInto_11 ?_
  intro M
  show Snd injI j3_readInto mm_X0 14 [some (.ref 22), some (.ref d1), some (.int 0)] [] M _
  exact Snd.wk (sl3_readInto_14 FU d1 0 hd1 M) (by simp [mm_le])
