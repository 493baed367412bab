abbrev j1_levelAt : mm_J := (yX1_levelAt, cX1_levelAt, 3, (some .int), 0)
theorem dX1_levelAt_0 : decode cX1_levelAt 0 = .ok (.aload_n 0, 1) := by decide +kernel
theorem dX1_levelAt_1 : decode cX1_levelAt 1 = .ok (.getfield 11, 3) := by decide +kernel
theorem dX1_levelAt_4 : decode cX1_levelAt 4 = .ok (.iload_n 1, 1) := by decide +kernel
theorem dX1_levelAt_5 : decode cX1_levelAt 5 = .ok (.bipush 9, 2) := by decide +kernel
theorem dX1_levelAt_7 : decode cX1_levelAt 7 = .ok (.imul, 1) := by decide +kernel
theorem dX1_levelAt_8 : decode cX1_levelAt 8 = .ok (.iload_n 2, 1) := by decide +kernel
theorem dX1_levelAt_9 : decode cX1_levelAt 9 = .ok (.iadd, 1) := by decide +kernel
theorem dX1_levelAt_10 : decode cX1_levelAt 10 = .ok (.iaload, 1) := by decide +kernel
theorem dX1_levelAt_11 : decode cX1_levelAt 11 = .ok (.ireturn, 1) := by decide +kernel
def f1_levelAt (x1 : Int32) (x2 : Int32) (M : mm_M) : Option (Int32 × mm_M) :=
  aI 24 36 ((x1 * 9) + x2) M (fun w_1 => some (w_1, M))
set_option maxHeartbeats 2000000 in
theorem s1_levelAt (x1 : Int32) (x2 : Int32) (M : mm_M) : Snd injI j1_levelAt mm_X0 0 [some (.ref 23), some (.int x1), some (.int x2)] [] M (f1_levelAt x1 x2 M) := by
  refine Snd.wk (lo' := [some (.ref 23), some (.int x1), some (.int x2)]) ?_ (by simp [mm_le])
  unfold f1_levelAt
  refine sn_aload_n (j := j1_levelAt) (pc := 0) rfl rfl dX1_levelAt_0 ?_
  refine g_X1_11 (j := j1_levelAt) (pc := 1) rfl dX1_levelAt_1 ?_
  refine sn_iload_n (j := j1_levelAt) (pc := 4) rfl rfl dX1_levelAt_4 ?_
  refine sn_bipush (j := j1_levelAt) (pc := 5) 9 rfl dX1_levelAt_5 ?_
  refine sn_imul (j := j1_levelAt) (pc := 7) dX1_levelAt_7 ?_
  refine sn_iload_n (j := j1_levelAt) (pc := 8) rfl rfl dX1_levelAt_8 ?_
  refine sn_iadd (j := j1_levelAt) (pc := 9) dX1_levelAt_9 ?_
  refine sn_iald (j := j1_levelAt) (pc := 10) rfl ⟨by decide, by decide⟩ dX1_levelAt_10 (fun w_1 => ?_)
  exact sn_iret (j := j1_levelAt) (pc := 11) rfl dX1_levelAt_11

abbrev j1_chargeSlot : mm_J := (yX1_chargeSlot, cX1_chargeSlot, 8, (some .int), 2)
theorem dX1_chargeSlot_0 : decode cX1_chargeSlot 0 = .ok (.iconst 0, 1) := by decide +kernel
theorem dX1_chargeSlot_1 : decode cX1_chargeSlot 1 = .ok (.istore 4, 2) := by decide +kernel
theorem dX1_chargeSlot_3 : decode cX1_chargeSlot 3 = .ok (.iconst 0, 1) := by decide +kernel
theorem dX1_chargeSlot_4 : decode cX1_chargeSlot 4 = .ok (.istore 5, 2) := by decide +kernel
theorem dX1_chargeSlot_6 : decode cX1_chargeSlot 6 = .ok (.iload 5, 2) := by decide +kernel
theorem dX1_chargeSlot_8 : decode cX1_chargeSlot 8 = .ok (.aload_n 1, 1) := by decide +kernel
theorem dX1_chargeSlot_9 : decode cX1_chargeSlot 9 = .ok (.getfield 31, 3) := by decide +kernel
theorem dX1_chargeSlot_12 : decode cX1_chargeSlot 12 = .ok (.if_icmp .ge 83, 3) := by decide +kernel
theorem dX1_chargeSlot_15 : decode cX1_chargeSlot 15 = .ok (.aload_n 0, 1) := by decide +kernel
theorem dX1_chargeSlot_16 : decode cX1_chargeSlot 16 = .ok (.iload 5, 2) := by decide +kernel
theorem dX1_chargeSlot_18 : decode cX1_chargeSlot 18 = .ok (.iload_n 2, 1) := by decide +kernel
theorem dX1_chargeSlot_19 : decode cX1_chargeSlot 19 = .ok (.invokevirtual 62, 3) := by decide +kernel
theorem dX1_chargeSlot_22 : decode cX1_chargeSlot 22 = .ok (.istore 6, 2) := by decide +kernel
theorem dX1_chargeSlot_24 : decode cX1_chargeSlot 24 = .ok (.iconst 0, 1) := by decide +kernel
theorem dX1_chargeSlot_25 : decode cX1_chargeSlot 25 = .ok (.istore 7, 2) := by decide +kernel
theorem dX1_chargeSlot_27 : decode cX1_chargeSlot 27 = .ok (.iload_n 3, 1) := by decide +kernel
theorem dX1_chargeSlot_28 : decode cX1_chargeSlot 28 = .ok (.iload 5, 2) := by decide +kernel
theorem dX1_chargeSlot_30 : decode cX1_chargeSlot 30 = .ok (.ishr, 1) := by decide +kernel
theorem dX1_chargeSlot_31 : decode cX1_chargeSlot 31 = .ok (.iconst 1, 1) := by decide +kernel
theorem dX1_chargeSlot_32 : decode cX1_chargeSlot 32 = .ok (.iand, 1) := by decide +kernel
theorem dX1_chargeSlot_33 : decode cX1_chargeSlot 33 = .ok (.iconst 1, 1) := by decide +kernel
theorem dX1_chargeSlot_34 : decode cX1_chargeSlot 34 = .ok (.if_icmp .ne 29, 3) := by decide +kernel
theorem dX1_chargeSlot_37 : decode cX1_chargeSlot 37 = .ok (.aload_n 1, 1) := by decide +kernel
theorem dX1_chargeSlot_38 : decode cX1_chargeSlot 38 = .ok (.iload 5, 2) := by decide +kernel
theorem dX1_chargeSlot_40 : decode cX1_chargeSlot 40 = .ok (.iload_n 2, 1) := by decide +kernel
theorem dX1_chargeSlot_41 : decode cX1_chargeSlot 41 = .ok (.invokevirtual 65, 3) := by decide +kernel
theorem dX1_chargeSlot_44 : decode cX1_chargeSlot 44 = .ok (.ifCond .eq 19, 3) := by decide +kernel
theorem dX1_chargeSlot_47 : decode cX1_chargeSlot 47 = .ok (.aload_n 1, 1) := by decide +kernel
theorem dX1_chargeSlot_48 : decode cX1_chargeSlot 48 = .ok (.iload 5, 2) := by decide +kernel
theorem dX1_chargeSlot_50 : decode cX1_chargeSlot 50 = .ok (.iload 6, 2) := by decide +kernel
theorem dX1_chargeSlot_52 : decode cX1_chargeSlot 52 = .ok (.aload_n 1, 1) := by decide +kernel
theorem dX1_chargeSlot_53 : decode cX1_chargeSlot 53 = .ok (.getfield 69, 3) := by decide +kernel
theorem dX1_chargeSlot_56 : decode cX1_chargeSlot 56 = .ok (.iconst 1, 1) := by decide +kernel
theorem dX1_chargeSlot_57 : decode cX1_chargeSlot 57 = .ok (.iaload, 1) := by decide +kernel
theorem dX1_chargeSlot_58 : decode cX1_chargeSlot 58 = .ok (.invokevirtual 72, 3) := by decide +kernel
theorem dX1_chargeSlot_61 : decode cX1_chargeSlot 61 = .ok (.istore 7, 2) := by decide +kernel
theorem dX1_chargeSlot_63 : decode cX1_chargeSlot 63 = .ok (.aload_n 0, 1) := by decide +kernel
theorem dX1_chargeSlot_64 : decode cX1_chargeSlot 64 = .ok (.getfield 11, 3) := by decide +kernel
theorem dX1_chargeSlot_67 : decode cX1_chargeSlot 67 = .ok (.iload 5, 2) := by decide +kernel
theorem dX1_chargeSlot_69 : decode cX1_chargeSlot 69 = .ok (.bipush 9, 2) := by decide +kernel
theorem dX1_chargeSlot_71 : decode cX1_chargeSlot 71 = .ok (.imul, 1) := by decide +kernel
theorem dX1_chargeSlot_72 : decode cX1_chargeSlot 72 = .ok (.iload_n 2, 1) := by decide +kernel
theorem dX1_chargeSlot_73 : decode cX1_chargeSlot 73 = .ok (.iadd, 1) := by decide +kernel
theorem dX1_chargeSlot_74 : decode cX1_chargeSlot 74 = .ok (.iconst 1, 1) := by decide +kernel
theorem dX1_chargeSlot_75 : decode cX1_chargeSlot 75 = .ok (.iadd, 1) := by decide +kernel
theorem dX1_chargeSlot_76 : decode cX1_chargeSlot 76 = .ok (.iload 6, 2) := by decide +kernel
theorem dX1_chargeSlot_78 : decode cX1_chargeSlot 78 = .ok (.iload 7, 2) := by decide +kernel
theorem dX1_chargeSlot_80 : decode cX1_chargeSlot 80 = .ok (.iadd, 1) := by decide +kernel
theorem dX1_chargeSlot_81 : decode cX1_chargeSlot 81 = .ok (.iastore, 1) := by decide +kernel
theorem dX1_chargeSlot_82 : decode cX1_chargeSlot 82 = .ok (.iload 4, 2) := by decide +kernel
theorem dX1_chargeSlot_84 : decode cX1_chargeSlot 84 = .ok (.iload 7, 2) := by decide +kernel
theorem dX1_chargeSlot_86 : decode cX1_chargeSlot 86 = .ok (.iadd, 1) := by decide +kernel
theorem dX1_chargeSlot_87 : decode cX1_chargeSlot 87 = .ok (.istore 4, 2) := by decide +kernel
theorem dX1_chargeSlot_89 : decode cX1_chargeSlot 89 = .ok (.iinc 5 1, 3) := by decide +kernel
theorem dX1_chargeSlot_92 : decode cX1_chargeSlot 92 = .ok (.goto (-86), 3) := by decide +kernel
theorem dX1_chargeSlot_95 : decode cX1_chargeSlot 95 = .ok (.iload 4, 2) := by decide +kernel
theorem dX1_chargeSlot_97 : decode cX1_chargeSlot 97 = .ok (.ireturn, 1) := by decide +kernel
def l1_chargeSlot_63 (rec6 : Nat → Int32 → Int32 → Int32 → Int32 → mm_M → Option (Int32 × mm_M)) (d1 : Nat) (x2 : Int32) (x3 : Int32) (x4 : Int32) (x5 : Int32) (x6 : Int32) (x7 : Int32) (M : mm_M) : Option (Int32 × mm_M) :=
  uI 24 36 (((x5 * 9) + x2) + 1) (x6 + x7) M (fun M => bI (x4 + x7) (fun x4_1 => rec6 d1 x2 x3 x4_1 (x5 + 1) M))
set_option maxHeartbeats 2000000 in
theorem sl1_chargeSlot_63 (rec6 : Nat → Int32 → Int32 → Int32 → Int32 → mm_M → Option (Int32 × mm_M)) (hrec6 : ∀ (d1 : Nat) (x2 : Int32) (x3 : Int32) (x4 : Int32) (x5 : Int32) (M : mm_M), isD d1 = true → Snd injI j1_chargeSlot mm_X0 6 [some (.ref 23), some (.ref d1), some (.int x2), some (.int x3), some (.int x4), some (.int x5), none, none] [] M (rec6 d1 x2 x3 x4 x5 M)) (d1 : Nat) (x2 : Int32) (x3 : Int32) (x4 : Int32) (x5 : Int32) (x6 : Int32) (x7 : Int32) (hd1 : isD d1 = true) (M : mm_M) : Snd injI j1_chargeSlot mm_X0 63 [some (.ref 23), some (.ref d1), some (.int x2), some (.int x3), some (.int x4), some (.int x5), some (.int x6), some (.int x7)] [] M (l1_chargeSlot_63 rec6 d1 x2 x3 x4 x5 x6 x7 M) := by
  unfold l1_chargeSlot_63
  refine sn_aload_n (j := j1_chargeSlot) (pc := 63) rfl rfl dX1_chargeSlot_63 ?_
  refine g_X1_11 (j := j1_chargeSlot) (pc := 64) rfl dX1_chargeSlot_64 ?_
  refine sn_iload (j := j1_chargeSlot) (pc := 67) rfl dX1_chargeSlot_67 ?_
  refine sn_bipush (j := j1_chargeSlot) (pc := 69) 9 rfl dX1_chargeSlot_69 ?_
  refine sn_imul (j := j1_chargeSlot) (pc := 71) dX1_chargeSlot_71 ?_
  refine sn_iload_n (j := j1_chargeSlot) (pc := 72) rfl rfl dX1_chargeSlot_72 ?_
  refine sn_iadd (j := j1_chargeSlot) (pc := 73) dX1_chargeSlot_73 ?_
  refine sn_iconst (j := j1_chargeSlot) (pc := 74) 1 rfl dX1_chargeSlot_74 ?_
  refine sn_iadd (j := j1_chargeSlot) (pc := 75) dX1_chargeSlot_75 ?_
  refine sn_iload (j := j1_chargeSlot) (pc := 76) rfl dX1_chargeSlot_76 ?_
  refine sn_iload (j := j1_chargeSlot) (pc := 78) rfl dX1_chargeSlot_78 ?_
  refine sn_iadd (j := j1_chargeSlot) (pc := 80) dX1_chargeSlot_80 ?_
  refine sn_iast (j := j1_chargeSlot) (pc := 81) rfl ⟨by decide, by decide⟩ dX1_chargeSlot_81 (fun M => ?_)
  refine sn_iload (j := j1_chargeSlot) (pc := 82) rfl dX1_chargeSlot_82 ?_
  refine sn_iload (j := j1_chargeSlot) (pc := 84) rfl dX1_chargeSlot_84 ?_
  refine sn_iadd (j := j1_chargeSlot) (pc := 86) dX1_chargeSlot_86 ?_
  refine sn_istoreB (j := j1_chargeSlot) (pc := 87) (fun x4_1 => [some (.ref 23), some (.ref d1), some (.int x2), some (.int x3), some (.int x4_1), some (.int x5), some (.int x6), some (.int x7)]) (by decide) (fun _ => rfl) dX1_chargeSlot_87 (fun x4_1 => ?_)
  refine sn_iinc (j := j1_chargeSlot) (pc := 89) 1 rfl (by decide) rfl (lo' := [some (.ref 23), some (.ref d1), some (.int x2), some (.int x3), some (.int x4_1), some (.int (x5 + 1)), some (.int x6), some (.int x7)]) rfl dX1_chargeSlot_89 ?_
  refine sn_goto (j := j1_chargeSlot) (pc := 92) 6 rfl dX1_chargeSlot_92 ?_
  exact Snd.wk (hrec6 d1 x2 x3 x4_1 (x5 + 1) M hd1) (by simp [mm_le])
def b1_chargeSlot_6  (rec6 : Nat → Int32 → Int32 → Int32 → Int32 → mm_M → Option (Int32 × mm_M)) (d1 : Nat) (x2 : Int32) (x3 : Int32) (x4 : Int32) (x5 : Int32) (M : mm_M) : Option (Int32 × mm_M) :=
  bI (mI M d1 2) (fun v_2 => if v_2 ≤ x5 then (some (x4, M)) else (cI (f1_levelAt x5 x2 M) (fun r_3 M => if ((x3 >>> (x5 &&& 31)) &&& 1) = 1 then (cI (f0_isThere d1 x5 x2 M) (fun r_4 M => if r_4 = 0 then (l1_chargeSlot_63 rec6 d1 x2 x3 x4 x5 r_3 0 M) else (aI (d1 + 1) 3 1 M (fun w_5 => cI (f0_gain d1 x5 r_3 w_5 M) (fun r_6 M => l1_chargeSlot_63 rec6 d1 x2 x3 x4 x5 r_3 r_6 M))))) else (l1_chargeSlot_63 rec6 d1 x2 x3 x4 x5 r_3 0 M))))
set_option maxHeartbeats 2000000 in
theorem sb1_chargeSlot_6   (rec6 : Nat → Int32 → Int32 → Int32 → Int32 → mm_M → Option (Int32 × mm_M)) (hrec6 : ∀ (d1 : Nat) (x2 : Int32) (x3 : Int32) (x4 : Int32) (x5 : Int32) (M : mm_M), isD d1 = true → Snd injI j1_chargeSlot mm_X0 6 [some (.ref 23), some (.ref d1), some (.int x2), some (.int x3), some (.int x4), some (.int x5), none, none] [] M (rec6 d1 x2 x3 x4 x5 M)) (d1 : Nat) (x2 : Int32) (x3 : Int32) (x4 : Int32) (x5 : Int32) (hd1 : isD d1 = true) (M : mm_M) : Snd injI j1_chargeSlot mm_X0 6 [some (.ref 23), some (.ref d1), some (.int x2), some (.int x3), some (.int x4), some (.int x5), none, none] [] M (b1_chargeSlot_6  rec6 d1 x2 x3 x4 x5 M) := by
  unfold b1_chargeSlot_6
  refine sn_iload (j := j1_chargeSlot) (pc := 6) rfl dX1_chargeSlot_6 ?_
  refine sn_aload_n (j := j1_chargeSlot) (pc := 8) rfl rfl dX1_chargeSlot_8 ?_
  refine g_X1_31 (j := j1_chargeSlot) (pc := 9) hd1 rfl dX1_chargeSlot_9 ?_
  refine Snd.bI (fun v_2 => ?_)
  refine sn_icmp_ge (j := j1_chargeSlot) (pc := 12) 95 rfl dX1_chargeSlot_12 ?_ ?_
  · refine sn_iload (j := j1_chargeSlot) (pc := 95) rfl dX1_chargeSlot_95 ?_
    exact sn_iret (j := j1_chargeSlot) (pc := 97) rfl dX1_chargeSlot_97
  · refine sn_aload_n (j := j1_chargeSlot) (pc := 15) rfl rfl dX1_chargeSlot_15 ?_
    refine sn_iload (j := j1_chargeSlot) (pc := 16) rfl dX1_chargeSlot_16 ?_
    refine sn_iload_n (j := j1_chargeSlot) (pc := 18) rfl rfl dX1_chargeSlot_18 ?_
    refine sn_callV (j := j1_chargeSlot) (pc := 19) (jc := j1_levelAt) (As := [.int x5, .int x2]) (s1_levelAt x5 x2 M) mm_hvI (by simp [Value.category]) (Nat.le_of_ble_eq_true rfl) q1_levelAt rfl (by decide) rfl rfl ⟨by decide, by decide⟩ w_ml_X1_62 w_im_X1_levelAt w_se_X1_levelAt rfl (Nat.le_of_ble_eq_true rfl) dX1_chargeSlot_19 ?_
    rintro ⟨r_3, M⟩
    show Snd injI j1_chargeSlot mm_X0 22 [some (.ref 23), some (.ref d1), some (.int x2), some (.int x3), some (.int x4), some (.int x5), none, none] [.int r_3] M _
    refine sn_istore (j := j1_chargeSlot) (pc := 22) (by decide) (lo' := [some (.ref 23), some (.ref d1), some (.int x2), some (.int x3), some (.int x4), some (.int x5), some (.int r_3), none]) rfl dX1_chargeSlot_22 ?_
    refine sn_iconst (j := j1_chargeSlot) (pc := 24) 0 rfl dX1_chargeSlot_24 ?_
    refine sn_istore (j := j1_chargeSlot) (pc := 25) (by decide) (lo' := [some (.ref 23), some (.ref d1), some (.int x2), some (.int x3), some (.int x4), some (.int x5), some (.int r_3), some (.int 0)]) rfl dX1_chargeSlot_25 ?_
    refine sn_iload_n (j := j1_chargeSlot) (pc := 27) rfl rfl dX1_chargeSlot_27 ?_
    refine sn_iload (j := j1_chargeSlot) (pc := 28) rfl dX1_chargeSlot_28 ?_
    refine sn_ishr (j := j1_chargeSlot) (pc := 30) dX1_chargeSlot_30 ?_
    refine sn_iconst (j := j1_chargeSlot) (pc := 31) 1 rfl dX1_chargeSlot_31 ?_
    refine sn_iand (j := j1_chargeSlot) (pc := 32) dX1_chargeSlot_32 ?_
    refine sn_iconst (j := j1_chargeSlot) (pc := 33) 1 rfl dX1_chargeSlot_33 ?_
    refine sn_icmp_ne (j := j1_chargeSlot) (pc := 34) 63 rfl dX1_chargeSlot_34 ?_ ?_
    · exact Snd.wk (sl1_chargeSlot_63 rec6 hrec6 d1 x2 x3 x4 x5 r_3 0 hd1 M) (by simp [mm_le])
    · refine sn_aload_n (j := j1_chargeSlot) (pc := 37) rfl rfl dX1_chargeSlot_37 ?_
      refine sn_iload (j := j1_chargeSlot) (pc := 38) rfl dX1_chargeSlot_38 ?_
      refine sn_iload_n (j := j1_chargeSlot) (pc := 40) rfl rfl dX1_chargeSlot_40 ?_
      refine sn_callV (j := j1_chargeSlot) (pc := 41) (jc := j0_isThere) (As := [.int x5, .int x2]) (s0_isThere d1 x5 x2 M) mm_hvI (by simp [Value.category]) (Nat.le_of_ble_eq_true rfl) q0_isThere rfl (by decide) rfl (isD_obj hd1) (isD_pos hd1) w_ml_X1_65 w_im_X0_isThere w_se_X0_isThere rfl (Nat.le_of_ble_eq_true rfl) dX1_chargeSlot_41 ?_
      rintro ⟨r_4, M⟩
      show Snd injI j1_chargeSlot mm_X0 44 [some (.ref 23), some (.ref d1), some (.int x2), some (.int x3), some (.int x4), some (.int x5), some (.int r_3), some (.int 0)] [.int r_4] M _
      refine sn_if_eq (j := j1_chargeSlot) (pc := 44) 63 rfl dX1_chargeSlot_44 ?_ ?_
      · exact Snd.wk (sl1_chargeSlot_63 rec6 hrec6 d1 x2 x3 x4 x5 r_3 0 hd1 M) (by simp [mm_le])
      · refine sn_aload_n (j := j1_chargeSlot) (pc := 47) rfl rfl dX1_chargeSlot_47 ?_
        refine sn_iload (j := j1_chargeSlot) (pc := 48) rfl dX1_chargeSlot_48 ?_
        refine sn_iload (j := j1_chargeSlot) (pc := 50) rfl dX1_chargeSlot_50 ?_
        refine sn_aload_n (j := j1_chargeSlot) (pc := 52) rfl rfl dX1_chargeSlot_52 ?_
        refine g_X1_69 (j := j1_chargeSlot) (pc := 53) hd1 rfl dX1_chargeSlot_53 ?_
        refine sn_iconst (j := j1_chargeSlot) (pc := 56) 1 rfl dX1_chargeSlot_56 ?_
        refine sn_iald (j := j1_chargeSlot) (pc := 57) (isD_a1 hd1) (isD_p1 hd1) dX1_chargeSlot_57 (fun w_5 => ?_)
        refine sn_callV (j := j1_chargeSlot) (pc := 58) (jc := j0_gain) (As := [.int x5, .int r_3, .int w_5]) (s0_gain d1 x5 r_3 w_5 M) mm_hvI (by simp [Value.category]) (Nat.le_of_ble_eq_true rfl) q0_gain rfl (by decide) rfl (isD_obj hd1) (isD_pos hd1) w_ml_X1_72 w_im_X0_gain w_se_X0_gain rfl (Nat.le_of_ble_eq_true rfl) dX1_chargeSlot_58 ?_
        rintro ⟨r_6, M⟩
        show Snd injI j1_chargeSlot mm_X0 61 [some (.ref 23), some (.ref d1), some (.int x2), some (.int x3), some (.int x4), some (.int x5), some (.int r_3), some (.int 0)] [.int r_6] M _
        refine sn_istore (j := j1_chargeSlot) (pc := 61) (by decide) (lo' := [some (.ref 23), some (.ref d1), some (.int x2), some (.int x3), some (.int x4), some (.int x5), some (.int r_3), some (.int r_6)]) rfl dX1_chargeSlot_61 ?_
        exact Snd.wk (sl1_chargeSlot_63 rec6 hrec6 d1 x2 x3 x4 x5 r_3 r_6 hd1 M) (by simp [mm_le])
def l1_chargeSlot_6  : Nat → Nat → Int32 → Int32 → Int32 → Int32 → mm_M → Option (Int32 × mm_M)
  | 0 => fun _ _ _ _ _ _ => none
  | n + 1 => fun d1 x2 x3 x4 x5 M => b1_chargeSlot_6  (l1_chargeSlot_6  n) d1 x2 x3 x4 x5 M
theorem sl1_chargeSlot_6   : ∀ (n : Nat) (d1 : Nat) (x2 : Int32) (x3 : Int32) (x4 : Int32) (x5 : Int32) (hd1 : isD d1 = true) (M : mm_M), Snd injI j1_chargeSlot mm_X0 6 [some (.ref 23), some (.ref d1), some (.int x2), some (.int x3), some (.int x4), some (.int x5), none, none] [] M (l1_chargeSlot_6  n d1 x2 x3 x4 x5 M)
  | 0 => fun _ _ _ _ _ _ _ => Snd.none
  | n + 1 => fun d1 x2 x3 x4 x5 hd1 M => sb1_chargeSlot_6   (l1_chargeSlot_6  n) (fun d1 x2 x3 x4 x5 M hd1 => sl1_chargeSlot_6   n d1 x2 x3 x4 x5 hd1 M) d1 x2 x3 x4 x5 hd1 M
def f1_chargeSlot (d1 : Nat) (x2 : Int32) (x3 : Int32) (M : mm_M) : Option (Int32 × mm_M) :=
  if isD d1 = true then (l1_chargeSlot_6 FU d1 x2 x3 0 0 M) else none
set_option maxHeartbeats 2000000 in
theorem s1_chargeSlot (d1 : Nat) (x2 : Int32) (x3 : Int32) (M : mm_M) : Snd injI j1_chargeSlot mm_X0 0 [some (.ref 23), some (.ref d1), some (.int x2), some (.int x3)] [] M (f1_chargeSlot d1 x2 x3 M) := by
  refine Snd.wk (lo' := [some (.ref 23), some (.ref d1), some (.int x2), some (.int x3), none, none, none, none]) ?_ (by simp [mm_le])
  unfold f1_chargeSlot
  refine Snd.ite fun hd1 => ?_
  refine sn_iconst (j := j1_chargeSlot) (pc := 0) 0 rfl dX1_chargeSlot_0 ?_
  refine sn_istore (j := j1_chargeSlot) (pc := 1) (by decide) (lo' := [some (.ref 23), some (.ref d1), some (.int x2), some (.int x3), some (.int 0), none, none, none]) rfl dX1_chargeSlot_1 ?_
  refine sn_iconst (j := j1_chargeSlot) (pc := 3) 0 rfl dX1_chargeSlot_3 ?_
  refine sn_istore (j := j1_chargeSlot) (pc := 4) (by decide) (lo' := [some (.ref 23), some (.ref d1), some (.int x2), some (.int x3), some (.int 0), some (.int 0), none, none]) rfl dX1_chargeSlot_4 ?_
  exact Snd.wk (sl1_chargeSlot_6 FU d1 x2 x3 0 0 hd1 M) (by simp [mm_le])

abbrev j1_lackOf : mm_J := (yX1_lackOf, cX1_lackOf, 3, (some .int), 1)
theorem dX1_lackOf_0 : decode cX1_lackOf 0 = .ok (.iconst 0, 1) := by decide +kernel
theorem dX1_lackOf_1 : decode cX1_lackOf 1 = .ok (.aload_n 1, 1) := by decide +kernel
theorem dX1_lackOf_2 : decode cX1_lackOf 2 = .ok (.iload_n 2, 1) := by decide +kernel
theorem dX1_lackOf_3 : decode cX1_lackOf 3 = .ok (.iconst 3, 1) := by decide +kernel
theorem dX1_lackOf_4 : decode cX1_lackOf 4 = .ok (.invokevirtual 36, 3) := by decide +kernel
theorem dX1_lackOf_7 : decode cX1_lackOf 7 = .ok (.aload_n 0, 1) := by decide +kernel
theorem dX1_lackOf_8 : decode cX1_lackOf 8 = .ok (.iload_n 2, 1) := by decide +kernel
theorem dX1_lackOf_9 : decode cX1_lackOf 9 = .ok (.aload_n 1, 1) := by decide +kernel
theorem dX1_lackOf_10 : decode cX1_lackOf 10 = .ok (.getfield 40, 3) := by decide +kernel
theorem dX1_lackOf_13 : decode cX1_lackOf 13 = .ok (.invokevirtual 62, 3) := by decide +kernel
theorem dX1_lackOf_16 : decode cX1_lackOf 16 = .ok (.isub, 1) := by decide +kernel
theorem dX1_lackOf_17 : decode cX1_lackOf 17 = .ok (.invokestatic 50, 3) := by decide +kernel
theorem dX1_lackOf_20 : decode cX1_lackOf 20 = .ok (.ireturn, 1) := by decide +kernel
def f1_lackOf (d1 : Nat) (x2 : Int32) (M : mm_M) : Option (Int32 × mm_M) :=
  if isD d1 = true then (cI (f0_fact d1 x2 3 M) (fun r_1 M => bI (mI M d1 0) (fun v_2 => cI (f1_levelAt x2 v_2 M) (fun r_3 M => bI (mx 0 (r_1 - r_3)) (fun v_4 => some (v_4, M)))))) else none
set_option maxHeartbeats 2000000 in
theorem s1_lackOf (d1 : Nat) (x2 : Int32) (M : mm_M) : Snd injI j1_lackOf mm_X0 0 [some (.ref 23), some (.ref d1), some (.int x2)] [] M (f1_lackOf d1 x2 M) := by
  refine Snd.wk (lo' := [some (.ref 23), some (.ref d1), some (.int x2)]) ?_ (by simp [mm_le])
  unfold f1_lackOf
  refine Snd.ite fun hd1 => ?_
  refine sn_iconst (j := j1_lackOf) (pc := 0) 0 rfl dX1_lackOf_0 ?_
  refine sn_aload_n (j := j1_lackOf) (pc := 1) rfl rfl dX1_lackOf_1 ?_
  refine sn_iload_n (j := j1_lackOf) (pc := 2) rfl rfl dX1_lackOf_2 ?_
  refine sn_iconst (j := j1_lackOf) (pc := 3) 3 rfl dX1_lackOf_3 ?_
  refine sn_callV (j := j1_lackOf) (pc := 4) (jc := j0_fact) (As := [.int x2, .int 3]) (s0_fact d1 x2 3 M) mm_hvI (by simp [Value.category]) (Nat.le_of_ble_eq_true rfl) q0_fact rfl (by decide) rfl (isD_obj hd1) (isD_pos hd1) w_ml_X1_36 w_im_X0_fact w_se_X0_fact rfl (Nat.le_of_ble_eq_true rfl) dX1_lackOf_4 ?_
  rintro ⟨r_1, M⟩
  show Snd injI j1_lackOf mm_X0 7 [some (.ref 23), some (.ref d1), some (.int x2)] [.int r_1, .int 0] M _
  refine sn_aload_n (j := j1_lackOf) (pc := 7) rfl rfl dX1_lackOf_7 ?_
  refine sn_iload_n (j := j1_lackOf) (pc := 8) rfl rfl dX1_lackOf_8 ?_
  refine sn_aload_n (j := j1_lackOf) (pc := 9) rfl rfl dX1_lackOf_9 ?_
  refine g_X1_40 (j := j1_lackOf) (pc := 10) hd1 rfl dX1_lackOf_10 ?_
  refine Snd.bI (fun v_2 => ?_)
  refine sn_callV (j := j1_lackOf) (pc := 13) (jc := j1_levelAt) (As := [.int x2, .int v_2]) (s1_levelAt x2 v_2 M) mm_hvI (by simp [Value.category]) (Nat.le_of_ble_eq_true rfl) q1_levelAt rfl (by decide) rfl rfl ⟨by decide, by decide⟩ w_ml_X1_62 w_im_X1_levelAt w_se_X1_levelAt rfl (Nat.le_of_ble_eq_true rfl) dX1_lackOf_13 ?_
  rintro ⟨r_3, M⟩
  show Snd injI j1_lackOf mm_X0 16 [some (.ref 23), some (.ref d1), some (.int x2)] [.int r_3, .int r_1, .int 0] M _
  refine sn_isub (j := j1_lackOf) (pc := 16) dX1_lackOf_16 ?_
  refine sn_max (j := j1_lackOf) (pc := 17) w_ml_X1_50 w_max1 w_math w_max2 (by decide) (Nat.le_of_ble_eq_true rfl) dX1_lackOf_17 ?_
  refine Snd.bI (fun v_4 => ?_)
  exact sn_iret (j := j1_lackOf) (pc := 20) rfl dX1_lackOf_20

abbrev j1_weigh : mm_J := (yX1_weigh, cX1_weigh, 4, none, 3)
theorem dX1_weigh_0 : decode cX1_weigh 0 = .ok (.aload_n 0, 1) := by decide +kernel
theorem dX1_weigh_1 : decode cX1_weigh 1 = .ok (.iconst 0, 1) := by decide +kernel
theorem dX1_weigh_2 : decode cX1_weigh 2 = .ok (.putfield 18, 3) := by decide +kernel
theorem dX1_weigh_5 : decode cX1_weigh 5 = .ok (.aload_n 0, 1) := by decide +kernel
theorem dX1_weigh_6 : decode cX1_weigh 6 = .ok (.iconst 0, 1) := by decide +kernel
theorem dX1_weigh_7 : decode cX1_weigh 7 = .ok (.putfield 28, 3) := by decide +kernel
theorem dX1_weigh_10 : decode cX1_weigh 10 = .ok (.aload_n 0, 1) := by decide +kernel
theorem dX1_weigh_11 : decode cX1_weigh 11 = .ok (.iconst 0, 1) := by decide +kernel
theorem dX1_weigh_12 : decode cX1_weigh 12 = .ok (.putfield 22, 3) := by decide +kernel
theorem dX1_weigh_15 : decode cX1_weigh 15 = .ok (.aload_n 0, 1) := by decide +kernel
theorem dX1_weigh_16 : decode cX1_weigh 16 = .ok (.iconst 0, 1) := by decide +kernel
theorem dX1_weigh_17 : decode cX1_weigh 17 = .ok (.putfield 25, 3) := by decide +kernel
theorem dX1_weigh_20 : decode cX1_weigh 20 = .ok (.iconst 0, 1) := by decide +kernel
theorem dX1_weigh_21 : decode cX1_weigh 21 = .ok (.istore_n 3, 1) := by decide +kernel
theorem dX1_weigh_22 : decode cX1_weigh 22 = .ok (.iload_n 3, 1) := by decide +kernel
theorem dX1_weigh_23 : decode cX1_weigh 23 = .ok (.aload_n 1, 1) := by decide +kernel
theorem dX1_weigh_24 : decode cX1_weigh 24 = .ok (.getfield 31, 3) := by decide +kernel
theorem dX1_weigh_27 : decode cX1_weigh 27 = .ok (.if_icmp .ge 24, 3) := by decide +kernel
theorem dX1_weigh_30 : decode cX1_weigh 30 = .ok (.aload_n 0, 1) := by decide +kernel
theorem dX1_weigh_31 : decode cX1_weigh 31 = .ok (.getfield 11, 3) := by decide +kernel
theorem dX1_weigh_34 : decode cX1_weigh 34 = .ok (.iload_n 3, 1) := by decide +kernel
theorem dX1_weigh_35 : decode cX1_weigh 35 = .ok (.bipush 9, 2) := by decide +kernel
theorem dX1_weigh_37 : decode cX1_weigh 37 = .ok (.imul, 1) := by decide +kernel
theorem dX1_weigh_38 : decode cX1_weigh 38 = .ok (.aload_n 1, 1) := by decide +kernel
theorem dX1_weigh_39 : decode cX1_weigh 39 = .ok (.iload_n 3, 1) := by decide +kernel
theorem dX1_weigh_40 : decode cX1_weigh 40 = .ok (.iconst 2, 1) := by decide +kernel
theorem dX1_weigh_41 : decode cX1_weigh 41 = .ok (.invokevirtual 36, 3) := by decide +kernel
theorem dX1_weigh_44 : decode cX1_weigh 44 = .ok (.iastore, 1) := by decide +kernel
theorem dX1_weigh_45 : decode cX1_weigh 45 = .ok (.iinc 3 1, 3) := by decide +kernel
theorem dX1_weigh_48 : decode cX1_weigh 48 = .ok (.goto (-26), 3) := by decide +kernel
theorem dX1_weigh_51 : decode cX1_weigh 51 = .ok (.iconst 0, 1) := by decide +kernel
theorem dX1_weigh_52 : decode cX1_weigh 52 = .ok (.istore_n 3, 1) := by decide +kernel
theorem dX1_weigh_53 : decode cX1_weigh 53 = .ok (.iload_n 3, 1) := by decide +kernel
theorem dX1_weigh_54 : decode cX1_weigh 54 = .ok (.aload_n 1, 1) := by decide +kernel
theorem dX1_weigh_55 : decode cX1_weigh 55 = .ok (.getfield 40, 3) := by decide +kernel
theorem dX1_weigh_58 : decode cX1_weigh 58 = .ok (.if_icmp .ge 79, 3) := by decide +kernel
theorem dX1_weigh_61 : decode cX1_weigh 61 = .ok (.aload_n 0, 1) := by decide +kernel
theorem dX1_weigh_62 : decode cX1_weigh 62 = .ok (.getfield 15, 3) := by decide +kernel
theorem dX1_weigh_65 : decode cX1_weigh 65 = .ok (.iload_n 3, 1) := by decide +kernel
theorem dX1_weigh_66 : decode cX1_weigh 66 = .ok (.aload_n 0, 1) := by decide +kernel
theorem dX1_weigh_67 : decode cX1_weigh 67 = .ok (.aload_n 1, 1) := by decide +kernel
theorem dX1_weigh_68 : decode cX1_weigh 68 = .ok (.iload_n 3, 1) := by decide +kernel
theorem dX1_weigh_69 : decode cX1_weigh 69 = .ok (.aload_n 2, 1) := by decide +kernel
theorem dX1_weigh_70 : decode cX1_weigh 70 = .ok (.iload_n 3, 1) := by decide +kernel
theorem dX1_weigh_71 : decode cX1_weigh 71 = .ok (.iaload, 1) := by decide +kernel
theorem dX1_weigh_72 : decode cX1_weigh 72 = .ok (.invokevirtual 43, 3) := by decide +kernel
theorem dX1_weigh_75 : decode cX1_weigh 75 = .ok (.iastore, 1) := by decide +kernel
theorem dX1_weigh_76 : decode cX1_weigh 76 = .ok (.aload_n 0, 1) := by decide +kernel
theorem dX1_weigh_77 : decode cX1_weigh 77 = .ok (.dup, 1) := by decide +kernel
theorem dX1_weigh_78 : decode cX1_weigh 78 = .ok (.getfield 18, 3) := by decide +kernel
theorem dX1_weigh_81 : decode cX1_weigh 81 = .ok (.aload_n 0, 1) := by decide +kernel
theorem dX1_weigh_82 : decode cX1_weigh 82 = .ok (.getfield 15, 3) := by decide +kernel
theorem dX1_weigh_85 : decode cX1_weigh 85 = .ok (.iload_n 3, 1) := by decide +kernel
theorem dX1_weigh_86 : decode cX1_weigh 86 = .ok (.iaload, 1) := by decide +kernel
theorem dX1_weigh_87 : decode cX1_weigh 87 = .ok (.aload_n 1, 1) := by decide +kernel
theorem dX1_weigh_88 : decode cX1_weigh 88 = .ok (.getfield 47, 3) := by decide +kernel
theorem dX1_weigh_91 : decode cX1_weigh 91 = .ok (.iload_n 3, 1) := by decide +kernel
theorem dX1_weigh_92 : decode cX1_weigh 92 = .ok (.iaload, 1) := by decide +kernel
theorem dX1_weigh_93 : decode cX1_weigh 93 = .ok (.imul, 1) := by decide +kernel
theorem dX1_weigh_94 : decode cX1_weigh 94 = .ok (.iadd, 1) := by decide +kernel
theorem dX1_weigh_95 : decode cX1_weigh 95 = .ok (.putfield 18, 3) := by decide +kernel
theorem dX1_weigh_98 : decode cX1_weigh 98 = .ok (.aload_n 0, 1) := by decide +kernel
theorem dX1_weigh_99 : decode cX1_weigh 99 = .ok (.aload_n 0, 1) := by decide +kernel
theorem dX1_weigh_100 : decode cX1_weigh 100 = .ok (.getfield 28, 3) := by decide +kernel
theorem dX1_weigh_103 : decode cX1_weigh 103 = .ok (.aload_n 0, 1) := by decide +kernel
theorem dX1_weigh_104 : decode cX1_weigh 104 = .ok (.getfield 15, 3) := by decide +kernel
theorem dX1_weigh_107 : decode cX1_weigh 107 = .ok (.iload_n 3, 1) := by decide +kernel
theorem dX1_weigh_108 : decode cX1_weigh 108 = .ok (.iaload, 1) := by decide +kernel
theorem dX1_weigh_109 : decode cX1_weigh 109 = .ok (.invokestatic 50, 3) := by decide +kernel
theorem dX1_weigh_112 : decode cX1_weigh 112 = .ok (.putfield 28, 3) := by decide +kernel
theorem dX1_weigh_115 : decode cX1_weigh 115 = .ok (.aload_n 0, 1) := by decide +kernel
theorem dX1_weigh_116 : decode cX1_weigh 116 = .ok (.dup, 1) := by decide +kernel
theorem dX1_weigh_117 : decode cX1_weigh 117 = .ok (.getfield 22, 3) := by decide +kernel
theorem dX1_weigh_120 : decode cX1_weigh 120 = .ok (.getstatic 55, 3) := by decide +kernel
theorem dX1_weigh_123 : decode cX1_weigh 123 = .ok (.aload_n 2, 1) := by decide +kernel
theorem dX1_weigh_124 : decode cX1_weigh 124 = .ok (.iload_n 3, 1) := by decide +kernel
theorem dX1_weigh_125 : decode cX1_weigh 125 = .ok (.iaload, 1) := by decide +kernel
theorem dX1_weigh_126 : decode cX1_weigh 126 = .ok (.iaload, 1) := by decide +kernel
theorem dX1_weigh_127 : decode cX1_weigh 127 = .ok (.iadd, 1) := by decide +kernel
theorem dX1_weigh_128 : decode cX1_weigh 128 = .ok (.putfield 22, 3) := by decide +kernel
theorem dX1_weigh_131 : decode cX1_weigh 131 = .ok (.iinc 3 1, 3) := by decide +kernel
theorem dX1_weigh_134 : decode cX1_weigh 134 = .ok (.goto (-81), 3) := by decide +kernel
theorem dX1_weigh_137 : decode cX1_weigh 137 = .ok (.iconst 0, 1) := by decide +kernel
theorem dX1_weigh_138 : decode cX1_weigh 138 = .ok (.istore_n 3, 1) := by decide +kernel
theorem dX1_weigh_139 : decode cX1_weigh 139 = .ok (.iload_n 3, 1) := by decide +kernel
theorem dX1_weigh_140 : decode cX1_weigh 140 = .ok (.aload_n 1, 1) := by decide +kernel
theorem dX1_weigh_141 : decode cX1_weigh 141 = .ok (.getfield 31, 3) := by decide +kernel
theorem dX1_weigh_144 : decode cX1_weigh 144 = .ok (.if_icmp .ge 24, 3) := by decide +kernel
theorem dX1_weigh_147 : decode cX1_weigh 147 = .ok (.aload_n 0, 1) := by decide +kernel
theorem dX1_weigh_148 : decode cX1_weigh 148 = .ok (.dup, 1) := by decide +kernel
theorem dX1_weigh_149 : decode cX1_weigh 149 = .ok (.getfield 25, 3) := by decide +kernel
theorem dX1_weigh_152 : decode cX1_weigh 152 = .ok (.aload_n 0, 1) := by decide +kernel
theorem dX1_weigh_153 : decode cX1_weigh 153 = .ok (.aload_n 1, 1) := by decide +kernel
theorem dX1_weigh_154 : decode cX1_weigh 154 = .ok (.iload_n 3, 1) := by decide +kernel
theorem dX1_weigh_155 : decode cX1_weigh 155 = .ok (.invokevirtual 58, 3) := by decide +kernel
theorem dX1_weigh_158 : decode cX1_weigh 158 = .ok (.iadd, 1) := by decide +kernel
theorem dX1_weigh_159 : decode cX1_weigh 159 = .ok (.putfield 25, 3) := by decide +kernel
theorem dX1_weigh_162 : decode cX1_weigh 162 = .ok (.iinc 3 1, 3) := by decide +kernel
theorem dX1_weigh_165 : decode cX1_weigh 165 = .ok (.goto (-26), 3) := by decide +kernel
theorem dX1_weigh_168 : decode cX1_weigh 168 = .ok (.return_, 1) := by decide +kernel
def b1_weigh_139  (rec139 : Nat → Int32 → mm_M → Option (mm_M)) (d1 : Nat) (x3 : Int32) (M : mm_M) : Option (mm_M) :=
  bI (mI M d1 2) (fun v_1 => if v_1 ≤ x3 then (some M) else (bI (mI M 23 4) (fun v_2 => cI (f1_lackOf d1 x3 M) (fun r_3 M => bM (sI M 23 4 (v_2 + r_3)) (fun M => rec139 d1 (x3 + 1) M)))))
set_option maxHeartbeats 2000000 in
theorem sb1_weigh_139   (rec139 : Nat → Int32 → mm_M → Option (mm_M)) (hrec139 : ∀ (d1 : Nat) (x3 : Int32) (M : mm_M), isD d1 = true → Snd injV j1_weigh mm_X0 139 [some (.ref 23), some (.ref d1), none, some (.int x3)] [] M (rec139 d1 x3 M)) (d1 : Nat) (x3 : Int32) (hd1 : isD d1 = true) (M : mm_M) : Snd injV j1_weigh mm_X0 139 [some (.ref 23), some (.ref d1), none, some (.int x3)] [] M (b1_weigh_139  rec139 d1 x3 M) := by
  unfold b1_weigh_139
  refine sn_iload_n (j := j1_weigh) (pc := 139) rfl rfl dX1_weigh_139 ?_
  refine sn_aload_n (j := j1_weigh) (pc := 140) rfl rfl dX1_weigh_140 ?_
  refine g_X1_31 (j := j1_weigh) (pc := 141) hd1 rfl dX1_weigh_141 ?_
  refine Snd.bI (fun v_1 => ?_)
  refine sn_icmp_ge (j := j1_weigh) (pc := 144) 168 rfl dX1_weigh_144 ?_ ?_
  · exact sn_vret (j := j1_weigh) (pc := 168) rfl dX1_weigh_168
  · refine sn_aload_n (j := j1_weigh) (pc := 147) rfl rfl dX1_weigh_147 ?_
    refine sn_dup (j := j1_weigh) (pc := 148) rfl dX1_weigh_148 ?_
    refine g_X1_25 (j := j1_weigh) (pc := 149) rfl dX1_weigh_149 ?_
    refine Snd.bI (fun v_2 => ?_)
    refine sn_aload_n (j := j1_weigh) (pc := 152) rfl rfl dX1_weigh_152 ?_
    refine sn_aload_n (j := j1_weigh) (pc := 153) rfl rfl dX1_weigh_153 ?_
    refine sn_iload_n (j := j1_weigh) (pc := 154) rfl rfl dX1_weigh_154 ?_
    refine sn_callV (j := j1_weigh) (pc := 155) (jc := j1_lackOf) (As := [.ref d1, .int x3]) (s1_lackOf d1 x3 M) mm_hvI (by simp [Value.category]) (Nat.le_of_ble_eq_true rfl) q1_lackOf rfl (by decide) rfl rfl ⟨by decide, by decide⟩ w_ml_X1_58 w_im_X1_lackOf w_se_X1_lackOf rfl (Nat.le_of_ble_eq_true rfl) dX1_weigh_155 ?_
    rintro ⟨r_3, M⟩
    show Snd injV j1_weigh mm_X0 158 [some (.ref 23), some (.ref d1), none, some (.int x3)] [.int r_3, .int v_2, .ref 23] M _
    refine sn_iadd (j := j1_weigh) (pc := 158) dX1_weigh_158 ?_
    refine p_X1_25 (j := j1_weigh) (pc := 159) rfl dX1_weigh_159 (fun M => ?_)
    refine sn_iinc (j := j1_weigh) (pc := 162) 1 rfl (by decide) rfl (lo' := [some (.ref 23), some (.ref d1), none, some (.int (x3 + 1))]) rfl dX1_weigh_162 ?_
    refine sn_goto (j := j1_weigh) (pc := 165) 139 rfl dX1_weigh_165 ?_
    exact Snd.wk (hrec139 d1 (x3 + 1) M hd1) (by simp [mm_le])
def l1_weigh_139  : Nat → Nat → Int32 → mm_M → Option (mm_M)
  | 0 => fun _ _ _ => none
  | n + 1 => fun d1 x3 M => b1_weigh_139  (l1_weigh_139  n) d1 x3 M
theorem sl1_weigh_139   : ∀ (n : Nat) (d1 : Nat) (x3 : Int32) (hd1 : isD d1 = true) (M : mm_M), Snd injV j1_weigh mm_X0 139 [some (.ref 23), some (.ref d1), none, some (.int x3)] [] M (l1_weigh_139  n d1 x3 M)
  | 0 => fun _ _ _ _ => Snd.none
  | n + 1 => fun d1 x3 hd1 M => sb1_weigh_139   (l1_weigh_139  n) (fun d1 x3 M hd1 => sl1_weigh_139   n d1 x3 hd1 M) d1 x3 hd1 M
def b1_weigh_53  (rec53 : Nat → Nat → Int32 → mm_M → Option (mm_M)) (d1 : Nat) (a2 : Nat) (x3 : Int32) (M : mm_M) : Option (mm_M) :=
  bI (mI M d1 0) (fun v_4 => if v_4 ≤ x3 then (l1_weigh_139 FU d1 0 M) else (aI a2 (mm_n a2) x3 M (fun w_5 => cI (f1_chargeSlot d1 x3 w_5 M) (fun r_6 M => uI 25 8 x3 r_6 M (fun M => bI (mI M 23 2) (fun v_7 => aI 25 8 x3 M (fun w_8 => aI (d1 + 2) 8 x3 M (fun w_9 => bM (sI M 23 2 (v_7 + (w_8 * w_9))) (fun M => bI (mI M 23 5) (fun v_10 => aI 25 8 x3 M (fun w_11 => bI (mx v_10 w_11) (fun v_12 => bM (sI M 23 5 v_12) (fun M => bI (mI M 23 3) (fun v_13 => aI a2 (mm_n a2) x3 M (fun w_14 => aT 1 16 w_14 (fun w_15 => bM (sI M 23 3 (v_13 + w_15)) (fun M => rec53 d1 a2 (x3 + 1) M)))))))))))))))))
set_option maxHeartbeats 2000000 in
theorem sb1_weigh_53   (rec53 : Nat → Nat → Int32 → mm_M → Option (mm_M)) (hrec53 : ∀ (d1 : Nat) (a2 : Nat) (x3 : Int32) (M : mm_M), isD d1 = true → isA a2 = true → Snd injV j1_weigh mm_X0 53 [some (.ref 23), some (.ref d1), some (.ref a2), some (.int x3)] [] M (rec53 d1 a2 x3 M)) (d1 : Nat) (a2 : Nat) (x3 : Int32) (hd1 : isD d1 = true) (ha2 : isA a2 = true) (M : mm_M) : Snd injV j1_weigh mm_X0 53 [some (.ref 23), some (.ref d1), some (.ref a2), some (.int x3)] [] M (b1_weigh_53  rec53 d1 a2 x3 M) := by
  unfold b1_weigh_53
  refine sn_iload_n (j := j1_weigh) (pc := 53) rfl rfl dX1_weigh_53 ?_
  refine sn_aload_n (j := j1_weigh) (pc := 54) rfl rfl dX1_weigh_54 ?_
  refine g_X1_40 (j := j1_weigh) (pc := 55) hd1 rfl dX1_weigh_55 ?_
  refine Snd.bI (fun v_4 => ?_)
  refine sn_icmp_ge (j := j1_weigh) (pc := 58) 137 rfl dX1_weigh_58 ?_ ?_
  · refine sn_iconst (j := j1_weigh) (pc := 137) 0 rfl dX1_weigh_137 ?_
    refine sn_istore_n (j := j1_weigh) (pc := 138) rfl (by decide) (lo' := [some (.ref 23), some (.ref d1), some (.ref a2), some (.int 0)]) rfl dX1_weigh_138 ?_
    exact Snd.wk (sl1_weigh_139 FU d1 0 hd1 M) (by simp [mm_le])
  · refine sn_aload_n (j := j1_weigh) (pc := 61) rfl rfl dX1_weigh_61 ?_
    refine g_X1_15 (j := j1_weigh) (pc := 62) rfl dX1_weigh_62 ?_
    refine sn_iload_n (j := j1_weigh) (pc := 65) rfl rfl dX1_weigh_65 ?_
    refine sn_aload_n (j := j1_weigh) (pc := 66) rfl rfl dX1_weigh_66 ?_
    refine sn_aload_n (j := j1_weigh) (pc := 67) rfl rfl dX1_weigh_67 ?_
    refine sn_iload_n (j := j1_weigh) (pc := 68) rfl rfl dX1_weigh_68 ?_
    refine sn_aload_n (j := j1_weigh) (pc := 69) rfl rfl dX1_weigh_69 ?_
    refine sn_iload_n (j := j1_weigh) (pc := 70) rfl rfl dX1_weigh_70 ?_
    refine sn_iald (j := j1_weigh) (pc := 71) (isA_sh ha2) (isA_pos ha2) dX1_weigh_71 (fun w_5 => ?_)
    refine sn_callV (j := j1_weigh) (pc := 72) (jc := j1_chargeSlot) (As := [.ref d1, .int x3, .int w_5]) (s1_chargeSlot d1 x3 w_5 M) mm_hvI (by simp [Value.category]) (Nat.le_of_ble_eq_true rfl) q1_chargeSlot rfl (by decide) rfl rfl ⟨by decide, by decide⟩ w_ml_X1_43 w_im_X1_chargeSlot w_se_X1_chargeSlot rfl (Nat.le_of_ble_eq_true rfl) dX1_weigh_72 ?_
    rintro ⟨r_6, M⟩
    show Snd injV j1_weigh mm_X0 75 [some (.ref 23), some (.ref d1), some (.ref a2), some (.int x3)] [.int r_6, .int x3, .ref 25] M _
    refine sn_iast (j := j1_weigh) (pc := 75) rfl ⟨by decide, by decide⟩ dX1_weigh_75 (fun M => ?_)
    refine sn_aload_n (j := j1_weigh) (pc := 76) rfl rfl dX1_weigh_76 ?_
    refine sn_dup (j := j1_weigh) (pc := 77) rfl dX1_weigh_77 ?_
    refine g_X1_18 (j := j1_weigh) (pc := 78) rfl dX1_weigh_78 ?_
    refine Snd.bI (fun v_7 => ?_)
    refine sn_aload_n (j := j1_weigh) (pc := 81) rfl rfl dX1_weigh_81 ?_
    refine g_X1_15 (j := j1_weigh) (pc := 82) rfl dX1_weigh_82 ?_
    refine sn_iload_n (j := j1_weigh) (pc := 85) rfl rfl dX1_weigh_85 ?_
    refine sn_iald (j := j1_weigh) (pc := 86) rfl ⟨by decide, by decide⟩ dX1_weigh_86 (fun w_8 => ?_)
    refine sn_aload_n (j := j1_weigh) (pc := 87) rfl rfl dX1_weigh_87 ?_
    refine g_X1_47 (j := j1_weigh) (pc := 88) hd1 rfl dX1_weigh_88 ?_
    refine sn_iload_n (j := j1_weigh) (pc := 91) rfl rfl dX1_weigh_91 ?_
    refine sn_iald (j := j1_weigh) (pc := 92) (isD_a2 hd1) (isD_p2 hd1) dX1_weigh_92 (fun w_9 => ?_)
    refine sn_imul (j := j1_weigh) (pc := 93) dX1_weigh_93 ?_
    refine sn_iadd (j := j1_weigh) (pc := 94) dX1_weigh_94 ?_
    refine p_X1_18 (j := j1_weigh) (pc := 95) rfl dX1_weigh_95 (fun M => ?_)
    refine sn_aload_n (j := j1_weigh) (pc := 98) rfl rfl dX1_weigh_98 ?_
    refine sn_aload_n (j := j1_weigh) (pc := 99) rfl rfl dX1_weigh_99 ?_
    refine g_X1_28 (j := j1_weigh) (pc := 100) rfl dX1_weigh_100 ?_
    refine Snd.bI (fun v_10 => ?_)
    refine sn_aload_n (j := j1_weigh) (pc := 103) rfl rfl dX1_weigh_103 ?_
    refine g_X1_15 (j := j1_weigh) (pc := 104) rfl dX1_weigh_104 ?_
    refine sn_iload_n (j := j1_weigh) (pc := 107) rfl rfl dX1_weigh_107 ?_
    refine sn_iald (j := j1_weigh) (pc := 108) rfl ⟨by decide, by decide⟩ dX1_weigh_108 (fun w_11 => ?_)
    refine sn_max (j := j1_weigh) (pc := 109) w_ml_X1_50 w_max1 w_math w_max2 (by decide) (Nat.le_of_ble_eq_true rfl) dX1_weigh_109 ?_
    refine Snd.bI (fun v_12 => ?_)
    refine p_X1_28 (j := j1_weigh) (pc := 112) rfl dX1_weigh_112 (fun M => ?_)
    refine sn_aload_n (j := j1_weigh) (pc := 115) rfl rfl dX1_weigh_115 ?_
    refine sn_dup (j := j1_weigh) (pc := 116) rfl dX1_weigh_116 ?_
    refine g_X1_22 (j := j1_weigh) (pc := 117) rfl dX1_weigh_117 ?_
    refine Snd.bI (fun v_13 => ?_)
    refine sn_gstN (j := j1_weigh) (pc := 120) (t := 1) mm_Z1 mm_rn_X1_55 dX1_weigh_120 ?_
    refine sn_aload_n (j := j1_weigh) (pc := 123) rfl rfl dX1_weigh_123 ?_
    refine sn_iload_n (j := j1_weigh) (pc := 124) rfl rfl dX1_weigh_124 ?_
    refine sn_iald (j := j1_weigh) (pc := 125) (isA_sh ha2) (isA_pos ha2) dX1_weigh_125 (fun w_14 => ?_)
    refine sn_tald (j := j1_weigh) (pc := 126) (t := 1) mm_T1 dX1_weigh_126 (fun w_15 => ?_)
    refine sn_iadd (j := j1_weigh) (pc := 127) dX1_weigh_127 ?_
    refine p_X1_22 (j := j1_weigh) (pc := 128) rfl dX1_weigh_128 (fun M => ?_)
    refine sn_iinc (j := j1_weigh) (pc := 131) 1 rfl (by decide) rfl (lo' := [some (.ref 23), some (.ref d1), some (.ref a2), some (.int (x3 + 1))]) rfl dX1_weigh_131 ?_
    refine sn_goto (j := j1_weigh) (pc := 134) 53 rfl dX1_weigh_134 ?_
    exact Snd.wk (hrec53 d1 a2 (x3 + 1) M hd1 ha2) (by simp [mm_le])
def l1_weigh_53  : Nat → Nat → Nat → Int32 → mm_M → Option (mm_M)
  | 0 => fun _ _ _ _ => none
  | n + 1 => fun d1 a2 x3 M => b1_weigh_53  (l1_weigh_53  n) d1 a2 x3 M
theorem sl1_weigh_53   : ∀ (n : Nat) (d1 : Nat) (a2 : Nat) (x3 : Int32) (hd1 : isD d1 = true) (ha2 : isA a2 = true) (M : mm_M), Snd injV j1_weigh mm_X0 53 [some (.ref 23), some (.ref d1), some (.ref a2), some (.int x3)] [] M (l1_weigh_53  n d1 a2 x3 M)
  | 0 => fun _ _ _ _ _ _ => Snd.none
  | n + 1 => fun d1 a2 x3 hd1 ha2 M => sb1_weigh_53   (l1_weigh_53  n) (fun d1 a2 x3 M hd1 ha2 => sl1_weigh_53   n d1 a2 x3 hd1 ha2 M) d1 a2 x3 hd1 ha2 M
def b1_weigh_22  (rec22 : Nat → Nat → Int32 → mm_M → Option (mm_M)) (d1 : Nat) (a2 : Nat) (x3 : Int32) (M : mm_M) : Option (mm_M) :=
  bI (mI M d1 2) (fun v_16 => if v_16 ≤ x3 then (l1_weigh_53 FU d1 a2 0 M) else (cI (f0_fact d1 x3 2 M) (fun r_17 M => uI 24 36 (x3 * 9) r_17 M (fun M => rec22 d1 a2 (x3 + 1) M))))
set_option maxHeartbeats 2000000 in
theorem sb1_weigh_22   (rec22 : Nat → Nat → Int32 → mm_M → Option (mm_M)) (hrec22 : ∀ (d1 : Nat) (a2 : Nat) (x3 : Int32) (M : mm_M), isD d1 = true → isA a2 = true → Snd injV j1_weigh mm_X0 22 [some (.ref 23), some (.ref d1), some (.ref a2), some (.int x3)] [] M (rec22 d1 a2 x3 M)) (d1 : Nat) (a2 : Nat) (x3 : Int32) (hd1 : isD d1 = true) (ha2 : isA a2 = true) (M : mm_M) : Snd injV j1_weigh mm_X0 22 [some (.ref 23), some (.ref d1), some (.ref a2), some (.int x3)] [] M (b1_weigh_22  rec22 d1 a2 x3 M) := by
  unfold b1_weigh_22
  refine sn_iload_n (j := j1_weigh) (pc := 22) rfl rfl dX1_weigh_22 ?_
  refine sn_aload_n (j := j1_weigh) (pc := 23) rfl rfl dX1_weigh_23 ?_
  refine g_X1_31 (j := j1_weigh) (pc := 24) hd1 rfl dX1_weigh_24 ?_
  refine Snd.bI (fun v_16 => ?_)
  refine sn_icmp_ge (j := j1_weigh) (pc := 27) 51 rfl dX1_weigh_27 ?_ ?_
  · refine sn_iconst (j := j1_weigh) (pc := 51) 0 rfl dX1_weigh_51 ?_
    refine sn_istore_n (j := j1_weigh) (pc := 52) rfl (by decide) (lo' := [some (.ref 23), some (.ref d1), some (.ref a2), some (.int 0)]) rfl dX1_weigh_52 ?_
    exact Snd.wk (sl1_weigh_53 FU d1 a2 0 hd1 ha2 M) (by simp [mm_le])
  · refine sn_aload_n (j := j1_weigh) (pc := 30) rfl rfl dX1_weigh_30 ?_
    refine g_X1_11 (j := j1_weigh) (pc := 31) rfl dX1_weigh_31 ?_
    refine sn_iload_n (j := j1_weigh) (pc := 34) rfl rfl dX1_weigh_34 ?_
    refine sn_bipush (j := j1_weigh) (pc := 35) 9 rfl dX1_weigh_35 ?_
    refine sn_imul (j := j1_weigh) (pc := 37) dX1_weigh_37 ?_
    refine sn_aload_n (j := j1_weigh) (pc := 38) rfl rfl dX1_weigh_38 ?_
    refine sn_iload_n (j := j1_weigh) (pc := 39) rfl rfl dX1_weigh_39 ?_
    refine sn_iconst (j := j1_weigh) (pc := 40) 2 rfl dX1_weigh_40 ?_
    refine sn_callV (j := j1_weigh) (pc := 41) (jc := j0_fact) (As := [.int x3, .int 2]) (s0_fact d1 x3 2 M) mm_hvI (by simp [Value.category]) (Nat.le_of_ble_eq_true rfl) q0_fact rfl (by decide) rfl (isD_obj hd1) (isD_pos hd1) w_ml_X1_36 w_im_X0_fact w_se_X0_fact rfl (Nat.le_of_ble_eq_true rfl) dX1_weigh_41 ?_
    rintro ⟨r_17, M⟩
    show Snd injV j1_weigh mm_X0 44 [some (.ref 23), some (.ref d1), some (.ref a2), some (.int x3)] [.int r_17, .int (x3 * 9), .ref 24] M _
    refine sn_iast (j := j1_weigh) (pc := 44) rfl ⟨by decide, by decide⟩ dX1_weigh_44 (fun M => ?_)
    refine sn_iinc (j := j1_weigh) (pc := 45) 1 rfl (by decide) rfl (lo' := [some (.ref 23), some (.ref d1), some (.ref a2), some (.int (x3 + 1))]) rfl dX1_weigh_45 ?_
    refine sn_goto (j := j1_weigh) (pc := 48) 22 rfl dX1_weigh_48 ?_
    exact Snd.wk (hrec22 d1 a2 (x3 + 1) M hd1 ha2) (by simp [mm_le])
def l1_weigh_22  : Nat → Nat → Nat → Int32 → mm_M → Option (mm_M)
  | 0 => fun _ _ _ _ => none
  | n + 1 => fun d1 a2 x3 M => b1_weigh_22  (l1_weigh_22  n) d1 a2 x3 M
theorem sl1_weigh_22   : ∀ (n : Nat) (d1 : Nat) (a2 : Nat) (x3 : Int32) (hd1 : isD d1 = true) (ha2 : isA a2 = true) (M : mm_M), Snd injV j1_weigh mm_X0 22 [some (.ref 23), some (.ref d1), some (.ref a2), some (.int x3)] [] M (l1_weigh_22  n d1 a2 x3 M)
  | 0 => fun _ _ _ _ _ _ => Snd.none
  | n + 1 => fun d1 a2 x3 hd1 ha2 M => sb1_weigh_22   (l1_weigh_22  n) (fun d1 a2 x3 M hd1 ha2 => sl1_weigh_22   n d1 a2 x3 hd1 ha2 M) d1 a2 x3 hd1 ha2 M
def f1_weigh (d1 : Nat) (a2 : Nat) (M : mm_M) : Option (mm_M) :=
  if isD d1 = true then (if isA a2 = true then (bM (sI M 23 2 0) (fun M => bM (sI M 23 5 0) (fun M => bM (sI M 23 3 0) (fun M => bM (sI M 23 4 0) (fun M => l1_weigh_22 FU d1 a2 0 M))))) else none) else none
set_option maxHeartbeats 2000000 in
theorem s1_weigh (d1 : Nat) (a2 : Nat) (M : mm_M) : Snd injV j1_weigh mm_X0 0 [some (.ref 23), some (.ref d1), some (.ref a2)] [] M (f1_weigh d1 a2 M) := by
  refine Snd.wk (lo' := [some (.ref 23), some (.ref d1), some (.ref a2), none]) ?_ (by simp [mm_le])
  unfold f1_weigh
  refine Snd.ite fun hd1 => ?_
  refine Snd.ite fun ha2 => ?_
  refine sn_aload_n (j := j1_weigh) (pc := 0) rfl rfl dX1_weigh_0 ?_
  refine sn_iconst (j := j1_weigh) (pc := 1) 0 rfl dX1_weigh_1 ?_
  refine p_X1_18 (j := j1_weigh) (pc := 2) rfl dX1_weigh_2 (fun M => ?_)
  refine sn_aload_n (j := j1_weigh) (pc := 5) rfl rfl dX1_weigh_5 ?_
  refine sn_iconst (j := j1_weigh) (pc := 6) 0 rfl dX1_weigh_6 ?_
  refine p_X1_28 (j := j1_weigh) (pc := 7) rfl dX1_weigh_7 (fun M => ?_)
  refine sn_aload_n (j := j1_weigh) (pc := 10) rfl rfl dX1_weigh_10 ?_
  refine sn_iconst (j := j1_weigh) (pc := 11) 0 rfl dX1_weigh_11 ?_
  refine p_X1_22 (j := j1_weigh) (pc := 12) rfl dX1_weigh_12 (fun M => ?_)
  refine sn_aload_n (j := j1_weigh) (pc := 15) rfl rfl dX1_weigh_15 ?_
  refine sn_iconst (j := j1_weigh) (pc := 16) 0 rfl dX1_weigh_16 ?_
  refine p_X1_25 (j := j1_weigh) (pc := 17) rfl dX1_weigh_17 (fun M => ?_)
  refine sn_iconst (j := j1_weigh) (pc := 20) 0 rfl dX1_weigh_20 ?_
  refine sn_istore_n (j := j1_weigh) (pc := 21) rfl (by decide) (lo' := [some (.ref 23), some (.ref d1), some (.ref a2), some (.int 0)]) rfl dX1_weigh_21 ?_
  exact Snd.wk (sl1_weigh_22 FU d1 a2 0 hd1 ha2 M) (by simp [mm_le])

abbrev j1_figure : mm_J := (yX1_figure, cX1_figure, 2, (some .int), 0)
theorem dX1_figure_0 : decode cX1_figure 0 = .ok (.iload_n 1, 1) := by decide +kernel
theorem dX1_figure_1 : decode cX1_figure 1 = .ok (.tableswitch 51 0 3 #[31, 36, 41, 46], 31) := by decide +kernel
theorem dX1_figure_32 : decode cX1_figure 32 = .ok (.aload_n 0, 1) := by decide +kernel
theorem dX1_figure_33 : decode cX1_figure 33 = .ok (.getfield 18, 3) := by decide +kernel
theorem dX1_figure_36 : decode cX1_figure 36 = .ok (.ireturn, 1) := by decide +kernel
theorem dX1_figure_37 : decode cX1_figure 37 = .ok (.aload_n 0, 1) := by decide +kernel
theorem dX1_figure_38 : decode cX1_figure 38 = .ok (.getfield 28, 3) := by decide +kernel
theorem dX1_figure_41 : decode cX1_figure 41 = .ok (.ireturn, 1) := by decide +kernel
theorem dX1_figure_42 : decode cX1_figure 42 = .ok (.aload_n 0, 1) := by decide +kernel
theorem dX1_figure_43 : decode cX1_figure 43 = .ok (.getfield 22, 3) := by decide +kernel
theorem dX1_figure_46 : decode cX1_figure 46 = .ok (.ireturn, 1) := by decide +kernel
theorem dX1_figure_47 : decode cX1_figure 47 = .ok (.aload_n 0, 1) := by decide +kernel
theorem dX1_figure_48 : decode cX1_figure 48 = .ok (.getfield 25, 3) := by decide +kernel
theorem dX1_figure_51 : decode cX1_figure 51 = .ok (.ireturn, 1) := by decide +kernel
theorem dX1_figure_52 : decode cX1_figure 52 = .ok (.iconst (-1), 1) := by decide +kernel
theorem dX1_figure_53 : decode cX1_figure 53 = .ok (.ireturn, 1) := by decide +kernel
def f1_figure (x1 : Int32) (M : mm_M) : Option (Int32 × mm_M) :=
  if x1 = 0 then (bI (mI M 23 2) (fun v_2 => some (v_2, M))) else (if x1 = 1 then (bI (mI M 23 5) (fun v_3 => some (v_3, M))) else (if x1 = 2 then (bI (mI M 23 3) (fun v_4 => some (v_4, M))) else (if x1 = 3 then (bI (mI M 23 4) (fun v_5 => some (v_5, M))) else (some ((-1), M)))))
set_option maxHeartbeats 2000000 in
theorem s1_figure (x1 : Int32) (M : mm_M) : Snd injI j1_figure mm_X0 0 [some (.ref 23), some (.int x1)] [] M (f1_figure x1 M) := by
  refine Snd.wk (lo' := [some (.ref 23), some (.int x1)]) ?_ (by simp [mm_le])
  unfold f1_figure
  refine sn_iload_n (j := j1_figure) (pc := 0) rfl rfl dX1_figure_0 ?_
  refine Snd.ifc (fun hx_1_0 => ?_) (fun hx_1_0 => ?_)
  · refine sn_tbl (j := j1_figure) (pc := 1) 32 hx_1_0 rfl dX1_figure_1 (by decide) (by decide) rfl rfl ?_
    refine sn_aload_n (j := j1_figure) (pc := 32) rfl rfl dX1_figure_32 ?_
    refine g_X1_18 (j := j1_figure) (pc := 33) rfl dX1_figure_33 ?_
    refine Snd.bI (fun v_2 => ?_)
    exact sn_iret (j := j1_figure) (pc := 36) rfl dX1_figure_36
  refine Snd.ifc (fun hx_1_1 => ?_) (fun hx_1_1 => ?_)
  · refine sn_tbl (j := j1_figure) (pc := 1) 37 hx_1_1 rfl dX1_figure_1 (by decide) (by decide) rfl rfl ?_
    refine sn_aload_n (j := j1_figure) (pc := 37) rfl rfl dX1_figure_37 ?_
    refine g_X1_28 (j := j1_figure) (pc := 38) rfl dX1_figure_38 ?_
    refine Snd.bI (fun v_3 => ?_)
    exact sn_iret (j := j1_figure) (pc := 41) rfl dX1_figure_41
  refine Snd.ifc (fun hx_1_2 => ?_) (fun hx_1_2 => ?_)
  · refine sn_tbl (j := j1_figure) (pc := 1) 42 hx_1_2 rfl dX1_figure_1 (by decide) (by decide) rfl rfl ?_
    refine sn_aload_n (j := j1_figure) (pc := 42) rfl rfl dX1_figure_42 ?_
    refine g_X1_22 (j := j1_figure) (pc := 43) rfl dX1_figure_43 ?_
    refine Snd.bI (fun v_4 => ?_)
    exact sn_iret (j := j1_figure) (pc := 46) rfl dX1_figure_46
  refine Snd.ifc (fun hx_1_3 => ?_) (fun hx_1_3 => ?_)
  · refine sn_tbl (j := j1_figure) (pc := 1) 47 hx_1_3 rfl dX1_figure_1 (by decide) (by decide) rfl rfl ?_
    refine sn_aload_n (j := j1_figure) (pc := 47) rfl rfl dX1_figure_47 ?_
    refine g_X1_25 (j := j1_figure) (pc := 48) rfl dX1_figure_48 ?_
    refine Snd.bI (fun v_5 => ?_)
    exact sn_iret (j := j1_figure) (pc := 51) rfl dX1_figure_51
  refine sn_tblO (j := j1_figure) (pc := 1) 52 dX1_figure_1 (by have := lv_neT hx_1_0 (show (0 : Int32).toInt = 0 from rfl); have := lv_neT hx_1_1 (show (1 : Int32).toInt = 1 from rfl); have := lv_neT hx_1_2 (show (2 : Int32).toInt = 2 from rfl); have := lv_neT hx_1_3 (show (3 : Int32).toInt = 3 from rfl); omega) rfl ?_
  refine sn_iconst (j := j1_figure) (pc := 52) (-1) rfl dX1_figure_52 ?_
  exact sn_iret (j := j1_figure) (pc := 53) rfl dX1_figure_53

abbrev j1_holdsAbsent : mm_J := (yX1_holdsAbsent, cX1_holdsAbsent, 4, (some .boolean), 2)
theorem dX1_holdsAbsent_0 : decode cX1_holdsAbsent 0 = .ok (.iconst 0, 1) := by decide +kernel
theorem dX1_holdsAbsent_1 : decode cX1_holdsAbsent 1 = .ok (.istore_n 3, 1) := by decide +kernel
theorem dX1_holdsAbsent_2 : decode cX1_holdsAbsent 2 = .ok (.iload_n 3, 1) := by decide +kernel
theorem dX1_holdsAbsent_3 : decode cX1_holdsAbsent 3 = .ok (.aload_n 0, 1) := by decide +kernel
theorem dX1_holdsAbsent_4 : decode cX1_holdsAbsent 4 = .ok (.getfield 31, 3) := by decide +kernel
theorem dX1_holdsAbsent_7 : decode cX1_holdsAbsent 7 = .ok (.if_icmp .ge 29, 3) := by decide +kernel
theorem dX1_holdsAbsent_10 : decode cX1_holdsAbsent 10 = .ok (.iload_n 2, 1) := by decide +kernel
theorem dX1_holdsAbsent_11 : decode cX1_holdsAbsent 11 = .ok (.iload_n 3, 1) := by decide +kernel
theorem dX1_holdsAbsent_12 : decode cX1_holdsAbsent 12 = .ok (.ishr, 1) := by decide +kernel
theorem dX1_holdsAbsent_13 : decode cX1_holdsAbsent 13 = .ok (.iconst 1, 1) := by decide +kernel
theorem dX1_holdsAbsent_14 : decode cX1_holdsAbsent 14 = .ok (.iand, 1) := by decide +kernel
theorem dX1_holdsAbsent_15 : decode cX1_holdsAbsent 15 = .ok (.iconst 1, 1) := by decide +kernel
theorem dX1_holdsAbsent_16 : decode cX1_holdsAbsent 16 = .ok (.if_icmp .ne 14, 3) := by decide +kernel
theorem dX1_holdsAbsent_19 : decode cX1_holdsAbsent 19 = .ok (.aload_n 0, 1) := by decide +kernel
theorem dX1_holdsAbsent_20 : decode cX1_holdsAbsent 20 = .ok (.iload_n 3, 1) := by decide +kernel
theorem dX1_holdsAbsent_21 : decode cX1_holdsAbsent 21 = .ok (.iload_n 1, 1) := by decide +kernel
theorem dX1_holdsAbsent_22 : decode cX1_holdsAbsent 22 = .ok (.invokevirtual 65, 3) := by decide +kernel
theorem dX1_holdsAbsent_25 : decode cX1_holdsAbsent 25 = .ok (.ifCond .ne 5, 3) := by decide +kernel
theorem dX1_holdsAbsent_28 : decode cX1_holdsAbsent 28 = .ok (.iconst 1, 1) := by decide +kernel
theorem dX1_holdsAbsent_29 : decode cX1_holdsAbsent 29 = .ok (.ireturn, 1) := by decide +kernel
theorem dX1_holdsAbsent_30 : decode cX1_holdsAbsent 30 = .ok (.iinc 3 1, 3) := by decide +kernel
theorem dX1_holdsAbsent_33 : decode cX1_holdsAbsent 33 = .ok (.goto (-31), 3) := by decide +kernel
theorem dX1_holdsAbsent_36 : decode cX1_holdsAbsent 36 = .ok (.iconst 0, 1) := by decide +kernel
theorem dX1_holdsAbsent_37 : decode cX1_holdsAbsent 37 = .ok (.ireturn, 1) := by decide +kernel
def l1_holdsAbsent_30 (rec2 : Nat → Int32 → Int32 → Int32 → mm_M → Option (Int32 × mm_M)) (d0 : Nat) (x1 : Int32) (x2 : Int32) (x3 : Int32) (M : mm_M) : Option (Int32 × mm_M) :=
  rec2 d0 x1 x2 (x3 + 1) M
set_option maxHeartbeats 2000000 in
theorem sl1_holdsAbsent_30 (rec2 : Nat → Int32 → Int32 → Int32 → mm_M → Option (Int32 × mm_M)) (hrec2 : ∀ (d0 : Nat) (x1 : Int32) (x2 : Int32) (x3 : Int32) (M : mm_M), isD d0 = true → Snd injI j1_holdsAbsent mm_X0 2 [some (.ref d0), some (.int x1), some (.int x2), some (.int x3)] [] M (rec2 d0 x1 x2 x3 M)) (d0 : Nat) (x1 : Int32) (x2 : Int32) (x3 : Int32) (hd0 : isD d0 = true) (M : mm_M) : Snd injI j1_holdsAbsent mm_X0 30 [some (.ref d0), some (.int x1), some (.int x2), some (.int x3)] [] M (l1_holdsAbsent_30 rec2 d0 x1 x2 x3 M) := by
  unfold l1_holdsAbsent_30
  refine sn_iinc (j := j1_holdsAbsent) (pc := 30) 1 rfl (by decide) rfl (lo' := [some (.ref d0), some (.int x1), some (.int x2), some (.int (x3 + 1))]) rfl dX1_holdsAbsent_30 ?_
  refine sn_goto (j := j1_holdsAbsent) (pc := 33) 2 rfl dX1_holdsAbsent_33 ?_
  exact Snd.wk (hrec2 d0 x1 x2 (x3 + 1) M hd0) (by simp [mm_le])
def b1_holdsAbsent_2  (rec2 : Nat → Int32 → Int32 → Int32 → mm_M → Option (Int32 × mm_M)) (d0 : Nat) (x1 : Int32) (x2 : Int32) (x3 : Int32) (M : mm_M) : Option (Int32 × mm_M) :=
  bI (mI M d0 2) (fun v_1 => if v_1 ≤ x3 then (rZ 0 M) else (if ((x2 >>> (x3 &&& 31)) &&& 1) = 1 then (cI (f0_isThere d0 x3 x1 M) (fun r_2 M => if r_2 = 0 then (rZ 1 M) else (l1_holdsAbsent_30 rec2 d0 x1 x2 x3 M))) else (l1_holdsAbsent_30 rec2 d0 x1 x2 x3 M)))
set_option maxHeartbeats 2000000 in
theorem sb1_holdsAbsent_2   (rec2 : Nat → Int32 → Int32 → Int32 → mm_M → Option (Int32 × mm_M)) (hrec2 : ∀ (d0 : Nat) (x1 : Int32) (x2 : Int32) (x3 : Int32) (M : mm_M), isD d0 = true → Snd injI j1_holdsAbsent mm_X0 2 [some (.ref d0), some (.int x1), some (.int x2), some (.int x3)] [] M (rec2 d0 x1 x2 x3 M)) (d0 : Nat) (x1 : Int32) (x2 : Int32) (x3 : Int32) (hd0 : isD d0 = true) (M : mm_M) : Snd injI j1_holdsAbsent mm_X0 2 [some (.ref d0), some (.int x1), some (.int x2), some (.int x3)] [] M (b1_holdsAbsent_2  rec2 d0 x1 x2 x3 M) := by
  unfold b1_holdsAbsent_2
  refine sn_iload_n (j := j1_holdsAbsent) (pc := 2) rfl rfl dX1_holdsAbsent_2 ?_
  refine sn_aload_n (j := j1_holdsAbsent) (pc := 3) rfl rfl dX1_holdsAbsent_3 ?_
  refine g_X1_31 (j := j1_holdsAbsent) (pc := 4) hd0 rfl dX1_holdsAbsent_4 ?_
  refine Snd.bI (fun v_1 => ?_)
  refine sn_icmp_ge (j := j1_holdsAbsent) (pc := 7) 36 rfl dX1_holdsAbsent_7 ?_ ?_
  · refine sn_iconst (j := j1_holdsAbsent) (pc := 36) 0 rfl dX1_holdsAbsent_36 ?_
    exact sn_zret (j := j1_holdsAbsent) (pc := 37) rfl dX1_holdsAbsent_37
  · refine sn_iload_n (j := j1_holdsAbsent) (pc := 10) rfl rfl dX1_holdsAbsent_10 ?_
    refine sn_iload_n (j := j1_holdsAbsent) (pc := 11) rfl rfl dX1_holdsAbsent_11 ?_
    refine sn_ishr (j := j1_holdsAbsent) (pc := 12) dX1_holdsAbsent_12 ?_
    refine sn_iconst (j := j1_holdsAbsent) (pc := 13) 1 rfl dX1_holdsAbsent_13 ?_
    refine sn_iand (j := j1_holdsAbsent) (pc := 14) dX1_holdsAbsent_14 ?_
    refine sn_iconst (j := j1_holdsAbsent) (pc := 15) 1 rfl dX1_holdsAbsent_15 ?_
    refine sn_icmp_ne (j := j1_holdsAbsent) (pc := 16) 30 rfl dX1_holdsAbsent_16 ?_ ?_
    · exact Snd.wk (sl1_holdsAbsent_30 rec2 hrec2 d0 x1 x2 x3 hd0 M) (by simp [mm_le])
    · refine sn_aload_n (j := j1_holdsAbsent) (pc := 19) rfl rfl dX1_holdsAbsent_19 ?_
      refine sn_iload_n (j := j1_holdsAbsent) (pc := 20) rfl rfl dX1_holdsAbsent_20 ?_
      refine sn_iload_n (j := j1_holdsAbsent) (pc := 21) rfl rfl dX1_holdsAbsent_21 ?_
      refine sn_callV (j := j1_holdsAbsent) (pc := 22) (jc := j0_isThere) (As := [.int x3, .int x1]) (s0_isThere d0 x3 x1 M) mm_hvI (by simp [Value.category]) (Nat.le_of_ble_eq_true rfl) q0_isThere rfl (by decide) rfl (isD_obj hd0) (isD_pos hd0) w_ml_X1_65 w_im_X0_isThere w_se_X0_isThere rfl (Nat.le_of_ble_eq_true rfl) dX1_holdsAbsent_22 ?_
      rintro ⟨r_2, M⟩
      show Snd injI j1_holdsAbsent mm_X0 25 [some (.ref d0), some (.int x1), some (.int x2), some (.int x3)] [.int r_2] M _
      refine sn_if_ne (j := j1_holdsAbsent) (pc := 25) 30 rfl dX1_holdsAbsent_25 ?_ ?_
      · exact Snd.wk (sl1_holdsAbsent_30 rec2 hrec2 d0 x1 x2 x3 hd0 M) (by simp [mm_le])
      · refine sn_iconst (j := j1_holdsAbsent) (pc := 28) 1 rfl dX1_holdsAbsent_28 ?_
        exact sn_zret (j := j1_holdsAbsent) (pc := 29) rfl dX1_holdsAbsent_29
def l1_holdsAbsent_2  : Nat → Nat → Int32 → Int32 → Int32 → mm_M → Option (Int32 × mm_M)
  | 0 => fun _ _ _ _ _ => none
  | n + 1 => fun d0 x1 x2 x3 M => b1_holdsAbsent_2  (l1_holdsAbsent_2  n) d0 x1 x2 x3 M
theorem sl1_holdsAbsent_2   : ∀ (n : Nat) (d0 : Nat) (x1 : Int32) (x2 : Int32) (x3 : Int32) (hd0 : isD d0 = true) (M : mm_M), Snd injI j1_holdsAbsent mm_X0 2 [some (.ref d0), some (.int x1), some (.int x2), some (.int x3)] [] M (l1_holdsAbsent_2  n d0 x1 x2 x3 M)
  | 0 => fun _ _ _ _ _ _ => Snd.none
  | n + 1 => fun d0 x1 x2 x3 hd0 M => sb1_holdsAbsent_2   (l1_holdsAbsent_2  n) (fun d0 x1 x2 x3 M hd0 => sl1_holdsAbsent_2   n d0 x1 x2 x3 hd0 M) d0 x1 x2 x3 hd0 M
def f1_holdsAbsent (d0 : Nat) (x1 : Int32) (x2 : Int32) (M : mm_M) : Option (Int32 × mm_M) :=
  if isD d0 = true then (l1_holdsAbsent_2 FU d0 x1 x2 0 M) else none
set_option maxHeartbeats 2000000 in
theorem s1_holdsAbsent (d0 : Nat) (x1 : Int32) (x2 : Int32) (M : mm_M) : Snd injI j1_holdsAbsent mm_X0 0 [some (.ref d0), some (.int x1), some (.int x2)] [] M (f1_holdsAbsent d0 x1 x2 M) := by
  refine Snd.wk (lo' := [some (.ref d0), some (.int x1), some (.int x2), none]) ?_ (by simp [mm_le])
  unfold f1_holdsAbsent
  refine Snd.ite fun hd0 => ?_
  refine sn_iconst (j := j1_holdsAbsent) (pc := 0) 0 rfl dX1_holdsAbsent_0 ?_
  refine sn_istore_n (j := j1_holdsAbsent) (pc := 1) rfl (by decide) (lo' := [some (.ref d0), some (.int x1), some (.int x2), some (.int 0)]) rfl dX1_holdsAbsent_1 ?_
  exact Snd.wk (sl1_holdsAbsent_2 FU d0 x1 x2 0 hd0 M) (by simp [mm_le])

abbrev j1_slotIsWrong : mm_J := (yX1_slotIsWrong, cX1_slotIsWrong, 5, (some .boolean), 3)
theorem dX1_slotIsWrong_0 : decode cX1_slotIsWrong 0 = .ok (.iload 4, 2) := by decide +kernel
theorem dX1_slotIsWrong_2 : decode cX1_slotIsWrong 2 = .ok (.lookupswitch 53 #[(1, 26), (2, 33)], 26) := by decide +kernel
theorem dX1_slotIsWrong_28 : decode cX1_slotIsWrong 28 = .ok (.aload_n 1, 1) := by decide +kernel
theorem dX1_slotIsWrong_29 : decode cX1_slotIsWrong 29 = .ok (.iload_n 2, 1) := by decide +kernel
theorem dX1_slotIsWrong_30 : decode cX1_slotIsWrong 30 = .ok (.iload_n 3, 1) := by decide +kernel
theorem dX1_slotIsWrong_31 : decode cX1_slotIsWrong 31 = .ok (.invokestatic 80, 3) := by decide +kernel
theorem dX1_slotIsWrong_34 : decode cX1_slotIsWrong 34 = .ok (.ireturn, 1) := by decide +kernel
theorem dX1_slotIsWrong_35 : decode cX1_slotIsWrong 35 = .ok (.getstatic 55, 3) := by decide +kernel
theorem dX1_slotIsWrong_38 : decode cX1_slotIsWrong 38 = .ok (.iload_n 3, 1) := by decide +kernel
theorem dX1_slotIsWrong_39 : decode cX1_slotIsWrong 39 = .ok (.iaload, 1) := by decide +kernel
theorem dX1_slotIsWrong_40 : decode cX1_slotIsWrong 40 = .ok (.aload_n 1, 1) := by decide +kernel
theorem dX1_slotIsWrong_41 : decode cX1_slotIsWrong 41 = .ok (.getfield 69, 3) := by decide +kernel
theorem dX1_slotIsWrong_44 : decode cX1_slotIsWrong 44 = .ok (.iconst 0, 1) := by decide +kernel
theorem dX1_slotIsWrong_45 : decode cX1_slotIsWrong 45 = .ok (.iaload, 1) := by decide +kernel
theorem dX1_slotIsWrong_46 : decode cX1_slotIsWrong 46 = .ok (.if_icmp .le 7, 3) := by decide +kernel
theorem dX1_slotIsWrong_49 : decode cX1_slotIsWrong 49 = .ok (.iconst 1, 1) := by decide +kernel
theorem dX1_slotIsWrong_50 : decode cX1_slotIsWrong 50 = .ok (.goto 4, 3) := by decide +kernel
theorem dX1_slotIsWrong_53 : decode cX1_slotIsWrong 53 = .ok (.iconst 0, 1) := by decide +kernel
theorem dX1_slotIsWrong_54 : decode cX1_slotIsWrong 54 = .ok (.ireturn, 1) := by decide +kernel
theorem dX1_slotIsWrong_55 : decode cX1_slotIsWrong 55 = .ok (.aload_n 0, 1) := by decide +kernel
theorem dX1_slotIsWrong_56 : decode cX1_slotIsWrong 56 = .ok (.getfield 15, 3) := by decide +kernel
theorem dX1_slotIsWrong_59 : decode cX1_slotIsWrong 59 = .ok (.iload_n 2, 1) := by decide +kernel
theorem dX1_slotIsWrong_60 : decode cX1_slotIsWrong 60 = .ok (.iaload, 1) := by decide +kernel
theorem dX1_slotIsWrong_61 : decode cX1_slotIsWrong 61 = .ok (.aload_n 1, 1) := by decide +kernel
theorem dX1_slotIsWrong_62 : decode cX1_slotIsWrong 62 = .ok (.getfield 69, 3) := by decide +kernel
theorem dX1_slotIsWrong_65 : decode cX1_slotIsWrong 65 = .ok (.iconst 2, 1) := by decide +kernel
theorem dX1_slotIsWrong_66 : decode cX1_slotIsWrong 66 = .ok (.iaload, 1) := by decide +kernel
theorem dX1_slotIsWrong_67 : decode cX1_slotIsWrong 67 = .ok (.if_icmp .le 7, 3) := by decide +kernel
theorem dX1_slotIsWrong_70 : decode cX1_slotIsWrong 70 = .ok (.iconst 1, 1) := by decide +kernel
theorem dX1_slotIsWrong_71 : decode cX1_slotIsWrong 71 = .ok (.goto 4, 3) := by decide +kernel
theorem dX1_slotIsWrong_74 : decode cX1_slotIsWrong 74 = .ok (.iconst 0, 1) := by decide +kernel
theorem dX1_slotIsWrong_75 : decode cX1_slotIsWrong 75 = .ok (.ireturn, 1) := by decide +kernel
def l1_slotIsWrong_75  (s0 : Int32) (M : mm_M) : Option (Int32 × mm_M) :=
  rZ s0 M
set_option maxHeartbeats 2000000 in
theorem sl1_slotIsWrong_75   (s0 : Int32)  (M : mm_M) : Snd injI j1_slotIsWrong mm_X0 75 [none, none, none, none, none] [.int s0] M (l1_slotIsWrong_75  s0 M) := by
  unfold l1_slotIsWrong_75
  exact sn_zret (j := j1_slotIsWrong) (pc := 75) rfl dX1_slotIsWrong_75
def l1_slotIsWrong_54  (s0 : Int32) (M : mm_M) : Option (Int32 × mm_M) :=
  rZ s0 M
set_option maxHeartbeats 2000000 in
theorem sl1_slotIsWrong_54   (s0 : Int32)  (M : mm_M) : Snd injI j1_slotIsWrong mm_X0 54 [none, none, none, none, none] [.int s0] M (l1_slotIsWrong_54  s0 M) := by
  unfold l1_slotIsWrong_54
  exact sn_zret (j := j1_slotIsWrong) (pc := 54) rfl dX1_slotIsWrong_54
def f1_slotIsWrong (d1 : Nat) (x2 : Int32) (x3 : Int32) (x4 : Int32) (M : mm_M) : Option (Int32 × mm_M) :=
  if isD d1 = true then (if x4 = 1 then (cI (f1_holdsAbsent d1 x2 x3 M) (fun r_2 M => rZ r_2 M)) else (if x4 = 2 then (aT 1 16 x3 (fun w_3 => aI (d1 + 1) 3 0 M (fun w_4 => if w_3 ≤ w_4 then (l1_slotIsWrong_54 0 M) else (l1_slotIsWrong_54 1 M)))) else (aI 25 8 x2 M (fun w_5 => aI (d1 + 1) 3 2 M (fun w_6 => if w_5 ≤ w_6 then (l1_slotIsWrong_75 0 M) else (l1_slotIsWrong_75 1 M)))))) else none
set_option maxHeartbeats 2000000 in
theorem s1_slotIsWrong (d1 : Nat) (x2 : Int32) (x3 : Int32) (x4 : Int32) (M : mm_M) : Snd injI j1_slotIsWrong mm_X0 0 [some (.ref 23), some (.ref d1), some (.int x2), some (.int x3), some (.int x4)] [] M (f1_slotIsWrong d1 x2 x3 x4 M) := by
  refine Snd.wk (lo' := [some (.ref 23), some (.ref d1), some (.int x2), some (.int x3), some (.int x4)]) ?_ (by simp [mm_le])
  unfold f1_slotIsWrong
  refine Snd.ite fun hd1 => ?_
  refine sn_iload (j := j1_slotIsWrong) (pc := 0) rfl dX1_slotIsWrong_0 ?_
  refine Snd.ifc (fun hx_1_1 => ?_) (fun hx_1_1 => ?_)
  · refine sn_lkp (j := j1_slotIsWrong) (pc := 2) 28 dX1_slotIsWrong_2 (by decide) (by rw [hx_1_1]) rfl ?_
    refine sn_aload_n (j := j1_slotIsWrong) (pc := 28) rfl rfl dX1_slotIsWrong_28 ?_
    refine sn_iload_n (j := j1_slotIsWrong) (pc := 29) rfl rfl dX1_slotIsWrong_29 ?_
    refine sn_iload_n (j := j1_slotIsWrong) (pc := 30) rfl rfl dX1_slotIsWrong_30 ?_
    refine sn_callS (j := j1_slotIsWrong) (pc := 31) (jc := j1_holdsAbsent) (As := [.ref d1, .int x2, .int x3]) (s1_holdsAbsent d1 x2 x3 M) mm_hvI (by simp [Value.category]) (Nat.le_of_ble_eq_true rfl) q1_holdsAbsent rfl (by decide) w_ml_X1_80 w_st_X1_holdsAbsent rfl (Nat.le_of_ble_eq_true rfl) dX1_slotIsWrong_31 ?_
    rintro ⟨r_2, M⟩
    show Snd injI j1_slotIsWrong mm_X0 34 [some (.ref 23), some (.ref d1), some (.int x2), some (.int x3), some (.int x4)] [.int r_2] M _
    exact sn_zret (j := j1_slotIsWrong) (pc := 34) rfl dX1_slotIsWrong_34
  refine Snd.ifc (fun hx_1_2 => ?_) (fun hx_1_2 => ?_)
  · refine sn_lkp (j := j1_slotIsWrong) (pc := 2) 35 dX1_slotIsWrong_2 (by decide) (by rw [hx_1_2]) rfl ?_
    refine sn_gstN (j := j1_slotIsWrong) (pc := 35) (t := 1) mm_Z1 mm_rn_X1_55 dX1_slotIsWrong_35 ?_
    refine sn_iload_n (j := j1_slotIsWrong) (pc := 38) rfl rfl dX1_slotIsWrong_38 ?_
    refine sn_tald (j := j1_slotIsWrong) (pc := 39) (t := 1) mm_T1 dX1_slotIsWrong_39 (fun w_3 => ?_)
    refine sn_aload_n (j := j1_slotIsWrong) (pc := 40) rfl rfl dX1_slotIsWrong_40 ?_
    refine g_X1_69 (j := j1_slotIsWrong) (pc := 41) hd1 rfl dX1_slotIsWrong_41 ?_
    refine sn_iconst (j := j1_slotIsWrong) (pc := 44) 0 rfl dX1_slotIsWrong_44 ?_
    refine sn_iald (j := j1_slotIsWrong) (pc := 45) (isD_a1 hd1) (isD_p1 hd1) dX1_slotIsWrong_45 (fun w_4 => ?_)
    refine sn_icmp_le (j := j1_slotIsWrong) (pc := 46) 53 rfl dX1_slotIsWrong_46 ?_ ?_
    · refine sn_iconst (j := j1_slotIsWrong) (pc := 53) 0 rfl dX1_slotIsWrong_53 ?_
      exact Snd.wk (sl1_slotIsWrong_54 0 M) (by simp [mm_le])
    · refine sn_iconst (j := j1_slotIsWrong) (pc := 49) 1 rfl dX1_slotIsWrong_49 ?_
      refine sn_goto (j := j1_slotIsWrong) (pc := 50) 54 rfl dX1_slotIsWrong_50 ?_
      exact Snd.wk (sl1_slotIsWrong_54 1 M) (by simp [mm_le])
  refine sn_lkp (j := j1_slotIsWrong) (pc := 2) 55 dX1_slotIsWrong_2 (by decide) ((lv_osw hx_1_1 (show (1 : Int32).toInt = 1 from rfl)).trans ((lv_osw hx_1_2 (show (2 : Int32).toInt = 2 from rfl)).trans rfl)) rfl ?_
  refine sn_aload_n (j := j1_slotIsWrong) (pc := 55) rfl rfl dX1_slotIsWrong_55 ?_
  refine g_X1_15 (j := j1_slotIsWrong) (pc := 56) rfl dX1_slotIsWrong_56 ?_
  refine sn_iload_n (j := j1_slotIsWrong) (pc := 59) rfl rfl dX1_slotIsWrong_59 ?_
  refine sn_iald (j := j1_slotIsWrong) (pc := 60) rfl ⟨by decide, by decide⟩ dX1_slotIsWrong_60 (fun w_5 => ?_)
  refine sn_aload_n (j := j1_slotIsWrong) (pc := 61) rfl rfl dX1_slotIsWrong_61 ?_
  refine g_X1_69 (j := j1_slotIsWrong) (pc := 62) hd1 rfl dX1_slotIsWrong_62 ?_
  refine sn_iconst (j := j1_slotIsWrong) (pc := 65) 2 rfl dX1_slotIsWrong_65 ?_
  refine sn_iald (j := j1_slotIsWrong) (pc := 66) (isD_a1 hd1) (isD_p1 hd1) dX1_slotIsWrong_66 (fun w_6 => ?_)
  refine sn_icmp_le (j := j1_slotIsWrong) (pc := 67) 74 rfl dX1_slotIsWrong_67 ?_ ?_
  · refine sn_iconst (j := j1_slotIsWrong) (pc := 74) 0 rfl dX1_slotIsWrong_74 ?_
    exact Snd.wk (sl1_slotIsWrong_75 0 M) (by simp [mm_le])
  · refine sn_iconst (j := j1_slotIsWrong) (pc := 70) 1 rfl dX1_slotIsWrong_70 ?_
    refine sn_goto (j := j1_slotIsWrong) (pc := 71) 75 rfl dX1_slotIsWrong_71 ?_
    exact Snd.wk (sl1_slotIsWrong_75 1 M) (by simp [mm_le])

abbrev j1_wrongness : mm_J := (yX1_wrongness, cX1_wrongness, 5, (some .int), 4)
theorem dX1_wrongness_0 : decode cX1_wrongness 0 = .ok (.iconst 1, 1) := by decide +kernel
theorem dX1_wrongness_1 : decode cX1_wrongness 1 = .ok (.istore_n 3, 1) := by decide +kernel
theorem dX1_wrongness_2 : decode cX1_wrongness 2 = .ok (.iload_n 3, 1) := by decide +kernel
theorem dX1_wrongness_3 : decode cX1_wrongness 3 = .ok (.iconst 3, 1) := by decide +kernel
theorem dX1_wrongness_4 : decode cX1_wrongness 4 = .ok (.if_icmp .gt 50, 3) := by decide +kernel
theorem dX1_wrongness_7 : decode cX1_wrongness 7 = .ok (.iconst 0, 1) := by decide +kernel
theorem dX1_wrongness_8 : decode cX1_wrongness 8 = .ok (.istore 4, 2) := by decide +kernel
theorem dX1_wrongness_10 : decode cX1_wrongness 10 = .ok (.iload 4, 2) := by decide +kernel
theorem dX1_wrongness_12 : decode cX1_wrongness 12 = .ok (.aload_n 1, 1) := by decide +kernel
theorem dX1_wrongness_13 : decode cX1_wrongness 13 = .ok (.getfield 40, 3) := by decide +kernel
theorem dX1_wrongness_16 : decode cX1_wrongness 16 = .ok (.if_icmp .ge 32, 3) := by decide +kernel
theorem dX1_wrongness_19 : decode cX1_wrongness 19 = .ok (.aload_n 0, 1) := by decide +kernel
theorem dX1_wrongness_20 : decode cX1_wrongness 20 = .ok (.aload_n 1, 1) := by decide +kernel
theorem dX1_wrongness_21 : decode cX1_wrongness 21 = .ok (.iload 4, 2) := by decide +kernel
theorem dX1_wrongness_23 : decode cX1_wrongness 23 = .ok (.aload_n 2, 1) := by decide +kernel
theorem dX1_wrongness_24 : decode cX1_wrongness 24 = .ok (.iload 4, 2) := by decide +kernel
theorem dX1_wrongness_26 : decode cX1_wrongness 26 = .ok (.iaload, 1) := by decide +kernel
theorem dX1_wrongness_27 : decode cX1_wrongness 27 = .ok (.iload_n 3, 1) := by decide +kernel
theorem dX1_wrongness_28 : decode cX1_wrongness 28 = .ok (.invokevirtual 76, 3) := by decide +kernel
theorem dX1_wrongness_31 : decode cX1_wrongness 31 = .ok (.ifCond .eq 11, 3) := by decide +kernel
theorem dX1_wrongness_34 : decode cX1_wrongness 34 = .ok (.iload_n 3, 1) := by decide +kernel
theorem dX1_wrongness_35 : decode cX1_wrongness 35 = .ok (.bipush 8, 2) := by decide +kernel
theorem dX1_wrongness_37 : decode cX1_wrongness 37 = .ok (.iload 4, 2) := by decide +kernel
theorem dX1_wrongness_39 : decode cX1_wrongness 39 = .ok (.imul, 1) := by decide +kernel
theorem dX1_wrongness_40 : decode cX1_wrongness 40 = .ok (.iadd, 1) := by decide +kernel
theorem dX1_wrongness_41 : decode cX1_wrongness 41 = .ok (.ireturn, 1) := by decide +kernel
theorem dX1_wrongness_42 : decode cX1_wrongness 42 = .ok (.iinc 4 1, 3) := by decide +kernel
theorem dX1_wrongness_45 : decode cX1_wrongness 45 = .ok (.goto (-35), 3) := by decide +kernel
theorem dX1_wrongness_48 : decode cX1_wrongness 48 = .ok (.iinc 3 1, 3) := by decide +kernel
theorem dX1_wrongness_51 : decode cX1_wrongness 51 = .ok (.goto (-49), 3) := by decide +kernel
theorem dX1_wrongness_54 : decode cX1_wrongness 54 = .ok (.iconst 0, 1) := by decide +kernel
theorem dX1_wrongness_55 : decode cX1_wrongness 55 = .ok (.istore_n 3, 1) := by decide +kernel
theorem dX1_wrongness_56 : decode cX1_wrongness 56 = .ok (.iload_n 3, 1) := by decide +kernel
theorem dX1_wrongness_57 : decode cX1_wrongness 57 = .ok (.aload_n 1, 1) := by decide +kernel
theorem dX1_wrongness_58 : decode cX1_wrongness 58 = .ok (.getfield 31, 3) := by decide +kernel
theorem dX1_wrongness_61 : decode cX1_wrongness 61 = .ok (.if_icmp .ge 25, 3) := by decide +kernel
theorem dX1_wrongness_64 : decode cX1_wrongness 64 = .ok (.aload_n 0, 1) := by decide +kernel
theorem dX1_wrongness_65 : decode cX1_wrongness 65 = .ok (.aload_n 1, 1) := by decide +kernel
theorem dX1_wrongness_66 : decode cX1_wrongness 66 = .ok (.iload_n 3, 1) := by decide +kernel
theorem dX1_wrongness_67 : decode cX1_wrongness 67 = .ok (.invokevirtual 58, 3) := by decide +kernel
theorem dX1_wrongness_70 : decode cX1_wrongness 70 = .ok (.ifCond .le 10, 3) := by decide +kernel
theorem dX1_wrongness_73 : decode cX1_wrongness 73 = .ok (.iconst 4, 1) := by decide +kernel
theorem dX1_wrongness_74 : decode cX1_wrongness 74 = .ok (.bipush 8, 2) := by decide +kernel
theorem dX1_wrongness_76 : decode cX1_wrongness 76 = .ok (.iload_n 3, 1) := by decide +kernel
theorem dX1_wrongness_77 : decode cX1_wrongness 77 = .ok (.imul, 1) := by decide +kernel
theorem dX1_wrongness_78 : decode cX1_wrongness 78 = .ok (.iadd, 1) := by decide +kernel
theorem dX1_wrongness_79 : decode cX1_wrongness 79 = .ok (.ireturn, 1) := by decide +kernel
theorem dX1_wrongness_80 : decode cX1_wrongness 80 = .ok (.iinc 3 1, 3) := by decide +kernel
theorem dX1_wrongness_83 : decode cX1_wrongness 83 = .ok (.goto (-27), 3) := by decide +kernel
theorem dX1_wrongness_86 : decode cX1_wrongness 86 = .ok (.iconst 0, 1) := by decide +kernel
theorem dX1_wrongness_87 : decode cX1_wrongness 87 = .ok (.ireturn, 1) := by decide +kernel
def b1_wrongness_56  (rec56 : Nat → Int32 → mm_M → Option (Int32 × mm_M)) (d1 : Nat) (x3 : Int32) (M : mm_M) : Option (Int32 × mm_M) :=
  bI (mI M d1 2) (fun v_1 => if v_1 ≤ x3 then (some (0, M)) else (cI (f1_lackOf d1 x3 M) (fun r_2 M => if r_2 ≤ 0 then (rec56 d1 (x3 + 1) M) else (some (4 + (8 * x3), M)))))
set_option maxHeartbeats 2000000 in
theorem sb1_wrongness_56   (rec56 : Nat → Int32 → mm_M → Option (Int32 × mm_M)) (hrec56 : ∀ (d1 : Nat) (x3 : Int32) (M : mm_M), isD d1 = true → Snd injI j1_wrongness mm_X0 56 [some (.ref 23), some (.ref d1), none, some (.int x3), none] [] M (rec56 d1 x3 M)) (d1 : Nat) (x3 : Int32) (hd1 : isD d1 = true) (M : mm_M) : Snd injI j1_wrongness mm_X0 56 [some (.ref 23), some (.ref d1), none, some (.int x3), none] [] M (b1_wrongness_56  rec56 d1 x3 M) := by
  unfold b1_wrongness_56
  refine sn_iload_n (j := j1_wrongness) (pc := 56) rfl rfl dX1_wrongness_56 ?_
  refine sn_aload_n (j := j1_wrongness) (pc := 57) rfl rfl dX1_wrongness_57 ?_
  refine g_X1_31 (j := j1_wrongness) (pc := 58) hd1 rfl dX1_wrongness_58 ?_
  refine Snd.bI (fun v_1 => ?_)
  refine sn_icmp_ge (j := j1_wrongness) (pc := 61) 86 rfl dX1_wrongness_61 ?_ ?_
  · refine sn_iconst (j := j1_wrongness) (pc := 86) 0 rfl dX1_wrongness_86 ?_
    exact sn_iret (j := j1_wrongness) (pc := 87) rfl dX1_wrongness_87
  · refine sn_aload_n (j := j1_wrongness) (pc := 64) rfl rfl dX1_wrongness_64 ?_
    refine sn_aload_n (j := j1_wrongness) (pc := 65) rfl rfl dX1_wrongness_65 ?_
    refine sn_iload_n (j := j1_wrongness) (pc := 66) rfl rfl dX1_wrongness_66 ?_
    refine sn_callV (j := j1_wrongness) (pc := 67) (jc := j1_lackOf) (As := [.ref d1, .int x3]) (s1_lackOf d1 x3 M) mm_hvI (by simp [Value.category]) (Nat.le_of_ble_eq_true rfl) q1_lackOf rfl (by decide) rfl rfl ⟨by decide, by decide⟩ w_ml_X1_58 w_im_X1_lackOf w_se_X1_lackOf rfl (Nat.le_of_ble_eq_true rfl) dX1_wrongness_67 ?_
    rintro ⟨r_2, M⟩
    show Snd injI j1_wrongness mm_X0 70 [some (.ref 23), some (.ref d1), none, some (.int x3), none] [.int r_2] M _
    refine sn_if_le (j := j1_wrongness) (pc := 70) 80 rfl dX1_wrongness_70 ?_ ?_
    · refine sn_iinc (j := j1_wrongness) (pc := 80) 1 rfl (by decide) rfl (lo' := [some (.ref 23), some (.ref d1), none, some (.int (x3 + 1)), none]) rfl dX1_wrongness_80 ?_
      refine sn_goto (j := j1_wrongness) (pc := 83) 56 rfl dX1_wrongness_83 ?_
      exact Snd.wk (hrec56 d1 (x3 + 1) M hd1) (by simp [mm_le])
    · refine sn_iconst (j := j1_wrongness) (pc := 73) 4 rfl dX1_wrongness_73 ?_
      refine sn_bipush (j := j1_wrongness) (pc := 74) 8 rfl dX1_wrongness_74 ?_
      refine sn_iload_n (j := j1_wrongness) (pc := 76) rfl rfl dX1_wrongness_76 ?_
      refine sn_imul (j := j1_wrongness) (pc := 77) dX1_wrongness_77 ?_
      refine sn_iadd (j := j1_wrongness) (pc := 78) dX1_wrongness_78 ?_
      exact sn_iret (j := j1_wrongness) (pc := 79) rfl dX1_wrongness_79
def l1_wrongness_56  : Nat → Nat → Int32 → mm_M → Option (Int32 × mm_M)
  | 0 => fun _ _ _ => none
  | n + 1 => fun d1 x3 M => b1_wrongness_56  (l1_wrongness_56  n) d1 x3 M
theorem sl1_wrongness_56   : ∀ (n : Nat) (d1 : Nat) (x3 : Int32) (hd1 : isD d1 = true) (M : mm_M), Snd injI j1_wrongness mm_X0 56 [some (.ref 23), some (.ref d1), none, some (.int x3), none] [] M (l1_wrongness_56  n d1 x3 M)
  | 0 => fun _ _ _ _ => Snd.none
  | n + 1 => fun d1 x3 hd1 M => sb1_wrongness_56   (l1_wrongness_56  n) (fun d1 x3 M hd1 => sl1_wrongness_56   n d1 x3 hd1 M) d1 x3 hd1 M
def b1_wrongness_10 (rec2 : Nat → Nat → Int32 → mm_M → Option (Int32 × mm_M)) (rec10 : Nat → Nat → Int32 → Int32 → mm_M → Option (Int32 × mm_M)) (d1 : Nat) (a2 : Nat) (x3 : Int32) (x4 : Int32) (M : mm_M) : Option (Int32 × mm_M) :=
  bI (mI M d1 0) (fun v_3 => if v_3 ≤ x4 then (rec2 d1 a2 (x3 + 1) M) else (aI a2 (mm_n a2) x4 M (fun w_4 => cI (f1_slotIsWrong d1 x4 w_4 x3 M) (fun r_5 M => if r_5 = 0 then (rec10 d1 a2 x3 (x4 + 1) M) else (some (x3 + (8 * x4), M))))))
set_option maxHeartbeats 2000000 in
theorem sb1_wrongness_10 (rec2 : Nat → Nat → Int32 → mm_M → Option (Int32 × mm_M)) (hrec2 : ∀ (d1 : Nat) (a2 : Nat) (x3 : Int32) (M : mm_M), isD d1 = true → isA a2 = true → Snd injI j1_wrongness mm_X0 2 [some (.ref 23), some (.ref d1), some (.ref a2), some (.int x3), none] [] M (rec2 d1 a2 x3 M)) (rec10 : Nat → Nat → Int32 → Int32 → mm_M → Option (Int32 × mm_M)) (hrec10 : ∀ (d1 : Nat) (a2 : Nat) (x3 : Int32) (x4 : Int32) (M : mm_M), isD d1 = true → isA a2 = true → Snd injI j1_wrongness mm_X0 10 [some (.ref 23), some (.ref d1), some (.ref a2), some (.int x3), some (.int x4)] [] M (rec10 d1 a2 x3 x4 M)) (d1 : Nat) (a2 : Nat) (x3 : Int32) (x4 : Int32) (hd1 : isD d1 = true) (ha2 : isA a2 = true) (M : mm_M) : Snd injI j1_wrongness mm_X0 10 [some (.ref 23), some (.ref d1), some (.ref a2), some (.int x3), some (.int x4)] [] M (b1_wrongness_10 rec2 rec10 d1 a2 x3 x4 M) := by
  unfold b1_wrongness_10
  refine sn_iload (j := j1_wrongness) (pc := 10) rfl dX1_wrongness_10 ?_
  refine sn_aload_n (j := j1_wrongness) (pc := 12) rfl rfl dX1_wrongness_12 ?_
  refine g_X1_40 (j := j1_wrongness) (pc := 13) hd1 rfl dX1_wrongness_13 ?_
  refine Snd.bI (fun v_3 => ?_)
  refine sn_icmp_ge (j := j1_wrongness) (pc := 16) 48 rfl dX1_wrongness_16 ?_ ?_
  · refine sn_iinc (j := j1_wrongness) (pc := 48) 1 rfl (by decide) rfl (lo' := [some (.ref 23), some (.ref d1), some (.ref a2), some (.int (x3 + 1)), some (.int x4)]) rfl dX1_wrongness_48 ?_
    refine sn_goto (j := j1_wrongness) (pc := 51) 2 rfl dX1_wrongness_51 ?_
    exact Snd.wk (hrec2 d1 a2 (x3 + 1) M hd1 ha2) (by simp [mm_le])
  · refine sn_aload_n (j := j1_wrongness) (pc := 19) rfl rfl dX1_wrongness_19 ?_
    refine sn_aload_n (j := j1_wrongness) (pc := 20) rfl rfl dX1_wrongness_20 ?_
    refine sn_iload (j := j1_wrongness) (pc := 21) rfl dX1_wrongness_21 ?_
    refine sn_aload_n (j := j1_wrongness) (pc := 23) rfl rfl dX1_wrongness_23 ?_
    refine sn_iload (j := j1_wrongness) (pc := 24) rfl dX1_wrongness_24 ?_
    refine sn_iald (j := j1_wrongness) (pc := 26) (isA_sh ha2) (isA_pos ha2) dX1_wrongness_26 (fun w_4 => ?_)
    refine sn_iload_n (j := j1_wrongness) (pc := 27) rfl rfl dX1_wrongness_27 ?_
    refine sn_callV (j := j1_wrongness) (pc := 28) (jc := j1_slotIsWrong) (As := [.ref d1, .int x4, .int w_4, .int x3]) (s1_slotIsWrong d1 x4 w_4 x3 M) mm_hvI (by simp [Value.category]) (Nat.le_of_ble_eq_true rfl) q1_slotIsWrong rfl (by decide) rfl rfl ⟨by decide, by decide⟩ w_ml_X1_76 w_im_X1_slotIsWrong w_se_X1_slotIsWrong rfl (Nat.le_of_ble_eq_true rfl) dX1_wrongness_28 ?_
    rintro ⟨r_5, M⟩
    show Snd injI j1_wrongness mm_X0 31 [some (.ref 23), some (.ref d1), some (.ref a2), some (.int x3), some (.int x4)] [.int r_5] M _
    refine sn_if_eq (j := j1_wrongness) (pc := 31) 42 rfl dX1_wrongness_31 ?_ ?_
    · refine sn_iinc (j := j1_wrongness) (pc := 42) 1 rfl (by decide) rfl (lo' := [some (.ref 23), some (.ref d1), some (.ref a2), some (.int x3), some (.int (x4 + 1))]) rfl dX1_wrongness_42 ?_
      refine sn_goto (j := j1_wrongness) (pc := 45) 10 rfl dX1_wrongness_45 ?_
      exact Snd.wk (hrec10 d1 a2 x3 (x4 + 1) M hd1 ha2) (by simp [mm_le])
    · refine sn_iload_n (j := j1_wrongness) (pc := 34) rfl rfl dX1_wrongness_34 ?_
      refine sn_bipush (j := j1_wrongness) (pc := 35) 8 rfl dX1_wrongness_35 ?_
      refine sn_iload (j := j1_wrongness) (pc := 37) rfl dX1_wrongness_37 ?_
      refine sn_imul (j := j1_wrongness) (pc := 39) dX1_wrongness_39 ?_
      refine sn_iadd (j := j1_wrongness) (pc := 40) dX1_wrongness_40 ?_
      exact sn_iret (j := j1_wrongness) (pc := 41) rfl dX1_wrongness_41
def l1_wrongness_10 (rec2 : Nat → Nat → Int32 → mm_M → Option (Int32 × mm_M)) : Nat → Nat → Nat → Int32 → Int32 → mm_M → Option (Int32 × mm_M)
  | 0 => fun _ _ _ _ _ => none
  | n + 1 => fun d1 a2 x3 x4 M => b1_wrongness_10 rec2 (l1_wrongness_10 rec2 n) d1 a2 x3 x4 M
theorem sl1_wrongness_10 (rec2 : Nat → Nat → Int32 → mm_M → Option (Int32 × mm_M)) (hrec2 : ∀ (d1 : Nat) (a2 : Nat) (x3 : Int32) (M : mm_M), isD d1 = true → isA a2 = true → Snd injI j1_wrongness mm_X0 2 [some (.ref 23), some (.ref d1), some (.ref a2), some (.int x3), none] [] M (rec2 d1 a2 x3 M)) : ∀ (n : Nat) (d1 : Nat) (a2 : Nat) (x3 : Int32) (x4 : Int32) (hd1 : isD d1 = true) (ha2 : isA a2 = true) (M : mm_M), Snd injI j1_wrongness mm_X0 10 [some (.ref 23), some (.ref d1), some (.ref a2), some (.int x3), some (.int x4)] [] M (l1_wrongness_10 rec2 n d1 a2 x3 x4 M)
  | 0 => fun _ _ _ _ _ _ _ => Snd.none
  | n + 1 => fun d1 a2 x3 x4 hd1 ha2 M => sb1_wrongness_10 rec2 hrec2 (l1_wrongness_10 rec2 n) (fun d1 a2 x3 x4 M hd1 ha2 => sl1_wrongness_10 rec2 hrec2 n d1 a2 x3 x4 hd1 ha2 M) d1 a2 x3 x4 hd1 ha2 M
def b1_wrongness_2  (rec2 : Nat → Nat → Int32 → mm_M → Option (Int32 × mm_M)) (d1 : Nat) (a2 : Nat) (x3 : Int32) (M : mm_M) : Option (Int32 × mm_M) :=
  if 3 < x3 then (l1_wrongness_56 FU d1 0 M) else (l1_wrongness_10 rec2 FU d1 a2 x3 0 M)
set_option maxHeartbeats 2000000 in
theorem sb1_wrongness_2   (rec2 : Nat → Nat → Int32 → mm_M → Option (Int32 × mm_M)) (hrec2 : ∀ (d1 : Nat) (a2 : Nat) (x3 : Int32) (M : mm_M), isD d1 = true → isA a2 = true → Snd injI j1_wrongness mm_X0 2 [some (.ref 23), some (.ref d1), some (.ref a2), some (.int x3), none] [] M (rec2 d1 a2 x3 M)) (d1 : Nat) (a2 : Nat) (x3 : Int32) (hd1 : isD d1 = true) (ha2 : isA a2 = true) (M : mm_M) : Snd injI j1_wrongness mm_X0 2 [some (.ref 23), some (.ref d1), some (.ref a2), some (.int x3), none] [] M (b1_wrongness_2  rec2 d1 a2 x3 M) := by
  unfold b1_wrongness_2
  refine sn_iload_n (j := j1_wrongness) (pc := 2) rfl rfl dX1_wrongness_2 ?_
  refine sn_iconst (j := j1_wrongness) (pc := 3) 3 rfl dX1_wrongness_3 ?_
  refine sn_icmp_gt (j := j1_wrongness) (pc := 4) 54 rfl dX1_wrongness_4 ?_ ?_
  · refine sn_iconst (j := j1_wrongness) (pc := 54) 0 rfl dX1_wrongness_54 ?_
    refine sn_istore_n (j := j1_wrongness) (pc := 55) rfl (by decide) (lo' := [some (.ref 23), some (.ref d1), some (.ref a2), some (.int 0), none]) rfl dX1_wrongness_55 ?_
    exact Snd.wk (sl1_wrongness_56 FU d1 0 hd1 M) (by simp [mm_le])
  · refine sn_iconst (j := j1_wrongness) (pc := 7) 0 rfl dX1_wrongness_7 ?_
    refine sn_istore (j := j1_wrongness) (pc := 8) (by decide) (lo' := [some (.ref 23), some (.ref d1), some (.ref a2), some (.int x3), some (.int 0)]) rfl dX1_wrongness_8 ?_
    exact Snd.wk (sl1_wrongness_10 rec2 hrec2 FU d1 a2 x3 0 hd1 ha2 M) (by simp [mm_le])
def l1_wrongness_2  : Nat → Nat → Nat → Int32 → mm_M → Option (Int32 × mm_M)
  | 0 => fun _ _ _ _ => none
  | n + 1 => fun d1 a2 x3 M => b1_wrongness_2  (l1_wrongness_2  n) d1 a2 x3 M
theorem sl1_wrongness_2   : ∀ (n : Nat) (d1 : Nat) (a2 : Nat) (x3 : Int32) (hd1 : isD d1 = true) (ha2 : isA a2 = true) (M : mm_M), Snd injI j1_wrongness mm_X0 2 [some (.ref 23), some (.ref d1), some (.ref a2), some (.int x3), none] [] M (l1_wrongness_2  n d1 a2 x3 M)
  | 0 => fun _ _ _ _ _ _ => Snd.none
  | n + 1 => fun d1 a2 x3 hd1 ha2 M => sb1_wrongness_2   (l1_wrongness_2  n) (fun d1 a2 x3 M hd1 ha2 => sl1_wrongness_2   n d1 a2 x3 hd1 ha2 M) d1 a2 x3 hd1 ha2 M
def f1_wrongness (d1 : Nat) (a2 : Nat) (M : mm_M) : Option (Int32 × mm_M) :=
  if isD d1 = true then (if isA a2 = true then (l1_wrongness_2 FU d1 a2 1 M) else none) else none
set_option maxHeartbeats 2000000 in
theorem s1_wrongness (d1 : Nat) (a2 : Nat) (M : mm_M) : Snd injI j1_wrongness mm_X0 0 [some (.ref 23), some (.ref d1), some (.ref a2)] [] M (f1_wrongness d1 a2 M) := by
  refine Snd.wk (lo' := [some (.ref 23), some (.ref d1), some (.ref a2), none, none]) ?_ (by simp [mm_le])
  unfold f1_wrongness
  refine Snd.ite fun hd1 => ?_
  refine Snd.ite fun ha2 => ?_
  refine sn_iconst (j := j1_wrongness) (pc := 0) 1 rfl dX1_wrongness_0 ?_
  refine sn_istore_n (j := j1_wrongness) (pc := 1) rfl (by decide) (lo' := [some (.ref 23), some (.ref d1), some (.ref a2), some (.int 1), none]) rfl dX1_wrongness_1 ?_
  exact Snd.wk (sl1_wrongness_2 FU d1 a2 1 hd1 ha2 M) (by simp [mm_le])
