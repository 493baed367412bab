abbrev j0_copyFrom : mm_J := (yX0_copyFrom, cX0_copyFrom, 2, none, 1)
theorem dX0_copyFrom_0 : decode cX0_copyFrom 0 = .ok (.aload_n 0, 1) := by decide +kernel
theorem dX0_copyFrom_1 : decode cX0_copyFrom 1 = .ok (.aload_n 1, 1) := by decide +kernel
theorem dX0_copyFrom_2 : decode cX0_copyFrom 2 = .ok (.getfield 36, 3) := by decide +kernel
theorem dX0_copyFrom_5 : decode cX0_copyFrom 5 = .ok (.putfield 36, 3) := by decide +kernel
theorem dX0_copyFrom_8 : decode cX0_copyFrom 8 = .ok (.aload_n 0, 1) := by decide +kernel
theorem dX0_copyFrom_9 : decode cX0_copyFrom 9 = .ok (.aload_n 1, 1) := by decide +kernel
theorem dX0_copyFrom_10 : decode cX0_copyFrom 10 = .ok (.getfield 40, 3) := by decide +kernel
theorem dX0_copyFrom_13 : decode cX0_copyFrom 13 = .ok (.putfield 40, 3) := by decide +kernel
theorem dX0_copyFrom_16 : decode cX0_copyFrom 16 = .ok (.aload_n 0, 1) := by decide +kernel
theorem dX0_copyFrom_17 : decode cX0_copyFrom 17 = .ok (.aload_n 1, 1) := by decide +kernel
theorem dX0_copyFrom_18 : decode cX0_copyFrom 18 = .ok (.getfield 43, 3) := by decide +kernel
theorem dX0_copyFrom_21 : decode cX0_copyFrom 21 = .ok (.putfield 43, 3) := by decide +kernel
theorem dX0_copyFrom_24 : decode cX0_copyFrom 24 = .ok (.aload_n 1, 1) := by decide +kernel
theorem dX0_copyFrom_25 : decode cX0_copyFrom 25 = .ok (.getfield 9, 3) := by decide +kernel
theorem dX0_copyFrom_28 : decode cX0_copyFrom 28 = .ok (.iconst 0, 1) := by decide +kernel
theorem dX0_copyFrom_29 : decode cX0_copyFrom 29 = .ok (.aload_n 0, 1) := by decide +kernel
theorem dX0_copyFrom_30 : decode cX0_copyFrom 30 = .ok (.getfield 9, 3) := by decide +kernel
theorem dX0_copyFrom_33 : decode cX0_copyFrom 33 = .ok (.iconst 0, 1) := by decide +kernel
theorem dX0_copyFrom_34 : decode cX0_copyFrom 34 = .ok (.iconst 3, 1) := by decide +kernel
theorem dX0_copyFrom_35 : decode cX0_copyFrom 35 = .ok (.invokestatic 52, 3) := by decide +kernel
theorem dX0_copyFrom_38 : decode cX0_copyFrom 38 = .ok (.aload_n 1, 1) := by decide +kernel
theorem dX0_copyFrom_39 : decode cX0_copyFrom 39 = .ok (.getfield 15, 3) := by decide +kernel
theorem dX0_copyFrom_42 : decode cX0_copyFrom 42 = .ok (.iconst 0, 1) := by decide +kernel
theorem dX0_copyFrom_43 : decode cX0_copyFrom 43 = .ok (.aload_n 0, 1) := by decide +kernel
theorem dX0_copyFrom_44 : decode cX0_copyFrom 44 = .ok (.getfield 15, 3) := by decide +kernel
theorem dX0_copyFrom_47 : decode cX0_copyFrom 47 = .ok (.iconst 0, 1) := by decide +kernel
theorem dX0_copyFrom_48 : decode cX0_copyFrom 48 = .ok (.bipush 8, 2) := by decide +kernel
theorem dX0_copyFrom_50 : decode cX0_copyFrom 50 = .ok (.invokestatic 52, 3) := by decide +kernel
theorem dX0_copyFrom_53 : decode cX0_copyFrom 53 = .ok (.aload_n 1, 1) := by decide +kernel
theorem dX0_copyFrom_54 : decode cX0_copyFrom 54 = .ok (.getfield 18, 3) := by decide +kernel
theorem dX0_copyFrom_57 : decode cX0_copyFrom 57 = .ok (.iconst 0, 1) := by decide +kernel
theorem dX0_copyFrom_58 : decode cX0_copyFrom 58 = .ok (.aload_n 0, 1) := by decide +kernel
theorem dX0_copyFrom_59 : decode cX0_copyFrom 59 = .ok (.getfield 18, 3) := by decide +kernel
theorem dX0_copyFrom_62 : decode cX0_copyFrom 62 = .ok (.iconst 0, 1) := by decide +kernel
theorem dX0_copyFrom_63 : decode cX0_copyFrom 63 = .ok (.bipush 8, 2) := by decide +kernel
theorem dX0_copyFrom_65 : decode cX0_copyFrom 65 = .ok (.invokestatic 52, 3) := by decide +kernel
theorem dX0_copyFrom_68 : decode cX0_copyFrom 68 = .ok (.aload_n 1, 1) := by decide +kernel
theorem dX0_copyFrom_69 : decode cX0_copyFrom 69 = .ok (.getfield 21, 3) := by decide +kernel
theorem dX0_copyFrom_72 : decode cX0_copyFrom 72 = .ok (.iconst 0, 1) := by decide +kernel
theorem dX0_copyFrom_73 : decode cX0_copyFrom 73 = .ok (.aload_n 0, 1) := by decide +kernel
theorem dX0_copyFrom_74 : decode cX0_copyFrom 74 = .ok (.getfield 21, 3) := by decide +kernel
theorem dX0_copyFrom_77 : decode cX0_copyFrom 77 = .ok (.iconst 0, 1) := by decide +kernel
theorem dX0_copyFrom_78 : decode cX0_copyFrom 78 = .ok (.iconst 4, 1) := by decide +kernel
theorem dX0_copyFrom_79 : decode cX0_copyFrom 79 = .ok (.invokestatic 52, 3) := by decide +kernel
theorem dX0_copyFrom_82 : decode cX0_copyFrom 82 = .ok (.aload_n 1, 1) := by decide +kernel
theorem dX0_copyFrom_83 : decode cX0_copyFrom 83 = .ok (.getfield 24, 3) := by decide +kernel
theorem dX0_copyFrom_86 : decode cX0_copyFrom 86 = .ok (.iconst 0, 1) := by decide +kernel
theorem dX0_copyFrom_87 : decode cX0_copyFrom 87 = .ok (.aload_n 0, 1) := by decide +kernel
theorem dX0_copyFrom_88 : decode cX0_copyFrom 88 = .ok (.getfield 24, 3) := by decide +kernel
theorem dX0_copyFrom_91 : decode cX0_copyFrom 91 = .ok (.iconst 0, 1) := by decide +kernel
theorem dX0_copyFrom_92 : decode cX0_copyFrom 92 = .ok (.bipush 16, 2) := by decide +kernel
theorem dX0_copyFrom_94 : decode cX0_copyFrom 94 = .ok (.invokestatic 52, 3) := by decide +kernel
theorem dX0_copyFrom_97 : decode cX0_copyFrom 97 = .ok (.aload_n 1, 1) := by decide +kernel
theorem dX0_copyFrom_98 : decode cX0_copyFrom 98 = .ok (.getfield 27, 3) := by decide +kernel
theorem dX0_copyFrom_101 : decode cX0_copyFrom 101 = .ok (.iconst 0, 1) := by decide +kernel
theorem dX0_copyFrom_102 : decode cX0_copyFrom 102 = .ok (.aload_n 0, 1) := by decide +kernel
theorem dX0_copyFrom_103 : decode cX0_copyFrom 103 = .ok (.getfield 27, 3) := by decide +kernel
theorem dX0_copyFrom_106 : decode cX0_copyFrom 106 = .ok (.iconst 0, 1) := by decide +kernel
theorem dX0_copyFrom_107 : decode cX0_copyFrom 107 = .ok (.bipush 16, 2) := by decide +kernel
theorem dX0_copyFrom_109 : decode cX0_copyFrom 109 = .ok (.invokestatic 52, 3) := by decide +kernel
theorem dX0_copyFrom_112 : decode cX0_copyFrom 112 = .ok (.aload_n 1, 1) := by decide +kernel
theorem dX0_copyFrom_113 : decode cX0_copyFrom 113 = .ok (.getfield 30, 3) := by decide +kernel
theorem dX0_copyFrom_116 : decode cX0_copyFrom 116 = .ok (.iconst 0, 1) := by decide +kernel
theorem dX0_copyFrom_117 : decode cX0_copyFrom 117 = .ok (.aload_n 0, 1) := by decide +kernel
theorem dX0_copyFrom_118 : decode cX0_copyFrom 118 = .ok (.getfield 30, 3) := by decide +kernel
theorem dX0_copyFrom_121 : decode cX0_copyFrom 121 = .ok (.iconst 0, 1) := by decide +kernel
theorem dX0_copyFrom_122 : decode cX0_copyFrom 122 = .ok (.bipush 24, 2) := by decide +kernel
theorem dX0_copyFrom_124 : decode cX0_copyFrom 124 = .ok (.invokestatic 52, 3) := by decide +kernel
theorem dX0_copyFrom_127 : decode cX0_copyFrom 127 = .ok (.return_, 1) := by decide +kernel
def f0_copyFrom (d0 : Nat) (d1 : Nat) (M : mm_M) : Option (mm_M) :=
  if isD d0 = true then (if isD d1 = true then (bI (mI M d1 0) (fun v_1 => bM (sI M d0 0 v_1) (fun M => bI (mI M d1 1) (fun v_2 => bM (sI M d0 1 v_2) (fun M => bI (mI M d1 2) (fun v_3 => bM (sI M d0 2 v_3) (fun M => cpy (d1 + 1) 3 (d0 + 1) 3 0 0 3 M (fun M => cpy (d1 + 2) 8 (d0 + 2) 8 0 0 8 M (fun M => cpy (d1 + 3) 8 (d0 + 3) 8 0 0 8 M (fun M => cpy (d1 + 4) 4 (d0 + 4) 4 0 0 4 M (fun M => cpy (d1 + 5) 16 (d0 + 5) 16 0 0 16 M (fun M => cpy (d1 + 6) 16 (d0 + 6) 16 0 0 16 M (fun M => cpy (d1 + 7) 24 (d0 + 7) 24 0 0 24 M (fun M => some M)))))))))))))) else none) else none
set_option maxHeartbeats 2000000 in
theorem s0_copyFrom (d0 : Nat) (d1 : Nat) (M : mm_M) : Snd injV j0_copyFrom mm_X0 0 [some (.ref d0), some (.ref d1)] [] M (f0_copyFrom d0 d1 M) := by
  refine Snd.wk (lo' := [some (.ref d0), some (.ref d1)]) ?_ (by simp [mm_le])
  unfold f0_copyFrom
  refine Snd.ite fun hd0 => ?_
  refine Snd.ite fun hd1 => ?_
  refine sn_aload_n (j := j0_copyFrom) (pc := 0) rfl rfl dX0_copyFrom_0 ?_
  refine sn_aload_n (j := j0_copyFrom) (pc := 1) rfl rfl dX0_copyFrom_1 ?_
  refine g_X0_36 (j := j0_copyFrom) (pc := 2) hd1 rfl dX0_copyFrom_2 ?_
  refine Snd.bI (fun v_1 => ?_)
  refine p_X0_36 (j := j0_copyFrom) (pc := 5) hd0 rfl dX0_copyFrom_5 (fun M => ?_)
  refine sn_aload_n (j := j0_copyFrom) (pc := 8) rfl rfl dX0_copyFrom_8 ?_
  refine sn_aload_n (j := j0_copyFrom) (pc := 9) rfl rfl dX0_copyFrom_9 ?_
  refine g_X0_40 (j := j0_copyFrom) (pc := 10) hd1 rfl dX0_copyFrom_10 ?_
  refine Snd.bI (fun v_2 => ?_)
  refine p_X0_40 (j := j0_copyFrom) (pc := 13) hd0 rfl dX0_copyFrom_13 (fun M => ?_)
  refine sn_aload_n (j := j0_copyFrom) (pc := 16) rfl rfl dX0_copyFrom_16 ?_
  refine sn_aload_n (j := j0_copyFrom) (pc := 17) rfl rfl dX0_copyFrom_17 ?_
  refine g_X0_43 (j := j0_copyFrom) (pc := 18) hd1 rfl dX0_copyFrom_18 ?_
  refine Snd.bI (fun v_3 => ?_)
  refine p_X0_43 (j := j0_copyFrom) (pc := 21) hd0 rfl dX0_copyFrom_21 (fun M => ?_)
  refine sn_aload_n (j := j0_copyFrom) (pc := 24) rfl rfl dX0_copyFrom_24 ?_
  refine g_X0_9 (j := j0_copyFrom) (pc := 25) hd1 rfl dX0_copyFrom_25 ?_
  refine sn_iconst (j := j0_copyFrom) (pc := 28) 0 rfl dX0_copyFrom_28 ?_
  refine sn_aload_n (j := j0_copyFrom) (pc := 29) rfl rfl dX0_copyFrom_29 ?_
  refine g_X0_9 (j := j0_copyFrom) (pc := 30) hd0 rfl dX0_copyFrom_30 ?_
  refine sn_iconst (j := j0_copyFrom) (pc := 33) 0 rfl dX0_copyFrom_33 ?_
  refine sn_iconst (j := j0_copyFrom) (pc := 34) 3 rfl dX0_copyFrom_34 ?_
  refine sn_cpy (j := j0_copyFrom) (pc := 35) (isD_a1 hd1) (isD_p1 hd1) (isD_a1 hd0) (isD_p1 hd0) w_ml_X0_52 w_ac1 w_ac2 w_sys (by decide) (Nat.le_of_ble_eq_true rfl) dX0_copyFrom_35 (fun M => ?_)
  refine sn_aload_n (j := j0_copyFrom) (pc := 38) rfl rfl dX0_copyFrom_38 ?_
  refine g_X0_15 (j := j0_copyFrom) (pc := 39) hd1 rfl dX0_copyFrom_39 ?_
  refine sn_iconst (j := j0_copyFrom) (pc := 42) 0 rfl dX0_copyFrom_42 ?_
  refine sn_aload_n (j := j0_copyFrom) (pc := 43) rfl rfl dX0_copyFrom_43 ?_
  refine g_X0_15 (j := j0_copyFrom) (pc := 44) hd0 rfl dX0_copyFrom_44 ?_
  refine sn_iconst (j := j0_copyFrom) (pc := 47) 0 rfl dX0_copyFrom_47 ?_
  refine sn_bipush (j := j0_copyFrom) (pc := 48) 8 rfl dX0_copyFrom_48 ?_
  refine sn_cpy (j := j0_copyFrom) (pc := 50) (isD_a2 hd1) (isD_p2 hd1) (isD_a2 hd0) (isD_p2 hd0) w_ml_X0_52 w_ac1 w_ac2 w_sys (by decide) (Nat.le_of_ble_eq_true rfl) dX0_copyFrom_50 (fun M => ?_)
  refine sn_aload_n (j := j0_copyFrom) (pc := 53) rfl rfl dX0_copyFrom_53 ?_
  refine g_X0_18 (j := j0_copyFrom) (pc := 54) hd1 rfl dX0_copyFrom_54 ?_
  refine sn_iconst (j := j0_copyFrom) (pc := 57) 0 rfl dX0_copyFrom_57 ?_
  refine sn_aload_n (j := j0_copyFrom) (pc := 58) rfl rfl dX0_copyFrom_58 ?_
  refine g_X0_18 (j := j0_copyFrom) (pc := 59) hd0 rfl dX0_copyFrom_59 ?_
  refine sn_iconst (j := j0_copyFrom) (pc := 62) 0 rfl dX0_copyFrom_62 ?_
  refine sn_bipush (j := j0_copyFrom) (pc := 63) 8 rfl dX0_copyFrom_63 ?_
  refine sn_cpy (j := j0_copyFrom) (pc := 65) (isD_a3 hd1) (isD_p3 hd1) (isD_a3 hd0) (isD_p3 hd0) w_ml_X0_52 w_ac1 w_ac2 w_sys (by decide) (Nat.le_of_ble_eq_true rfl) dX0_copyFrom_65 (fun M => ?_)
  refine sn_aload_n (j := j0_copyFrom) (pc := 68) rfl rfl dX0_copyFrom_68 ?_
  refine g_X0_21 (j := j0_copyFrom) (pc := 69) hd1 rfl dX0_copyFrom_69 ?_
  refine sn_iconst (j := j0_copyFrom) (pc := 72) 0 rfl dX0_copyFrom_72 ?_
  refine sn_aload_n (j := j0_copyFrom) (pc := 73) rfl rfl dX0_copyFrom_73 ?_
  refine g_X0_21 (j := j0_copyFrom) (pc := 74) hd0 rfl dX0_copyFrom_74 ?_
  refine sn_iconst (j := j0_copyFrom) (pc := 77) 0 rfl dX0_copyFrom_77 ?_
  refine sn_iconst (j := j0_copyFrom) (pc := 78) 4 rfl dX0_copyFrom_78 ?_
  refine sn_cpy (j := j0_copyFrom) (pc := 79) (isD_a4 hd1) (isD_p4 hd1) (isD_a4 hd0) (isD_p4 hd0) w_ml_X0_52 w_ac1 w_ac2 w_sys (by decide) (Nat.le_of_ble_eq_true rfl) dX0_copyFrom_79 (fun M => ?_)
  refine sn_aload_n (j := j0_copyFrom) (pc := 82) rfl rfl dX0_copyFrom_82 ?_
  refine g_X0_24 (j := j0_copyFrom) (pc := 83) hd1 rfl dX0_copyFrom_83 ?_
  refine sn_iconst (j := j0_copyFrom) (pc := 86) 0 rfl dX0_copyFrom_86 ?_
  refine sn_aload_n (j := j0_copyFrom) (pc := 87) rfl rfl dX0_copyFrom_87 ?_
  refine g_X0_24 (j := j0_copyFrom) (pc := 88) hd0 rfl dX0_copyFrom_88 ?_
  refine sn_iconst (j := j0_copyFrom) (pc := 91) 0 rfl dX0_copyFrom_91 ?_
  refine sn_bipush (j := j0_copyFrom) (pc := 92) 16 rfl dX0_copyFrom_92 ?_
  refine sn_cpy (j := j0_copyFrom) (pc := 94) (isD_a5 hd1) (isD_p5 hd1) (isD_a5 hd0) (isD_p5 hd0) w_ml_X0_52 w_ac1 w_ac2 w_sys (by decide) (Nat.le_of_ble_eq_true rfl) dX0_copyFrom_94 (fun M => ?_)
  refine sn_aload_n (j := j0_copyFrom) (pc := 97) rfl rfl dX0_copyFrom_97 ?_
  refine g_X0_27 (j := j0_copyFrom) (pc := 98) hd1 rfl dX0_copyFrom_98 ?_
  refine sn_iconst (j := j0_copyFrom) (pc := 101) 0 rfl dX0_copyFrom_101 ?_
  refine sn_aload_n (j := j0_copyFrom) (pc := 102) rfl rfl dX0_copyFrom_102 ?_
  refine g_X0_27 (j := j0_copyFrom) (pc := 103) hd0 rfl dX0_copyFrom_103 ?_
  refine sn_iconst (j := j0_copyFrom) (pc := 106) 0 rfl dX0_copyFrom_106 ?_
  refine sn_bipush (j := j0_copyFrom) (pc := 107) 16 rfl dX0_copyFrom_107 ?_
  refine sn_cpy (j := j0_copyFrom) (pc := 109) (isD_a6 hd1) (isD_p6 hd1) (isD_a6 hd0) (isD_p6 hd0) w_ml_X0_52 w_ac1 w_ac2 w_sys (by decide) (Nat.le_of_ble_eq_true rfl) dX0_copyFrom_109 (fun M => ?_)
  refine sn_aload_n (j := j0_copyFrom) (pc := 112) rfl rfl dX0_copyFrom_112 ?_
  refine g_X0_30 (j := j0_copyFrom) (pc := 113) hd1 rfl dX0_copyFrom_113 ?_
  refine sn_iconst (j := j0_copyFrom) (pc := 116) 0 rfl dX0_copyFrom_116 ?_
  refine sn_aload_n (j := j0_copyFrom) (pc := 117) rfl rfl dX0_copyFrom_117 ?_
  refine g_X0_30 (j := j0_copyFrom) (pc := 118) hd0 rfl dX0_copyFrom_118 ?_
  refine sn_iconst (j := j0_copyFrom) (pc := 121) 0 rfl dX0_copyFrom_121 ?_
  refine sn_bipush (j := j0_copyFrom) (pc := 122) 24 rfl dX0_copyFrom_122 ?_
  refine sn_cpy (j := j0_copyFrom) (pc := 124) (isD_a7 hd1) (isD_p7 hd1) (isD_a7 hd0) (isD_p7 hd0) w_ml_X0_52 w_ac1 w_ac2 w_sys (by decide) (Nat.le_of_ble_eq_true rfl) dX0_copyFrom_124 (fun M => ?_)
  exact sn_vret (j := j0_copyFrom) (pc := 127) rfl dX0_copyFrom_127

abbrev jJ_fill_53178 : mm_J := (yJ7_fill_53178, cJ7_fill_53178, 4, none, 0)
theorem dJ7_fill_53178_0 : decode cJ7_fill_53178 0 = .ok (.iconst 0, 1) := by decide +kernel
theorem dJ7_fill_53178_1 : decode cJ7_fill_53178 1 = .ok (.istore_n 2, 1) := by decide +kernel
theorem dJ7_fill_53178_2 : decode cJ7_fill_53178 2 = .ok (.aload_n 0, 1) := by decide +kernel
theorem dJ7_fill_53178_3 : decode cJ7_fill_53178 3 = .ok (.arraylength, 1) := by decide +kernel
theorem dJ7_fill_53178_4 : decode cJ7_fill_53178 4 = .ok (.istore_n 3, 1) := by decide +kernel
theorem dJ7_fill_53178_5 : decode cJ7_fill_53178 5 = .ok (.iload_n 2, 1) := by decide +kernel
theorem dJ7_fill_53178_6 : decode cJ7_fill_53178 6 = .ok (.iload_n 3, 1) := by decide +kernel
theorem dJ7_fill_53178_7 : decode cJ7_fill_53178 7 = .ok (.if_icmp .ge 13, 3) := by decide +kernel
theorem dJ7_fill_53178_10 : decode cJ7_fill_53178 10 = .ok (.aload_n 0, 1) := by decide +kernel
theorem dJ7_fill_53178_11 : decode cJ7_fill_53178 11 = .ok (.iload_n 2, 1) := by decide +kernel
theorem dJ7_fill_53178_12 : decode cJ7_fill_53178 12 = .ok (.iload_n 1, 1) := by decide +kernel
theorem dJ7_fill_53178_13 : decode cJ7_fill_53178 13 = .ok (.iastore, 1) := by decide +kernel
theorem dJ7_fill_53178_14 : decode cJ7_fill_53178 14 = .ok (.iinc 2 1, 3) := by decide +kernel
theorem dJ7_fill_53178_17 : decode cJ7_fill_53178 17 = .ok (.goto (-12), 3) := by decide +kernel
theorem dJ7_fill_53178_20 : decode cJ7_fill_53178 20 = .ok (.return_, 1) := by decide +kernel
def bJ_fill_53178_5  (rec5 : Nat → Int32 → Int32 → Int32 → mm_M → Option (mm_M)) (a0 : Nat) (x1 : Int32) (x2 : Int32) (x3 : Int32) (M : mm_M) : Option (mm_M) :=
  if x3 ≤ x2 then (some M) else (uI a0 (mm_n a0) x2 x1 M (fun M => rec5 a0 x1 (x2 + 1) x3 M))
set_option maxHeartbeats 2000000 in
theorem sbJ_fill_53178_5   (rec5 : Nat → Int32 → Int32 → Int32 → mm_M → Option (mm_M)) (hrec5 : ∀ (a0 : Nat) (x1 : Int32) (x2 : Int32) (x3 : Int32) (M : mm_M), isA a0 = true → Snd injV jJ_fill_53178 mm_X0 5 [some (.ref a0), some (.int x1), some (.int x2), some (.int x3)] [] M (rec5 a0 x1 x2 x3 M)) (a0 : Nat) (x1 : Int32) (x2 : Int32) (x3 : Int32) (ha0 : isA a0 = true) (M : mm_M) : Snd injV jJ_fill_53178 mm_X0 5 [some (.ref a0), some (.int x1), some (.int x2), some (.int x3)] [] M (bJ_fill_53178_5  rec5 a0 x1 x2 x3 M) := by
  unfold bJ_fill_53178_5
  refine sn_iload_n (j := jJ_fill_53178) (pc := 5) rfl rfl dJ7_fill_53178_5 ?_
  refine sn_iload_n (j := jJ_fill_53178) (pc := 6) rfl rfl dJ7_fill_53178_6 ?_
  refine sn_icmp_ge (j := jJ_fill_53178) (pc := 7) 20 rfl dJ7_fill_53178_7 ?_ ?_
  · exact sn_vret (j := jJ_fill_53178) (pc := 20) rfl dJ7_fill_53178_20
  · refine sn_aload_n (j := jJ_fill_53178) (pc := 10) rfl rfl dJ7_fill_53178_10 ?_
    refine sn_iload_n (j := jJ_fill_53178) (pc := 11) rfl rfl dJ7_fill_53178_11 ?_
    refine sn_iload_n (j := jJ_fill_53178) (pc := 12) rfl rfl dJ7_fill_53178_12 ?_
    refine sn_iast (j := jJ_fill_53178) (pc := 13) (isA_sh ha0) (isA_pos ha0) dJ7_fill_53178_13 (fun M => ?_)
    refine sn_iinc (j := jJ_fill_53178) (pc := 14) 1 rfl (by decide) rfl (lo' := [some (.ref a0), some (.int x1), some (.int (x2 + 1)), some (.int x3)]) rfl dJ7_fill_53178_14 ?_
    refine sn_goto (j := jJ_fill_53178) (pc := 17) 5 rfl dJ7_fill_53178_17 ?_
    exact Snd.wk (hrec5 a0 x1 (x2 + 1) x3 M ha0) (by simp [mm_le])
def lJ_fill_53178_5  : Nat → Nat → Int32 → Int32 → Int32 → mm_M → Option (mm_M)
  | 0 => fun _ _ _ _ _ => none
  | n + 1 => fun a0 x1 x2 x3 M => bJ_fill_53178_5  (lJ_fill_53178_5  n) a0 x1 x2 x3 M
theorem slJ_fill_53178_5   : ∀ (n : Nat) (a0 : Nat) (x1 : Int32) (x2 : Int32) (x3 : Int32) (ha0 : isA a0 = true) (M : mm_M), Snd injV jJ_fill_53178 mm_X0 5 [some (.ref a0), some (.int x1), some (.int x2), some (.int x3)] [] M (lJ_fill_53178_5  n a0 x1 x2 x3 M)
  | 0 => fun _ _ _ _ _ _ => Snd.none
  | n + 1 => fun a0 x1 x2 x3 ha0 M => sbJ_fill_53178_5   (lJ_fill_53178_5  n) (fun a0 x1 x2 x3 M ha0 => slJ_fill_53178_5   n a0 x1 x2 x3 ha0 M) a0 x1 x2 x3 ha0 M
def fJ_fill_53178 (a0 : Nat) (x1 : Int32) (M : mm_M) : Option (mm_M) :=
  if isA a0 = true then (bI (Int32.ofNat (mm_n a0)) (fun x3_1 => lJ_fill_53178_5 FU a0 x1 0 x3_1 M)) else none
set_option maxHeartbeats 2000000 in
theorem sJ_fill_53178 (a0 : Nat) (x1 : Int32) (M : mm_M) : Snd injV jJ_fill_53178 mm_X0 0 [some (.ref a0), some (.int x1)] [] M (fJ_fill_53178 a0 x1 M) := by
  refine Snd.wk (lo' := [some (.ref a0), some (.int x1), none, none]) ?_ (by simp [mm_le])
  unfold fJ_fill_53178
  refine Snd.ite fun ha0 => ?_
  refine sn_iconst (j := jJ_fill_53178) (pc := 0) 0 rfl dJ7_fill_53178_0 ?_
  refine sn_istore_n (j := jJ_fill_53178) (pc := 1) rfl (by decide) (lo' := [some (.ref a0), some (.int x1), some (.int 0), none]) rfl dJ7_fill_53178_1 ?_
  refine sn_aload_n (j := jJ_fill_53178) (pc := 2) rfl rfl dJ7_fill_53178_2 ?_
  refine sn_alen (j := jJ_fill_53178) (pc := 3) (Int32.ofNat (mm_n a0)) (isA_sh ha0) (isA_pos ha0) rfl dJ7_fill_53178_3 ?_
  refine sn_istoreB_n (j := jJ_fill_53178) (pc := 4) rfl (fun x3_1 => [some (.ref a0), some (.int x1), some (.int 0), some (.int x3_1)]) (by decide) (fun _ => rfl) dJ7_fill_53178_4 (fun x3_1 => ?_)
  exact Snd.wk (slJ_fill_53178_5 FU a0 x1 0 x3_1 ha0 M) (by simp [mm_le])

abbrev j0_beginAnew : mm_J := (yX0_beginAnew, cX0_beginAnew, 2, none, 1)
theorem dX0_beginAnew_0 : decode cX0_beginAnew 0 = .ok (.aload_n 0, 1) := by decide +kernel
theorem dX0_beginAnew_1 : decode cX0_beginAnew 1 = .ok (.iload_n 1, 1) := by decide +kernel
theorem dX0_beginAnew_2 : decode cX0_beginAnew 2 = .ok (.putfield 36, 3) := by decide +kernel
theorem dX0_beginAnew_5 : decode cX0_beginAnew 5 = .ok (.aload_n 0, 1) := by decide +kernel
theorem dX0_beginAnew_6 : decode cX0_beginAnew 6 = .ok (.iconst 0, 1) := by decide +kernel
theorem dX0_beginAnew_7 : decode cX0_beginAnew 7 = .ok (.putfield 43, 3) := by decide +kernel
theorem dX0_beginAnew_10 : decode cX0_beginAnew 10 = .ok (.aload_n 0, 1) := by decide +kernel
theorem dX0_beginAnew_11 : decode cX0_beginAnew 11 = .ok (.getfield 15, 3) := by decide +kernel
theorem dX0_beginAnew_14 : decode cX0_beginAnew 14 = .ok (.bipush 10, 2) := by decide +kernel
theorem dX0_beginAnew_16 : decode cX0_beginAnew 16 = .ok (.invokestatic 46, 3) := by decide +kernel
theorem dX0_beginAnew_19 : decode cX0_beginAnew 19 = .ok (.aload_n 0, 1) := by decide +kernel
theorem dX0_beginAnew_20 : decode cX0_beginAnew 20 = .ok (.getfield 18, 3) := by decide +kernel
theorem dX0_beginAnew_23 : decode cX0_beginAnew 23 = .ok (.iconst 0, 1) := by decide +kernel
theorem dX0_beginAnew_24 : decode cX0_beginAnew 24 = .ok (.invokestatic 46, 3) := by decide +kernel
theorem dX0_beginAnew_27 : decode cX0_beginAnew 27 = .ok (.return_, 1) := by decide +kernel
def f0_beginAnew (d0 : Nat) (x1 : Int32) (M : mm_M) : Option (mm_M) :=
  if isD d0 = true then (bM (sI M d0 0 x1) (fun M => bM (sI M d0 2 0) (fun M => cV (fJ_fill_53178 (d0 + 2) 10 M) (fun M => cV (fJ_fill_53178 (d0 + 3) 0 M) (fun M => some M))))) else none
set_option maxHeartbeats 2000000 in
theorem s0_beginAnew (d0 : Nat) (x1 : Int32) (M : mm_M) : Snd injV j0_beginAnew mm_X0 0 [some (.ref d0), some (.int x1)] [] M (f0_beginAnew d0 x1 M) := by
  refine Snd.wk (lo' := [some (.ref d0), some (.int x1)]) ?_ (by simp [mm_le])
  unfold f0_beginAnew
  refine Snd.ite fun hd0 => ?_
  refine sn_aload_n (j := j0_beginAnew) (pc := 0) rfl rfl dX0_beginAnew_0 ?_
  refine sn_iload_n (j := j0_beginAnew) (pc := 1) rfl rfl dX0_beginAnew_1 ?_
  refine p_X0_36 (j := j0_beginAnew) (pc := 2) hd0 rfl dX0_beginAnew_2 (fun M => ?_)
  refine sn_aload_n (j := j0_beginAnew) (pc := 5) rfl rfl dX0_beginAnew_5 ?_
  refine sn_iconst (j := j0_beginAnew) (pc := 6) 0 rfl dX0_beginAnew_6 ?_
  refine p_X0_43 (j := j0_beginAnew) (pc := 7) hd0 rfl dX0_beginAnew_7 (fun M => ?_)
  refine sn_aload_n (j := j0_beginAnew) (pc := 10) rfl rfl dX0_beginAnew_10 ?_
  refine g_X0_15 (j := j0_beginAnew) (pc := 11) hd0 rfl dX0_beginAnew_11 ?_
  refine sn_bipush (j := j0_beginAnew) (pc := 14) 10 rfl dX0_beginAnew_14 ?_
  refine sn_callS (j := j0_beginAnew) (pc := 16) (jc := jJ_fill_53178) (As := [.ref (d0 + 2), .int 10]) (sJ_fill_53178 (d0 + 2) 10 M) mm_hvV (by simp [Value.category]) (Nat.le_of_ble_eq_true rfl) qJ_fill_53178 rfl (by decide) w_ml_X0_46 w_st_J7_fill_53178 rfl (Nat.le_of_ble_eq_true rfl) dX0_beginAnew_16 ?_
  intro M
  show Snd injV j0_beginAnew mm_X0 19 [some (.ref d0), some (.int x1)] [] M _
  refine sn_aload_n (j := j0_beginAnew) (pc := 19) rfl rfl dX0_beginAnew_19 ?_
  refine g_X0_18 (j := j0_beginAnew) (pc := 20) hd0 rfl dX0_beginAnew_20 ?_
  refine sn_iconst (j := j0_beginAnew) (pc := 23) 0 rfl dX0_beginAnew_23 ?_
  refine sn_callS (j := j0_beginAnew) (pc := 24) (jc := jJ_fill_53178) (As := [.ref (d0 + 3), .int 0]) (sJ_fill_53178 (d0 + 3) 0 M) mm_hvV (by simp [Value.category]) (Nat.le_of_ble_eq_true rfl) qJ_fill_53178 rfl (by decide) w_ml_X0_46 w_st_J7_fill_53178 rfl (Nat.le_of_ble_eq_true rfl) dX0_beginAnew_24 ?_
  intro M
  show Snd injV j0_beginAnew mm_X0 27 [some (.ref d0), some (.int x1)] [] M _
  exact sn_vret (j := j0_beginAnew) (pc := 27) rfl dX0_beginAnew_27

abbrev j0_hasSlot : mm_J := (yX0_hasSlot, cX0_hasSlot, 2, (some .boolean), 0)
theorem dX0_hasSlot_0 : decode cX0_hasSlot 0 = .ok (.iload_n 1, 1) := by decide +kernel
theorem dX0_hasSlot_1 : decode cX0_hasSlot 1 = .ok (.ifCond .lt 15, 3) := by decide +kernel
theorem dX0_hasSlot_4 : decode cX0_hasSlot 4 = .ok (.iload_n 1, 1) := by decide +kernel
theorem dX0_hasSlot_5 : decode cX0_hasSlot 5 = .ok (.aload_n 0, 1) := by decide +kernel
theorem dX0_hasSlot_6 : decode cX0_hasSlot 6 = .ok (.getfield 36, 3) := by decide +kernel
theorem dX0_hasSlot_9 : decode cX0_hasSlot 9 = .ok (.if_icmp .ge 7, 3) := by decide +kernel
theorem dX0_hasSlot_12 : decode cX0_hasSlot 12 = .ok (.iconst 1, 1) := by decide +kernel
theorem dX0_hasSlot_13 : decode cX0_hasSlot 13 = .ok (.goto 4, 3) := by decide +kernel
theorem dX0_hasSlot_16 : decode cX0_hasSlot 16 = .ok (.iconst 0, 1) := by decide +kernel
theorem dX0_hasSlot_17 : decode cX0_hasSlot 17 = .ok (.ireturn, 1) := by decide +kernel
def l0_hasSlot_17  (s0 : Int32) (M : mm_M) : Option (Int32 × mm_M) :=
  rZ s0 M
set_option maxHeartbeats 2000000 in
theorem sl0_hasSlot_17   (s0 : Int32)  (M : mm_M) : Snd injI j0_hasSlot mm_X0 17 [none, none] [.int s0] M (l0_hasSlot_17  s0 M) := by
  unfold l0_hasSlot_17
  exact sn_zret (j := j0_hasSlot) (pc := 17) rfl dX0_hasSlot_17
def l0_hasSlot_16   (M : mm_M) : Option (Int32 × mm_M) :=
  l0_hasSlot_17 0 M
set_option maxHeartbeats 2000000 in
theorem sl0_hasSlot_16     (M : mm_M) : Snd injI j0_hasSlot mm_X0 16 [none, none] [] M (l0_hasSlot_16   M) := by
  unfold l0_hasSlot_16
  refine sn_iconst (j := j0_hasSlot) (pc := 16) 0 rfl dX0_hasSlot_16 ?_
  exact Snd.wk (sl0_hasSlot_17 0 M) (by simp [mm_le])
def f0_hasSlot (d0 : Nat) (x1 : Int32) (M : mm_M) : Option (Int32 × mm_M) :=
  if isD d0 = true then (if x1 < 0 then (l0_hasSlot_16 M) else (bI (mI M d0 0) (fun v_1 => if v_1 ≤ x1 then (l0_hasSlot_16 M) else (l0_hasSlot_17 1 M)))) else none
set_option maxHeartbeats 2000000 in
theorem s0_hasSlot (d0 : Nat) (x1 : Int32) (M : mm_M) : Snd injI j0_hasSlot mm_X0 0 [some (.ref d0), some (.int x1)] [] M (f0_hasSlot d0 x1 M) := by
  refine Snd.wk (lo' := [some (.ref d0), some (.int x1)]) ?_ (by simp [mm_le])
  unfold f0_hasSlot
  refine Snd.ite fun hd0 => ?_
  refine sn_iload_n (j := j0_hasSlot) (pc := 0) rfl rfl dX0_hasSlot_0 ?_
  refine sn_if_lt (j := j0_hasSlot) (pc := 1) 16 rfl dX0_hasSlot_1 ?_ ?_
  · exact Snd.wk (sl0_hasSlot_16 M) (by simp [mm_le])
  · refine sn_iload_n (j := j0_hasSlot) (pc := 4) rfl rfl dX0_hasSlot_4 ?_
    refine sn_aload_n (j := j0_hasSlot) (pc := 5) rfl rfl dX0_hasSlot_5 ?_
    refine g_X0_36 (j := j0_hasSlot) (pc := 6) hd0 rfl dX0_hasSlot_6 ?_
    refine Snd.bI (fun v_1 => ?_)
    refine sn_icmp_ge (j := j0_hasSlot) (pc := 9) 16 rfl dX0_hasSlot_9 ?_ ?_
    · exact Snd.wk (sl0_hasSlot_16 M) (by simp [mm_le])
    · refine sn_iconst (j := j0_hasSlot) (pc := 12) 1 rfl dX0_hasSlot_12 ?_
      refine sn_goto (j := j0_hasSlot) (pc := 13) 17 rfl dX0_hasSlot_13 ?_
      exact Snd.wk (sl0_hasSlot_17 1 M) (by simp [mm_le])

abbrev j0_hasBus : mm_J := (yX0_hasBus, cX0_hasBus, 2, (some .boolean), 0)
theorem dX0_hasBus_0 : decode cX0_hasBus 0 = .ok (.iload_n 1, 1) := by decide +kernel
theorem dX0_hasBus_1 : decode cX0_hasBus 1 = .ok (.ifCond .lt 15, 3) := by decide +kernel
theorem dX0_hasBus_4 : decode cX0_hasBus 4 = .ok (.iload_n 1, 1) := by decide +kernel
theorem dX0_hasBus_5 : decode cX0_hasBus 5 = .ok (.aload_n 0, 1) := by decide +kernel
theorem dX0_hasBus_6 : decode cX0_hasBus 6 = .ok (.getfield 43, 3) := by decide +kernel
theorem dX0_hasBus_9 : decode cX0_hasBus 9 = .ok (.if_icmp .ge 7, 3) := by decide +kernel
theorem dX0_hasBus_12 : decode cX0_hasBus 12 = .ok (.iconst 1, 1) := by decide +kernel
theorem dX0_hasBus_13 : decode cX0_hasBus 13 = .ok (.goto 4, 3) := by decide +kernel
theorem dX0_hasBus_16 : decode cX0_hasBus 16 = .ok (.iconst 0, 1) := by decide +kernel
theorem dX0_hasBus_17 : decode cX0_hasBus 17 = .ok (.ireturn, 1) := by decide +kernel
def l0_hasBus_17  (s0 : Int32) (M : mm_M) : Option (Int32 × mm_M) :=
  rZ s0 M
set_option maxHeartbeats 2000000 in
theorem sl0_hasBus_17   (s0 : Int32)  (M : mm_M) : Snd injI j0_hasBus mm_X0 17 [none, none] [.int s0] M (l0_hasBus_17  s0 M) := by
  unfold l0_hasBus_17
  exact sn_zret (j := j0_hasBus) (pc := 17) rfl dX0_hasBus_17
def l0_hasBus_16   (M : mm_M) : Option (Int32 × mm_M) :=
  l0_hasBus_17 0 M
set_option maxHeartbeats 2000000 in
theorem sl0_hasBus_16     (M : mm_M) : Snd injI j0_hasBus mm_X0 16 [none, none] [] M (l0_hasBus_16   M) := by
  unfold l0_hasBus_16
  refine sn_iconst (j := j0_hasBus) (pc := 16) 0 rfl dX0_hasBus_16 ?_
  exact Snd.wk (sl0_hasBus_17 0 M) (by simp [mm_le])
def f0_hasBus (d0 : Nat) (x1 : Int32) (M : mm_M) : Option (Int32 × mm_M) :=
  if isD d0 = true then (if x1 < 0 then (l0_hasBus_16 M) else (bI (mI M d0 2) (fun v_1 => if v_1 ≤ x1 then (l0_hasBus_16 M) else (l0_hasBus_17 1 M)))) else none
set_option maxHeartbeats 2000000 in
theorem s0_hasBus (d0 : Nat) (x1 : Int32) (M : mm_M) : Snd injI j0_hasBus mm_X0 0 [some (.ref d0), some (.int x1)] [] M (f0_hasBus d0 x1 M) := by
  refine Snd.wk (lo' := [some (.ref d0), some (.int x1)]) ?_ (by simp [mm_le])
  unfold f0_hasBus
  refine Snd.ite fun hd0 => ?_
  refine sn_iload_n (j := j0_hasBus) (pc := 0) rfl rfl dX0_hasBus_0 ?_
  refine sn_if_lt (j := j0_hasBus) (pc := 1) 16 rfl dX0_hasBus_1 ?_ ?_
  · exact Snd.wk (sl0_hasBus_16 M) (by simp [mm_le])
  · refine sn_iload_n (j := j0_hasBus) (pc := 4) rfl rfl dX0_hasBus_4 ?_
    refine sn_aload_n (j := j0_hasBus) (pc := 5) rfl rfl dX0_hasBus_5 ?_
    refine g_X0_43 (j := j0_hasBus) (pc := 6) hd0 rfl dX0_hasBus_6 ?_
    refine Snd.bI (fun v_1 => ?_)
    refine sn_icmp_ge (j := j0_hasBus) (pc := 9) 16 rfl dX0_hasBus_9 ?_ ?_
    · exact Snd.wk (sl0_hasBus_16 M) (by simp [mm_le])
    · refine sn_iconst (j := j0_hasBus) (pc := 12) 1 rfl dX0_hasBus_12 ?_
      refine sn_goto (j := j0_hasBus) (pc := 13) 17 rfl dX0_hasBus_13 ?_
      exact Snd.wk (sl0_hasBus_17 1 M) (by simp [mm_le])

abbrev j0_hasCurve : mm_J := (yX0_hasCurve, cX0_hasCurve, 2, (some .boolean), 0)
theorem dX0_hasCurve_0 : decode cX0_hasCurve 0 = .ok (.iload_n 1, 1) := by decide +kernel
theorem dX0_hasCurve_1 : decode cX0_hasCurve 1 = .ok (.ifCond .lt 15, 3) := by decide +kernel
theorem dX0_hasCurve_4 : decode cX0_hasCurve 4 = .ok (.iload_n 1, 1) := by decide +kernel
theorem dX0_hasCurve_5 : decode cX0_hasCurve 5 = .ok (.aload_n 0, 1) := by decide +kernel
theorem dX0_hasCurve_6 : decode cX0_hasCurve 6 = .ok (.getfield 40, 3) := by decide +kernel
theorem dX0_hasCurve_9 : decode cX0_hasCurve 9 = .ok (.if_icmp .ge 7, 3) := by decide +kernel
theorem dX0_hasCurve_12 : decode cX0_hasCurve 12 = .ok (.iconst 1, 1) := by decide +kernel
theorem dX0_hasCurve_13 : decode cX0_hasCurve 13 = .ok (.goto 4, 3) := by decide +kernel
theorem dX0_hasCurve_16 : decode cX0_hasCurve 16 = .ok (.iconst 0, 1) := by decide +kernel
theorem dX0_hasCurve_17 : decode cX0_hasCurve 17 = .ok (.ireturn, 1) := by decide +kernel
def l0_hasCurve_17  (s0 : Int32) (M : mm_M) : Option (Int32 × mm_M) :=
  rZ s0 M
set_option maxHeartbeats 2000000 in
theorem sl0_hasCurve_17   (s0 : Int32)  (M : mm_M) : Snd injI j0_hasCurve mm_X0 17 [none, none] [.int s0] M (l0_hasCurve_17  s0 M) := by
  unfold l0_hasCurve_17
  exact sn_zret (j := j0_hasCurve) (pc := 17) rfl dX0_hasCurve_17
def l0_hasCurve_16   (M : mm_M) : Option (Int32 × mm_M) :=
  l0_hasCurve_17 0 M
set_option maxHeartbeats 2000000 in
theorem sl0_hasCurve_16     (M : mm_M) : Snd injI j0_hasCurve mm_X0 16 [none, none] [] M (l0_hasCurve_16   M) := by
  unfold l0_hasCurve_16
  refine sn_iconst (j := j0_hasCurve) (pc := 16) 0 rfl dX0_hasCurve_16 ?_
  exact Snd.wk (sl0_hasCurve_17 0 M) (by simp [mm_le])
def f0_hasCurve (d0 : Nat) (x1 : Int32) (M : mm_M) : Option (Int32 × mm_M) :=
  if isD d0 = true then (if x1 < 0 then (l0_hasCurve_16 M) else (bI (mI M d0 1) (fun v_1 => if v_1 ≤ x1 then (l0_hasCurve_16 M) else (l0_hasCurve_17 1 M)))) else none
set_option maxHeartbeats 2000000 in
theorem s0_hasCurve (d0 : Nat) (x1 : Int32) (M : mm_M) : Snd injI j0_hasCurve mm_X0 0 [some (.ref d0), some (.int x1)] [] M (f0_hasCurve d0 x1 M) := by
  refine Snd.wk (lo' := [some (.ref d0), some (.int x1)]) ?_ (by simp [mm_le])
  unfold f0_hasCurve
  refine Snd.ite fun hd0 => ?_
  refine sn_iload_n (j := j0_hasCurve) (pc := 0) rfl rfl dX0_hasCurve_0 ?_
  refine sn_if_lt (j := j0_hasCurve) (pc := 1) 16 rfl dX0_hasCurve_1 ?_ ?_
  · exact Snd.wk (sl0_hasCurve_16 M) (by simp [mm_le])
  · refine sn_iload_n (j := j0_hasCurve) (pc := 4) rfl rfl dX0_hasCurve_4 ?_
    refine sn_aload_n (j := j0_hasCurve) (pc := 5) rfl rfl dX0_hasCurve_5 ?_
    refine g_X0_40 (j := j0_hasCurve) (pc := 6) hd0 rfl dX0_hasCurve_6 ?_
    refine Snd.bI (fun v_1 => ?_)
    refine sn_icmp_ge (j := j0_hasCurve) (pc := 9) 16 rfl dX0_hasCurve_9 ?_ ?_
    · exact Snd.wk (sl0_hasCurve_16 M) (by simp [mm_le])
    · refine sn_iconst (j := j0_hasCurve) (pc := 12) 1 rfl dX0_hasCurve_12 ?_
      refine sn_goto (j := j0_hasCurve) (pc := 13) 17 rfl dX0_hasCurve_13 ?_
      exact Snd.wk (sl0_hasCurve_17 1 M) (by simp [mm_le])

abbrev j0_fact : mm_J := (yX0_fact, cX0_fact, 3, (some .int), 0)
theorem dX0_fact_0 : decode cX0_fact 0 = .ok (.aload_n 0, 1) := by decide +kernel
theorem dX0_fact_1 : decode cX0_fact 1 = .ok (.getfield 30, 3) := by decide +kernel
theorem dX0_fact_4 : decode cX0_fact 4 = .ok (.iload_n 1, 1) := by decide +kernel
theorem dX0_fact_5 : decode cX0_fact 5 = .ok (.bipush 6, 2) := by decide +kernel
theorem dX0_fact_7 : decode cX0_fact 7 = .ok (.imul, 1) := by decide +kernel
theorem dX0_fact_8 : decode cX0_fact 8 = .ok (.iload_n 2, 1) := by decide +kernel
theorem dX0_fact_9 : decode cX0_fact 9 = .ok (.iadd, 1) := by decide +kernel
theorem dX0_fact_10 : decode cX0_fact 10 = .ok (.iaload, 1) := by decide +kernel
theorem dX0_fact_11 : decode cX0_fact 11 = .ok (.ireturn, 1) := by decide +kernel
def f0_fact (d0 : Nat) (x1 : Int32) (x2 : Int32) (M : mm_M) : Option (Int32 × mm_M) :=
  if isD d0 = true then (aI (d0 + 7) 24 ((x1 * 6) + x2) M (fun w_1 => some (w_1, M))) else none
set_option maxHeartbeats 2000000 in
theorem s0_fact (d0 : Nat) (x1 : Int32) (x2 : Int32) (M : mm_M) : Snd injI j0_fact mm_X0 0 [some (.ref d0), some (.int x1), some (.int x2)] [] M (f0_fact d0 x1 x2 M) := by
  refine Snd.wk (lo' := [some (.ref d0), some (.int x1), some (.int x2)]) ?_ (by simp [mm_le])
  unfold f0_fact
  refine Snd.ite fun hd0 => ?_
  refine sn_aload_n (j := j0_fact) (pc := 0) rfl rfl dX0_fact_0 ?_
  refine g_X0_30 (j := j0_fact) (pc := 1) hd0 rfl dX0_fact_1 ?_
  refine sn_iload_n (j := j0_fact) (pc := 4) rfl rfl dX0_fact_4 ?_
  refine sn_bipush (j := j0_fact) (pc := 5) 6 rfl dX0_fact_5 ?_
  refine sn_imul (j := j0_fact) (pc := 7) dX0_fact_7 ?_
  refine sn_iload_n (j := j0_fact) (pc := 8) rfl rfl dX0_fact_8 ?_
  refine sn_iadd (j := j0_fact) (pc := 9) dX0_fact_9 ?_
  refine sn_iald (j := j0_fact) (pc := 10) (isD_a7 hd0) (isD_p7 hd0) dX0_fact_10 (fun w_1 => ?_)
  exact sn_iret (j := j0_fact) (pc := 11) rfl dX0_fact_11

abbrev j0_hasLevel : mm_J := (yX0_hasLevel, cX0_hasLevel, 3, (some .boolean), 1)
theorem dX0_hasLevel_0 : decode cX0_hasLevel 0 = .ok (.aload_n 0, 1) := by decide +kernel
theorem dX0_hasLevel_1 : decode cX0_hasLevel 1 = .ok (.iload_n 1, 1) := by decide +kernel
theorem dX0_hasLevel_2 : decode cX0_hasLevel 2 = .ok (.invokevirtual 58, 3) := by decide +kernel
theorem dX0_hasLevel_5 : decode cX0_hasLevel 5 = .ok (.ifCond .eq 21, 3) := by decide +kernel
theorem dX0_hasLevel_8 : decode cX0_hasLevel 8 = .ok (.iload_n 2, 1) := by decide +kernel
theorem dX0_hasLevel_9 : decode cX0_hasLevel 9 = .ok (.ifCond .lt 17, 3) := by decide +kernel
theorem dX0_hasLevel_12 : decode cX0_hasLevel 12 = .ok (.iload_n 2, 1) := by decide +kernel
theorem dX0_hasLevel_13 : decode cX0_hasLevel 13 = .ok (.aload_n 0, 1) := by decide +kernel
theorem dX0_hasLevel_14 : decode cX0_hasLevel 14 = .ok (.iload_n 1, 1) := by decide +kernel
theorem dX0_hasLevel_15 : decode cX0_hasLevel 15 = .ok (.iconst 1, 1) := by decide +kernel
theorem dX0_hasLevel_16 : decode cX0_hasLevel 16 = .ok (.invokevirtual 62, 3) := by decide +kernel
theorem dX0_hasLevel_19 : decode cX0_hasLevel 19 = .ok (.if_icmp .gt 7, 3) := by decide +kernel
theorem dX0_hasLevel_22 : decode cX0_hasLevel 22 = .ok (.iconst 1, 1) := by decide +kernel
theorem dX0_hasLevel_23 : decode cX0_hasLevel 23 = .ok (.goto 4, 3) := by decide +kernel
theorem dX0_hasLevel_26 : decode cX0_hasLevel 26 = .ok (.iconst 0, 1) := by decide +kernel
theorem dX0_hasLevel_27 : decode cX0_hasLevel 27 = .ok (.ireturn, 1) := by decide +kernel
def l0_hasLevel_27  (s0 : Int32) (M : mm_M) : Option (Int32 × mm_M) :=
  rZ s0 M
set_option maxHeartbeats 2000000 in
theorem sl0_hasLevel_27   (s0 : Int32)  (M : mm_M) : Snd injI j0_hasLevel mm_X0 27 [none, none, none] [.int s0] M (l0_hasLevel_27  s0 M) := by
  unfold l0_hasLevel_27
  exact sn_zret (j := j0_hasLevel) (pc := 27) rfl dX0_hasLevel_27
def l0_hasLevel_26   (M : mm_M) : Option (Int32 × mm_M) :=
  l0_hasLevel_27 0 M
set_option maxHeartbeats 2000000 in
theorem sl0_hasLevel_26     (M : mm_M) : Snd injI j0_hasLevel mm_X0 26 [none, none, none] [] M (l0_hasLevel_26   M) := by
  unfold l0_hasLevel_26
  refine sn_iconst (j := j0_hasLevel) (pc := 26) 0 rfl dX0_hasLevel_26 ?_
  exact Snd.wk (sl0_hasLevel_27 0 M) (by simp [mm_le])
def f0_hasLevel (d0 : Nat) (x1 : Int32) (x2 : Int32) (M : mm_M) : Option (Int32 × mm_M) :=
  if isD d0 = true then (cI (f0_hasBus d0 x1 M) (fun r_1 M => if r_1 = 0 then (l0_hasLevel_26 M) else (if x2 < 0 then (l0_hasLevel_26 M) else (cI (f0_fact d0 x1 1 M) (fun r_2 M => if r_2 < x2 then (l0_hasLevel_26 M) else (l0_hasLevel_27 1 M)))))) else none
set_option maxHeartbeats 2000000 in
theorem s0_hasLevel (d0 : Nat) (x1 : Int32) (x2 : Int32) (M : mm_M) : Snd injI j0_hasLevel mm_X0 0 [some (.ref d0), some (.int x1), some (.int x2)] [] M (f0_hasLevel d0 x1 x2 M) := by
  refine Snd.wk (lo' := [some (.ref d0), some (.int x1), some (.int x2)]) ?_ (by simp [mm_le])
  unfold f0_hasLevel
  refine Snd.ite fun hd0 => ?_
  refine sn_aload_n (j := j0_hasLevel) (pc := 0) rfl rfl dX0_hasLevel_0 ?_
  refine sn_iload_n (j := j0_hasLevel) (pc := 1) rfl rfl dX0_hasLevel_1 ?_
  refine sn_callV (j := j0_hasLevel) (pc := 2) (jc := j0_hasBus) (As := [.int x1]) (s0_hasBus d0 x1 M) mm_hvI (by simp [Value.category]) (Nat.le_of_ble_eq_true rfl) q0_hasBus rfl (by decide) rfl (isD_obj hd0) (isD_pos hd0) w_ml_X0_58 w_im_X0_hasBus w_se_X0_hasBus rfl (Nat.le_of_ble_eq_true rfl) dX0_hasLevel_2 ?_
  rintro ⟨r_1, M⟩
  show Snd injI j0_hasLevel mm_X0 5 [some (.ref d0), some (.int x1), some (.int x2)] [.int r_1] M _
  refine sn_if_eq (j := j0_hasLevel) (pc := 5) 26 rfl dX0_hasLevel_5 ?_ ?_
  · exact Snd.wk (sl0_hasLevel_26 M) (by simp [mm_le])
  · refine sn_iload_n (j := j0_hasLevel) (pc := 8) rfl rfl dX0_hasLevel_8 ?_
    refine sn_if_lt (j := j0_hasLevel) (pc := 9) 26 rfl dX0_hasLevel_9 ?_ ?_
    · exact Snd.wk (sl0_hasLevel_26 M) (by simp [mm_le])
    · refine sn_iload_n (j := j0_hasLevel) (pc := 12) rfl rfl dX0_hasLevel_12 ?_
      refine sn_aload_n (j := j0_hasLevel) (pc := 13) rfl rfl dX0_hasLevel_13 ?_
      refine sn_iload_n (j := j0_hasLevel) (pc := 14) rfl rfl dX0_hasLevel_14 ?_
      refine sn_iconst (j := j0_hasLevel) (pc := 15) 1 rfl dX0_hasLevel_15 ?_
      refine sn_callV (j := j0_hasLevel) (pc := 16) (jc := j0_fact) (As := [.int x1, .int 1]) (s0_fact d0 x1 1 M) mm_hvI (by simp [Value.category]) (Nat.le_of_ble_eq_true rfl) q0_fact rfl (by decide) rfl (isD_obj hd0) (isD_pos hd0) w_ml_X0_62 w_im_X0_fact w_se_X0_fact rfl (Nat.le_of_ble_eq_true rfl) dX0_hasLevel_16 ?_
      rintro ⟨r_2, M⟩
      show Snd injI j0_hasLevel mm_X0 19 [some (.ref d0), some (.int x1), some (.int x2)] [.int r_2, .int x2] M _
      refine sn_icmp_gt (j := j0_hasLevel) (pc := 19) 26 rfl dX0_hasLevel_19 ?_ ?_
      · exact Snd.wk (sl0_hasLevel_26 M) (by simp [mm_le])
      · refine sn_iconst (j := j0_hasLevel) (pc := 22) 1 rfl dX0_hasLevel_22 ?_
        refine sn_goto (j := j0_hasLevel) (pc := 23) 27 rfl dX0_hasLevel_23 ?_
        exact Snd.wk (sl0_hasLevel_27 1 M) (by simp [mm_le])

abbrev j0_isThere : mm_J := (yX0_isThere, cX0_isThere, 3, (some .boolean), 1)
theorem dX0_isThere_0 : decode cX0_isThere 0 = .ok (.iload_n 2, 1) := by decide +kernel
theorem dX0_isThere_1 : decode cX0_isThere 1 = .ok (.aload_n 0, 1) := by decide +kernel
theorem dX0_isThere_2 : decode cX0_isThere 2 = .ok (.iload_n 1, 1) := by decide +kernel
theorem dX0_isThere_3 : decode cX0_isThere 3 = .ok (.iconst 4, 1) := by decide +kernel
theorem dX0_isThere_4 : decode cX0_isThere 4 = .ok (.invokevirtual 62, 3) := by decide +kernel
theorem dX0_isThere_7 : decode cX0_isThere 7 = .ok (.if_icmp .lt 17, 3) := by decide +kernel
theorem dX0_isThere_10 : decode cX0_isThere 10 = .ok (.iload_n 2, 1) := by decide +kernel
theorem dX0_isThere_11 : decode cX0_isThere 11 = .ok (.aload_n 0, 1) := by decide +kernel
theorem dX0_isThere_12 : decode cX0_isThere 12 = .ok (.iload_n 1, 1) := by decide +kernel
theorem dX0_isThere_13 : decode cX0_isThere 13 = .ok (.iconst 5, 1) := by decide +kernel
theorem dX0_isThere_14 : decode cX0_isThere 14 = .ok (.invokevirtual 62, 3) := by decide +kernel
theorem dX0_isThere_17 : decode cX0_isThere 17 = .ok (.if_icmp .ge 7, 3) := by decide +kernel
theorem dX0_isThere_20 : decode cX0_isThere 20 = .ok (.iconst 1, 1) := by decide +kernel
theorem dX0_isThere_21 : decode cX0_isThere 21 = .ok (.goto 4, 3) := by decide +kernel
theorem dX0_isThere_24 : decode cX0_isThere 24 = .ok (.iconst 0, 1) := by decide +kernel
theorem dX0_isThere_25 : decode cX0_isThere 25 = .ok (.ireturn, 1) := by decide +kernel
def l0_isThere_25  (s0 : Int32) (M : mm_M) : Option (Int32 × mm_M) :=
  rZ s0 M
set_option maxHeartbeats 2000000 in
theorem sl0_isThere_25   (s0 : Int32)  (M : mm_M) : Snd injI j0_isThere mm_X0 25 [none, none, none] [.int s0] M (l0_isThere_25  s0 M) := by
  unfold l0_isThere_25
  exact sn_zret (j := j0_isThere) (pc := 25) rfl dX0_isThere_25
def l0_isThere_24   (M : mm_M) : Option (Int32 × mm_M) :=
  l0_isThere_25 0 M
set_option maxHeartbeats 2000000 in
theorem sl0_isThere_24     (M : mm_M) : Snd injI j0_isThere mm_X0 24 [none, none, none] [] M (l0_isThere_24   M) := by
  unfold l0_isThere_24
  refine sn_iconst (j := j0_isThere) (pc := 24) 0 rfl dX0_isThere_24 ?_
  exact Snd.wk (sl0_isThere_25 0 M) (by simp [mm_le])
def f0_isThere (d0 : Nat) (x1 : Int32) (x2 : Int32) (M : mm_M) : Option (Int32 × mm_M) :=
  if isD d0 = true then (cI (f0_fact d0 x1 4 M) (fun r_1 M => if x2 < r_1 then (l0_isThere_24 M) else (cI (f0_fact d0 x1 5 M) (fun r_2 M => if r_2 ≤ x2 then (l0_isThere_24 M) else (l0_isThere_25 1 M))))) else none
set_option maxHeartbeats 2000000 in
theorem s0_isThere (d0 : Nat) (x1 : Int32) (x2 : Int32) (M : mm_M) : Snd injI j0_isThere mm_X0 0 [some (.ref d0), some (.int x1), some (.int x2)] [] M (f0_isThere d0 x1 x2 M) := by
  refine Snd.wk (lo' := [some (.ref d0), some (.int x1), some (.int x2)]) ?_ (by simp [mm_le])
  unfold f0_isThere
  refine Snd.ite fun hd0 => ?_
  refine sn_iload_n (j := j0_isThere) (pc := 0) rfl rfl dX0_isThere_0 ?_
  refine sn_aload_n (j := j0_isThere) (pc := 1) rfl rfl dX0_isThere_1 ?_
  refine sn_iload_n (j := j0_isThere) (pc := 2) rfl rfl dX0_isThere_2 ?_
  refine sn_iconst (j := j0_isThere) (pc := 3) 4 rfl dX0_isThere_3 ?_
  refine sn_callV (j := j0_isThere) (pc := 4) (jc := j0_fact) (As := [.int x1, .int 4]) (s0_fact d0 x1 4 M) mm_hvI (by simp [Value.category]) (Nat.le_of_ble_eq_true rfl) q0_fact rfl (by decide) rfl (isD_obj hd0) (isD_pos hd0) w_ml_X0_62 w_im_X0_fact w_se_X0_fact rfl (Nat.le_of_ble_eq_true rfl) dX0_isThere_4 ?_
  rintro ⟨r_1, M⟩
  show Snd injI j0_isThere mm_X0 7 [some (.ref d0), some (.int x1), some (.int x2)] [.int r_1, .int x2] M _
  refine sn_icmp_lt (j := j0_isThere) (pc := 7) 24 rfl dX0_isThere_7 ?_ ?_
  · exact Snd.wk (sl0_isThere_24 M) (by simp [mm_le])
  · refine sn_iload_n (j := j0_isThere) (pc := 10) rfl rfl dX0_isThere_10 ?_
    refine sn_aload_n (j := j0_isThere) (pc := 11) rfl rfl dX0_isThere_11 ?_
    refine sn_iload_n (j := j0_isThere) (pc := 12) rfl rfl dX0_isThere_12 ?_
    refine sn_iconst (j := j0_isThere) (pc := 13) 5 rfl dX0_isThere_13 ?_
    refine sn_callV (j := j0_isThere) (pc := 14) (jc := j0_fact) (As := [.int x1, .int 5]) (s0_fact d0 x1 5 M) mm_hvI (by simp [Value.category]) (Nat.le_of_ble_eq_true rfl) q0_fact rfl (by decide) rfl (isD_obj hd0) (isD_pos hd0) w_ml_X0_62 w_im_X0_fact w_se_X0_fact rfl (Nat.le_of_ble_eq_true rfl) dX0_isThere_14 ?_
    rintro ⟨r_2, M⟩
    show Snd injI j0_isThere mm_X0 17 [some (.ref d0), some (.int x1), some (.int x2)] [.int r_2, .int x2] M _
    refine sn_icmp_ge (j := j0_isThere) (pc := 17) 24 rfl dX0_isThere_17 ?_ ?_
    · exact Snd.wk (sl0_isThere_24 M) (by simp [mm_le])
    · refine sn_iconst (j := j0_isThere) (pc := 20) 1 rfl dX0_isThere_20 ?_
      refine sn_goto (j := j0_isThere) (pc := 21) 25 rfl dX0_isThere_21 ?_
      exact Snd.wk (sl0_isThere_25 1 M) (by simp [mm_le])

abbrev j0_settingCanBe : mm_J := (yX0_settingCanBe, cX0_settingCanBe, 2, (some .boolean), 0)
theorem dX0_settingCanBe_0 : decode cX0_settingCanBe 0 = .ok (.iload_n 0, 1) := by decide +kernel
theorem dX0_settingCanBe_1 : decode cX0_settingCanBe 1 = .ok (.ifCond .lt 26, 3) := by decide +kernel
theorem dX0_settingCanBe_4 : decode cX0_settingCanBe 4 = .ok (.iload_n 0, 1) := by decide +kernel
theorem dX0_settingCanBe_5 : decode cX0_settingCanBe 5 = .ok (.iconst 3, 1) := by decide +kernel
theorem dX0_settingCanBe_6 : decode cX0_settingCanBe 6 = .ok (.if_icmp .ge 21, 3) := by decide +kernel
theorem dX0_settingCanBe_9 : decode cX0_settingCanBe 9 = .ok (.iload_n 1, 1) := by decide +kernel
theorem dX0_settingCanBe_10 : decode cX0_settingCanBe 10 = .ok (.iconst 1, 1) := by decide +kernel
theorem dX0_settingCanBe_11 : decode cX0_settingCanBe 11 = .ok (.if_icmp .lt 16, 3) := by decide +kernel
theorem dX0_settingCanBe_14 : decode cX0_settingCanBe 14 = .ok (.iload_n 1, 1) := by decide +kernel
theorem dX0_settingCanBe_15 : decode cX0_settingCanBe 15 = .ok (.getstatic 66, 3) := by decide +kernel
theorem dX0_settingCanBe_18 : decode cX0_settingCanBe 18 = .ok (.iload_n 0, 1) := by decide +kernel
theorem dX0_settingCanBe_19 : decode cX0_settingCanBe 19 = .ok (.iaload, 1) := by decide +kernel
theorem dX0_settingCanBe_20 : decode cX0_settingCanBe 20 = .ok (.if_icmp .gt 7, 3) := by decide +kernel
theorem dX0_settingCanBe_23 : decode cX0_settingCanBe 23 = .ok (.iconst 1, 1) := by decide +kernel
theorem dX0_settingCanBe_24 : decode cX0_settingCanBe 24 = .ok (.goto 4, 3) := by decide +kernel
theorem dX0_settingCanBe_27 : decode cX0_settingCanBe 27 = .ok (.iconst 0, 1) := by decide +kernel
theorem dX0_settingCanBe_28 : decode cX0_settingCanBe 28 = .ok (.ireturn, 1) := by decide +kernel
def l0_settingCanBe_28  (s0 : Int32) (M : mm_M) : Option (Int32 × mm_M) :=
  rZ s0 M
set_option maxHeartbeats 2000000 in
theorem sl0_settingCanBe_28   (s0 : Int32)  (M : mm_M) : Snd injI j0_settingCanBe mm_X0 28 [none, none] [.int s0] M (l0_settingCanBe_28  s0 M) := by
  unfold l0_settingCanBe_28
  exact sn_zret (j := j0_settingCanBe) (pc := 28) rfl dX0_settingCanBe_28
def l0_settingCanBe_27   (M : mm_M) : Option (Int32 × mm_M) :=
  l0_settingCanBe_28 0 M
set_option maxHeartbeats 2000000 in
theorem sl0_settingCanBe_27     (M : mm_M) : Snd injI j0_settingCanBe mm_X0 27 [none, none] [] M (l0_settingCanBe_27   M) := by
  unfold l0_settingCanBe_27
  refine sn_iconst (j := j0_settingCanBe) (pc := 27) 0 rfl dX0_settingCanBe_27 ?_
  exact Snd.wk (sl0_settingCanBe_28 0 M) (by simp [mm_le])
def f0_settingCanBe (x0 : Int32) (x1 : Int32) (M : mm_M) : Option (Int32 × mm_M) :=
  if x0 < 0 then (l0_settingCanBe_27 M) else (if 3 ≤ x0 then (l0_settingCanBe_27 M) else (if x1 < 1 then (l0_settingCanBe_27 M) else (aT 0 3 x0 (fun w_1 => if w_1 < x1 then (l0_settingCanBe_27 M) else (l0_settingCanBe_28 1 M)))))
set_option maxHeartbeats 2000000 in
theorem s0_settingCanBe (x0 : Int32) (x1 : Int32) (M : mm_M) : Snd injI j0_settingCanBe mm_X0 0 [some (.int x0), some (.int x1)] [] M (f0_settingCanBe x0 x1 M) := by
  refine Snd.wk (lo' := [some (.int x0), some (.int x1)]) ?_ (by simp [mm_le])
  unfold f0_settingCanBe
  refine sn_iload_n (j := j0_settingCanBe) (pc := 0) rfl rfl dX0_settingCanBe_0 ?_
  refine sn_if_lt (j := j0_settingCanBe) (pc := 1) 27 rfl dX0_settingCanBe_1 ?_ ?_
  · exact Snd.wk (sl0_settingCanBe_27 M) (by simp [mm_le])
  · refine sn_iload_n (j := j0_settingCanBe) (pc := 4) rfl rfl dX0_settingCanBe_4 ?_
    refine sn_iconst (j := j0_settingCanBe) (pc := 5) 3 rfl dX0_settingCanBe_5 ?_
    refine sn_icmp_ge (j := j0_settingCanBe) (pc := 6) 27 rfl dX0_settingCanBe_6 ?_ ?_
    · exact Snd.wk (sl0_settingCanBe_27 M) (by simp [mm_le])
    · refine sn_iload_n (j := j0_settingCanBe) (pc := 9) rfl rfl dX0_settingCanBe_9 ?_
      refine sn_iconst (j := j0_settingCanBe) (pc := 10) 1 rfl dX0_settingCanBe_10 ?_
      refine sn_icmp_lt (j := j0_settingCanBe) (pc := 11) 27 rfl dX0_settingCanBe_11 ?_ ?_
      · exact Snd.wk (sl0_settingCanBe_27 M) (by simp [mm_le])
      · refine sn_iload_n (j := j0_settingCanBe) (pc := 14) rfl rfl dX0_settingCanBe_14 ?_
        refine sn_gstN (j := j0_settingCanBe) (pc := 15) (t := 0) mm_Z0 mm_rn_X0_66 dX0_settingCanBe_15 ?_
        refine sn_iload_n (j := j0_settingCanBe) (pc := 18) rfl rfl dX0_settingCanBe_18 ?_
        refine sn_tald (j := j0_settingCanBe) (pc := 19) (t := 0) mm_T0 dX0_settingCanBe_19 (fun w_1 => ?_)
        refine sn_icmp_gt (j := j0_settingCanBe) (pc := 20) 27 rfl dX0_settingCanBe_20 ?_ ?_
        · exact Snd.wk (sl0_settingCanBe_27 M) (by simp [mm_le])
        · refine sn_iconst (j := j0_settingCanBe) (pc := 23) 1 rfl dX0_settingCanBe_23 ?_
          refine sn_goto (j := j0_settingCanBe) (pc := 24) 28 rfl dX0_settingCanBe_24 ?_
          exact Snd.wk (sl0_settingCanBe_28 1 M) (by simp [mm_le])

abbrev j0_changeSetting : mm_J := (yX0_changeSetting, cX0_changeSetting, 3, (some .boolean), 1)
theorem dX0_changeSetting_0 : decode cX0_changeSetting 0 = .ok (.iload_n 1, 1) := by decide +kernel
theorem dX0_changeSetting_1 : decode cX0_changeSetting 1 = .ok (.iload_n 2, 1) := by decide +kernel
theorem dX0_changeSetting_2 : decode cX0_changeSetting 2 = .ok (.invokestatic 69, 3) := by decide +kernel
theorem dX0_changeSetting_5 : decode cX0_changeSetting 5 = .ok (.ifCond .eq 13, 3) := by decide +kernel
theorem dX0_changeSetting_8 : decode cX0_changeSetting 8 = .ok (.aload_n 0, 1) := by decide +kernel
theorem dX0_changeSetting_9 : decode cX0_changeSetting 9 = .ok (.getfield 9, 3) := by decide +kernel
theorem dX0_changeSetting_12 : decode cX0_changeSetting 12 = .ok (.iload_n 1, 1) := by decide +kernel
theorem dX0_changeSetting_13 : decode cX0_changeSetting 13 = .ok (.iaload, 1) := by decide +kernel
theorem dX0_changeSetting_14 : decode cX0_changeSetting 14 = .ok (.iload_n 2, 1) := by decide +kernel
theorem dX0_changeSetting_15 : decode cX0_changeSetting 15 = .ok (.if_icmp .ne 5, 3) := by decide +kernel
theorem dX0_changeSetting_18 : decode cX0_changeSetting 18 = .ok (.iconst 0, 1) := by decide +kernel
theorem dX0_changeSetting_19 : decode cX0_changeSetting 19 = .ok (.ireturn, 1) := by decide +kernel
theorem dX0_changeSetting_20 : decode cX0_changeSetting 20 = .ok (.aload_n 0, 1) := by decide +kernel
theorem dX0_changeSetting_21 : decode cX0_changeSetting 21 = .ok (.getfield 9, 3) := by decide +kernel
theorem dX0_changeSetting_24 : decode cX0_changeSetting 24 = .ok (.iload_n 1, 1) := by decide +kernel
theorem dX0_changeSetting_25 : decode cX0_changeSetting 25 = .ok (.iload_n 2, 1) := by decide +kernel
theorem dX0_changeSetting_26 : decode cX0_changeSetting 26 = .ok (.iastore, 1) := by decide +kernel
theorem dX0_changeSetting_27 : decode cX0_changeSetting 27 = .ok (.iconst 1, 1) := by decide +kernel
theorem dX0_changeSetting_28 : decode cX0_changeSetting 28 = .ok (.ireturn, 1) := by decide +kernel
def l0_changeSetting_18   (M : mm_M) : Option (Int32 × mm_M) :=
  rZ 0 M
set_option maxHeartbeats 2000000 in
theorem sl0_changeSetting_18     (M : mm_M) : Snd injI j0_changeSetting mm_X0 18 [none, none, none] [] M (l0_changeSetting_18   M) := by
  unfold l0_changeSetting_18
  refine sn_iconst (j := j0_changeSetting) (pc := 18) 0 rfl dX0_changeSetting_18 ?_
  exact sn_zret (j := j0_changeSetting) (pc := 19) rfl dX0_changeSetting_19
def f0_changeSetting (d0 : Nat) (x1 : Int32) (x2 : Int32) (M : mm_M) : Option (Int32 × mm_M) :=
  if isD d0 = true then (cI (f0_settingCanBe x1 x2 M) (fun r_1 M => if r_1 = 0 then (l0_changeSetting_18 M) else (aI (d0 + 1) 3 x1 M (fun w_2 => if w_2 = x2 then (l0_changeSetting_18 M) else (uI (d0 + 1) 3 x1 x2 M (fun M => rZ 1 M)))))) else none
set_option maxHeartbeats 2000000 in
theorem s0_changeSetting (d0 : Nat) (x1 : Int32) (x2 : Int32) (M : mm_M) : Snd injI j0_changeSetting mm_X0 0 [some (.ref d0), some (.int x1), some (.int x2)] [] M (f0_changeSetting d0 x1 x2 M) := by
  refine Snd.wk (lo' := [some (.ref d0), some (.int x1), some (.int x2)]) ?_ (by simp [mm_le])
  unfold f0_changeSetting
  refine Snd.ite fun hd0 => ?_
  refine sn_iload_n (j := j0_changeSetting) (pc := 0) rfl rfl dX0_changeSetting_0 ?_
  refine sn_iload_n (j := j0_changeSetting) (pc := 1) rfl rfl dX0_changeSetting_1 ?_
  refine sn_callS (j := j0_changeSetting) (pc := 2) (jc := j0_settingCanBe) (As := [.int x1, .int x2]) (s0_settingCanBe x1 x2 M) mm_hvI (by simp [Value.category]) (Nat.le_of_ble_eq_true rfl) q0_settingCanBe rfl (by decide) w_ml_X0_69 w_st_X0_settingCanBe rfl (Nat.le_of_ble_eq_true rfl) dX0_changeSetting_2 ?_
  rintro ⟨r_1, M⟩
  show Snd injI j0_changeSetting mm_X0 5 [some (.ref d0), some (.int x1), some (.int x2)] [.int r_1] M _
  refine sn_if_eq (j := j0_changeSetting) (pc := 5) 18 rfl dX0_changeSetting_5 ?_ ?_
  · exact Snd.wk (sl0_changeSetting_18 M) (by simp [mm_le])
  · refine sn_aload_n (j := j0_changeSetting) (pc := 8) rfl rfl dX0_changeSetting_8 ?_
    refine g_X0_9 (j := j0_changeSetting) (pc := 9) hd0 rfl dX0_changeSetting_9 ?_
    refine sn_iload_n (j := j0_changeSetting) (pc := 12) rfl rfl dX0_changeSetting_12 ?_
    refine sn_iald (j := j0_changeSetting) (pc := 13) (isD_a1 hd0) (isD_p1 hd0) dX0_changeSetting_13 (fun w_2 => ?_)
    refine sn_iload_n (j := j0_changeSetting) (pc := 14) rfl rfl dX0_changeSetting_14 ?_
    refine sn_icmp_ne (j := j0_changeSetting) (pc := 15) 20 rfl dX0_changeSetting_15 ?_ ?_
    · refine sn_aload_n (j := j0_changeSetting) (pc := 20) rfl rfl dX0_changeSetting_20 ?_
      refine g_X0_9 (j := j0_changeSetting) (pc := 21) hd0 rfl dX0_changeSetting_21 ?_
      refine sn_iload_n (j := j0_changeSetting) (pc := 24) rfl rfl dX0_changeSetting_24 ?_
      refine sn_iload_n (j := j0_changeSetting) (pc := 25) rfl rfl dX0_changeSetting_25 ?_
      refine sn_iast (j := j0_changeSetting) (pc := 26) (isD_a1 hd0) (isD_p1 hd0) dX0_changeSetting_26 (fun M => ?_)
      refine sn_iconst (j := j0_changeSetting) (pc := 27) 1 rfl dX0_changeSetting_27 ?_
      exact sn_zret (j := j0_changeSetting) (pc := 28) rfl dX0_changeSetting_28
    · exact Snd.wk (sl0_changeSetting_18 M) (by simp [mm_le])

abbrev j0_changePrice : mm_J := (yX0_changePrice, cX0_changePrice, 3, (some .boolean), 1)
theorem dX0_changePrice_0 : decode cX0_changePrice 0 = .ok (.aload_n 0, 1) := by decide +kernel
theorem dX0_changePrice_1 : decode cX0_changePrice 1 = .ok (.iload_n 1, 1) := by decide +kernel
theorem dX0_changePrice_2 : decode cX0_changePrice 2 = .ok (.invokevirtual 73, 3) := by decide +kernel
theorem dX0_changePrice_5 : decode cX0_changePrice 5 = .ok (.ifCond .eq 23, 3) := by decide +kernel
theorem dX0_changePrice_8 : decode cX0_changePrice 8 = .ok (.iload_n 2, 1) := by decide +kernel
theorem dX0_changePrice_9 : decode cX0_changePrice 9 = .ok (.ifCond .lt 19, 3) := by decide +kernel
theorem dX0_changePrice_12 : decode cX0_changePrice 12 = .ok (.iload_n 2, 1) := by decide +kernel
theorem dX0_changePrice_13 : decode cX0_changePrice 13 = .ok (.bipush 99, 2) := by decide +kernel
theorem dX0_changePrice_15 : decode cX0_changePrice 15 = .ok (.if_icmp .gt 13, 3) := by decide +kernel
theorem dX0_changePrice_18 : decode cX0_changePrice 18 = .ok (.aload_n 0, 1) := by decide +kernel
theorem dX0_changePrice_19 : decode cX0_changePrice 19 = .ok (.getfield 15, 3) := by decide +kernel
theorem dX0_changePrice_22 : decode cX0_changePrice 22 = .ok (.iload_n 1, 1) := by decide +kernel
theorem dX0_changePrice_23 : decode cX0_changePrice 23 = .ok (.iaload, 1) := by decide +kernel
theorem dX0_changePrice_24 : decode cX0_changePrice 24 = .ok (.iload_n 2, 1) := by decide +kernel
theorem dX0_changePrice_25 : decode cX0_changePrice 25 = .ok (.if_icmp .ne 5, 3) := by decide +kernel
theorem dX0_changePrice_28 : decode cX0_changePrice 28 = .ok (.iconst 0, 1) := by decide +kernel
theorem dX0_changePrice_29 : decode cX0_changePrice 29 = .ok (.ireturn, 1) := by decide +kernel
theorem dX0_changePrice_30 : decode cX0_changePrice 30 = .ok (.aload_n 0, 1) := by decide +kernel
theorem dX0_changePrice_31 : decode cX0_changePrice 31 = .ok (.getfield 15, 3) := by decide +kernel
theorem dX0_changePrice_34 : decode cX0_changePrice 34 = .ok (.iload_n 1, 1) := by decide +kernel
theorem dX0_changePrice_35 : decode cX0_changePrice 35 = .ok (.iload_n 2, 1) := by decide +kernel
theorem dX0_changePrice_36 : decode cX0_changePrice 36 = .ok (.iastore, 1) := by decide +kernel
theorem dX0_changePrice_37 : decode cX0_changePrice 37 = .ok (.iconst 1, 1) := by decide +kernel
theorem dX0_changePrice_38 : decode cX0_changePrice 38 = .ok (.ireturn, 1) := by decide +kernel
def l0_changePrice_28   (M : mm_M) : Option (Int32 × mm_M) :=
  rZ 0 M
set_option maxHeartbeats 2000000 in
theorem sl0_changePrice_28     (M : mm_M) : Snd injI j0_changePrice mm_X0 28 [none, none, none] [] M (l0_changePrice_28   M) := by
  unfold l0_changePrice_28
  refine sn_iconst (j := j0_changePrice) (pc := 28) 0 rfl dX0_changePrice_28 ?_
  exact sn_zret (j := j0_changePrice) (pc := 29) rfl dX0_changePrice_29
def f0_changePrice (d0 : Nat) (x1 : Int32) (x2 : Int32) (M : mm_M) : Option (Int32 × mm_M) :=
  if isD d0 = true then (cI (f0_hasSlot d0 x1 M) (fun r_1 M => if r_1 = 0 then (l0_changePrice_28 M) else (if x2 < 0 then (l0_changePrice_28 M) else (if 99 < x2 then (l0_changePrice_28 M) else (aI (d0 + 2) 8 x1 M (fun w_2 => if w_2 = x2 then (l0_changePrice_28 M) else (uI (d0 + 2) 8 x1 x2 M (fun M => rZ 1 M)))))))) else none
set_option maxHeartbeats 2000000 in
theorem s0_changePrice (d0 : Nat) (x1 : Int32) (x2 : Int32) (M : mm_M) : Snd injI j0_changePrice mm_X0 0 [some (.ref d0), some (.int x1), some (.int x2)] [] M (f0_changePrice d0 x1 x2 M) := by
  refine Snd.wk (lo' := [some (.ref d0), some (.int x1), some (.int x2)]) ?_ (by simp [mm_le])
  unfold f0_changePrice
  refine Snd.ite fun hd0 => ?_
  refine sn_aload_n (j := j0_changePrice) (pc := 0) rfl rfl dX0_changePrice_0 ?_
  refine sn_iload_n (j := j0_changePrice) (pc := 1) rfl rfl dX0_changePrice_1 ?_
  refine sn_callV (j := j0_changePrice) (pc := 2) (jc := j0_hasSlot) (As := [.int x1]) (s0_hasSlot d0 x1 M) mm_hvI (by simp [Value.category]) (Nat.le_of_ble_eq_true rfl) q0_hasSlot rfl (by decide) rfl (isD_obj hd0) (isD_pos hd0) w_ml_X0_73 w_im_X0_hasSlot w_se_X0_hasSlot rfl (Nat.le_of_ble_eq_true rfl) dX0_changePrice_2 ?_
  rintro ⟨r_1, M⟩
  show Snd injI j0_changePrice mm_X0 5 [some (.ref d0), some (.int x1), some (.int x2)] [.int r_1] M _
  refine sn_if_eq (j := j0_changePrice) (pc := 5) 28 rfl dX0_changePrice_5 ?_ ?_
  · exact Snd.wk (sl0_changePrice_28 M) (by simp [mm_le])
  · refine sn_iload_n (j := j0_changePrice) (pc := 8) rfl rfl dX0_changePrice_8 ?_
    refine sn_if_lt (j := j0_changePrice) (pc := 9) 28 rfl dX0_changePrice_9 ?_ ?_
    · exact Snd.wk (sl0_changePrice_28 M) (by simp [mm_le])
    · refine sn_iload_n (j := j0_changePrice) (pc := 12) rfl rfl dX0_changePrice_12 ?_
      refine sn_bipush (j := j0_changePrice) (pc := 13) 99 rfl dX0_changePrice_13 ?_
      refine sn_icmp_gt (j := j0_changePrice) (pc := 15) 28 rfl dX0_changePrice_15 ?_ ?_
      · exact Snd.wk (sl0_changePrice_28 M) (by simp [mm_le])
      · refine sn_aload_n (j := j0_changePrice) (pc := 18) rfl rfl dX0_changePrice_18 ?_
        refine g_X0_15 (j := j0_changePrice) (pc := 19) hd0 rfl dX0_changePrice_19 ?_
        refine sn_iload_n (j := j0_changePrice) (pc := 22) rfl rfl dX0_changePrice_22 ?_
        refine sn_iald (j := j0_changePrice) (pc := 23) (isD_a2 hd0) (isD_p2 hd0) dX0_changePrice_23 (fun w_2 => ?_)
        refine sn_iload_n (j := j0_changePrice) (pc := 24) rfl rfl dX0_changePrice_24 ?_
        refine sn_icmp_ne (j := j0_changePrice) (pc := 25) 30 rfl dX0_changePrice_25 ?_ ?_
        · refine sn_aload_n (j := j0_changePrice) (pc := 30) rfl rfl dX0_changePrice_30 ?_
          refine g_X0_15 (j := j0_changePrice) (pc := 31) hd0 rfl dX0_changePrice_31 ?_
          refine sn_iload_n (j := j0_changePrice) (pc := 34) rfl rfl dX0_changePrice_34 ?_
          refine sn_iload_n (j := j0_changePrice) (pc := 35) rfl rfl dX0_changePrice_35 ?_
          refine sn_iast (j := j0_changePrice) (pc := 36) (isD_a2 hd0) (isD_p2 hd0) dX0_changePrice_36 (fun M => ?_)
          refine sn_iconst (j := j0_changePrice) (pc := 37) 1 rfl dX0_changePrice_37 ?_
          exact sn_zret (j := j0_changePrice) (pc := 38) rfl dX0_changePrice_38
        · exact Snd.wk (sl0_changePrice_28 M) (by simp [mm_le])

abbrev j0_leastOffer : mm_J := (yX0_leastOffer, cX0_leastOffer, 2, (some .int), 0)
theorem dX0_leastOffer_0 : decode cX0_leastOffer 0 = .ok (.iload_n 1, 1) := by decide +kernel
theorem dX0_leastOffer_1 : decode cX0_leastOffer 1 = .ok (.lookupswitch 38 #[(1, 27), (5, 29)], 27) := by decide +kernel
theorem dX0_leastOffer_28 : decode cX0_leastOffer 28 = .ok (.iconst 1, 1) := by decide +kernel
theorem dX0_leastOffer_29 : decode cX0_leastOffer 29 = .ok (.ireturn, 1) := by decide +kernel
theorem dX0_leastOffer_30 : decode cX0_leastOffer 30 = .ok (.aload_n 0, 1) := by decide +kernel
theorem dX0_leastOffer_31 : decode cX0_leastOffer 31 = .ok (.getfield 33, 3) := by decide +kernel
theorem dX0_leastOffer_34 : decode cX0_leastOffer 34 = .ok (.iconst 4, 1) := by decide +kernel
theorem dX0_leastOffer_35 : decode cX0_leastOffer 35 = .ok (.iaload, 1) := by decide +kernel
theorem dX0_leastOffer_36 : decode cX0_leastOffer 36 = .ok (.iconst 1, 1) := by decide +kernel
theorem dX0_leastOffer_37 : decode cX0_leastOffer 37 = .ok (.iadd, 1) := by decide +kernel
theorem dX0_leastOffer_38 : decode cX0_leastOffer 38 = .ok (.ireturn, 1) := by decide +kernel
theorem dX0_leastOffer_39 : decode cX0_leastOffer 39 = .ok (.iconst 0, 1) := by decide +kernel
theorem dX0_leastOffer_40 : decode cX0_leastOffer 40 = .ok (.ireturn, 1) := by decide +kernel
def f0_leastOffer (d0 : Nat) (x1 : Int32) (M : mm_M) : Option (Int32 × mm_M) :=
  if isD d0 = true then (if x1 = 1 then (some (1, M)) else (if x1 = 5 then (aI (d0 + 8) 6 4 M (fun w_2 => some (w_2 + 1, M))) else (some (0, M)))) else none
set_option maxHeartbeats 2000000 in
theorem s0_leastOffer (d0 : Nat) (x1 : Int32) (M : mm_M) : Snd injI j0_leastOffer mm_X0 0 [some (.ref d0), some (.int x1)] [] M (f0_leastOffer d0 x1 M) := by
  refine Snd.wk (lo' := [some (.ref d0), some (.int x1)]) ?_ (by simp [mm_le])
  unfold f0_leastOffer
  refine Snd.ite fun hd0 => ?_
  refine sn_iload_n (j := j0_leastOffer) (pc := 0) rfl rfl dX0_leastOffer_0 ?_
  refine Snd.ifc (fun hx_1_1 => ?_) (fun hx_1_1 => ?_)
  · refine sn_lkp (j := j0_leastOffer) (pc := 1) 28 dX0_leastOffer_1 (by decide) (by rw [hx_1_1]) rfl ?_
    refine sn_iconst (j := j0_leastOffer) (pc := 28) 1 rfl dX0_leastOffer_28 ?_
    exact sn_iret (j := j0_leastOffer) (pc := 29) rfl dX0_leastOffer_29
  refine Snd.ifc (fun hx_1_5 => ?_) (fun hx_1_5 => ?_)
  · refine sn_lkp (j := j0_leastOffer) (pc := 1) 30 dX0_leastOffer_1 (by decide) (by rw [hx_1_5]) rfl ?_
    refine sn_aload_n (j := j0_leastOffer) (pc := 30) rfl rfl dX0_leastOffer_30 ?_
    refine g_X0_33 (j := j0_leastOffer) (pc := 31) hd0 rfl dX0_leastOffer_31 ?_
    refine sn_iconst (j := j0_leastOffer) (pc := 34) 4 rfl dX0_leastOffer_34 ?_
    refine sn_iald (j := j0_leastOffer) (pc := 35) (isD_a8 hd0) (isD_p8 hd0) dX0_leastOffer_35 (fun w_2 => ?_)
    refine sn_iconst (j := j0_leastOffer) (pc := 36) 1 rfl dX0_leastOffer_36 ?_
    refine sn_iadd (j := j0_leastOffer) (pc := 37) dX0_leastOffer_37 ?_
    exact sn_iret (j := j0_leastOffer) (pc := 38) rfl dX0_leastOffer_38
  refine sn_lkp (j := j0_leastOffer) (pc := 1) 39 dX0_leastOffer_1 (by decide) ((lv_osw hx_1_1 (show (1 : Int32).toInt = 1 from rfl)).trans ((lv_osw hx_1_5 (show (5 : Int32).toInt = 5 from rfl)).trans rfl)) rfl ?_
  refine sn_iconst (j := j0_leastOffer) (pc := 39) 0 rfl dX0_leastOffer_39 ?_
  exact sn_iret (j := j0_leastOffer) (pc := 40) rfl dX0_leastOffer_40

abbrev j0_mostOffer : mm_J := (yX0_mostOffer, cX0_mostOffer, 2, (some .int), 0)
theorem dX0_mostOffer_0 : decode cX0_mostOffer 0 = .ok (.iload_n 1, 1) := by decide +kernel
theorem dX0_mostOffer_1 : decode cX0_mostOffer 1 = .ok (.tableswitch 69 0 5 #[39, 46, 50, 50, 57, 64], 39) := by decide +kernel
theorem dX0_mostOffer_40 : decode cX0_mostOffer 40 = .ok (.aload_n 0, 1) := by decide +kernel
theorem dX0_mostOffer_41 : decode cX0_mostOffer 41 = .ok (.getfield 40, 3) := by decide +kernel
theorem dX0_mostOffer_44 : decode cX0_mostOffer 44 = .ok (.iconst 1, 1) := by decide +kernel
theorem dX0_mostOffer_45 : decode cX0_mostOffer 45 = .ok (.isub, 1) := by decide +kernel
theorem dX0_mostOffer_46 : decode cX0_mostOffer 46 = .ok (.ireturn, 1) := by decide +kernel
theorem dX0_mostOffer_47 : decode cX0_mostOffer 47 = .ok (.sipush 200, 3) := by decide +kernel
theorem dX0_mostOffer_50 : decode cX0_mostOffer 50 = .ok (.ireturn, 1) := by decide +kernel
theorem dX0_mostOffer_51 : decode cX0_mostOffer 51 = .ok (.aload_n 0, 1) := by decide +kernel
theorem dX0_mostOffer_52 : decode cX0_mostOffer 52 = .ok (.getfield 33, 3) := by decide +kernel
theorem dX0_mostOffer_55 : decode cX0_mostOffer 55 = .ok (.iconst 1, 1) := by decide +kernel
theorem dX0_mostOffer_56 : decode cX0_mostOffer 56 = .ok (.iaload, 1) := by decide +kernel
theorem dX0_mostOffer_57 : decode cX0_mostOffer 57 = .ok (.ireturn, 1) := by decide +kernel
theorem dX0_mostOffer_58 : decode cX0_mostOffer 58 = .ok (.aload_n 0, 1) := by decide +kernel
theorem dX0_mostOffer_59 : decode cX0_mostOffer 59 = .ok (.getfield 36, 3) := by decide +kernel
theorem dX0_mostOffer_62 : decode cX0_mostOffer 62 = .ok (.iconst 1, 1) := by decide +kernel
theorem dX0_mostOffer_63 : decode cX0_mostOffer 63 = .ok (.isub, 1) := by decide +kernel
theorem dX0_mostOffer_64 : decode cX0_mostOffer 64 = .ok (.ireturn, 1) := by decide +kernel
theorem dX0_mostOffer_65 : decode cX0_mostOffer 65 = .ok (.aload_n 0, 1) := by decide +kernel
theorem dX0_mostOffer_66 : decode cX0_mostOffer 66 = .ok (.getfield 36, 3) := by decide +kernel
theorem dX0_mostOffer_69 : decode cX0_mostOffer 69 = .ok (.ireturn, 1) := by decide +kernel
theorem dX0_mostOffer_70 : decode cX0_mostOffer 70 = .ok (.iconst (-1), 1) := by decide +kernel
theorem dX0_mostOffer_71 : decode cX0_mostOffer 71 = .ok (.ireturn, 1) := by decide +kernel
def f0_mostOffer (d0 : Nat) (x1 : Int32) (M : mm_M) : Option (Int32 × mm_M) :=
  if isD d0 = true then (if x1 = 0 then (bI (mI M d0 1) (fun v_2 => some (v_2 - 1, M))) else (if x1 = 1 then (some (200, M)) else (if x1 = 2 then (aI (d0 + 8) 6 1 M (fun w_3 => some (w_3, M))) else (if x1 = 3 then (aI (d0 + 8) 6 1 M (fun w_4 => some (w_4, M))) else (if x1 = 4 then (bI (mI M d0 0) (fun v_5 => some (v_5 - 1, M))) else (if x1 = 5 then (bI (mI M d0 0) (fun v_6 => some (v_6, M))) else (some ((-1), M)))))))) else none
set_option maxHeartbeats 2000000 in
theorem s0_mostOffer (d0 : Nat) (x1 : Int32) (M : mm_M) : Snd injI j0_mostOffer mm_X0 0 [some (.ref d0), some (.int x1)] [] M (f0_mostOffer d0 x1 M) := by
  refine Snd.wk (lo' := [some (.ref d0), some (.int x1)]) ?_ (by simp [mm_le])
  unfold f0_mostOffer
  refine Snd.ite fun hd0 => ?_
  refine sn_iload_n (j := j0_mostOffer) (pc := 0) rfl rfl dX0_mostOffer_0 ?_
  refine Snd.ifc (fun hx_1_0 => ?_) (fun hx_1_0 => ?_)
  · refine sn_tbl (j := j0_mostOffer) (pc := 1) 40 hx_1_0 rfl dX0_mostOffer_1 (by decide) (by decide) rfl rfl ?_
    refine sn_aload_n (j := j0_mostOffer) (pc := 40) rfl rfl dX0_mostOffer_40 ?_
    refine g_X0_40 (j := j0_mostOffer) (pc := 41) hd0 rfl dX0_mostOffer_41 ?_
    refine Snd.bI (fun v_2 => ?_)
    refine sn_iconst (j := j0_mostOffer) (pc := 44) 1 rfl dX0_mostOffer_44 ?_
    refine sn_isub (j := j0_mostOffer) (pc := 45) dX0_mostOffer_45 ?_
    exact sn_iret (j := j0_mostOffer) (pc := 46) rfl dX0_mostOffer_46
  refine Snd.ifc (fun hx_1_1 => ?_) (fun hx_1_1 => ?_)
  · refine sn_tbl (j := j0_mostOffer) (pc := 1) 47 hx_1_1 rfl dX0_mostOffer_1 (by decide) (by decide) rfl rfl ?_
    refine sn_sipush (j := j0_mostOffer) (pc := 47) 200 rfl dX0_mostOffer_47 ?_
    exact sn_iret (j := j0_mostOffer) (pc := 50) rfl dX0_mostOffer_50
  refine Snd.ifc (fun hx_1_2 => ?_) (fun hx_1_2 => ?_)
  · refine sn_tbl (j := j0_mostOffer) (pc := 1) 51 hx_1_2 rfl dX0_mostOffer_1 (by decide) (by decide) rfl rfl ?_
    refine sn_aload_n (j := j0_mostOffer) (pc := 51) rfl rfl dX0_mostOffer_51 ?_
    refine g_X0_33 (j := j0_mostOffer) (pc := 52) hd0 rfl dX0_mostOffer_52 ?_
    refine sn_iconst (j := j0_mostOffer) (pc := 55) 1 rfl dX0_mostOffer_55 ?_
    refine sn_iald (j := j0_mostOffer) (pc := 56) (isD_a8 hd0) (isD_p8 hd0) dX0_mostOffer_56 (fun w_3 => ?_)
    exact sn_iret (j := j0_mostOffer) (pc := 57) rfl dX0_mostOffer_57
  refine Snd.ifc (fun hx_1_3 => ?_) (fun hx_1_3 => ?_)
  · refine sn_tbl (j := j0_mostOffer) (pc := 1) 51 hx_1_3 rfl dX0_mostOffer_1 (by decide) (by decide) rfl rfl ?_
    refine sn_aload_n (j := j0_mostOffer) (pc := 51) rfl rfl dX0_mostOffer_51 ?_
    refine g_X0_33 (j := j0_mostOffer) (pc := 52) hd0 rfl dX0_mostOffer_52 ?_
    refine sn_iconst (j := j0_mostOffer) (pc := 55) 1 rfl dX0_mostOffer_55 ?_
    refine sn_iald (j := j0_mostOffer) (pc := 56) (isD_a8 hd0) (isD_p8 hd0) dX0_mostOffer_56 (fun w_4 => ?_)
    exact sn_iret (j := j0_mostOffer) (pc := 57) rfl dX0_mostOffer_57
  refine Snd.ifc (fun hx_1_4 => ?_) (fun hx_1_4 => ?_)
  · refine sn_tbl (j := j0_mostOffer) (pc := 1) 58 hx_1_4 rfl dX0_mostOffer_1 (by decide) (by decide) rfl rfl ?_
    refine sn_aload_n (j := j0_mostOffer) (pc := 58) rfl rfl dX0_mostOffer_58 ?_
    refine g_X0_36 (j := j0_mostOffer) (pc := 59) hd0 rfl dX0_mostOffer_59 ?_
    refine Snd.bI (fun v_5 => ?_)
    refine sn_iconst (j := j0_mostOffer) (pc := 62) 1 rfl dX0_mostOffer_62 ?_
    refine sn_isub (j := j0_mostOffer) (pc := 63) dX0_mostOffer_63 ?_
    exact sn_iret (j := j0_mostOffer) (pc := 64) rfl dX0_mostOffer_64
  refine Snd.ifc (fun hx_1_5 => ?_) (fun hx_1_5 => ?_)
  · refine sn_tbl (j := j0_mostOffer) (pc := 1) 65 hx_1_5 rfl dX0_mostOffer_1 (by decide) (by decide) rfl rfl ?_
    refine sn_aload_n (j := j0_mostOffer) (pc := 65) rfl rfl dX0_mostOffer_65 ?_
    refine g_X0_36 (j := j0_mostOffer) (pc := 66) hd0 rfl dX0_mostOffer_66 ?_
    refine Snd.bI (fun v_6 => ?_)
    exact sn_iret (j := j0_mostOffer) (pc := 69) rfl dX0_mostOffer_69
  refine sn_tblO (j := j0_mostOffer) (pc := 1) 70 dX0_mostOffer_1 (by have := lv_neT hx_1_0 (show (0 : Int32).toInt = 0 from rfl); have := lv_neT hx_1_1 (show (1 : Int32).toInt = 1 from rfl); have := lv_neT hx_1_2 (show (2 : Int32).toInt = 2 from rfl); have := lv_neT hx_1_3 (show (3 : Int32).toInt = 3 from rfl); have := lv_neT hx_1_4 (show (4 : Int32).toInt = 4 from rfl); have := lv_neT hx_1_5 (show (5 : Int32).toInt = 5 from rfl); omega) rfl ?_
  refine sn_iconst (j := j0_mostOffer) (pc := 70) (-1) rfl dX0_mostOffer_70 ?_
  exact sn_iret (j := j0_mostOffer) (pc := 71) rfl dX0_mostOffer_71

abbrev j0_offer : mm_J := (yX0_offer, cX0_offer, 3, (some .boolean), 1)
theorem dX0_offer_0 : decode cX0_offer 0 = .ok (.iload_n 2, 1) := by decide +kernel
theorem dX0_offer_1 : decode cX0_offer 1 = .ok (.aload_n 0, 1) := by decide +kernel
theorem dX0_offer_2 : decode cX0_offer 2 = .ok (.iload_n 1, 1) := by decide +kernel
theorem dX0_offer_3 : decode cX0_offer 3 = .ok (.invokevirtual 76, 3) := by decide +kernel
theorem dX0_offer_6 : decode cX0_offer 6 = .ok (.if_icmp .lt 12, 3) := by decide +kernel
theorem dX0_offer_9 : decode cX0_offer 9 = .ok (.iload_n 2, 1) := by decide +kernel
theorem dX0_offer_10 : decode cX0_offer 10 = .ok (.aload_n 0, 1) := by decide +kernel
theorem dX0_offer_11 : decode cX0_offer 11 = .ok (.iload_n 1, 1) := by decide +kernel
theorem dX0_offer_12 : decode cX0_offer 12 = .ok (.invokevirtual 80, 3) := by decide +kernel
theorem dX0_offer_15 : decode cX0_offer 15 = .ok (.if_icmp .le 5, 3) := by decide +kernel
theorem dX0_offer_18 : decode cX0_offer 18 = .ok (.iconst 0, 1) := by decide +kernel
theorem dX0_offer_19 : decode cX0_offer 19 = .ok (.ireturn, 1) := by decide +kernel
theorem dX0_offer_20 : decode cX0_offer 20 = .ok (.aload_n 0, 1) := by decide +kernel
theorem dX0_offer_21 : decode cX0_offer 21 = .ok (.getfield 33, 3) := by decide +kernel
theorem dX0_offer_24 : decode cX0_offer 24 = .ok (.iload_n 1, 1) := by decide +kernel
theorem dX0_offer_25 : decode cX0_offer 25 = .ok (.iload_n 2, 1) := by decide +kernel
theorem dX0_offer_26 : decode cX0_offer 26 = .ok (.iastore, 1) := by decide +kernel
theorem dX0_offer_27 : decode cX0_offer 27 = .ok (.iconst 1, 1) := by decide +kernel
theorem dX0_offer_28 : decode cX0_offer 28 = .ok (.ireturn, 1) := by decide +kernel
def l0_offer_18   (M : mm_M) : Option (Int32 × mm_M) :=
  rZ 0 M
set_option maxHeartbeats 2000000 in
theorem sl0_offer_18     (M : mm_M) : Snd injI j0_offer mm_X0 18 [none, none, none] [] M (l0_offer_18   M) := by
  unfold l0_offer_18
  refine sn_iconst (j := j0_offer) (pc := 18) 0 rfl dX0_offer_18 ?_
  exact sn_zret (j := j0_offer) (pc := 19) rfl dX0_offer_19
def f0_offer (d0 : Nat) (x1 : Int32) (x2 : Int32) (M : mm_M) : Option (Int32 × mm_M) :=
  if isD d0 = true then (cI (f0_leastOffer d0 x1 M) (fun r_1 M => if x2 < r_1 then (l0_offer_18 M) else (cI (f0_mostOffer d0 x1 M) (fun r_2 M => if x2 ≤ r_2 then (uI (d0 + 8) 6 x1 x2 M (fun M => rZ 1 M)) else (l0_offer_18 M))))) else none
set_option maxHeartbeats 2000000 in
theorem s0_offer (d0 : Nat) (x1 : Int32) (x2 : Int32) (M : mm_M) : Snd injI j0_offer mm_X0 0 [some (.ref d0), some (.int x1), some (.int x2)] [] M (f0_offer d0 x1 x2 M) := by
  refine Snd.wk (lo' := [some (.ref d0), some (.int x1), some (.int x2)]) ?_ (by simp [mm_le])
  unfold f0_offer
  refine Snd.ite fun hd0 => ?_
  refine sn_iload_n (j := j0_offer) (pc := 0) rfl rfl dX0_offer_0 ?_
  refine sn_aload_n (j := j0_offer) (pc := 1) rfl rfl dX0_offer_1 ?_
  refine sn_iload_n (j := j0_offer) (pc := 2) rfl rfl dX0_offer_2 ?_
  refine sn_callV (j := j0_offer) (pc := 3) (jc := j0_leastOffer) (As := [.int x1]) (s0_leastOffer d0 x1 M) mm_hvI (by simp [Value.category]) (Nat.le_of_ble_eq_true rfl) q0_leastOffer rfl (by decide) rfl (isD_obj hd0) (isD_pos hd0) w_ml_X0_76 w_im_X0_leastOffer w_se_X0_leastOffer rfl (Nat.le_of_ble_eq_true rfl) dX0_offer_3 ?_
  rintro ⟨r_1, M⟩
  show Snd injI j0_offer mm_X0 6 [some (.ref d0), some (.int x1), some (.int x2)] [.int r_1, .int x2] M _
  refine sn_icmp_lt (j := j0_offer) (pc := 6) 18 rfl dX0_offer_6 ?_ ?_
  · exact Snd.wk (sl0_offer_18 M) (by simp [mm_le])
  · refine sn_iload_n (j := j0_offer) (pc := 9) rfl rfl dX0_offer_9 ?_
    refine sn_aload_n (j := j0_offer) (pc := 10) rfl rfl dX0_offer_10 ?_
    refine sn_iload_n (j := j0_offer) (pc := 11) rfl rfl dX0_offer_11 ?_
    refine sn_callV (j := j0_offer) (pc := 12) (jc := j0_mostOffer) (As := [.int x1]) (s0_mostOffer d0 x1 M) mm_hvI (by simp [Value.category]) (Nat.le_of_ble_eq_true rfl) q0_mostOffer rfl (by decide) rfl (isD_obj hd0) (isD_pos hd0) w_ml_X0_80 w_im_X0_mostOffer w_se_X0_mostOffer rfl (Nat.le_of_ble_eq_true rfl) dX0_offer_12 ?_
    rintro ⟨r_2, M⟩
    show Snd injI j0_offer mm_X0 15 [some (.ref d0), some (.int x1), some (.int x2)] [.int r_2, .int x2] M _
    refine sn_icmp_le (j := j0_offer) (pc := 15) 20 rfl dX0_offer_15 ?_ ?_
    · refine sn_aload_n (j := j0_offer) (pc := 20) rfl rfl dX0_offer_20 ?_
      refine g_X0_33 (j := j0_offer) (pc := 21) hd0 rfl dX0_offer_21 ?_
      refine sn_iload_n (j := j0_offer) (pc := 24) rfl rfl dX0_offer_24 ?_
      refine sn_iload_n (j := j0_offer) (pc := 25) rfl rfl dX0_offer_25 ?_
      refine sn_iast (j := j0_offer) (pc := 26) (isD_a8 hd0) (isD_p8 hd0) dX0_offer_26 (fun M => ?_)
      refine sn_iconst (j := j0_offer) (pc := 27) 1 rfl dX0_offer_27 ?_
      exact sn_zret (j := j0_offer) (pc := 28) rfl dX0_offer_28
    · exact Snd.wk (sl0_offer_18 M) (by simp [mm_le])

abbrev j0_addOffered : mm_J := (yX0_addOffered, cX0_addOffered, 1, none, 1)
theorem dX0_addOffered_0 : decode cX0_addOffered 0 = .ok (.aload_n 0, 1) := by decide +kernel
theorem dX0_addOffered_1 : decode cX0_addOffered 1 = .ok (.getfield 43, 3) := by decide +kernel
theorem dX0_addOffered_4 : decode cX0_addOffered 4 = .ok (.iconst 4, 1) := by decide +kernel
theorem dX0_addOffered_5 : decode cX0_addOffered 5 = .ok (.if_icmp .ge 34, 3) := by decide +kernel
theorem dX0_addOffered_8 : decode cX0_addOffered 8 = .ok (.aload_n 0, 1) := by decide +kernel
theorem dX0_addOffered_9 : decode cX0_addOffered 9 = .ok (.getfield 33, 3) := by decide +kernel
theorem dX0_addOffered_12 : decode cX0_addOffered 12 = .ok (.iconst 0, 1) := by decide +kernel
theorem dX0_addOffered_13 : decode cX0_addOffered 13 = .ok (.aload_n 0, 1) := by decide +kernel
theorem dX0_addOffered_14 : decode cX0_addOffered 14 = .ok (.getfield 30, 3) := by decide +kernel
theorem dX0_addOffered_17 : decode cX0_addOffered 17 = .ok (.aload_n 0, 1) := by decide +kernel
theorem dX0_addOffered_18 : decode cX0_addOffered 18 = .ok (.getfield 43, 3) := by decide +kernel
theorem dX0_addOffered_21 : decode cX0_addOffered 21 = .ok (.bipush 6, 2) := by decide +kernel
theorem dX0_addOffered_23 : decode cX0_addOffered 23 = .ok (.imul, 1) := by decide +kernel
theorem dX0_addOffered_24 : decode cX0_addOffered 24 = .ok (.bipush 6, 2) := by decide +kernel
theorem dX0_addOffered_26 : decode cX0_addOffered 26 = .ok (.invokestatic 52, 3) := by decide +kernel
theorem dX0_addOffered_29 : decode cX0_addOffered 29 = .ok (.aload_n 0, 1) := by decide +kernel
theorem dX0_addOffered_30 : decode cX0_addOffered 30 = .ok (.dup, 1) := by decide +kernel
theorem dX0_addOffered_31 : decode cX0_addOffered 31 = .ok (.getfield 43, 3) := by decide +kernel
theorem dX0_addOffered_34 : decode cX0_addOffered 34 = .ok (.iconst 1, 1) := by decide +kernel
theorem dX0_addOffered_35 : decode cX0_addOffered 35 = .ok (.iadd, 1) := by decide +kernel
theorem dX0_addOffered_36 : decode cX0_addOffered 36 = .ok (.putfield 43, 3) := by decide +kernel
theorem dX0_addOffered_39 : decode cX0_addOffered 39 = .ok (.return_, 1) := by decide +kernel
def l0_addOffered_39   (M : mm_M) : Option (mm_M) :=
  some M
set_option maxHeartbeats 2000000 in
theorem sl0_addOffered_39     (M : mm_M) : Snd injV j0_addOffered mm_X0 39 [none] [] M (l0_addOffered_39   M) := by
  unfold l0_addOffered_39
  exact sn_vret (j := j0_addOffered) (pc := 39) rfl dX0_addOffered_39
def f0_addOffered (d0 : Nat) (M : mm_M) : Option (mm_M) :=
  if isD d0 = true then (bI (mI M d0 2) (fun v_1 => if 4 ≤ v_1 then (l0_addOffered_39 M) else (bI (mI M d0 2) (fun v_2 => cpy (d0 + 8) 6 (d0 + 7) 24 0 (v_2 * 6) 6 M (fun M => bI (mI M d0 2) (fun v_3 => bM (sI M d0 2 (v_3 + 1)) (fun M => l0_addOffered_39 M))))))) else none
set_option maxHeartbeats 2000000 in
theorem s0_addOffered (d0 : Nat) (M : mm_M) : Snd injV j0_addOffered mm_X0 0 [some (.ref d0)] [] M (f0_addOffered d0 M) := by
  refine Snd.wk (lo' := [some (.ref d0)]) ?_ (by simp [mm_le])
  unfold f0_addOffered
  refine Snd.ite fun hd0 => ?_
  refine sn_aload_n (j := j0_addOffered) (pc := 0) rfl rfl dX0_addOffered_0 ?_
  refine g_X0_43 (j := j0_addOffered) (pc := 1) hd0 rfl dX0_addOffered_1 ?_
  refine Snd.bI (fun v_1 => ?_)
  refine sn_iconst (j := j0_addOffered) (pc := 4) 4 rfl dX0_addOffered_4 ?_
  refine sn_icmp_ge (j := j0_addOffered) (pc := 5) 39 rfl dX0_addOffered_5 ?_ ?_
  · exact Snd.wk (sl0_addOffered_39 M) (by simp [mm_le])
  · refine sn_aload_n (j := j0_addOffered) (pc := 8) rfl rfl dX0_addOffered_8 ?_
    refine g_X0_33 (j := j0_addOffered) (pc := 9) hd0 rfl dX0_addOffered_9 ?_
    refine sn_iconst (j := j0_addOffered) (pc := 12) 0 rfl dX0_addOffered_12 ?_
    refine sn_aload_n (j := j0_addOffered) (pc := 13) rfl rfl dX0_addOffered_13 ?_
    refine g_X0_30 (j := j0_addOffered) (pc := 14) hd0 rfl dX0_addOffered_14 ?_
    refine sn_aload_n (j := j0_addOffered) (pc := 17) rfl rfl dX0_addOffered_17 ?_
    refine g_X0_43 (j := j0_addOffered) (pc := 18) hd0 rfl dX0_addOffered_18 ?_
    refine Snd.bI (fun v_2 => ?_)
    refine sn_bipush (j := j0_addOffered) (pc := 21) 6 rfl dX0_addOffered_21 ?_
    refine sn_imul (j := j0_addOffered) (pc := 23) dX0_addOffered_23 ?_
    refine sn_bipush (j := j0_addOffered) (pc := 24) 6 rfl dX0_addOffered_24 ?_
    refine sn_cpy (j := j0_addOffered) (pc := 26) (isD_a8 hd0) (isD_p8 hd0) (isD_a7 hd0) (isD_p7 hd0) w_ml_X0_52 w_ac1 w_ac2 w_sys (by decide) (Nat.le_of_ble_eq_true rfl) dX0_addOffered_26 (fun M => ?_)
    refine sn_aload_n (j := j0_addOffered) (pc := 29) rfl rfl dX0_addOffered_29 ?_
    refine sn_dup (j := j0_addOffered) (pc := 30) rfl dX0_addOffered_30 ?_
    refine g_X0_43 (j := j0_addOffered) (pc := 31) hd0 rfl dX0_addOffered_31 ?_
    refine Snd.bI (fun v_3 => ?_)
    refine sn_iconst (j := j0_addOffered) (pc := 34) 1 rfl dX0_addOffered_34 ?_
    refine sn_iadd (j := j0_addOffered) (pc := 35) dX0_addOffered_35 ?_
    refine p_X0_43 (j := j0_addOffered) (pc := 36) hd0 rfl dX0_addOffered_36 (fun M => ?_)
    exact Snd.wk (sl0_addOffered_39 M) (by simp [mm_le])

abbrev j0_removeLast : mm_J := (yX0_removeLast, cX0_removeLast, 2, none, 0)
theorem dX0_removeLast_0 : decode cX0_removeLast 0 = .ok (.aload_n 0, 1) := by decide +kernel
theorem dX0_removeLast_1 : decode cX0_removeLast 1 = .ok (.getfield 43, 3) := by decide +kernel
theorem dX0_removeLast_4 : decode cX0_removeLast 4 = .ok (.ifCond .le 44, 3) := by decide +kernel
theorem dX0_removeLast_7 : decode cX0_removeLast 7 = .ok (.aload_n 0, 1) := by decide +kernel
theorem dX0_removeLast_8 : decode cX0_removeLast 8 = .ok (.dup, 1) := by decide +kernel
theorem dX0_removeLast_9 : decode cX0_removeLast 9 = .ok (.getfield 43, 3) := by decide +kernel
theorem dX0_removeLast_12 : decode cX0_removeLast 12 = .ok (.iconst 1, 1) := by decide +kernel
theorem dX0_removeLast_13 : decode cX0_removeLast 13 = .ok (.isub, 1) := by decide +kernel
theorem dX0_removeLast_14 : decode cX0_removeLast 14 = .ok (.putfield 43, 3) := by decide +kernel
theorem dX0_removeLast_17 : decode cX0_removeLast 17 = .ok (.iconst 0, 1) := by decide +kernel
theorem dX0_removeLast_18 : decode cX0_removeLast 18 = .ok (.istore_n 1, 1) := by decide +kernel
theorem dX0_removeLast_19 : decode cX0_removeLast 19 = .ok (.iload_n 1, 1) := by decide +kernel
theorem dX0_removeLast_20 : decode cX0_removeLast 20 = .ok (.bipush 8, 2) := by decide +kernel
theorem dX0_removeLast_22 : decode cX0_removeLast 22 = .ok (.if_icmp .ge 26, 3) := by decide +kernel
theorem dX0_removeLast_25 : decode cX0_removeLast 25 = .ok (.aload_n 0, 1) := by decide +kernel
theorem dX0_removeLast_26 : decode cX0_removeLast 26 = .ok (.getfield 18, 3) := by decide +kernel
theorem dX0_removeLast_29 : decode cX0_removeLast 29 = .ok (.iload_n 1, 1) := by decide +kernel
theorem dX0_removeLast_30 : decode cX0_removeLast 30 = .ok (.dup2, 1) := by decide +kernel
theorem dX0_removeLast_31 : decode cX0_removeLast 31 = .ok (.iaload, 1) := by decide +kernel
theorem dX0_removeLast_32 : decode cX0_removeLast 32 = .ok (.iconst 1, 1) := by decide +kernel
theorem dX0_removeLast_33 : decode cX0_removeLast 33 = .ok (.aload_n 0, 1) := by decide +kernel
theorem dX0_removeLast_34 : decode cX0_removeLast 34 = .ok (.getfield 43, 3) := by decide +kernel
theorem dX0_removeLast_37 : decode cX0_removeLast 37 = .ok (.ishl, 1) := by decide +kernel
theorem dX0_removeLast_38 : decode cX0_removeLast 38 = .ok (.iconst (-1), 1) := by decide +kernel
theorem dX0_removeLast_39 : decode cX0_removeLast 39 = .ok (.ixor, 1) := by decide +kernel
theorem dX0_removeLast_40 : decode cX0_removeLast 40 = .ok (.iand, 1) := by decide +kernel
theorem dX0_removeLast_41 : decode cX0_removeLast 41 = .ok (.iastore, 1) := by decide +kernel
theorem dX0_removeLast_42 : decode cX0_removeLast 42 = .ok (.iinc 1 1, 3) := by decide +kernel
theorem dX0_removeLast_45 : decode cX0_removeLast 45 = .ok (.goto (-26), 3) := by decide +kernel
theorem dX0_removeLast_48 : decode cX0_removeLast 48 = .ok (.return_, 1) := by decide +kernel
def l0_removeLast_48   (M : mm_M) : Option (mm_M) :=
  some M
set_option maxHeartbeats 2000000 in
theorem sl0_removeLast_48     (M : mm_M) : Snd injV j0_removeLast mm_X0 48 [none, none] [] M (l0_removeLast_48   M) := by
  unfold l0_removeLast_48
  exact sn_vret (j := j0_removeLast) (pc := 48) rfl dX0_removeLast_48
def b0_removeLast_19  (rec19 : Nat → Int32 → mm_M → Option (mm_M)) (d0 : Nat) (x1 : Int32) (M : mm_M) : Option (mm_M) :=
  if 8 ≤ x1 then (l0_removeLast_48 M) else (aI (d0 + 3) 8 x1 M (fun w_1 => bI (mI M d0 2) (fun v_2 => uI (d0 + 3) 8 x1 (w_1 &&& ((1 <<< (v_2 &&& 31)) ^^^ (-1))) M (fun M => rec19 d0 (x1 + 1) M))))
set_option maxHeartbeats 2000000 in
theorem sb0_removeLast_19   (rec19 : Nat → Int32 → mm_M → Option (mm_M)) (hrec19 : ∀ (d0 : Nat) (x1 : Int32) (M : mm_M), isD d0 = true → Snd injV j0_removeLast mm_X0 19 [some (.ref d0), some (.int x1)] [] M (rec19 d0 x1 M)) (d0 : Nat) (x1 : Int32) (hd0 : isD d0 = true) (M : mm_M) : Snd injV j0_removeLast mm_X0 19 [some (.ref d0), some (.int x1)] [] M (b0_removeLast_19  rec19 d0 x1 M) := by
  unfold b0_removeLast_19
  refine sn_iload_n (j := j0_removeLast) (pc := 19) rfl rfl dX0_removeLast_19 ?_
  refine sn_bipush (j := j0_removeLast) (pc := 20) 8 rfl dX0_removeLast_20 ?_
  refine sn_icmp_ge (j := j0_removeLast) (pc := 22) 48 rfl dX0_removeLast_22 ?_ ?_
  · exact Snd.wk (sl0_removeLast_48 M) (by simp [mm_le])
  · refine sn_aload_n (j := j0_removeLast) (pc := 25) rfl rfl dX0_removeLast_25 ?_
    refine g_X0_18 (j := j0_removeLast) (pc := 26) hd0 rfl dX0_removeLast_26 ?_
    refine sn_iload_n (j := j0_removeLast) (pc := 29) rfl rfl dX0_removeLast_29 ?_
    refine sn_dup2 (j := j0_removeLast) (pc := 30) rfl rfl dX0_removeLast_30 ?_
    refine sn_iald (j := j0_removeLast) (pc := 31) (isD_a3 hd0) (isD_p3 hd0) dX0_removeLast_31 (fun w_1 => ?_)
    refine sn_iconst (j := j0_removeLast) (pc := 32) 1 rfl dX0_removeLast_32 ?_
    refine sn_aload_n (j := j0_removeLast) (pc := 33) rfl rfl dX0_removeLast_33 ?_
    refine g_X0_43 (j := j0_removeLast) (pc := 34) hd0 rfl dX0_removeLast_34 ?_
    refine Snd.bI (fun v_2 => ?_)
    refine sn_ishl (j := j0_removeLast) (pc := 37) dX0_removeLast_37 ?_
    refine sn_iconst (j := j0_removeLast) (pc := 38) (-1) rfl dX0_removeLast_38 ?_
    refine sn_ixor (j := j0_removeLast) (pc := 39) dX0_removeLast_39 ?_
    refine sn_iand (j := j0_removeLast) (pc := 40) dX0_removeLast_40 ?_
    refine sn_iast (j := j0_removeLast) (pc := 41) (isD_a3 hd0) (isD_p3 hd0) dX0_removeLast_41 (fun M => ?_)
    refine sn_iinc (j := j0_removeLast) (pc := 42) 1 rfl (by decide) rfl (lo' := [some (.ref d0), some (.int (x1 + 1))]) rfl dX0_removeLast_42 ?_
    refine sn_goto (j := j0_removeLast) (pc := 45) 19 rfl dX0_removeLast_45 ?_
    exact Snd.wk (hrec19 d0 (x1 + 1) M hd0) (by simp [mm_le])
def l0_removeLast_19  : Nat → Nat → Int32 → mm_M → Option (mm_M)
  | 0 => fun _ _ _ => none
  | n + 1 => fun d0 x1 M => b0_removeLast_19  (l0_removeLast_19  n) d0 x1 M
theorem sl0_removeLast_19   : ∀ (n : Nat) (d0 : Nat) (x1 : Int32) (hd0 : isD d0 = true) (M : mm_M), Snd injV j0_removeLast mm_X0 19 [some (.ref d0), some (.int x1)] [] M (l0_removeLast_19  n d0 x1 M)
  | 0 => fun _ _ _ _ => Snd.none
  | n + 1 => fun d0 x1 hd0 M => sb0_removeLast_19   (l0_removeLast_19  n) (fun d0 x1 M hd0 => sl0_removeLast_19   n d0 x1 hd0 M) d0 x1 hd0 M
def f0_removeLast (d0 : Nat) (M : mm_M) : Option (mm_M) :=
  if isD d0 = true then (bI (mI M d0 2) (fun v_3 => if v_3 ≤ 0 then (l0_removeLast_48 M) else (bI (mI M d0 2) (fun v_4 => bM (sI M d0 2 (v_4 - 1)) (fun M => l0_removeLast_19 FU d0 0 M))))) else none
set_option maxHeartbeats 2000000 in
theorem s0_removeLast (d0 : Nat) (M : mm_M) : Snd injV j0_removeLast mm_X0 0 [some (.ref d0)] [] M (f0_removeLast d0 M) := by
  refine Snd.wk (lo' := [some (.ref d0), none]) ?_ (by simp [mm_le])
  unfold f0_removeLast
  refine Snd.ite fun hd0 => ?_
  refine sn_aload_n (j := j0_removeLast) (pc := 0) rfl rfl dX0_removeLast_0 ?_
  refine g_X0_43 (j := j0_removeLast) (pc := 1) hd0 rfl dX0_removeLast_1 ?_
  refine Snd.bI (fun v_3 => ?_)
  refine sn_if_le (j := j0_removeLast) (pc := 4) 48 rfl dX0_removeLast_4 ?_ ?_
  · exact Snd.wk (sl0_removeLast_48 M) (by simp [mm_le])
  · refine sn_aload_n (j := j0_removeLast) (pc := 7) rfl rfl dX0_removeLast_7 ?_
    refine sn_dup (j := j0_removeLast) (pc := 8) rfl dX0_removeLast_8 ?_
    refine g_X0_43 (j := j0_removeLast) (pc := 9) hd0 rfl dX0_removeLast_9 ?_
    refine Snd.bI (fun v_4 => ?_)
    refine sn_iconst (j := j0_removeLast) (pc := 12) 1 rfl dX0_removeLast_12 ?_
    refine sn_isub (j := j0_removeLast) (pc := 13) dX0_removeLast_13 ?_
    refine p_X0_43 (j := j0_removeLast) (pc := 14) hd0 rfl dX0_removeLast_14 (fun M => ?_)
    refine sn_iconst (j := j0_removeLast) (pc := 17) 0 rfl dX0_removeLast_17 ?_
    refine sn_istore_n (j := j0_removeLast) (pc := 18) rfl (by decide) (lo' := [some (.ref d0), some (.int 0)]) rfl dX0_removeLast_18 ?_
    exact Snd.wk (sl0_removeLast_19 FU d0 0 hd0 M) (by simp [mm_le])

abbrev j0_addPiece : mm_J := (yX0_addPiece, cX0_addPiece, 5, none, 0)
theorem dX0_addPiece_0 : decode cX0_addPiece 0 = .ok (.iload_n 1, 1) := by decide +kernel
theorem dX0_addPiece_1 : decode cX0_addPiece 1 = .ok (.iconst 4, 1) := by decide +kernel
theorem dX0_addPiece_2 : decode cX0_addPiece 2 = .ok (.if_icmp .ge 51, 3) := by decide +kernel
theorem dX0_addPiece_5 : decode cX0_addPiece 5 = .ok (.aload_n 0, 1) := by decide +kernel
theorem dX0_addPiece_6 : decode cX0_addPiece 6 = .ok (.getfield 21, 3) := by decide +kernel
theorem dX0_addPiece_9 : decode cX0_addPiece 9 = .ok (.iload_n 1, 1) := by decide +kernel
theorem dX0_addPiece_10 : decode cX0_addPiece 10 = .ok (.iaload, 1) := by decide +kernel
theorem dX0_addPiece_11 : decode cX0_addPiece 11 = .ok (.iconst 4, 1) := by decide +kernel
theorem dX0_addPiece_12 : decode cX0_addPiece 12 = .ok (.if_icmp .ge 41, 3) := by decide +kernel
theorem dX0_addPiece_15 : decode cX0_addPiece 15 = .ok (.iload_n 1, 1) := by decide +kernel
theorem dX0_addPiece_16 : decode cX0_addPiece 16 = .ok (.iconst 4, 1) := by decide +kernel
theorem dX0_addPiece_17 : decode cX0_addPiece 17 = .ok (.imul, 1) := by decide +kernel
theorem dX0_addPiece_18 : decode cX0_addPiece 18 = .ok (.aload_n 0, 1) := by decide +kernel
theorem dX0_addPiece_19 : decode cX0_addPiece 19 = .ok (.getfield 21, 3) := by decide +kernel
theorem dX0_addPiece_22 : decode cX0_addPiece 22 = .ok (.iload_n 1, 1) := by decide +kernel
theorem dX0_addPiece_23 : decode cX0_addPiece 23 = .ok (.iaload, 1) := by decide +kernel
theorem dX0_addPiece_24 : decode cX0_addPiece 24 = .ok (.iadd, 1) := by decide +kernel
theorem dX0_addPiece_25 : decode cX0_addPiece 25 = .ok (.istore 4, 2) := by decide +kernel
theorem dX0_addPiece_27 : decode cX0_addPiece 27 = .ok (.aload_n 0, 1) := by decide +kernel
theorem dX0_addPiece_28 : decode cX0_addPiece 28 = .ok (.getfield 24, 3) := by decide +kernel
theorem dX0_addPiece_31 : decode cX0_addPiece 31 = .ok (.iload 4, 2) := by decide +kernel
theorem dX0_addPiece_33 : decode cX0_addPiece 33 = .ok (.iload_n 2, 1) := by decide +kernel
theorem dX0_addPiece_34 : decode cX0_addPiece 34 = .ok (.iastore, 1) := by decide +kernel
theorem dX0_addPiece_35 : decode cX0_addPiece 35 = .ok (.aload_n 0, 1) := by decide +kernel
theorem dX0_addPiece_36 : decode cX0_addPiece 36 = .ok (.getfield 27, 3) := by decide +kernel
theorem dX0_addPiece_39 : decode cX0_addPiece 39 = .ok (.iload 4, 2) := by decide +kernel
theorem dX0_addPiece_41 : decode cX0_addPiece 41 = .ok (.iload_n 3, 1) := by decide +kernel
theorem dX0_addPiece_42 : decode cX0_addPiece 42 = .ok (.iastore, 1) := by decide +kernel
theorem dX0_addPiece_43 : decode cX0_addPiece 43 = .ok (.aload_n 0, 1) := by decide +kernel
theorem dX0_addPiece_44 : decode cX0_addPiece 44 = .ok (.getfield 21, 3) := by decide +kernel
theorem dX0_addPiece_47 : decode cX0_addPiece 47 = .ok (.iload_n 1, 1) := by decide +kernel
theorem dX0_addPiece_48 : decode cX0_addPiece 48 = .ok (.dup2, 1) := by decide +kernel
theorem dX0_addPiece_49 : decode cX0_addPiece 49 = .ok (.iaload, 1) := by decide +kernel
theorem dX0_addPiece_50 : decode cX0_addPiece 50 = .ok (.iconst 1, 1) := by decide +kernel
theorem dX0_addPiece_51 : decode cX0_addPiece 51 = .ok (.iadd, 1) := by decide +kernel
theorem dX0_addPiece_52 : decode cX0_addPiece 52 = .ok (.iastore, 1) := by decide +kernel
theorem dX0_addPiece_53 : decode cX0_addPiece 53 = .ok (.return_, 1) := by decide +kernel
def l0_addPiece_53   (M : mm_M) : Option (mm_M) :=
  some M
set_option maxHeartbeats 2000000 in
theorem sl0_addPiece_53     (M : mm_M) : Snd injV j0_addPiece mm_X0 53 [none, none, none, none, none] [] M (l0_addPiece_53   M) := by
  unfold l0_addPiece_53
  exact sn_vret (j := j0_addPiece) (pc := 53) rfl dX0_addPiece_53
def f0_addPiece (d0 : Nat) (x1 : Int32) (x2 : Int32) (x3 : Int32) (M : mm_M) : Option (mm_M) :=
  if isD d0 = true then (if 4 ≤ x1 then (l0_addPiece_53 M) else (aI (d0 + 4) 4 x1 M (fun w_1 => if 4 ≤ w_1 then (l0_addPiece_53 M) else (aI (d0 + 4) 4 x1 M (fun w_2 => bI ((x1 * 4) + w_2) (fun x4_3 => uI (d0 + 5) 16 x4_3 x2 M (fun M => uI (d0 + 6) 16 x4_3 x3 M (fun M => aI (d0 + 4) 4 x1 M (fun w_4 => uI (d0 + 4) 4 x1 (w_4 + 1) M (fun M => l0_addPiece_53 M)))))))))) else none
set_option maxHeartbeats 2000000 in
theorem s0_addPiece (d0 : Nat) (x1 : Int32) (x2 : Int32) (x3 : Int32) (M : mm_M) : Snd injV j0_addPiece mm_X0 0 [some (.ref d0), some (.int x1), some (.int x2), some (.int x3)] [] M (f0_addPiece d0 x1 x2 x3 M) := by
  refine Snd.wk (lo' := [some (.ref d0), some (.int x1), some (.int x2), some (.int x3), none]) ?_ (by simp [mm_le])
  unfold f0_addPiece
  refine Snd.ite fun hd0 => ?_
  refine sn_iload_n (j := j0_addPiece) (pc := 0) rfl rfl dX0_addPiece_0 ?_
  refine sn_iconst (j := j0_addPiece) (pc := 1) 4 rfl dX0_addPiece_1 ?_
  refine sn_icmp_ge (j := j0_addPiece) (pc := 2) 53 rfl dX0_addPiece_2 ?_ ?_
  · exact Snd.wk (sl0_addPiece_53 M) (by simp [mm_le])
  · refine sn_aload_n (j := j0_addPiece) (pc := 5) rfl rfl dX0_addPiece_5 ?_
    refine g_X0_21 (j := j0_addPiece) (pc := 6) hd0 rfl dX0_addPiece_6 ?_
    refine sn_iload_n (j := j0_addPiece) (pc := 9) rfl rfl dX0_addPiece_9 ?_
    refine sn_iald (j := j0_addPiece) (pc := 10) (isD_a4 hd0) (isD_p4 hd0) dX0_addPiece_10 (fun w_1 => ?_)
    refine sn_iconst (j := j0_addPiece) (pc := 11) 4 rfl dX0_addPiece_11 ?_
    refine sn_icmp_ge (j := j0_addPiece) (pc := 12) 53 rfl dX0_addPiece_12 ?_ ?_
    · exact Snd.wk (sl0_addPiece_53 M) (by simp [mm_le])
    · refine sn_iload_n (j := j0_addPiece) (pc := 15) rfl rfl dX0_addPiece_15 ?_
      refine sn_iconst (j := j0_addPiece) (pc := 16) 4 rfl dX0_addPiece_16 ?_
      refine sn_imul (j := j0_addPiece) (pc := 17) dX0_addPiece_17 ?_
      refine sn_aload_n (j := j0_addPiece) (pc := 18) rfl rfl dX0_addPiece_18 ?_
      refine g_X0_21 (j := j0_addPiece) (pc := 19) hd0 rfl dX0_addPiece_19 ?_
      refine sn_iload_n (j := j0_addPiece) (pc := 22) rfl rfl dX0_addPiece_22 ?_
      refine sn_iald (j := j0_addPiece) (pc := 23) (isD_a4 hd0) (isD_p4 hd0) dX0_addPiece_23 (fun w_2 => ?_)
      refine sn_iadd (j := j0_addPiece) (pc := 24) dX0_addPiece_24 ?_
      refine sn_istoreB (j := j0_addPiece) (pc := 25) (fun x4_3 => [some (.ref d0), some (.int x1), some (.int x2), some (.int x3), some (.int x4_3)]) (by decide) (fun _ => rfl) dX0_addPiece_25 (fun x4_3 => ?_)
      refine sn_aload_n (j := j0_addPiece) (pc := 27) rfl rfl dX0_addPiece_27 ?_
      refine g_X0_24 (j := j0_addPiece) (pc := 28) hd0 rfl dX0_addPiece_28 ?_
      refine sn_iload (j := j0_addPiece) (pc := 31) rfl dX0_addPiece_31 ?_
      refine sn_iload_n (j := j0_addPiece) (pc := 33) rfl rfl dX0_addPiece_33 ?_
      refine sn_iast (j := j0_addPiece) (pc := 34) (isD_a5 hd0) (isD_p5 hd0) dX0_addPiece_34 (fun M => ?_)
      refine sn_aload_n (j := j0_addPiece) (pc := 35) rfl rfl dX0_addPiece_35 ?_
      refine g_X0_27 (j := j0_addPiece) (pc := 36) hd0 rfl dX0_addPiece_36 ?_
      refine sn_iload (j := j0_addPiece) (pc := 39) rfl dX0_addPiece_39 ?_
      refine sn_iload_n (j := j0_addPiece) (pc := 41) rfl rfl dX0_addPiece_41 ?_
      refine sn_iast (j := j0_addPiece) (pc := 42) (isD_a6 hd0) (isD_p6 hd0) dX0_addPiece_42 (fun M => ?_)
      refine sn_aload_n (j := j0_addPiece) (pc := 43) rfl rfl dX0_addPiece_43 ?_
      refine g_X0_21 (j := j0_addPiece) (pc := 44) hd0 rfl dX0_addPiece_44 ?_
      refine sn_iload_n (j := j0_addPiece) (pc := 47) rfl rfl dX0_addPiece_47 ?_
      refine sn_dup2 (j := j0_addPiece) (pc := 48) rfl rfl dX0_addPiece_48 ?_
      refine sn_iald (j := j0_addPiece) (pc := 49) (isD_a4 hd0) (isD_p4 hd0) dX0_addPiece_49 (fun w_4 => ?_)
      refine sn_iconst (j := j0_addPiece) (pc := 50) 1 rfl dX0_addPiece_50 ?_
      refine sn_iadd (j := j0_addPiece) (pc := 51) dX0_addPiece_51 ?_
      refine sn_iast (j := j0_addPiece) (pc := 52) (isD_a4 hd0) (isD_p4 hd0) dX0_addPiece_52 (fun M => ?_)
      exact Snd.wk (sl0_addPiece_53 M) (by simp [mm_le])

abbrev j0_gain : mm_J := (yX0_gain, cX0_gain, 8, (some .int), 1)
theorem dX0_gain_0 : decode cX0_gain 0 = .ok (.aload_n 0, 1) := by decide +kernel
theorem dX0_gain_1 : decode cX0_gain 1 = .ok (.getfield 30, 3) := by decide +kernel
theorem dX0_gain_4 : decode cX0_gain 4 = .ok (.iload_n 1, 1) := by decide +kernel
theorem dX0_gain_5 : decode cX0_gain 5 = .ok (.bipush 6, 2) := by decide +kernel
theorem dX0_gain_7 : decode cX0_gain 7 = .ok (.imul, 1) := by decide +kernel
theorem dX0_gain_8 : decode cX0_gain 8 = .ok (.iconst 1, 1) := by decide +kernel
theorem dX0_gain_9 : decode cX0_gain 9 = .ok (.iadd, 1) := by decide +kernel
theorem dX0_gain_10 : decode cX0_gain 10 = .ok (.iaload, 1) := by decide +kernel
theorem dX0_gain_11 : decode cX0_gain 11 = .ok (.istore 4, 2) := by decide +kernel
theorem dX0_gain_13 : decode cX0_gain 13 = .ok (.aload_n 0, 1) := by decide +kernel
theorem dX0_gain_14 : decode cX0_gain 14 = .ok (.getfield 30, 3) := by decide +kernel
theorem dX0_gain_17 : decode cX0_gain 17 = .ok (.iload_n 1, 1) := by decide +kernel
theorem dX0_gain_18 : decode cX0_gain 18 = .ok (.bipush 6, 2) := by decide +kernel
theorem dX0_gain_20 : decode cX0_gain 20 = .ok (.imul, 1) := by decide +kernel
theorem dX0_gain_21 : decode cX0_gain 21 = .ok (.iconst 0, 1) := by decide +kernel
theorem dX0_gain_22 : decode cX0_gain 22 = .ok (.iadd, 1) := by decide +kernel
theorem dX0_gain_23 : decode cX0_gain 23 = .ok (.iaload, 1) := by decide +kernel
theorem dX0_gain_24 : decode cX0_gain 24 = .ok (.istore 5, 2) := by decide +kernel
theorem dX0_gain_26 : decode cX0_gain 26 = .ok (.iload 5, 2) := by decide +kernel
theorem dX0_gain_28 : decode cX0_gain 28 = .ok (.iconst 4, 1) := by decide +kernel
theorem dX0_gain_29 : decode cX0_gain 29 = .ok (.imul, 1) := by decide +kernel
theorem dX0_gain_30 : decode cX0_gain 30 = .ok (.istore 6, 2) := by decide +kernel
theorem dX0_gain_32 : decode cX0_gain 32 = .ok (.iconst 0, 1) := by decide +kernel
theorem dX0_gain_33 : decode cX0_gain 33 = .ok (.aload_n 0, 1) := by decide +kernel
theorem dX0_gain_34 : decode cX0_gain 34 = .ok (.getfield 21, 3) := by decide +kernel
theorem dX0_gain_37 : decode cX0_gain 37 = .ok (.iload 5, 2) := by decide +kernel
theorem dX0_gain_39 : decode cX0_gain 39 = .ok (.iaload, 1) := by decide +kernel
theorem dX0_gain_40 : decode cX0_gain 40 = .ok (.iconst 1, 1) := by decide +kernel
theorem dX0_gain_41 : decode cX0_gain 41 = .ok (.isub, 1) := by decide +kernel
theorem dX0_gain_42 : decode cX0_gain 42 = .ok (.invokestatic 83, 3) := by decide +kernel
theorem dX0_gain_45 : decode cX0_gain 45 = .ok (.istore 7, 2) := by decide +kernel
theorem dX0_gain_47 : decode cX0_gain 47 = .ok (.iload 7, 2) := by decide +kernel
theorem dX0_gain_49 : decode cX0_gain 49 = .ok (.ifCond .le 29, 3) := by decide +kernel
theorem dX0_gain_52 : decode cX0_gain 52 = .ok (.aload_n 0, 1) := by decide +kernel
theorem dX0_gain_53 : decode cX0_gain 53 = .ok (.getfield 24, 3) := by decide +kernel
theorem dX0_gain_56 : decode cX0_gain 56 = .ok (.iload 6, 2) := by decide +kernel
theorem dX0_gain_58 : decode cX0_gain 58 = .ok (.iload 7, 2) := by decide +kernel
theorem dX0_gain_60 : decode cX0_gain 60 = .ok (.iadd, 1) := by decide +kernel
theorem dX0_gain_61 : decode cX0_gain 61 = .ok (.iaload, 1) := by decide +kernel
theorem dX0_gain_62 : decode cX0_gain 62 = .ok (.iload 4, 2) := by decide +kernel
theorem dX0_gain_64 : decode cX0_gain 64 = .ok (.imul, 1) := by decide +kernel
theorem dX0_gain_65 : decode cX0_gain 65 = .ok (.iload_n 2, 1) := by decide +kernel
theorem dX0_gain_66 : decode cX0_gain 66 = .ok (.bipush 100, 2) := by decide +kernel
theorem dX0_gain_68 : decode cX0_gain 68 = .ok (.imul, 1) := by decide +kernel
theorem dX0_gain_69 : decode cX0_gain 69 = .ok (.if_icmp .le 9, 3) := by decide +kernel
theorem dX0_gain_72 : decode cX0_gain 72 = .ok (.iinc 7 (-1), 3) := by decide +kernel
theorem dX0_gain_75 : decode cX0_gain 75 = .ok (.goto (-28), 3) := by decide +kernel
theorem dX0_gain_78 : decode cX0_gain 78 = .ok (.iload_n 3, 1) := by decide +kernel
theorem dX0_gain_79 : decode cX0_gain 79 = .ok (.iload 4, 2) := by decide +kernel
theorem dX0_gain_81 : decode cX0_gain 81 = .ok (.iload_n 2, 1) := by decide +kernel
theorem dX0_gain_82 : decode cX0_gain 82 = .ok (.isub, 1) := by decide +kernel
theorem dX0_gain_83 : decode cX0_gain 83 = .ok (.invokestatic 88, 3) := by decide +kernel
theorem dX0_gain_86 : decode cX0_gain 86 = .ok (.aload_n 0, 1) := by decide +kernel
theorem dX0_gain_87 : decode cX0_gain 87 = .ok (.getfield 27, 3) := by decide +kernel
theorem dX0_gain_90 : decode cX0_gain 90 = .ok (.iload 6, 2) := by decide +kernel
theorem dX0_gain_92 : decode cX0_gain 92 = .ok (.iload 7, 2) := by decide +kernel
theorem dX0_gain_94 : decode cX0_gain 94 = .ok (.iadd, 1) := by decide +kernel
theorem dX0_gain_95 : decode cX0_gain 95 = .ok (.iaload, 1) := by decide +kernel
theorem dX0_gain_96 : decode cX0_gain 96 = .ok (.invokestatic 88, 3) := by decide +kernel
theorem dX0_gain_99 : decode cX0_gain 99 = .ok (.ireturn, 1) := by decide +kernel
def l0_gain_78  (d0 : Nat) (x2 : Int32) (x3 : Int32) (x4 : Int32) (x6 : Int32) (x7 : Int32) (M : mm_M) : Option (Int32 × mm_M) :=
  bI (mi x3 (x4 - x2)) (fun v_1 => aI (d0 + 6) 16 (x6 + x7) M (fun w_2 => bI (mi v_1 w_2) (fun v_3 => some (v_3, M))))
set_option maxHeartbeats 2000000 in
theorem sl0_gain_78   (d0 : Nat) (x2 : Int32) (x3 : Int32) (x4 : Int32) (x6 : Int32) (x7 : Int32) (hd0 : isD d0 = true) (M : mm_M) : Snd injI j0_gain mm_X0 78 [some (.ref d0), none, some (.int x2), some (.int x3), some (.int x4), none, some (.int x6), some (.int x7)] [] M (l0_gain_78  d0 x2 x3 x4 x6 x7 M) := by
  unfold l0_gain_78
  refine sn_iload_n (j := j0_gain) (pc := 78) rfl rfl dX0_gain_78 ?_
  refine sn_iload (j := j0_gain) (pc := 79) rfl dX0_gain_79 ?_
  refine sn_iload_n (j := j0_gain) (pc := 81) rfl rfl dX0_gain_81 ?_
  refine sn_isub (j := j0_gain) (pc := 82) dX0_gain_82 ?_
  refine sn_min (j := j0_gain) (pc := 83) w_ml_X0_88 w_min1 w_math w_min2 (by decide) (Nat.le_of_ble_eq_true rfl) dX0_gain_83 ?_
  refine Snd.bI (fun v_1 => ?_)
  refine sn_aload_n (j := j0_gain) (pc := 86) rfl rfl dX0_gain_86 ?_
  refine g_X0_27 (j := j0_gain) (pc := 87) hd0 rfl dX0_gain_87 ?_
  refine sn_iload (j := j0_gain) (pc := 90) rfl dX0_gain_90 ?_
  refine sn_iload (j := j0_gain) (pc := 92) rfl dX0_gain_92 ?_
  refine sn_iadd (j := j0_gain) (pc := 94) dX0_gain_94 ?_
  refine sn_iald (j := j0_gain) (pc := 95) (isD_a6 hd0) (isD_p6 hd0) dX0_gain_95 (fun w_2 => ?_)
  refine sn_min (j := j0_gain) (pc := 96) w_ml_X0_88 w_min1 w_math w_min2 (by decide) (Nat.le_of_ble_eq_true rfl) dX0_gain_96 ?_
  refine Snd.bI (fun v_3 => ?_)
  exact sn_iret (j := j0_gain) (pc := 99) rfl dX0_gain_99
def b0_gain_47  (rec47 : Nat → Int32 → Int32 → Int32 → Int32 → Int32 → mm_M → Option (Int32 × mm_M)) (d0 : Nat) (x2 : Int32) (x3 : Int32) (x4 : Int32) (x6 : Int32) (x7 : Int32) (M : mm_M) : Option (Int32 × mm_M) :=
  if x7 ≤ 0 then (l0_gain_78 d0 x2 x3 x4 x6 x7 M) else (aI (d0 + 5) 16 (x6 + x7) M (fun w_4 => if (w_4 * x4) ≤ (x2 * 100) then (l0_gain_78 d0 x2 x3 x4 x6 x7 M) else (rec47 d0 x2 x3 x4 x6 (x7 + (-1)) M)))
set_option maxHeartbeats 2000000 in
theorem sb0_gain_47   (rec47 : Nat → Int32 → Int32 → Int32 → Int32 → Int32 → mm_M → Option (Int32 × mm_M)) (hrec47 : ∀ (d0 : Nat) (x2 : Int32) (x3 : Int32) (x4 : Int32) (x6 : Int32) (x7 : Int32) (M : mm_M), isD d0 = true → Snd injI j0_gain mm_X0 47 [some (.ref d0), none, some (.int x2), some (.int x3), some (.int x4), none, some (.int x6), some (.int x7)] [] M (rec47 d0 x2 x3 x4 x6 x7 M)) (d0 : Nat) (x2 : Int32) (x3 : Int32) (x4 : Int32) (x6 : Int32) (x7 : Int32) (hd0 : isD d0 = true) (M : mm_M) : Snd injI j0_gain mm_X0 47 [some (.ref d0), none, some (.int x2), some (.int x3), some (.int x4), none, some (.int x6), some (.int x7)] [] M (b0_gain_47  rec47 d0 x2 x3 x4 x6 x7 M) := by
  unfold b0_gain_47
  refine sn_iload (j := j0_gain) (pc := 47) rfl dX0_gain_47 ?_
  refine sn_if_le (j := j0_gain) (pc := 49) 78 rfl dX0_gain_49 ?_ ?_
  · exact Snd.wk (sl0_gain_78 d0 x2 x3 x4 x6 x7 hd0 M) (by simp [mm_le])
  · refine sn_aload_n (j := j0_gain) (pc := 52) rfl rfl dX0_gain_52 ?_
    refine g_X0_24 (j := j0_gain) (pc := 53) hd0 rfl dX0_gain_53 ?_
    refine sn_iload (j := j0_gain) (pc := 56) rfl dX0_gain_56 ?_
    refine sn_iload (j := j0_gain) (pc := 58) rfl dX0_gain_58 ?_
    refine sn_iadd (j := j0_gain) (pc := 60) dX0_gain_60 ?_
    refine sn_iald (j := j0_gain) (pc := 61) (isD_a5 hd0) (isD_p5 hd0) dX0_gain_61 (fun w_4 => ?_)
    refine sn_iload (j := j0_gain) (pc := 62) rfl dX0_gain_62 ?_
    refine sn_imul (j := j0_gain) (pc := 64) dX0_gain_64 ?_
    refine sn_iload_n (j := j0_gain) (pc := 65) rfl rfl dX0_gain_65 ?_
    refine sn_bipush (j := j0_gain) (pc := 66) 100 rfl dX0_gain_66 ?_
    refine sn_imul (j := j0_gain) (pc := 68) dX0_gain_68 ?_
    refine sn_icmp_le (j := j0_gain) (pc := 69) 78 rfl dX0_gain_69 ?_ ?_
    · exact Snd.wk (sl0_gain_78 d0 x2 x3 x4 x6 x7 hd0 M) (by simp [mm_le])
    · refine sn_iinc (j := j0_gain) (pc := 72) (-1) rfl (by decide) rfl (lo' := [some (.ref d0), none, some (.int x2), some (.int x3), some (.int x4), none, some (.int x6), some (.int (x7 + (-1)))]) rfl dX0_gain_72 ?_
      refine sn_goto (j := j0_gain) (pc := 75) 47 rfl dX0_gain_75 ?_
      exact Snd.wk (hrec47 d0 x2 x3 x4 x6 (x7 + (-1)) M hd0) (by simp [mm_le])
def l0_gain_47  : Nat → Nat → Int32 → Int32 → Int32 → Int32 → Int32 → mm_M → Option (Int32 × mm_M)
  | 0 => fun _ _ _ _ _ _ _ => none
  | n + 1 => fun d0 x2 x3 x4 x6 x7 M => b0_gain_47  (l0_gain_47  n) d0 x2 x3 x4 x6 x7 M
theorem sl0_gain_47   : ∀ (n : Nat) (d0 : Nat) (x2 : Int32) (x3 : Int32) (x4 : Int32) (x6 : Int32) (x7 : Int32) (hd0 : isD d0 = true) (M : mm_M), Snd injI j0_gain mm_X0 47 [some (.ref d0), none, some (.int x2), some (.int x3), some (.int x4), none, some (.int x6), some (.int x7)] [] M (l0_gain_47  n d0 x2 x3 x4 x6 x7 M)
  | 0 => fun _ _ _ _ _ _ _ _ => Snd.none
  | n + 1 => fun d0 x2 x3 x4 x6 x7 hd0 M => sb0_gain_47   (l0_gain_47  n) (fun d0 x2 x3 x4 x6 x7 M hd0 => sl0_gain_47   n d0 x2 x3 x4 x6 x7 hd0 M) d0 x2 x3 x4 x6 x7 hd0 M
def f0_gain (d0 : Nat) (x1 : Int32) (x2 : Int32) (x3 : Int32) (M : mm_M) : Option (Int32 × mm_M) :=
  if isD d0 = true then (aI (d0 + 7) 24 ((x1 * 6) + 1) M (fun w_5 => aI (d0 + 7) 24 ((x1 * 6) + 0) M (fun w_6 => bI (w_6 * 4) (fun x6_7 => aI (d0 + 4) 4 w_6 M (fun w_8 => bI (mx 0 (w_8 - 1)) (fun v_9 => l0_gain_47 FU d0 x2 x3 w_5 x6_7 v_9 M)))))) else none
set_option maxHeartbeats 2000000 in
theorem s0_gain (d0 : Nat) (x1 : Int32) (x2 : Int32) (x3 : Int32) (M : mm_M) : Snd injI j0_gain mm_X0 0 [some (.ref d0), some (.int x1), some (.int x2), some (.int x3)] [] M (f0_gain d0 x1 x2 x3 M) := by
  refine Snd.wk (lo' := [some (.ref d0), some (.int x1), some (.int x2), some (.int x3), none, none, none, none]) ?_ (by simp [mm_le])
  unfold f0_gain
  refine Snd.ite fun hd0 => ?_
  refine sn_aload_n (j := j0_gain) (pc := 0) rfl rfl dX0_gain_0 ?_
  refine g_X0_30 (j := j0_gain) (pc := 1) hd0 rfl dX0_gain_1 ?_
  refine sn_iload_n (j := j0_gain) (pc := 4) rfl rfl dX0_gain_4 ?_
  refine sn_bipush (j := j0_gain) (pc := 5) 6 rfl dX0_gain_5 ?_
  refine sn_imul (j := j0_gain) (pc := 7) dX0_gain_7 ?_
  refine sn_iconst (j := j0_gain) (pc := 8) 1 rfl dX0_gain_8 ?_
  refine sn_iadd (j := j0_gain) (pc := 9) dX0_gain_9 ?_
  refine sn_iald (j := j0_gain) (pc := 10) (isD_a7 hd0) (isD_p7 hd0) dX0_gain_10 (fun w_5 => ?_)
  refine sn_istore (j := j0_gain) (pc := 11) (by decide) (lo' := [some (.ref d0), some (.int x1), some (.int x2), some (.int x3), some (.int w_5), none, none, none]) rfl dX0_gain_11 ?_
  refine sn_aload_n (j := j0_gain) (pc := 13) rfl rfl dX0_gain_13 ?_
  refine g_X0_30 (j := j0_gain) (pc := 14) hd0 rfl dX0_gain_14 ?_
  refine sn_iload_n (j := j0_gain) (pc := 17) rfl rfl dX0_gain_17 ?_
  refine sn_bipush (j := j0_gain) (pc := 18) 6 rfl dX0_gain_18 ?_
  refine sn_imul (j := j0_gain) (pc := 20) dX0_gain_20 ?_
  refine sn_iconst (j := j0_gain) (pc := 21) 0 rfl dX0_gain_21 ?_
  refine sn_iadd (j := j0_gain) (pc := 22) dX0_gain_22 ?_
  refine sn_iald (j := j0_gain) (pc := 23) (isD_a7 hd0) (isD_p7 hd0) dX0_gain_23 (fun w_6 => ?_)
  refine sn_istore (j := j0_gain) (pc := 24) (by decide) (lo' := [some (.ref d0), some (.int x1), some (.int x2), some (.int x3), some (.int w_5), some (.int w_6), none, none]) rfl dX0_gain_24 ?_
  refine sn_iload (j := j0_gain) (pc := 26) rfl dX0_gain_26 ?_
  refine sn_iconst (j := j0_gain) (pc := 28) 4 rfl dX0_gain_28 ?_
  refine sn_imul (j := j0_gain) (pc := 29) dX0_gain_29 ?_
  refine sn_istoreB (j := j0_gain) (pc := 30) (fun x6_7 => [some (.ref d0), some (.int x1), some (.int x2), some (.int x3), some (.int w_5), some (.int w_6), some (.int x6_7), none]) (by decide) (fun _ => rfl) dX0_gain_30 (fun x6_7 => ?_)
  refine sn_iconst (j := j0_gain) (pc := 32) 0 rfl dX0_gain_32 ?_
  refine sn_aload_n (j := j0_gain) (pc := 33) rfl rfl dX0_gain_33 ?_
  refine g_X0_21 (j := j0_gain) (pc := 34) hd0 rfl dX0_gain_34 ?_
  refine sn_iload (j := j0_gain) (pc := 37) rfl dX0_gain_37 ?_
  refine sn_iald (j := j0_gain) (pc := 39) (isD_a4 hd0) (isD_p4 hd0) dX0_gain_39 (fun w_8 => ?_)
  refine sn_iconst (j := j0_gain) (pc := 40) 1 rfl dX0_gain_40 ?_
  refine sn_isub (j := j0_gain) (pc := 41) dX0_gain_41 ?_
  refine sn_max (j := j0_gain) (pc := 42) w_ml_X0_83 w_max1 w_math w_max2 (by decide) (Nat.le_of_ble_eq_true rfl) dX0_gain_42 ?_
  refine Snd.bI (fun v_9 => ?_)
  refine sn_istore (j := j0_gain) (pc := 45) (by decide) (lo' := [some (.ref d0), some (.int x1), some (.int x2), some (.int x3), some (.int w_5), some (.int w_6), some (.int x6_7), some (.int v_9)]) rfl dX0_gain_45 ?_
  exact Snd.wk (sl0_gain_47 FU d0 x2 x3 w_5 x6_7 v_9 hd0 M) (by simp [mm_le])

abbrev j0_fewestCharges : mm_J := (yX0_fewestCharges, cX0_fewestCharges, 6, (some .int), 2)
theorem dX0_fewestCharges_0 : decode cX0_fewestCharges 0 = .ok (.iload_n 2, 1) := by decide +kernel
theorem dX0_fewestCharges_1 : decode cX0_fewestCharges 1 = .ok (.istore 4, 2) := by decide +kernel
theorem dX0_fewestCharges_3 : decode cX0_fewestCharges 3 = .ok (.iconst 0, 1) := by decide +kernel
theorem dX0_fewestCharges_4 : decode cX0_fewestCharges 4 = .ok (.istore 5, 2) := by decide +kernel
theorem dX0_fewestCharges_6 : decode cX0_fewestCharges 6 = .ok (.iload 4, 2) := by decide +kernel
theorem dX0_fewestCharges_8 : decode cX0_fewestCharges 8 = .ok (.iload_n 3, 1) := by decide +kernel
theorem dX0_fewestCharges_9 : decode cX0_fewestCharges 9 = .ok (.if_icmp .ge 35, 3) := by decide +kernel
theorem dX0_fewestCharges_12 : decode cX0_fewestCharges 12 = .ok (.iload 5, 2) := by decide +kernel
theorem dX0_fewestCharges_14 : decode cX0_fewestCharges 14 = .ok (.sipush 200, 3) := by decide +kernel
theorem dX0_fewestCharges_17 : decode cX0_fewestCharges 17 = .ok (.if_icmp .ge 27, 3) := by decide +kernel
theorem dX0_fewestCharges_20 : decode cX0_fewestCharges 20 = .ok (.iload 4, 2) := by decide +kernel
theorem dX0_fewestCharges_22 : decode cX0_fewestCharges 22 = .ok (.aload_n 0, 1) := by decide +kernel
theorem dX0_fewestCharges_23 : decode cX0_fewestCharges 23 = .ok (.iload_n 1, 1) := by decide +kernel
theorem dX0_fewestCharges_24 : decode cX0_fewestCharges 24 = .ok (.iload 4, 2) := by decide +kernel
theorem dX0_fewestCharges_26 : decode cX0_fewestCharges 26 = .ok (.aload_n 0, 1) := by decide +kernel
theorem dX0_fewestCharges_27 : decode cX0_fewestCharges 27 = .ok (.getfield 9, 3) := by decide +kernel
theorem dX0_fewestCharges_30 : decode cX0_fewestCharges 30 = .ok (.iconst 1, 1) := by decide +kernel
theorem dX0_fewestCharges_31 : decode cX0_fewestCharges 31 = .ok (.iaload, 1) := by decide +kernel
theorem dX0_fewestCharges_32 : decode cX0_fewestCharges 32 = .ok (.invokevirtual 91, 3) := by decide +kernel
theorem dX0_fewestCharges_35 : decode cX0_fewestCharges 35 = .ok (.iadd, 1) := by decide +kernel
theorem dX0_fewestCharges_36 : decode cX0_fewestCharges 36 = .ok (.istore 4, 2) := by decide +kernel
theorem dX0_fewestCharges_38 : decode cX0_fewestCharges 38 = .ok (.iinc 5 1, 3) := by decide +kernel
theorem dX0_fewestCharges_41 : decode cX0_fewestCharges 41 = .ok (.goto (-35), 3) := by decide +kernel
theorem dX0_fewestCharges_44 : decode cX0_fewestCharges 44 = .ok (.iload 5, 2) := by decide +kernel
theorem dX0_fewestCharges_46 : decode cX0_fewestCharges 46 = .ok (.ireturn, 1) := by decide +kernel
def l0_fewestCharges_44  (x5 : Int32) (M : mm_M) : Option (Int32 × mm_M) :=
  some (x5, M)
set_option maxHeartbeats 2000000 in
theorem sl0_fewestCharges_44   (x5 : Int32)  (M : mm_M) : Snd injI j0_fewestCharges mm_X0 44 [none, none, none, none, none, some (.int x5)] [] M (l0_fewestCharges_44  x5 M) := by
  unfold l0_fewestCharges_44
  refine sn_iload (j := j0_fewestCharges) (pc := 44) rfl dX0_fewestCharges_44 ?_
  exact sn_iret (j := j0_fewestCharges) (pc := 46) rfl dX0_fewestCharges_46
def b0_fewestCharges_6  (rec6 : Nat → Int32 → Int32 → Int32 → Int32 → mm_M → Option (Int32 × mm_M)) (d0 : Nat) (x1 : Int32) (x3 : Int32) (x4 : Int32) (x5 : Int32) (M : mm_M) : Option (Int32 × mm_M) :=
  if x3 ≤ x4 then (l0_fewestCharges_44 x5 M) else (if 200 ≤ x5 then (l0_fewestCharges_44 x5 M) else (aI (d0 + 1) 3 1 M (fun w_1 => cI (f0_gain d0 x1 x4 w_1 M) (fun r_2 M => bI (x4 + r_2) (fun x4_3 => rec6 d0 x1 x3 x4_3 (x5 + 1) M)))))
set_option maxHeartbeats 2000000 in
theorem sb0_fewestCharges_6   (rec6 : Nat → Int32 → Int32 → Int32 → Int32 → mm_M → Option (Int32 × mm_M)) (hrec6 : ∀ (d0 : Nat) (x1 : Int32) (x3 : Int32) (x4 : Int32) (x5 : Int32) (M : mm_M), isD d0 = true → Snd injI j0_fewestCharges mm_X0 6 [some (.ref d0), some (.int x1), none, some (.int x3), some (.int x4), some (.int x5)] [] M (rec6 d0 x1 x3 x4 x5 M)) (d0 : Nat) (x1 : Int32) (x3 : Int32) (x4 : Int32) (x5 : Int32) (hd0 : isD d0 = true) (M : mm_M) : Snd injI j0_fewestCharges mm_X0 6 [some (.ref d0), some (.int x1), none, some (.int x3), some (.int x4), some (.int x5)] [] M (b0_fewestCharges_6  rec6 d0 x1 x3 x4 x5 M) := by
  unfold b0_fewestCharges_6
  refine sn_iload (j := j0_fewestCharges) (pc := 6) rfl dX0_fewestCharges_6 ?_
  refine sn_iload_n (j := j0_fewestCharges) (pc := 8) rfl rfl dX0_fewestCharges_8 ?_
  refine sn_icmp_ge (j := j0_fewestCharges) (pc := 9) 44 rfl dX0_fewestCharges_9 ?_ ?_
  · exact Snd.wk (sl0_fewestCharges_44 x5 M) (by simp [mm_le])
  · refine sn_iload (j := j0_fewestCharges) (pc := 12) rfl dX0_fewestCharges_12 ?_
    refine sn_sipush (j := j0_fewestCharges) (pc := 14) 200 rfl dX0_fewestCharges_14 ?_
    refine sn_icmp_ge (j := j0_fewestCharges) (pc := 17) 44 rfl dX0_fewestCharges_17 ?_ ?_
    · exact Snd.wk (sl0_fewestCharges_44 x5 M) (by simp [mm_le])
    · refine sn_iload (j := j0_fewestCharges) (pc := 20) rfl dX0_fewestCharges_20 ?_
      refine sn_aload_n (j := j0_fewestCharges) (pc := 22) rfl rfl dX0_fewestCharges_22 ?_
      refine sn_iload_n (j := j0_fewestCharges) (pc := 23) rfl rfl dX0_fewestCharges_23 ?_
      refine sn_iload (j := j0_fewestCharges) (pc := 24) rfl dX0_fewestCharges_24 ?_
      refine sn_aload_n (j := j0_fewestCharges) (pc := 26) rfl rfl dX0_fewestCharges_26 ?_
      refine g_X0_9 (j := j0_fewestCharges) (pc := 27) hd0 rfl dX0_fewestCharges_27 ?_
      refine sn_iconst (j := j0_fewestCharges) (pc := 30) 1 rfl dX0_fewestCharges_30 ?_
      refine sn_iald (j := j0_fewestCharges) (pc := 31) (isD_a1 hd0) (isD_p1 hd0) dX0_fewestCharges_31 (fun w_1 => ?_)
      refine sn_callV (j := j0_fewestCharges) (pc := 32) (jc := j0_gain) (As := [.int x1, .int x4, .int w_1]) (s0_gain d0 x1 x4 w_1 M) mm_hvI (by simp [Value.category]) (Nat.le_of_ble_eq_true rfl) q0_gain rfl (by decide) rfl (isD_obj hd0) (isD_pos hd0) w_ml_X0_91 w_im_X0_gain w_se_X0_gain rfl (Nat.le_of_ble_eq_true rfl) dX0_fewestCharges_32 ?_
      rintro ⟨r_2, M⟩
      show Snd injI j0_fewestCharges mm_X0 35 [some (.ref d0), some (.int x1), none, some (.int x3), some (.int x4), some (.int x5)] [.int r_2, .int x4] M _
      refine sn_iadd (j := j0_fewestCharges) (pc := 35) dX0_fewestCharges_35 ?_
      refine sn_istoreB (j := j0_fewestCharges) (pc := 36) (fun x4_3 => [some (.ref d0), some (.int x1), none, some (.int x3), some (.int x4_3), some (.int x5)]) (by decide) (fun _ => rfl) dX0_fewestCharges_36 (fun x4_3 => ?_)
      refine sn_iinc (j := j0_fewestCharges) (pc := 38) 1 rfl (by decide) rfl (lo' := [some (.ref d0), some (.int x1), none, some (.int x3), some (.int x4_3), some (.int (x5 + 1))]) rfl dX0_fewestCharges_38 ?_
      refine sn_goto (j := j0_fewestCharges) (pc := 41) 6 rfl dX0_fewestCharges_41 ?_
      exact Snd.wk (hrec6 d0 x1 x3 x4_3 (x5 + 1) M hd0) (by simp [mm_le])
def l0_fewestCharges_6  : Nat → Nat → Int32 → Int32 → Int32 → Int32 → mm_M → Option (Int32 × mm_M)
  | 0 => fun _ _ _ _ _ _ => none
  | n + 1 => fun d0 x1 x3 x4 x5 M => b0_fewestCharges_6  (l0_fewestCharges_6  n) d0 x1 x3 x4 x5 M
theorem sl0_fewestCharges_6   : ∀ (n : Nat) (d0 : Nat) (x1 : Int32) (x3 : Int32) (x4 : Int32) (x5 : Int32) (hd0 : isD d0 = true) (M : mm_M), Snd injI j0_fewestCharges mm_X0 6 [some (.ref d0), some (.int x1), none, some (.int x3), some (.int x4), some (.int x5)] [] M (l0_fewestCharges_6  n d0 x1 x3 x4 x5 M)
  | 0 => fun _ _ _ _ _ _ _ => Snd.none
  | n + 1 => fun d0 x1 x3 x4 x5 hd0 M => sb0_fewestCharges_6   (l0_fewestCharges_6  n) (fun d0 x1 x3 x4 x5 M hd0 => sl0_fewestCharges_6   n d0 x1 x3 x4 x5 hd0 M) d0 x1 x3 x4 x5 hd0 M
def f0_fewestCharges (d0 : Nat) (x1 : Int32) (x2 : Int32) (x3 : Int32) (M : mm_M) : Option (Int32 × mm_M) :=
  if isD d0 = true then (l0_fewestCharges_6 FU d0 x1 x3 x2 0 M) else none
set_option maxHeartbeats 2000000 in
theorem s0_fewestCharges (d0 : Nat) (x1 : Int32) (x2 : Int32) (x3 : Int32) (M : mm_M) : Snd injI j0_fewestCharges mm_X0 0 [some (.ref d0), some (.int x1), some (.int x2), some (.int x3)] [] M (f0_fewestCharges d0 x1 x2 x3 M) := by
  refine Snd.wk (lo' := [some (.ref d0), some (.int x1), some (.int x2), some (.int x3), none, none]) ?_ (by simp [mm_le])
  unfold f0_fewestCharges
  refine Snd.ite fun hd0 => ?_
  refine sn_iload_n (j := j0_fewestCharges) (pc := 0) rfl rfl dX0_fewestCharges_0 ?_
  refine sn_istore (j := j0_fewestCharges) (pc := 1) (by decide) (lo' := [some (.ref d0), some (.int x1), some (.int x2), some (.int x3), some (.int x2), none]) rfl dX0_fewestCharges_1 ?_
  refine sn_iconst (j := j0_fewestCharges) (pc := 3) 0 rfl dX0_fewestCharges_3 ?_
  refine sn_istore (j := j0_fewestCharges) (pc := 4) (by decide) (lo' := [some (.ref d0), some (.int x1), some (.int x2), some (.int x3), some (.int x2), some (.int 0)]) rfl dX0_fewestCharges_4 ?_
  exact Snd.wk (sl0_fewestCharges_6 FU d0 x1 x3 x2 0 hd0 M) (by simp [mm_le])

abbrev j0_topRate : mm_J := (yX0_topRate, cX0_topRate, 4, (some .int), 1)
theorem dX0_topRate_0 : decode cX0_topRate 0 = .ok (.iconst 1, 1) := by decide +kernel
theorem dX0_topRate_1 : decode cX0_topRate 1 = .ok (.istore_n 1, 1) := by decide +kernel
theorem dX0_topRate_2 : decode cX0_topRate 2 = .ok (.iconst 0, 1) := by decide +kernel
theorem dX0_topRate_3 : decode cX0_topRate 3 = .ok (.istore_n 2, 1) := by decide +kernel
theorem dX0_topRate_4 : decode cX0_topRate 4 = .ok (.iload_n 2, 1) := by decide +kernel
theorem dX0_topRate_5 : decode cX0_topRate 5 = .ok (.aload_n 0, 1) := by decide +kernel
theorem dX0_topRate_6 : decode cX0_topRate 6 = .ok (.getfield 40, 3) := by decide +kernel
theorem dX0_topRate_9 : decode cX0_topRate 9 = .ok (.if_icmp .ge 42, 3) := by decide +kernel
theorem dX0_topRate_12 : decode cX0_topRate 12 = .ok (.iconst 0, 1) := by decide +kernel
theorem dX0_topRate_13 : decode cX0_topRate 13 = .ok (.istore_n 3, 1) := by decide +kernel
theorem dX0_topRate_14 : decode cX0_topRate 14 = .ok (.iload_n 3, 1) := by decide +kernel
theorem dX0_topRate_15 : decode cX0_topRate 15 = .ok (.aload_n 0, 1) := by decide +kernel
theorem dX0_topRate_16 : decode cX0_topRate 16 = .ok (.getfield 21, 3) := by decide +kernel
theorem dX0_topRate_19 : decode cX0_topRate 19 = .ok (.iload_n 2, 1) := by decide +kernel
theorem dX0_topRate_20 : decode cX0_topRate 20 = .ok (.iaload, 1) := by decide +kernel
theorem dX0_topRate_21 : decode cX0_topRate 21 = .ok (.if_icmp .ge 24, 3) := by decide +kernel
theorem dX0_topRate_24 : decode cX0_topRate 24 = .ok (.iload_n 1, 1) := by decide +kernel
theorem dX0_topRate_25 : decode cX0_topRate 25 = .ok (.aload_n 0, 1) := by decide +kernel
theorem dX0_topRate_26 : decode cX0_topRate 26 = .ok (.getfield 27, 3) := by decide +kernel
theorem dX0_topRate_29 : decode cX0_topRate 29 = .ok (.iload_n 2, 1) := by decide +kernel
theorem dX0_topRate_30 : decode cX0_topRate 30 = .ok (.iconst 4, 1) := by decide +kernel
theorem dX0_topRate_31 : decode cX0_topRate 31 = .ok (.imul, 1) := by decide +kernel
theorem dX0_topRate_32 : decode cX0_topRate 32 = .ok (.iload_n 3, 1) := by decide +kernel
theorem dX0_topRate_33 : decode cX0_topRate 33 = .ok (.iadd, 1) := by decide +kernel
theorem dX0_topRate_34 : decode cX0_topRate 34 = .ok (.iaload, 1) := by decide +kernel
theorem dX0_topRate_35 : decode cX0_topRate 35 = .ok (.invokestatic 83, 3) := by decide +kernel
theorem dX0_topRate_38 : decode cX0_topRate 38 = .ok (.istore_n 1, 1) := by decide +kernel
theorem dX0_topRate_39 : decode cX0_topRate 39 = .ok (.iinc 3 1, 3) := by decide +kernel
theorem dX0_topRate_42 : decode cX0_topRate 42 = .ok (.goto (-28), 3) := by decide +kernel
theorem dX0_topRate_45 : decode cX0_topRate 45 = .ok (.iinc 2 1, 3) := by decide +kernel
theorem dX0_topRate_48 : decode cX0_topRate 48 = .ok (.goto (-44), 3) := by decide +kernel
theorem dX0_topRate_51 : decode cX0_topRate 51 = .ok (.iload_n 1, 1) := by decide +kernel
theorem dX0_topRate_52 : decode cX0_topRate 52 = .ok (.ireturn, 1) := by decide +kernel
def b0_topRate_14 (rec4 : Nat → Int32 → Int32 → mm_M → Option (Int32 × mm_M)) (rec14 : Nat → Int32 → Int32 → Int32 → mm_M → Option (Int32 × mm_M)) (d0 : Nat) (x1 : Int32) (x2 : Int32) (x3 : Int32) (M : mm_M) : Option (Int32 × mm_M) :=
  aI (d0 + 4) 4 x2 M (fun w_1 => if w_1 ≤ x3 then (rec4 d0 x1 (x2 + 1) M) else (aI (d0 + 6) 16 ((x2 * 4) + x3) M (fun w_2 => bI (mx x1 w_2) (fun v_3 => rec14 d0 v_3 x2 (x3 + 1) M))))
set_option maxHeartbeats 2000000 in
theorem sb0_topRate_14 (rec4 : Nat → Int32 → Int32 → mm_M → Option (Int32 × mm_M)) (hrec4 : ∀ (d0 : Nat) (x1 : Int32) (x2 : Int32) (M : mm_M), isD d0 = true → Snd injI j0_topRate mm_X0 4 [some (.ref d0), some (.int x1), some (.int x2), none] [] M (rec4 d0 x1 x2 M)) (rec14 : Nat → Int32 → Int32 → Int32 → mm_M → Option (Int32 × mm_M)) (hrec14 : ∀ (d0 : Nat) (x1 : Int32) (x2 : Int32) (x3 : Int32) (M : mm_M), isD d0 = true → Snd injI j0_topRate mm_X0 14 [some (.ref d0), some (.int x1), some (.int x2), some (.int x3)] [] M (rec14 d0 x1 x2 x3 M)) (d0 : Nat) (x1 : Int32) (x2 : Int32) (x3 : Int32) (hd0 : isD d0 = true) (M : mm_M) : Snd injI j0_topRate mm_X0 14 [some (.ref d0), some (.int x1), some (.int x2), some (.int x3)] [] M (b0_topRate_14 rec4 rec14 d0 x1 x2 x3 M) := by
  unfold b0_topRate_14
  refine sn_iload_n (j := j0_topRate) (pc := 14) rfl rfl dX0_topRate_14 ?_
  refine sn_aload_n (j := j0_topRate) (pc := 15) rfl rfl dX0_topRate_15 ?_
  refine g_X0_21 (j := j0_topRate) (pc := 16) hd0 rfl dX0_topRate_16 ?_
  refine sn_iload_n (j := j0_topRate) (pc := 19) rfl rfl dX0_topRate_19 ?_
  refine sn_iald (j := j0_topRate) (pc := 20) (isD_a4 hd0) (isD_p4 hd0) dX0_topRate_20 (fun w_1 => ?_)
  refine sn_icmp_ge (j := j0_topRate) (pc := 21) 45 rfl dX0_topRate_21 ?_ ?_
  · refine sn_iinc (j := j0_topRate) (pc := 45) 1 rfl (by decide) rfl (lo' := [some (.ref d0), some (.int x1), some (.int (x2 + 1)), some (.int x3)]) rfl dX0_topRate_45 ?_
    refine sn_goto (j := j0_topRate) (pc := 48) 4 rfl dX0_topRate_48 ?_
    exact Snd.wk (hrec4 d0 x1 (x2 + 1) M hd0) (by simp [mm_le])
  · refine sn_iload_n (j := j0_topRate) (pc := 24) rfl rfl dX0_topRate_24 ?_
    refine sn_aload_n (j := j0_topRate) (pc := 25) rfl rfl dX0_topRate_25 ?_
    refine g_X0_27 (j := j0_topRate) (pc := 26) hd0 rfl dX0_topRate_26 ?_
    refine sn_iload_n (j := j0_topRate) (pc := 29) rfl rfl dX0_topRate_29 ?_
    refine sn_iconst (j := j0_topRate) (pc := 30) 4 rfl dX0_topRate_30 ?_
    refine sn_imul (j := j0_topRate) (pc := 31) dX0_topRate_31 ?_
    refine sn_iload_n (j := j0_topRate) (pc := 32) rfl rfl dX0_topRate_32 ?_
    refine sn_iadd (j := j0_topRate) (pc := 33) dX0_topRate_33 ?_
    refine sn_iald (j := j0_topRate) (pc := 34) (isD_a6 hd0) (isD_p6 hd0) dX0_topRate_34 (fun w_2 => ?_)
    refine sn_max (j := j0_topRate) (pc := 35) w_ml_X0_83 w_max1 w_math w_max2 (by decide) (Nat.le_of_ble_eq_true rfl) dX0_topRate_35 ?_
    refine Snd.bI (fun v_3 => ?_)
    refine sn_istore_n (j := j0_topRate) (pc := 38) rfl (by decide) (lo' := [some (.ref d0), some (.int v_3), some (.int x2), some (.int x3)]) rfl dX0_topRate_38 ?_
    refine sn_iinc (j := j0_topRate) (pc := 39) 1 rfl (by decide) rfl (lo' := [some (.ref d0), some (.int v_3), some (.int x2), some (.int (x3 + 1))]) rfl dX0_topRate_39 ?_
    refine sn_goto (j := j0_topRate) (pc := 42) 14 rfl dX0_topRate_42 ?_
    exact Snd.wk (hrec14 d0 v_3 x2 (x3 + 1) M hd0) (by simp [mm_le])
def l0_topRate_14 (rec4 : Nat → Int32 → Int32 → mm_M → Option (Int32 × mm_M)) : Nat → Nat → Int32 → Int32 → Int32 → mm_M → Option (Int32 × mm_M)
  | 0 => fun _ _ _ _ _ => none
  | n + 1 => fun d0 x1 x2 x3 M => b0_topRate_14 rec4 (l0_topRate_14 rec4 n) d0 x1 x2 x3 M
theorem sl0_topRate_14 (rec4 : Nat → Int32 → Int32 → mm_M → Option (Int32 × mm_M)) (hrec4 : ∀ (d0 : Nat) (x1 : Int32) (x2 : Int32) (M : mm_M), isD d0 = true → Snd injI j0_topRate mm_X0 4 [some (.ref d0), some (.int x1), some (.int x2), none] [] M (rec4 d0 x1 x2 M)) : ∀ (n : Nat) (d0 : Nat) (x1 : Int32) (x2 : Int32) (x3 : Int32) (hd0 : isD d0 = true) (M : mm_M), Snd injI j0_topRate mm_X0 14 [some (.ref d0), some (.int x1), some (.int x2), some (.int x3)] [] M (l0_topRate_14 rec4 n d0 x1 x2 x3 M)
  | 0 => fun _ _ _ _ _ _ => Snd.none
  | n + 1 => fun d0 x1 x2 x3 hd0 M => sb0_topRate_14 rec4 hrec4 (l0_topRate_14 rec4 n) (fun d0 x1 x2 x3 M hd0 => sl0_topRate_14 rec4 hrec4 n d0 x1 x2 x3 hd0 M) d0 x1 x2 x3 hd0 M
def b0_topRate_4  (rec4 : Nat → Int32 → Int32 → mm_M → Option (Int32 × mm_M)) (d0 : Nat) (x1 : Int32) (x2 : Int32) (M : mm_M) : Option (Int32 × mm_M) :=
  bI (mI M d0 1) (fun v_4 => if v_4 ≤ x2 then (some (x1, M)) else (l0_topRate_14 rec4 FU d0 x1 x2 0 M))
set_option maxHeartbeats 2000000 in
theorem sb0_topRate_4   (rec4 : Nat → Int32 → Int32 → mm_M → Option (Int32 × mm_M)) (hrec4 : ∀ (d0 : Nat) (x1 : Int32) (x2 : Int32) (M : mm_M), isD d0 = true → Snd injI j0_topRate mm_X0 4 [some (.ref d0), some (.int x1), some (.int x2), none] [] M (rec4 d0 x1 x2 M)) (d0 : Nat) (x1 : Int32) (x2 : Int32) (hd0 : isD d0 = true) (M : mm_M) : Snd injI j0_topRate mm_X0 4 [some (.ref d0), some (.int x1), some (.int x2), none] [] M (b0_topRate_4  rec4 d0 x1 x2 M) := by
  unfold b0_topRate_4
  refine sn_iload_n (j := j0_topRate) (pc := 4) rfl rfl dX0_topRate_4 ?_
  refine sn_aload_n (j := j0_topRate) (pc := 5) rfl rfl dX0_topRate_5 ?_
  refine g_X0_40 (j := j0_topRate) (pc := 6) hd0 rfl dX0_topRate_6 ?_
  refine Snd.bI (fun v_4 => ?_)
  refine sn_icmp_ge (j := j0_topRate) (pc := 9) 51 rfl dX0_topRate_9 ?_ ?_
  · refine sn_iload_n (j := j0_topRate) (pc := 51) rfl rfl dX0_topRate_51 ?_
    exact sn_iret (j := j0_topRate) (pc := 52) rfl dX0_topRate_52
  · refine sn_iconst (j := j0_topRate) (pc := 12) 0 rfl dX0_topRate_12 ?_
    refine sn_istore_n (j := j0_topRate) (pc := 13) rfl (by decide) (lo' := [some (.ref d0), some (.int x1), some (.int x2), some (.int 0)]) rfl dX0_topRate_13 ?_
    exact Snd.wk (sl0_topRate_14 rec4 hrec4 FU d0 x1 x2 0 hd0 M) (by simp [mm_le])
def l0_topRate_4  : Nat → Nat → Int32 → Int32 → mm_M → Option (Int32 × mm_M)
  | 0 => fun _ _ _ _ => none
  | n + 1 => fun d0 x1 x2 M => b0_topRate_4  (l0_topRate_4  n) d0 x1 x2 M
theorem sl0_topRate_4   : ∀ (n : Nat) (d0 : Nat) (x1 : Int32) (x2 : Int32) (hd0 : isD d0 = true) (M : mm_M), Snd injI j0_topRate mm_X0 4 [some (.ref d0), some (.int x1), some (.int x2), none] [] M (l0_topRate_4  n d0 x1 x2 M)
  | 0 => fun _ _ _ _ _ => Snd.none
  | n + 1 => fun d0 x1 x2 hd0 M => sb0_topRate_4   (l0_topRate_4  n) (fun d0 x1 x2 M hd0 => sl0_topRate_4   n d0 x1 x2 hd0 M) d0 x1 x2 hd0 M
def f0_topRate (d0 : Nat) (M : mm_M) : Option (Int32 × mm_M) :=
  if isD d0 = true then (l0_topRate_4 FU d0 1 0 M) else none
set_option maxHeartbeats 2000000 in
theorem s0_topRate (d0 : Nat) (M : mm_M) : Snd injI j0_topRate mm_X0 0 [some (.ref d0)] [] M (f0_topRate d0 M) := by
  refine Snd.wk (lo' := [some (.ref d0), none, none, none]) ?_ (by simp [mm_le])
  unfold f0_topRate
  refine Snd.ite fun hd0 => ?_
  refine sn_iconst (j := j0_topRate) (pc := 0) 1 rfl dX0_topRate_0 ?_
  refine sn_istore_n (j := j0_topRate) (pc := 1) rfl (by decide) (lo' := [some (.ref d0), some (.int 1), none, none]) rfl dX0_topRate_1 ?_
  refine sn_iconst (j := j0_topRate) (pc := 2) 0 rfl dX0_topRate_2 ?_
  refine sn_istore_n (j := j0_topRate) (pc := 3) rfl (by decide) (lo' := [some (.ref d0), some (.int 1), some (.int 0), none]) rfl dX0_topRate_3 ?_
  exact Snd.wk (sl0_topRate_4 FU d0 1 0 hd0 M) (by simp [mm_le])
