abbrev j4_rankOf : mm_J := (yX4_rankOf, cX4_rankOf, 6, (some .int), 3)
theorem dX4_rankOf_0 : decode cX4_rankOf 0 = .ok (.aload_n 1, 1) := by decide +kernel
theorem dX4_rankOf_1 : decode cX4_rankOf 1 = .ok (.iload_n 3, 1) := by decide +kernel
theorem dX4_rankOf_2 : decode cX4_rankOf 2 = .ok (.iconst 3, 1) := by decide +kernel
theorem dX4_rankOf_3 : decode cX4_rankOf 3 = .ok (.invokevirtual 27, 3) := by decide +kernel
theorem dX4_rankOf_6 : decode cX4_rankOf 6 = .ok (.istore 5, 2) := by decide +kernel
theorem dX4_rankOf_8 : decode cX4_rankOf 8 = .ok (.iload_n 2, 1) := by decide +kernel
theorem dX4_rankOf_9 : decode cX4_rankOf 9 = .ok (.tableswitch 68 1 3 #[27, 34, 44], 27) := by decide +kernel
theorem dX4_rankOf_36 : decode cX4_rankOf 36 = .ok (.aload_n 1, 1) := by decide +kernel
theorem dX4_rankOf_37 : decode cX4_rankOf 37 = .ok (.iload_n 3, 1) := by decide +kernel
theorem dX4_rankOf_38 : decode cX4_rankOf 38 = .ok (.iconst 5, 1) := by decide +kernel
theorem dX4_rankOf_39 : decode cX4_rankOf 39 = .ok (.invokevirtual 27, 3) := by decide +kernel
theorem dX4_rankOf_42 : decode cX4_rankOf 42 = .ok (.ireturn, 1) := by decide +kernel
theorem dX4_rankOf_43 : decode cX4_rankOf 43 = .ok (.aload_n 0, 1) := by decide +kernel
theorem dX4_rankOf_44 : decode cX4_rankOf 44 = .ok (.getfield 15, 3) := by decide +kernel
theorem dX4_rankOf_47 : decode cX4_rankOf 47 = .ok (.iload_n 3, 1) := by decide +kernel
theorem dX4_rankOf_48 : decode cX4_rankOf 48 = .ok (.iaload, 1) := by decide +kernel
theorem dX4_rankOf_49 : decode cX4_rankOf 49 = .ok (.iload 5, 2) := by decide +kernel
theorem dX4_rankOf_51 : decode cX4_rankOf 51 = .ok (.isub, 1) := by decide +kernel
theorem dX4_rankOf_52 : decode cX4_rankOf 52 = .ok (.ireturn, 1) := by decide +kernel
theorem dX4_rankOf_53 : decode cX4_rankOf 53 = .ok (.aload_n 1, 1) := by decide +kernel
theorem dX4_rankOf_54 : decode cX4_rankOf 54 = .ok (.iload_n 3, 1) := by decide +kernel
theorem dX4_rankOf_55 : decode cX4_rankOf 55 = .ok (.iconst 5, 1) := by decide +kernel
theorem dX4_rankOf_56 : decode cX4_rankOf 56 = .ok (.invokevirtual 27, 3) := by decide +kernel
theorem dX4_rankOf_59 : decode cX4_rankOf 59 = .ok (.iload 4, 2) := by decide +kernel
theorem dX4_rankOf_61 : decode cX4_rankOf 61 = .ok (.isub, 1) := by decide +kernel
theorem dX4_rankOf_62 : decode cX4_rankOf 62 = .ok (.aload_n 1, 1) := by decide +kernel
theorem dX4_rankOf_63 : decode cX4_rankOf 63 = .ok (.iload_n 3, 1) := by decide +kernel
theorem dX4_rankOf_64 : decode cX4_rankOf 64 = .ok (.aload_n 0, 1) := by decide +kernel
theorem dX4_rankOf_65 : decode cX4_rankOf 65 = .ok (.getfield 15, 3) := by decide +kernel
theorem dX4_rankOf_68 : decode cX4_rankOf 68 = .ok (.iload_n 3, 1) := by decide +kernel
theorem dX4_rankOf_69 : decode cX4_rankOf 69 = .ok (.iaload, 1) := by decide +kernel
theorem dX4_rankOf_70 : decode cX4_rankOf 70 = .ok (.iload 5, 2) := by decide +kernel
theorem dX4_rankOf_72 : decode cX4_rankOf 72 = .ok (.invokevirtual 60, 3) := by decide +kernel
theorem dX4_rankOf_75 : decode cX4_rankOf 75 = .ok (.isub, 1) := by decide +kernel
theorem dX4_rankOf_76 : decode cX4_rankOf 76 = .ok (.ireturn, 1) := by decide +kernel
theorem dX4_rankOf_77 : decode cX4_rankOf 77 = .ok (.iload_n 3, 1) := by decide +kernel
theorem dX4_rankOf_78 : decode cX4_rankOf 78 = .ok (.ireturn, 1) := by decide +kernel
def f4_rankOf (d1 : Nat) (x2 : Int32) (x3 : Int32) (x4 : Int32) (M : mm_M) : Option (Int32 × mm_M) :=
  if isD d1 = true then (cI (f0_fact d1 x3 3 M) (fun r_1 M => if x2 = 1 then (cI (f0_fact d1 x3 5 M) (fun r_3 M => some (r_3, M))) else (if x2 = 2 then (aI 43 4 x3 M (fun w_4 => some (w_4 - r_1, M))) else (if x2 = 3 then (cI (f0_fact d1 x3 5 M) (fun r_5 M => aI 43 4 x3 M (fun w_6 => cI (f0_fewestCharges d1 x3 w_6 r_1 M) (fun r_7 M => some ((r_5 - x4) - r_7, M))))) else (some (x3, M)))))) else none
set_option maxHeartbeats 2000000 in
theorem s4_rankOf (d1 : Nat) (x2 : Int32) (x3 : Int32) (x4 : Int32) (M : mm_M) : Snd injI j4_rankOf mm_X0 0 [some (.ref 41), some (.ref d1), some (.int x2), some (.int x3), some (.int x4)] [] M (f4_rankOf d1 x2 x3 x4 M) := by
  refine Snd.wk (lo' := [some (.ref 41), some (.ref d1), some (.int x2), some (.int x3), some (.int x4), none]) ?_ (by simp [mm_le])
  unfold f4_rankOf
  refine Snd.ite fun hd1 => ?_
  refine sn_aload_n (j := j4_rankOf) (pc := 0) rfl rfl dX4_rankOf_0 ?_
  refine sn_iload_n (j := j4_rankOf) (pc := 1) rfl rfl dX4_rankOf_1 ?_
  refine sn_iconst (j := j4_rankOf) (pc := 2) 3 rfl dX4_rankOf_2 ?_
  refine sn_callV (j := j4_rankOf) (pc := 3) (jc := j0_fact) (As := [.int x3, .int 3]) (s0_fact d1 x3 3 M) mm_hvI (by simp [Value.category]) (Nat.le_of_ble_eq_true rfl) q0_fact rfl (by decide) rfl (isD_obj hd1) (isD_pos hd1) w_ml_X4_27 w_im_X0_fact w_se_X0_fact rfl (Nat.le_of_ble_eq_true rfl) dX4_rankOf_3 ?_
  rintro ⟨r_1, M⟩
  show Snd injI j4_rankOf mm_X0 6 [some (.ref 41), some (.ref d1), some (.int x2), some (.int x3), some (.int x4), none] [.int r_1] M _
  refine sn_istore (j := j4_rankOf) (pc := 6) (by decide) (lo' := [some (.ref 41), some (.ref d1), some (.int x2), some (.int x3), some (.int x4), some (.int r_1)]) rfl dX4_rankOf_6 ?_
  refine sn_iload_n (j := j4_rankOf) (pc := 8) rfl rfl dX4_rankOf_8 ?_
  refine Snd.ifc (fun hx_2_1 => ?_) (fun hx_2_1 => ?_)
  · refine sn_tbl (j := j4_rankOf) (pc := 9) 36 hx_2_1 rfl dX4_rankOf_9 (by decide) (by decide) rfl rfl ?_
    refine sn_aload_n (j := j4_rankOf) (pc := 36) rfl rfl dX4_rankOf_36 ?_
    refine sn_iload_n (j := j4_rankOf) (pc := 37) rfl rfl dX4_rankOf_37 ?_
    refine sn_iconst (j := j4_rankOf) (pc := 38) 5 rfl dX4_rankOf_38 ?_
    refine sn_callV (j := j4_rankOf) (pc := 39) (jc := j0_fact) (As := [.int x3, .int 5]) (s0_fact d1 x3 5 M) mm_hvI (by simp [Value.category]) (Nat.le_of_ble_eq_true rfl) q0_fact rfl (by decide) rfl (isD_obj hd1) (isD_pos hd1) w_ml_X4_27 w_im_X0_fact w_se_X0_fact rfl (Nat.le_of_ble_eq_true rfl) dX4_rankOf_39 ?_
    rintro ⟨r_3, M⟩
    show Snd injI j4_rankOf mm_X0 42 [some (.ref 41), some (.ref d1), some (.int x2), some (.int x3), some (.int x4), some (.int r_1)] [.int r_3] M _
    exact sn_iret (j := j4_rankOf) (pc := 42) rfl dX4_rankOf_42
  refine Snd.ifc (fun hx_2_2 => ?_) (fun hx_2_2 => ?_)
  · refine sn_tbl (j := j4_rankOf) (pc := 9) 43 hx_2_2 rfl dX4_rankOf_9 (by decide) (by decide) rfl rfl ?_
    refine sn_aload_n (j := j4_rankOf) (pc := 43) rfl rfl dX4_rankOf_43 ?_
    refine g_X4_15 (j := j4_rankOf) (pc := 44) rfl dX4_rankOf_44 ?_
    refine sn_iload_n (j := j4_rankOf) (pc := 47) rfl rfl dX4_rankOf_47 ?_
    refine sn_iald (j := j4_rankOf) (pc := 48) rfl ⟨by decide, by decide⟩ dX4_rankOf_48 (fun w_4 => ?_)
    refine sn_iload (j := j4_rankOf) (pc := 49) rfl dX4_rankOf_49 ?_
    refine sn_isub (j := j4_rankOf) (pc := 51) dX4_rankOf_51 ?_
    exact sn_iret (j := j4_rankOf) (pc := 52) rfl dX4_rankOf_52
  refine Snd.ifc (fun hx_2_3 => ?_) (fun hx_2_3 => ?_)
  · refine sn_tbl (j := j4_rankOf) (pc := 9) 53 hx_2_3 rfl dX4_rankOf_9 (by decide) (by decide) rfl rfl ?_
    refine sn_aload_n (j := j4_rankOf) (pc := 53) rfl rfl dX4_rankOf_53 ?_
    refine sn_iload_n (j := j4_rankOf) (pc := 54) rfl rfl dX4_rankOf_54 ?_
    refine sn_iconst (j := j4_rankOf) (pc := 55) 5 rfl dX4_rankOf_55 ?_
    refine sn_callV (j := j4_rankOf) (pc := 56) (jc := j0_fact) (As := [.int x3, .int 5]) (s0_fact d1 x3 5 M) mm_hvI (by simp [Value.category]) (Nat.le_of_ble_eq_true rfl) q0_fact rfl (by decide) rfl (isD_obj hd1) (isD_pos hd1) w_ml_X4_27 w_im_X0_fact w_se_X0_fact rfl (Nat.le_of_ble_eq_true rfl) dX4_rankOf_56 ?_
    rintro ⟨r_5, M⟩
    show Snd injI j4_rankOf mm_X0 59 [some (.ref 41), some (.ref d1), some (.int x2), some (.int x3), some (.int x4), some (.int r_1)] [.int r_5] M _
    refine sn_iload (j := j4_rankOf) (pc := 59) rfl dX4_rankOf_59 ?_
    refine sn_isub (j := j4_rankOf) (pc := 61) dX4_rankOf_61 ?_
    refine sn_aload_n (j := j4_rankOf) (pc := 62) rfl rfl dX4_rankOf_62 ?_
    refine sn_iload_n (j := j4_rankOf) (pc := 63) rfl rfl dX4_rankOf_63 ?_
    refine sn_aload_n (j := j4_rankOf) (pc := 64) rfl rfl dX4_rankOf_64 ?_
    refine g_X4_15 (j := j4_rankOf) (pc := 65) rfl dX4_rankOf_65 ?_
    refine sn_iload_n (j := j4_rankOf) (pc := 68) rfl rfl dX4_rankOf_68 ?_
    refine sn_iald (j := j4_rankOf) (pc := 69) rfl ⟨by decide, by decide⟩ dX4_rankOf_69 (fun w_6 => ?_)
    refine sn_iload (j := j4_rankOf) (pc := 70) rfl dX4_rankOf_70 ?_
    refine sn_callV (j := j4_rankOf) (pc := 72) (jc := j0_fewestCharges) (As := [.int x3, .int w_6, .int r_1]) (s0_fewestCharges d1 x3 w_6 r_1 M) mm_hvI (by simp [Value.category]) (Nat.le_of_ble_eq_true rfl) q0_fewestCharges rfl (by decide) rfl (isD_obj hd1) (isD_pos hd1) w_ml_X4_60 w_im_X0_fewestCharges w_se_X0_fewestCharges rfl (Nat.le_of_ble_eq_true rfl) dX4_rankOf_72 ?_
    rintro ⟨r_7, M⟩
    show Snd injI j4_rankOf mm_X0 75 [some (.ref 41), some (.ref d1), some (.int x2), some (.int x3), some (.int x4), some (.int r_1)] [.int r_7, .int (r_5 - x4)] M _
    refine sn_isub (j := j4_rankOf) (pc := 75) dX4_rankOf_75 ?_
    exact sn_iret (j := j4_rankOf) (pc := 76) rfl dX4_rankOf_76
  refine sn_tblO (j := j4_rankOf) (pc := 9) 77 dX4_rankOf_9 (by have := lv_neT hx_2_1 (show (1 : Int32).toInt = 1 from rfl); have := lv_neT hx_2_2 (show (2 : Int32).toInt = 2 from rfl); have := lv_neT hx_2_3 (show (3 : Int32).toInt = 3 from rfl); omega) rfl ?_
  refine sn_iload_n (j := j4_rankOf) (pc := 77) rfl rfl dX4_rankOf_77 ?_
  exact sn_iret (j := j4_rankOf) (pc := 78) rfl dX4_rankOf_78

abbrev j4_firstOf : mm_J := (yX4_firstOf, cX4_firstOf, 4, (some .int), 0)
theorem dX4_firstOf_0 : decode cX4_firstOf 0 = .ok (.getstatic 63, 3) := by decide +kernel
theorem dX4_firstOf_3 : decode cX4_firstOf 3 = .ok (.iload_n 1, 1) := by decide +kernel
theorem dX4_firstOf_4 : decode cX4_firstOf 4 = .ok (.iaload, 1) := by decide +kernel
theorem dX4_firstOf_5 : decode cX4_firstOf 5 = .ok (.istore_n 2, 1) := by decide +kernel
theorem dX4_firstOf_6 : decode cX4_firstOf 6 = .ok (.iload_n 2, 1) := by decide +kernel
theorem dX4_firstOf_7 : decode cX4_firstOf 7 = .ok (.iconst 1, 1) := by decide +kernel
theorem dX4_firstOf_8 : decode cX4_firstOf 8 = .ok (.iadd, 1) := by decide +kernel
theorem dX4_firstOf_9 : decode cX4_firstOf 9 = .ok (.istore_n 3, 1) := by decide +kernel
theorem dX4_firstOf_10 : decode cX4_firstOf 10 = .ok (.iload_n 3, 1) := by decide +kernel
theorem dX4_firstOf_11 : decode cX4_firstOf 11 = .ok (.iconst 4, 1) := by decide +kernel
theorem dX4_firstOf_12 : decode cX4_firstOf 12 = .ok (.if_icmp .ge 35, 3) := by decide +kernel
theorem dX4_firstOf_15 : decode cX4_firstOf 15 = .ok (.iload_n 1, 1) := by decide +kernel
theorem dX4_firstOf_16 : decode cX4_firstOf 16 = .ok (.iload_n 3, 1) := by decide +kernel
theorem dX4_firstOf_17 : decode cX4_firstOf 17 = .ok (.ishr, 1) := by decide +kernel
theorem dX4_firstOf_18 : decode cX4_firstOf 18 = .ok (.iconst 1, 1) := by decide +kernel
theorem dX4_firstOf_19 : decode cX4_firstOf 19 = .ok (.iand, 1) := by decide +kernel
theorem dX4_firstOf_20 : decode cX4_firstOf 20 = .ok (.iconst 1, 1) := by decide +kernel
theorem dX4_firstOf_21 : decode cX4_firstOf 21 = .ok (.if_icmp .ne 20, 3) := by decide +kernel
theorem dX4_firstOf_24 : decode cX4_firstOf 24 = .ok (.aload_n 0, 1) := by decide +kernel
theorem dX4_firstOf_25 : decode cX4_firstOf 25 = .ok (.getfield 18, 3) := by decide +kernel
theorem dX4_firstOf_28 : decode cX4_firstOf 28 = .ok (.iload_n 3, 1) := by decide +kernel
theorem dX4_firstOf_29 : decode cX4_firstOf 29 = .ok (.iaload, 1) := by decide +kernel
theorem dX4_firstOf_30 : decode cX4_firstOf 30 = .ok (.aload_n 0, 1) := by decide +kernel
theorem dX4_firstOf_31 : decode cX4_firstOf 31 = .ok (.getfield 18, 3) := by decide +kernel
theorem dX4_firstOf_34 : decode cX4_firstOf 34 = .ok (.iload_n 2, 1) := by decide +kernel
theorem dX4_firstOf_35 : decode cX4_firstOf 35 = .ok (.iaload, 1) := by decide +kernel
theorem dX4_firstOf_36 : decode cX4_firstOf 36 = .ok (.if_icmp .ge 5, 3) := by decide +kernel
theorem dX4_firstOf_39 : decode cX4_firstOf 39 = .ok (.iload_n 3, 1) := by decide +kernel
theorem dX4_firstOf_40 : decode cX4_firstOf 40 = .ok (.istore_n 2, 1) := by decide +kernel
theorem dX4_firstOf_41 : decode cX4_firstOf 41 = .ok (.iinc 3 1, 3) := by decide +kernel
theorem dX4_firstOf_44 : decode cX4_firstOf 44 = .ok (.goto (-34), 3) := by decide +kernel
theorem dX4_firstOf_47 : decode cX4_firstOf 47 = .ok (.iload_n 2, 1) := by decide +kernel
theorem dX4_firstOf_48 : decode cX4_firstOf 48 = .ok (.ireturn, 1) := by decide +kernel
def l4_firstOf_41 (rec10 : Int32 → Int32 → Int32 → mm_M → Option (Int32 × mm_M)) (x1 : Int32) (x2 : Int32) (x3 : Int32) (M : mm_M) : Option (Int32 × mm_M) :=
  rec10 x1 x2 (x3 + 1) M
set_option maxHeartbeats 2000000 in
theorem sl4_firstOf_41 (rec10 : Int32 → Int32 → Int32 → mm_M → Option (Int32 × mm_M)) (hrec10 : ∀ (x1 : Int32) (x2 : Int32) (x3 : Int32) (M : mm_M), Snd injI j4_firstOf mm_X0 10 [some (.ref 41), some (.int x1), some (.int x2), some (.int x3)] [] M (rec10 x1 x2 x3 M)) (x1 : Int32) (x2 : Int32) (x3 : Int32)  (M : mm_M) : Snd injI j4_firstOf mm_X0 41 [some (.ref 41), some (.int x1), some (.int x2), some (.int x3)] [] M (l4_firstOf_41 rec10 x1 x2 x3 M) := by
  unfold l4_firstOf_41
  refine sn_iinc (j := j4_firstOf) (pc := 41) 1 rfl (by decide) rfl (lo' := [some (.ref 41), some (.int x1), some (.int x2), some (.int (x3 + 1))]) rfl dX4_firstOf_41 ?_
  refine sn_goto (j := j4_firstOf) (pc := 44) 10 rfl dX4_firstOf_44 ?_
  exact Snd.wk (hrec10 x1 x2 (x3 + 1) M ) (by simp [mm_le])
def b4_firstOf_10  (rec10 : Int32 → Int32 → Int32 → mm_M → Option (Int32 × mm_M)) (x1 : Int32) (x2 : Int32) (x3 : Int32) (M : mm_M) : Option (Int32 × mm_M) :=
  if 4 ≤ x3 then (some (x2, M)) else (if ((x1 >>> (x3 &&& 31)) &&& 1) = 1 then (aI 44 4 x3 M (fun w_1 => aI 44 4 x2 M (fun w_2 => if w_2 ≤ w_1 then (l4_firstOf_41 rec10 x1 x2 x3 M) else (l4_firstOf_41 rec10 x1 x3 x3 M)))) else (l4_firstOf_41 rec10 x1 x2 x3 M))
set_option maxHeartbeats 2000000 in
theorem sb4_firstOf_10   (rec10 : Int32 → Int32 → Int32 → mm_M → Option (Int32 × mm_M)) (hrec10 : ∀ (x1 : Int32) (x2 : Int32) (x3 : Int32) (M : mm_M), Snd injI j4_firstOf mm_X0 10 [some (.ref 41), some (.int x1), some (.int x2), some (.int x3)] [] M (rec10 x1 x2 x3 M)) (x1 : Int32) (x2 : Int32) (x3 : Int32)  (M : mm_M) : Snd injI j4_firstOf mm_X0 10 [some (.ref 41), some (.int x1), some (.int x2), some (.int x3)] [] M (b4_firstOf_10  rec10 x1 x2 x3 M) := by
  unfold b4_firstOf_10
  refine sn_iload_n (j := j4_firstOf) (pc := 10) rfl rfl dX4_firstOf_10 ?_
  refine sn_iconst (j := j4_firstOf) (pc := 11) 4 rfl dX4_firstOf_11 ?_
  refine sn_icmp_ge (j := j4_firstOf) (pc := 12) 47 rfl dX4_firstOf_12 ?_ ?_
  · refine sn_iload_n (j := j4_firstOf) (pc := 47) rfl rfl dX4_firstOf_47 ?_
    exact sn_iret (j := j4_firstOf) (pc := 48) rfl dX4_firstOf_48
  · refine sn_iload_n (j := j4_firstOf) (pc := 15) rfl rfl dX4_firstOf_15 ?_
    refine sn_iload_n (j := j4_firstOf) (pc := 16) rfl rfl dX4_firstOf_16 ?_
    refine sn_ishr (j := j4_firstOf) (pc := 17) dX4_firstOf_17 ?_
    refine sn_iconst (j := j4_firstOf) (pc := 18) 1 rfl dX4_firstOf_18 ?_
    refine sn_iand (j := j4_firstOf) (pc := 19) dX4_firstOf_19 ?_
    refine sn_iconst (j := j4_firstOf) (pc := 20) 1 rfl dX4_firstOf_20 ?_
    refine sn_icmp_ne (j := j4_firstOf) (pc := 21) 41 rfl dX4_firstOf_21 ?_ ?_
    · exact Snd.wk (sl4_firstOf_41 rec10 hrec10 x1 x2 x3 M) (by simp [mm_le])
    · refine sn_aload_n (j := j4_firstOf) (pc := 24) rfl rfl dX4_firstOf_24 ?_
      refine g_X4_18 (j := j4_firstOf) (pc := 25) rfl dX4_firstOf_25 ?_
      refine sn_iload_n (j := j4_firstOf) (pc := 28) rfl rfl dX4_firstOf_28 ?_
      refine sn_iald (j := j4_firstOf) (pc := 29) rfl ⟨by decide, by decide⟩ dX4_firstOf_29 (fun w_1 => ?_)
      refine sn_aload_n (j := j4_firstOf) (pc := 30) rfl rfl dX4_firstOf_30 ?_
      refine g_X4_18 (j := j4_firstOf) (pc := 31) rfl dX4_firstOf_31 ?_
      refine sn_iload_n (j := j4_firstOf) (pc := 34) rfl rfl dX4_firstOf_34 ?_
      refine sn_iald (j := j4_firstOf) (pc := 35) rfl ⟨by decide, by decide⟩ dX4_firstOf_35 (fun w_2 => ?_)
      refine sn_icmp_ge (j := j4_firstOf) (pc := 36) 41 rfl dX4_firstOf_36 ?_ ?_
      · exact Snd.wk (sl4_firstOf_41 rec10 hrec10 x1 x2 x3 M) (by simp [mm_le])
      · refine sn_iload_n (j := j4_firstOf) (pc := 39) rfl rfl dX4_firstOf_39 ?_
        refine sn_istore_n (j := j4_firstOf) (pc := 40) rfl (by decide) (lo' := [some (.ref 41), some (.int x1), some (.int x3), some (.int x3)]) rfl dX4_firstOf_40 ?_
        exact Snd.wk (sl4_firstOf_41 rec10 hrec10 x1 x3 x3 M) (by simp [mm_le])
def l4_firstOf_10  : Nat → Int32 → Int32 → Int32 → mm_M → Option (Int32 × mm_M)
  | 0 => fun _ _ _ _ => none
  | n + 1 => fun x1 x2 x3 M => b4_firstOf_10  (l4_firstOf_10  n) x1 x2 x3 M
theorem sl4_firstOf_10   : ∀ (n : Nat) (x1 : Int32) (x2 : Int32) (x3 : Int32)  (M : mm_M), Snd injI j4_firstOf mm_X0 10 [some (.ref 41), some (.int x1), some (.int x2), some (.int x3)] [] M (l4_firstOf_10  n x1 x2 x3 M)
  | 0 => fun _ _ _  _ => Snd.none
  | n + 1 => fun x1 x2 x3  M => sb4_firstOf_10   (l4_firstOf_10  n) (fun x1 x2 x3 M  => sl4_firstOf_10   n x1 x2 x3  M) x1 x2 x3  M
def f4_firstOf (x1 : Int32) (M : mm_M) : Option (Int32 × mm_M) :=
  aT 2 16 x1 (fun w_3 => bI (w_3 + 1) (fun x3_4 => l4_firstOf_10 FU x1 w_3 x3_4 M))
set_option maxHeartbeats 2000000 in
theorem s4_firstOf (x1 : Int32) (M : mm_M) : Snd injI j4_firstOf mm_X0 0 [some (.ref 41), some (.int x1)] [] M (f4_firstOf x1 M) := by
  refine Snd.wk (lo' := [some (.ref 41), some (.int x1), none, none]) ?_ (by simp [mm_le])
  unfold f4_firstOf
  refine sn_gstN (j := j4_firstOf) (pc := 0) (t := 2) mm_Z2 mm_rn_X4_63 dX4_firstOf_0 ?_
  refine sn_iload_n (j := j4_firstOf) (pc := 3) rfl rfl dX4_firstOf_3 ?_
  refine sn_tald (j := j4_firstOf) (pc := 4) (t := 2) mm_T2 dX4_firstOf_4 (fun w_3 => ?_)
  refine sn_istore_n (j := j4_firstOf) (pc := 5) rfl (by decide) (lo' := [some (.ref 41), some (.int x1), some (.int w_3), none]) rfl dX4_firstOf_5 ?_
  refine sn_iload_n (j := j4_firstOf) (pc := 6) rfl rfl dX4_firstOf_6 ?_
  refine sn_iconst (j := j4_firstOf) (pc := 7) 1 rfl dX4_firstOf_7 ?_
  refine sn_iadd (j := j4_firstOf) (pc := 8) dX4_firstOf_8 ?_
  refine sn_istoreB_n (j := j4_firstOf) (pc := 9) rfl (fun x3_4 => [some (.ref 41), some (.int x1), some (.int w_3), some (.int x3_4)]) (by decide) (fun _ => rfl) dX4_firstOf_9 (fun x3_4 => ?_)
  exact Snd.wk (sl4_firstOf_10 FU x1 w_3 x3_4 M) (by simp [mm_le])

abbrev j4_chargeSlot : mm_J := (yX4_chargeSlot, cX4_chargeSlot, 10, (some .int), 4)
theorem dX4_chargeSlot_0 : decode cX4_chargeSlot 0 = .ok (.iconst 0, 1) := by decide +kernel
theorem dX4_chargeSlot_1 : decode cX4_chargeSlot 1 = .ok (.istore 4, 2) := by decide +kernel
theorem dX4_chargeSlot_3 : decode cX4_chargeSlot 3 = .ok (.iconst 0, 1) := by decide +kernel
theorem dX4_chargeSlot_4 : decode cX4_chargeSlot 4 = .ok (.istore 5, 2) := by decide +kernel
theorem dX4_chargeSlot_6 : decode cX4_chargeSlot 6 = .ok (.iload 5, 2) := by decide +kernel
theorem dX4_chargeSlot_8 : decode cX4_chargeSlot 8 = .ok (.aload_n 1, 1) := by decide +kernel
theorem dX4_chargeSlot_9 : decode cX4_chargeSlot 9 = .ok (.getfield 21, 3) := by decide +kernel
theorem dX4_chargeSlot_12 : decode cX4_chargeSlot 12 = .ok (.if_icmp .ge 61, 3) := by decide +kernel
theorem dX4_chargeSlot_15 : decode cX4_chargeSlot 15 = .ok (.aload_n 1, 1) := by decide +kernel
theorem dX4_chargeSlot_16 : decode cX4_chargeSlot 16 = .ok (.iload 5, 2) := by decide +kernel
theorem dX4_chargeSlot_18 : decode cX4_chargeSlot 18 = .ok (.iload_n 3, 1) := by decide +kernel
theorem dX4_chargeSlot_19 : decode cX4_chargeSlot 19 = .ok (.invokevirtual 38, 3) := by decide +kernel
theorem dX4_chargeSlot_22 : decode cX4_chargeSlot 22 = .ok (.ifCond .eq 45, 3) := by decide +kernel
theorem dX4_chargeSlot_25 : decode cX4_chargeSlot 25 = .ok (.aload_n 0, 1) := by decide +kernel
theorem dX4_chargeSlot_26 : decode cX4_chargeSlot 26 = .ok (.getfield 15, 3) := by decide +kernel
theorem dX4_chargeSlot_29 : decode cX4_chargeSlot 29 = .ok (.iload 5, 2) := by decide +kernel
theorem dX4_chargeSlot_31 : decode cX4_chargeSlot 31 = .ok (.iaload, 1) := by decide +kernel
theorem dX4_chargeSlot_32 : decode cX4_chargeSlot 32 = .ok (.aload_n 1, 1) := by decide +kernel
theorem dX4_chargeSlot_33 : decode cX4_chargeSlot 33 = .ok (.iload 5, 2) := by decide +kernel
theorem dX4_chargeSlot_35 : decode cX4_chargeSlot 35 = .ok (.iconst 3, 1) := by decide +kernel
theorem dX4_chargeSlot_36 : decode cX4_chargeSlot 36 = .ok (.invokevirtual 27, 3) := by decide +kernel
theorem dX4_chargeSlot_39 : decode cX4_chargeSlot 39 = .ok (.if_icmp .ge 28, 3) := by decide +kernel
theorem dX4_chargeSlot_42 : decode cX4_chargeSlot 42 = .ok (.iload 4, 2) := by decide +kernel
theorem dX4_chargeSlot_44 : decode cX4_chargeSlot 44 = .ok (.iconst 1, 1) := by decide +kernel
theorem dX4_chargeSlot_45 : decode cX4_chargeSlot 45 = .ok (.iload 5, 2) := by decide +kernel
theorem dX4_chargeSlot_47 : decode cX4_chargeSlot 47 = .ok (.ishl, 1) := by decide +kernel
theorem dX4_chargeSlot_48 : decode cX4_chargeSlot 48 = .ok (.ior, 1) := by decide +kernel
theorem dX4_chargeSlot_49 : decode cX4_chargeSlot 49 = .ok (.istore 4, 2) := by decide +kernel
theorem dX4_chargeSlot_51 : decode cX4_chargeSlot 51 = .ok (.aload_n 0, 1) := by decide +kernel
theorem dX4_chargeSlot_52 : decode cX4_chargeSlot 52 = .ok (.getfield 18, 3) := by decide +kernel
theorem dX4_chargeSlot_55 : decode cX4_chargeSlot 55 = .ok (.iload 5, 2) := by decide +kernel
theorem dX4_chargeSlot_57 : decode cX4_chargeSlot 57 = .ok (.aload_n 0, 1) := by decide +kernel
theorem dX4_chargeSlot_58 : decode cX4_chargeSlot 58 = .ok (.aload_n 1, 1) := by decide +kernel
theorem dX4_chargeSlot_59 : decode cX4_chargeSlot 59 = .ok (.iload_n 2, 1) := by decide +kernel
theorem dX4_chargeSlot_60 : decode cX4_chargeSlot 60 = .ok (.iload 5, 2) := by decide +kernel
theorem dX4_chargeSlot_62 : decode cX4_chargeSlot 62 = .ok (.iload_n 3, 1) := by decide +kernel
theorem dX4_chargeSlot_63 : decode cX4_chargeSlot 63 = .ok (.invokevirtual 42, 3) := by decide +kernel
theorem dX4_chargeSlot_66 : decode cX4_chargeSlot 66 = .ok (.iastore, 1) := by decide +kernel
theorem dX4_chargeSlot_67 : decode cX4_chargeSlot 67 = .ok (.iinc 5 1, 3) := by decide +kernel
theorem dX4_chargeSlot_70 : decode cX4_chargeSlot 70 = .ok (.goto (-64), 3) := by decide +kernel
theorem dX4_chargeSlot_73 : decode cX4_chargeSlot 73 = .ok (.iconst 0, 1) := by decide +kernel
theorem dX4_chargeSlot_74 : decode cX4_chargeSlot 74 = .ok (.istore 5, 2) := by decide +kernel
theorem dX4_chargeSlot_76 : decode cX4_chargeSlot 76 = .ok (.iconst 0, 1) := by decide +kernel
theorem dX4_chargeSlot_77 : decode cX4_chargeSlot 77 = .ok (.istore 6, 2) := by decide +kernel
theorem dX4_chargeSlot_79 : decode cX4_chargeSlot 79 = .ok (.iconst 0, 1) := by decide +kernel
theorem dX4_chargeSlot_80 : decode cX4_chargeSlot 80 = .ok (.istore 7, 2) := by decide +kernel
theorem dX4_chargeSlot_82 : decode cX4_chargeSlot 82 = .ok (.iload 7, 2) := by decide +kernel
theorem dX4_chargeSlot_84 : decode cX4_chargeSlot 84 = .ok (.iconst 4, 1) := by decide +kernel
theorem dX4_chargeSlot_85 : decode cX4_chargeSlot 85 = .ok (.if_icmp .ge 111, 3) := by decide +kernel
theorem dX4_chargeSlot_88 : decode cX4_chargeSlot 88 = .ok (.iload 4, 2) := by decide +kernel
theorem dX4_chargeSlot_90 : decode cX4_chargeSlot 90 = .ok (.ifCond .eq 106, 3) := by decide +kernel
theorem dX4_chargeSlot_93 : decode cX4_chargeSlot 93 = .ok (.getstatic 46, 3) := by decide +kernel
theorem dX4_chargeSlot_96 : decode cX4_chargeSlot 96 = .ok (.iload 5, 2) := by decide +kernel
theorem dX4_chargeSlot_98 : decode cX4_chargeSlot 98 = .ok (.iaload, 1) := by decide +kernel
theorem dX4_chargeSlot_99 : decode cX4_chargeSlot 99 = .ok (.aload_n 1, 1) := by decide +kernel
theorem dX4_chargeSlot_100 : decode cX4_chargeSlot 100 = .ok (.getfield 49, 3) := by decide +kernel
theorem dX4_chargeSlot_103 : decode cX4_chargeSlot 103 = .ok (.iconst 0, 1) := by decide +kernel
theorem dX4_chargeSlot_104 : decode cX4_chargeSlot 104 = .ok (.iaload, 1) := by decide +kernel
theorem dX4_chargeSlot_105 : decode cX4_chargeSlot 105 = .ok (.if_icmp .ge 91, 3) := by decide +kernel
theorem dX4_chargeSlot_108 : decode cX4_chargeSlot 108 = .ok (.aload_n 0, 1) := by decide +kernel
theorem dX4_chargeSlot_109 : decode cX4_chargeSlot 109 = .ok (.iload 4, 2) := by decide +kernel
theorem dX4_chargeSlot_111 : decode cX4_chargeSlot 111 = .ok (.invokevirtual 52, 3) := by decide +kernel
theorem dX4_chargeSlot_114 : decode cX4_chargeSlot 114 = .ok (.istore 8, 2) := by decide +kernel
theorem dX4_chargeSlot_116 : decode cX4_chargeSlot 116 = .ok (.iload 4, 2) := by decide +kernel
theorem dX4_chargeSlot_118 : decode cX4_chargeSlot 118 = .ok (.iconst 1, 1) := by decide +kernel
theorem dX4_chargeSlot_119 : decode cX4_chargeSlot 119 = .ok (.iload 8, 2) := by decide +kernel
theorem dX4_chargeSlot_121 : decode cX4_chargeSlot 121 = .ok (.ishl, 1) := by decide +kernel
theorem dX4_chargeSlot_122 : decode cX4_chargeSlot 122 = .ok (.iconst (-1), 1) := by decide +kernel
theorem dX4_chargeSlot_123 : decode cX4_chargeSlot 123 = .ok (.ixor, 1) := by decide +kernel
theorem dX4_chargeSlot_124 : decode cX4_chargeSlot 124 = .ok (.iand, 1) := by decide +kernel
theorem dX4_chargeSlot_125 : decode cX4_chargeSlot 125 = .ok (.istore 4, 2) := by decide +kernel
theorem dX4_chargeSlot_127 : decode cX4_chargeSlot 127 = .ok (.aload_n 1, 1) := by decide +kernel
theorem dX4_chargeSlot_128 : decode cX4_chargeSlot 128 = .ok (.iload 8, 2) := by decide +kernel
theorem dX4_chargeSlot_130 : decode cX4_chargeSlot 130 = .ok (.aload_n 0, 1) := by decide +kernel
theorem dX4_chargeSlot_131 : decode cX4_chargeSlot 131 = .ok (.getfield 15, 3) := by decide +kernel
theorem dX4_chargeSlot_134 : decode cX4_chargeSlot 134 = .ok (.iload 8, 2) := by decide +kernel
theorem dX4_chargeSlot_136 : decode cX4_chargeSlot 136 = .ok (.iaload, 1) := by decide +kernel
theorem dX4_chargeSlot_137 : decode cX4_chargeSlot 137 = .ok (.aload_n 1, 1) := by decide +kernel
theorem dX4_chargeSlot_138 : decode cX4_chargeSlot 138 = .ok (.getfield 49, 3) := by decide +kernel
theorem dX4_chargeSlot_141 : decode cX4_chargeSlot 141 = .ok (.iconst 1, 1) := by decide +kernel
theorem dX4_chargeSlot_142 : decode cX4_chargeSlot 142 = .ok (.iaload, 1) := by decide +kernel
theorem dX4_chargeSlot_143 : decode cX4_chargeSlot 143 = .ok (.invokevirtual 56, 3) := by decide +kernel
theorem dX4_chargeSlot_146 : decode cX4_chargeSlot 146 = .ok (.istore 9, 2) := by decide +kernel
theorem dX4_chargeSlot_148 : decode cX4_chargeSlot 148 = .ok (.iload 6, 2) := by decide +kernel
theorem dX4_chargeSlot_150 : decode cX4_chargeSlot 150 = .ok (.iload 9, 2) := by decide +kernel
theorem dX4_chargeSlot_152 : decode cX4_chargeSlot 152 = .ok (.iadd, 1) := by decide +kernel
theorem dX4_chargeSlot_153 : decode cX4_chargeSlot 153 = .ok (.aload_n 1, 1) := by decide +kernel
theorem dX4_chargeSlot_154 : decode cX4_chargeSlot 154 = .ok (.getfield 49, 3) := by decide +kernel
theorem dX4_chargeSlot_157 : decode cX4_chargeSlot 157 = .ok (.iconst 2, 1) := by decide +kernel
theorem dX4_chargeSlot_158 : decode cX4_chargeSlot 158 = .ok (.iaload, 1) := by decide +kernel
theorem dX4_chargeSlot_159 : decode cX4_chargeSlot 159 = .ok (.if_icmp .gt 31, 3) := by decide +kernel
theorem dX4_chargeSlot_162 : decode cX4_chargeSlot 162 = .ok (.iload 5, 2) := by decide +kernel
theorem dX4_chargeSlot_164 : decode cX4_chargeSlot 164 = .ok (.iconst 1, 1) := by decide +kernel
theorem dX4_chargeSlot_165 : decode cX4_chargeSlot 165 = .ok (.iload 8, 2) := by decide +kernel
theorem dX4_chargeSlot_167 : decode cX4_chargeSlot 167 = .ok (.ishl, 1) := by decide +kernel
theorem dX4_chargeSlot_168 : decode cX4_chargeSlot 168 = .ok (.ior, 1) := by decide +kernel
theorem dX4_chargeSlot_169 : decode cX4_chargeSlot 169 = .ok (.istore 5, 2) := by decide +kernel
theorem dX4_chargeSlot_171 : decode cX4_chargeSlot 171 = .ok (.iload 6, 2) := by decide +kernel
theorem dX4_chargeSlot_173 : decode cX4_chargeSlot 173 = .ok (.iload 9, 2) := by decide +kernel
theorem dX4_chargeSlot_175 : decode cX4_chargeSlot 175 = .ok (.iadd, 1) := by decide +kernel
theorem dX4_chargeSlot_176 : decode cX4_chargeSlot 176 = .ok (.istore 6, 2) := by decide +kernel
theorem dX4_chargeSlot_178 : decode cX4_chargeSlot 178 = .ok (.aload_n 0, 1) := by decide +kernel
theorem dX4_chargeSlot_179 : decode cX4_chargeSlot 179 = .ok (.getfield 15, 3) := by decide +kernel
theorem dX4_chargeSlot_182 : decode cX4_chargeSlot 182 = .ok (.iload 8, 2) := by decide +kernel
theorem dX4_chargeSlot_184 : decode cX4_chargeSlot 184 = .ok (.dup2, 1) := by decide +kernel
theorem dX4_chargeSlot_185 : decode cX4_chargeSlot 185 = .ok (.iaload, 1) := by decide +kernel
theorem dX4_chargeSlot_186 : decode cX4_chargeSlot 186 = .ok (.iload 9, 2) := by decide +kernel
theorem dX4_chargeSlot_188 : decode cX4_chargeSlot 188 = .ok (.iadd, 1) := by decide +kernel
theorem dX4_chargeSlot_189 : decode cX4_chargeSlot 189 = .ok (.iastore, 1) := by decide +kernel
theorem dX4_chargeSlot_190 : decode cX4_chargeSlot 190 = .ok (.iinc 7 1, 3) := by decide +kernel
theorem dX4_chargeSlot_193 : decode cX4_chargeSlot 193 = .ok (.goto (-111), 3) := by decide +kernel
theorem dX4_chargeSlot_196 : decode cX4_chargeSlot 196 = .ok (.iload 5, 2) := by decide +kernel
theorem dX4_chargeSlot_198 : decode cX4_chargeSlot 198 = .ok (.ireturn, 1) := by decide +kernel
def l4_chargeSlot_196  (x5 : Int32) (M : mm_M) : Option (Int32 × mm_M) :=
  some (x5, M)
set_option maxHeartbeats 2000000 in
theorem sl4_chargeSlot_196   (x5 : Int32)  (M : mm_M) : Snd injI j4_chargeSlot mm_X0 196 [none, none, none, none, none, some (.int x5), none, none, none, none] [] M (l4_chargeSlot_196  x5 M) := by
  unfold l4_chargeSlot_196
  refine sn_iload (j := j4_chargeSlot) (pc := 196) rfl dX4_chargeSlot_196 ?_
  exact sn_iret (j := j4_chargeSlot) (pc := 198) rfl dX4_chargeSlot_198
def l4_chargeSlot_190 (rec82 : Nat → Int32 → Int32 → Int32 → Int32 → mm_M → Option (Int32 × mm_M)) (d1 : Nat) (x4 : Int32) (x5 : Int32) (x6 : Int32) (x7 : Int32) (M : mm_M) : Option (Int32 × mm_M) :=
  rec82 d1 x4 x5 x6 (x7 + 1) M
set_option maxHeartbeats 2000000 in
theorem sl4_chargeSlot_190 (rec82 : Nat → Int32 → Int32 → Int32 → Int32 → mm_M → Option (Int32 × mm_M)) (hrec82 : ∀ (d1 : Nat) (x4 : Int32) (x5 : Int32) (x6 : Int32) (x7 : Int32) (M : mm_M), isD d1 = true → Snd injI j4_chargeSlot mm_X0 82 [some (.ref 41), some (.ref d1), none, none, some (.int x4), some (.int x5), some (.int x6), some (.int x7), none, none] [] M (rec82 d1 x4 x5 x6 x7 M)) (d1 : Nat) (x4 : Int32) (x5 : Int32) (x6 : Int32) (x7 : Int32) (hd1 : isD d1 = true) (M : mm_M) : Snd injI j4_chargeSlot mm_X0 190 [some (.ref 41), some (.ref d1), none, none, some (.int x4), some (.int x5), some (.int x6), some (.int x7), none, none] [] M (l4_chargeSlot_190 rec82 d1 x4 x5 x6 x7 M) := by
  unfold l4_chargeSlot_190
  refine sn_iinc (j := j4_chargeSlot) (pc := 190) 1 rfl (by decide) rfl (lo' := [some (.ref 41), some (.ref d1), none, none, some (.int x4), some (.int x5), some (.int x6), some (.int (x7 + 1)), none, none]) rfl dX4_chargeSlot_190 ?_
  refine sn_goto (j := j4_chargeSlot) (pc := 193) 82 rfl dX4_chargeSlot_193 ?_
  exact Snd.wk (hrec82 d1 x4 x5 x6 (x7 + 1) M hd1) (by simp [mm_le])
def b4_chargeSlot_82  (rec82 : Nat → Int32 → Int32 → Int32 → Int32 → mm_M → Option (Int32 × mm_M)) (d1 : Nat) (x4 : Int32) (x5 : Int32) (x6 : Int32) (x7 : Int32) (M : mm_M) : Option (Int32 × mm_M) :=
  if 4 ≤ x7 then (l4_chargeSlot_196 x5 M) else (if x4 = 0 then (l4_chargeSlot_196 x5 M) else (aT 1 16 x5 (fun w_1 => aI (d1 + 1) 3 0 M (fun w_2 => if w_2 ≤ w_1 then (l4_chargeSlot_196 x5 M) else (cI (f4_firstOf x4 M) (fun r_3 M => bI (x4 &&& ((1 <<< (r_3 &&& 31)) ^^^ (-1))) (fun x4_4 => aI 43 4 r_3 M (fun w_5 => aI (d1 + 1) 3 1 M (fun w_6 => cI (f0_gain d1 r_3 w_5 w_6 M) (fun r_7 M => aI (d1 + 1) 3 2 M (fun w_8 => if w_8 < (x6 + r_7) then (l4_chargeSlot_190 rec82 d1 x4_4 x5 x6 x7 M) else (bI (x5 ||| (1 <<< (r_3 &&& 31))) (fun x5_9 => bI (x6 + r_7) (fun x6_10 => aI 43 4 r_3 M (fun w_11 => uI 43 4 r_3 (w_11 + r_7) M (fun M => l4_chargeSlot_190 rec82 d1 x4_4 x5_9 x6_10 x7 M))))))))))))))))
set_option maxHeartbeats 2000000 in
theorem sb4_chargeSlot_82   (rec82 : Nat → Int32 → Int32 → Int32 → Int32 → mm_M → Option (Int32 × mm_M)) (hrec82 : ∀ (d1 : Nat) (x4 : Int32) (x5 : Int32) (x6 : Int32) (x7 : Int32) (M : mm_M), isD d1 = true → Snd injI j4_chargeSlot mm_X0 82 [some (.ref 41), some (.ref d1), none, none, some (.int x4), some (.int x5), some (.int x6), some (.int x7), none, none] [] M (rec82 d1 x4 x5 x6 x7 M)) (d1 : Nat) (x4 : Int32) (x5 : Int32) (x6 : Int32) (x7 : Int32) (hd1 : isD d1 = true) (M : mm_M) : Snd injI j4_chargeSlot mm_X0 82 [some (.ref 41), some (.ref d1), none, none, some (.int x4), some (.int x5), some (.int x6), some (.int x7), none, none] [] M (b4_chargeSlot_82  rec82 d1 x4 x5 x6 x7 M) := by
  unfold b4_chargeSlot_82
  refine sn_iload (j := j4_chargeSlot) (pc := 82) rfl dX4_chargeSlot_82 ?_
  refine sn_iconst (j := j4_chargeSlot) (pc := 84) 4 rfl dX4_chargeSlot_84 ?_
  refine sn_icmp_ge (j := j4_chargeSlot) (pc := 85) 196 rfl dX4_chargeSlot_85 ?_ ?_
  · exact Snd.wk (sl4_chargeSlot_196 x5 M) (by simp [mm_le])
  · refine sn_iload (j := j4_chargeSlot) (pc := 88) rfl dX4_chargeSlot_88 ?_
    refine sn_if_eq (j := j4_chargeSlot) (pc := 90) 196 rfl dX4_chargeSlot_90 ?_ ?_
    · exact Snd.wk (sl4_chargeSlot_196 x5 M) (by simp [mm_le])
    · refine sn_gstN (j := j4_chargeSlot) (pc := 93) (t := 1) mm_Z1 mm_rn_X4_46 dX4_chargeSlot_93 ?_
      refine sn_iload (j := j4_chargeSlot) (pc := 96) rfl dX4_chargeSlot_96 ?_
      refine sn_tald (j := j4_chargeSlot) (pc := 98) (t := 1) mm_T1 dX4_chargeSlot_98 (fun w_1 => ?_)
      refine sn_aload_n (j := j4_chargeSlot) (pc := 99) rfl rfl dX4_chargeSlot_99 ?_
      refine g_X4_49 (j := j4_chargeSlot) (pc := 100) hd1 rfl dX4_chargeSlot_100 ?_
      refine sn_iconst (j := j4_chargeSlot) (pc := 103) 0 rfl dX4_chargeSlot_103 ?_
      refine sn_iald (j := j4_chargeSlot) (pc := 104) (isD_a1 hd1) (isD_p1 hd1) dX4_chargeSlot_104 (fun w_2 => ?_)
      refine sn_icmp_ge (j := j4_chargeSlot) (pc := 105) 196 rfl dX4_chargeSlot_105 ?_ ?_
      · exact Snd.wk (sl4_chargeSlot_196 x5 M) (by simp [mm_le])
      · refine sn_aload_n (j := j4_chargeSlot) (pc := 108) rfl rfl dX4_chargeSlot_108 ?_
        refine sn_iload (j := j4_chargeSlot) (pc := 109) rfl dX4_chargeSlot_109 ?_
        refine sn_callV (j := j4_chargeSlot) (pc := 111) (jc := j4_firstOf) (As := [.int x4]) (s4_firstOf x4 M) mm_hvI (by simp [Value.category]) (Nat.le_of_ble_eq_true rfl) q4_firstOf rfl (by decide) rfl rfl ⟨by decide, by decide⟩ w_ml_X4_52 w_im_X4_firstOf w_se_X4_firstOf rfl (Nat.le_of_ble_eq_true rfl) dX4_chargeSlot_111 ?_
        rintro ⟨r_3, M⟩
        show Snd injI j4_chargeSlot mm_X0 114 [some (.ref 41), some (.ref d1), none, none, some (.int x4), some (.int x5), some (.int x6), some (.int x7), none, none] [.int r_3] M _
        refine sn_istore (j := j4_chargeSlot) (pc := 114) (by decide) (lo' := [some (.ref 41), some (.ref d1), none, none, some (.int x4), some (.int x5), some (.int x6), some (.int x7), some (.int r_3), none]) rfl dX4_chargeSlot_114 ?_
        refine sn_iload (j := j4_chargeSlot) (pc := 116) rfl dX4_chargeSlot_116 ?_
        refine sn_iconst (j := j4_chargeSlot) (pc := 118) 1 rfl dX4_chargeSlot_118 ?_
        refine sn_iload (j := j4_chargeSlot) (pc := 119) rfl dX4_chargeSlot_119 ?_
        refine sn_ishl (j := j4_chargeSlot) (pc := 121) dX4_chargeSlot_121 ?_
        refine sn_iconst (j := j4_chargeSlot) (pc := 122) (-1) rfl dX4_chargeSlot_122 ?_
        refine sn_ixor (j := j4_chargeSlot) (pc := 123) dX4_chargeSlot_123 ?_
        refine sn_iand (j := j4_chargeSlot) (pc := 124) dX4_chargeSlot_124 ?_
        refine sn_istoreB (j := j4_chargeSlot) (pc := 125) (fun x4_4 => [some (.ref 41), some (.ref d1), none, none, some (.int x4_4), some (.int x5), some (.int x6), some (.int x7), some (.int r_3), none]) (by decide) (fun _ => rfl) dX4_chargeSlot_125 (fun x4_4 => ?_)
        refine sn_aload_n (j := j4_chargeSlot) (pc := 127) rfl rfl dX4_chargeSlot_127 ?_
        refine sn_iload (j := j4_chargeSlot) (pc := 128) rfl dX4_chargeSlot_128 ?_
        refine sn_aload_n (j := j4_chargeSlot) (pc := 130) rfl rfl dX4_chargeSlot_130 ?_
        refine g_X4_15 (j := j4_chargeSlot) (pc := 131) rfl dX4_chargeSlot_131 ?_
        refine sn_iload (j := j4_chargeSlot) (pc := 134) rfl dX4_chargeSlot_134 ?_
        refine sn_iald (j := j4_chargeSlot) (pc := 136) rfl ⟨by decide, by decide⟩ dX4_chargeSlot_136 (fun w_5 => ?_)
        refine sn_aload_n (j := j4_chargeSlot) (pc := 137) rfl rfl dX4_chargeSlot_137 ?_
        refine g_X4_49 (j := j4_chargeSlot) (pc := 138) hd1 rfl dX4_chargeSlot_138 ?_
        refine sn_iconst (j := j4_chargeSlot) (pc := 141) 1 rfl dX4_chargeSlot_141 ?_
        refine sn_iald (j := j4_chargeSlot) (pc := 142) (isD_a1 hd1) (isD_p1 hd1) dX4_chargeSlot_142 (fun w_6 => ?_)
        refine sn_callV (j := j4_chargeSlot) (pc := 143) (jc := j0_gain) (As := [.int r_3, .int w_5, .int w_6]) (s0_gain d1 r_3 w_5 w_6 M) mm_hvI (by simp [Value.category]) (Nat.le_of_ble_eq_true rfl) q0_gain rfl (by decide) rfl (isD_obj hd1) (isD_pos hd1) w_ml_X4_56 w_im_X0_gain w_se_X0_gain rfl (Nat.le_of_ble_eq_true rfl) dX4_chargeSlot_143 ?_
        rintro ⟨r_7, M⟩
        show Snd injI j4_chargeSlot mm_X0 146 [some (.ref 41), some (.ref d1), none, none, some (.int x4_4), some (.int x5), some (.int x6), some (.int x7), some (.int r_3), none] [.int r_7] M _
        refine sn_istore (j := j4_chargeSlot) (pc := 146) (by decide) (lo' := [some (.ref 41), some (.ref d1), none, none, some (.int x4_4), some (.int x5), some (.int x6), some (.int x7), some (.int r_3), some (.int r_7)]) rfl dX4_chargeSlot_146 ?_
        refine sn_iload (j := j4_chargeSlot) (pc := 148) rfl dX4_chargeSlot_148 ?_
        refine sn_iload (j := j4_chargeSlot) (pc := 150) rfl dX4_chargeSlot_150 ?_
        refine sn_iadd (j := j4_chargeSlot) (pc := 152) dX4_chargeSlot_152 ?_
        refine sn_aload_n (j := j4_chargeSlot) (pc := 153) rfl rfl dX4_chargeSlot_153 ?_
        refine g_X4_49 (j := j4_chargeSlot) (pc := 154) hd1 rfl dX4_chargeSlot_154 ?_
        refine sn_iconst (j := j4_chargeSlot) (pc := 157) 2 rfl dX4_chargeSlot_157 ?_
        refine sn_iald (j := j4_chargeSlot) (pc := 158) (isD_a1 hd1) (isD_p1 hd1) dX4_chargeSlot_158 (fun w_8 => ?_)
        refine sn_icmp_gt (j := j4_chargeSlot) (pc := 159) 190 rfl dX4_chargeSlot_159 ?_ ?_
        · exact Snd.wk (sl4_chargeSlot_190 rec82 hrec82 d1 x4_4 x5 x6 x7 hd1 M) (by simp [mm_le])
        · refine sn_iload (j := j4_chargeSlot) (pc := 162) rfl dX4_chargeSlot_162 ?_
          refine sn_iconst (j := j4_chargeSlot) (pc := 164) 1 rfl dX4_chargeSlot_164 ?_
          refine sn_iload (j := j4_chargeSlot) (pc := 165) rfl dX4_chargeSlot_165 ?_
          refine sn_ishl (j := j4_chargeSlot) (pc := 167) dX4_chargeSlot_167 ?_
          refine sn_ior (j := j4_chargeSlot) (pc := 168) dX4_chargeSlot_168 ?_
          refine sn_istoreB (j := j4_chargeSlot) (pc := 169) (fun x5_9 => [some (.ref 41), some (.ref d1), none, none, some (.int x4_4), some (.int x5_9), some (.int x6), some (.int x7), some (.int r_3), some (.int r_7)]) (by decide) (fun _ => rfl) dX4_chargeSlot_169 (fun x5_9 => ?_)
          refine sn_iload (j := j4_chargeSlot) (pc := 171) rfl dX4_chargeSlot_171 ?_
          refine sn_iload (j := j4_chargeSlot) (pc := 173) rfl dX4_chargeSlot_173 ?_
          refine sn_iadd (j := j4_chargeSlot) (pc := 175) dX4_chargeSlot_175 ?_
          refine sn_istoreB (j := j4_chargeSlot) (pc := 176) (fun x6_10 => [some (.ref 41), some (.ref d1), none, none, some (.int x4_4), some (.int x5_9), some (.int x6_10), some (.int x7), some (.int r_3), some (.int r_7)]) (by decide) (fun _ => rfl) dX4_chargeSlot_176 (fun x6_10 => ?_)
          refine sn_aload_n (j := j4_chargeSlot) (pc := 178) rfl rfl dX4_chargeSlot_178 ?_
          refine g_X4_15 (j := j4_chargeSlot) (pc := 179) rfl dX4_chargeSlot_179 ?_
          refine sn_iload (j := j4_chargeSlot) (pc := 182) rfl dX4_chargeSlot_182 ?_
          refine sn_dup2 (j := j4_chargeSlot) (pc := 184) rfl rfl dX4_chargeSlot_184 ?_
          refine sn_iald (j := j4_chargeSlot) (pc := 185) rfl ⟨by decide, by decide⟩ dX4_chargeSlot_185 (fun w_11 => ?_)
          refine sn_iload (j := j4_chargeSlot) (pc := 186) rfl dX4_chargeSlot_186 ?_
          refine sn_iadd (j := j4_chargeSlot) (pc := 188) dX4_chargeSlot_188 ?_
          refine sn_iast (j := j4_chargeSlot) (pc := 189) rfl ⟨by decide, by decide⟩ dX4_chargeSlot_189 (fun M => ?_)
          exact Snd.wk (sl4_chargeSlot_190 rec82 hrec82 d1 x4_4 x5_9 x6_10 x7 hd1 M) (by simp [mm_le])
def l4_chargeSlot_82  : Nat → Nat → Int32 → Int32 → Int32 → Int32 → mm_M → Option (Int32 × mm_M)
  | 0 => fun _ _ _ _ _ _ => none
  | n + 1 => fun d1 x4 x5 x6 x7 M => b4_chargeSlot_82  (l4_chargeSlot_82  n) d1 x4 x5 x6 x7 M
theorem sl4_chargeSlot_82   : ∀ (n : Nat) (d1 : Nat) (x4 : Int32) (x5 : Int32) (x6 : Int32) (x7 : Int32) (hd1 : isD d1 = true) (M : mm_M), Snd injI j4_chargeSlot mm_X0 82 [some (.ref 41), some (.ref d1), none, none, some (.int x4), some (.int x5), some (.int x6), some (.int x7), none, none] [] M (l4_chargeSlot_82  n d1 x4 x5 x6 x7 M)
  | 0 => fun _ _ _ _ _ _ _ => Snd.none
  | n + 1 => fun d1 x4 x5 x6 x7 hd1 M => sb4_chargeSlot_82   (l4_chargeSlot_82  n) (fun d1 x4 x5 x6 x7 M hd1 => sl4_chargeSlot_82   n d1 x4 x5 x6 x7 hd1 M) d1 x4 x5 x6 x7 hd1 M
def l4_chargeSlot_67 (rec6 : Nat → Int32 → Int32 → Int32 → Int32 → mm_M → Option (Int32 × mm_M)) (d1 : Nat) (x2 : Int32) (x3 : Int32) (x4 : Int32) (x5 : Int32) (M : mm_M) : Option (Int32 × mm_M) :=
  rec6 d1 x2 x3 x4 (x5 + 1) M
set_option maxHeartbeats 2000000 in
theorem sl4_chargeSlot_67 (rec6 : Nat → Int32 → Int32 → Int32 → Int32 → mm_M → Option (Int32 × mm_M)) (hrec6 : ∀ (d1 : Nat) (x2 : Int32) (x3 : Int32) (x4 : Int32) (x5 : Int32) (M : mm_M), isD d1 = true → Snd injI j4_chargeSlot mm_X0 6 [some (.ref 41), some (.ref d1), some (.int x2), some (.int x3), some (.int x4), some (.int x5), none, none, none, none] [] M (rec6 d1 x2 x3 x4 x5 M)) (d1 : Nat) (x2 : Int32) (x3 : Int32) (x4 : Int32) (x5 : Int32) (hd1 : isD d1 = true) (M : mm_M) : Snd injI j4_chargeSlot mm_X0 67 [some (.ref 41), some (.ref d1), some (.int x2), some (.int x3), some (.int x4), some (.int x5), none, none, none, none] [] M (l4_chargeSlot_67 rec6 d1 x2 x3 x4 x5 M) := by
  unfold l4_chargeSlot_67
  refine sn_iinc (j := j4_chargeSlot) (pc := 67) 1 rfl (by decide) rfl (lo' := [some (.ref 41), some (.ref d1), some (.int x2), some (.int x3), some (.int x4), some (.int (x5 + 1)), none, none, none, none]) rfl dX4_chargeSlot_67 ?_
  refine sn_goto (j := j4_chargeSlot) (pc := 70) 6 rfl dX4_chargeSlot_70 ?_
  exact Snd.wk (hrec6 d1 x2 x3 x4 (x5 + 1) M hd1) (by simp [mm_le])
def b4_chargeSlot_6  (rec6 : Nat → Int32 → Int32 → Int32 → Int32 → mm_M → Option (Int32 × mm_M)) (d1 : Nat) (x2 : Int32) (x3 : Int32) (x4 : Int32) (x5 : Int32) (M : mm_M) : Option (Int32 × mm_M) :=
  bI (mI M d1 2) (fun v_12 => if v_12 ≤ x5 then (l4_chargeSlot_82 FU d1 x4 0 0 0 M) else (cI (f0_isThere d1 x5 x3 M) (fun r_13 M => if r_13 = 0 then (l4_chargeSlot_67 rec6 d1 x2 x3 x4 x5 M) else (aI 43 4 x5 M (fun w_14 => cI (f0_fact d1 x5 3 M) (fun r_15 M => if r_15 ≤ w_14 then (l4_chargeSlot_67 rec6 d1 x2 x3 x4 x5 M) else (bI (x4 ||| (1 <<< (x5 &&& 31))) (fun x4_16 => cI (f4_rankOf d1 x2 x5 x3 M) (fun r_17 M => uI 44 4 x5 r_17 M (fun M => l4_chargeSlot_67 rec6 d1 x2 x3 x4_16 x5 M))))))))))
set_option maxHeartbeats 2000000 in
theorem sb4_chargeSlot_6   (rec6 : Nat → Int32 → Int32 → Int32 → Int32 → mm_M → Option (Int32 × mm_M)) (hrec6 : ∀ (d1 : Nat) (x2 : Int32) (x3 : Int32) (x4 : Int32) (x5 : Int32) (M : mm_M), isD d1 = true → Snd injI j4_chargeSlot mm_X0 6 [some (.ref 41), some (.ref d1), some (.int x2), some (.int x3), some (.int x4), some (.int x5), none, none, none, none] [] M (rec6 d1 x2 x3 x4 x5 M)) (d1 : Nat) (x2 : Int32) (x3 : Int32) (x4 : Int32) (x5 : Int32) (hd1 : isD d1 = true) (M : mm_M) : Snd injI j4_chargeSlot mm_X0 6 [some (.ref 41), some (.ref d1), some (.int x2), some (.int x3), some (.int x4), some (.int x5), none, none, none, none] [] M (b4_chargeSlot_6  rec6 d1 x2 x3 x4 x5 M) := by
  unfold b4_chargeSlot_6
  refine sn_iload (j := j4_chargeSlot) (pc := 6) rfl dX4_chargeSlot_6 ?_
  refine sn_aload_n (j := j4_chargeSlot) (pc := 8) rfl rfl dX4_chargeSlot_8 ?_
  refine g_X4_21 (j := j4_chargeSlot) (pc := 9) hd1 rfl dX4_chargeSlot_9 ?_
  refine Snd.bI (fun v_12 => ?_)
  refine sn_icmp_ge (j := j4_chargeSlot) (pc := 12) 73 rfl dX4_chargeSlot_12 ?_ ?_
  · refine sn_iconst (j := j4_chargeSlot) (pc := 73) 0 rfl dX4_chargeSlot_73 ?_
    refine sn_istore (j := j4_chargeSlot) (pc := 74) (by decide) (lo' := [some (.ref 41), some (.ref d1), some (.int x2), some (.int x3), some (.int x4), some (.int 0), none, none, none, none]) rfl dX4_chargeSlot_74 ?_
    refine sn_iconst (j := j4_chargeSlot) (pc := 76) 0 rfl dX4_chargeSlot_76 ?_
    refine sn_istore (j := j4_chargeSlot) (pc := 77) (by decide) (lo' := [some (.ref 41), some (.ref d1), some (.int x2), some (.int x3), some (.int x4), some (.int 0), some (.int 0), none, none, none]) rfl dX4_chargeSlot_77 ?_
    refine sn_iconst (j := j4_chargeSlot) (pc := 79) 0 rfl dX4_chargeSlot_79 ?_
    refine sn_istore (j := j4_chargeSlot) (pc := 80) (by decide) (lo' := [some (.ref 41), some (.ref d1), some (.int x2), some (.int x3), some (.int x4), some (.int 0), some (.int 0), some (.int 0), none, none]) rfl dX4_chargeSlot_80 ?_
    exact Snd.wk (sl4_chargeSlot_82 FU d1 x4 0 0 0 hd1 M) (by simp [mm_le])
  · refine sn_aload_n (j := j4_chargeSlot) (pc := 15) rfl rfl dX4_chargeSlot_15 ?_
    refine sn_iload (j := j4_chargeSlot) (pc := 16) rfl dX4_chargeSlot_16 ?_
    refine sn_iload_n (j := j4_chargeSlot) (pc := 18) rfl rfl dX4_chargeSlot_18 ?_
    refine sn_callV (j := j4_chargeSlot) (pc := 19) (jc := j0_isThere) (As := [.int x5, .int x3]) (s0_isThere d1 x5 x3 M) mm_hvI (by simp [Value.category]) (Nat.le_of_ble_eq_true rfl) q0_isThere rfl (by decide) rfl (isD_obj hd1) (isD_pos hd1) w_ml_X4_38 w_im_X0_isThere w_se_X0_isThere rfl (Nat.le_of_ble_eq_true rfl) dX4_chargeSlot_19 ?_
    rintro ⟨r_13, M⟩
    show Snd injI j4_chargeSlot mm_X0 22 [some (.ref 41), some (.ref d1), some (.int x2), some (.int x3), some (.int x4), some (.int x5), none, none, none, none] [.int r_13] M _
    refine sn_if_eq (j := j4_chargeSlot) (pc := 22) 67 rfl dX4_chargeSlot_22 ?_ ?_
    · exact Snd.wk (sl4_chargeSlot_67 rec6 hrec6 d1 x2 x3 x4 x5 hd1 M) (by simp [mm_le])
    · refine sn_aload_n (j := j4_chargeSlot) (pc := 25) rfl rfl dX4_chargeSlot_25 ?_
      refine g_X4_15 (j := j4_chargeSlot) (pc := 26) rfl dX4_chargeSlot_26 ?_
      refine sn_iload (j := j4_chargeSlot) (pc := 29) rfl dX4_chargeSlot_29 ?_
      refine sn_iald (j := j4_chargeSlot) (pc := 31) rfl ⟨by decide, by decide⟩ dX4_chargeSlot_31 (fun w_14 => ?_)
      refine sn_aload_n (j := j4_chargeSlot) (pc := 32) rfl rfl dX4_chargeSlot_32 ?_
      refine sn_iload (j := j4_chargeSlot) (pc := 33) rfl dX4_chargeSlot_33 ?_
      refine sn_iconst (j := j4_chargeSlot) (pc := 35) 3 rfl dX4_chargeSlot_35 ?_
      refine sn_callV (j := j4_chargeSlot) (pc := 36) (jc := j0_fact) (As := [.int x5, .int 3]) (s0_fact d1 x5 3 M) mm_hvI (by simp [Value.category]) (Nat.le_of_ble_eq_true rfl) q0_fact rfl (by decide) rfl (isD_obj hd1) (isD_pos hd1) w_ml_X4_27 w_im_X0_fact w_se_X0_fact rfl (Nat.le_of_ble_eq_true rfl) dX4_chargeSlot_36 ?_
      rintro ⟨r_15, M⟩
      show Snd injI j4_chargeSlot mm_X0 39 [some (.ref 41), some (.ref d1), some (.int x2), some (.int x3), some (.int x4), some (.int x5), none, none, none, none] [.int r_15, .int w_14] M _
      refine sn_icmp_ge (j := j4_chargeSlot) (pc := 39) 67 rfl dX4_chargeSlot_39 ?_ ?_
      · exact Snd.wk (sl4_chargeSlot_67 rec6 hrec6 d1 x2 x3 x4 x5 hd1 M) (by simp [mm_le])
      · refine sn_iload (j := j4_chargeSlot) (pc := 42) rfl dX4_chargeSlot_42 ?_
        refine sn_iconst (j := j4_chargeSlot) (pc := 44) 1 rfl dX4_chargeSlot_44 ?_
        refine sn_iload (j := j4_chargeSlot) (pc := 45) rfl dX4_chargeSlot_45 ?_
        refine sn_ishl (j := j4_chargeSlot) (pc := 47) dX4_chargeSlot_47 ?_
        refine sn_ior (j := j4_chargeSlot) (pc := 48) dX4_chargeSlot_48 ?_
        refine sn_istoreB (j := j4_chargeSlot) (pc := 49) (fun x4_16 => [some (.ref 41), some (.ref d1), some (.int x2), some (.int x3), some (.int x4_16), some (.int x5), none, none, none, none]) (by decide) (fun _ => rfl) dX4_chargeSlot_49 (fun x4_16 => ?_)
        refine sn_aload_n (j := j4_chargeSlot) (pc := 51) rfl rfl dX4_chargeSlot_51 ?_
        refine g_X4_18 (j := j4_chargeSlot) (pc := 52) rfl dX4_chargeSlot_52 ?_
        refine sn_iload (j := j4_chargeSlot) (pc := 55) rfl dX4_chargeSlot_55 ?_
        refine sn_aload_n (j := j4_chargeSlot) (pc := 57) rfl rfl dX4_chargeSlot_57 ?_
        refine sn_aload_n (j := j4_chargeSlot) (pc := 58) rfl rfl dX4_chargeSlot_58 ?_
        refine sn_iload_n (j := j4_chargeSlot) (pc := 59) rfl rfl dX4_chargeSlot_59 ?_
        refine sn_iload (j := j4_chargeSlot) (pc := 60) rfl dX4_chargeSlot_60 ?_
        refine sn_iload_n (j := j4_chargeSlot) (pc := 62) rfl rfl dX4_chargeSlot_62 ?_
        refine sn_callV (j := j4_chargeSlot) (pc := 63) (jc := j4_rankOf) (As := [.ref d1, .int x2, .int x5, .int x3]) (s4_rankOf d1 x2 x5 x3 M) mm_hvI (by simp [Value.category]) (Nat.le_of_ble_eq_true rfl) q4_rankOf rfl (by decide) rfl rfl ⟨by decide, by decide⟩ w_ml_X4_42 w_im_X4_rankOf w_se_X4_rankOf rfl (Nat.le_of_ble_eq_true rfl) dX4_chargeSlot_63 ?_
        rintro ⟨r_17, M⟩
        show Snd injI j4_chargeSlot mm_X0 66 [some (.ref 41), some (.ref d1), some (.int x2), some (.int x3), some (.int x4_16), some (.int x5), none, none, none, none] [.int r_17, .int x5, .ref 44] M _
        refine sn_iast (j := j4_chargeSlot) (pc := 66) rfl ⟨by decide, by decide⟩ dX4_chargeSlot_66 (fun M => ?_)
        exact Snd.wk (sl4_chargeSlot_67 rec6 hrec6 d1 x2 x3 x4_16 x5 hd1 M) (by simp [mm_le])
def l4_chargeSlot_6  : Nat → Nat → Int32 → Int32 → Int32 → Int32 → mm_M → Option (Int32 × mm_M)
  | 0 => fun _ _ _ _ _ _ => none
  | n + 1 => fun d1 x2 x3 x4 x5 M => b4_chargeSlot_6  (l4_chargeSlot_6  n) d1 x2 x3 x4 x5 M
theorem sl4_chargeSlot_6   : ∀ (n : Nat) (d1 : Nat) (x2 : Int32) (x3 : Int32) (x4 : Int32) (x5 : Int32) (hd1 : isD d1 = true) (M : mm_M), Snd injI j4_chargeSlot mm_X0 6 [some (.ref 41), some (.ref d1), some (.int x2), some (.int x3), some (.int x4), some (.int x5), none, none, none, none] [] M (l4_chargeSlot_6  n d1 x2 x3 x4 x5 M)
  | 0 => fun _ _ _ _ _ _ _ => Snd.none
  | n + 1 => fun d1 x2 x3 x4 x5 hd1 M => sb4_chargeSlot_6   (l4_chargeSlot_6  n) (fun d1 x2 x3 x4 x5 M hd1 => sl4_chargeSlot_6   n d1 x2 x3 x4 x5 hd1 M) d1 x2 x3 x4 x5 hd1 M
def f4_chargeSlot (d1 : Nat) (x2 : Int32) (x3 : Int32) (M : mm_M) : Option (Int32 × mm_M) :=
  if isD d1 = true then (l4_chargeSlot_6 FU d1 x2 x3 0 0 M) else none
set_option maxHeartbeats 2000000 in
theorem s4_chargeSlot (d1 : Nat) (x2 : Int32) (x3 : Int32) (M : mm_M) : Snd injI j4_chargeSlot mm_X0 0 [some (.ref 41), some (.ref d1), some (.int x2), some (.int x3)] [] M (f4_chargeSlot d1 x2 x3 M) := by
  refine Snd.wk (lo' := [some (.ref 41), some (.ref d1), some (.int x2), some (.int x3), none, none, none, none, none, none]) ?_ (by simp [mm_le])
  unfold f4_chargeSlot
  refine Snd.ite fun hd1 => ?_
  refine sn_iconst (j := j4_chargeSlot) (pc := 0) 0 rfl dX4_chargeSlot_0 ?_
  refine sn_istore (j := j4_chargeSlot) (pc := 1) (by decide) (lo' := [some (.ref 41), some (.ref d1), some (.int x2), some (.int x3), some (.int 0), none, none, none, none, none]) rfl dX4_chargeSlot_1 ?_
  refine sn_iconst (j := j4_chargeSlot) (pc := 3) 0 rfl dX4_chargeSlot_3 ?_
  refine sn_istore (j := j4_chargeSlot) (pc := 4) (by decide) (lo' := [some (.ref 41), some (.ref d1), some (.int x2), some (.int x3), some (.int 0), some (.int 0), none, none, none, none]) rfl dX4_chargeSlot_4 ?_
  exact Snd.wk (sl4_chargeSlot_6 FU d1 x2 x3 0 0 hd1 M) (by simp [mm_le])

abbrev j4_make : mm_J := (yX4_make, cX4_make, 4, none, 5)
theorem dX4_make_0 : decode cX4_make 0 = .ok (.iconst 0, 1) := by decide +kernel
theorem dX4_make_1 : decode cX4_make 1 = .ok (.istore_n 3, 1) := by decide +kernel
theorem dX4_make_2 : decode cX4_make 2 = .ok (.iload_n 3, 1) := by decide +kernel
theorem dX4_make_3 : decode cX4_make 3 = .ok (.aload_n 1, 1) := by decide +kernel
theorem dX4_make_4 : decode cX4_make 4 = .ok (.getfield 21, 3) := by decide +kernel
theorem dX4_make_7 : decode cX4_make 7 = .ok (.if_icmp .ge 21, 3) := by decide +kernel
theorem dX4_make_10 : decode cX4_make 10 = .ok (.aload_n 0, 1) := by decide +kernel
theorem dX4_make_11 : decode cX4_make 11 = .ok (.getfield 15, 3) := by decide +kernel
theorem dX4_make_14 : decode cX4_make 14 = .ok (.iload_n 3, 1) := by decide +kernel
theorem dX4_make_15 : decode cX4_make 15 = .ok (.aload_n 1, 1) := by decide +kernel
theorem dX4_make_16 : decode cX4_make 16 = .ok (.iload_n 3, 1) := by decide +kernel
theorem dX4_make_17 : decode cX4_make 17 = .ok (.iconst 2, 1) := by decide +kernel
theorem dX4_make_18 : decode cX4_make 18 = .ok (.invokevirtual 27, 3) := by decide +kernel
theorem dX4_make_21 : decode cX4_make 21 = .ok (.iastore, 1) := by decide +kernel
theorem dX4_make_22 : decode cX4_make 22 = .ok (.iinc 3 1, 3) := by decide +kernel
theorem dX4_make_25 : decode cX4_make 25 = .ok (.goto (-23), 3) := by decide +kernel
theorem dX4_make_28 : decode cX4_make 28 = .ok (.iconst 0, 1) := by decide +kernel
theorem dX4_make_29 : decode cX4_make 29 = .ok (.istore_n 3, 1) := by decide +kernel
theorem dX4_make_30 : decode cX4_make 30 = .ok (.iload_n 3, 1) := by decide +kernel
theorem dX4_make_31 : decode cX4_make 31 = .ok (.bipush 8, 2) := by decide +kernel
theorem dX4_make_33 : decode cX4_make 33 = .ok (.if_icmp .ge 34, 3) := by decide +kernel
theorem dX4_make_36 : decode cX4_make 36 = .ok (.aload_n 0, 1) := by decide +kernel
theorem dX4_make_37 : decode cX4_make 37 = .ok (.getfield 9, 3) := by decide +kernel
theorem dX4_make_40 : decode cX4_make 40 = .ok (.iload_n 3, 1) := by decide +kernel
theorem dX4_make_41 : decode cX4_make 41 = .ok (.iload_n 3, 1) := by decide +kernel
theorem dX4_make_42 : decode cX4_make 42 = .ok (.aload_n 1, 1) := by decide +kernel
theorem dX4_make_43 : decode cX4_make 43 = .ok (.getfield 31, 3) := by decide +kernel
theorem dX4_make_46 : decode cX4_make 46 = .ok (.if_icmp .ge 13, 3) := by decide +kernel
theorem dX4_make_49 : decode cX4_make 49 = .ok (.aload_n 0, 1) := by decide +kernel
theorem dX4_make_50 : decode cX4_make 50 = .ok (.aload_n 1, 1) := by decide +kernel
theorem dX4_make_51 : decode cX4_make 51 = .ok (.iload_n 2, 1) := by decide +kernel
theorem dX4_make_52 : decode cX4_make 52 = .ok (.iload_n 3, 1) := by decide +kernel
theorem dX4_make_53 : decode cX4_make 53 = .ok (.invokevirtual 34, 3) := by decide +kernel
theorem dX4_make_56 : decode cX4_make 56 = .ok (.goto 4, 3) := by decide +kernel
theorem dX4_make_59 : decode cX4_make 59 = .ok (.iconst 0, 1) := by decide +kernel
theorem dX4_make_60 : decode cX4_make 60 = .ok (.iastore, 1) := by decide +kernel
theorem dX4_make_61 : decode cX4_make 61 = .ok (.iinc 3 1, 3) := by decide +kernel
theorem dX4_make_64 : decode cX4_make 64 = .ok (.goto (-34), 3) := by decide +kernel
theorem dX4_make_67 : decode cX4_make 67 = .ok (.return_, 1) := by decide +kernel
def l4_make_60 (rec30 : Nat → Int32 → Int32 → mm_M → Option (mm_M)) (d1 : Nat) (x2 : Int32) (x3 : Int32) (s0 : Int32) (s1 : Int32) (M : mm_M) : Option (mm_M) :=
  uI 42 8 s1 s0 M (fun M => rec30 d1 x2 (x3 + 1) M)
set_option maxHeartbeats 2000000 in
theorem sl4_make_60 (rec30 : Nat → Int32 → Int32 → mm_M → Option (mm_M)) (hrec30 : ∀ (d1 : Nat) (x2 : Int32) (x3 : Int32) (M : mm_M), isD d1 = true → Snd injV j4_make mm_X0 30 [some (.ref 41), some (.ref d1), some (.int x2), some (.int x3)] [] M (rec30 d1 x2 x3 M)) (d1 : Nat) (x2 : Int32) (x3 : Int32) (s0 : Int32) (s1 : Int32) (hd1 : isD d1 = true) (M : mm_M) : Snd injV j4_make mm_X0 60 [some (.ref 41), some (.ref d1), some (.int x2), some (.int x3)] [.int s0, .int s1, .ref 42] M (l4_make_60 rec30 d1 x2 x3 s0 s1 M) := by
  unfold l4_make_60
  refine sn_iast (j := j4_make) (pc := 60) rfl ⟨by decide, by decide⟩ dX4_make_60 (fun M => ?_)
  refine sn_iinc (j := j4_make) (pc := 61) 1 rfl (by decide) rfl (lo' := [some (.ref 41), some (.ref d1), some (.int x2), some (.int (x3 + 1))]) rfl dX4_make_61 ?_
  refine sn_goto (j := j4_make) (pc := 64) 30 rfl dX4_make_64 ?_
  exact Snd.wk (hrec30 d1 x2 (x3 + 1) M hd1) (by simp [mm_le])
def b4_make_30  (rec30 : Nat → Int32 → Int32 → mm_M → Option (mm_M)) (d1 : Nat) (x2 : Int32) (x3 : Int32) (M : mm_M) : Option (mm_M) :=
  if 8 ≤ x3 then (some M) else (bI (mI M d1 0) (fun v_1 => if v_1 ≤ x3 then (l4_make_60 rec30 d1 x2 x3 0 x3 M) else (cI (f4_chargeSlot d1 x2 x3 M) (fun r_2 M => l4_make_60 rec30 d1 x2 x3 r_2 x3 M))))
set_option maxHeartbeats 2000000 in
theorem sb4_make_30   (rec30 : Nat → Int32 → Int32 → mm_M → Option (mm_M)) (hrec30 : ∀ (d1 : Nat) (x2 : Int32) (x3 : Int32) (M : mm_M), isD d1 = true → Snd injV j4_make mm_X0 30 [some (.ref 41), some (.ref d1), some (.int x2), some (.int x3)] [] M (rec30 d1 x2 x3 M)) (d1 : Nat) (x2 : Int32) (x3 : Int32) (hd1 : isD d1 = true) (M : mm_M) : Snd injV j4_make mm_X0 30 [some (.ref 41), some (.ref d1), some (.int x2), some (.int x3)] [] M (b4_make_30  rec30 d1 x2 x3 M) := by
  unfold b4_make_30
  refine sn_iload_n (j := j4_make) (pc := 30) rfl rfl dX4_make_30 ?_
  refine sn_bipush (j := j4_make) (pc := 31) 8 rfl dX4_make_31 ?_
  refine sn_icmp_ge (j := j4_make) (pc := 33) 67 rfl dX4_make_33 ?_ ?_
  · exact sn_vret (j := j4_make) (pc := 67) rfl dX4_make_67
  · refine sn_aload_n (j := j4_make) (pc := 36) rfl rfl dX4_make_36 ?_
    refine g_X4_9 (j := j4_make) (pc := 37) rfl dX4_make_37 ?_
    refine sn_iload_n (j := j4_make) (pc := 40) rfl rfl dX4_make_40 ?_
    refine sn_iload_n (j := j4_make) (pc := 41) rfl rfl dX4_make_41 ?_
    refine sn_aload_n (j := j4_make) (pc := 42) rfl rfl dX4_make_42 ?_
    refine g_X4_31 (j := j4_make) (pc := 43) hd1 rfl dX4_make_43 ?_
    refine Snd.bI (fun v_1 => ?_)
    refine sn_icmp_ge (j := j4_make) (pc := 46) 59 rfl dX4_make_46 ?_ ?_
    · refine sn_iconst (j := j4_make) (pc := 59) 0 rfl dX4_make_59 ?_
      exact Snd.wk (sl4_make_60 rec30 hrec30 d1 x2 x3 0 x3 hd1 M) (by simp [mm_le])
    · refine sn_aload_n (j := j4_make) (pc := 49) rfl rfl dX4_make_49 ?_
      refine sn_aload_n (j := j4_make) (pc := 50) rfl rfl dX4_make_50 ?_
      refine sn_iload_n (j := j4_make) (pc := 51) rfl rfl dX4_make_51 ?_
      refine sn_iload_n (j := j4_make) (pc := 52) rfl rfl dX4_make_52 ?_
      refine sn_callV (j := j4_make) (pc := 53) (jc := j4_chargeSlot) (As := [.ref d1, .int x2, .int x3]) (s4_chargeSlot d1 x2 x3 M) mm_hvI (by simp [Value.category]) (Nat.le_of_ble_eq_true rfl) q4_chargeSlot rfl (by decide) rfl rfl ⟨by decide, by decide⟩ w_ml_X4_34 w_im_X4_chargeSlot w_se_X4_chargeSlot rfl (Nat.le_of_ble_eq_true rfl) dX4_make_53 ?_
      rintro ⟨r_2, M⟩
      show Snd injV j4_make mm_X0 56 [some (.ref 41), some (.ref d1), some (.int x2), some (.int x3)] [.int r_2, .int x3, .ref 42] M _
      refine sn_goto (j := j4_make) (pc := 56) 60 rfl dX4_make_56 ?_
      exact Snd.wk (sl4_make_60 rec30 hrec30 d1 x2 x3 r_2 x3 hd1 M) (by simp [mm_le])
def l4_make_30  : Nat → Nat → Int32 → Int32 → mm_M → Option (mm_M)
  | 0 => fun _ _ _ _ => none
  | n + 1 => fun d1 x2 x3 M => b4_make_30  (l4_make_30  n) d1 x2 x3 M
theorem sl4_make_30   : ∀ (n : Nat) (d1 : Nat) (x2 : Int32) (x3 : Int32) (hd1 : isD d1 = true) (M : mm_M), Snd injV j4_make mm_X0 30 [some (.ref 41), some (.ref d1), some (.int x2), some (.int x3)] [] M (l4_make_30  n d1 x2 x3 M)
  | 0 => fun _ _ _ _ _ => Snd.none
  | n + 1 => fun d1 x2 x3 hd1 M => sb4_make_30   (l4_make_30  n) (fun d1 x2 x3 M hd1 => sl4_make_30   n d1 x2 x3 hd1 M) d1 x2 x3 hd1 M
def b4_make_2  (rec2 : Nat → Int32 → Int32 → mm_M → Option (mm_M)) (d1 : Nat) (x2 : Int32) (x3 : Int32) (M : mm_M) : Option (mm_M) :=
  bI (mI M d1 2) (fun v_3 => if v_3 ≤ x3 then (l4_make_30 FU d1 x2 0 M) else (cI (f0_fact d1 x3 2 M) (fun r_4 M => uI 43 4 x3 r_4 M (fun M => rec2 d1 x2 (x3 + 1) M))))
set_option maxHeartbeats 2000000 in
theorem sb4_make_2   (rec2 : Nat → Int32 → Int32 → mm_M → Option (mm_M)) (hrec2 : ∀ (d1 : Nat) (x2 : Int32) (x3 : Int32) (M : mm_M), isD d1 = true → Snd injV j4_make mm_X0 2 [some (.ref 41), some (.ref d1), some (.int x2), some (.int x3)] [] M (rec2 d1 x2 x3 M)) (d1 : Nat) (x2 : Int32) (x3 : Int32) (hd1 : isD d1 = true) (M : mm_M) : Snd injV j4_make mm_X0 2 [some (.ref 41), some (.ref d1), some (.int x2), some (.int x3)] [] M (b4_make_2  rec2 d1 x2 x3 M) := by
  unfold b4_make_2
  refine sn_iload_n (j := j4_make) (pc := 2) rfl rfl dX4_make_2 ?_
  refine sn_aload_n (j := j4_make) (pc := 3) rfl rfl dX4_make_3 ?_
  refine g_X4_21 (j := j4_make) (pc := 4) hd1 rfl dX4_make_4 ?_
  refine Snd.bI (fun v_3 => ?_)
  refine sn_icmp_ge (j := j4_make) (pc := 7) 28 rfl dX4_make_7 ?_ ?_
  · refine sn_iconst (j := j4_make) (pc := 28) 0 rfl dX4_make_28 ?_
    refine sn_istore_n (j := j4_make) (pc := 29) rfl (by decide) (lo' := [some (.ref 41), some (.ref d1), some (.int x2), some (.int 0)]) rfl dX4_make_29 ?_
    exact Snd.wk (sl4_make_30 FU d1 x2 0 hd1 M) (by simp [mm_le])
  · refine sn_aload_n (j := j4_make) (pc := 10) rfl rfl dX4_make_10 ?_
    refine g_X4_15 (j := j4_make) (pc := 11) rfl dX4_make_11 ?_
    refine sn_iload_n (j := j4_make) (pc := 14) rfl rfl dX4_make_14 ?_
    refine sn_aload_n (j := j4_make) (pc := 15) rfl rfl dX4_make_15 ?_
    refine sn_iload_n (j := j4_make) (pc := 16) rfl rfl dX4_make_16 ?_
    refine sn_iconst (j := j4_make) (pc := 17) 2 rfl dX4_make_17 ?_
    refine sn_callV (j := j4_make) (pc := 18) (jc := j0_fact) (As := [.int x3, .int 2]) (s0_fact d1 x3 2 M) mm_hvI (by simp [Value.category]) (Nat.le_of_ble_eq_true rfl) q0_fact rfl (by decide) rfl (isD_obj hd1) (isD_pos hd1) w_ml_X4_27 w_im_X0_fact w_se_X0_fact rfl (Nat.le_of_ble_eq_true rfl) dX4_make_18 ?_
    rintro ⟨r_4, M⟩
    show Snd injV j4_make mm_X0 21 [some (.ref 41), some (.ref d1), some (.int x2), some (.int x3)] [.int r_4, .int x3, .ref 43] M _
    refine sn_iast (j := j4_make) (pc := 21) rfl ⟨by decide, by decide⟩ dX4_make_21 (fun M => ?_)
    refine sn_iinc (j := j4_make) (pc := 22) 1 rfl (by decide) rfl (lo' := [some (.ref 41), some (.ref d1), some (.int x2), some (.int (x3 + 1))]) rfl dX4_make_22 ?_
    refine sn_goto (j := j4_make) (pc := 25) 2 rfl dX4_make_25 ?_
    exact Snd.wk (hrec2 d1 x2 (x3 + 1) M hd1) (by simp [mm_le])
def l4_make_2  : Nat → Nat → Int32 → Int32 → mm_M → Option (mm_M)
  | 0 => fun _ _ _ _ => none
  | n + 1 => fun d1 x2 x3 M => b4_make_2  (l4_make_2  n) d1 x2 x3 M
theorem sl4_make_2   : ∀ (n : Nat) (d1 : Nat) (x2 : Int32) (x3 : Int32) (hd1 : isD d1 = true) (M : mm_M), Snd injV j4_make mm_X0 2 [some (.ref 41), some (.ref d1), some (.int x2), some (.int x3)] [] M (l4_make_2  n d1 x2 x3 M)
  | 0 => fun _ _ _ _ _ => Snd.none
  | n + 1 => fun d1 x2 x3 hd1 M => sb4_make_2   (l4_make_2  n) (fun d1 x2 x3 M hd1 => sl4_make_2   n d1 x2 x3 hd1 M) d1 x2 x3 hd1 M
def f4_make (d1 : Nat) (x2 : Int32) (M : mm_M) : Option (mm_M) :=
  if isD d1 = true then (l4_make_2 FU d1 x2 0 M) else none
set_option maxHeartbeats 2000000 in
theorem s4_make (d1 : Nat) (x2 : Int32) (M : mm_M) : Snd injV j4_make mm_X0 0 [some (.ref 41), some (.ref d1), some (.int x2)] [] M (f4_make d1 x2 M) := by
  refine Snd.wk (lo' := [some (.ref 41), some (.ref d1), some (.int x2), none]) ?_ (by simp [mm_le])
  unfold f4_make
  refine Snd.ite fun hd1 => ?_
  refine sn_iconst (j := j4_make) (pc := 0) 0 rfl dX4_make_0 ?_
  refine sn_istore_n (j := j4_make) (pc := 1) rfl (by decide) (lo' := [some (.ref 41), some (.ref d1), some (.int x2), some (.int 0)]) rfl dX4_make_1 ?_
  exact Snd.wk (sl4_make_2 FU d1 x2 0 hd1 M) (by simp [mm_le])
