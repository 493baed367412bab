abbrev j7_isAllThere : mm_J := (yX7_isAllThere, cX7_isAllThere, 3, (some .boolean), 2)
theorem dX7_isAllThere_0 : decode cX7_isAllThere 0 = .ok (.iconst 0, 1) := by decide +kernel
theorem dX7_isAllThere_1 : decode cX7_isAllThere 1 = .ok (.istore_n 2, 1) := by decide +kernel
theorem dX7_isAllThere_2 : decode cX7_isAllThere 2 = .ok (.iload_n 2, 1) := by decide +kernel
theorem dX7_isAllThere_3 : decode cX7_isAllThere 3 = .ok (.aload_n 0, 1) := by decide +kernel
theorem dX7_isAllThere_4 : decode cX7_isAllThere 4 = .ok (.getfield 7, 3) := by decide +kernel
theorem dX7_isAllThere_7 : decode cX7_isAllThere 7 = .ok (.iconst 1, 1) := by decide +kernel
theorem dX7_isAllThere_8 : decode cX7_isAllThere 8 = .ok (.iaload, 1) := by decide +kernel
theorem dX7_isAllThere_9 : decode cX7_isAllThere 9 = .ok (.if_icmp .ge 33, 3) := by decide +kernel
theorem dX7_isAllThere_12 : decode cX7_isAllThere 12 = .ok (.aload_n 0, 1) := by decide +kernel
theorem dX7_isAllThere_13 : decode cX7_isAllThere 13 = .ok (.getfield 22, 3) := by decide +kernel
theorem dX7_isAllThere_16 : decode cX7_isAllThere 16 = .ok (.iload_n 1, 1) := by decide +kernel
theorem dX7_isAllThere_17 : decode cX7_isAllThere 17 = .ok (.iaload, 1) := by decide +kernel
theorem dX7_isAllThere_18 : decode cX7_isAllThere 18 = .ok (.iload_n 2, 1) := by decide +kernel
theorem dX7_isAllThere_19 : decode cX7_isAllThere 19 = .ok (.invokestatic 110, 3) := by decide +kernel
theorem dX7_isAllThere_22 : decode cX7_isAllThere 22 = .ok (.ifCond .eq 14, 3) := by decide +kernel
theorem dX7_isAllThere_25 : decode cX7_isAllThere 25 = .ok (.aload_n 0, 1) := by decide +kernel
theorem dX7_isAllThere_26 : decode cX7_isAllThere 26 = .ok (.iload_n 2, 1) := by decide +kernel
theorem dX7_isAllThere_27 : decode cX7_isAllThere 27 = .ok (.iload_n 1, 1) := by decide +kernel
theorem dX7_isAllThere_28 : decode cX7_isAllThere 28 = .ok (.invokevirtual 210, 3) := by decide +kernel
theorem dX7_isAllThere_31 : decode cX7_isAllThere 31 = .ok (.ifCond .ne 5, 3) := by decide +kernel
theorem dX7_isAllThere_34 : decode cX7_isAllThere 34 = .ok (.iconst 0, 1) := by decide +kernel
theorem dX7_isAllThere_35 : decode cX7_isAllThere 35 = .ok (.ireturn, 1) := by decide +kernel
theorem dX7_isAllThere_36 : decode cX7_isAllThere 36 = .ok (.iinc 2 1, 3) := by decide +kernel
theorem dX7_isAllThere_39 : decode cX7_isAllThere 39 = .ok (.goto (-37), 3) := by decide +kernel
theorem dX7_isAllThere_42 : decode cX7_isAllThere 42 = .ok (.iconst 1, 1) := by decide +kernel
theorem dX7_isAllThere_43 : decode cX7_isAllThere 43 = .ok (.ireturn, 1) := by decide +kernel
def l7_isAllThere_36 (rec2 : Int32 → Int32 → mm_M → Option (Int32 × mm_M)) (x1 : Int32) (x2 : Int32) (M : mm_M) : Option (Int32 × mm_M) :=
  rec2 x1 (x2 + 1) M
set_option maxHeartbeats 2000000 in
theorem sl7_isAllThere_36 (rec2 : Int32 → Int32 → mm_M → Option (Int32 × mm_M)) (hrec2 : ∀ (x1 : Int32) (x2 : Int32) (M : mm_M), Snd injI j7_isAllThere mm_X0 2 [some (.ref 46), some (.int x1), some (.int x2)] [] M (rec2 x1 x2 M)) (x1 : Int32) (x2 : Int32)  (M : mm_M) : Snd injI j7_isAllThere mm_X0 36 [some (.ref 46), some (.int x1), some (.int x2)] [] M (l7_isAllThere_36 rec2 x1 x2 M) := by
  unfold l7_isAllThere_36
  refine sn_iinc (j := j7_isAllThere) (pc := 36) 1 rfl (by decide) rfl (lo' := [some (.ref 46), some (.int x1), some (.int (x2 + 1))]) rfl dX7_isAllThere_36 ?_
  refine sn_goto (j := j7_isAllThere) (pc := 39) 2 rfl dX7_isAllThere_39 ?_
  exact Snd.wk (hrec2 x1 (x2 + 1) M ) (by simp [mm_le])
def b7_isAllThere_2  (rec2 : Int32 → Int32 → mm_M → Option (Int32 × mm_M)) (x1 : Int32) (x2 : Int32) (M : mm_M) : Option (Int32 × mm_M) :=
  aI 47 82 1 M (fun w_1 => if w_1 ≤ x2 then (rZ 1 M) else (aI 51 8 x1 M (fun w_2 => cI (f7_has w_2 x2 M) (fun r_3 M => if r_3 = 0 then (l7_isAllThere_36 rec2 x1 x2 M) else (cI (f7_isThere x2 x1 M) (fun r_4 M => if r_4 = 0 then (rZ 0 M) else (l7_isAllThere_36 rec2 x1 x2 M)))))))
set_option maxHeartbeats 2000000 in
theorem sb7_isAllThere_2   (rec2 : Int32 → Int32 → mm_M → Option (Int32 × mm_M)) (hrec2 : ∀ (x1 : Int32) (x2 : Int32) (M : mm_M), Snd injI j7_isAllThere mm_X0 2 [some (.ref 46), some (.int x1), some (.int x2)] [] M (rec2 x1 x2 M)) (x1 : Int32) (x2 : Int32)  (M : mm_M) : Snd injI j7_isAllThere mm_X0 2 [some (.ref 46), some (.int x1), some (.int x2)] [] M (b7_isAllThere_2  rec2 x1 x2 M) := by
  unfold b7_isAllThere_2
  refine sn_iload_n (j := j7_isAllThere) (pc := 2) rfl rfl dX7_isAllThere_2 ?_
  refine sn_aload_n (j := j7_isAllThere) (pc := 3) rfl rfl dX7_isAllThere_3 ?_
  refine g_X7_7 (j := j7_isAllThere) (pc := 4) rfl dX7_isAllThere_4 ?_
  refine sn_iconst (j := j7_isAllThere) (pc := 7) 1 rfl dX7_isAllThere_7 ?_
  refine sn_iald (j := j7_isAllThere) (pc := 8) rfl ⟨by decide, by decide⟩ dX7_isAllThere_8 (fun w_1 => ?_)
  refine sn_icmp_ge (j := j7_isAllThere) (pc := 9) 42 rfl dX7_isAllThere_9 ?_ ?_
  · refine sn_iconst (j := j7_isAllThere) (pc := 42) 1 rfl dX7_isAllThere_42 ?_
    exact sn_zret (j := j7_isAllThere) (pc := 43) rfl dX7_isAllThere_43
  · refine sn_aload_n (j := j7_isAllThere) (pc := 12) rfl rfl dX7_isAllThere_12 ?_
    refine g_X7_22 (j := j7_isAllThere) (pc := 13) rfl dX7_isAllThere_13 ?_
    refine sn_iload_n (j := j7_isAllThere) (pc := 16) rfl rfl dX7_isAllThere_16 ?_
    refine sn_iald (j := j7_isAllThere) (pc := 17) rfl ⟨by decide, by decide⟩ dX7_isAllThere_17 (fun w_2 => ?_)
    refine sn_iload_n (j := j7_isAllThere) (pc := 18) rfl rfl dX7_isAllThere_18 ?_
    refine sn_callS (j := j7_isAllThere) (pc := 19) (jc := j7_has) (As := [.int w_2, .int x2]) (s7_has w_2 x2 M) mm_hvI (by simp [Value.category]) (Nat.le_of_ble_eq_true rfl) q7_has rfl (by decide) w_ml_X7_110 w_st_X7_has rfl (Nat.le_of_ble_eq_true rfl) dX7_isAllThere_19 ?_
    rintro ⟨r_3, M⟩
    show Snd injI j7_isAllThere mm_X0 22 [some (.ref 46), some (.int x1), some (.int x2)] [.int r_3] M _
    refine sn_if_eq (j := j7_isAllThere) (pc := 22) 36 rfl dX7_isAllThere_22 ?_ ?_
    · exact Snd.wk (sl7_isAllThere_36 rec2 hrec2 x1 x2 M) (by simp [mm_le])
    · refine sn_aload_n (j := j7_isAllThere) (pc := 25) rfl rfl dX7_isAllThere_25 ?_
      refine sn_iload_n (j := j7_isAllThere) (pc := 26) rfl rfl dX7_isAllThere_26 ?_
      refine sn_iload_n (j := j7_isAllThere) (pc := 27) rfl rfl dX7_isAllThere_27 ?_
      refine sn_callV (j := j7_isAllThere) (pc := 28) (jc := j7_isThere) (As := [.int x2, .int x1]) (s7_isThere x2 x1 M) mm_hvI (by simp [Value.category]) (Nat.le_of_ble_eq_true rfl) q7_isThere rfl (by decide) rfl rfl ⟨by decide, by decide⟩ w_ml_X7_210 w_im_X7_isThere w_se_X7_isThere rfl (Nat.le_of_ble_eq_true rfl) dX7_isAllThere_28 ?_
      rintro ⟨r_4, M⟩
      show Snd injI j7_isAllThere mm_X0 31 [some (.ref 46), some (.int x1), some (.int x2)] [.int r_4] M _
      refine sn_if_ne (j := j7_isAllThere) (pc := 31) 36 rfl dX7_isAllThere_31 ?_ ?_
      · exact Snd.wk (sl7_isAllThere_36 rec2 hrec2 x1 x2 M) (by simp [mm_le])
      · refine sn_iconst (j := j7_isAllThere) (pc := 34) 0 rfl dX7_isAllThere_34 ?_
        exact sn_zret (j := j7_isAllThere) (pc := 35) rfl dX7_isAllThere_35
def l7_isAllThere_2  : Nat → Int32 → Int32 → mm_M → Option (Int32 × mm_M)
  | 0 => fun _ _ _ => none
  | n + 1 => fun x1 x2 M => b7_isAllThere_2  (l7_isAllThere_2  n) x1 x2 M
theorem sl7_isAllThere_2   : ∀ (n : Nat) (x1 : Int32) (x2 : Int32)  (M : mm_M), Snd injI j7_isAllThere mm_X0 2 [some (.ref 46), some (.int x1), some (.int x2)] [] M (l7_isAllThere_2  n x1 x2 M)
  | 0 => fun _ _  _ => Snd.none
  | n + 1 => fun x1 x2  M => sb7_isAllThere_2   (l7_isAllThere_2  n) (fun x1 x2 M  => sl7_isAllThere_2   n x1 x2  M) x1 x2  M
def f7_isAllThere (x1 : Int32) (M : mm_M) : Option (Int32 × mm_M) :=
  l7_isAllThere_2 FU x1 0 M
set_option maxHeartbeats 2000000 in
theorem s7_isAllThere (x1 : Int32) (M : mm_M) : Snd injI j7_isAllThere mm_X0 0 [some (.ref 46), some (.int x1)] [] M (f7_isAllThere x1 M) := by
  refine Snd.wk (lo' := [some (.ref 46), some (.int x1), none]) ?_ (by simp [mm_le])
  unfold f7_isAllThere
  refine sn_iconst (j := j7_isAllThere) (pc := 0) 0 rfl dX7_isAllThere_0 ?_
  refine sn_istore_n (j := j7_isAllThere) (pc := 1) rfl (by decide) (lo' := [some (.ref 46), some (.int x1), some (.int 0)]) rfl dX7_isAllThere_1 ?_
  exact Snd.wk (sl7_isAllThere_2 FU x1 0 M) (by simp [mm_le])

abbrev j7_wrongOf : mm_J := (yX7_wrongOf, cX7_wrongOf, 4, (some .int), 3)
theorem dX7_wrongOf_0 : decode cX7_wrongOf 0 = .ok (.iconst 1, 1) := by decide +kernel
theorem dX7_wrongOf_1 : decode cX7_wrongOf 1 = .ok (.istore_n 1, 1) := by decide +kernel
theorem dX7_wrongOf_2 : decode cX7_wrongOf 2 = .ok (.iload_n 1, 1) := by decide +kernel
theorem dX7_wrongOf_3 : decode cX7_wrongOf 3 = .ok (.iconst 4, 1) := by decide +kernel
theorem dX7_wrongOf_4 : decode cX7_wrongOf 4 = .ok (.if_icmp .ge 107, 3) := by decide +kernel
theorem dX7_wrongOf_7 : decode cX7_wrongOf 7 = .ok (.iconst 0, 1) := by decide +kernel
theorem dX7_wrongOf_8 : decode cX7_wrongOf 8 = .ok (.istore_n 2, 1) := by decide +kernel
theorem dX7_wrongOf_9 : decode cX7_wrongOf 9 = .ok (.iload_n 2, 1) := by decide +kernel
theorem dX7_wrongOf_10 : decode cX7_wrongOf 10 = .ok (.aload_n 0, 1) := by decide +kernel
theorem dX7_wrongOf_11 : decode cX7_wrongOf 11 = .ok (.getfield 7, 3) := by decide +kernel
theorem dX7_wrongOf_14 : decode cX7_wrongOf 14 = .ok (.iconst 0, 1) := by decide +kernel
theorem dX7_wrongOf_15 : decode cX7_wrongOf 15 = .ok (.iaload, 1) := by decide +kernel
theorem dX7_wrongOf_16 : decode cX7_wrongOf 16 = .ok (.if_icmp .ge 89, 3) := by decide +kernel
theorem dX7_wrongOf_19 : decode cX7_wrongOf 19 = .ok (.iload_n 1, 1) := by decide +kernel
theorem dX7_wrongOf_20 : decode cX7_wrongOf 20 = .ok (.iconst 1, 1) := by decide +kernel
theorem dX7_wrongOf_21 : decode cX7_wrongOf 21 = .ok (.if_icmp .ne 19, 3) := by decide +kernel
theorem dX7_wrongOf_24 : decode cX7_wrongOf 24 = .ok (.aload_n 0, 1) := by decide +kernel
theorem dX7_wrongOf_25 : decode cX7_wrongOf 25 = .ok (.iload_n 2, 1) := by decide +kernel
theorem dX7_wrongOf_26 : decode cX7_wrongOf 26 = .ok (.invokevirtual 219, 3) := by decide +kernel
theorem dX7_wrongOf_29 : decode cX7_wrongOf 29 = .ok (.ifCond .ne 7, 3) := by decide +kernel
theorem dX7_wrongOf_32 : decode cX7_wrongOf 32 = .ok (.iconst 1, 1) := by decide +kernel
theorem dX7_wrongOf_33 : decode cX7_wrongOf 33 = .ok (.goto 54, 3) := by decide +kernel
theorem dX7_wrongOf_36 : decode cX7_wrongOf 36 = .ok (.iconst 0, 1) := by decide +kernel
theorem dX7_wrongOf_37 : decode cX7_wrongOf 37 = .ok (.goto 50, 3) := by decide +kernel
theorem dX7_wrongOf_40 : decode cX7_wrongOf 40 = .ok (.iload_n 1, 1) := by decide +kernel
theorem dX7_wrongOf_41 : decode cX7_wrongOf 41 = .ok (.iconst 2, 1) := by decide +kernel
theorem dX7_wrongOf_42 : decode cX7_wrongOf 42 = .ok (.if_icmp .ne 27, 3) := by decide +kernel
theorem dX7_wrongOf_45 : decode cX7_wrongOf 45 = .ok (.aload_n 0, 1) := by decide +kernel
theorem dX7_wrongOf_46 : decode cX7_wrongOf 46 = .ok (.getfield 22, 3) := by decide +kernel
theorem dX7_wrongOf_49 : decode cX7_wrongOf 49 = .ok (.iload_n 2, 1) := by decide +kernel
theorem dX7_wrongOf_50 : decode cX7_wrongOf 50 = .ok (.iaload, 1) := by decide +kernel
theorem dX7_wrongOf_51 : decode cX7_wrongOf 51 = .ok (.invokestatic 175, 3) := by decide +kernel
theorem dX7_wrongOf_54 : decode cX7_wrongOf 54 = .ok (.aload_n 0, 1) := by decide +kernel
theorem dX7_wrongOf_55 : decode cX7_wrongOf 55 = .ok (.getfield 201, 3) := by decide +kernel
theorem dX7_wrongOf_58 : decode cX7_wrongOf 58 = .ok (.if_icmp .le 7, 3) := by decide +kernel
theorem dX7_wrongOf_61 : decode cX7_wrongOf 61 = .ok (.iconst 1, 1) := by decide +kernel
theorem dX7_wrongOf_62 : decode cX7_wrongOf 62 = .ok (.goto 25, 3) := by decide +kernel
theorem dX7_wrongOf_65 : decode cX7_wrongOf 65 = .ok (.iconst 0, 1) := by decide +kernel
theorem dX7_wrongOf_66 : decode cX7_wrongOf 66 = .ok (.goto 21, 3) := by decide +kernel
theorem dX7_wrongOf_69 : decode cX7_wrongOf 69 = .ok (.aload_n 0, 1) := by decide +kernel
theorem dX7_wrongOf_70 : decode cX7_wrongOf 70 = .ok (.getfield 28, 3) := by decide +kernel
theorem dX7_wrongOf_73 : decode cX7_wrongOf 73 = .ok (.iload_n 2, 1) := by decide +kernel
theorem dX7_wrongOf_74 : decode cX7_wrongOf 74 = .ok (.iaload, 1) := by decide +kernel
theorem dX7_wrongOf_75 : decode cX7_wrongOf 75 = .ok (.aload_n 0, 1) := by decide +kernel
theorem dX7_wrongOf_76 : decode cX7_wrongOf 76 = .ok (.getfield 204, 3) := by decide +kernel
theorem dX7_wrongOf_79 : decode cX7_wrongOf 79 = .ok (.if_icmp .le 7, 3) := by decide +kernel
theorem dX7_wrongOf_82 : decode cX7_wrongOf 82 = .ok (.iconst 1, 1) := by decide +kernel
theorem dX7_wrongOf_83 : decode cX7_wrongOf 83 = .ok (.goto 4, 3) := by decide +kernel
theorem dX7_wrongOf_86 : decode cX7_wrongOf 86 = .ok (.iconst 0, 1) := by decide +kernel
theorem dX7_wrongOf_87 : decode cX7_wrongOf 87 = .ok (.istore_n 3, 1) := by decide +kernel
theorem dX7_wrongOf_88 : decode cX7_wrongOf 88 = .ok (.iload_n 3, 1) := by decide +kernel
theorem dX7_wrongOf_89 : decode cX7_wrongOf 89 = .ok (.ifCond .eq 10, 3) := by decide +kernel
theorem dX7_wrongOf_92 : decode cX7_wrongOf 92 = .ok (.iload_n 1, 1) := by decide +kernel
theorem dX7_wrongOf_93 : decode cX7_wrongOf 93 = .ok (.bipush 8, 2) := by decide +kernel
theorem dX7_wrongOf_95 : decode cX7_wrongOf 95 = .ok (.iload_n 2, 1) := by decide +kernel
theorem dX7_wrongOf_96 : decode cX7_wrongOf 96 = .ok (.imul, 1) := by decide +kernel
theorem dX7_wrongOf_97 : decode cX7_wrongOf 97 = .ok (.iadd, 1) := by decide +kernel
theorem dX7_wrongOf_98 : decode cX7_wrongOf 98 = .ok (.ireturn, 1) := by decide +kernel
theorem dX7_wrongOf_99 : decode cX7_wrongOf 99 = .ok (.iinc 2 1, 3) := by decide +kernel
theorem dX7_wrongOf_102 : decode cX7_wrongOf 102 = .ok (.goto (-93), 3) := by decide +kernel
theorem dX7_wrongOf_105 : decode cX7_wrongOf 105 = .ok (.iinc 1 1, 3) := by decide +kernel
theorem dX7_wrongOf_108 : decode cX7_wrongOf 108 = .ok (.goto (-106), 3) := by decide +kernel
theorem dX7_wrongOf_111 : decode cX7_wrongOf 111 = .ok (.iconst 0, 1) := by decide +kernel
theorem dX7_wrongOf_112 : decode cX7_wrongOf 112 = .ok (.istore_n 1, 1) := by decide +kernel
theorem dX7_wrongOf_113 : decode cX7_wrongOf 113 = .ok (.iload_n 1, 1) := by decide +kernel
theorem dX7_wrongOf_114 : decode cX7_wrongOf 114 = .ok (.aload_n 0, 1) := by decide +kernel
theorem dX7_wrongOf_115 : decode cX7_wrongOf 115 = .ok (.getfield 7, 3) := by decide +kernel
theorem dX7_wrongOf_118 : decode cX7_wrongOf 118 = .ok (.iconst 1, 1) := by decide +kernel
theorem dX7_wrongOf_119 : decode cX7_wrongOf 119 = .ok (.iaload, 1) := by decide +kernel
theorem dX7_wrongOf_120 : decode cX7_wrongOf 120 = .ok (.if_icmp .ge 24, 3) := by decide +kernel
theorem dX7_wrongOf_123 : decode cX7_wrongOf 123 = .ok (.aload_n 0, 1) := by decide +kernel
theorem dX7_wrongOf_124 : decode cX7_wrongOf 124 = .ok (.iload_n 1, 1) := by decide +kernel
theorem dX7_wrongOf_125 : decode cX7_wrongOf 125 = .ok (.invokevirtual 216, 3) := by decide +kernel
theorem dX7_wrongOf_128 : decode cX7_wrongOf 128 = .ok (.ifCond .le 10, 3) := by decide +kernel
theorem dX7_wrongOf_131 : decode cX7_wrongOf 131 = .ok (.iconst 4, 1) := by decide +kernel
theorem dX7_wrongOf_132 : decode cX7_wrongOf 132 = .ok (.bipush 8, 2) := by decide +kernel
theorem dX7_wrongOf_134 : decode cX7_wrongOf 134 = .ok (.iload_n 1, 1) := by decide +kernel
theorem dX7_wrongOf_135 : decode cX7_wrongOf 135 = .ok (.imul, 1) := by decide +kernel
theorem dX7_wrongOf_136 : decode cX7_wrongOf 136 = .ok (.iadd, 1) := by decide +kernel
theorem dX7_wrongOf_137 : decode cX7_wrongOf 137 = .ok (.ireturn, 1) := by decide +kernel
theorem dX7_wrongOf_138 : decode cX7_wrongOf 138 = .ok (.iinc 1 1, 3) := by decide +kernel
theorem dX7_wrongOf_141 : decode cX7_wrongOf 141 = .ok (.goto (-28), 3) := by decide +kernel
theorem dX7_wrongOf_144 : decode cX7_wrongOf 144 = .ok (.iconst 0, 1) := by decide +kernel
theorem dX7_wrongOf_145 : decode cX7_wrongOf 145 = .ok (.ireturn, 1) := by decide +kernel
def b7_wrongOf_113  (rec113 : Int32 → mm_M → Option (Int32 × mm_M)) (x1 : Int32) (M : mm_M) : Option (Int32 × mm_M) :=
  aI 47 82 1 M (fun w_1 => if w_1 ≤ x1 then (some (0, M)) else (cI (f7_lackOf x1 M) (fun r_2 M => if r_2 ≤ 0 then (rec113 (x1 + 1) M) else (some (4 + (8 * x1), M)))))
set_option maxHeartbeats 2000000 in
theorem sb7_wrongOf_113   (rec113 : Int32 → mm_M → Option (Int32 × mm_M)) (hrec113 : ∀ (x1 : Int32) (M : mm_M), Snd injI j7_wrongOf mm_X0 113 [some (.ref 46), some (.int x1), none, none] [] M (rec113 x1 M)) (x1 : Int32)  (M : mm_M) : Snd injI j7_wrongOf mm_X0 113 [some (.ref 46), some (.int x1), none, none] [] M (b7_wrongOf_113  rec113 x1 M) := by
  unfold b7_wrongOf_113
  refine sn_iload_n (j := j7_wrongOf) (pc := 113) rfl rfl dX7_wrongOf_113 ?_
  refine sn_aload_n (j := j7_wrongOf) (pc := 114) rfl rfl dX7_wrongOf_114 ?_
  refine g_X7_7 (j := j7_wrongOf) (pc := 115) rfl dX7_wrongOf_115 ?_
  refine sn_iconst (j := j7_wrongOf) (pc := 118) 1 rfl dX7_wrongOf_118 ?_
  refine sn_iald (j := j7_wrongOf) (pc := 119) rfl ⟨by decide, by decide⟩ dX7_wrongOf_119 (fun w_1 => ?_)
  refine sn_icmp_ge (j := j7_wrongOf) (pc := 120) 144 rfl dX7_wrongOf_120 ?_ ?_
  · refine sn_iconst (j := j7_wrongOf) (pc := 144) 0 rfl dX7_wrongOf_144 ?_
    exact sn_iret (j := j7_wrongOf) (pc := 145) rfl dX7_wrongOf_145
  · refine sn_aload_n (j := j7_wrongOf) (pc := 123) rfl rfl dX7_wrongOf_123 ?_
    refine sn_iload_n (j := j7_wrongOf) (pc := 124) rfl rfl dX7_wrongOf_124 ?_
    refine sn_callV (j := j7_wrongOf) (pc := 125) (jc := j7_lackOf) (As := [.int x1]) (s7_lackOf x1 M) mm_hvI (by simp [Value.category]) (Nat.le_of_ble_eq_true rfl) q7_lackOf rfl (by decide) rfl rfl ⟨by decide, by decide⟩ w_ml_X7_216 w_im_X7_lackOf w_se_X7_lackOf rfl (Nat.le_of_ble_eq_true rfl) dX7_wrongOf_125 ?_
    rintro ⟨r_2, M⟩
    show Snd injI j7_wrongOf mm_X0 128 [some (.ref 46), some (.int x1), none, none] [.int r_2] M _
    refine sn_if_le (j := j7_wrongOf) (pc := 128) 138 rfl dX7_wrongOf_128 ?_ ?_
    · refine sn_iinc (j := j7_wrongOf) (pc := 138) 1 rfl (by decide) rfl (lo' := [some (.ref 46), some (.int (x1 + 1)), none, none]) rfl dX7_wrongOf_138 ?_
      refine sn_goto (j := j7_wrongOf) (pc := 141) 113 rfl dX7_wrongOf_141 ?_
      exact Snd.wk (hrec113 (x1 + 1) M ) (by simp [mm_le])
    · refine sn_iconst (j := j7_wrongOf) (pc := 131) 4 rfl dX7_wrongOf_131 ?_
      refine sn_bipush (j := j7_wrongOf) (pc := 132) 8 rfl dX7_wrongOf_132 ?_
      refine sn_iload_n (j := j7_wrongOf) (pc := 134) rfl rfl dX7_wrongOf_134 ?_
      refine sn_imul (j := j7_wrongOf) (pc := 135) dX7_wrongOf_135 ?_
      refine sn_iadd (j := j7_wrongOf) (pc := 136) dX7_wrongOf_136 ?_
      exact sn_iret (j := j7_wrongOf) (pc := 137) rfl dX7_wrongOf_137
def l7_wrongOf_113  : Nat → Int32 → mm_M → Option (Int32 × mm_M)
  | 0 => fun _ _ => none
  | n + 1 => fun x1 M => b7_wrongOf_113  (l7_wrongOf_113  n) x1 M
theorem sl7_wrongOf_113   : ∀ (n : Nat) (x1 : Int32)  (M : mm_M), Snd injI j7_wrongOf mm_X0 113 [some (.ref 46), some (.int x1), none, none] [] M (l7_wrongOf_113  n x1 M)
  | 0 => fun _  _ => Snd.none
  | n + 1 => fun x1  M => sb7_wrongOf_113   (l7_wrongOf_113  n) (fun x1 M  => sl7_wrongOf_113   n x1  M) x1  M
def l7_wrongOf_87 (rec9 : Int32 → Int32 → mm_M → Option (Int32 × mm_M)) (x1 : Int32) (x2 : Int32) (s0 : Int32) (M : mm_M) : Option (Int32 × mm_M) :=
  if s0 = 0 then (rec9 x1 (x2 + 1) M) else (some (x1 + (8 * x2), M))
set_option maxHeartbeats 2000000 in
theorem sl7_wrongOf_87 (rec9 : Int32 → Int32 → mm_M → Option (Int32 × mm_M)) (hrec9 : ∀ (x1 : Int32) (x2 : Int32) (M : mm_M), Snd injI j7_wrongOf mm_X0 9 [some (.ref 46), some (.int x1), some (.int x2), none] [] M (rec9 x1 x2 M)) (x1 : Int32) (x2 : Int32) (s0 : Int32)  (M : mm_M) : Snd injI j7_wrongOf mm_X0 87 [some (.ref 46), some (.int x1), some (.int x2), none] [.int s0] M (l7_wrongOf_87 rec9 x1 x2 s0 M) := by
  unfold l7_wrongOf_87
  refine sn_istore_n (j := j7_wrongOf) (pc := 87) rfl (by decide) (lo' := [some (.ref 46), some (.int x1), some (.int x2), some (.int s0)]) rfl dX7_wrongOf_87 ?_
  refine sn_iload_n (j := j7_wrongOf) (pc := 88) rfl rfl dX7_wrongOf_88 ?_
  refine sn_if_eq (j := j7_wrongOf) (pc := 89) 99 rfl dX7_wrongOf_89 ?_ ?_
  · refine sn_iinc (j := j7_wrongOf) (pc := 99) 1 rfl (by decide) rfl (lo' := [some (.ref 46), some (.int x1), some (.int (x2 + 1)), some (.int s0)]) rfl dX7_wrongOf_99 ?_
    refine sn_goto (j := j7_wrongOf) (pc := 102) 9 rfl dX7_wrongOf_102 ?_
    exact Snd.wk (hrec9 x1 (x2 + 1) M ) (by simp [mm_le])
  · refine sn_iload_n (j := j7_wrongOf) (pc := 92) rfl rfl dX7_wrongOf_92 ?_
    refine sn_bipush (j := j7_wrongOf) (pc := 93) 8 rfl dX7_wrongOf_93 ?_
    refine sn_iload_n (j := j7_wrongOf) (pc := 95) rfl rfl dX7_wrongOf_95 ?_
    refine sn_imul (j := j7_wrongOf) (pc := 96) dX7_wrongOf_96 ?_
    refine sn_iadd (j := j7_wrongOf) (pc := 97) dX7_wrongOf_97 ?_
    exact sn_iret (j := j7_wrongOf) (pc := 98) rfl dX7_wrongOf_98
def b7_wrongOf_9 (rec2 : Int32 → mm_M → Option (Int32 × mm_M)) (rec9 : Int32 → Int32 → mm_M → Option (Int32 × mm_M)) (x1 : Int32) (x2 : Int32) (M : mm_M) : Option (Int32 × mm_M) :=
  aI 47 82 0 M (fun w_3 => if w_3 ≤ x2 then (rec2 (x1 + 1) M) else (if x1 = 1 then (cI (f7_isAllThere x2 M) (fun r_9 M => if r_9 = 0 then (l7_wrongOf_87 rec9 x1 x2 1 M) else (l7_wrongOf_87 rec9 x1 x2 0 M))) else (if x1 = 2 then (aI 51 8 x2 M (fun w_6 => cI (f7_bits w_6 M) (fun r_7 M => bI (mI M 46 11) (fun v_8 => if r_7 ≤ v_8 then (l7_wrongOf_87 rec9 x1 x2 0 M) else (l7_wrongOf_87 rec9 x1 x2 1 M))))) else (aI 53 8 x2 M (fun w_4 => bI (mI M 46 13) (fun v_5 => if w_4 ≤ v_5 then (l7_wrongOf_87 rec9 x1 x2 0 M) else (l7_wrongOf_87 rec9 x1 x2 1 M)))))))
set_option maxHeartbeats 2000000 in
theorem sb7_wrongOf_9 (rec2 : Int32 → mm_M → Option (Int32 × mm_M)) (hrec2 : ∀ (x1 : Int32) (M : mm_M), Snd injI j7_wrongOf mm_X0 2 [some (.ref 46), some (.int x1), none, none] [] M (rec2 x1 M)) (rec9 : Int32 → Int32 → mm_M → Option (Int32 × mm_M)) (hrec9 : ∀ (x1 : Int32) (x2 : Int32) (M : mm_M), Snd injI j7_wrongOf mm_X0 9 [some (.ref 46), some (.int x1), some (.int x2), none] [] M (rec9 x1 x2 M)) (x1 : Int32) (x2 : Int32)  (M : mm_M) : Snd injI j7_wrongOf mm_X0 9 [some (.ref 46), some (.int x1), some (.int x2), none] [] M (b7_wrongOf_9 rec2 rec9 x1 x2 M) := by
  unfold b7_wrongOf_9
  refine sn_iload_n (j := j7_wrongOf) (pc := 9) rfl rfl dX7_wrongOf_9 ?_
  refine sn_aload_n (j := j7_wrongOf) (pc := 10) rfl rfl dX7_wrongOf_10 ?_
  refine g_X7_7 (j := j7_wrongOf) (pc := 11) rfl dX7_wrongOf_11 ?_
  refine sn_iconst (j := j7_wrongOf) (pc := 14) 0 rfl dX7_wrongOf_14 ?_
  refine sn_iald (j := j7_wrongOf) (pc := 15) rfl ⟨by decide, by decide⟩ dX7_wrongOf_15 (fun w_3 => ?_)
  refine sn_icmp_ge (j := j7_wrongOf) (pc := 16) 105 rfl dX7_wrongOf_16 ?_ ?_
  · refine sn_iinc (j := j7_wrongOf) (pc := 105) 1 rfl (by decide) rfl (lo' := [some (.ref 46), some (.int (x1 + 1)), some (.int x2), none]) rfl dX7_wrongOf_105 ?_
    refine sn_goto (j := j7_wrongOf) (pc := 108) 2 rfl dX7_wrongOf_108 ?_
    exact Snd.wk (hrec2 (x1 + 1) M ) (by simp [mm_le])
  · refine sn_iload_n (j := j7_wrongOf) (pc := 19) rfl rfl dX7_wrongOf_19 ?_
    refine sn_iconst (j := j7_wrongOf) (pc := 20) 1 rfl dX7_wrongOf_20 ?_
    refine sn_icmp_ne (j := j7_wrongOf) (pc := 21) 40 rfl dX7_wrongOf_21 ?_ ?_
    · refine sn_iload_n (j := j7_wrongOf) (pc := 40) rfl rfl dX7_wrongOf_40 ?_
      refine sn_iconst (j := j7_wrongOf) (pc := 41) 2 rfl dX7_wrongOf_41 ?_
      refine sn_icmp_ne (j := j7_wrongOf) (pc := 42) 69 rfl dX7_wrongOf_42 ?_ ?_
      · refine sn_aload_n (j := j7_wrongOf) (pc := 69) rfl rfl dX7_wrongOf_69 ?_
        refine g_X7_28 (j := j7_wrongOf) (pc := 70) rfl dX7_wrongOf_70 ?_
        refine sn_iload_n (j := j7_wrongOf) (pc := 73) rfl rfl dX7_wrongOf_73 ?_
        refine sn_iald (j := j7_wrongOf) (pc := 74) rfl ⟨by decide, by decide⟩ dX7_wrongOf_74 (fun w_4 => ?_)
        refine sn_aload_n (j := j7_wrongOf) (pc := 75) rfl rfl dX7_wrongOf_75 ?_
        refine g_X7_204 (j := j7_wrongOf) (pc := 76) rfl dX7_wrongOf_76 ?_
        refine Snd.bI (fun v_5 => ?_)
        refine sn_icmp_le (j := j7_wrongOf) (pc := 79) 86 rfl dX7_wrongOf_79 ?_ ?_
        · refine sn_iconst (j := j7_wrongOf) (pc := 86) 0 rfl dX7_wrongOf_86 ?_
          exact Snd.wk (sl7_wrongOf_87 rec9 hrec9 x1 x2 0 M) (by simp [mm_le])
        · refine sn_iconst (j := j7_wrongOf) (pc := 82) 1 rfl dX7_wrongOf_82 ?_
          refine sn_goto (j := j7_wrongOf) (pc := 83) 87 rfl dX7_wrongOf_83 ?_
          exact Snd.wk (sl7_wrongOf_87 rec9 hrec9 x1 x2 1 M) (by simp [mm_le])
      · refine sn_aload_n (j := j7_wrongOf) (pc := 45) rfl rfl dX7_wrongOf_45 ?_
        refine g_X7_22 (j := j7_wrongOf) (pc := 46) rfl dX7_wrongOf_46 ?_
        refine sn_iload_n (j := j7_wrongOf) (pc := 49) rfl rfl dX7_wrongOf_49 ?_
        refine sn_iald (j := j7_wrongOf) (pc := 50) rfl ⟨by decide, by decide⟩ dX7_wrongOf_50 (fun w_6 => ?_)
        refine sn_callS (j := j7_wrongOf) (pc := 51) (jc := j7_bits) (As := [.int w_6]) (s7_bits w_6 M) mm_hvI (by simp [Value.category]) (Nat.le_of_ble_eq_true rfl) q7_bits rfl (by decide) w_ml_X7_175 w_st_X7_bits rfl (Nat.le_of_ble_eq_true rfl) dX7_wrongOf_51 ?_
        rintro ⟨r_7, M⟩
        show Snd injI j7_wrongOf mm_X0 54 [some (.ref 46), some (.int x1), some (.int x2), none] [.int r_7] M _
        refine sn_aload_n (j := j7_wrongOf) (pc := 54) rfl rfl dX7_wrongOf_54 ?_
        refine g_X7_201 (j := j7_wrongOf) (pc := 55) rfl dX7_wrongOf_55 ?_
        refine Snd.bI (fun v_8 => ?_)
        refine sn_icmp_le (j := j7_wrongOf) (pc := 58) 65 rfl dX7_wrongOf_58 ?_ ?_
        · refine sn_iconst (j := j7_wrongOf) (pc := 65) 0 rfl dX7_wrongOf_65 ?_
          refine sn_goto (j := j7_wrongOf) (pc := 66) 87 rfl dX7_wrongOf_66 ?_
          exact Snd.wk (sl7_wrongOf_87 rec9 hrec9 x1 x2 0 M) (by simp [mm_le])
        · refine sn_iconst (j := j7_wrongOf) (pc := 61) 1 rfl dX7_wrongOf_61 ?_
          refine sn_goto (j := j7_wrongOf) (pc := 62) 87 rfl dX7_wrongOf_62 ?_
          exact Snd.wk (sl7_wrongOf_87 rec9 hrec9 x1 x2 1 M) (by simp [mm_le])
    · refine sn_aload_n (j := j7_wrongOf) (pc := 24) rfl rfl dX7_wrongOf_24 ?_
      refine sn_iload_n (j := j7_wrongOf) (pc := 25) rfl rfl dX7_wrongOf_25 ?_
      refine sn_callV (j := j7_wrongOf) (pc := 26) (jc := j7_isAllThere) (As := [.int x2]) (s7_isAllThere x2 M) mm_hvI (by simp [Value.category]) (Nat.le_of_ble_eq_true rfl) q7_isAllThere rfl (by decide) rfl rfl ⟨by decide, by decide⟩ w_ml_X7_219 w_im_X7_isAllThere w_se_X7_isAllThere rfl (Nat.le_of_ble_eq_true rfl) dX7_wrongOf_26 ?_
      rintro ⟨r_9, M⟩
      show Snd injI j7_wrongOf mm_X0 29 [some (.ref 46), some (.int x1), some (.int x2), none] [.int r_9] M _
      refine sn_if_ne (j := j7_wrongOf) (pc := 29) 36 rfl dX7_wrongOf_29 ?_ ?_
      · refine sn_iconst (j := j7_wrongOf) (pc := 36) 0 rfl dX7_wrongOf_36 ?_
        refine sn_goto (j := j7_wrongOf) (pc := 37) 87 rfl dX7_wrongOf_37 ?_
        exact Snd.wk (sl7_wrongOf_87 rec9 hrec9 x1 x2 0 M) (by simp [mm_le])
      · refine sn_iconst (j := j7_wrongOf) (pc := 32) 1 rfl dX7_wrongOf_32 ?_
        refine sn_goto (j := j7_wrongOf) (pc := 33) 87 rfl dX7_wrongOf_33 ?_
        exact Snd.wk (sl7_wrongOf_87 rec9 hrec9 x1 x2 1 M) (by simp [mm_le])
def l7_wrongOf_9 (rec2 : Int32 → mm_M → Option (Int32 × mm_M)) : Nat → Int32 → Int32 → mm_M → Option (Int32 × mm_M)
  | 0 => fun _ _ _ => none
  | n + 1 => fun x1 x2 M => b7_wrongOf_9 rec2 (l7_wrongOf_9 rec2 n) x1 x2 M
theorem sl7_wrongOf_9 (rec2 : Int32 → mm_M → Option (Int32 × mm_M)) (hrec2 : ∀ (x1 : Int32) (M : mm_M), Snd injI j7_wrongOf mm_X0 2 [some (.ref 46), some (.int x1), none, none] [] M (rec2 x1 M)) : ∀ (n : Nat) (x1 : Int32) (x2 : Int32)  (M : mm_M), Snd injI j7_wrongOf mm_X0 9 [some (.ref 46), some (.int x1), some (.int x2), none] [] M (l7_wrongOf_9 rec2 n x1 x2 M)
  | 0 => fun _ _  _ => Snd.none
  | n + 1 => fun x1 x2  M => sb7_wrongOf_9 rec2 hrec2 (l7_wrongOf_9 rec2 n) (fun x1 x2 M  => sl7_wrongOf_9 rec2 hrec2 n x1 x2  M) x1 x2  M
def b7_wrongOf_2  (rec2 : Int32 → mm_M → Option (Int32 × mm_M)) (x1 : Int32) (M : mm_M) : Option (Int32 × mm_M) :=
  if 4 ≤ x1 then (l7_wrongOf_113 FU 0 M) else (l7_wrongOf_9 rec2 FU x1 0 M)
set_option maxHeartbeats 2000000 in
theorem sb7_wrongOf_2   (rec2 : Int32 → mm_M → Option (Int32 × mm_M)) (hrec2 : ∀ (x1 : Int32) (M : mm_M), Snd injI j7_wrongOf mm_X0 2 [some (.ref 46), some (.int x1), none, none] [] M (rec2 x1 M)) (x1 : Int32)  (M : mm_M) : Snd injI j7_wrongOf mm_X0 2 [some (.ref 46), some (.int x1), none, none] [] M (b7_wrongOf_2  rec2 x1 M) := by
  unfold b7_wrongOf_2
  refine sn_iload_n (j := j7_wrongOf) (pc := 2) rfl rfl dX7_wrongOf_2 ?_
  refine sn_iconst (j := j7_wrongOf) (pc := 3) 4 rfl dX7_wrongOf_3 ?_
  refine sn_icmp_ge (j := j7_wrongOf) (pc := 4) 111 rfl dX7_wrongOf_4 ?_ ?_
  · refine sn_iconst (j := j7_wrongOf) (pc := 111) 0 rfl dX7_wrongOf_111 ?_
    refine sn_istore_n (j := j7_wrongOf) (pc := 112) rfl (by decide) (lo' := [some (.ref 46), some (.int 0), none, none]) rfl dX7_wrongOf_112 ?_
    exact Snd.wk (sl7_wrongOf_113 FU 0 M) (by simp [mm_le])
  · refine sn_iconst (j := j7_wrongOf) (pc := 7) 0 rfl dX7_wrongOf_7 ?_
    refine sn_istore_n (j := j7_wrongOf) (pc := 8) rfl (by decide) (lo' := [some (.ref 46), some (.int x1), some (.int 0), none]) rfl dX7_wrongOf_8 ?_
    exact Snd.wk (sl7_wrongOf_9 rec2 hrec2 FU x1 0 M) (by simp [mm_le])
def l7_wrongOf_2  : Nat → Int32 → mm_M → Option (Int32 × mm_M)
  | 0 => fun _ _ => none
  | n + 1 => fun x1 M => b7_wrongOf_2  (l7_wrongOf_2  n) x1 M
theorem sl7_wrongOf_2   : ∀ (n : Nat) (x1 : Int32)  (M : mm_M), Snd injI j7_wrongOf mm_X0 2 [some (.ref 46), some (.int x1), none, none] [] M (l7_wrongOf_2  n x1 M)
  | 0 => fun _  _ => Snd.none
  | n + 1 => fun x1  M => sb7_wrongOf_2   (l7_wrongOf_2  n) (fun x1 M  => sl7_wrongOf_2   n x1  M) x1  M
def f7_wrongOf  (M : mm_M) : Option (Int32 × mm_M) :=
  l7_wrongOf_2 FU 1 M
set_option maxHeartbeats 2000000 in
theorem s7_wrongOf  (M : mm_M) : Snd injI j7_wrongOf mm_X0 0 [some (.ref 46)] [] M (f7_wrongOf  M) := by
  refine Snd.wk (lo' := [some (.ref 46), none, none, none]) ?_ (by simp [mm_le])
  unfold f7_wrongOf
  refine sn_iconst (j := j7_wrongOf) (pc := 0) 1 rfl dX7_wrongOf_0 ?_
  refine sn_istore_n (j := j7_wrongOf) (pc := 1) rfl (by decide) (lo' := [some (.ref 46), some (.int 1), none, none]) rfl dX7_wrongOf_1 ?_
  exact Snd.wk (sl7_wrongOf_2 FU 1 M) (by simp [mm_le])

abbrev j7_plan : mm_J := (yX7_plan, cX7_plan, 2, (some .int), 2)
theorem dX7_plan_0 : decode cX7_plan 0 = .ok (.aload_n 0, 1) := by decide +kernel
theorem dX7_plan_1 : decode cX7_plan 1 = .ok (.iconst 0, 1) := by decide +kernel
theorem dX7_plan_2 : decode cX7_plan 2 = .ok (.putfield 56, 3) := by decide +kernel
theorem dX7_plan_5 : decode cX7_plan 5 = .ok (.aload_n 0, 1) := by decide +kernel
theorem dX7_plan_6 : decode cX7_plan 6 = .ok (.iload_n 1, 1) := by decide +kernel
theorem dX7_plan_7 : decode cX7_plan 7 = .ok (.invokevirtual 169, 3) := by decide +kernel
theorem dX7_plan_10 : decode cX7_plan 10 = .ok (.ifCond .eq 15, 3) := by decide +kernel
theorem dX7_plan_13 : decode cX7_plan 13 = .ok (.aload_n 0, 1) := by decide +kernel
theorem dX7_plan_14 : decode cX7_plan 14 = .ok (.getfield 7, 3) := by decide +kernel
theorem dX7_plan_17 : decode cX7_plan 17 = .ok (.bipush 74, 2) := by decide +kernel
theorem dX7_plan_19 : decode cX7_plan 19 = .ok (.iload_n 1, 1) := by decide +kernel
theorem dX7_plan_20 : decode cX7_plan 20 = .ok (.iadd, 1) := by decide +kernel
theorem dX7_plan_21 : decode cX7_plan 21 = .ok (.iaload, 1) := by decide +kernel
theorem dX7_plan_22 : decode cX7_plan 22 = .ok (.goto 4, 3) := by decide +kernel
theorem dX7_plan_25 : decode cX7_plan 25 = .ok (.iconst (-1), 1) := by decide +kernel
theorem dX7_plan_26 : decode cX7_plan 26 = .ok (.ireturn, 1) := by decide +kernel
def l7_plan_26  (s0 : Int32) (M : mm_M) : Option (Int32 × mm_M) :=
  some (s0, M)
set_option maxHeartbeats 2000000 in
theorem sl7_plan_26   (s0 : Int32)  (M : mm_M) : Snd injI j7_plan mm_X0 26 [none, none] [.int s0] M (l7_plan_26  s0 M) := by
  unfold l7_plan_26
  exact sn_iret (j := j7_plan) (pc := 26) rfl dX7_plan_26
def f7_plan (x1 : Int32) (M : mm_M) : Option (Int32 × mm_M) :=
  bM (sI M 46 0 0) (fun M => cI (f7_isSlot x1 M) (fun r_1 M => if r_1 = 0 then (l7_plan_26 (-1) M) else (aI 47 82 (74 + x1) M (fun w_2 => l7_plan_26 w_2 M))))
set_option maxHeartbeats 2000000 in
theorem s7_plan (x1 : Int32) (M : mm_M) : Snd injI j7_plan mm_X0 0 [some (.ref 46), some (.int x1)] [] M (f7_plan x1 M) := by
  refine Snd.wk (lo' := [some (.ref 46), some (.int x1)]) ?_ (by simp [mm_le])
  unfold f7_plan
  refine sn_aload_n (j := j7_plan) (pc := 0) rfl rfl dX7_plan_0 ?_
  refine sn_iconst (j := j7_plan) (pc := 1) 0 rfl dX7_plan_1 ?_
  refine p_X7_56 (j := j7_plan) (pc := 2) rfl dX7_plan_2 (fun M => ?_)
  refine sn_aload_n (j := j7_plan) (pc := 5) rfl rfl dX7_plan_5 ?_
  refine sn_iload_n (j := j7_plan) (pc := 6) rfl rfl dX7_plan_6 ?_
  refine sn_callV (j := j7_plan) (pc := 7) (jc := j7_isSlot) (As := [.int x1]) (s7_isSlot x1 M) mm_hvI (by simp [Value.category]) (Nat.le_of_ble_eq_true rfl) q7_isSlot rfl (by decide) rfl rfl ⟨by decide, by decide⟩ w_ml_X7_169 w_im_X7_isSlot w_se_X7_isSlot rfl (Nat.le_of_ble_eq_true rfl) dX7_plan_7 ?_
  rintro ⟨r_1, M⟩
  show Snd injI j7_plan mm_X0 10 [some (.ref 46), some (.int x1)] [.int r_1] M _
  refine sn_if_eq (j := j7_plan) (pc := 10) 25 rfl dX7_plan_10 ?_ ?_
  · refine sn_iconst (j := j7_plan) (pc := 25) (-1) rfl dX7_plan_25 ?_
    exact Snd.wk (sl7_plan_26 (-1) M) (by simp [mm_le])
  · refine sn_aload_n (j := j7_plan) (pc := 13) rfl rfl dX7_plan_13 ?_
    refine g_X7_7 (j := j7_plan) (pc := 14) rfl dX7_plan_14 ?_
    refine sn_bipush (j := j7_plan) (pc := 17) 74 rfl dX7_plan_17 ?_
    refine sn_iload_n (j := j7_plan) (pc := 19) rfl rfl dX7_plan_19 ?_
    refine sn_iadd (j := j7_plan) (pc := 20) dX7_plan_20 ?_
    refine sn_iald (j := j7_plan) (pc := 21) rfl ⟨by decide, by decide⟩ dX7_plan_21 (fun w_2 => ?_)
    refine sn_goto (j := j7_plan) (pc := 22) 26 rfl dX7_plan_22 ?_
    exact Snd.wk (sl7_plan_26 w_2 M) (by simp [mm_le])

abbrev j7_level : mm_J := (yX7_level, cX7_level, 3, (some .int), 4)
theorem dX7_level_0 : decode cX7_level 0 = .ok (.aload_n 0, 1) := by decide +kernel
theorem dX7_level_1 : decode cX7_level 1 = .ok (.iconst 0, 1) := by decide +kernel
theorem dX7_level_2 : decode cX7_level 2 = .ok (.putfield 56, 3) := by decide +kernel
theorem dX7_level_5 : decode cX7_level 5 = .ok (.aload_n 0, 1) := by decide +kernel
theorem dX7_level_6 : decode cX7_level 6 = .ok (.invokevirtual 222, 3) := by decide +kernel
theorem dX7_level_9 : decode cX7_level 9 = .ok (.aload_n 0, 1) := by decide +kernel
theorem dX7_level_10 : decode cX7_level 10 = .ok (.iload_n 1, 1) := by decide +kernel
theorem dX7_level_11 : decode cX7_level 11 = .ok (.invokevirtual 172, 3) := by decide +kernel
theorem dX7_level_14 : decode cX7_level 14 = .ok (.ifCond .eq 30, 3) := by decide +kernel
theorem dX7_level_17 : decode cX7_level 17 = .ok (.iload_n 2, 1) := by decide +kernel
theorem dX7_level_18 : decode cX7_level 18 = .ok (.iconst 0, 1) := by decide +kernel
theorem dX7_level_19 : decode cX7_level 19 = .ok (.aload_n 0, 1) := by decide +kernel
theorem dX7_level_20 : decode cX7_level 20 = .ok (.getfield 7, 3) := by decide +kernel
theorem dX7_level_23 : decode cX7_level 23 = .ok (.iconst 0, 1) := by decide +kernel
theorem dX7_level_24 : decode cX7_level 24 = .ok (.iaload, 1) := by decide +kernel
theorem dX7_level_25 : decode cX7_level 25 = .ok (.invokestatic 60, 3) := by decide +kernel
theorem dX7_level_28 : decode cX7_level 28 = .ok (.ifCond .eq 16, 3) := by decide +kernel
theorem dX7_level_31 : decode cX7_level 31 = .ok (.aload_n 0, 1) := by decide +kernel
theorem dX7_level_32 : decode cX7_level 32 = .ok (.getfield 25, 3) := by decide +kernel
theorem dX7_level_35 : decode cX7_level 35 = .ok (.iconst 4, 1) := by decide +kernel
theorem dX7_level_36 : decode cX7_level 36 = .ok (.iload_n 2, 1) := by decide +kernel
theorem dX7_level_37 : decode cX7_level 37 = .ok (.imul, 1) := by decide +kernel
theorem dX7_level_38 : decode cX7_level 38 = .ok (.iload_n 1, 1) := by decide +kernel
theorem dX7_level_39 : decode cX7_level 39 = .ok (.iadd, 1) := by decide +kernel
theorem dX7_level_40 : decode cX7_level 40 = .ok (.iaload, 1) := by decide +kernel
theorem dX7_level_41 : decode cX7_level 41 = .ok (.goto 4, 3) := by decide +kernel
theorem dX7_level_44 : decode cX7_level 44 = .ok (.iconst (-1), 1) := by decide +kernel
theorem dX7_level_45 : decode cX7_level 45 = .ok (.ireturn, 1) := by decide +kernel
def l7_level_45  (s0 : Int32) (M : mm_M) : Option (Int32 × mm_M) :=
  some (s0, M)
set_option maxHeartbeats 2000000 in
theorem sl7_level_45   (s0 : Int32)  (M : mm_M) : Snd injI j7_level mm_X0 45 [none, none, none] [.int s0] M (l7_level_45  s0 M) := by
  unfold l7_level_45
  exact sn_iret (j := j7_level) (pc := 45) rfl dX7_level_45
def l7_level_44   (M : mm_M) : Option (Int32 × mm_M) :=
  l7_level_45 (-1) M
set_option maxHeartbeats 2000000 in
theorem sl7_level_44     (M : mm_M) : Snd injI j7_level mm_X0 44 [none, none, none] [] M (l7_level_44   M) := by
  unfold l7_level_44
  refine sn_iconst (j := j7_level) (pc := 44) (-1) rfl dX7_level_44 ?_
  exact Snd.wk (sl7_level_45 (-1) M) (by simp [mm_le])
def f7_level (x1 : Int32) (x2 : Int32) (M : mm_M) : Option (Int32 × mm_M) :=
  bM (sI M 46 0 0) (fun M => cV (f7_goesByTold M) (fun M => cI (f7_isBus x1 M) (fun r_1 M => if r_1 = 0 then (l7_level_44 M) else (aI 47 82 0 M (fun w_2 => cI (f7_in x2 0 w_2 M) (fun r_3 M => if r_3 = 0 then (l7_level_44 M) else (aI 52 36 ((4 * x2) + x1) M (fun w_4 => l7_level_45 w_4 M))))))))
set_option maxHeartbeats 2000000 in
theorem s7_level (x1 : Int32) (x2 : Int32) (M : mm_M) : Snd injI j7_level mm_X0 0 [some (.ref 46), some (.int x1), some (.int x2)] [] M (f7_level x1 x2 M) := by
  refine Snd.wk (lo' := [some (.ref 46), some (.int x1), some (.int x2)]) ?_ (by simp [mm_le])
  unfold f7_level
  refine sn_aload_n (j := j7_level) (pc := 0) rfl rfl dX7_level_0 ?_
  refine sn_iconst (j := j7_level) (pc := 1) 0 rfl dX7_level_1 ?_
  refine p_X7_56 (j := j7_level) (pc := 2) rfl dX7_level_2 (fun M => ?_)
  refine sn_aload_n (j := j7_level) (pc := 5) rfl rfl dX7_level_5 ?_
  refine sn_callV (j := j7_level) (pc := 6) (jc := j7_goesByTold) (As := []) (s7_goesByTold M) mm_hvV (by simp [Value.category]) (Nat.le_of_ble_eq_true rfl) q7_goesByTold rfl (by decide) rfl rfl ⟨by decide, by decide⟩ w_ml_X7_222 w_im_X7_goesByTold w_se_X7_goesByTold rfl (Nat.le_of_ble_eq_true rfl) dX7_level_6 ?_
  intro M
  show Snd injI j7_level mm_X0 9 [some (.ref 46), some (.int x1), some (.int x2)] [] M _
  refine sn_aload_n (j := j7_level) (pc := 9) rfl rfl dX7_level_9 ?_
  refine sn_iload_n (j := j7_level) (pc := 10) rfl rfl dX7_level_10 ?_
  refine sn_callV (j := j7_level) (pc := 11) (jc := j7_isBus) (As := [.int x1]) (s7_isBus x1 M) mm_hvI (by simp [Value.category]) (Nat.le_of_ble_eq_true rfl) q7_isBus rfl (by decide) rfl rfl ⟨by decide, by decide⟩ w_ml_X7_172 w_im_X7_isBus w_se_X7_isBus rfl (Nat.le_of_ble_eq_true rfl) dX7_level_11 ?_
  rintro ⟨r_1, M⟩
  show Snd injI j7_level mm_X0 14 [some (.ref 46), some (.int x1), some (.int x2)] [.int r_1] M _
  refine sn_if_eq (j := j7_level) (pc := 14) 44 rfl dX7_level_14 ?_ ?_
  · exact Snd.wk (sl7_level_44 M) (by simp [mm_le])
  · refine sn_iload_n (j := j7_level) (pc := 17) rfl rfl dX7_level_17 ?_
    refine sn_iconst (j := j7_level) (pc := 18) 0 rfl dX7_level_18 ?_
    refine sn_aload_n (j := j7_level) (pc := 19) rfl rfl dX7_level_19 ?_
    refine g_X7_7 (j := j7_level) (pc := 20) rfl dX7_level_20 ?_
    refine sn_iconst (j := j7_level) (pc := 23) 0 rfl dX7_level_23 ?_
    refine sn_iald (j := j7_level) (pc := 24) rfl ⟨by decide, by decide⟩ dX7_level_24 (fun w_2 => ?_)
    refine sn_callS (j := j7_level) (pc := 25) (jc := j7_in) (As := [.int x2, .int 0, .int w_2]) (s7_in x2 0 w_2 M) mm_hvI (by simp [Value.category]) (Nat.le_of_ble_eq_true rfl) q7_in rfl (by decide) w_ml_X7_60 w_st_X7_in rfl (Nat.le_of_ble_eq_true rfl) dX7_level_25 ?_
    rintro ⟨r_3, M⟩
    show Snd injI j7_level mm_X0 28 [some (.ref 46), some (.int x1), some (.int x2)] [.int r_3] M _
    refine sn_if_eq (j := j7_level) (pc := 28) 44 rfl dX7_level_28 ?_ ?_
    · exact Snd.wk (sl7_level_44 M) (by simp [mm_le])
    · refine sn_aload_n (j := j7_level) (pc := 31) rfl rfl dX7_level_31 ?_
      refine g_X7_25 (j := j7_level) (pc := 32) rfl dX7_level_32 ?_
      refine sn_iconst (j := j7_level) (pc := 35) 4 rfl dX7_level_35 ?_
      refine sn_iload_n (j := j7_level) (pc := 36) rfl rfl dX7_level_36 ?_
      refine sn_imul (j := j7_level) (pc := 37) dX7_level_37 ?_
      refine sn_iload_n (j := j7_level) (pc := 38) rfl rfl dX7_level_38 ?_
      refine sn_iadd (j := j7_level) (pc := 39) dX7_level_39 ?_
      refine sn_iald (j := j7_level) (pc := 40) rfl ⟨by decide, by decide⟩ dX7_level_40 (fun w_4 => ?_)
      refine sn_goto (j := j7_level) (pc := 41) 45 rfl dX7_level_41 ?_
      exact Snd.wk (sl7_level_45 w_4 M) (by simp [mm_le])

abbrev j7_used : mm_J := (yX7_used, cX7_used, 2, (some .int), 4)
theorem dX7_used_0 : decode cX7_used 0 = .ok (.aload_n 0, 1) := by decide +kernel
theorem dX7_used_1 : decode cX7_used 1 = .ok (.iconst 0, 1) := by decide +kernel
theorem dX7_used_2 : decode cX7_used 2 = .ok (.putfield 56, 3) := by decide +kernel
theorem dX7_used_5 : decode cX7_used 5 = .ok (.aload_n 0, 1) := by decide +kernel
theorem dX7_used_6 : decode cX7_used 6 = .ok (.invokevirtual 222, 3) := by decide +kernel
theorem dX7_used_9 : decode cX7_used 9 = .ok (.aload_n 0, 1) := by decide +kernel
theorem dX7_used_10 : decode cX7_used 10 = .ok (.iload_n 1, 1) := by decide +kernel
theorem dX7_used_11 : decode cX7_used 11 = .ok (.invokevirtual 169, 3) := by decide +kernel
theorem dX7_used_14 : decode cX7_used 14 = .ok (.ifCond .eq 12, 3) := by decide +kernel
theorem dX7_used_17 : decode cX7_used 17 = .ok (.aload_n 0, 1) := by decide +kernel
theorem dX7_used_18 : decode cX7_used 18 = .ok (.getfield 28, 3) := by decide +kernel
theorem dX7_used_21 : decode cX7_used 21 = .ok (.iload_n 1, 1) := by decide +kernel
theorem dX7_used_22 : decode cX7_used 22 = .ok (.iaload, 1) := by decide +kernel
theorem dX7_used_23 : decode cX7_used 23 = .ok (.goto 4, 3) := by decide +kernel
theorem dX7_used_26 : decode cX7_used 26 = .ok (.iconst (-1), 1) := by decide +kernel
theorem dX7_used_27 : decode cX7_used 27 = .ok (.ireturn, 1) := by decide +kernel
def l7_used_27  (s0 : Int32) (M : mm_M) : Option (Int32 × mm_M) :=
  some (s0, M)
set_option maxHeartbeats 2000000 in
theorem sl7_used_27   (s0 : Int32)  (M : mm_M) : Snd injI j7_used mm_X0 27 [none, none] [.int s0] M (l7_used_27  s0 M) := by
  unfold l7_used_27
  exact sn_iret (j := j7_used) (pc := 27) rfl dX7_used_27
def f7_used (x1 : Int32) (M : mm_M) : Option (Int32 × mm_M) :=
  bM (sI M 46 0 0) (fun M => cV (f7_goesByTold M) (fun M => cI (f7_isSlot x1 M) (fun r_1 M => if r_1 = 0 then (l7_used_27 (-1) M) else (aI 53 8 x1 M (fun w_2 => l7_used_27 w_2 M)))))
set_option maxHeartbeats 2000000 in
theorem s7_used (x1 : Int32) (M : mm_M) : Snd injI j7_used mm_X0 0 [some (.ref 46), some (.int x1)] [] M (f7_used x1 M) := by
  refine Snd.wk (lo' := [some (.ref 46), some (.int x1)]) ?_ (by simp [mm_le])
  unfold f7_used
  refine sn_aload_n (j := j7_used) (pc := 0) rfl rfl dX7_used_0 ?_
  refine sn_iconst (j := j7_used) (pc := 1) 0 rfl dX7_used_1 ?_
  refine p_X7_56 (j := j7_used) (pc := 2) rfl dX7_used_2 (fun M => ?_)
  refine sn_aload_n (j := j7_used) (pc := 5) rfl rfl dX7_used_5 ?_
  refine sn_callV (j := j7_used) (pc := 6) (jc := j7_goesByTold) (As := []) (s7_goesByTold M) mm_hvV (by simp [Value.category]) (Nat.le_of_ble_eq_true rfl) q7_goesByTold rfl (by decide) rfl rfl ⟨by decide, by decide⟩ w_ml_X7_222 w_im_X7_goesByTold w_se_X7_goesByTold rfl (Nat.le_of_ble_eq_true rfl) dX7_used_6 ?_
  intro M
  show Snd injI j7_used mm_X0 9 [some (.ref 46), some (.int x1)] [] M _
  refine sn_aload_n (j := j7_used) (pc := 9) rfl rfl dX7_used_9 ?_
  refine sn_iload_n (j := j7_used) (pc := 10) rfl rfl dX7_used_10 ?_
  refine sn_callV (j := j7_used) (pc := 11) (jc := j7_isSlot) (As := [.int x1]) (s7_isSlot x1 M) mm_hvI (by simp [Value.category]) (Nat.le_of_ble_eq_true rfl) q7_isSlot rfl (by decide) rfl rfl ⟨by decide, by decide⟩ w_ml_X7_169 w_im_X7_isSlot w_se_X7_isSlot rfl (Nat.le_of_ble_eq_true rfl) dX7_used_11 ?_
  rintro ⟨r_1, M⟩
  show Snd injI j7_used mm_X0 14 [some (.ref 46), some (.int x1)] [.int r_1] M _
  refine sn_if_eq (j := j7_used) (pc := 14) 26 rfl dX7_used_14 ?_ ?_
  · refine sn_iconst (j := j7_used) (pc := 26) (-1) rfl dX7_used_26 ?_
    exact Snd.wk (sl7_used_27 (-1) M) (by simp [mm_le])
  · refine sn_aload_n (j := j7_used) (pc := 17) rfl rfl dX7_used_17 ?_
    refine g_X7_28 (j := j7_used) (pc := 18) rfl dX7_used_18 ?_
    refine sn_iload_n (j := j7_used) (pc := 21) rfl rfl dX7_used_21 ?_
    refine sn_iald (j := j7_used) (pc := 22) rfl ⟨by decide, by decide⟩ dX7_used_22 (fun w_2 => ?_)
    refine sn_goto (j := j7_used) (pc := 23) 27 rfl dX7_used_23 ?_
    exact Snd.wk (sl7_used_27 w_2 M) (by simp [mm_le])

abbrev j7_sum : mm_J := (yX7_sum, cX7_sum, 2, (some .int), 4)
theorem dX7_sum_0 : decode cX7_sum 0 = .ok (.aload_n 0, 1) := by decide +kernel
theorem dX7_sum_1 : decode cX7_sum 1 = .ok (.iconst 0, 1) := by decide +kernel
theorem dX7_sum_2 : decode cX7_sum 2 = .ok (.putfield 56, 3) := by decide +kernel
theorem dX7_sum_5 : decode cX7_sum 5 = .ok (.aload_n 0, 1) := by decide +kernel
theorem dX7_sum_6 : decode cX7_sum 6 = .ok (.invokevirtual 222, 3) := by decide +kernel
theorem dX7_sum_9 : decode cX7_sum 9 = .ok (.iload_n 1, 1) := by decide +kernel
theorem dX7_sum_10 : decode cX7_sum 10 = .ok (.iconst 4, 1) := by decide +kernel
theorem dX7_sum_11 : decode cX7_sum 11 = .ok (.if_icmp .ne 10, 3) := by decide +kernel
theorem dX7_sum_14 : decode cX7_sum 14 = .ok (.aload_n 0, 1) := by decide +kernel
theorem dX7_sum_15 : decode cX7_sum 15 = .ok (.invokevirtual 225, 3) := by decide +kernel
theorem dX7_sum_18 : decode cX7_sum 18 = .ok (.goto 21, 3) := by decide +kernel
theorem dX7_sum_21 : decode cX7_sum 21 = .ok (.iload_n 1, 1) := by decide +kernel
theorem dX7_sum_22 : decode cX7_sum 22 = .ok (.iconst 0, 1) := by decide +kernel
theorem dX7_sum_23 : decode cX7_sum 23 = .ok (.iconst 3, 1) := by decide +kernel
theorem dX7_sum_24 : decode cX7_sum 24 = .ok (.invokestatic 60, 3) := by decide +kernel
theorem dX7_sum_27 : decode cX7_sum 27 = .ok (.ifCond .eq 11, 3) := by decide +kernel
theorem dX7_sum_30 : decode cX7_sum 30 = .ok (.aload_n 0, 1) := by decide +kernel
theorem dX7_sum_31 : decode cX7_sum 31 = .ok (.iload_n 1, 1) := by decide +kernel
theorem dX7_sum_32 : decode cX7_sum 32 = .ok (.invokevirtual 228, 3) := by decide +kernel
theorem dX7_sum_35 : decode cX7_sum 35 = .ok (.goto 4, 3) := by decide +kernel
theorem dX7_sum_38 : decode cX7_sum 38 = .ok (.iconst (-1), 1) := by decide +kernel
theorem dX7_sum_39 : decode cX7_sum 39 = .ok (.ireturn, 1) := by decide +kernel
def l7_sum_39  (s0 : Int32) (M : mm_M) : Option (Int32 × mm_M) :=
  some (s0, M)
set_option maxHeartbeats 2000000 in
theorem sl7_sum_39   (s0 : Int32)  (M : mm_M) : Snd injI j7_sum mm_X0 39 [none, none] [.int s0] M (l7_sum_39  s0 M) := by
  unfold l7_sum_39
  exact sn_iret (j := j7_sum) (pc := 39) rfl dX7_sum_39
def f7_sum (x1 : Int32) (M : mm_M) : Option (Int32 × mm_M) :=
  bM (sI M 46 0 0) (fun M => cV (f7_goesByTold M) (fun M => if x1 = 4 then (cI (f7_wrongOf M) (fun r_3 M => l7_sum_39 r_3 M)) else (cI (f7_in x1 0 3 M) (fun r_1 M => if r_1 = 0 then (l7_sum_39 (-1) M) else (cI (f7_sumOf x1 M) (fun r_2 M => l7_sum_39 r_2 M))))))
set_option maxHeartbeats 2000000 in
theorem s7_sum (x1 : Int32) (M : mm_M) : Snd injI j7_sum mm_X0 0 [some (.ref 46), some (.int x1)] [] M (f7_sum x1 M) := by
  refine Snd.wk (lo' := [some (.ref 46), some (.int x1)]) ?_ (by simp [mm_le])
  unfold f7_sum
  refine sn_aload_n (j := j7_sum) (pc := 0) rfl rfl dX7_sum_0 ?_
  refine sn_iconst (j := j7_sum) (pc := 1) 0 rfl dX7_sum_1 ?_
  refine p_X7_56 (j := j7_sum) (pc := 2) rfl dX7_sum_2 (fun M => ?_)
  refine sn_aload_n (j := j7_sum) (pc := 5) rfl rfl dX7_sum_5 ?_
  refine sn_callV (j := j7_sum) (pc := 6) (jc := j7_goesByTold) (As := []) (s7_goesByTold M) mm_hvV (by simp [Value.category]) (Nat.le_of_ble_eq_true rfl) q7_goesByTold rfl (by decide) rfl rfl ⟨by decide, by decide⟩ w_ml_X7_222 w_im_X7_goesByTold w_se_X7_goesByTold rfl (Nat.le_of_ble_eq_true rfl) dX7_sum_6 ?_
  intro M
  show Snd injI j7_sum mm_X0 9 [some (.ref 46), some (.int x1)] [] M _
  refine sn_iload_n (j := j7_sum) (pc := 9) rfl rfl dX7_sum_9 ?_
  refine sn_iconst (j := j7_sum) (pc := 10) 4 rfl dX7_sum_10 ?_
  refine sn_icmp_ne (j := j7_sum) (pc := 11) 21 rfl dX7_sum_11 ?_ ?_
  · refine sn_iload_n (j := j7_sum) (pc := 21) rfl rfl dX7_sum_21 ?_
    refine sn_iconst (j := j7_sum) (pc := 22) 0 rfl dX7_sum_22 ?_
    refine sn_iconst (j := j7_sum) (pc := 23) 3 rfl dX7_sum_23 ?_
    refine sn_callS (j := j7_sum) (pc := 24) (jc := j7_in) (As := [.int x1, .int 0, .int 3]) (s7_in x1 0 3 M) mm_hvI (by simp [Value.category]) (Nat.le_of_ble_eq_true rfl) q7_in rfl (by decide) w_ml_X7_60 w_st_X7_in rfl (Nat.le_of_ble_eq_true rfl) dX7_sum_24 ?_
    rintro ⟨r_1, M⟩
    show Snd injI j7_sum mm_X0 27 [some (.ref 46), some (.int x1)] [.int r_1] M _
    refine sn_if_eq (j := j7_sum) (pc := 27) 38 rfl dX7_sum_27 ?_ ?_
    · refine sn_iconst (j := j7_sum) (pc := 38) (-1) rfl dX7_sum_38 ?_
      exact Snd.wk (sl7_sum_39 (-1) M) (by simp [mm_le])
    · refine sn_aload_n (j := j7_sum) (pc := 30) rfl rfl dX7_sum_30 ?_
      refine sn_iload_n (j := j7_sum) (pc := 31) rfl rfl dX7_sum_31 ?_
      refine sn_callV (j := j7_sum) (pc := 32) (jc := j7_sumOf) (As := [.int x1]) (s7_sumOf x1 M) mm_hvI (by simp [Value.category]) (Nat.le_of_ble_eq_true rfl) q7_sumOf rfl (by decide) rfl rfl ⟨by decide, by decide⟩ w_ml_X7_228 w_im_X7_sumOf w_se_X7_sumOf rfl (Nat.le_of_ble_eq_true rfl) dX7_sum_32 ?_
      rintro ⟨r_2, M⟩
      show Snd injI j7_sum mm_X0 35 [some (.ref 46), some (.int x1)] [.int r_2] M _
      refine sn_goto (j := j7_sum) (pc := 35) 39 rfl dX7_sum_35 ?_
      exact Snd.wk (sl7_sum_39 r_2 M) (by simp [mm_le])
  · refine sn_aload_n (j := j7_sum) (pc := 14) rfl rfl dX7_sum_14 ?_
    refine sn_callV (j := j7_sum) (pc := 15) (jc := j7_wrongOf) (As := []) (s7_wrongOf M) mm_hvI (by simp [Value.category]) (Nat.le_of_ble_eq_true rfl) q7_wrongOf rfl (by decide) rfl rfl ⟨by decide, by decide⟩ w_ml_X7_225 w_im_X7_wrongOf w_se_X7_wrongOf rfl (Nat.le_of_ble_eq_true rfl) dX7_sum_15 ?_
    rintro ⟨r_3, M⟩
    show Snd injI j7_sum mm_X0 18 [some (.ref 46), some (.int x1)] [.int r_3] M _
    refine sn_goto (j := j7_sum) (pc := 18) 39 rfl dX7_sum_18 ?_
    exact Snd.wk (sl7_sum_39 r_3 M) (by simp [mm_le])

abbrev j7_lack : mm_J := (yX7_lack, cX7_lack, 2, (some .int), 4)
theorem dX7_lack_0 : decode cX7_lack 0 = .ok (.aload_n 0, 1) := by decide +kernel
theorem dX7_lack_1 : decode cX7_lack 1 = .ok (.iconst 0, 1) := by decide +kernel
theorem dX7_lack_2 : decode cX7_lack 2 = .ok (.putfield 56, 3) := by decide +kernel
theorem dX7_lack_5 : decode cX7_lack 5 = .ok (.aload_n 0, 1) := by decide +kernel
theorem dX7_lack_6 : decode cX7_lack 6 = .ok (.invokevirtual 222, 3) := by decide +kernel
theorem dX7_lack_9 : decode cX7_lack 9 = .ok (.aload_n 0, 1) := by decide +kernel
theorem dX7_lack_10 : decode cX7_lack 10 = .ok (.iload_n 1, 1) := by decide +kernel
theorem dX7_lack_11 : decode cX7_lack 11 = .ok (.invokevirtual 172, 3) := by decide +kernel
theorem dX7_lack_14 : decode cX7_lack 14 = .ok (.ifCond .eq 11, 3) := by decide +kernel
theorem dX7_lack_17 : decode cX7_lack 17 = .ok (.aload_n 0, 1) := by decide +kernel
theorem dX7_lack_18 : decode cX7_lack 18 = .ok (.iload_n 1, 1) := by decide +kernel
theorem dX7_lack_19 : decode cX7_lack 19 = .ok (.invokevirtual 216, 3) := by decide +kernel
theorem dX7_lack_22 : decode cX7_lack 22 = .ok (.goto 4, 3) := by decide +kernel
theorem dX7_lack_25 : decode cX7_lack 25 = .ok (.iconst (-1), 1) := by decide +kernel
theorem dX7_lack_26 : decode cX7_lack 26 = .ok (.ireturn, 1) := by decide +kernel
def l7_lack_26  (s0 : Int32) (M : mm_M) : Option (Int32 × mm_M) :=
  some (s0, M)
set_option maxHeartbeats 2000000 in
theorem sl7_lack_26   (s0 : Int32)  (M : mm_M) : Snd injI j7_lack mm_X0 26 [none, none] [.int s0] M (l7_lack_26  s0 M) := by
  unfold l7_lack_26
  exact sn_iret (j := j7_lack) (pc := 26) rfl dX7_lack_26
def f7_lack (x1 : Int32) (M : mm_M) : Option (Int32 × mm_M) :=
  bM (sI M 46 0 0) (fun M => cV (f7_goesByTold M) (fun M => cI (f7_isBus x1 M) (fun r_1 M => if r_1 = 0 then (l7_lack_26 (-1) M) else (cI (f7_lackOf x1 M) (fun r_2 M => l7_lack_26 r_2 M)))))
set_option maxHeartbeats 2000000 in
theorem s7_lack (x1 : Int32) (M : mm_M) : Snd injI j7_lack mm_X0 0 [some (.ref 46), some (.int x1)] [] M (f7_lack x1 M) := by
  refine Snd.wk (lo' := [some (.ref 46), some (.int x1)]) ?_ (by simp [mm_le])
  unfold f7_lack
  refine sn_aload_n (j := j7_lack) (pc := 0) rfl rfl dX7_lack_0 ?_
  refine sn_iconst (j := j7_lack) (pc := 1) 0 rfl dX7_lack_1 ?_
  refine p_X7_56 (j := j7_lack) (pc := 2) rfl dX7_lack_2 (fun M => ?_)
  refine sn_aload_n (j := j7_lack) (pc := 5) rfl rfl dX7_lack_5 ?_
  refine sn_callV (j := j7_lack) (pc := 6) (jc := j7_goesByTold) (As := []) (s7_goesByTold M) mm_hvV (by simp [Value.category]) (Nat.le_of_ble_eq_true rfl) q7_goesByTold rfl (by decide) rfl rfl ⟨by decide, by decide⟩ w_ml_X7_222 w_im_X7_goesByTold w_se_X7_goesByTold rfl (Nat.le_of_ble_eq_true rfl) dX7_lack_6 ?_
  intro M
  show Snd injI j7_lack mm_X0 9 [some (.ref 46), some (.int x1)] [] M _
  refine sn_aload_n (j := j7_lack) (pc := 9) rfl rfl dX7_lack_9 ?_
  refine sn_iload_n (j := j7_lack) (pc := 10) rfl rfl dX7_lack_10 ?_
  refine sn_callV (j := j7_lack) (pc := 11) (jc := j7_isBus) (As := [.int x1]) (s7_isBus x1 M) mm_hvI (by simp [Value.category]) (Nat.le_of_ble_eq_true rfl) q7_isBus rfl (by decide) rfl rfl ⟨by decide, by decide⟩ w_ml_X7_172 w_im_X7_isBus w_se_X7_isBus rfl (Nat.le_of_ble_eq_true rfl) dX7_lack_11 ?_
  rintro ⟨r_1, M⟩
  show Snd injI j7_lack mm_X0 14 [some (.ref 46), some (.int x1)] [.int r_1] M _
  refine sn_if_eq (j := j7_lack) (pc := 14) 25 rfl dX7_lack_14 ?_ ?_
  · refine sn_iconst (j := j7_lack) (pc := 25) (-1) rfl dX7_lack_25 ?_
    exact Snd.wk (sl7_lack_26 (-1) M) (by simp [mm_le])
  · refine sn_aload_n (j := j7_lack) (pc := 17) rfl rfl dX7_lack_17 ?_
    refine sn_iload_n (j := j7_lack) (pc := 18) rfl rfl dX7_lack_18 ?_
    refine sn_callV (j := j7_lack) (pc := 19) (jc := j7_lackOf) (As := [.int x1]) (s7_lackOf x1 M) mm_hvI (by simp [Value.category]) (Nat.le_of_ble_eq_true rfl) q7_lackOf rfl (by decide) rfl rfl ⟨by decide, by decide⟩ w_ml_X7_216 w_im_X7_lackOf w_se_X7_lackOf rfl (Nat.le_of_ble_eq_true rfl) dX7_lack_19 ?_
    rintro ⟨r_2, M⟩
    show Snd injI j7_lack mm_X0 22 [some (.ref 46), some (.int x1)] [.int r_2] M _
    refine sn_goto (j := j7_lack) (pc := 22) 26 rfl dX7_lack_22 ?_
    exact Snd.wk (sl7_lack_26 r_2 M) (by simp [mm_le])

abbrev j7_countOf : mm_J := (yX7_countOf, cX7_countOf, 2, (some .int), 0)
theorem dX7_countOf_0 : decode cX7_countOf 0 = .ok (.iload_n 0, 1) := by decide +kernel
theorem dX7_countOf_1 : decode cX7_countOf 1 = .ok (.iload_n 1, 1) := by decide +kernel
theorem dX7_countOf_2 : decode cX7_countOf 2 = .ok (.ifCond .ne 7, 3) := by decide +kernel
theorem dX7_countOf_5 : decode cX7_countOf 5 = .ok (.iconst 1, 1) := by decide +kernel
theorem dX7_countOf_6 : decode cX7_countOf 6 = .ok (.goto 26, 3) := by decide +kernel
theorem dX7_countOf_9 : decode cX7_countOf 9 = .ok (.iload_n 1, 1) := by decide +kernel
theorem dX7_countOf_10 : decode cX7_countOf 10 = .ok (.iconst 1, 1) := by decide +kernel
theorem dX7_countOf_11 : decode cX7_countOf 11 = .ok (.if_icmp .ne 8, 3) := by decide +kernel
theorem dX7_countOf_14 : decode cX7_countOf 14 = .ok (.bipush 9, 2) := by decide +kernel
theorem dX7_countOf_16 : decode cX7_countOf 16 = .ok (.goto 16, 3) := by decide +kernel
theorem dX7_countOf_19 : decode cX7_countOf 19 = .ok (.iload_n 1, 1) := by decide +kernel
theorem dX7_countOf_20 : decode cX7_countOf 20 = .ok (.iconst 2, 1) := by decide +kernel
theorem dX7_countOf_21 : decode cX7_countOf 21 = .ok (.if_icmp .ne 8, 3) := by decide +kernel
theorem dX7_countOf_24 : decode cX7_countOf 24 = .ok (.bipush 81, 2) := by decide +kernel
theorem dX7_countOf_26 : decode cX7_countOf 26 = .ok (.goto 6, 3) := by decide +kernel
theorem dX7_countOf_29 : decode cX7_countOf 29 = .ok (.sipush 729, 3) := by decide +kernel
theorem dX7_countOf_32 : decode cX7_countOf 32 = .ok (.idiv, 1) := by decide +kernel
theorem dX7_countOf_33 : decode cX7_countOf 33 = .ok (.bipush 9, 2) := by decide +kernel
theorem dX7_countOf_35 : decode cX7_countOf 35 = .ok (.irem, 1) := by decide +kernel
theorem dX7_countOf_36 : decode cX7_countOf 36 = .ok (.ireturn, 1) := by decide +kernel
def l7_countOf_32  (s0 : Int32) (s1 : Int32) (M : mm_M) : Option (Int32 × mm_M) :=
  if ¬ s0 = 0 then some ((s1 / s0) - (s1 / s0) / 9 * 9, M) else none
set_option maxHeartbeats 2000000 in
theorem sl7_countOf_32   (s0 : Int32) (s1 : Int32)  (M : mm_M) : Snd injI j7_countOf mm_X0 32 [none, none] [.int s0, .int s1] M (l7_countOf_32  s0 s1 M) := by
  unfold l7_countOf_32
  refine Snd.gd fun hz_1 => ?_
  refine sn_idiv (j := j7_countOf) (pc := 32) hz_1 dX7_countOf_32 ?_
  refine sn_bipush (j := j7_countOf) (pc := 33) 9 rfl dX7_countOf_33 ?_
  refine sn_irem (j := j7_countOf) (pc := 35) (by decide) dX7_countOf_35 ?_
  exact sn_iret (j := j7_countOf) (pc := 36) rfl dX7_countOf_36
def f7_countOf (x0 : Int32) (x1 : Int32) (M : mm_M) : Option (Int32 × mm_M) :=
  if x1 = 0 then (l7_countOf_32 1 x0 M) else (if x1 = 1 then (l7_countOf_32 9 x0 M) else (if x1 = 2 then (l7_countOf_32 81 x0 M) else (l7_countOf_32 729 x0 M)))
set_option maxHeartbeats 2000000 in
theorem s7_countOf (x0 : Int32) (x1 : Int32) (M : mm_M) : Snd injI j7_countOf mm_X0 0 [some (.int x0), some (.int x1)] [] M (f7_countOf x0 x1 M) := by
  refine Snd.wk (lo' := [some (.int x0), some (.int x1)]) ?_ (by simp [mm_le])
  unfold f7_countOf
  refine sn_iload_n (j := j7_countOf) (pc := 0) rfl rfl dX7_countOf_0 ?_
  refine sn_iload_n (j := j7_countOf) (pc := 1) rfl rfl dX7_countOf_1 ?_
  refine sn_if_ne (j := j7_countOf) (pc := 2) 9 rfl dX7_countOf_2 ?_ ?_
  · refine sn_iload_n (j := j7_countOf) (pc := 9) rfl rfl dX7_countOf_9 ?_
    refine sn_iconst (j := j7_countOf) (pc := 10) 1 rfl dX7_countOf_10 ?_
    refine sn_icmp_ne (j := j7_countOf) (pc := 11) 19 rfl dX7_countOf_11 ?_ ?_
    · refine sn_iload_n (j := j7_countOf) (pc := 19) rfl rfl dX7_countOf_19 ?_
      refine sn_iconst (j := j7_countOf) (pc := 20) 2 rfl dX7_countOf_20 ?_
      refine sn_icmp_ne (j := j7_countOf) (pc := 21) 29 rfl dX7_countOf_21 ?_ ?_
      · refine sn_sipush (j := j7_countOf) (pc := 29) 729 rfl dX7_countOf_29 ?_
        exact Snd.wk (sl7_countOf_32 729 x0 M) (by simp [mm_le])
      · refine sn_bipush (j := j7_countOf) (pc := 24) 81 rfl dX7_countOf_24 ?_
        refine sn_goto (j := j7_countOf) (pc := 26) 32 rfl dX7_countOf_26 ?_
        exact Snd.wk (sl7_countOf_32 81 x0 M) (by simp [mm_le])
    · refine sn_bipush (j := j7_countOf) (pc := 14) 9 rfl dX7_countOf_14 ?_
      refine sn_goto (j := j7_countOf) (pc := 16) 32 rfl dX7_countOf_16 ?_
      exact Snd.wk (sl7_countOf_32 9 x0 M) (by simp [mm_le])
  · refine sn_iconst (j := j7_countOf) (pc := 5) 1 rfl dX7_countOf_5 ?_
    refine sn_goto (j := j7_countOf) (pc := 6) 32 rfl dX7_countOf_6 ?_
    exact Snd.wk (sl7_countOf_32 1 x0 M) (by simp [mm_le])

abbrev j7_laysFull : mm_J := (yX7_laysFull, cX7_laysFull, 3, none, 2)
theorem dX7_laysFull_0 : decode cX7_laysFull 0 = .ok (.iconst 0, 1) := by decide +kernel
theorem dX7_laysFull_1 : decode cX7_laysFull 1 = .ok (.istore_n 1, 1) := by decide +kernel
theorem dX7_laysFull_2 : decode cX7_laysFull 2 = .ok (.iload_n 1, 1) := by decide +kernel
theorem dX7_laysFull_3 : decode cX7_laysFull 3 = .ok (.aload_n 0, 1) := by decide +kernel
theorem dX7_laysFull_4 : decode cX7_laysFull 4 = .ok (.getfield 7, 3) := by decide +kernel
theorem dX7_laysFull_7 : decode cX7_laysFull 7 = .ok (.iconst 1, 1) := by decide +kernel
theorem dX7_laysFull_8 : decode cX7_laysFull 8 = .ok (.iaload, 1) := by decide +kernel
theorem dX7_laysFull_9 : decode cX7_laysFull 9 = .ok (.if_icmp .ge 81, 3) := by decide +kernel
theorem dX7_laysFull_12 : decode cX7_laysFull 12 = .ok (.aload_n 0, 1) := by decide +kernel
theorem dX7_laysFull_13 : decode cX7_laysFull 13 = .ok (.getfield 44, 3) := by decide +kernel
theorem dX7_laysFull_16 : decode cX7_laysFull 16 = .ok (.bipush 9, 2) := by decide +kernel
theorem dX7_laysFull_18 : decode cX7_laysFull 18 = .ok (.iload_n 1, 1) := by decide +kernel
theorem dX7_laysFull_19 : decode cX7_laysFull 19 = .ok (.imul, 1) := by decide +kernel
theorem dX7_laysFull_20 : decode cX7_laysFull 20 = .ok (.aload_n 0, 1) := by decide +kernel
theorem dX7_laysFull_21 : decode cX7_laysFull 21 = .ok (.iload_n 1, 1) := by decide +kernel
theorem dX7_laysFull_22 : decode cX7_laysFull 22 = .ok (.iconst 2, 1) := by decide +kernel
theorem dX7_laysFull_23 : decode cX7_laysFull 23 = .ok (.invokevirtual 181, 3) := by decide +kernel
theorem dX7_laysFull_26 : decode cX7_laysFull 26 = .ok (.iastore, 1) := by decide +kernel
theorem dX7_laysFull_27 : decode cX7_laysFull 27 = .ok (.iconst 1, 1) := by decide +kernel
theorem dX7_laysFull_28 : decode cX7_laysFull 28 = .ok (.istore_n 2, 1) := by decide +kernel
theorem dX7_laysFull_29 : decode cX7_laysFull 29 = .ok (.iload_n 2, 1) := by decide +kernel
theorem dX7_laysFull_30 : decode cX7_laysFull 30 = .ok (.bipush 9, 2) := by decide +kernel
theorem dX7_laysFull_32 : decode cX7_laysFull 32 = .ok (.if_icmp .ge 52, 3) := by decide +kernel
theorem dX7_laysFull_35 : decode cX7_laysFull 35 = .ok (.aload_n 0, 1) := by decide +kernel
theorem dX7_laysFull_36 : decode cX7_laysFull 36 = .ok (.getfield 44, 3) := by decide +kernel
theorem dX7_laysFull_39 : decode cX7_laysFull 39 = .ok (.bipush 9, 2) := by decide +kernel
theorem dX7_laysFull_41 : decode cX7_laysFull 41 = .ok (.iload_n 1, 1) := by decide +kernel
theorem dX7_laysFull_42 : decode cX7_laysFull 42 = .ok (.imul, 1) := by decide +kernel
theorem dX7_laysFull_43 : decode cX7_laysFull 43 = .ok (.iload_n 2, 1) := by decide +kernel
theorem dX7_laysFull_44 : decode cX7_laysFull 44 = .ok (.iadd, 1) := by decide +kernel
theorem dX7_laysFull_45 : decode cX7_laysFull 45 = .ok (.aload_n 0, 1) := by decide +kernel
theorem dX7_laysFull_46 : decode cX7_laysFull 46 = .ok (.getfield 44, 3) := by decide +kernel
theorem dX7_laysFull_49 : decode cX7_laysFull 49 = .ok (.bipush 9, 2) := by decide +kernel
theorem dX7_laysFull_51 : decode cX7_laysFull 51 = .ok (.iload_n 1, 1) := by decide +kernel
theorem dX7_laysFull_52 : decode cX7_laysFull 52 = .ok (.imul, 1) := by decide +kernel
theorem dX7_laysFull_53 : decode cX7_laysFull 53 = .ok (.iload_n 2, 1) := by decide +kernel
theorem dX7_laysFull_54 : decode cX7_laysFull 54 = .ok (.iadd, 1) := by decide +kernel
theorem dX7_laysFull_55 : decode cX7_laysFull 55 = .ok (.iconst 1, 1) := by decide +kernel
theorem dX7_laysFull_56 : decode cX7_laysFull 56 = .ok (.isub, 1) := by decide +kernel
theorem dX7_laysFull_57 : decode cX7_laysFull 57 = .ok (.iaload, 1) := by decide +kernel
theorem dX7_laysFull_58 : decode cX7_laysFull 58 = .ok (.aload_n 0, 1) := by decide +kernel
theorem dX7_laysFull_59 : decode cX7_laysFull 59 = .ok (.iload_n 1, 1) := by decide +kernel
theorem dX7_laysFull_60 : decode cX7_laysFull 60 = .ok (.aload_n 0, 1) := by decide +kernel
theorem dX7_laysFull_61 : decode cX7_laysFull 61 = .ok (.getfield 44, 3) := by decide +kernel
theorem dX7_laysFull_64 : decode cX7_laysFull 64 = .ok (.bipush 9, 2) := by decide +kernel
theorem dX7_laysFull_66 : decode cX7_laysFull 66 = .ok (.iload_n 1, 1) := by decide +kernel
theorem dX7_laysFull_67 : decode cX7_laysFull 67 = .ok (.imul, 1) := by decide +kernel
theorem dX7_laysFull_68 : decode cX7_laysFull 68 = .ok (.iload_n 2, 1) := by decide +kernel
theorem dX7_laysFull_69 : decode cX7_laysFull 69 = .ok (.iadd, 1) := by decide +kernel
theorem dX7_laysFull_70 : decode cX7_laysFull 70 = .ok (.iconst 1, 1) := by decide +kernel
theorem dX7_laysFull_71 : decode cX7_laysFull 71 = .ok (.isub, 1) := by decide +kernel
theorem dX7_laysFull_72 : decode cX7_laysFull 72 = .ok (.iaload, 1) := by decide +kernel
theorem dX7_laysFull_73 : decode cX7_laysFull 73 = .ok (.invokevirtual 191, 3) := by decide +kernel
theorem dX7_laysFull_76 : decode cX7_laysFull 76 = .ok (.iadd, 1) := by decide +kernel
theorem dX7_laysFull_77 : decode cX7_laysFull 77 = .ok (.iastore, 1) := by decide +kernel
theorem dX7_laysFull_78 : decode cX7_laysFull 78 = .ok (.iinc 2 1, 3) := by decide +kernel
theorem dX7_laysFull_81 : decode cX7_laysFull 81 = .ok (.goto (-52), 3) := by decide +kernel
theorem dX7_laysFull_84 : decode cX7_laysFull 84 = .ok (.iinc 1 1, 3) := by decide +kernel
theorem dX7_laysFull_87 : decode cX7_laysFull 87 = .ok (.goto (-85), 3) := by decide +kernel
theorem dX7_laysFull_90 : decode cX7_laysFull 90 = .ok (.return_, 1) := by decide +kernel
def b7_laysFull_29 (rec2 : Int32 → mm_M → Option (mm_M)) (rec29 : Int32 → Int32 → mm_M → Option (mm_M)) (x1 : Int32) (x2 : Int32) (M : mm_M) : Option (mm_M) :=
  if 9 ≤ x2 then (rec2 (x1 + 1) M) else (aI 58 36 (((9 * x1) + x2) - 1) M (fun w_1 => aI 58 36 (((9 * x1) + x2) - 1) M (fun w_2 => cI (f7_takesOf x1 w_2 M) (fun r_3 M => uI 58 36 ((9 * x1) + x2) (w_1 + r_3) M (fun M => rec29 x1 (x2 + 1) M)))))
set_option maxHeartbeats 2000000 in
theorem sb7_laysFull_29 (rec2 : Int32 → mm_M → Option (mm_M)) (hrec2 : ∀ (x1 : Int32) (M : mm_M), Snd injV j7_laysFull mm_X0 2 [some (.ref 46), some (.int x1), none] [] M (rec2 x1 M)) (rec29 : Int32 → Int32 → mm_M → Option (mm_M)) (hrec29 : ∀ (x1 : Int32) (x2 : Int32) (M : mm_M), Snd injV j7_laysFull mm_X0 29 [some (.ref 46), some (.int x1), some (.int x2)] [] M (rec29 x1 x2 M)) (x1 : Int32) (x2 : Int32)  (M : mm_M) : Snd injV j7_laysFull mm_X0 29 [some (.ref 46), some (.int x1), some (.int x2)] [] M (b7_laysFull_29 rec2 rec29 x1 x2 M) := by
  unfold b7_laysFull_29
  refine sn_iload_n (j := j7_laysFull) (pc := 29) rfl rfl dX7_laysFull_29 ?_
  refine sn_bipush (j := j7_laysFull) (pc := 30) 9 rfl dX7_laysFull_30 ?_
  refine sn_icmp_ge (j := j7_laysFull) (pc := 32) 84 rfl dX7_laysFull_32 ?_ ?_
  · refine sn_iinc (j := j7_laysFull) (pc := 84) 1 rfl (by decide) rfl (lo' := [some (.ref 46), some (.int (x1 + 1)), some (.int x2)]) rfl dX7_laysFull_84 ?_
    refine sn_goto (j := j7_laysFull) (pc := 87) 2 rfl dX7_laysFull_87 ?_
    exact Snd.wk (hrec2 (x1 + 1) M ) (by simp [mm_le])
  · refine sn_aload_n (j := j7_laysFull) (pc := 35) rfl rfl dX7_laysFull_35 ?_
    refine g_X7_44 (j := j7_laysFull) (pc := 36) rfl dX7_laysFull_36 ?_
    refine sn_bipush (j := j7_laysFull) (pc := 39) 9 rfl dX7_laysFull_39 ?_
    refine sn_iload_n (j := j7_laysFull) (pc := 41) rfl rfl dX7_laysFull_41 ?_
    refine sn_imul (j := j7_laysFull) (pc := 42) dX7_laysFull_42 ?_
    refine sn_iload_n (j := j7_laysFull) (pc := 43) rfl rfl dX7_laysFull_43 ?_
    refine sn_iadd (j := j7_laysFull) (pc := 44) dX7_laysFull_44 ?_
    refine sn_aload_n (j := j7_laysFull) (pc := 45) rfl rfl dX7_laysFull_45 ?_
    refine g_X7_44 (j := j7_laysFull) (pc := 46) rfl dX7_laysFull_46 ?_
    refine sn_bipush (j := j7_laysFull) (pc := 49) 9 rfl dX7_laysFull_49 ?_
    refine sn_iload_n (j := j7_laysFull) (pc := 51) rfl rfl dX7_laysFull_51 ?_
    refine sn_imul (j := j7_laysFull) (pc := 52) dX7_laysFull_52 ?_
    refine sn_iload_n (j := j7_laysFull) (pc := 53) rfl rfl dX7_laysFull_53 ?_
    refine sn_iadd (j := j7_laysFull) (pc := 54) dX7_laysFull_54 ?_
    refine sn_iconst (j := j7_laysFull) (pc := 55) 1 rfl dX7_laysFull_55 ?_
    refine sn_isub (j := j7_laysFull) (pc := 56) dX7_laysFull_56 ?_
    refine sn_iald (j := j7_laysFull) (pc := 57) rfl ⟨by decide, by decide⟩ dX7_laysFull_57 (fun w_1 => ?_)
    refine sn_aload_n (j := j7_laysFull) (pc := 58) rfl rfl dX7_laysFull_58 ?_
    refine sn_iload_n (j := j7_laysFull) (pc := 59) rfl rfl dX7_laysFull_59 ?_
    refine sn_aload_n (j := j7_laysFull) (pc := 60) rfl rfl dX7_laysFull_60 ?_
    refine g_X7_44 (j := j7_laysFull) (pc := 61) rfl dX7_laysFull_61 ?_
    refine sn_bipush (j := j7_laysFull) (pc := 64) 9 rfl dX7_laysFull_64 ?_
    refine sn_iload_n (j := j7_laysFull) (pc := 66) rfl rfl dX7_laysFull_66 ?_
    refine sn_imul (j := j7_laysFull) (pc := 67) dX7_laysFull_67 ?_
    refine sn_iload_n (j := j7_laysFull) (pc := 68) rfl rfl dX7_laysFull_68 ?_
    refine sn_iadd (j := j7_laysFull) (pc := 69) dX7_laysFull_69 ?_
    refine sn_iconst (j := j7_laysFull) (pc := 70) 1 rfl dX7_laysFull_70 ?_
    refine sn_isub (j := j7_laysFull) (pc := 71) dX7_laysFull_71 ?_
    refine sn_iald (j := j7_laysFull) (pc := 72) rfl ⟨by decide, by decide⟩ dX7_laysFull_72 (fun w_2 => ?_)
    refine sn_callV (j := j7_laysFull) (pc := 73) (jc := j7_takesOf) (As := [.int x1, .int w_2]) (s7_takesOf x1 w_2 M) mm_hvI (by simp [Value.category]) (Nat.le_of_ble_eq_true rfl) q7_takesOf rfl (by decide) rfl rfl ⟨by decide, by decide⟩ w_ml_X7_191 w_im_X7_takesOf w_se_X7_takesOf rfl (Nat.le_of_ble_eq_true rfl) dX7_laysFull_73 ?_
    rintro ⟨r_3, M⟩
    show Snd injV j7_laysFull mm_X0 76 [some (.ref 46), some (.int x1), some (.int x2)] [.int r_3, .int w_1, .int ((9 * x1) + x2), .ref 58] M _
    refine sn_iadd (j := j7_laysFull) (pc := 76) dX7_laysFull_76 ?_
    refine sn_iast (j := j7_laysFull) (pc := 77) rfl ⟨by decide, by decide⟩ dX7_laysFull_77 (fun M => ?_)
    refine sn_iinc (j := j7_laysFull) (pc := 78) 1 rfl (by decide) rfl (lo' := [some (.ref 46), some (.int x1), some (.int (x2 + 1))]) rfl dX7_laysFull_78 ?_
    refine sn_goto (j := j7_laysFull) (pc := 81) 29 rfl dX7_laysFull_81 ?_
    exact Snd.wk (hrec29 x1 (x2 + 1) M ) (by simp [mm_le])
def l7_laysFull_29 (rec2 : Int32 → mm_M → Option (mm_M)) : Nat → Int32 → Int32 → mm_M → Option (mm_M)
  | 0 => fun _ _ _ => none
  | n + 1 => fun x1 x2 M => b7_laysFull_29 rec2 (l7_laysFull_29 rec2 n) x1 x2 M
theorem sl7_laysFull_29 (rec2 : Int32 → mm_M → Option (mm_M)) (hrec2 : ∀ (x1 : Int32) (M : mm_M), Snd injV j7_laysFull mm_X0 2 [some (.ref 46), some (.int x1), none] [] M (rec2 x1 M)) : ∀ (n : Nat) (x1 : Int32) (x2 : Int32)  (M : mm_M), Snd injV j7_laysFull mm_X0 29 [some (.ref 46), some (.int x1), some (.int x2)] [] M (l7_laysFull_29 rec2 n x1 x2 M)
  | 0 => fun _ _  _ => Snd.none
  | n + 1 => fun x1 x2  M => sb7_laysFull_29 rec2 hrec2 (l7_laysFull_29 rec2 n) (fun x1 x2 M  => sl7_laysFull_29 rec2 hrec2 n x1 x2  M) x1 x2  M
def b7_laysFull_2  (rec2 : Int32 → mm_M → Option (mm_M)) (x1 : Int32) (M : mm_M) : Option (mm_M) :=
  aI 47 82 1 M (fun w_4 => if w_4 ≤ x1 then (some M) else (cI (f7_of x1 2 M) (fun r_5 M => uI 58 36 (9 * x1) r_5 M (fun M => l7_laysFull_29 rec2 FU x1 1 M))))
set_option maxHeartbeats 2000000 in
theorem sb7_laysFull_2   (rec2 : Int32 → mm_M → Option (mm_M)) (hrec2 : ∀ (x1 : Int32) (M : mm_M), Snd injV j7_laysFull mm_X0 2 [some (.ref 46), some (.int x1), none] [] M (rec2 x1 M)) (x1 : Int32)  (M : mm_M) : Snd injV j7_laysFull mm_X0 2 [some (.ref 46), some (.int x1), none] [] M (b7_laysFull_2  rec2 x1 M) := by
  unfold b7_laysFull_2
  refine sn_iload_n (j := j7_laysFull) (pc := 2) rfl rfl dX7_laysFull_2 ?_
  refine sn_aload_n (j := j7_laysFull) (pc := 3) rfl rfl dX7_laysFull_3 ?_
  refine g_X7_7 (j := j7_laysFull) (pc := 4) rfl dX7_laysFull_4 ?_
  refine sn_iconst (j := j7_laysFull) (pc := 7) 1 rfl dX7_laysFull_7 ?_
  refine sn_iald (j := j7_laysFull) (pc := 8) rfl ⟨by decide, by decide⟩ dX7_laysFull_8 (fun w_4 => ?_)
  refine sn_icmp_ge (j := j7_laysFull) (pc := 9) 90 rfl dX7_laysFull_9 ?_ ?_
  · exact sn_vret (j := j7_laysFull) (pc := 90) rfl dX7_laysFull_90
  · refine sn_aload_n (j := j7_laysFull) (pc := 12) rfl rfl dX7_laysFull_12 ?_
    refine g_X7_44 (j := j7_laysFull) (pc := 13) rfl dX7_laysFull_13 ?_
    refine sn_bipush (j := j7_laysFull) (pc := 16) 9 rfl dX7_laysFull_16 ?_
    refine sn_iload_n (j := j7_laysFull) (pc := 18) rfl rfl dX7_laysFull_18 ?_
    refine sn_imul (j := j7_laysFull) (pc := 19) dX7_laysFull_19 ?_
    refine sn_aload_n (j := j7_laysFull) (pc := 20) rfl rfl dX7_laysFull_20 ?_
    refine sn_iload_n (j := j7_laysFull) (pc := 21) rfl rfl dX7_laysFull_21 ?_
    refine sn_iconst (j := j7_laysFull) (pc := 22) 2 rfl dX7_laysFull_22 ?_
    refine sn_callV (j := j7_laysFull) (pc := 23) (jc := j7_of) (As := [.int x1, .int 2]) (s7_of x1 2 M) mm_hvI (by simp [Value.category]) (Nat.le_of_ble_eq_true rfl) q7_of rfl (by decide) rfl rfl ⟨by decide, by decide⟩ w_ml_X7_181 w_im_X7_of w_se_X7_of rfl (Nat.le_of_ble_eq_true rfl) dX7_laysFull_23 ?_
    rintro ⟨r_5, M⟩
    show Snd injV j7_laysFull mm_X0 26 [some (.ref 46), some (.int x1), none] [.int r_5, .int (9 * x1), .ref 58] M _
    refine sn_iast (j := j7_laysFull) (pc := 26) rfl ⟨by decide, by decide⟩ dX7_laysFull_26 (fun M => ?_)
    refine sn_iconst (j := j7_laysFull) (pc := 27) 1 rfl dX7_laysFull_27 ?_
    refine sn_istore_n (j := j7_laysFull) (pc := 28) rfl (by decide) (lo' := [some (.ref 46), some (.int x1), some (.int 1)]) rfl dX7_laysFull_28 ?_
    exact Snd.wk (sl7_laysFull_29 rec2 hrec2 FU x1 1 M) (by simp [mm_le])
def l7_laysFull_2  : Nat → Int32 → mm_M → Option (mm_M)
  | 0 => fun _ _ => none
  | n + 1 => fun x1 M => b7_laysFull_2  (l7_laysFull_2  n) x1 M
theorem sl7_laysFull_2   : ∀ (n : Nat) (x1 : Int32)  (M : mm_M), Snd injV j7_laysFull mm_X0 2 [some (.ref 46), some (.int x1), none] [] M (l7_laysFull_2  n x1 M)
  | 0 => fun _  _ => Snd.none
  | n + 1 => fun x1  M => sb7_laysFull_2   (l7_laysFull_2  n) (fun x1 M  => sl7_laysFull_2   n x1  M) x1  M
def f7_laysFull  (M : mm_M) : Option (mm_M) :=
  l7_laysFull_2 FU 0 M
set_option maxHeartbeats 2000000 in
theorem s7_laysFull  (M : mm_M) : Snd injV j7_laysFull mm_X0 0 [some (.ref 46)] [] M (f7_laysFull  M) := by
  refine Snd.wk (lo' := [some (.ref 46), none, none]) ?_ (by simp [mm_le])
  unfold f7_laysFull
  refine sn_iconst (j := j7_laysFull) (pc := 0) 0 rfl dX7_laysFull_0 ?_
  refine sn_istore_n (j := j7_laysFull) (pc := 1) rfl (by decide) (lo' := [some (.ref 46), some (.int 0), none]) rfl dX7_laysFull_1 ?_
  exact Snd.wk (sl7_laysFull_2 FU 0 M) (by simp [mm_le])

abbrev j7_mayBe : mm_J := (yX7_mayBe, cX7_mayBe, 5, (some .boolean), 1)
theorem dX7_mayBe_0 : decode cX7_mayBe 0 = .ok (.iconst 0, 1) := by decide +kernel
theorem dX7_mayBe_1 : decode cX7_mayBe 1 = .ok (.istore_n 3, 1) := by decide +kernel
theorem dX7_mayBe_2 : decode cX7_mayBe 2 = .ok (.iload_n 3, 1) := by decide +kernel
theorem dX7_mayBe_3 : decode cX7_mayBe 3 = .ok (.iconst 4, 1) := by decide +kernel
theorem dX7_mayBe_4 : decode cX7_mayBe 4 = .ok (.if_icmp .ge 42, 3) := by decide +kernel
theorem dX7_mayBe_7 : decode cX7_mayBe 7 = .ok (.iload_n 1, 1) := by decide +kernel
theorem dX7_mayBe_8 : decode cX7_mayBe 8 = .ok (.iload_n 3, 1) := by decide +kernel
theorem dX7_mayBe_9 : decode cX7_mayBe 9 = .ok (.invokestatic 231, 3) := by decide +kernel
theorem dX7_mayBe_12 : decode cX7_mayBe 12 = .ok (.istore 4, 2) := by decide +kernel
theorem dX7_mayBe_14 : decode cX7_mayBe 14 = .ok (.iload_n 3, 1) := by decide +kernel
theorem dX7_mayBe_15 : decode cX7_mayBe 15 = .ok (.aload_n 0, 1) := by decide +kernel
theorem dX7_mayBe_16 : decode cX7_mayBe 16 = .ok (.getfield 7, 3) := by decide +kernel
theorem dX7_mayBe_19 : decode cX7_mayBe 19 = .ok (.iconst 1, 1) := by decide +kernel
theorem dX7_mayBe_20 : decode cX7_mayBe 20 = .ok (.iaload, 1) := by decide +kernel
theorem dX7_mayBe_21 : decode cX7_mayBe 21 = .ok (.if_icmp .ge 12, 3) := by decide +kernel
theorem dX7_mayBe_24 : decode cX7_mayBe 24 = .ok (.iload 4, 2) := by decide +kernel
theorem dX7_mayBe_26 : decode cX7_mayBe 26 = .ok (.iload_n 2, 1) := by decide +kernel
theorem dX7_mayBe_27 : decode cX7_mayBe 27 = .ok (.if_icmp .le 13, 3) := by decide +kernel
theorem dX7_mayBe_30 : decode cX7_mayBe 30 = .ok (.goto 8, 3) := by decide +kernel
theorem dX7_mayBe_33 : decode cX7_mayBe 33 = .ok (.iload 4, 2) := by decide +kernel
theorem dX7_mayBe_35 : decode cX7_mayBe 35 = .ok (.ifCond .le 5, 3) := by decide +kernel
theorem dX7_mayBe_38 : decode cX7_mayBe 38 = .ok (.iconst 0, 1) := by decide +kernel
theorem dX7_mayBe_39 : decode cX7_mayBe 39 = .ok (.ireturn, 1) := by decide +kernel
theorem dX7_mayBe_40 : decode cX7_mayBe 40 = .ok (.iinc 3 1, 3) := by decide +kernel
theorem dX7_mayBe_43 : decode cX7_mayBe 43 = .ok (.goto (-41), 3) := by decide +kernel
theorem dX7_mayBe_46 : decode cX7_mayBe 46 = .ok (.iconst 1, 1) := by decide +kernel
theorem dX7_mayBe_47 : decode cX7_mayBe 47 = .ok (.ireturn, 1) := by decide +kernel
def l7_mayBe_40 (rec2 : Int32 → Int32 → Int32 → mm_M → Option (Int32 × mm_M)) (x1 : Int32) (x2 : Int32) (x3 : Int32) (M : mm_M) : Option (Int32 × mm_M) :=
  rec2 x1 x2 (x3 + 1) M
set_option maxHeartbeats 2000000 in
theorem sl7_mayBe_40 (rec2 : Int32 → Int32 → Int32 → mm_M → Option (Int32 × mm_M)) (hrec2 : ∀ (x1 : Int32) (x2 : Int32) (x3 : Int32) (M : mm_M), Snd injI j7_mayBe mm_X0 2 [some (.ref 46), some (.int x1), some (.int x2), some (.int x3), none] [] M (rec2 x1 x2 x3 M)) (x1 : Int32) (x2 : Int32) (x3 : Int32)  (M : mm_M) : Snd injI j7_mayBe mm_X0 40 [some (.ref 46), some (.int x1), some (.int x2), some (.int x3), none] [] M (l7_mayBe_40 rec2 x1 x2 x3 M) := by
  unfold l7_mayBe_40
  refine sn_iinc (j := j7_mayBe) (pc := 40) 1 rfl (by decide) rfl (lo' := [some (.ref 46), some (.int x1), some (.int x2), some (.int (x3 + 1)), none]) rfl dX7_mayBe_40 ?_
  refine sn_goto (j := j7_mayBe) (pc := 43) 2 rfl dX7_mayBe_43 ?_
  exact Snd.wk (hrec2 x1 x2 (x3 + 1) M ) (by simp [mm_le])
def l7_mayBe_38   (M : mm_M) : Option (Int32 × mm_M) :=
  rZ 0 M
set_option maxHeartbeats 2000000 in
theorem sl7_mayBe_38     (M : mm_M) : Snd injI j7_mayBe mm_X0 38 [none, none, none, none, none] [] M (l7_mayBe_38   M) := by
  unfold l7_mayBe_38
  refine sn_iconst (j := j7_mayBe) (pc := 38) 0 rfl dX7_mayBe_38 ?_
  exact sn_zret (j := j7_mayBe) (pc := 39) rfl dX7_mayBe_39
def b7_mayBe_2  (rec2 : Int32 → Int32 → Int32 → mm_M → Option (Int32 × mm_M)) (x1 : Int32) (x2 : Int32) (x3 : Int32) (M : mm_M) : Option (Int32 × mm_M) :=
  if 4 ≤ x3 then (rZ 1 M) else (cI (f7_countOf x1 x3 M) (fun r_1 M => aI 47 82 1 M (fun w_2 => if w_2 ≤ x3 then (if r_1 ≤ 0 then (l7_mayBe_40 rec2 x1 x2 x3 M) else (l7_mayBe_38 M)) else (if r_1 ≤ x2 then (l7_mayBe_40 rec2 x1 x2 x3 M) else (l7_mayBe_38 M)))))
set_option maxHeartbeats 2000000 in
theorem sb7_mayBe_2   (rec2 : Int32 → Int32 → Int32 → mm_M → Option (Int32 × mm_M)) (hrec2 : ∀ (x1 : Int32) (x2 : Int32) (x3 : Int32) (M : mm_M), Snd injI j7_mayBe mm_X0 2 [some (.ref 46), some (.int x1), some (.int x2), some (.int x3), none] [] M (rec2 x1 x2 x3 M)) (x1 : Int32) (x2 : Int32) (x3 : Int32)  (M : mm_M) : Snd injI j7_mayBe mm_X0 2 [some (.ref 46), some (.int x1), some (.int x2), some (.int x3), none] [] M (b7_mayBe_2  rec2 x1 x2 x3 M) := by
  unfold b7_mayBe_2
  refine sn_iload_n (j := j7_mayBe) (pc := 2) rfl rfl dX7_mayBe_2 ?_
  refine sn_iconst (j := j7_mayBe) (pc := 3) 4 rfl dX7_mayBe_3 ?_
  refine sn_icmp_ge (j := j7_mayBe) (pc := 4) 46 rfl dX7_mayBe_4 ?_ ?_
  · refine sn_iconst (j := j7_mayBe) (pc := 46) 1 rfl dX7_mayBe_46 ?_
    exact sn_zret (j := j7_mayBe) (pc := 47) rfl dX7_mayBe_47
  · refine sn_iload_n (j := j7_mayBe) (pc := 7) rfl rfl dX7_mayBe_7 ?_
    refine sn_iload_n (j := j7_mayBe) (pc := 8) rfl rfl dX7_mayBe_8 ?_
    refine sn_callS (j := j7_mayBe) (pc := 9) (jc := j7_countOf) (As := [.int x1, .int x3]) (s7_countOf x1 x3 M) mm_hvI (by simp [Value.category]) (Nat.le_of_ble_eq_true rfl) q7_countOf rfl (by decide) w_ml_X7_231 w_st_X7_countOf rfl (Nat.le_of_ble_eq_true rfl) dX7_mayBe_9 ?_
    rintro ⟨r_1, M⟩
    show Snd injI j7_mayBe mm_X0 12 [some (.ref 46), some (.int x1), some (.int x2), some (.int x3), none] [.int r_1] M _
    refine sn_istore (j := j7_mayBe) (pc := 12) (by decide) (lo' := [some (.ref 46), some (.int x1), some (.int x2), some (.int x3), some (.int r_1)]) rfl dX7_mayBe_12 ?_
    refine sn_iload_n (j := j7_mayBe) (pc := 14) rfl rfl dX7_mayBe_14 ?_
    refine sn_aload_n (j := j7_mayBe) (pc := 15) rfl rfl dX7_mayBe_15 ?_
    refine g_X7_7 (j := j7_mayBe) (pc := 16) rfl dX7_mayBe_16 ?_
    refine sn_iconst (j := j7_mayBe) (pc := 19) 1 rfl dX7_mayBe_19 ?_
    refine sn_iald (j := j7_mayBe) (pc := 20) rfl ⟨by decide, by decide⟩ dX7_mayBe_20 (fun w_2 => ?_)
    refine sn_icmp_ge (j := j7_mayBe) (pc := 21) 33 rfl dX7_mayBe_21 ?_ ?_
    · refine sn_iload (j := j7_mayBe) (pc := 33) rfl dX7_mayBe_33 ?_
      refine sn_if_le (j := j7_mayBe) (pc := 35) 40 rfl dX7_mayBe_35 ?_ ?_
      · exact Snd.wk (sl7_mayBe_40 rec2 hrec2 x1 x2 x3 M) (by simp [mm_le])
      · exact Snd.wk (sl7_mayBe_38 M) (by simp [mm_le])
    · refine sn_iload (j := j7_mayBe) (pc := 24) rfl dX7_mayBe_24 ?_
      refine sn_iload_n (j := j7_mayBe) (pc := 26) rfl rfl dX7_mayBe_26 ?_
      refine sn_icmp_le (j := j7_mayBe) (pc := 27) 40 rfl dX7_mayBe_27 ?_ ?_
      · exact Snd.wk (sl7_mayBe_40 rec2 hrec2 x1 x2 x3 M) (by simp [mm_le])
      · refine sn_goto (j := j7_mayBe) (pc := 30) 38 rfl dX7_mayBe_30 ?_
        exact Snd.wk (sl7_mayBe_38 M) (by simp [mm_le])
def l7_mayBe_2  : Nat → Int32 → Int32 → Int32 → mm_M → Option (Int32 × mm_M)
  | 0 => fun _ _ _ _ => none
  | n + 1 => fun x1 x2 x3 M => b7_mayBe_2  (l7_mayBe_2  n) x1 x2 x3 M
theorem sl7_mayBe_2   : ∀ (n : Nat) (x1 : Int32) (x2 : Int32) (x3 : Int32)  (M : mm_M), Snd injI j7_mayBe mm_X0 2 [some (.ref 46), some (.int x1), some (.int x2), some (.int x3), none] [] M (l7_mayBe_2  n x1 x2 x3 M)
  | 0 => fun _ _ _  _ => Snd.none
  | n + 1 => fun x1 x2 x3  M => sb7_mayBe_2   (l7_mayBe_2  n) (fun x1 x2 x3 M  => sl7_mayBe_2   n x1 x2 x3  M) x1 x2 x3  M
def f7_mayBe (x1 : Int32) (x2 : Int32) (M : mm_M) : Option (Int32 × mm_M) :=
  l7_mayBe_2 FU x1 x2 0 M
set_option maxHeartbeats 2000000 in
theorem s7_mayBe (x1 : Int32) (x2 : Int32) (M : mm_M) : Snd injI j7_mayBe mm_X0 0 [some (.ref 46), some (.int x1), some (.int x2)] [] M (f7_mayBe x1 x2 M) := by
  refine Snd.wk (lo' := [some (.ref 46), some (.int x1), some (.int x2), none, none]) ?_ (by simp [mm_le])
  unfold f7_mayBe
  refine sn_iconst (j := j7_mayBe) (pc := 0) 0 rfl dX7_mayBe_0 ?_
  refine sn_istore_n (j := j7_mayBe) (pc := 1) rfl (by decide) (lo' := [some (.ref 46), some (.int x1), some (.int x2), some (.int 0), none]) rfl dX7_mayBe_1 ?_
  exact Snd.wk (sl7_mayBe_2 FU x1 x2 0 M) (by simp [mm_le])

abbrev j7_laysEnd : mm_J := (yX7_laysEnd, cX7_laysEnd, 5, none, 1)
theorem dX7_laysEnd_0 : decode cX7_laysEnd 0 = .ok (.iconst 0, 1) := by decide +kernel
theorem dX7_laysEnd_1 : decode cX7_laysEnd 1 = .ok (.istore_n 2, 1) := by decide +kernel
theorem dX7_laysEnd_2 : decode cX7_laysEnd 2 = .ok (.iconst 0, 1) := by decide +kernel
theorem dX7_laysEnd_3 : decode cX7_laysEnd 3 = .ok (.istore_n 3, 1) := by decide +kernel
theorem dX7_laysEnd_4 : decode cX7_laysEnd 4 = .ok (.iload_n 3, 1) := by decide +kernel
theorem dX7_laysEnd_5 : decode cX7_laysEnd 5 = .ok (.aload_n 0, 1) := by decide +kernel
theorem dX7_laysEnd_6 : decode cX7_laysEnd 6 = .ok (.getfield 7, 3) := by decide +kernel
theorem dX7_laysEnd_9 : decode cX7_laysEnd 9 = .ok (.iconst 1, 1) := by decide +kernel
theorem dX7_laysEnd_10 : decode cX7_laysEnd 10 = .ok (.iaload, 1) := by decide +kernel
theorem dX7_laysEnd_11 : decode cX7_laysEnd 11 = .ok (.if_icmp .ge 58, 3) := by decide +kernel
theorem dX7_laysEnd_14 : decode cX7_laysEnd 14 = .ok (.aload_n 0, 1) := by decide +kernel
theorem dX7_laysEnd_15 : decode cX7_laysEnd 15 = .ok (.iload_n 3, 1) := by decide +kernel
theorem dX7_laysEnd_16 : decode cX7_laysEnd 16 = .ok (.iconst 3, 1) := by decide +kernel
theorem dX7_laysEnd_17 : decode cX7_laysEnd 17 = .ok (.invokevirtual 181, 3) := by decide +kernel
theorem dX7_laysEnd_20 : decode cX7_laysEnd 20 = .ok (.aload_n 0, 1) := by decide +kernel
theorem dX7_laysEnd_21 : decode cX7_laysEnd 21 = .ok (.getfield 44, 3) := by decide +kernel
theorem dX7_laysEnd_24 : decode cX7_laysEnd 24 = .ok (.bipush 9, 2) := by decide +kernel
theorem dX7_laysEnd_26 : decode cX7_laysEnd 26 = .ok (.iload_n 3, 1) := by decide +kernel
theorem dX7_laysEnd_27 : decode cX7_laysEnd 27 = .ok (.imul, 1) := by decide +kernel
theorem dX7_laysEnd_28 : decode cX7_laysEnd 28 = .ok (.iload_n 1, 1) := by decide +kernel
theorem dX7_laysEnd_29 : decode cX7_laysEnd 29 = .ok (.iload_n 3, 1) := by decide +kernel
theorem dX7_laysEnd_30 : decode cX7_laysEnd 30 = .ok (.invokestatic 231, 3) := by decide +kernel
theorem dX7_laysEnd_33 : decode cX7_laysEnd 33 = .ok (.iadd, 1) := by decide +kernel
theorem dX7_laysEnd_34 : decode cX7_laysEnd 34 = .ok (.iaload, 1) := by decide +kernel
theorem dX7_laysEnd_35 : decode cX7_laysEnd 35 = .ok (.isub, 1) := by decide +kernel
theorem dX7_laysEnd_36 : decode cX7_laysEnd 36 = .ok (.istore 4, 2) := by decide +kernel
theorem dX7_laysEnd_38 : decode cX7_laysEnd 38 = .ok (.iload_n 2, 1) := by decide +kernel
theorem dX7_laysEnd_39 : decode cX7_laysEnd 39 = .ok (.aload_n 0, 1) := by decide +kernel
theorem dX7_laysEnd_40 : decode cX7_laysEnd 40 = .ok (.getfield 207, 3) := by decide +kernel
theorem dX7_laysEnd_43 : decode cX7_laysEnd 43 = .ok (.iload_n 3, 1) := by decide +kernel
theorem dX7_laysEnd_44 : decode cX7_laysEnd 44 = .ok (.invokestatic 110, 3) := by decide +kernel
theorem dX7_laysEnd_47 : decode cX7_laysEnd 47 = .ok (.ifCond .eq 13, 3) := by decide +kernel
theorem dX7_laysEnd_50 : decode cX7_laysEnd 50 = .ok (.iload 4, 2) := by decide +kernel
theorem dX7_laysEnd_52 : decode cX7_laysEnd 52 = .ok (.ifCond .le 8, 3) := by decide +kernel
theorem dX7_laysEnd_55 : decode cX7_laysEnd 55 = .ok (.iload 4, 2) := by decide +kernel
theorem dX7_laysEnd_57 : decode cX7_laysEnd 57 = .ok (.goto 4, 3) := by decide +kernel
theorem dX7_laysEnd_60 : decode cX7_laysEnd 60 = .ok (.iconst 0, 1) := by decide +kernel
theorem dX7_laysEnd_61 : decode cX7_laysEnd 61 = .ok (.iadd, 1) := by decide +kernel
theorem dX7_laysEnd_62 : decode cX7_laysEnd 62 = .ok (.istore_n 2, 1) := by decide +kernel
theorem dX7_laysEnd_63 : decode cX7_laysEnd 63 = .ok (.iinc 3 1, 3) := by decide +kernel
theorem dX7_laysEnd_66 : decode cX7_laysEnd 66 = .ok (.goto (-62), 3) := by decide +kernel
theorem dX7_laysEnd_69 : decode cX7_laysEnd 69 = .ok (.sipush 6561, 3) := by decide +kernel
theorem dX7_laysEnd_72 : decode cX7_laysEnd 72 = .ok (.aload_n 0, 1) := by decide +kernel
theorem dX7_laysEnd_73 : decode cX7_laysEnd 73 = .ok (.getfield 7, 3) := by decide +kernel
theorem dX7_laysEnd_76 : decode cX7_laysEnd 76 = .ok (.iconst 0, 1) := by decide +kernel
theorem dX7_laysEnd_77 : decode cX7_laysEnd 77 = .ok (.iaload, 1) := by decide +kernel
theorem dX7_laysEnd_78 : decode cX7_laysEnd 78 = .ok (.imul, 1) := by decide +kernel
theorem dX7_laysEnd_79 : decode cX7_laysEnd 79 = .ok (.iload_n 1, 1) := by decide +kernel
theorem dX7_laysEnd_80 : decode cX7_laysEnd 80 = .ok (.iadd, 1) := by decide +kernel
theorem dX7_laysEnd_81 : decode cX7_laysEnd 81 = .ok (.istore_n 3, 1) := by decide +kernel
theorem dX7_laysEnd_82 : decode cX7_laysEnd 82 = .ok (.aload_n 0, 1) := by decide +kernel
theorem dX7_laysEnd_83 : decode cX7_laysEnd 83 = .ok (.getfield 32, 3) := by decide +kernel
theorem dX7_laysEnd_86 : decode cX7_laysEnd 86 = .ok (.iload_n 3, 1) := by decide +kernel
theorem dX7_laysEnd_87 : decode cX7_laysEnd 87 = .ok (.iload_n 2, 1) := by decide +kernel
theorem dX7_laysEnd_88 : decode cX7_laysEnd 88 = .ok (.iastore, 1) := by decide +kernel
theorem dX7_laysEnd_89 : decode cX7_laysEnd 89 = .ok (.aload_n 0, 1) := by decide +kernel
theorem dX7_laysEnd_90 : decode cX7_laysEnd 90 = .ok (.getfield 35, 3) := by decide +kernel
theorem dX7_laysEnd_93 : decode cX7_laysEnd 93 = .ok (.iload_n 3, 1) := by decide +kernel
theorem dX7_laysEnd_94 : decode cX7_laysEnd 94 = .ok (.iconst 0, 1) := by decide +kernel
theorem dX7_laysEnd_95 : decode cX7_laysEnd 95 = .ok (.iastore, 1) := by decide +kernel
theorem dX7_laysEnd_96 : decode cX7_laysEnd 96 = .ok (.aload_n 0, 1) := by decide +kernel
theorem dX7_laysEnd_97 : decode cX7_laysEnd 97 = .ok (.getfield 38, 3) := by decide +kernel
theorem dX7_laysEnd_100 : decode cX7_laysEnd 100 = .ok (.iload_n 3, 1) := by decide +kernel
theorem dX7_laysEnd_101 : decode cX7_laysEnd 101 = .ok (.iconst 0, 1) := by decide +kernel
theorem dX7_laysEnd_102 : decode cX7_laysEnd 102 = .ok (.iastore, 1) := by decide +kernel
theorem dX7_laysEnd_103 : decode cX7_laysEnd 103 = .ok (.return_, 1) := by decide +kernel
def l7_laysEnd_61 (rec4 : Int32 → Int32 → Int32 → mm_M → Option (mm_M)) (x1 : Int32) (x3 : Int32) (s0 : Int32) (s1 : Int32) (M : mm_M) : Option (mm_M) :=
  bI (s1 + s0) (fun x2_1 => rec4 x1 x2_1 (x3 + 1) M)
set_option maxHeartbeats 2000000 in
theorem sl7_laysEnd_61 (rec4 : Int32 → Int32 → Int32 → mm_M → Option (mm_M)) (hrec4 : ∀ (x1 : Int32) (x2 : Int32) (x3 : Int32) (M : mm_M), Snd injV j7_laysEnd mm_X0 4 [some (.ref 46), some (.int x1), some (.int x2), some (.int x3), none] [] M (rec4 x1 x2 x3 M)) (x1 : Int32) (x3 : Int32) (s0 : Int32) (s1 : Int32)  (M : mm_M) : Snd injV j7_laysEnd mm_X0 61 [some (.ref 46), some (.int x1), none, some (.int x3), none] [.int s0, .int s1] M (l7_laysEnd_61 rec4 x1 x3 s0 s1 M) := by
  unfold l7_laysEnd_61
  refine sn_iadd (j := j7_laysEnd) (pc := 61) dX7_laysEnd_61 ?_
  refine sn_istoreB_n (j := j7_laysEnd) (pc := 62) rfl (fun x2_1 => [some (.ref 46), some (.int x1), some (.int x2_1), some (.int x3), none]) (by decide) (fun _ => rfl) dX7_laysEnd_62 (fun x2_1 => ?_)
  refine sn_iinc (j := j7_laysEnd) (pc := 63) 1 rfl (by decide) rfl (lo' := [some (.ref 46), some (.int x1), some (.int x2_1), some (.int (x3 + 1)), none]) rfl dX7_laysEnd_63 ?_
  refine sn_goto (j := j7_laysEnd) (pc := 66) 4 rfl dX7_laysEnd_66 ?_
  exact Snd.wk (hrec4 x1 x2_1 (x3 + 1) M ) (by simp [mm_le])
def l7_laysEnd_60 (rec4 : Int32 → Int32 → Int32 → mm_M → Option (mm_M)) (x1 : Int32) (x3 : Int32) (s0 : Int32) (M : mm_M) : Option (mm_M) :=
  l7_laysEnd_61 rec4 x1 x3 0 s0 M
set_option maxHeartbeats 2000000 in
theorem sl7_laysEnd_60 (rec4 : Int32 → Int32 → Int32 → mm_M → Option (mm_M)) (hrec4 : ∀ (x1 : Int32) (x2 : Int32) (x3 : Int32) (M : mm_M), Snd injV j7_laysEnd mm_X0 4 [some (.ref 46), some (.int x1), some (.int x2), some (.int x3), none] [] M (rec4 x1 x2 x3 M)) (x1 : Int32) (x3 : Int32) (s0 : Int32)  (M : mm_M) : Snd injV j7_laysEnd mm_X0 60 [some (.ref 46), some (.int x1), none, some (.int x3), none] [.int s0] M (l7_laysEnd_60 rec4 x1 x3 s0 M) := by
  unfold l7_laysEnd_60
  refine sn_iconst (j := j7_laysEnd) (pc := 60) 0 rfl dX7_laysEnd_60 ?_
  exact Snd.wk (sl7_laysEnd_61 rec4 hrec4 x1 x3 0 s0 M) (by simp [mm_le])
def b7_laysEnd_4  (rec4 : Int32 → Int32 → Int32 → mm_M → Option (mm_M)) (x1 : Int32) (x2 : Int32) (x3 : Int32) (M : mm_M) : Option (mm_M) :=
  aI 47 82 1 M (fun w_2 => if w_2 ≤ x3 then (aI 47 82 0 M (fun w_3 => bI ((6561 * w_3) + x1) (fun x3_4 => uI 54 59049 x3_4 x2 M (fun M => uI 55 59049 x3_4 0 M (fun M => uI 56 59049 x3_4 0 M (fun M => some M)))))) else (cI (f7_of x3 3 M) (fun r_5 M => cI (f7_countOf x1 x3 M) (fun r_6 M => aI 58 36 ((9 * x3) + r_6) M (fun w_7 => bI (r_5 - w_7) (fun x4_8 => bI (mI M 46 15) (fun v_9 => cI (f7_has v_9 x3 M) (fun r_10 M => if r_10 = 0 then (l7_laysEnd_60 rec4 x1 x3 x2 M) else (if x4_8 ≤ 0 then (l7_laysEnd_60 rec4 x1 x3 x2 M) else (l7_laysEnd_61 rec4 x1 x3 x4_8 x2 M))))))))))
set_option maxHeartbeats 2000000 in
theorem sb7_laysEnd_4   (rec4 : Int32 → Int32 → Int32 → mm_M → Option (mm_M)) (hrec4 : ∀ (x1 : Int32) (x2 : Int32) (x3 : Int32) (M : mm_M), Snd injV j7_laysEnd mm_X0 4 [some (.ref 46), some (.int x1), some (.int x2), some (.int x3), none] [] M (rec4 x1 x2 x3 M)) (x1 : Int32) (x2 : Int32) (x3 : Int32)  (M : mm_M) : Snd injV j7_laysEnd mm_X0 4 [some (.ref 46), some (.int x1), some (.int x2), some (.int x3), none] [] M (b7_laysEnd_4  rec4 x1 x2 x3 M) := by
  unfold b7_laysEnd_4
  refine sn_iload_n (j := j7_laysEnd) (pc := 4) rfl rfl dX7_laysEnd_4 ?_
  refine sn_aload_n (j := j7_laysEnd) (pc := 5) rfl rfl dX7_laysEnd_5 ?_
  refine g_X7_7 (j := j7_laysEnd) (pc := 6) rfl dX7_laysEnd_6 ?_
  refine sn_iconst (j := j7_laysEnd) (pc := 9) 1 rfl dX7_laysEnd_9 ?_
  refine sn_iald (j := j7_laysEnd) (pc := 10) rfl ⟨by decide, by decide⟩ dX7_laysEnd_10 (fun w_2 => ?_)
  refine sn_icmp_ge (j := j7_laysEnd) (pc := 11) 69 rfl dX7_laysEnd_11 ?_ ?_
  · refine sn_sipush (j := j7_laysEnd) (pc := 69) 6561 rfl dX7_laysEnd_69 ?_
    refine sn_aload_n (j := j7_laysEnd) (pc := 72) rfl rfl dX7_laysEnd_72 ?_
    refine g_X7_7 (j := j7_laysEnd) (pc := 73) rfl dX7_laysEnd_73 ?_
    refine sn_iconst (j := j7_laysEnd) (pc := 76) 0 rfl dX7_laysEnd_76 ?_
    refine sn_iald (j := j7_laysEnd) (pc := 77) rfl ⟨by decide, by decide⟩ dX7_laysEnd_77 (fun w_3 => ?_)
    refine sn_imul (j := j7_laysEnd) (pc := 78) dX7_laysEnd_78 ?_
    refine sn_iload_n (j := j7_laysEnd) (pc := 79) rfl rfl dX7_laysEnd_79 ?_
    refine sn_iadd (j := j7_laysEnd) (pc := 80) dX7_laysEnd_80 ?_
    refine sn_istoreB_n (j := j7_laysEnd) (pc := 81) rfl (fun x3_4 => [some (.ref 46), some (.int x1), some (.int x2), some (.int x3_4), none]) (by decide) (fun _ => rfl) dX7_laysEnd_81 (fun x3_4 => ?_)
    refine sn_aload_n (j := j7_laysEnd) (pc := 82) rfl rfl dX7_laysEnd_82 ?_
    refine g_X7_32 (j := j7_laysEnd) (pc := 83) rfl dX7_laysEnd_83 ?_
    refine sn_iload_n (j := j7_laysEnd) (pc := 86) rfl rfl dX7_laysEnd_86 ?_
    refine sn_iload_n (j := j7_laysEnd) (pc := 87) rfl rfl dX7_laysEnd_87 ?_
    refine sn_iast (j := j7_laysEnd) (pc := 88) rfl ⟨by decide, by decide⟩ dX7_laysEnd_88 (fun M => ?_)
    refine sn_aload_n (j := j7_laysEnd) (pc := 89) rfl rfl dX7_laysEnd_89 ?_
    refine g_X7_35 (j := j7_laysEnd) (pc := 90) rfl dX7_laysEnd_90 ?_
    refine sn_iload_n (j := j7_laysEnd) (pc := 93) rfl rfl dX7_laysEnd_93 ?_
    refine sn_iconst (j := j7_laysEnd) (pc := 94) 0 rfl dX7_laysEnd_94 ?_
    refine sn_iast (j := j7_laysEnd) (pc := 95) rfl ⟨by decide, by decide⟩ dX7_laysEnd_95 (fun M => ?_)
    refine sn_aload_n (j := j7_laysEnd) (pc := 96) rfl rfl dX7_laysEnd_96 ?_
    refine g_X7_38 (j := j7_laysEnd) (pc := 97) rfl dX7_laysEnd_97 ?_
    refine sn_iload_n (j := j7_laysEnd) (pc := 100) rfl rfl dX7_laysEnd_100 ?_
    refine sn_iconst (j := j7_laysEnd) (pc := 101) 0 rfl dX7_laysEnd_101 ?_
    refine sn_iast (j := j7_laysEnd) (pc := 102) rfl ⟨by decide, by decide⟩ dX7_laysEnd_102 (fun M => ?_)
    exact sn_vret (j := j7_laysEnd) (pc := 103) rfl dX7_laysEnd_103
  · refine sn_aload_n (j := j7_laysEnd) (pc := 14) rfl rfl dX7_laysEnd_14 ?_
    refine sn_iload_n (j := j7_laysEnd) (pc := 15) rfl rfl dX7_laysEnd_15 ?_
    refine sn_iconst (j := j7_laysEnd) (pc := 16) 3 rfl dX7_laysEnd_16 ?_
    refine sn_callV (j := j7_laysEnd) (pc := 17) (jc := j7_of) (As := [.int x3, .int 3]) (s7_of x3 3 M) mm_hvI (by simp [Value.category]) (Nat.le_of_ble_eq_true rfl) q7_of rfl (by decide) rfl rfl ⟨by decide, by decide⟩ w_ml_X7_181 w_im_X7_of w_se_X7_of rfl (Nat.le_of_ble_eq_true rfl) dX7_laysEnd_17 ?_
    rintro ⟨r_5, M⟩
    show Snd injV j7_laysEnd mm_X0 20 [some (.ref 46), some (.int x1), some (.int x2), some (.int x3), none] [.int r_5] M _
    refine sn_aload_n (j := j7_laysEnd) (pc := 20) rfl rfl dX7_laysEnd_20 ?_
    refine g_X7_44 (j := j7_laysEnd) (pc := 21) rfl dX7_laysEnd_21 ?_
    refine sn_bipush (j := j7_laysEnd) (pc := 24) 9 rfl dX7_laysEnd_24 ?_
    refine sn_iload_n (j := j7_laysEnd) (pc := 26) rfl rfl dX7_laysEnd_26 ?_
    refine sn_imul (j := j7_laysEnd) (pc := 27) dX7_laysEnd_27 ?_
    refine sn_iload_n (j := j7_laysEnd) (pc := 28) rfl rfl dX7_laysEnd_28 ?_
    refine sn_iload_n (j := j7_laysEnd) (pc := 29) rfl rfl dX7_laysEnd_29 ?_
    refine sn_callS (j := j7_laysEnd) (pc := 30) (jc := j7_countOf) (As := [.int x1, .int x3]) (s7_countOf x1 x3 M) mm_hvI (by simp [Value.category]) (Nat.le_of_ble_eq_true rfl) q7_countOf rfl (by decide) w_ml_X7_231 w_st_X7_countOf rfl (Nat.le_of_ble_eq_true rfl) dX7_laysEnd_30 ?_
    rintro ⟨r_6, M⟩
    show Snd injV j7_laysEnd mm_X0 33 [some (.ref 46), some (.int x1), some (.int x2), some (.int x3), none] [.int r_6, .int (9 * x3), .ref 58, .int r_5] M _
    refine sn_iadd (j := j7_laysEnd) (pc := 33) dX7_laysEnd_33 ?_
    refine sn_iald (j := j7_laysEnd) (pc := 34) rfl ⟨by decide, by decide⟩ dX7_laysEnd_34 (fun w_7 => ?_)
    refine sn_isub (j := j7_laysEnd) (pc := 35) dX7_laysEnd_35 ?_
    refine sn_istoreB (j := j7_laysEnd) (pc := 36) (fun x4_8 => [some (.ref 46), some (.int x1), some (.int x2), some (.int x3), some (.int x4_8)]) (by decide) (fun _ => rfl) dX7_laysEnd_36 (fun x4_8 => ?_)
    refine sn_iload_n (j := j7_laysEnd) (pc := 38) rfl rfl dX7_laysEnd_38 ?_
    refine sn_aload_n (j := j7_laysEnd) (pc := 39) rfl rfl dX7_laysEnd_39 ?_
    refine g_X7_207 (j := j7_laysEnd) (pc := 40) rfl dX7_laysEnd_40 ?_
    refine Snd.bI (fun v_9 => ?_)
    refine sn_iload_n (j := j7_laysEnd) (pc := 43) rfl rfl dX7_laysEnd_43 ?_
    refine sn_callS (j := j7_laysEnd) (pc := 44) (jc := j7_has) (As := [.int v_9, .int x3]) (s7_has v_9 x3 M) mm_hvI (by simp [Value.category]) (Nat.le_of_ble_eq_true rfl) q7_has rfl (by decide) w_ml_X7_110 w_st_X7_has rfl (Nat.le_of_ble_eq_true rfl) dX7_laysEnd_44 ?_
    rintro ⟨r_10, M⟩
    show Snd injV j7_laysEnd mm_X0 47 [some (.ref 46), some (.int x1), some (.int x2), some (.int x3), some (.int x4_8)] [.int r_10, .int x2] M _
    refine sn_if_eq (j := j7_laysEnd) (pc := 47) 60 rfl dX7_laysEnd_47 ?_ ?_
    · exact Snd.wk (sl7_laysEnd_60 rec4 hrec4 x1 x3 x2 M) (by simp [mm_le])
    · refine sn_iload (j := j7_laysEnd) (pc := 50) rfl dX7_laysEnd_50 ?_
      refine sn_if_le (j := j7_laysEnd) (pc := 52) 60 rfl dX7_laysEnd_52 ?_ ?_
      · exact Snd.wk (sl7_laysEnd_60 rec4 hrec4 x1 x3 x2 M) (by simp [mm_le])
      · refine sn_iload (j := j7_laysEnd) (pc := 55) rfl dX7_laysEnd_55 ?_
        refine sn_goto (j := j7_laysEnd) (pc := 57) 61 rfl dX7_laysEnd_57 ?_
        exact Snd.wk (sl7_laysEnd_61 rec4 hrec4 x1 x3 x4_8 x2 M) (by simp [mm_le])
def l7_laysEnd_4  : Nat → Int32 → Int32 → Int32 → mm_M → Option (mm_M)
  | 0 => fun _ _ _ _ => none
  | n + 1 => fun x1 x2 x3 M => b7_laysEnd_4  (l7_laysEnd_4  n) x1 x2 x3 M
theorem sl7_laysEnd_4   : ∀ (n : Nat) (x1 : Int32) (x2 : Int32) (x3 : Int32)  (M : mm_M), Snd injV j7_laysEnd mm_X0 4 [some (.ref 46), some (.int x1), some (.int x2), some (.int x3), none] [] M (l7_laysEnd_4  n x1 x2 x3 M)
  | 0 => fun _ _ _  _ => Snd.none
  | n + 1 => fun x1 x2 x3  M => sb7_laysEnd_4   (l7_laysEnd_4  n) (fun x1 x2 x3 M  => sl7_laysEnd_4   n x1 x2 x3  M) x1 x2 x3  M
def f7_laysEnd (x1 : Int32) (M : mm_M) : Option (mm_M) :=
  l7_laysEnd_4 FU x1 0 0 M
set_option maxHeartbeats 2000000 in
theorem s7_laysEnd (x1 : Int32) (M : mm_M) : Snd injV j7_laysEnd mm_X0 0 [some (.ref 46), some (.int x1)] [] M (f7_laysEnd x1 M) := by
  refine Snd.wk (lo' := [some (.ref 46), some (.int x1), none, none, none]) ?_ (by simp [mm_le])
  unfold f7_laysEnd
  refine sn_iconst (j := j7_laysEnd) (pc := 0) 0 rfl dX7_laysEnd_0 ?_
  refine sn_istore_n (j := j7_laysEnd) (pc := 1) rfl (by decide) (lo' := [some (.ref 46), some (.int x1), some (.int 0), none, none]) rfl dX7_laysEnd_1 ?_
  refine sn_iconst (j := j7_laysEnd) (pc := 2) 0 rfl dX7_laysEnd_2 ?_
  refine sn_istore_n (j := j7_laysEnd) (pc := 3) rfl (by decide) (lo' := [some (.ref 46), some (.int x1), some (.int 0), some (.int 0), none]) rfl dX7_laysEnd_3 ?_
  exact Snd.wk (sl7_laysEnd_4 FU x1 0 0 M) (by simp [mm_le])

abbrev j7_taken : mm_J := (yX7_taken, cX7_taken, 7, (some .int), 2)
theorem dX7_taken_0 : decode cX7_taken 0 = .ok (.iload_n 3, 1) := by decide +kernel
theorem dX7_taken_1 : decode cX7_taken 1 = .ok (.invokestatic 175, 3) := by decide +kernel
theorem dX7_taken_4 : decode cX7_taken 4 = .ok (.aload_n 0, 1) := by decide +kernel
theorem dX7_taken_5 : decode cX7_taken 5 = .ok (.getfield 201, 3) := by decide +kernel
theorem dX7_taken_8 : decode cX7_taken 8 = .ok (.if_icmp .gt 14, 3) := by decide +kernel
theorem dX7_taken_11 : decode cX7_taken 11 = .ok (.iload_n 3, 1) := by decide +kernel
theorem dX7_taken_12 : decode cX7_taken 12 = .ok (.aload_n 0, 1) := by decide +kernel
theorem dX7_taken_13 : decode cX7_taken 13 = .ok (.getfield 207, 3) := by decide +kernel
theorem dX7_taken_16 : decode cX7_taken 16 = .ok (.iconst (-1), 1) := by decide +kernel
theorem dX7_taken_17 : decode cX7_taken 17 = .ok (.ixor, 1) := by decide +kernel
theorem dX7_taken_18 : decode cX7_taken 18 = .ok (.iand, 1) := by decide +kernel
theorem dX7_taken_19 : decode cX7_taken 19 = .ok (.ifCond .eq 5, 3) := by decide +kernel
theorem dX7_taken_22 : decode cX7_taken 22 = .ok (.iconst (-1), 1) := by decide +kernel
theorem dX7_taken_23 : decode cX7_taken 23 = .ok (.ireturn, 1) := by decide +kernel
theorem dX7_taken_24 : decode cX7_taken 24 = .ok (.iconst 0, 1) := by decide +kernel
theorem dX7_taken_25 : decode cX7_taken 25 = .ok (.istore 4, 2) := by decide +kernel
theorem dX7_taken_27 : decode cX7_taken 27 = .ok (.iconst 0, 1) := by decide +kernel
theorem dX7_taken_28 : decode cX7_taken 28 = .ok (.istore 5, 2) := by decide +kernel
theorem dX7_taken_30 : decode cX7_taken 30 = .ok (.iload 5, 2) := by decide +kernel
theorem dX7_taken_32 : decode cX7_taken 32 = .ok (.aload_n 0, 1) := by decide +kernel
theorem dX7_taken_33 : decode cX7_taken 33 = .ok (.getfield 7, 3) := by decide +kernel
theorem dX7_taken_36 : decode cX7_taken 36 = .ok (.iconst 1, 1) := by decide +kernel
theorem dX7_taken_37 : decode cX7_taken 37 = .ok (.iaload, 1) := by decide +kernel
theorem dX7_taken_38 : decode cX7_taken 38 = .ok (.if_icmp .ge 69, 3) := by decide +kernel
theorem dX7_taken_41 : decode cX7_taken 41 = .ok (.iload_n 3, 1) := by decide +kernel
theorem dX7_taken_42 : decode cX7_taken 42 = .ok (.iload 5, 2) := by decide +kernel
theorem dX7_taken_44 : decode cX7_taken 44 = .ok (.invokestatic 110, 3) := by decide +kernel
theorem dX7_taken_47 : decode cX7_taken 47 = .ok (.ifCond .ne 6, 3) := by decide +kernel
theorem dX7_taken_50 : decode cX7_taken 50 = .ok (.goto 51, 3) := by decide +kernel
theorem dX7_taken_53 : decode cX7_taken 53 = .ok (.aload_n 0, 1) := by decide +kernel
theorem dX7_taken_54 : decode cX7_taken 54 = .ok (.iload 5, 2) := by decide +kernel
theorem dX7_taken_56 : decode cX7_taken 56 = .ok (.iload_n 2, 1) := by decide +kernel
theorem dX7_taken_57 : decode cX7_taken 57 = .ok (.invokevirtual 210, 3) := by decide +kernel
theorem dX7_taken_60 : decode cX7_taken 60 = .ok (.ifCond .ne 5, 3) := by decide +kernel
theorem dX7_taken_63 : decode cX7_taken 63 = .ok (.iconst (-1), 1) := by decide +kernel
theorem dX7_taken_64 : decode cX7_taken 64 = .ok (.ireturn, 1) := by decide +kernel
theorem dX7_taken_65 : decode cX7_taken 65 = .ok (.bipush 9, 2) := by decide +kernel
theorem dX7_taken_67 : decode cX7_taken 67 = .ok (.iload 5, 2) := by decide +kernel
theorem dX7_taken_69 : decode cX7_taken 69 = .ok (.imul, 1) := by decide +kernel
theorem dX7_taken_70 : decode cX7_taken 70 = .ok (.iload_n 1, 1) := by decide +kernel
theorem dX7_taken_71 : decode cX7_taken 71 = .ok (.iload 5, 2) := by decide +kernel
theorem dX7_taken_73 : decode cX7_taken 73 = .ok (.invokestatic 231, 3) := by decide +kernel
theorem dX7_taken_76 : decode cX7_taken 76 = .ok (.iadd, 1) := by decide +kernel
theorem dX7_taken_77 : decode cX7_taken 77 = .ok (.istore 6, 2) := by decide +kernel
theorem dX7_taken_79 : decode cX7_taken 79 = .ok (.iload 4, 2) := by decide +kernel
theorem dX7_taken_81 : decode cX7_taken 81 = .ok (.aload_n 0, 1) := by decide +kernel
theorem dX7_taken_82 : decode cX7_taken 82 = .ok (.getfield 44, 3) := by decide +kernel
theorem dX7_taken_85 : decode cX7_taken 85 = .ok (.iload 6, 2) := by decide +kernel
theorem dX7_taken_87 : decode cX7_taken 87 = .ok (.iconst 1, 1) := by decide +kernel
theorem dX7_taken_88 : decode cX7_taken 88 = .ok (.iadd, 1) := by decide +kernel
theorem dX7_taken_89 : decode cX7_taken 89 = .ok (.iaload, 1) := by decide +kernel
theorem dX7_taken_90 : decode cX7_taken 90 = .ok (.aload_n 0, 1) := by decide +kernel
theorem dX7_taken_91 : decode cX7_taken 91 = .ok (.getfield 44, 3) := by decide +kernel
theorem dX7_taken_94 : decode cX7_taken 94 = .ok (.iload 6, 2) := by decide +kernel
theorem dX7_taken_96 : decode cX7_taken 96 = .ok (.iaload, 1) := by decide +kernel
theorem dX7_taken_97 : decode cX7_taken 97 = .ok (.isub, 1) := by decide +kernel
theorem dX7_taken_98 : decode cX7_taken 98 = .ok (.iadd, 1) := by decide +kernel
theorem dX7_taken_99 : decode cX7_taken 99 = .ok (.istore 4, 2) := by decide +kernel
theorem dX7_taken_101 : decode cX7_taken 101 = .ok (.iinc 5 1, 3) := by decide +kernel
theorem dX7_taken_104 : decode cX7_taken 104 = .ok (.goto (-74), 3) := by decide +kernel
theorem dX7_taken_107 : decode cX7_taken 107 = .ok (.iload 4, 2) := by decide +kernel
theorem dX7_taken_109 : decode cX7_taken 109 = .ok (.aload_n 0, 1) := by decide +kernel
theorem dX7_taken_110 : decode cX7_taken 110 = .ok (.getfield 204, 3) := by decide +kernel
theorem dX7_taken_113 : decode cX7_taken 113 = .ok (.if_icmp .le 7, 3) := by decide +kernel
theorem dX7_taken_116 : decode cX7_taken 116 = .ok (.iconst (-1), 1) := by decide +kernel
theorem dX7_taken_117 : decode cX7_taken 117 = .ok (.goto 5, 3) := by decide +kernel
theorem dX7_taken_120 : decode cX7_taken 120 = .ok (.iload 4, 2) := by decide +kernel
theorem dX7_taken_122 : decode cX7_taken 122 = .ok (.ireturn, 1) := by decide +kernel
def l7_taken_122  (s0 : Int32) (M : mm_M) : Option (Int32 × mm_M) :=
  some (s0, M)
set_option maxHeartbeats 2000000 in
theorem sl7_taken_122   (s0 : Int32)  (M : mm_M) : Snd injI j7_taken mm_X0 122 [none, none, none, none, none, none, none] [.int s0] M (l7_taken_122  s0 M) := by
  unfold l7_taken_122
  exact sn_iret (j := j7_taken) (pc := 122) rfl dX7_taken_122
def l7_taken_101 (rec30 : Int32 → Int32 → Int32 → Int32 → Int32 → mm_M → Option (Int32 × mm_M)) (x1 : Int32) (x2 : Int32) (x3 : Int32) (x4 : Int32) (x5 : Int32) (M : mm_M) : Option (Int32 × mm_M) :=
  rec30 x1 x2 x3 x4 (x5 + 1) M
set_option maxHeartbeats 2000000 in
theorem sl7_taken_101 (rec30 : Int32 → Int32 → Int32 → Int32 → Int32 → mm_M → Option (Int32 × mm_M)) (hrec30 : ∀ (x1 : Int32) (x2 : Int32) (x3 : Int32) (x4 : Int32) (x5 : Int32) (M : mm_M), Snd injI j7_taken mm_X0 30 [some (.ref 46), some (.int x1), some (.int x2), some (.int x3), some (.int x4), some (.int x5), none] [] M (rec30 x1 x2 x3 x4 x5 M)) (x1 : Int32) (x2 : Int32) (x3 : Int32) (x4 : Int32) (x5 : Int32)  (M : mm_M) : Snd injI j7_taken mm_X0 101 [some (.ref 46), some (.int x1), some (.int x2), some (.int x3), some (.int x4), some (.int x5), none] [] M (l7_taken_101 rec30 x1 x2 x3 x4 x5 M) := by
  unfold l7_taken_101
  refine sn_iinc (j := j7_taken) (pc := 101) 1 rfl (by decide) rfl (lo' := [some (.ref 46), some (.int x1), some (.int x2), some (.int x3), some (.int x4), some (.int (x5 + 1)), none]) rfl dX7_taken_101 ?_
  refine sn_goto (j := j7_taken) (pc := 104) 30 rfl dX7_taken_104 ?_
  exact Snd.wk (hrec30 x1 x2 x3 x4 (x5 + 1) M ) (by simp [mm_le])
def b7_taken_30  (rec30 : Int32 → Int32 → Int32 → Int32 → Int32 → mm_M → Option (Int32 × mm_M)) (x1 : Int32) (x2 : Int32) (x3 : Int32) (x4 : Int32) (x5 : Int32) (M : mm_M) : Option (Int32 × mm_M) :=
  aI 47 82 1 M (fun w_1 => if w_1 ≤ x5 then (bI (mI M 46 13) (fun v_2 => if x4 ≤ v_2 then (l7_taken_122 x4 M) else (l7_taken_122 (-1) M))) else (cI (f7_has x3 x5 M) (fun r_3 M => if r_3 = 0 then (l7_taken_101 rec30 x1 x2 x3 x4 x5 M) else (cI (f7_isThere x5 x2 M) (fun r_4 M => if r_4 = 0 then (some ((-1), M)) else (cI (f7_countOf x1 x5 M) (fun r_5 M => bI ((9 * x5) + r_5) (fun x6_6 => aI 58 36 (x6_6 + 1) M (fun w_7 => aI 58 36 x6_6 M (fun w_8 => bI (x4 + (w_7 - w_8)) (fun x4_9 => l7_taken_101 rec30 x1 x2 x3 x4_9 x5 M)))))))))))
set_option maxHeartbeats 2000000 in
theorem sb7_taken_30   (rec30 : Int32 → Int32 → Int32 → Int32 → Int32 → mm_M → Option (Int32 × mm_M)) (hrec30 : ∀ (x1 : Int32) (x2 : Int32) (x3 : Int32) (x4 : Int32) (x5 : Int32) (M : mm_M), Snd injI j7_taken mm_X0 30 [some (.ref 46), some (.int x1), some (.int x2), some (.int x3), some (.int x4), some (.int x5), none] [] M (rec30 x1 x2 x3 x4 x5 M)) (x1 : Int32) (x2 : Int32) (x3 : Int32) (x4 : Int32) (x5 : Int32)  (M : mm_M) : Snd injI j7_taken mm_X0 30 [some (.ref 46), some (.int x1), some (.int x2), some (.int x3), some (.int x4), some (.int x5), none] [] M (b7_taken_30  rec30 x1 x2 x3 x4 x5 M) := by
  unfold b7_taken_30
  refine sn_iload (j := j7_taken) (pc := 30) rfl dX7_taken_30 ?_
  refine sn_aload_n (j := j7_taken) (pc := 32) rfl rfl dX7_taken_32 ?_
  refine g_X7_7 (j := j7_taken) (pc := 33) rfl dX7_taken_33 ?_
  refine sn_iconst (j := j7_taken) (pc := 36) 1 rfl dX7_taken_36 ?_
  refine sn_iald (j := j7_taken) (pc := 37) rfl ⟨by decide, by decide⟩ dX7_taken_37 (fun w_1 => ?_)
  refine sn_icmp_ge (j := j7_taken) (pc := 38) 107 rfl dX7_taken_38 ?_ ?_
  · refine sn_iload (j := j7_taken) (pc := 107) rfl dX7_taken_107 ?_
    refine sn_aload_n (j := j7_taken) (pc := 109) rfl rfl dX7_taken_109 ?_
    refine g_X7_204 (j := j7_taken) (pc := 110) rfl dX7_taken_110 ?_
    refine Snd.bI (fun v_2 => ?_)
    refine sn_icmp_le (j := j7_taken) (pc := 113) 120 rfl dX7_taken_113 ?_ ?_
    · refine sn_iload (j := j7_taken) (pc := 120) rfl dX7_taken_120 ?_
      exact Snd.wk (sl7_taken_122 x4 M) (by simp [mm_le])
    · refine sn_iconst (j := j7_taken) (pc := 116) (-1) rfl dX7_taken_116 ?_
      refine sn_goto (j := j7_taken) (pc := 117) 122 rfl dX7_taken_117 ?_
      exact Snd.wk (sl7_taken_122 (-1) M) (by simp [mm_le])
  · refine sn_iload_n (j := j7_taken) (pc := 41) rfl rfl dX7_taken_41 ?_
    refine sn_iload (j := j7_taken) (pc := 42) rfl dX7_taken_42 ?_
    refine sn_callS (j := j7_taken) (pc := 44) (jc := j7_has) (As := [.int x3, .int x5]) (s7_has x3 x5 M) mm_hvI (by simp [Value.category]) (Nat.le_of_ble_eq_true rfl) q7_has rfl (by decide) w_ml_X7_110 w_st_X7_has rfl (Nat.le_of_ble_eq_true rfl) dX7_taken_44 ?_
    rintro ⟨r_3, M⟩
    show Snd injI j7_taken mm_X0 47 [some (.ref 46), some (.int x1), some (.int x2), some (.int x3), some (.int x4), some (.int x5), none] [.int r_3] M _
    refine sn_if_ne (j := j7_taken) (pc := 47) 53 rfl dX7_taken_47 ?_ ?_
    · refine sn_aload_n (j := j7_taken) (pc := 53) rfl rfl dX7_taken_53 ?_
      refine sn_iload (j := j7_taken) (pc := 54) rfl dX7_taken_54 ?_
      refine sn_iload_n (j := j7_taken) (pc := 56) rfl rfl dX7_taken_56 ?_
      refine sn_callV (j := j7_taken) (pc := 57) (jc := j7_isThere) (As := [.int x5, .int x2]) (s7_isThere x5 x2 M) mm_hvI (by simp [Value.category]) (Nat.le_of_ble_eq_true rfl) q7_isThere rfl (by decide) rfl rfl ⟨by decide, by decide⟩ w_ml_X7_210 w_im_X7_isThere w_se_X7_isThere rfl (Nat.le_of_ble_eq_true rfl) dX7_taken_57 ?_
      rintro ⟨r_4, M⟩
      show Snd injI j7_taken mm_X0 60 [some (.ref 46), some (.int x1), some (.int x2), some (.int x3), some (.int x4), some (.int x5), none] [.int r_4] M _
      refine sn_if_ne (j := j7_taken) (pc := 60) 65 rfl dX7_taken_60 ?_ ?_
      · refine sn_bipush (j := j7_taken) (pc := 65) 9 rfl dX7_taken_65 ?_
        refine sn_iload (j := j7_taken) (pc := 67) rfl dX7_taken_67 ?_
        refine sn_imul (j := j7_taken) (pc := 69) dX7_taken_69 ?_
        refine sn_iload_n (j := j7_taken) (pc := 70) rfl rfl dX7_taken_70 ?_
        refine sn_iload (j := j7_taken) (pc := 71) rfl dX7_taken_71 ?_
        refine sn_callS (j := j7_taken) (pc := 73) (jc := j7_countOf) (As := [.int x1, .int x5]) (s7_countOf x1 x5 M) mm_hvI (by simp [Value.category]) (Nat.le_of_ble_eq_true rfl) q7_countOf rfl (by decide) w_ml_X7_231 w_st_X7_countOf rfl (Nat.le_of_ble_eq_true rfl) dX7_taken_73 ?_
        rintro ⟨r_5, M⟩
        show Snd injI j7_taken mm_X0 76 [some (.ref 46), some (.int x1), some (.int x2), some (.int x3), some (.int x4), some (.int x5), none] [.int r_5, .int (9 * x5)] M _
        refine sn_iadd (j := j7_taken) (pc := 76) dX7_taken_76 ?_
        refine sn_istoreB (j := j7_taken) (pc := 77) (fun x6_6 => [some (.ref 46), some (.int x1), some (.int x2), some (.int x3), some (.int x4), some (.int x5), some (.int x6_6)]) (by decide) (fun _ => rfl) dX7_taken_77 (fun x6_6 => ?_)
        refine sn_iload (j := j7_taken) (pc := 79) rfl dX7_taken_79 ?_
        refine sn_aload_n (j := j7_taken) (pc := 81) rfl rfl dX7_taken_81 ?_
        refine g_X7_44 (j := j7_taken) (pc := 82) rfl dX7_taken_82 ?_
        refine sn_iload (j := j7_taken) (pc := 85) rfl dX7_taken_85 ?_
        refine sn_iconst (j := j7_taken) (pc := 87) 1 rfl dX7_taken_87 ?_
        refine sn_iadd (j := j7_taken) (pc := 88) dX7_taken_88 ?_
        refine sn_iald (j := j7_taken) (pc := 89) rfl ⟨by decide, by decide⟩ dX7_taken_89 (fun w_7 => ?_)
        refine sn_aload_n (j := j7_taken) (pc := 90) rfl rfl dX7_taken_90 ?_
        refine g_X7_44 (j := j7_taken) (pc := 91) rfl dX7_taken_91 ?_
        refine sn_iload (j := j7_taken) (pc := 94) rfl dX7_taken_94 ?_
        refine sn_iald (j := j7_taken) (pc := 96) rfl ⟨by decide, by decide⟩ dX7_taken_96 (fun w_8 => ?_)
        refine sn_isub (j := j7_taken) (pc := 97) dX7_taken_97 ?_
        refine sn_iadd (j := j7_taken) (pc := 98) dX7_taken_98 ?_
        refine sn_istoreB (j := j7_taken) (pc := 99) (fun x4_9 => [some (.ref 46), some (.int x1), some (.int x2), some (.int x3), some (.int x4_9), some (.int x5), some (.int x6_6)]) (by decide) (fun _ => rfl) dX7_taken_99 (fun x4_9 => ?_)
        exact Snd.wk (sl7_taken_101 rec30 hrec30 x1 x2 x3 x4_9 x5 M) (by simp [mm_le])
      · refine sn_iconst (j := j7_taken) (pc := 63) (-1) rfl dX7_taken_63 ?_
        exact sn_iret (j := j7_taken) (pc := 64) rfl dX7_taken_64
    · refine sn_goto (j := j7_taken) (pc := 50) 101 rfl dX7_taken_50 ?_
      exact Snd.wk (sl7_taken_101 rec30 hrec30 x1 x2 x3 x4 x5 M) (by simp [mm_le])
def l7_taken_30  : Nat → Int32 → Int32 → Int32 → Int32 → Int32 → mm_M → Option (Int32 × mm_M)
  | 0 => fun _ _ _ _ _ _ => none
  | n + 1 => fun x1 x2 x3 x4 x5 M => b7_taken_30  (l7_taken_30  n) x1 x2 x3 x4 x5 M
theorem sl7_taken_30   : ∀ (n : Nat) (x1 : Int32) (x2 : Int32) (x3 : Int32) (x4 : Int32) (x5 : Int32)  (M : mm_M), Snd injI j7_taken mm_X0 30 [some (.ref 46), some (.int x1), some (.int x2), some (.int x3), some (.int x4), some (.int x5), none] [] M (l7_taken_30  n x1 x2 x3 x4 x5 M)
  | 0 => fun _ _ _ _ _  _ => Snd.none
  | n + 1 => fun x1 x2 x3 x4 x5  M => sb7_taken_30   (l7_taken_30  n) (fun x1 x2 x3 x4 x5 M  => sl7_taken_30   n x1 x2 x3 x4 x5  M) x1 x2 x3 x4 x5  M
def l7_taken_22   (M : mm_M) : Option (Int32 × mm_M) :=
  some ((-1), M)
set_option maxHeartbeats 2000000 in
theorem sl7_taken_22     (M : mm_M) : Snd injI j7_taken mm_X0 22 [none, none, none, none, none, none, none] [] M (l7_taken_22   M) := by
  unfold l7_taken_22
  refine sn_iconst (j := j7_taken) (pc := 22) (-1) rfl dX7_taken_22 ?_
  exact sn_iret (j := j7_taken) (pc := 23) rfl dX7_taken_23
def f7_taken (x1 : Int32) (x2 : Int32) (x3 : Int32) (M : mm_M) : Option (Int32 × mm_M) :=
  cI (f7_bits x3 M) (fun r_10 M => bI (mI M 46 11) (fun v_11 => if v_11 < r_10 then (l7_taken_22 M) else (bI (mI M 46 15) (fun v_12 => if (x3 &&& (v_12 ^^^ (-1))) = 0 then (l7_taken_30 FU x1 x2 x3 0 0 M) else (l7_taken_22 M)))))
set_option maxHeartbeats 2000000 in
theorem s7_taken (x1 : Int32) (x2 : Int32) (x3 : Int32) (M : mm_M) : Snd injI j7_taken mm_X0 0 [some (.ref 46), some (.int x1), some (.int x2), some (.int x3)] [] M (f7_taken x1 x2 x3 M) := by
  refine Snd.wk (lo' := [some (.ref 46), some (.int x1), some (.int x2), some (.int x3), none, none, none]) ?_ (by simp [mm_le])
  unfold f7_taken
  refine sn_iload_n (j := j7_taken) (pc := 0) rfl rfl dX7_taken_0 ?_
  refine sn_callS (j := j7_taken) (pc := 1) (jc := j7_bits) (As := [.int x3]) (s7_bits x3 M) mm_hvI (by simp [Value.category]) (Nat.le_of_ble_eq_true rfl) q7_bits rfl (by decide) w_ml_X7_175 w_st_X7_bits rfl (Nat.le_of_ble_eq_true rfl) dX7_taken_1 ?_
  rintro ⟨r_10, M⟩
  show Snd injI j7_taken mm_X0 4 [some (.ref 46), some (.int x1), some (.int x2), some (.int x3), none, none, none] [.int r_10] M _
  refine sn_aload_n (j := j7_taken) (pc := 4) rfl rfl dX7_taken_4 ?_
  refine g_X7_201 (j := j7_taken) (pc := 5) rfl dX7_taken_5 ?_
  refine Snd.bI (fun v_11 => ?_)
  refine sn_icmp_gt (j := j7_taken) (pc := 8) 22 rfl dX7_taken_8 ?_ ?_
  · exact Snd.wk (sl7_taken_22 M) (by simp [mm_le])
  · refine sn_iload_n (j := j7_taken) (pc := 11) rfl rfl dX7_taken_11 ?_
    refine sn_aload_n (j := j7_taken) (pc := 12) rfl rfl dX7_taken_12 ?_
    refine g_X7_207 (j := j7_taken) (pc := 13) rfl dX7_taken_13 ?_
    refine Snd.bI (fun v_12 => ?_)
    refine sn_iconst (j := j7_taken) (pc := 16) (-1) rfl dX7_taken_16 ?_
    refine sn_ixor (j := j7_taken) (pc := 17) dX7_taken_17 ?_
    refine sn_iand (j := j7_taken) (pc := 18) dX7_taken_18 ?_
    refine sn_if_eq (j := j7_taken) (pc := 19) 24 rfl dX7_taken_19 ?_ ?_
    · refine sn_iconst (j := j7_taken) (pc := 24) 0 rfl dX7_taken_24 ?_
      refine sn_istore (j := j7_taken) (pc := 25) (by decide) (lo' := [some (.ref 46), some (.int x1), some (.int x2), some (.int x3), some (.int 0), none, none]) rfl dX7_taken_25 ?_
      refine sn_iconst (j := j7_taken) (pc := 27) 0 rfl dX7_taken_27 ?_
      refine sn_istore (j := j7_taken) (pc := 28) (by decide) (lo' := [some (.ref 46), some (.int x1), some (.int x2), some (.int x3), some (.int 0), some (.int 0), none]) rfl dX7_taken_28 ?_
      exact Snd.wk (sl7_taken_30 FU x1 x2 x3 0 0 M) (by simp [mm_le])
    · exact Snd.wk (sl7_taken_22 M) (by simp [mm_le])

abbrev j7_behind : mm_J := (yX7_behind, cX7_behind, 5, (some .int), 1)
theorem dX7_behind_0 : decode cX7_behind 0 = .ok (.iload_n 1, 1) := by decide +kernel
theorem dX7_behind_1 : decode cX7_behind 1 = .ok (.istore_n 3, 1) := by decide +kernel
theorem dX7_behind_2 : decode cX7_behind 2 = .ok (.iconst 0, 1) := by decide +kernel
theorem dX7_behind_3 : decode cX7_behind 3 = .ok (.istore 4, 2) := by decide +kernel
theorem dX7_behind_5 : decode cX7_behind 5 = .ok (.iload 4, 2) := by decide +kernel
theorem dX7_behind_7 : decode cX7_behind 7 = .ok (.aload_n 0, 1) := by decide +kernel
theorem dX7_behind_8 : decode cX7_behind 8 = .ok (.getfield 7, 3) := by decide +kernel
theorem dX7_behind_11 : decode cX7_behind 11 = .ok (.iconst 1, 1) := by decide +kernel
theorem dX7_behind_12 : decode cX7_behind 12 = .ok (.iaload, 1) := by decide +kernel
theorem dX7_behind_13 : decode cX7_behind 13 = .ok (.if_icmp .ge 32, 3) := by decide +kernel
theorem dX7_behind_16 : decode cX7_behind 16 = .ok (.iload_n 3, 1) := by decide +kernel
theorem dX7_behind_17 : decode cX7_behind 17 = .ok (.iload_n 2, 1) := by decide +kernel
theorem dX7_behind_18 : decode cX7_behind 18 = .ok (.iload 4, 2) := by decide +kernel
theorem dX7_behind_20 : decode cX7_behind 20 = .ok (.invokestatic 110, 3) := by decide +kernel
theorem dX7_behind_23 : decode cX7_behind 23 = .ok (.ifCond .eq 13, 3) := by decide +kernel
theorem dX7_behind_26 : decode cX7_behind 26 = .ok (.aload_n 0, 1) := by decide +kernel
theorem dX7_behind_27 : decode cX7_behind 27 = .ok (.getfield 47, 3) := by decide +kernel
theorem dX7_behind_30 : decode cX7_behind 30 = .ok (.iload 4, 2) := by decide +kernel
theorem dX7_behind_32 : decode cX7_behind 32 = .ok (.iaload, 1) := by decide +kernel
theorem dX7_behind_33 : decode cX7_behind 33 = .ok (.goto 4, 3) := by decide +kernel
theorem dX7_behind_36 : decode cX7_behind 36 = .ok (.iconst 0, 1) := by decide +kernel
theorem dX7_behind_37 : decode cX7_behind 37 = .ok (.iadd, 1) := by decide +kernel
theorem dX7_behind_38 : decode cX7_behind 38 = .ok (.istore_n 3, 1) := by decide +kernel
theorem dX7_behind_39 : decode cX7_behind 39 = .ok (.iinc 4 1, 3) := by decide +kernel
theorem dX7_behind_42 : decode cX7_behind 42 = .ok (.goto (-37), 3) := by decide +kernel
theorem dX7_behind_45 : decode cX7_behind 45 = .ok (.iload_n 3, 1) := by decide +kernel
theorem dX7_behind_46 : decode cX7_behind 46 = .ok (.ireturn, 1) := by decide +kernel
def l7_behind_37 (rec5 : Int32 → Int32 → Int32 → mm_M → Option (Int32 × mm_M)) (x2 : Int32) (x4 : Int32) (s0 : Int32) (s1 : Int32) (M : mm_M) : Option (Int32 × mm_M) :=
  bI (s1 + s0) (fun x3_1 => rec5 x2 x3_1 (x4 + 1) M)
set_option maxHeartbeats 2000000 in
theorem sl7_behind_37 (rec5 : Int32 → Int32 → Int32 → mm_M → Option (Int32 × mm_M)) (hrec5 : ∀ (x2 : Int32) (x3 : Int32) (x4 : Int32) (M : mm_M), Snd injI j7_behind mm_X0 5 [some (.ref 46), none, some (.int x2), some (.int x3), some (.int x4)] [] M (rec5 x2 x3 x4 M)) (x2 : Int32) (x4 : Int32) (s0 : Int32) (s1 : Int32)  (M : mm_M) : Snd injI j7_behind mm_X0 37 [some (.ref 46), none, some (.int x2), none, some (.int x4)] [.int s0, .int s1] M (l7_behind_37 rec5 x2 x4 s0 s1 M) := by
  unfold l7_behind_37
  refine sn_iadd (j := j7_behind) (pc := 37) dX7_behind_37 ?_
  refine sn_istoreB_n (j := j7_behind) (pc := 38) rfl (fun x3_1 => [some (.ref 46), none, some (.int x2), some (.int x3_1), some (.int x4)]) (by decide) (fun _ => rfl) dX7_behind_38 (fun x3_1 => ?_)
  refine sn_iinc (j := j7_behind) (pc := 39) 1 rfl (by decide) rfl (lo' := [some (.ref 46), none, some (.int x2), some (.int x3_1), some (.int (x4 + 1))]) rfl dX7_behind_39 ?_
  refine sn_goto (j := j7_behind) (pc := 42) 5 rfl dX7_behind_42 ?_
  exact Snd.wk (hrec5 x2 x3_1 (x4 + 1) M ) (by simp [mm_le])
def b7_behind_5  (rec5 : Int32 → Int32 → Int32 → mm_M → Option (Int32 × mm_M)) (x2 : Int32) (x3 : Int32) (x4 : Int32) (M : mm_M) : Option (Int32 × mm_M) :=
  aI 47 82 1 M (fun w_2 => if w_2 ≤ x4 then (some (x3, M)) else (cI (f7_has x2 x4 M) (fun r_3 M => if r_3 = 0 then (l7_behind_37 rec5 x2 x4 0 x3 M) else (aI 59 4 x4 M (fun w_4 => l7_behind_37 rec5 x2 x4 w_4 x3 M)))))
set_option maxHeartbeats 2000000 in
theorem sb7_behind_5   (rec5 : Int32 → Int32 → Int32 → mm_M → Option (Int32 × mm_M)) (hrec5 : ∀ (x2 : Int32) (x3 : Int32) (x4 : Int32) (M : mm_M), Snd injI j7_behind mm_X0 5 [some (.ref 46), none, some (.int x2), some (.int x3), some (.int x4)] [] M (rec5 x2 x3 x4 M)) (x2 : Int32) (x3 : Int32) (x4 : Int32)  (M : mm_M) : Snd injI j7_behind mm_X0 5 [some (.ref 46), none, some (.int x2), some (.int x3), some (.int x4)] [] M (b7_behind_5  rec5 x2 x3 x4 M) := by
  unfold b7_behind_5
  refine sn_iload (j := j7_behind) (pc := 5) rfl dX7_behind_5 ?_
  refine sn_aload_n (j := j7_behind) (pc := 7) rfl rfl dX7_behind_7 ?_
  refine g_X7_7 (j := j7_behind) (pc := 8) rfl dX7_behind_8 ?_
  refine sn_iconst (j := j7_behind) (pc := 11) 1 rfl dX7_behind_11 ?_
  refine sn_iald (j := j7_behind) (pc := 12) rfl ⟨by decide, by decide⟩ dX7_behind_12 (fun w_2 => ?_)
  refine sn_icmp_ge (j := j7_behind) (pc := 13) 45 rfl dX7_behind_13 ?_ ?_
  · refine sn_iload_n (j := j7_behind) (pc := 45) rfl rfl dX7_behind_45 ?_
    exact sn_iret (j := j7_behind) (pc := 46) rfl dX7_behind_46
  · refine sn_iload_n (j := j7_behind) (pc := 16) rfl rfl dX7_behind_16 ?_
    refine sn_iload_n (j := j7_behind) (pc := 17) rfl rfl dX7_behind_17 ?_
    refine sn_iload (j := j7_behind) (pc := 18) rfl dX7_behind_18 ?_
    refine sn_callS (j := j7_behind) (pc := 20) (jc := j7_has) (As := [.int x2, .int x4]) (s7_has x2 x4 M) mm_hvI (by simp [Value.category]) (Nat.le_of_ble_eq_true rfl) q7_has rfl (by decide) w_ml_X7_110 w_st_X7_has rfl (Nat.le_of_ble_eq_true rfl) dX7_behind_20 ?_
    rintro ⟨r_3, M⟩
    show Snd injI j7_behind mm_X0 23 [some (.ref 46), none, some (.int x2), some (.int x3), some (.int x4)] [.int r_3, .int x3] M _
    refine sn_if_eq (j := j7_behind) (pc := 23) 36 rfl dX7_behind_23 ?_ ?_
    · refine sn_iconst (j := j7_behind) (pc := 36) 0 rfl dX7_behind_36 ?_
      exact Snd.wk (sl7_behind_37 rec5 hrec5 x2 x4 0 x3 M) (by simp [mm_le])
    · refine sn_aload_n (j := j7_behind) (pc := 26) rfl rfl dX7_behind_26 ?_
      refine g_X7_47 (j := j7_behind) (pc := 27) rfl dX7_behind_27 ?_
      refine sn_iload (j := j7_behind) (pc := 30) rfl dX7_behind_30 ?_
      refine sn_iald (j := j7_behind) (pc := 32) rfl ⟨by decide, by decide⟩ dX7_behind_32 (fun w_4 => ?_)
      refine sn_goto (j := j7_behind) (pc := 33) 37 rfl dX7_behind_33 ?_
      exact Snd.wk (sl7_behind_37 rec5 hrec5 x2 x4 w_4 x3 M) (by simp [mm_le])
def l7_behind_5  : Nat → Int32 → Int32 → Int32 → mm_M → Option (Int32 × mm_M)
  | 0 => fun _ _ _ _ => none
  | n + 1 => fun x2 x3 x4 M => b7_behind_5  (l7_behind_5  n) x2 x3 x4 M
theorem sl7_behind_5   : ∀ (n : Nat) (x2 : Int32) (x3 : Int32) (x4 : Int32)  (M : mm_M), Snd injI j7_behind mm_X0 5 [some (.ref 46), none, some (.int x2), some (.int x3), some (.int x4)] [] M (l7_behind_5  n x2 x3 x4 M)
  | 0 => fun _ _ _  _ => Snd.none
  | n + 1 => fun x2 x3 x4  M => sb7_behind_5   (l7_behind_5  n) (fun x2 x3 x4 M  => sl7_behind_5   n x2 x3 x4  M) x2 x3 x4  M
def f7_behind (x1 : Int32) (x2 : Int32) (M : mm_M) : Option (Int32 × mm_M) :=
  l7_behind_5 FU x2 x1 0 M
set_option maxHeartbeats 2000000 in
theorem s7_behind (x1 : Int32) (x2 : Int32) (M : mm_M) : Snd injI j7_behind mm_X0 0 [some (.ref 46), some (.int x1), some (.int x2)] [] M (f7_behind x1 x2 M) := by
  refine Snd.wk (lo' := [some (.ref 46), some (.int x1), some (.int x2), none, none]) ?_ (by simp [mm_le])
  unfold f7_behind
  refine sn_iload_n (j := j7_behind) (pc := 0) rfl rfl dX7_behind_0 ?_
  refine sn_istore_n (j := j7_behind) (pc := 1) rfl (by decide) (lo' := [some (.ref 46), some (.int x1), some (.int x2), some (.int x1), none]) rfl dX7_behind_1 ?_
  refine sn_iconst (j := j7_behind) (pc := 2) 0 rfl dX7_behind_2 ?_
  refine sn_istore (j := j7_behind) (pc := 3) (by decide) (lo' := [some (.ref 46), some (.int x1), some (.int x2), some (.int x1), some (.int 0)]) rfl dX7_behind_3 ?_
  exact Snd.wk (sl7_behind_5 FU x2 x1 0 M) (by simp [mm_le])

abbrev j7_laysSlot : mm_J := (yX7_laysSlot, cX7_laysSlot, 11, none, 3)
theorem dX7_laysSlot_0 : decode cX7_laysSlot 0 = .ok (.sipush 6561, 3) := by decide +kernel
theorem dX7_laysSlot_3 : decode cX7_laysSlot 3 = .ok (.iload_n 2, 1) := by decide +kernel
theorem dX7_laysSlot_4 : decode cX7_laysSlot 4 = .ok (.imul, 1) := by decide +kernel
theorem dX7_laysSlot_5 : decode cX7_laysSlot 5 = .ok (.iload_n 1, 1) := by decide +kernel
theorem dX7_laysSlot_6 : decode cX7_laysSlot 6 = .ok (.iadd, 1) := by decide +kernel
theorem dX7_laysSlot_7 : decode cX7_laysSlot 7 = .ok (.istore_n 3, 1) := by decide +kernel
theorem dX7_laysSlot_8 : decode cX7_laysSlot 8 = .ok (.iconst 1, 1) := by decide +kernel
theorem dX7_laysSlot_9 : decode cX7_laysSlot 9 = .ok (.istore 4, 2) := by decide +kernel
theorem dX7_laysSlot_11 : decode cX7_laysSlot 11 = .ok (.iconst 0, 1) := by decide +kernel
theorem dX7_laysSlot_12 : decode cX7_laysSlot 12 = .ok (.istore 5, 2) := by decide +kernel
theorem dX7_laysSlot_14 : decode cX7_laysSlot 14 = .ok (.iload 5, 2) := by decide +kernel
theorem dX7_laysSlot_16 : decode cX7_laysSlot 16 = .ok (.iconst 1, 1) := by decide +kernel
theorem dX7_laysSlot_17 : decode cX7_laysSlot 17 = .ok (.aload_n 0, 1) := by decide +kernel
theorem dX7_laysSlot_18 : decode cX7_laysSlot 18 = .ok (.getfield 7, 3) := by decide +kernel
theorem dX7_laysSlot_21 : decode cX7_laysSlot 21 = .ok (.iconst 1, 1) := by decide +kernel
theorem dX7_laysSlot_22 : decode cX7_laysSlot 22 = .ok (.iaload, 1) := by decide +kernel
theorem dX7_laysSlot_23 : decode cX7_laysSlot 23 = .ok (.ishl, 1) := by decide +kernel
theorem dX7_laysSlot_24 : decode cX7_laysSlot 24 = .ok (.if_icmp .ge 203, 3) := by decide +kernel
theorem dX7_laysSlot_27 : decode cX7_laysSlot 27 = .ok (.aload_n 0, 1) := by decide +kernel
theorem dX7_laysSlot_28 : decode cX7_laysSlot 28 = .ok (.iload_n 1, 1) := by decide +kernel
theorem dX7_laysSlot_29 : decode cX7_laysSlot 29 = .ok (.iload_n 2, 1) := by decide +kernel
theorem dX7_laysSlot_30 : decode cX7_laysSlot 30 = .ok (.iload 5, 2) := by decide +kernel
theorem dX7_laysSlot_32 : decode cX7_laysSlot 32 = .ok (.invokevirtual 234, 3) := by decide +kernel
theorem dX7_laysSlot_35 : decode cX7_laysSlot 35 = .ok (.istore 6, 2) := by decide +kernel
theorem dX7_laysSlot_37 : decode cX7_laysSlot 37 = .ok (.iload 6, 2) := by decide +kernel
theorem dX7_laysSlot_39 : decode cX7_laysSlot 39 = .ok (.ifCond .ge 6, 3) := by decide +kernel
theorem dX7_laysSlot_42 : decode cX7_laysSlot 42 = .ok (.goto 179, 3) := by decide +kernel
theorem dX7_laysSlot_45 : decode cX7_laysSlot 45 = .ok (.sipush 6561, 3) := by decide +kernel
theorem dX7_laysSlot_48 : decode cX7_laysSlot 48 = .ok (.iload_n 2, 1) := by decide +kernel
theorem dX7_laysSlot_49 : decode cX7_laysSlot 49 = .ok (.iconst 1, 1) := by decide +kernel
theorem dX7_laysSlot_50 : decode cX7_laysSlot 50 = .ok (.iadd, 1) := by decide +kernel
theorem dX7_laysSlot_51 : decode cX7_laysSlot 51 = .ok (.imul, 1) := by decide +kernel
theorem dX7_laysSlot_52 : decode cX7_laysSlot 52 = .ok (.aload_n 0, 1) := by decide +kernel
theorem dX7_laysSlot_53 : decode cX7_laysSlot 53 = .ok (.iload_n 1, 1) := by decide +kernel
theorem dX7_laysSlot_54 : decode cX7_laysSlot 54 = .ok (.iload 5, 2) := by decide +kernel
theorem dX7_laysSlot_56 : decode cX7_laysSlot 56 = .ok (.invokevirtual 237, 3) := by decide +kernel
theorem dX7_laysSlot_59 : decode cX7_laysSlot 59 = .ok (.iadd, 1) := by decide +kernel
theorem dX7_laysSlot_60 : decode cX7_laysSlot 60 = .ok (.istore 7, 2) := by decide +kernel
theorem dX7_laysSlot_62 : decode cX7_laysSlot 62 = .ok (.aload_n 0, 1) := by decide +kernel
theorem dX7_laysSlot_63 : decode cX7_laysSlot 63 = .ok (.getfield 35, 3) := by decide +kernel
theorem dX7_laysSlot_66 : decode cX7_laysSlot 66 = .ok (.iload 7, 2) := by decide +kernel
theorem dX7_laysSlot_68 : decode cX7_laysSlot 68 = .ok (.iaload, 1) := by decide +kernel
theorem dX7_laysSlot_69 : decode cX7_laysSlot 69 = .ok (.iload 6, 2) := by decide +kernel
theorem dX7_laysSlot_71 : decode cX7_laysSlot 71 = .ok (.aload_n 0, 1) := by decide +kernel
theorem dX7_laysSlot_72 : decode cX7_laysSlot 72 = .ok (.getfield 7, 3) := by decide +kernel
theorem dX7_laysSlot_75 : decode cX7_laysSlot 75 = .ok (.bipush 6, 2) := by decide +kernel
theorem dX7_laysSlot_77 : decode cX7_laysSlot 77 = .ok (.iload_n 2, 1) := by decide +kernel
theorem dX7_laysSlot_78 : decode cX7_laysSlot 78 = .ok (.iadd, 1) := by decide +kernel
theorem dX7_laysSlot_79 : decode cX7_laysSlot 79 = .ok (.iaload, 1) := by decide +kernel
theorem dX7_laysSlot_80 : decode cX7_laysSlot 80 = .ok (.imul, 1) := by decide +kernel
theorem dX7_laysSlot_81 : decode cX7_laysSlot 81 = .ok (.iadd, 1) := by decide +kernel
theorem dX7_laysSlot_82 : decode cX7_laysSlot 82 = .ok (.istore 8, 2) := by decide +kernel
theorem dX7_laysSlot_84 : decode cX7_laysSlot 84 = .ok (.aload_n 0, 1) := by decide +kernel
theorem dX7_laysSlot_85 : decode cX7_laysSlot 85 = .ok (.getfield 38, 3) := by decide +kernel
theorem dX7_laysSlot_88 : decode cX7_laysSlot 88 = .ok (.iload 7, 2) := by decide +kernel
theorem dX7_laysSlot_90 : decode cX7_laysSlot 90 = .ok (.iaload, 1) := by decide +kernel
theorem dX7_laysSlot_91 : decode cX7_laysSlot 91 = .ok (.iload 5, 2) := by decide +kernel
theorem dX7_laysSlot_93 : decode cX7_laysSlot 93 = .ok (.invokestatic 175, 3) := by decide +kernel
theorem dX7_laysSlot_96 : decode cX7_laysSlot 96 = .ok (.iadd, 1) := by decide +kernel
theorem dX7_laysSlot_97 : decode cX7_laysSlot 97 = .ok (.istore 9, 2) := by decide +kernel
theorem dX7_laysSlot_99 : decode cX7_laysSlot 99 = .ok (.aload_n 0, 1) := by decide +kernel
theorem dX7_laysSlot_100 : decode cX7_laysSlot 100 = .ok (.getfield 32, 3) := by decide +kernel
theorem dX7_laysSlot_103 : decode cX7_laysSlot 103 = .ok (.iload 7, 2) := by decide +kernel
theorem dX7_laysSlot_105 : decode cX7_laysSlot 105 = .ok (.iaload, 1) := by decide +kernel
theorem dX7_laysSlot_106 : decode cX7_laysSlot 106 = .ok (.aload_n 0, 1) := by decide +kernel
theorem dX7_laysSlot_107 : decode cX7_laysSlot 107 = .ok (.getfield 32, 3) := by decide +kernel
theorem dX7_laysSlot_110 : decode cX7_laysSlot 110 = .ok (.iload_n 3, 1) := by decide +kernel
theorem dX7_laysSlot_111 : decode cX7_laysSlot 111 = .ok (.iaload, 1) := by decide +kernel
theorem dX7_laysSlot_112 : decode cX7_laysSlot 112 = .ok (.if_icmp .lt 52, 3) := by decide +kernel
theorem dX7_laysSlot_115 : decode cX7_laysSlot 115 = .ok (.aload_n 0, 1) := by decide +kernel
theorem dX7_laysSlot_116 : decode cX7_laysSlot 116 = .ok (.getfield 32, 3) := by decide +kernel
theorem dX7_laysSlot_119 : decode cX7_laysSlot 119 = .ok (.iload 7, 2) := by decide +kernel
theorem dX7_laysSlot_121 : decode cX7_laysSlot 121 = .ok (.iaload, 1) := by decide +kernel
theorem dX7_laysSlot_122 : decode cX7_laysSlot 122 = .ok (.aload_n 0, 1) := by decide +kernel
theorem dX7_laysSlot_123 : decode cX7_laysSlot 123 = .ok (.getfield 32, 3) := by decide +kernel
theorem dX7_laysSlot_126 : decode cX7_laysSlot 126 = .ok (.iload_n 3, 1) := by decide +kernel
theorem dX7_laysSlot_127 : decode cX7_laysSlot 127 = .ok (.iaload, 1) := by decide +kernel
theorem dX7_laysSlot_128 : decode cX7_laysSlot 128 = .ok (.if_icmp .ne 40, 3) := by decide +kernel
theorem dX7_laysSlot_131 : decode cX7_laysSlot 131 = .ok (.iload 8, 2) := by decide +kernel
theorem dX7_laysSlot_133 : decode cX7_laysSlot 133 = .ok (.aload_n 0, 1) := by decide +kernel
theorem dX7_laysSlot_134 : decode cX7_laysSlot 134 = .ok (.getfield 35, 3) := by decide +kernel
theorem dX7_laysSlot_137 : decode cX7_laysSlot 137 = .ok (.iload_n 3, 1) := by decide +kernel
theorem dX7_laysSlot_138 : decode cX7_laysSlot 138 = .ok (.iaload, 1) := by decide +kernel
theorem dX7_laysSlot_139 : decode cX7_laysSlot 139 = .ok (.if_icmp .lt 25, 3) := by decide +kernel
theorem dX7_laysSlot_142 : decode cX7_laysSlot 142 = .ok (.iload 8, 2) := by decide +kernel
theorem dX7_laysSlot_144 : decode cX7_laysSlot 144 = .ok (.aload_n 0, 1) := by decide +kernel
theorem dX7_laysSlot_145 : decode cX7_laysSlot 145 = .ok (.getfield 35, 3) := by decide +kernel
theorem dX7_laysSlot_148 : decode cX7_laysSlot 148 = .ok (.iload_n 3, 1) := by decide +kernel
theorem dX7_laysSlot_149 : decode cX7_laysSlot 149 = .ok (.iaload, 1) := by decide +kernel
theorem dX7_laysSlot_150 : decode cX7_laysSlot 150 = .ok (.if_icmp .ne 18, 3) := by decide +kernel
theorem dX7_laysSlot_153 : decode cX7_laysSlot 153 = .ok (.iload 9, 2) := by decide +kernel
theorem dX7_laysSlot_155 : decode cX7_laysSlot 155 = .ok (.aload_n 0, 1) := by decide +kernel
theorem dX7_laysSlot_156 : decode cX7_laysSlot 156 = .ok (.getfield 38, 3) := by decide +kernel
theorem dX7_laysSlot_159 : decode cX7_laysSlot 159 = .ok (.iload_n 3, 1) := by decide +kernel
theorem dX7_laysSlot_160 : decode cX7_laysSlot 160 = .ok (.iaload, 1) := by decide +kernel
theorem dX7_laysSlot_161 : decode cX7_laysSlot 161 = .ok (.if_icmp .ge 7, 3) := by decide +kernel
theorem dX7_laysSlot_164 : decode cX7_laysSlot 164 = .ok (.iconst 1, 1) := by decide +kernel
theorem dX7_laysSlot_165 : decode cX7_laysSlot 165 = .ok (.goto 4, 3) := by decide +kernel
theorem dX7_laysSlot_168 : decode cX7_laysSlot 168 = .ok (.iconst 0, 1) := by decide +kernel
theorem dX7_laysSlot_169 : decode cX7_laysSlot 169 = .ok (.istore 10, 2) := by decide +kernel
theorem dX7_laysSlot_171 : decode cX7_laysSlot 171 = .ok (.iload 4, 2) := by decide +kernel
theorem dX7_laysSlot_173 : decode cX7_laysSlot 173 = .ok (.ifCond .ne 8, 3) := by decide +kernel
theorem dX7_laysSlot_176 : decode cX7_laysSlot 176 = .ok (.iload 10, 2) := by decide +kernel
theorem dX7_laysSlot_178 : decode cX7_laysSlot 178 = .ok (.ifCond .eq 43, 3) := by decide +kernel
theorem dX7_laysSlot_181 : decode cX7_laysSlot 181 = .ok (.iconst 0, 1) := by decide +kernel
theorem dX7_laysSlot_182 : decode cX7_laysSlot 182 = .ok (.istore 4, 2) := by decide +kernel
theorem dX7_laysSlot_184 : decode cX7_laysSlot 184 = .ok (.aload_n 0, 1) := by decide +kernel
theorem dX7_laysSlot_185 : decode cX7_laysSlot 185 = .ok (.getfield 32, 3) := by decide +kernel
theorem dX7_laysSlot_188 : decode cX7_laysSlot 188 = .ok (.iload_n 3, 1) := by decide +kernel
theorem dX7_laysSlot_189 : decode cX7_laysSlot 189 = .ok (.aload_n 0, 1) := by decide +kernel
theorem dX7_laysSlot_190 : decode cX7_laysSlot 190 = .ok (.getfield 32, 3) := by decide +kernel
theorem dX7_laysSlot_193 : decode cX7_laysSlot 193 = .ok (.iload 7, 2) := by decide +kernel
theorem dX7_laysSlot_195 : decode cX7_laysSlot 195 = .ok (.iaload, 1) := by decide +kernel
theorem dX7_laysSlot_196 : decode cX7_laysSlot 196 = .ok (.iastore, 1) := by decide +kernel
theorem dX7_laysSlot_197 : decode cX7_laysSlot 197 = .ok (.aload_n 0, 1) := by decide +kernel
theorem dX7_laysSlot_198 : decode cX7_laysSlot 198 = .ok (.getfield 35, 3) := by decide +kernel
theorem dX7_laysSlot_201 : decode cX7_laysSlot 201 = .ok (.iload_n 3, 1) := by decide +kernel
theorem dX7_laysSlot_202 : decode cX7_laysSlot 202 = .ok (.iload 8, 2) := by decide +kernel
theorem dX7_laysSlot_204 : decode cX7_laysSlot 204 = .ok (.iastore, 1) := by decide +kernel
theorem dX7_laysSlot_205 : decode cX7_laysSlot 205 = .ok (.aload_n 0, 1) := by decide +kernel
theorem dX7_laysSlot_206 : decode cX7_laysSlot 206 = .ok (.getfield 38, 3) := by decide +kernel
theorem dX7_laysSlot_209 : decode cX7_laysSlot 209 = .ok (.iload_n 3, 1) := by decide +kernel
theorem dX7_laysSlot_210 : decode cX7_laysSlot 210 = .ok (.iload 9, 2) := by decide +kernel
theorem dX7_laysSlot_212 : decode cX7_laysSlot 212 = .ok (.iastore, 1) := by decide +kernel
theorem dX7_laysSlot_213 : decode cX7_laysSlot 213 = .ok (.aload_n 0, 1) := by decide +kernel
theorem dX7_laysSlot_214 : decode cX7_laysSlot 214 = .ok (.getfield 41, 3) := by decide +kernel
theorem dX7_laysSlot_217 : decode cX7_laysSlot 217 = .ok (.iload_n 3, 1) := by decide +kernel
theorem dX7_laysSlot_218 : decode cX7_laysSlot 218 = .ok (.iload 5, 2) := by decide +kernel
theorem dX7_laysSlot_220 : decode cX7_laysSlot 220 = .ok (.iastore, 1) := by decide +kernel
theorem dX7_laysSlot_221 : decode cX7_laysSlot 221 = .ok (.iinc 5 1, 3) := by decide +kernel
theorem dX7_laysSlot_224 : decode cX7_laysSlot 224 = .ok (.goto (-210), 3) := by decide +kernel
theorem dX7_laysSlot_227 : decode cX7_laysSlot 227 = .ok (.return_, 1) := by decide +kernel
def l7_laysSlot_221 (rec14 : Int32 → Int32 → Int32 → Int32 → Int32 → mm_M → Option (mm_M)) (x1 : Int32) (x2 : Int32) (x3 : Int32) (x4 : Int32) (x5 : Int32) (M : mm_M) : Option (mm_M) :=
  rec14 x1 x2 x3 x4 (x5 + 1) M
set_option maxHeartbeats 2000000 in
theorem sl7_laysSlot_221 (rec14 : Int32 → Int32 → Int32 → Int32 → Int32 → mm_M → Option (mm_M)) (hrec14 : ∀ (x1 : Int32) (x2 : Int32) (x3 : Int32) (x4 : Int32) (x5 : Int32) (M : mm_M), Snd injV j7_laysSlot mm_X0 14 [some (.ref 46), some (.int x1), some (.int x2), some (.int x3), some (.int x4), some (.int x5), none, none, none, none, none] [] M (rec14 x1 x2 x3 x4 x5 M)) (x1 : Int32) (x2 : Int32) (x3 : Int32) (x4 : Int32) (x5 : Int32)  (M : mm_M) : Snd injV j7_laysSlot mm_X0 221 [some (.ref 46), some (.int x1), some (.int x2), some (.int x3), some (.int x4), some (.int x5), none, none, none, none, none] [] M (l7_laysSlot_221 rec14 x1 x2 x3 x4 x5 M) := by
  unfold l7_laysSlot_221
  refine sn_iinc (j := j7_laysSlot) (pc := 221) 1 rfl (by decide) rfl (lo' := [some (.ref 46), some (.int x1), some (.int x2), some (.int x3), some (.int x4), some (.int (x5 + 1)), none, none, none, none, none]) rfl dX7_laysSlot_221 ?_
  refine sn_goto (j := j7_laysSlot) (pc := 224) 14 rfl dX7_laysSlot_224 ?_
  exact Snd.wk (hrec14 x1 x2 x3 x4 (x5 + 1) M ) (by simp [mm_le])
def l7_laysSlot_181 (rec14 : Int32 → Int32 → Int32 → Int32 → Int32 → mm_M → Option (mm_M)) (x1 : Int32) (x2 : Int32) (x3 : Int32) (x5 : Int32) (x7 : Int32) (x8 : Int32) (x9 : Int32) (M : mm_M) : Option (mm_M) :=
  aI 54 59049 x7 M (fun w_1 => uI 54 59049 x3 w_1 M (fun M => uI 55 59049 x3 x8 M (fun M => uI 56 59049 x3 x9 M (fun M => uI 57 59049 x3 x5 M (fun M => l7_laysSlot_221 rec14 x1 x2 x3 0 x5 M)))))
set_option maxHeartbeats 2000000 in
theorem sl7_laysSlot_181 (rec14 : Int32 → Int32 → Int32 → Int32 → Int32 → mm_M → Option (mm_M)) (hrec14 : ∀ (x1 : Int32) (x2 : Int32) (x3 : Int32) (x4 : Int32) (x5 : Int32) (M : mm_M), Snd injV j7_laysSlot mm_X0 14 [some (.ref 46), some (.int x1), some (.int x2), some (.int x3), some (.int x4), some (.int x5), none, none, none, none, none] [] M (rec14 x1 x2 x3 x4 x5 M)) (x1 : Int32) (x2 : Int32) (x3 : Int32) (x5 : Int32) (x7 : Int32) (x8 : Int32) (x9 : Int32)  (M : mm_M) : Snd injV j7_laysSlot mm_X0 181 [some (.ref 46), some (.int x1), some (.int x2), some (.int x3), none, some (.int x5), none, some (.int x7), some (.int x8), some (.int x9), none] [] M (l7_laysSlot_181 rec14 x1 x2 x3 x5 x7 x8 x9 M) := by
  unfold l7_laysSlot_181
  refine sn_iconst (j := j7_laysSlot) (pc := 181) 0 rfl dX7_laysSlot_181 ?_
  refine sn_istore (j := j7_laysSlot) (pc := 182) (by decide) (lo' := [some (.ref 46), some (.int x1), some (.int x2), some (.int x3), some (.int 0), some (.int x5), none, some (.int x7), some (.int x8), some (.int x9), none]) rfl dX7_laysSlot_182 ?_
  refine sn_aload_n (j := j7_laysSlot) (pc := 184) rfl rfl dX7_laysSlot_184 ?_
  refine g_X7_32 (j := j7_laysSlot) (pc := 185) rfl dX7_laysSlot_185 ?_
  refine sn_iload_n (j := j7_laysSlot) (pc := 188) rfl rfl dX7_laysSlot_188 ?_
  refine sn_aload_n (j := j7_laysSlot) (pc := 189) rfl rfl dX7_laysSlot_189 ?_
  refine g_X7_32 (j := j7_laysSlot) (pc := 190) rfl dX7_laysSlot_190 ?_
  refine sn_iload (j := j7_laysSlot) (pc := 193) rfl dX7_laysSlot_193 ?_
  refine sn_iald (j := j7_laysSlot) (pc := 195) rfl ⟨by decide, by decide⟩ dX7_laysSlot_195 (fun w_1 => ?_)
  refine sn_iast (j := j7_laysSlot) (pc := 196) rfl ⟨by decide, by decide⟩ dX7_laysSlot_196 (fun M => ?_)
  refine sn_aload_n (j := j7_laysSlot) (pc := 197) rfl rfl dX7_laysSlot_197 ?_
  refine g_X7_35 (j := j7_laysSlot) (pc := 198) rfl dX7_laysSlot_198 ?_
  refine sn_iload_n (j := j7_laysSlot) (pc := 201) rfl rfl dX7_laysSlot_201 ?_
  refine sn_iload (j := j7_laysSlot) (pc := 202) rfl dX7_laysSlot_202 ?_
  refine sn_iast (j := j7_laysSlot) (pc := 204) rfl ⟨by decide, by decide⟩ dX7_laysSlot_204 (fun M => ?_)
  refine sn_aload_n (j := j7_laysSlot) (pc := 205) rfl rfl dX7_laysSlot_205 ?_
  refine g_X7_38 (j := j7_laysSlot) (pc := 206) rfl dX7_laysSlot_206 ?_
  refine sn_iload_n (j := j7_laysSlot) (pc := 209) rfl rfl dX7_laysSlot_209 ?_
  refine sn_iload (j := j7_laysSlot) (pc := 210) rfl dX7_laysSlot_210 ?_
  refine sn_iast (j := j7_laysSlot) (pc := 212) rfl ⟨by decide, by decide⟩ dX7_laysSlot_212 (fun M => ?_)
  refine sn_aload_n (j := j7_laysSlot) (pc := 213) rfl rfl dX7_laysSlot_213 ?_
  refine g_X7_41 (j := j7_laysSlot) (pc := 214) rfl dX7_laysSlot_214 ?_
  refine sn_iload_n (j := j7_laysSlot) (pc := 217) rfl rfl dX7_laysSlot_217 ?_
  refine sn_iload (j := j7_laysSlot) (pc := 218) rfl dX7_laysSlot_218 ?_
  refine sn_iast (j := j7_laysSlot) (pc := 220) rfl ⟨by decide, by decide⟩ dX7_laysSlot_220 (fun M => ?_)
  exact Snd.wk (sl7_laysSlot_221 rec14 hrec14 x1 x2 x3 0 x5 M) (by simp [mm_le])
def l7_laysSlot_169 (rec14 : Int32 → Int32 → Int32 → Int32 → Int32 → mm_M → Option (mm_M)) (x1 : Int32) (x2 : Int32) (x3 : Int32) (x4 : Int32) (x5 : Int32) (x7 : Int32) (x8 : Int32) (x9 : Int32) (s0 : Int32) (M : mm_M) : Option (mm_M) :=
  if x4 = 0 then (if s0 = 0 then (l7_laysSlot_221 rec14 x1 x2 x3 x4 x5 M) else (l7_laysSlot_181 rec14 x1 x2 x3 x5 x7 x8 x9 M)) else (l7_laysSlot_181 rec14 x1 x2 x3 x5 x7 x8 x9 M)
set_option maxHeartbeats 2000000 in
theorem sl7_laysSlot_169 (rec14 : Int32 → Int32 → Int32 → Int32 → Int32 → mm_M → Option (mm_M)) (hrec14 : ∀ (x1 : Int32) (x2 : Int32) (x3 : Int32) (x4 : Int32) (x5 : Int32) (M : mm_M), Snd injV j7_laysSlot mm_X0 14 [some (.ref 46), some (.int x1), some (.int x2), some (.int x3), some (.int x4), some (.int x5), none, none, none, none, none] [] M (rec14 x1 x2 x3 x4 x5 M)) (x1 : Int32) (x2 : Int32) (x3 : Int32) (x4 : Int32) (x5 : Int32) (x7 : Int32) (x8 : Int32) (x9 : Int32) (s0 : Int32)  (M : mm_M) : Snd injV j7_laysSlot mm_X0 169 [some (.ref 46), some (.int x1), some (.int x2), some (.int x3), some (.int x4), some (.int x5), none, some (.int x7), some (.int x8), some (.int x9), none] [.int s0] M (l7_laysSlot_169 rec14 x1 x2 x3 x4 x5 x7 x8 x9 s0 M) := by
  unfold l7_laysSlot_169
  refine sn_istore (j := j7_laysSlot) (pc := 169) (by decide) (lo' := [some (.ref 46), some (.int x1), some (.int x2), some (.int x3), some (.int x4), some (.int x5), none, some (.int x7), some (.int x8), some (.int x9), some (.int s0)]) rfl dX7_laysSlot_169 ?_
  refine sn_iload (j := j7_laysSlot) (pc := 171) rfl dX7_laysSlot_171 ?_
  refine sn_if_ne (j := j7_laysSlot) (pc := 173) 181 rfl dX7_laysSlot_173 ?_ ?_
  · exact Snd.wk (sl7_laysSlot_181 rec14 hrec14 x1 x2 x3 x5 x7 x8 x9 M) (by simp [mm_le])
  · refine sn_iload (j := j7_laysSlot) (pc := 176) rfl dX7_laysSlot_176 ?_
    refine sn_if_eq (j := j7_laysSlot) (pc := 178) 221 rfl dX7_laysSlot_178 ?_ ?_
    · exact Snd.wk (sl7_laysSlot_221 rec14 hrec14 x1 x2 x3 x4 x5 M) (by simp [mm_le])
    · exact Snd.wk (sl7_laysSlot_181 rec14 hrec14 x1 x2 x3 x5 x7 x8 x9 M) (by simp [mm_le])
def l7_laysSlot_168 (rec14 : Int32 → Int32 → Int32 → Int32 → Int32 → mm_M → Option (mm_M)) (x1 : Int32) (x2 : Int32) (x3 : Int32) (x4 : Int32) (x5 : Int32) (x7 : Int32) (x8 : Int32) (x9 : Int32) (M : mm_M) : Option (mm_M) :=
  l7_laysSlot_169 rec14 x1 x2 x3 x4 x5 x7 x8 x9 0 M
set_option maxHeartbeats 2000000 in
theorem sl7_laysSlot_168 (rec14 : Int32 → Int32 → Int32 → Int32 → Int32 → mm_M → Option (mm_M)) (hrec14 : ∀ (x1 : Int32) (x2 : Int32) (x3 : Int32) (x4 : Int32) (x5 : Int32) (M : mm_M), Snd injV j7_laysSlot mm_X0 14 [some (.ref 46), some (.int x1), some (.int x2), some (.int x3), some (.int x4), some (.int x5), none, none, none, none, none] [] M (rec14 x1 x2 x3 x4 x5 M)) (x1 : Int32) (x2 : Int32) (x3 : Int32) (x4 : Int32) (x5 : Int32) (x7 : Int32) (x8 : Int32) (x9 : Int32)  (M : mm_M) : Snd injV j7_laysSlot mm_X0 168 [some (.ref 46), some (.int x1), some (.int x2), some (.int x3), some (.int x4), some (.int x5), none, some (.int x7), some (.int x8), some (.int x9), none] [] M (l7_laysSlot_168 rec14 x1 x2 x3 x4 x5 x7 x8 x9 M) := by
  unfold l7_laysSlot_168
  refine sn_iconst (j := j7_laysSlot) (pc := 168) 0 rfl dX7_laysSlot_168 ?_
  exact Snd.wk (sl7_laysSlot_169 rec14 hrec14 x1 x2 x3 x4 x5 x7 x8 x9 0 M) (by simp [mm_le])
def l7_laysSlot_164 (rec14 : Int32 → Int32 → Int32 → Int32 → Int32 → mm_M → Option (mm_M)) (x1 : Int32) (x2 : Int32) (x3 : Int32) (x4 : Int32) (x5 : Int32) (x7 : Int32) (x8 : Int32) (x9 : Int32) (M : mm_M) : Option (mm_M) :=
  l7_laysSlot_169 rec14 x1 x2 x3 x4 x5 x7 x8 x9 1 M
set_option maxHeartbeats 2000000 in
theorem sl7_laysSlot_164 (rec14 : Int32 → Int32 → Int32 → Int32 → Int32 → mm_M → Option (mm_M)) (hrec14 : ∀ (x1 : Int32) (x2 : Int32) (x3 : Int32) (x4 : Int32) (x5 : Int32) (M : mm_M), Snd injV j7_laysSlot mm_X0 14 [some (.ref 46), some (.int x1), some (.int x2), some (.int x3), some (.int x4), some (.int x5), none, none, none, none, none] [] M (rec14 x1 x2 x3 x4 x5 M)) (x1 : Int32) (x2 : Int32) (x3 : Int32) (x4 : Int32) (x5 : Int32) (x7 : Int32) (x8 : Int32) (x9 : Int32)  (M : mm_M) : Snd injV j7_laysSlot mm_X0 164 [some (.ref 46), some (.int x1), some (.int x2), some (.int x3), some (.int x4), some (.int x5), none, some (.int x7), some (.int x8), some (.int x9), none] [] M (l7_laysSlot_164 rec14 x1 x2 x3 x4 x5 x7 x8 x9 M) := by
  unfold l7_laysSlot_164
  refine sn_iconst (j := j7_laysSlot) (pc := 164) 1 rfl dX7_laysSlot_164 ?_
  refine sn_goto (j := j7_laysSlot) (pc := 165) 169 rfl dX7_laysSlot_165 ?_
  exact Snd.wk (sl7_laysSlot_169 rec14 hrec14 x1 x2 x3 x4 x5 x7 x8 x9 1 M) (by simp [mm_le])
def b7_laysSlot_14  (rec14 : Int32 → Int32 → Int32 → Int32 → Int32 → mm_M → Option (mm_M)) (x1 : Int32) (x2 : Int32) (x3 : Int32) (x4 : Int32) (x5 : Int32) (M : mm_M) : Option (mm_M) :=
  aI 47 82 1 M (fun w_2 => if (1 <<< (w_2 &&& 31)) ≤ x5 then (some M) else (cI (f7_taken x1 x2 x5 M) (fun r_3 M => if 0 ≤ r_3 then (cI (f7_behind x1 x5 M) (fun r_4 M => bI ((6561 * (x2 + 1)) + r_4) (fun x7_5 => aI 55 59049 x7_5 M (fun w_6 => aI 47 82 (6 + x2) M (fun w_7 => bI (w_6 + (r_3 * w_7)) (fun x8_8 => aI 56 59049 x7_5 M (fun w_9 => cI (f7_bits x5 M) (fun r_10 M => bI (w_9 + r_10) (fun x9_11 => aI 54 59049 x7_5 M (fun w_12 => aI 54 59049 x3 M (fun w_13 => if w_12 < w_13 then (l7_laysSlot_164 rec14 x1 x2 x3 x4 x5 x7_5 x8_8 x9_11 M) else (aI 54 59049 x7_5 M (fun w_14 => aI 54 59049 x3 M (fun w_15 => if w_14 = w_15 then (aI 55 59049 x3 M (fun w_16 => if x8_8 < w_16 then (l7_laysSlot_164 rec14 x1 x2 x3 x4 x5 x7_5 x8_8 x9_11 M) else (aI 55 59049 x3 M (fun w_17 => if x8_8 = w_17 then (aI 56 59049 x3 M (fun w_18 => if w_18 ≤ x9_11 then (l7_laysSlot_168 rec14 x1 x2 x3 x4 x5 x7_5 x8_8 x9_11 M) else (l7_laysSlot_164 rec14 x1 x2 x3 x4 x5 x7_5 x8_8 x9_11 M))) else (l7_laysSlot_168 rec14 x1 x2 x3 x4 x5 x7_5 x8_8 x9_11 M))))) else (l7_laysSlot_168 rec14 x1 x2 x3 x4 x5 x7_5 x8_8 x9_11 M))))))))))))))) else (l7_laysSlot_221 rec14 x1 x2 x3 x4 x5 M))))
set_option maxHeartbeats 2000000 in
theorem sb7_laysSlot_14   (rec14 : Int32 → Int32 → Int32 → Int32 → Int32 → mm_M → Option (mm_M)) (hrec14 : ∀ (x1 : Int32) (x2 : Int32) (x3 : Int32) (x4 : Int32) (x5 : Int32) (M : mm_M), Snd injV j7_laysSlot mm_X0 14 [some (.ref 46), some (.int x1), some (.int x2), some (.int x3), some (.int x4), some (.int x5), none, none, none, none, none] [] M (rec14 x1 x2 x3 x4 x5 M)) (x1 : Int32) (x2 : Int32) (x3 : Int32) (x4 : Int32) (x5 : Int32)  (M : mm_M) : Snd injV j7_laysSlot mm_X0 14 [some (.ref 46), some (.int x1), some (.int x2), some (.int x3), some (.int x4), some (.int x5), none, none, none, none, none] [] M (b7_laysSlot_14  rec14 x1 x2 x3 x4 x5 M) := by
  unfold b7_laysSlot_14
  refine sn_iload (j := j7_laysSlot) (pc := 14) rfl dX7_laysSlot_14 ?_
  refine sn_iconst (j := j7_laysSlot) (pc := 16) 1 rfl dX7_laysSlot_16 ?_
  refine sn_aload_n (j := j7_laysSlot) (pc := 17) rfl rfl dX7_laysSlot_17 ?_
  refine g_X7_7 (j := j7_laysSlot) (pc := 18) rfl dX7_laysSlot_18 ?_
  refine sn_iconst (j := j7_laysSlot) (pc := 21) 1 rfl dX7_laysSlot_21 ?_
  refine sn_iald (j := j7_laysSlot) (pc := 22) rfl ⟨by decide, by decide⟩ dX7_laysSlot_22 (fun w_2 => ?_)
  refine sn_ishl (j := j7_laysSlot) (pc := 23) dX7_laysSlot_23 ?_
  refine sn_icmp_ge (j := j7_laysSlot) (pc := 24) 227 rfl dX7_laysSlot_24 ?_ ?_
  · exact sn_vret (j := j7_laysSlot) (pc := 227) rfl dX7_laysSlot_227
  · refine sn_aload_n (j := j7_laysSlot) (pc := 27) rfl rfl dX7_laysSlot_27 ?_
    refine sn_iload_n (j := j7_laysSlot) (pc := 28) rfl rfl dX7_laysSlot_28 ?_
    refine sn_iload_n (j := j7_laysSlot) (pc := 29) rfl rfl dX7_laysSlot_29 ?_
    refine sn_iload (j := j7_laysSlot) (pc := 30) rfl dX7_laysSlot_30 ?_
    refine sn_callV (j := j7_laysSlot) (pc := 32) (jc := j7_taken) (As := [.int x1, .int x2, .int x5]) (s7_taken x1 x2 x5 M) mm_hvI (by simp [Value.category]) (Nat.le_of_ble_eq_true rfl) q7_taken rfl (by decide) rfl rfl ⟨by decide, by decide⟩ w_ml_X7_234 w_im_X7_taken w_se_X7_taken rfl (Nat.le_of_ble_eq_true rfl) dX7_laysSlot_32 ?_
    rintro ⟨r_3, M⟩
    show Snd injV j7_laysSlot mm_X0 35 [some (.ref 46), some (.int x1), some (.int x2), some (.int x3), some (.int x4), some (.int x5), none, none, none, none, none] [.int r_3] M _
    refine sn_istore (j := j7_laysSlot) (pc := 35) (by decide) (lo' := [some (.ref 46), some (.int x1), some (.int x2), some (.int x3), some (.int x4), some (.int x5), some (.int r_3), none, none, none, none]) rfl dX7_laysSlot_35 ?_
    refine sn_iload (j := j7_laysSlot) (pc := 37) rfl dX7_laysSlot_37 ?_
    refine sn_if_ge (j := j7_laysSlot) (pc := 39) 45 rfl dX7_laysSlot_39 ?_ ?_
    · refine sn_sipush (j := j7_laysSlot) (pc := 45) 6561 rfl dX7_laysSlot_45 ?_
      refine sn_iload_n (j := j7_laysSlot) (pc := 48) rfl rfl dX7_laysSlot_48 ?_
      refine sn_iconst (j := j7_laysSlot) (pc := 49) 1 rfl dX7_laysSlot_49 ?_
      refine sn_iadd (j := j7_laysSlot) (pc := 50) dX7_laysSlot_50 ?_
      refine sn_imul (j := j7_laysSlot) (pc := 51) dX7_laysSlot_51 ?_
      refine sn_aload_n (j := j7_laysSlot) (pc := 52) rfl rfl dX7_laysSlot_52 ?_
      refine sn_iload_n (j := j7_laysSlot) (pc := 53) rfl rfl dX7_laysSlot_53 ?_
      refine sn_iload (j := j7_laysSlot) (pc := 54) rfl dX7_laysSlot_54 ?_
      refine sn_callV (j := j7_laysSlot) (pc := 56) (jc := j7_behind) (As := [.int x1, .int x5]) (s7_behind x1 x5 M) mm_hvI (by simp [Value.category]) (Nat.le_of_ble_eq_true rfl) q7_behind rfl (by decide) rfl rfl ⟨by decide, by decide⟩ w_ml_X7_237 w_im_X7_behind w_se_X7_behind rfl (Nat.le_of_ble_eq_true rfl) dX7_laysSlot_56 ?_
      rintro ⟨r_4, M⟩
      show Snd injV j7_laysSlot mm_X0 59 [some (.ref 46), some (.int x1), some (.int x2), some (.int x3), some (.int x4), some (.int x5), some (.int r_3), none, none, none, none] [.int r_4, .int (6561 * (x2 + 1))] M _
      refine sn_iadd (j := j7_laysSlot) (pc := 59) dX7_laysSlot_59 ?_
      refine sn_istoreB (j := j7_laysSlot) (pc := 60) (fun x7_5 => [some (.ref 46), some (.int x1), some (.int x2), some (.int x3), some (.int x4), some (.int x5), some (.int r_3), some (.int x7_5), none, none, none]) (by decide) (fun _ => rfl) dX7_laysSlot_60 (fun x7_5 => ?_)
      refine sn_aload_n (j := j7_laysSlot) (pc := 62) rfl rfl dX7_laysSlot_62 ?_
      refine g_X7_35 (j := j7_laysSlot) (pc := 63) rfl dX7_laysSlot_63 ?_
      refine sn_iload (j := j7_laysSlot) (pc := 66) rfl dX7_laysSlot_66 ?_
      refine sn_iald (j := j7_laysSlot) (pc := 68) rfl ⟨by decide, by decide⟩ dX7_laysSlot_68 (fun w_6 => ?_)
      refine sn_iload (j := j7_laysSlot) (pc := 69) rfl dX7_laysSlot_69 ?_
      refine sn_aload_n (j := j7_laysSlot) (pc := 71) rfl rfl dX7_laysSlot_71 ?_
      refine g_X7_7 (j := j7_laysSlot) (pc := 72) rfl dX7_laysSlot_72 ?_
      refine sn_bipush (j := j7_laysSlot) (pc := 75) 6 rfl dX7_laysSlot_75 ?_
      refine sn_iload_n (j := j7_laysSlot) (pc := 77) rfl rfl dX7_laysSlot_77 ?_
      refine sn_iadd (j := j7_laysSlot) (pc := 78) dX7_laysSlot_78 ?_
      refine sn_iald (j := j7_laysSlot) (pc := 79) rfl ⟨by decide, by decide⟩ dX7_laysSlot_79 (fun w_7 => ?_)
      refine sn_imul (j := j7_laysSlot) (pc := 80) dX7_laysSlot_80 ?_
      refine sn_iadd (j := j7_laysSlot) (pc := 81) dX7_laysSlot_81 ?_
      refine sn_istoreB (j := j7_laysSlot) (pc := 82) (fun x8_8 => [some (.ref 46), some (.int x1), some (.int x2), some (.int x3), some (.int x4), some (.int x5), some (.int r_3), some (.int x7_5), some (.int x8_8), none, none]) (by decide) (fun _ => rfl) dX7_laysSlot_82 (fun x8_8 => ?_)
      refine sn_aload_n (j := j7_laysSlot) (pc := 84) rfl rfl dX7_laysSlot_84 ?_
      refine g_X7_38 (j := j7_laysSlot) (pc := 85) rfl dX7_laysSlot_85 ?_
      refine sn_iload (j := j7_laysSlot) (pc := 88) rfl dX7_laysSlot_88 ?_
      refine sn_iald (j := j7_laysSlot) (pc := 90) rfl ⟨by decide, by decide⟩ dX7_laysSlot_90 (fun w_9 => ?_)
      refine sn_iload (j := j7_laysSlot) (pc := 91) rfl dX7_laysSlot_91 ?_
      refine sn_callS (j := j7_laysSlot) (pc := 93) (jc := j7_bits) (As := [.int x5]) (s7_bits x5 M) mm_hvI (by simp [Value.category]) (Nat.le_of_ble_eq_true rfl) q7_bits rfl (by decide) w_ml_X7_175 w_st_X7_bits rfl (Nat.le_of_ble_eq_true rfl) dX7_laysSlot_93 ?_
      rintro ⟨r_10, M⟩
      show Snd injV j7_laysSlot mm_X0 96 [some (.ref 46), some (.int x1), some (.int x2), some (.int x3), some (.int x4), some (.int x5), some (.int r_3), some (.int x7_5), some (.int x8_8), none, none] [.int r_10, .int w_9] M _
      refine sn_iadd (j := j7_laysSlot) (pc := 96) dX7_laysSlot_96 ?_
      refine sn_istoreB (j := j7_laysSlot) (pc := 97) (fun x9_11 => [some (.ref 46), some (.int x1), some (.int x2), some (.int x3), some (.int x4), some (.int x5), some (.int r_3), some (.int x7_5), some (.int x8_8), some (.int x9_11), none]) (by decide) (fun _ => rfl) dX7_laysSlot_97 (fun x9_11 => ?_)
      refine sn_aload_n (j := j7_laysSlot) (pc := 99) rfl rfl dX7_laysSlot_99 ?_
      refine g_X7_32 (j := j7_laysSlot) (pc := 100) rfl dX7_laysSlot_100 ?_
      refine sn_iload (j := j7_laysSlot) (pc := 103) rfl dX7_laysSlot_103 ?_
      refine sn_iald (j := j7_laysSlot) (pc := 105) rfl ⟨by decide, by decide⟩ dX7_laysSlot_105 (fun w_12 => ?_)
      refine sn_aload_n (j := j7_laysSlot) (pc := 106) rfl rfl dX7_laysSlot_106 ?_
      refine g_X7_32 (j := j7_laysSlot) (pc := 107) rfl dX7_laysSlot_107 ?_
      refine sn_iload_n (j := j7_laysSlot) (pc := 110) rfl rfl dX7_laysSlot_110 ?_
      refine sn_iald (j := j7_laysSlot) (pc := 111) rfl ⟨by decide, by decide⟩ dX7_laysSlot_111 (fun w_13 => ?_)
      refine sn_icmp_lt (j := j7_laysSlot) (pc := 112) 164 rfl dX7_laysSlot_112 ?_ ?_
      · exact Snd.wk (sl7_laysSlot_164 rec14 hrec14 x1 x2 x3 x4 x5 x7_5 x8_8 x9_11 M) (by simp [mm_le])
      · refine sn_aload_n (j := j7_laysSlot) (pc := 115) rfl rfl dX7_laysSlot_115 ?_
        refine g_X7_32 (j := j7_laysSlot) (pc := 116) rfl dX7_laysSlot_116 ?_
        refine sn_iload (j := j7_laysSlot) (pc := 119) rfl dX7_laysSlot_119 ?_
        refine sn_iald (j := j7_laysSlot) (pc := 121) rfl ⟨by decide, by decide⟩ dX7_laysSlot_121 (fun w_14 => ?_)
        refine sn_aload_n (j := j7_laysSlot) (pc := 122) rfl rfl dX7_laysSlot_122 ?_
        refine g_X7_32 (j := j7_laysSlot) (pc := 123) rfl dX7_laysSlot_123 ?_
        refine sn_iload_n (j := j7_laysSlot) (pc := 126) rfl rfl dX7_laysSlot_126 ?_
        refine sn_iald (j := j7_laysSlot) (pc := 127) rfl ⟨by decide, by decide⟩ dX7_laysSlot_127 (fun w_15 => ?_)
        refine sn_icmp_ne (j := j7_laysSlot) (pc := 128) 168 rfl dX7_laysSlot_128 ?_ ?_
        · exact Snd.wk (sl7_laysSlot_168 rec14 hrec14 x1 x2 x3 x4 x5 x7_5 x8_8 x9_11 M) (by simp [mm_le])
        · refine sn_iload (j := j7_laysSlot) (pc := 131) rfl dX7_laysSlot_131 ?_
          refine sn_aload_n (j := j7_laysSlot) (pc := 133) rfl rfl dX7_laysSlot_133 ?_
          refine g_X7_35 (j := j7_laysSlot) (pc := 134) rfl dX7_laysSlot_134 ?_
          refine sn_iload_n (j := j7_laysSlot) (pc := 137) rfl rfl dX7_laysSlot_137 ?_
          refine sn_iald (j := j7_laysSlot) (pc := 138) rfl ⟨by decide, by decide⟩ dX7_laysSlot_138 (fun w_16 => ?_)
          refine sn_icmp_lt (j := j7_laysSlot) (pc := 139) 164 rfl dX7_laysSlot_139 ?_ ?_
          · exact Snd.wk (sl7_laysSlot_164 rec14 hrec14 x1 x2 x3 x4 x5 x7_5 x8_8 x9_11 M) (by simp [mm_le])
          · refine sn_iload (j := j7_laysSlot) (pc := 142) rfl dX7_laysSlot_142 ?_
            refine sn_aload_n (j := j7_laysSlot) (pc := 144) rfl rfl dX7_laysSlot_144 ?_
            refine g_X7_35 (j := j7_laysSlot) (pc := 145) rfl dX7_laysSlot_145 ?_
            refine sn_iload_n (j := j7_laysSlot) (pc := 148) rfl rfl dX7_laysSlot_148 ?_
            refine sn_iald (j := j7_laysSlot) (pc := 149) rfl ⟨by decide, by decide⟩ dX7_laysSlot_149 (fun w_17 => ?_)
            refine sn_icmp_ne (j := j7_laysSlot) (pc := 150) 168 rfl dX7_laysSlot_150 ?_ ?_
            · exact Snd.wk (sl7_laysSlot_168 rec14 hrec14 x1 x2 x3 x4 x5 x7_5 x8_8 x9_11 M) (by simp [mm_le])
            · refine sn_iload (j := j7_laysSlot) (pc := 153) rfl dX7_laysSlot_153 ?_
              refine sn_aload_n (j := j7_laysSlot) (pc := 155) rfl rfl dX7_laysSlot_155 ?_
              refine g_X7_38 (j := j7_laysSlot) (pc := 156) rfl dX7_laysSlot_156 ?_
              refine sn_iload_n (j := j7_laysSlot) (pc := 159) rfl rfl dX7_laysSlot_159 ?_
              refine sn_iald (j := j7_laysSlot) (pc := 160) rfl ⟨by decide, by decide⟩ dX7_laysSlot_160 (fun w_18 => ?_)
              refine sn_icmp_ge (j := j7_laysSlot) (pc := 161) 168 rfl dX7_laysSlot_161 ?_ ?_
              · exact Snd.wk (sl7_laysSlot_168 rec14 hrec14 x1 x2 x3 x4 x5 x7_5 x8_8 x9_11 M) (by simp [mm_le])
              · exact Snd.wk (sl7_laysSlot_164 rec14 hrec14 x1 x2 x3 x4 x5 x7_5 x8_8 x9_11 M) (by simp [mm_le])
    · refine sn_goto (j := j7_laysSlot) (pc := 42) 221 rfl dX7_laysSlot_42 ?_
      exact Snd.wk (sl7_laysSlot_221 rec14 hrec14 x1 x2 x3 x4 x5 M) (by simp [mm_le])
def l7_laysSlot_14  : Nat → Int32 → Int32 → Int32 → Int32 → Int32 → mm_M → Option (mm_M)
  | 0 => fun _ _ _ _ _ _ => none
  | n + 1 => fun x1 x2 x3 x4 x5 M => b7_laysSlot_14  (l7_laysSlot_14  n) x1 x2 x3 x4 x5 M
theorem sl7_laysSlot_14   : ∀ (n : Nat) (x1 : Int32) (x2 : Int32) (x3 : Int32) (x4 : Int32) (x5 : Int32)  (M : mm_M), Snd injV j7_laysSlot mm_X0 14 [some (.ref 46), some (.int x1), some (.int x2), some (.int x3), some (.int x4), some (.int x5), none, none, none, none, none] [] M (l7_laysSlot_14  n x1 x2 x3 x4 x5 M)
  | 0 => fun _ _ _ _ _  _ => Snd.none
  | n + 1 => fun x1 x2 x3 x4 x5  M => sb7_laysSlot_14   (l7_laysSlot_14  n) (fun x1 x2 x3 x4 x5 M  => sl7_laysSlot_14   n x1 x2 x3 x4 x5  M) x1 x2 x3 x4 x5  M
def f7_laysSlot (x1 : Int32) (x2 : Int32) (M : mm_M) : Option (mm_M) :=
  bI ((6561 * x2) + x1) (fun x3_19 => l7_laysSlot_14 FU x1 x2 x3_19 1 0 M)
set_option maxHeartbeats 2000000 in
theorem s7_laysSlot (x1 : Int32) (x2 : Int32) (M : mm_M) : Snd injV j7_laysSlot mm_X0 0 [some (.ref 46), some (.int x1), some (.int x2)] [] M (f7_laysSlot x1 x2 M) := by
  refine Snd.wk (lo' := [some (.ref 46), some (.int x1), some (.int x2), none, none, none, none, none, none, none, none]) ?_ (by simp [mm_le])
  unfold f7_laysSlot
  refine sn_sipush (j := j7_laysSlot) (pc := 0) 6561 rfl dX7_laysSlot_0 ?_
  refine sn_iload_n (j := j7_laysSlot) (pc := 3) rfl rfl dX7_laysSlot_3 ?_
  refine sn_imul (j := j7_laysSlot) (pc := 4) dX7_laysSlot_4 ?_
  refine sn_iload_n (j := j7_laysSlot) (pc := 5) rfl rfl dX7_laysSlot_5 ?_
  refine sn_iadd (j := j7_laysSlot) (pc := 6) dX7_laysSlot_6 ?_
  refine sn_istoreB_n (j := j7_laysSlot) (pc := 7) rfl (fun x3_19 => [some (.ref 46), some (.int x1), some (.int x2), some (.int x3_19), none, none, none, none, none, none, none]) (by decide) (fun _ => rfl) dX7_laysSlot_7 (fun x3_19 => ?_)
  refine sn_iconst (j := j7_laysSlot) (pc := 8) 1 rfl dX7_laysSlot_8 ?_
  refine sn_istore (j := j7_laysSlot) (pc := 9) (by decide) (lo' := [some (.ref 46), some (.int x1), some (.int x2), some (.int x3_19), some (.int 1), none, none, none, none, none, none]) rfl dX7_laysSlot_9 ?_
  refine sn_iconst (j := j7_laysSlot) (pc := 11) 0 rfl dX7_laysSlot_11 ?_
  refine sn_istore (j := j7_laysSlot) (pc := 12) (by decide) (lo' := [some (.ref 46), some (.int x1), some (.int x2), some (.int x3_19), some (.int 1), some (.int 0), none, none, none, none, none]) rfl dX7_laysSlot_12 ?_
  exact Snd.wk (sl7_laysSlot_14 FU x1 x2 x3_19 1 0 M) (by simp [mm_le])

abbrev j7_finds : mm_J := (yX7_finds, cX7_finds, 3, none, 4)
theorem dX7_finds_0 : decode cX7_finds 0 = .ok (.aload_n 0, 1) := by decide +kernel
theorem dX7_finds_1 : decode cX7_finds 1 = .ok (.invokevirtual 240, 3) := by decide +kernel
theorem dX7_finds_4 : decode cX7_finds 4 = .ok (.aload_n 0, 1) := by decide +kernel
theorem dX7_finds_5 : decode cX7_finds 5 = .ok (.getfield 7, 3) := by decide +kernel
theorem dX7_finds_8 : decode cX7_finds 8 = .ok (.iconst 0, 1) := by decide +kernel
theorem dX7_finds_9 : decode cX7_finds 9 = .ok (.iaload, 1) := by decide +kernel
theorem dX7_finds_10 : decode cX7_finds 10 = .ok (.istore_n 1, 1) := by decide +kernel
theorem dX7_finds_11 : decode cX7_finds 11 = .ok (.iload_n 1, 1) := by decide +kernel
theorem dX7_finds_12 : decode cX7_finds 12 = .ok (.ifCond .lt 60, 3) := by decide +kernel
theorem dX7_finds_15 : decode cX7_finds 15 = .ok (.iconst 0, 1) := by decide +kernel
theorem dX7_finds_16 : decode cX7_finds 16 = .ok (.istore_n 2, 1) := by decide +kernel
theorem dX7_finds_17 : decode cX7_finds 17 = .ok (.iload_n 2, 1) := by decide +kernel
theorem dX7_finds_18 : decode cX7_finds 18 = .ok (.sipush 6561, 3) := by decide +kernel
theorem dX7_finds_21 : decode cX7_finds 21 = .ok (.if_icmp .ge 45, 3) := by decide +kernel
theorem dX7_finds_24 : decode cX7_finds 24 = .ok (.aload_n 0, 1) := by decide +kernel
theorem dX7_finds_25 : decode cX7_finds 25 = .ok (.iload_n 2, 1) := by decide +kernel
theorem dX7_finds_26 : decode cX7_finds 26 = .ok (.iload_n 1, 1) := by decide +kernel
theorem dX7_finds_27 : decode cX7_finds 27 = .ok (.invokevirtual 243, 3) := by decide +kernel
theorem dX7_finds_30 : decode cX7_finds 30 = .ok (.ifCond .ne 6, 3) := by decide +kernel
theorem dX7_finds_33 : decode cX7_finds 33 = .ok (.goto 27, 3) := by decide +kernel
theorem dX7_finds_36 : decode cX7_finds 36 = .ok (.iload_n 1, 1) := by decide +kernel
theorem dX7_finds_37 : decode cX7_finds 37 = .ok (.aload_n 0, 1) := by decide +kernel
theorem dX7_finds_38 : decode cX7_finds 38 = .ok (.getfield 7, 3) := by decide +kernel
theorem dX7_finds_41 : decode cX7_finds 41 = .ok (.iconst 0, 1) := by decide +kernel
theorem dX7_finds_42 : decode cX7_finds 42 = .ok (.iaload, 1) := by decide +kernel
theorem dX7_finds_43 : decode cX7_finds 43 = .ok (.if_icmp .ne 11, 3) := by decide +kernel
theorem dX7_finds_46 : decode cX7_finds 46 = .ok (.aload_n 0, 1) := by decide +kernel
theorem dX7_finds_47 : decode cX7_finds 47 = .ok (.iload_n 2, 1) := by decide +kernel
theorem dX7_finds_48 : decode cX7_finds 48 = .ok (.invokevirtual 246, 3) := by decide +kernel
theorem dX7_finds_51 : decode cX7_finds 51 = .ok (.goto 9, 3) := by decide +kernel
theorem dX7_finds_54 : decode cX7_finds 54 = .ok (.aload_n 0, 1) := by decide +kernel
theorem dX7_finds_55 : decode cX7_finds 55 = .ok (.iload_n 2, 1) := by decide +kernel
theorem dX7_finds_56 : decode cX7_finds 56 = .ok (.iload_n 1, 1) := by decide +kernel
theorem dX7_finds_57 : decode cX7_finds 57 = .ok (.invokevirtual 249, 3) := by decide +kernel
theorem dX7_finds_60 : decode cX7_finds 60 = .ok (.iinc 2 1, 3) := by decide +kernel
theorem dX7_finds_63 : decode cX7_finds 63 = .ok (.goto (-46), 3) := by decide +kernel
theorem dX7_finds_66 : decode cX7_finds 66 = .ok (.iinc 1 (-1), 3) := by decide +kernel
theorem dX7_finds_69 : decode cX7_finds 69 = .ok (.goto (-58), 3) := by decide +kernel
theorem dX7_finds_72 : decode cX7_finds 72 = .ok (.return_, 1) := by decide +kernel
def l7_finds_60 (rec17 : Int32 → Int32 → mm_M → Option (mm_M)) (x1 : Int32) (x2 : Int32) (M : mm_M) : Option (mm_M) :=
  rec17 x1 (x2 + 1) M
set_option maxHeartbeats 2000000 in
theorem sl7_finds_60 (rec17 : Int32 → Int32 → mm_M → Option (mm_M)) (hrec17 : ∀ (x1 : Int32) (x2 : Int32) (M : mm_M), Snd injV j7_finds mm_X0 17 [some (.ref 46), some (.int x1), some (.int x2)] [] M (rec17 x1 x2 M)) (x1 : Int32) (x2 : Int32)  (M : mm_M) : Snd injV j7_finds mm_X0 60 [some (.ref 46), some (.int x1), some (.int x2)] [] M (l7_finds_60 rec17 x1 x2 M) := by
  unfold l7_finds_60
  refine sn_iinc (j := j7_finds) (pc := 60) 1 rfl (by decide) rfl (lo' := [some (.ref 46), some (.int x1), some (.int (x2 + 1))]) rfl dX7_finds_60 ?_
  refine sn_goto (j := j7_finds) (pc := 63) 17 rfl dX7_finds_63 ?_
  exact Snd.wk (hrec17 x1 (x2 + 1) M ) (by simp [mm_le])
def b7_finds_17 (rec11 : Int32 → mm_M → Option (mm_M)) (rec17 : Int32 → Int32 → mm_M → Option (mm_M)) (x1 : Int32) (x2 : Int32) (M : mm_M) : Option (mm_M) :=
  if 6561 ≤ x2 then (rec11 (x1 + (-1)) M) else (cI (f7_mayBe x2 x1 M) (fun r_1 M => if r_1 = 0 then (l7_finds_60 rec17 x1 x2 M) else (aI 47 82 0 M (fun w_2 => if x1 = w_2 then (cV (f7_laysEnd x2 M) (fun M => l7_finds_60 rec17 x1 x2 M)) else (cV (f7_laysSlot x2 x1 M) (fun M => l7_finds_60 rec17 x1 x2 M))))))
set_option maxHeartbeats 2000000 in
theorem sb7_finds_17 (rec11 : Int32 → mm_M → Option (mm_M)) (hrec11 : ∀ (x1 : Int32) (M : mm_M), Snd injV j7_finds mm_X0 11 [some (.ref 46), some (.int x1), none] [] M (rec11 x1 M)) (rec17 : Int32 → Int32 → mm_M → Option (mm_M)) (hrec17 : ∀ (x1 : Int32) (x2 : Int32) (M : mm_M), Snd injV j7_finds mm_X0 17 [some (.ref 46), some (.int x1), some (.int x2)] [] M (rec17 x1 x2 M)) (x1 : Int32) (x2 : Int32)  (M : mm_M) : Snd injV j7_finds mm_X0 17 [some (.ref 46), some (.int x1), some (.int x2)] [] M (b7_finds_17 rec11 rec17 x1 x2 M) := by
  unfold b7_finds_17
  refine sn_iload_n (j := j7_finds) (pc := 17) rfl rfl dX7_finds_17 ?_
  refine sn_sipush (j := j7_finds) (pc := 18) 6561 rfl dX7_finds_18 ?_
  refine sn_icmp_ge (j := j7_finds) (pc := 21) 66 rfl dX7_finds_21 ?_ ?_
  · refine sn_iinc (j := j7_finds) (pc := 66) (-1) rfl (by decide) rfl (lo' := [some (.ref 46), some (.int (x1 + (-1))), some (.int x2)]) rfl dX7_finds_66 ?_
    refine sn_goto (j := j7_finds) (pc := 69) 11 rfl dX7_finds_69 ?_
    exact Snd.wk (hrec11 (x1 + (-1)) M ) (by simp [mm_le])
  · refine sn_aload_n (j := j7_finds) (pc := 24) rfl rfl dX7_finds_24 ?_
    refine sn_iload_n (j := j7_finds) (pc := 25) rfl rfl dX7_finds_25 ?_
    refine sn_iload_n (j := j7_finds) (pc := 26) rfl rfl dX7_finds_26 ?_
    refine sn_callV (j := j7_finds) (pc := 27) (jc := j7_mayBe) (As := [.int x2, .int x1]) (s7_mayBe x2 x1 M) mm_hvI (by simp [Value.category]) (Nat.le_of_ble_eq_true rfl) q7_mayBe rfl (by decide) rfl rfl ⟨by decide, by decide⟩ w_ml_X7_243 w_im_X7_mayBe w_se_X7_mayBe rfl (Nat.le_of_ble_eq_true rfl) dX7_finds_27 ?_
    rintro ⟨r_1, M⟩
    show Snd injV j7_finds mm_X0 30 [some (.ref 46), some (.int x1), some (.int x2)] [.int r_1] M _
    refine sn_if_ne (j := j7_finds) (pc := 30) 36 rfl dX7_finds_30 ?_ ?_
    · refine sn_iload_n (j := j7_finds) (pc := 36) rfl rfl dX7_finds_36 ?_
      refine sn_aload_n (j := j7_finds) (pc := 37) rfl rfl dX7_finds_37 ?_
      refine g_X7_7 (j := j7_finds) (pc := 38) rfl dX7_finds_38 ?_
      refine sn_iconst (j := j7_finds) (pc := 41) 0 rfl dX7_finds_41 ?_
      refine sn_iald (j := j7_finds) (pc := 42) rfl ⟨by decide, by decide⟩ dX7_finds_42 (fun w_2 => ?_)
      refine sn_icmp_ne (j := j7_finds) (pc := 43) 54 rfl dX7_finds_43 ?_ ?_
      · refine sn_aload_n (j := j7_finds) (pc := 54) rfl rfl dX7_finds_54 ?_
        refine sn_iload_n (j := j7_finds) (pc := 55) rfl rfl dX7_finds_55 ?_
        refine sn_iload_n (j := j7_finds) (pc := 56) rfl rfl dX7_finds_56 ?_
        refine sn_callV (j := j7_finds) (pc := 57) (jc := j7_laysSlot) (As := [.int x2, .int x1]) (s7_laysSlot x2 x1 M) mm_hvV (by simp [Value.category]) (Nat.le_of_ble_eq_true rfl) q7_laysSlot rfl (by decide) rfl rfl ⟨by decide, by decide⟩ w_ml_X7_249 w_im_X7_laysSlot w_se_X7_laysSlot rfl (Nat.le_of_ble_eq_true rfl) dX7_finds_57 ?_
        intro M
        show Snd injV j7_finds mm_X0 60 [some (.ref 46), some (.int x1), some (.int x2)] [] M _
        exact Snd.wk (sl7_finds_60 rec17 hrec17 x1 x2 M) (by simp [mm_le])
      · refine sn_aload_n (j := j7_finds) (pc := 46) rfl rfl dX7_finds_46 ?_
        refine sn_iload_n (j := j7_finds) (pc := 47) rfl rfl dX7_finds_47 ?_
        refine sn_callV (j := j7_finds) (pc := 48) (jc := j7_laysEnd) (As := [.int x2]) (s7_laysEnd x2 M) mm_hvV (by simp [Value.category]) (Nat.le_of_ble_eq_true rfl) q7_laysEnd rfl (by decide) rfl rfl ⟨by decide, by decide⟩ w_ml_X7_246 w_im_X7_laysEnd w_se_X7_laysEnd rfl (Nat.le_of_ble_eq_true rfl) dX7_finds_48 ?_
        intro M
        show Snd injV j7_finds mm_X0 51 [some (.ref 46), some (.int x1), some (.int x2)] [] M _
        refine sn_goto (j := j7_finds) (pc := 51) 60 rfl dX7_finds_51 ?_
        exact Snd.wk (sl7_finds_60 rec17 hrec17 x1 x2 M) (by simp [mm_le])
    · refine sn_goto (j := j7_finds) (pc := 33) 60 rfl dX7_finds_33 ?_
      exact Snd.wk (sl7_finds_60 rec17 hrec17 x1 x2 M) (by simp [mm_le])
def l7_finds_17 (rec11 : Int32 → mm_M → Option (mm_M)) : Nat → Int32 → Int32 → mm_M → Option (mm_M)
  | 0 => fun _ _ _ => none
  | n + 1 => fun x1 x2 M => b7_finds_17 rec11 (l7_finds_17 rec11 n) x1 x2 M
theorem sl7_finds_17 (rec11 : Int32 → mm_M → Option (mm_M)) (hrec11 : ∀ (x1 : Int32) (M : mm_M), Snd injV j7_finds mm_X0 11 [some (.ref 46), some (.int x1), none] [] M (rec11 x1 M)) : ∀ (n : Nat) (x1 : Int32) (x2 : Int32)  (M : mm_M), Snd injV j7_finds mm_X0 17 [some (.ref 46), some (.int x1), some (.int x2)] [] M (l7_finds_17 rec11 n x1 x2 M)
  | 0 => fun _ _  _ => Snd.none
  | n + 1 => fun x1 x2  M => sb7_finds_17 rec11 hrec11 (l7_finds_17 rec11 n) (fun x1 x2 M  => sl7_finds_17 rec11 hrec11 n x1 x2  M) x1 x2  M
def b7_finds_11  (rec11 : Int32 → mm_M → Option (mm_M)) (x1 : Int32) (M : mm_M) : Option (mm_M) :=
  if x1 < 0 then (some M) else (l7_finds_17 rec11 FU x1 0 M)
set_option maxHeartbeats 2000000 in
theorem sb7_finds_11   (rec11 : Int32 → mm_M → Option (mm_M)) (hrec11 : ∀ (x1 : Int32) (M : mm_M), Snd injV j7_finds mm_X0 11 [some (.ref 46), some (.int x1), none] [] M (rec11 x1 M)) (x1 : Int32)  (M : mm_M) : Snd injV j7_finds mm_X0 11 [some (.ref 46), some (.int x1), none] [] M (b7_finds_11  rec11 x1 M) := by
  unfold b7_finds_11
  refine sn_iload_n (j := j7_finds) (pc := 11) rfl rfl dX7_finds_11 ?_
  refine sn_if_lt (j := j7_finds) (pc := 12) 72 rfl dX7_finds_12 ?_ ?_
  · exact sn_vret (j := j7_finds) (pc := 72) rfl dX7_finds_72
  · refine sn_iconst (j := j7_finds) (pc := 15) 0 rfl dX7_finds_15 ?_
    refine sn_istore_n (j := j7_finds) (pc := 16) rfl (by decide) (lo' := [some (.ref 46), some (.int x1), some (.int 0)]) rfl dX7_finds_16 ?_
    exact Snd.wk (sl7_finds_17 rec11 hrec11 FU x1 0 M) (by simp [mm_le])
def l7_finds_11  : Nat → Int32 → mm_M → Option (mm_M)
  | 0 => fun _ _ => none
  | n + 1 => fun x1 M => b7_finds_11  (l7_finds_11  n) x1 M
theorem sl7_finds_11   : ∀ (n : Nat) (x1 : Int32)  (M : mm_M), Snd injV j7_finds mm_X0 11 [some (.ref 46), some (.int x1), none] [] M (l7_finds_11  n x1 M)
  | 0 => fun _  _ => Snd.none
  | n + 1 => fun x1  M => sb7_finds_11   (l7_finds_11  n) (fun x1 M  => sl7_finds_11   n x1  M) x1  M
def f7_finds  (M : mm_M) : Option (mm_M) :=
  cV (f7_laysFull M) (fun M => aI 47 82 0 M (fun w_3 => l7_finds_11 FU w_3 M))
set_option maxHeartbeats 2000000 in
theorem s7_finds  (M : mm_M) : Snd injV j7_finds mm_X0 0 [some (.ref 46)] [] M (f7_finds  M) := by
  refine Snd.wk (lo' := [some (.ref 46), none, none]) ?_ (by simp [mm_le])
  unfold f7_finds
  refine sn_aload_n (j := j7_finds) (pc := 0) rfl rfl dX7_finds_0 ?_
  refine sn_callV (j := j7_finds) (pc := 1) (jc := j7_laysFull) (As := []) (s7_laysFull M) mm_hvV (by simp [Value.category]) (Nat.le_of_ble_eq_true rfl) q7_laysFull rfl (by decide) rfl rfl ⟨by decide, by decide⟩ w_ml_X7_240 w_im_X7_laysFull w_se_X7_laysFull rfl (Nat.le_of_ble_eq_true rfl) dX7_finds_1 ?_
  intro M
  show Snd injV j7_finds mm_X0 4 [some (.ref 46), none, none] [] M _
  refine sn_aload_n (j := j7_finds) (pc := 4) rfl rfl dX7_finds_4 ?_
  refine g_X7_7 (j := j7_finds) (pc := 5) rfl dX7_finds_5 ?_
  refine sn_iconst (j := j7_finds) (pc := 8) 0 rfl dX7_finds_8 ?_
  refine sn_iald (j := j7_finds) (pc := 9) rfl ⟨by decide, by decide⟩ dX7_finds_9 (fun w_3 => ?_)
  refine sn_istore_n (j := j7_finds) (pc := 10) rfl (by decide) (lo' := [some (.ref 46), some (.int w_3), none]) rfl dX7_finds_10 ?_
  exact Snd.wk (sl7_finds_11 FU w_3 M) (by simp [mm_le])

abbrev j7_laysBest : mm_J := (yX7_laysBest, cX7_laysBest, 3, none, 3)
theorem dX7_laysBest_0 : decode cX7_laysBest 0 = .ok (.iconst 0, 1) := by decide +kernel
theorem dX7_laysBest_1 : decode cX7_laysBest 1 = .ok (.istore_n 1, 1) := by decide +kernel
theorem dX7_laysBest_2 : decode cX7_laysBest 2 = .ok (.iconst 0, 1) := by decide +kernel
theorem dX7_laysBest_3 : decode cX7_laysBest 3 = .ok (.istore_n 2, 1) := by decide +kernel
theorem dX7_laysBest_4 : decode cX7_laysBest 4 = .ok (.iload_n 2, 1) := by decide +kernel
theorem dX7_laysBest_5 : decode cX7_laysBest 5 = .ok (.aload_n 0, 1) := by decide +kernel
theorem dX7_laysBest_6 : decode cX7_laysBest 6 = .ok (.getfield 7, 3) := by decide +kernel
theorem dX7_laysBest_9 : decode cX7_laysBest 9 = .ok (.iconst 0, 1) := by decide +kernel
theorem dX7_laysBest_10 : decode cX7_laysBest 10 = .ok (.iaload, 1) := by decide +kernel
theorem dX7_laysBest_11 : decode cX7_laysBest 11 = .ok (.if_icmp .ge 39, 3) := by decide +kernel
theorem dX7_laysBest_14 : decode cX7_laysBest 14 = .ok (.aload_n 0, 1) := by decide +kernel
theorem dX7_laysBest_15 : decode cX7_laysBest 15 = .ok (.getfield 22, 3) := by decide +kernel
theorem dX7_laysBest_18 : decode cX7_laysBest 18 = .ok (.iload_n 2, 1) := by decide +kernel
theorem dX7_laysBest_19 : decode cX7_laysBest 19 = .ok (.aload_n 0, 1) := by decide +kernel
theorem dX7_laysBest_20 : decode cX7_laysBest 20 = .ok (.getfield 41, 3) := by decide +kernel
theorem dX7_laysBest_23 : decode cX7_laysBest 23 = .ok (.sipush 6561, 3) := by decide +kernel
theorem dX7_laysBest_26 : decode cX7_laysBest 26 = .ok (.iload_n 2, 1) := by decide +kernel
theorem dX7_laysBest_27 : decode cX7_laysBest 27 = .ok (.imul, 1) := by decide +kernel
theorem dX7_laysBest_28 : decode cX7_laysBest 28 = .ok (.iload_n 1, 1) := by decide +kernel
theorem dX7_laysBest_29 : decode cX7_laysBest 29 = .ok (.iadd, 1) := by decide +kernel
theorem dX7_laysBest_30 : decode cX7_laysBest 30 = .ok (.iaload, 1) := by decide +kernel
theorem dX7_laysBest_31 : decode cX7_laysBest 31 = .ok (.iastore, 1) := by decide +kernel
theorem dX7_laysBest_32 : decode cX7_laysBest 32 = .ok (.aload_n 0, 1) := by decide +kernel
theorem dX7_laysBest_33 : decode cX7_laysBest 33 = .ok (.iload_n 1, 1) := by decide +kernel
theorem dX7_laysBest_34 : decode cX7_laysBest 34 = .ok (.aload_n 0, 1) := by decide +kernel
theorem dX7_laysBest_35 : decode cX7_laysBest 35 = .ok (.getfield 22, 3) := by decide +kernel
theorem dX7_laysBest_38 : decode cX7_laysBest 38 = .ok (.iload_n 2, 1) := by decide +kernel
theorem dX7_laysBest_39 : decode cX7_laysBest 39 = .ok (.iaload, 1) := by decide +kernel
theorem dX7_laysBest_40 : decode cX7_laysBest 40 = .ok (.invokevirtual 237, 3) := by decide +kernel
theorem dX7_laysBest_43 : decode cX7_laysBest 43 = .ok (.istore_n 1, 1) := by decide +kernel
theorem dX7_laysBest_44 : decode cX7_laysBest 44 = .ok (.iinc 2 1, 3) := by decide +kernel
theorem dX7_laysBest_47 : decode cX7_laysBest 47 = .ok (.goto (-43), 3) := by decide +kernel
theorem dX7_laysBest_50 : decode cX7_laysBest 50 = .ok (.aload_n 0, 1) := by decide +kernel
theorem dX7_laysBest_51 : decode cX7_laysBest 51 = .ok (.invokevirtual 213, 3) := by decide +kernel
theorem dX7_laysBest_54 : decode cX7_laysBest 54 = .ok (.return_, 1) := by decide +kernel
def b7_laysBest_4  (rec4 : Int32 → Int32 → mm_M → Option (mm_M)) (x1 : Int32) (x2 : Int32) (M : mm_M) : Option (mm_M) :=
  aI 47 82 0 M (fun w_1 => if w_1 ≤ x2 then (cV (f7_goes M) (fun M => some M)) else (aI 57 59049 ((6561 * x2) + x1) M (fun w_2 => uI 51 8 x2 w_2 M (fun M => aI 51 8 x2 M (fun w_3 => cI (f7_behind x1 w_3 M) (fun r_4 M => rec4 r_4 (x2 + 1) M))))))
set_option maxHeartbeats 2000000 in
theorem sb7_laysBest_4   (rec4 : Int32 → Int32 → mm_M → Option (mm_M)) (hrec4 : ∀ (x1 : Int32) (x2 : Int32) (M : mm_M), Snd injV j7_laysBest mm_X0 4 [some (.ref 46), some (.int x1), some (.int x2)] [] M (rec4 x1 x2 M)) (x1 : Int32) (x2 : Int32)  (M : mm_M) : Snd injV j7_laysBest mm_X0 4 [some (.ref 46), some (.int x1), some (.int x2)] [] M (b7_laysBest_4  rec4 x1 x2 M) := by
  unfold b7_laysBest_4
  refine sn_iload_n (j := j7_laysBest) (pc := 4) rfl rfl dX7_laysBest_4 ?_
  refine sn_aload_n (j := j7_laysBest) (pc := 5) rfl rfl dX7_laysBest_5 ?_
  refine g_X7_7 (j := j7_laysBest) (pc := 6) rfl dX7_laysBest_6 ?_
  refine sn_iconst (j := j7_laysBest) (pc := 9) 0 rfl dX7_laysBest_9 ?_
  refine sn_iald (j := j7_laysBest) (pc := 10) rfl ⟨by decide, by decide⟩ dX7_laysBest_10 (fun w_1 => ?_)
  refine sn_icmp_ge (j := j7_laysBest) (pc := 11) 50 rfl dX7_laysBest_11 ?_ ?_
  · refine sn_aload_n (j := j7_laysBest) (pc := 50) rfl rfl dX7_laysBest_50 ?_
    refine sn_callV (j := j7_laysBest) (pc := 51) (jc := j7_goes) (As := []) (s7_goes M) mm_hvV (by simp [Value.category]) (Nat.le_of_ble_eq_true rfl) q7_goes rfl (by decide) rfl rfl ⟨by decide, by decide⟩ w_ml_X7_213 w_im_X7_goes w_se_X7_goes rfl (Nat.le_of_ble_eq_true rfl) dX7_laysBest_51 ?_
    intro M
    show Snd injV j7_laysBest mm_X0 54 [some (.ref 46), some (.int x1), some (.int x2)] [] M _
    exact sn_vret (j := j7_laysBest) (pc := 54) rfl dX7_laysBest_54
  · refine sn_aload_n (j := j7_laysBest) (pc := 14) rfl rfl dX7_laysBest_14 ?_
    refine g_X7_22 (j := j7_laysBest) (pc := 15) rfl dX7_laysBest_15 ?_
    refine sn_iload_n (j := j7_laysBest) (pc := 18) rfl rfl dX7_laysBest_18 ?_
    refine sn_aload_n (j := j7_laysBest) (pc := 19) rfl rfl dX7_laysBest_19 ?_
    refine g_X7_41 (j := j7_laysBest) (pc := 20) rfl dX7_laysBest_20 ?_
    refine sn_sipush (j := j7_laysBest) (pc := 23) 6561 rfl dX7_laysBest_23 ?_
    refine sn_iload_n (j := j7_laysBest) (pc := 26) rfl rfl dX7_laysBest_26 ?_
    refine sn_imul (j := j7_laysBest) (pc := 27) dX7_laysBest_27 ?_
    refine sn_iload_n (j := j7_laysBest) (pc := 28) rfl rfl dX7_laysBest_28 ?_
    refine sn_iadd (j := j7_laysBest) (pc := 29) dX7_laysBest_29 ?_
    refine sn_iald (j := j7_laysBest) (pc := 30) rfl ⟨by decide, by decide⟩ dX7_laysBest_30 (fun w_2 => ?_)
    refine sn_iast (j := j7_laysBest) (pc := 31) rfl ⟨by decide, by decide⟩ dX7_laysBest_31 (fun M => ?_)
    refine sn_aload_n (j := j7_laysBest) (pc := 32) rfl rfl dX7_laysBest_32 ?_
    refine sn_iload_n (j := j7_laysBest) (pc := 33) rfl rfl dX7_laysBest_33 ?_
    refine sn_aload_n (j := j7_laysBest) (pc := 34) rfl rfl dX7_laysBest_34 ?_
    refine g_X7_22 (j := j7_laysBest) (pc := 35) rfl dX7_laysBest_35 ?_
    refine sn_iload_n (j := j7_laysBest) (pc := 38) rfl rfl dX7_laysBest_38 ?_
    refine sn_iald (j := j7_laysBest) (pc := 39) rfl ⟨by decide, by decide⟩ dX7_laysBest_39 (fun w_3 => ?_)
    refine sn_callV (j := j7_laysBest) (pc := 40) (jc := j7_behind) (As := [.int x1, .int w_3]) (s7_behind x1 w_3 M) mm_hvI (by simp [Value.category]) (Nat.le_of_ble_eq_true rfl) q7_behind rfl (by decide) rfl rfl ⟨by decide, by decide⟩ w_ml_X7_237 w_im_X7_behind w_se_X7_behind rfl (Nat.le_of_ble_eq_true rfl) dX7_laysBest_40 ?_
    rintro ⟨r_4, M⟩
    show Snd injV j7_laysBest mm_X0 43 [some (.ref 46), some (.int x1), some (.int x2)] [.int r_4] M _
    refine sn_istore_n (j := j7_laysBest) (pc := 43) rfl (by decide) (lo' := [some (.ref 46), some (.int r_4), some (.int x2)]) rfl dX7_laysBest_43 ?_
    refine sn_iinc (j := j7_laysBest) (pc := 44) 1 rfl (by decide) rfl (lo' := [some (.ref 46), some (.int r_4), some (.int (x2 + 1))]) rfl dX7_laysBest_44 ?_
    refine sn_goto (j := j7_laysBest) (pc := 47) 4 rfl dX7_laysBest_47 ?_
    exact Snd.wk (hrec4 r_4 (x2 + 1) M ) (by simp [mm_le])
def l7_laysBest_4  : Nat → Int32 → Int32 → mm_M → Option (mm_M)
  | 0 => fun _ _ _ => none
  | n + 1 => fun x1 x2 M => b7_laysBest_4  (l7_laysBest_4  n) x1 x2 M
theorem sl7_laysBest_4   : ∀ (n : Nat) (x1 : Int32) (x2 : Int32)  (M : mm_M), Snd injV j7_laysBest mm_X0 4 [some (.ref 46), some (.int x1), some (.int x2)] [] M (l7_laysBest_4  n x1 x2 M)
  | 0 => fun _ _  _ => Snd.none
  | n + 1 => fun x1 x2  M => sb7_laysBest_4   (l7_laysBest_4  n) (fun x1 x2 M  => sl7_laysBest_4   n x1 x2  M) x1 x2  M
def f7_laysBest  (M : mm_M) : Option (mm_M) :=
  l7_laysBest_4 FU 0 0 M
set_option maxHeartbeats 2000000 in
theorem s7_laysBest  (M : mm_M) : Snd injV j7_laysBest mm_X0 0 [some (.ref 46)] [] M (f7_laysBest  M) := by
  refine Snd.wk (lo' := [some (.ref 46), none, none]) ?_ (by simp [mm_le])
  unfold f7_laysBest
  refine sn_iconst (j := j7_laysBest) (pc := 0) 0 rfl dX7_laysBest_0 ?_
  refine sn_istore_n (j := j7_laysBest) (pc := 1) rfl (by decide) (lo' := [some (.ref 46), some (.int 0), none]) rfl dX7_laysBest_1 ?_
  refine sn_iconst (j := j7_laysBest) (pc := 2) 0 rfl dX7_laysBest_2 ?_
  refine sn_istore_n (j := j7_laysBest) (pc := 3) rfl (by decide) (lo' := [some (.ref 46), some (.int 0), some (.int 0)]) rfl dX7_laysBest_3 ?_
  exact Snd.wk (sl7_laysBest_4 FU 0 0 M) (by simp [mm_le])
