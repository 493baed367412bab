theorem w_ml_L_144 : Cond.methodLink RL 144 yX6_bestRule ∈ mm_tbl := mm_in4 58 rfl rfl
theorem w_im_X6_bestRule : Cond.instanceMethod yX6_bestRule ∈ mm_tbl := mm_in4 59 rfl rfl
theorem w_se_X6_bestRule : Cond.selects yX6_bestRule.cls yX6_bestRule yX6_bestRule ∈ mm_tbl := mm_in4 60 rfl rfl
theorem w_ml_L_147 : Cond.methodLink RL 147 yX7_bestRule ∈ mm_tbl := mm_in6 65 rfl rfl
theorem w_im_X7_bestRule : Cond.instanceMethod yX7_bestRule ∈ mm_tbl := mm_in6 66 rfl rfl
theorem w_se_X7_bestRule : Cond.selects yX7_bestRule.cls yX7_bestRule yX7_bestRule ∈ mm_tbl := mm_in6 67 rfl rfl
theorem w_ml_L_140 : Cond.methodLink RL 140 yX6_takeRule ∈ mm_tbl := mm_in4 54 rfl rfl
theorem w_im_X6_takeRule : Cond.instanceMethod yX6_takeRule ∈ mm_tbl := mm_in4 55 rfl rfl
theorem w_se_X6_takeRule : Cond.selects yX6_takeRule.cls yX6_takeRule yX6_takeRule ∈ mm_tbl := mm_in4 56 rfl rfl
theorem w_ml_L_143 : Cond.methodLink RL 143 yX7_takeRule ∈ mm_tbl := mm_in6 61 rfl rfl
theorem w_im_X7_takeRule : Cond.instanceMethod yX7_takeRule ∈ mm_tbl := mm_in6 62 rfl rfl
theorem w_se_X7_takeRule : Cond.selects yX7_takeRule.cls yX7_takeRule yX7_takeRule ∈ mm_tbl := mm_in6 63 rfl rfl
theorem w_ml_L_136 : Cond.methodLink RL 136 yX6_rule ∈ mm_tbl := mm_in4 25 rfl rfl
theorem w_im_X6_rule : Cond.instanceMethod yX6_rule ∈ mm_tbl := mm_in4 26 rfl rfl
theorem w_se_X6_rule : Cond.selects yX6_rule.cls yX6_rule yX6_rule ∈ mm_tbl := mm_in4 27 rfl rfl
theorem w_ml_L_139 : Cond.methodLink RL 139 yX7_rule ∈ mm_tbl := mm_in6 45 rfl rfl
theorem w_im_X7_rule : Cond.instanceMethod yX7_rule ∈ mm_tbl := mm_in6 46 rfl rfl
theorem w_se_X7_rule : Cond.selects yX7_rule.cls yX7_rule yX7_rule ∈ mm_tbl := mm_in6 47 rfl rfl
theorem w_ml_L_132 : Cond.methodLink RL 132 yX6_without ∈ mm_tbl := mm_in4 21 rfl rfl
theorem w_im_X6_without : Cond.instanceMethod yX6_without ∈ mm_tbl := mm_in4 22 rfl rfl
theorem w_se_X6_without : Cond.selects yX6_without.cls yX6_without yX6_without ∈ mm_tbl := mm_in4 23 rfl rfl
theorem w_ml_L_135 : Cond.methodLink RL 135 yX7_without ∈ mm_tbl := mm_in6 41 rfl rfl
theorem w_im_X7_without : Cond.instanceMethod yX7_without ∈ mm_tbl := mm_in6 42 rfl rfl
theorem w_se_X7_without : Cond.selects yX7_without.cls yX7_without yX7_without ∈ mm_tbl := mm_in6 43 rfl rfl
theorem w_ml_L_128 : Cond.methodLink RL 128 yX6_least ∈ mm_tbl := mm_in4 4 rfl rfl
theorem w_im_X6_least : Cond.instanceMethod yX6_least ∈ mm_tbl := mm_in4 5 rfl rfl
theorem w_se_X6_least : Cond.selects yX6_least.cls yX6_least yX6_least ∈ mm_tbl := mm_in4 6 rfl rfl
theorem w_ml_L_131 : Cond.methodLink RL 131 yX7_least ∈ mm_tbl := mm_in6 37 rfl rfl
theorem w_im_X7_least : Cond.instanceMethod yX7_least ∈ mm_tbl := mm_in6 38 rfl rfl
theorem w_se_X7_least : Cond.selects yX7_least.cls yX7_least yX7_least ∈ mm_tbl := mm_in6 39 rfl rfl
theorem w_ml_L_124 : Cond.methodLink RL 124 yX6_were ∈ mm_tbl := mm_in3 235 rfl rfl
theorem w_im_X6_were : Cond.instanceMethod yX6_were ∈ mm_tbl := mm_in3 236 rfl rfl
theorem w_se_X6_were : Cond.selects yX6_were.cls yX6_were yX6_were ∈ mm_tbl := mm_in3 237 rfl rfl
theorem w_ml_L_127 : Cond.methodLink RL 127 yX7_were ∈ mm_tbl := mm_in6 29 rfl rfl
theorem w_im_X7_were : Cond.instanceMethod yX7_were ∈ mm_tbl := mm_in6 30 rfl rfl
theorem w_se_X7_were : Cond.selects yX7_were.cls yX7_were yX7_were ∈ mm_tbl := mm_in6 31 rfl rfl
theorem w_ml_L_120 : Cond.methodLink RL 120 yX6_latest ∈ mm_tbl := mm_in3 231 rfl rfl
theorem w_im_X6_latest : Cond.instanceMethod yX6_latest ∈ mm_tbl := mm_in3 232 rfl rfl
theorem w_se_X6_latest : Cond.selects yX6_latest.cls yX6_latest yX6_latest ∈ mm_tbl := mm_in3 233 rfl rfl
theorem w_ml_L_123 : Cond.methodLink RL 123 yX7_latest ∈ mm_tbl := mm_in6 25 rfl rfl
theorem w_im_X7_latest : Cond.instanceMethod yX7_latest ∈ mm_tbl := mm_in6 26 rfl rfl
theorem w_se_X7_latest : Cond.selects yX7_latest.cls yX7_latest yX7_latest ∈ mm_tbl := mm_in6 27 rfl rfl
theorem w_ml_L_116 : Cond.methodLink RL 116 yX6_late ∈ mm_tbl := mm_in3 219 rfl rfl
theorem w_im_X6_late : Cond.instanceMethod yX6_late ∈ mm_tbl := mm_in3 220 rfl rfl
theorem w_se_X6_late : Cond.selects yX6_late.cls yX6_late yX6_late ∈ mm_tbl := mm_in3 221 rfl rfl
theorem w_ml_L_119 : Cond.methodLink RL 119 yX7_late ∈ mm_tbl := mm_in6 17 rfl rfl
theorem w_im_X7_late : Cond.instanceMethod yX7_late ∈ mm_tbl := mm_in6 18 rfl rfl
theorem w_se_X7_late : Cond.selects yX7_late.cls yX7_late yX7_late ∈ mm_tbl := mm_in6 19 rfl rfl
theorem w_ml_L_112 : Cond.methodLink RL 112 yX6_take ∈ mm_tbl := mm_in3 211 rfl rfl
theorem w_im_X6_take : Cond.instanceMethod yX6_take ∈ mm_tbl := mm_in3 212 rfl rfl
theorem w_se_X6_take : Cond.selects yX6_take.cls yX6_take yX6_take ∈ mm_tbl := mm_in3 213 rfl rfl
theorem w_ml_L_115 : Cond.methodLink RL 115 yX7_take ∈ mm_tbl := mm_in6 9 rfl rfl
theorem w_im_X7_take : Cond.instanceMethod yX7_take ∈ mm_tbl := mm_in6 10 rfl rfl
theorem w_se_X7_take : Cond.selects yX7_take.cls yX7_take yX7_take ∈ mm_tbl := mm_in6 11 rfl rfl
theorem w_ml_L_108 : Cond.methodLink RL 108 yX6_best ∈ mm_tbl := mm_in3 152 rfl rfl
theorem w_im_X6_best : Cond.instanceMethod yX6_best ∈ mm_tbl := mm_in3 153 rfl rfl
theorem w_se_X6_best : Cond.selects yX6_best.cls yX6_best yX6_best ∈ mm_tbl := mm_in3 154 rfl rfl
theorem w_ml_L_111 : Cond.methodLink RL 111 yX7_best ∈ mm_tbl := mm_in5 210 rfl rfl
theorem w_im_X7_best : Cond.instanceMethod yX7_best ∈ mm_tbl := mm_in5 211 rfl rfl
theorem w_se_X7_best : Cond.selects yX7_best.cls yX7_best yX7_best ∈ mm_tbl := mm_in5 212 rfl rfl
theorem w_ml_L_104 : Cond.methodLink RL 104 yX6_lack ∈ mm_tbl := mm_in3 147 rfl rfl
theorem w_im_X6_lack : Cond.instanceMethod yX6_lack ∈ mm_tbl := mm_in3 148 rfl rfl
theorem w_se_X6_lack : Cond.selects yX6_lack.cls yX6_lack yX6_lack ∈ mm_tbl := mm_in3 149 rfl rfl
theorem w_ml_L_107 : Cond.methodLink RL 107 yX7_lack ∈ mm_tbl := mm_in5 206 rfl rfl
theorem w_im_X7_lack : Cond.instanceMethod yX7_lack ∈ mm_tbl := mm_in5 207 rfl rfl
theorem w_se_X7_lack : Cond.selects yX7_lack.cls yX7_lack yX7_lack ∈ mm_tbl := mm_in5 208 rfl rfl
theorem w_ml_L_100 : Cond.methodLink RL 100 yX6_sum ∈ mm_tbl := mm_in3 128 rfl rfl
theorem w_im_X6_sum : Cond.instanceMethod yX6_sum ∈ mm_tbl := mm_in3 129 rfl rfl
theorem w_se_X6_sum : Cond.selects yX6_sum.cls yX6_sum yX6_sum ∈ mm_tbl := mm_in3 130 rfl rfl
theorem w_ml_L_103 : Cond.methodLink RL 103 yX7_sum ∈ mm_tbl := mm_in5 186 rfl rfl
theorem w_im_X7_sum : Cond.instanceMethod yX7_sum ∈ mm_tbl := mm_in5 187 rfl rfl
theorem w_se_X7_sum : Cond.selects yX7_sum.cls yX7_sum yX7_sum ∈ mm_tbl := mm_in5 188 rfl rfl
theorem w_ml_L_96 : Cond.methodLink RL 96 yX6_used ∈ mm_tbl := mm_in3 124 rfl rfl
theorem w_im_X6_used : Cond.instanceMethod yX6_used ∈ mm_tbl := mm_in3 125 rfl rfl
theorem w_se_X6_used : Cond.selects yX6_used.cls yX6_used yX6_used ∈ mm_tbl := mm_in3 126 rfl rfl
theorem w_ml_L_99 : Cond.methodLink RL 99 yX7_used ∈ mm_tbl := mm_in5 182 rfl rfl
theorem w_im_X7_used : Cond.instanceMethod yX7_used ∈ mm_tbl := mm_in5 183 rfl rfl
theorem w_se_X7_used : Cond.selects yX7_used.cls yX7_used yX7_used ∈ mm_tbl := mm_in5 184 rfl rfl
theorem w_ml_L_92 : Cond.methodLink RL 92 yX6_level ∈ mm_tbl := mm_in3 119 rfl rfl
theorem w_im_X6_level : Cond.instanceMethod yX6_level ∈ mm_tbl := mm_in3 120 rfl rfl
theorem w_se_X6_level : Cond.selects yX6_level.cls yX6_level yX6_level ∈ mm_tbl := mm_in3 121 rfl rfl
theorem w_ml_L_95 : Cond.methodLink RL 95 yX7_level ∈ mm_tbl := mm_in5 166 rfl rfl
theorem w_im_X7_level : Cond.instanceMethod yX7_level ∈ mm_tbl := mm_in5 167 rfl rfl
theorem w_se_X7_level : Cond.selects yX7_level.cls yX7_level yX7_level ∈ mm_tbl := mm_in5 168 rfl rfl
theorem w_ml_L_88 : Cond.methodLink RL 88 yX6_plan ∈ mm_tbl := mm_in3 115 rfl rfl
theorem w_im_X6_plan : Cond.instanceMethod yX6_plan ∈ mm_tbl := mm_in3 116 rfl rfl
theorem w_se_X6_plan : Cond.selects yX6_plan.cls yX6_plan yX6_plan ∈ mm_tbl := mm_in3 117 rfl rfl
theorem w_ml_L_91 : Cond.methodLink RL 91 yX7_plan ∈ mm_tbl := mm_in5 162 rfl rfl
theorem w_im_X7_plan : Cond.instanceMethod yX7_plan ∈ mm_tbl := mm_in5 163 rfl rfl
theorem w_se_X7_plan : Cond.selects yX7_plan.cls yX7_plan yX7_plan ∈ mm_tbl := mm_in5 164 rfl rfl
theorem w_ml_L_84 : Cond.methodLink RL 84 yX6_slots ∈ mm_tbl := mm_in3 105 rfl rfl
theorem w_im_X6_slots : Cond.instanceMethod yX6_slots ∈ mm_tbl := mm_in3 106 rfl rfl
theorem w_se_X6_slots : Cond.selects yX6_slots.cls yX6_slots yX6_slots ∈ mm_tbl := mm_in3 107 rfl rfl
theorem w_ml_L_87 : Cond.methodLink RL 87 yX7_slots ∈ mm_tbl := mm_in5 154 rfl rfl
theorem w_im_X7_slots : Cond.instanceMethod yX7_slots ∈ mm_tbl := mm_in5 155 rfl rfl
theorem w_se_X7_slots : Cond.selects yX7_slots.cls yX7_slots yX7_slots ∈ mm_tbl := mm_in5 156 rfl rfl
theorem w_ml_L_80 : Cond.methodLink RL 80 yX6_takes ∈ mm_tbl := mm_in3 95 rfl rfl
theorem w_im_X6_takes : Cond.instanceMethod yX6_takes ∈ mm_tbl := mm_in3 96 rfl rfl
theorem w_se_X6_takes : Cond.selects yX6_takes.cls yX6_takes yX6_takes ∈ mm_tbl := mm_in3 97 rfl rfl
theorem w_ml_L_83 : Cond.methodLink RL 83 yX7_takes ∈ mm_tbl := mm_in5 139 rfl rfl
theorem w_im_X7_takes : Cond.instanceMethod yX7_takes ∈ mm_tbl := mm_in5 140 rfl rfl
theorem w_se_X7_takes : Cond.selects yX7_takes.cls yX7_takes yX7_takes ∈ mm_tbl := mm_in5 141 rfl rfl
theorem w_ml_L_75 : Cond.methodLink RL 75 yX6_curve ∈ mm_tbl := mm_in3 87 rfl rfl
theorem w_im_X6_curve : Cond.instanceMethod yX6_curve ∈ mm_tbl := mm_in3 88 rfl rfl
theorem w_se_X6_curve : Cond.selects yX6_curve.cls yX6_curve yX6_curve ∈ mm_tbl := mm_in3 89 rfl rfl
theorem w_ml_L_79 : Cond.methodLink RL 79 yX7_curve ∈ mm_tbl := mm_in5 135 rfl rfl
theorem w_im_X7_curve : Cond.instanceMethod yX7_curve ∈ mm_tbl := mm_in5 136 rfl rfl
theorem w_se_X7_curve : Cond.selects yX7_curve.cls yX7_curve yX7_curve ∈ mm_tbl := mm_in5 137 rfl rfl
theorem w_ml_L_71 : Cond.methodLink RL 71 yX7_told ∈ mm_tbl := mm_in5 127 rfl rfl
theorem w_im_X7_told : Cond.instanceMethod yX7_told ∈ mm_tbl := mm_in5 128 rfl rfl
theorem w_se_X7_told : Cond.selects yX7_told.cls yX7_told yX7_told ∈ mm_tbl := mm_in5 129 rfl rfl
theorem w_ml_L_72 : Cond.methodLink RL 72 yX7_thrown ∈ mm_tbl := mm_in4 224 rfl rfl
theorem w_im_X7_thrown : Cond.instanceMethod yX7_thrown ∈ mm_tbl := mm_in4 225 rfl rfl
theorem w_se_X7_thrown : Cond.selects yX7_thrown.cls yX7_thrown yX7_thrown ∈ mm_tbl := mm_in4 226 rfl rfl
theorem w_ml_L_61 : Cond.methodLink RL 61 yX6_count ∈ mm_tbl := mm_in3 83 rfl rfl
theorem w_im_X6_count : Cond.instanceMethod yX6_count ∈ mm_tbl := mm_in3 84 rfl rfl
theorem w_se_X6_count : Cond.selects yX6_count.cls yX6_count yX6_count ∈ mm_tbl := mm_in3 85 rfl rfl
theorem w_ml_L_65 : Cond.methodLink RL 65 yX7_count ∈ mm_tbl := mm_in5 123 rfl rfl
theorem w_im_X7_count : Cond.instanceMethod yX7_count ∈ mm_tbl := mm_in5 124 rfl rfl
theorem w_se_X7_count : Cond.selects yX7_count.cls yX7_count yX7_count ∈ mm_tbl := mm_in5 125 rfl rfl
theorem w_ml_L_57 : Cond.methodLink RL 57 yX6_clear ∈ mm_tbl := mm_in3 40 rfl rfl
theorem w_im_X6_clear : Cond.instanceMethod yX6_clear ∈ mm_tbl := mm_in3 41 rfl rfl
theorem w_se_X6_clear : Cond.selects yX6_clear.cls yX6_clear yX6_clear ∈ mm_tbl := mm_in3 42 rfl rfl
theorem w_ml_L_60 : Cond.methodLink RL 60 yX7_clear ∈ mm_tbl := mm_in5 112 rfl rfl
theorem w_im_X7_clear : Cond.instanceMethod yX7_clear ∈ mm_tbl := mm_in5 113 rfl rfl
theorem w_se_X7_clear : Cond.selects yX7_clear.cls yX7_clear yX7_clear ∈ mm_tbl := mm_in5 114 rfl rfl
theorem w_ml_L_56 : Cond.methodLink RL 56 yX7_charge ∈ mm_tbl := mm_in5 100 rfl rfl
theorem w_im_X7_charge : Cond.instanceMethod yX7_charge ∈ mm_tbl := mm_in5 101 rfl rfl
theorem w_se_X7_charge : Cond.selects yX7_charge.cls yX7_charge yX7_charge ∈ mm_tbl := mm_in5 102 rfl rfl
theorem w_ml_L_52 : Cond.methodLink RL 52 yX6_charge ∈ mm_tbl := mm_in3 31 rfl rfl
theorem w_im_X6_charge : Cond.instanceMethod yX6_charge ∈ mm_tbl := mm_in3 32 rfl rfl
theorem w_se_X6_charge : Cond.selects yX6_charge.cls yX6_charge yX6_charge ∈ mm_tbl := mm_in3 33 rfl rfl
theorem w_ml_L_48 : Cond.methodLink RL 48 yX6_drop ∈ mm_tbl := mm_in3 23 rfl rfl
theorem w_im_X6_drop : Cond.instanceMethod yX6_drop ∈ mm_tbl := mm_in3 24 rfl rfl
theorem w_se_X6_drop : Cond.selects yX6_drop.cls yX6_drop yX6_drop ∈ mm_tbl := mm_in3 25 rfl rfl
theorem w_ml_L_51 : Cond.methodLink RL 51 yX7_drop ∈ mm_tbl := mm_in5 96 rfl rfl
theorem w_im_X7_drop : Cond.instanceMethod yX7_drop ∈ mm_tbl := mm_in5 97 rfl rfl
theorem w_se_X7_drop : Cond.selects yX7_drop.cls yX7_drop yX7_drop ∈ mm_tbl := mm_in5 98 rfl rfl
theorem w_ml_L_43 : Cond.methodLink RL 43 yX6_bus ∈ mm_tbl := mm_in3 17 rfl rfl
theorem w_im_X6_bus : Cond.instanceMethod yX6_bus ∈ mm_tbl := mm_in3 18 rfl rfl
theorem w_se_X6_bus : Cond.selects yX6_bus.cls yX6_bus yX6_bus ∈ mm_tbl := mm_in3 19 rfl rfl
theorem w_ml_L_47 : Cond.methodLink RL 47 yX7_bus ∈ mm_tbl := mm_in5 92 rfl rfl
theorem w_im_X7_bus : Cond.instanceMethod yX7_bus ∈ mm_tbl := mm_in5 93 rfl rfl
theorem w_se_X7_bus : Cond.selects yX7_bus.cls yX7_bus yX7_bus ∈ mm_tbl := mm_in5 94 rfl rfl
theorem w_ml_L_38 : Cond.methodLink RL 38 yX6_set ∈ mm_tbl := mm_in3 11 rfl rfl
theorem w_im_X6_set : Cond.instanceMethod yX6_set ∈ mm_tbl := mm_in3 12 rfl rfl
theorem w_se_X6_set : Cond.selects yX6_set.cls yX6_set yX6_set ∈ mm_tbl := mm_in3 13 rfl rfl
theorem w_ml_L_42 : Cond.methodLink RL 42 yX7_set ∈ mm_tbl := mm_in5 85 rfl rfl
theorem w_im_X7_set : Cond.instanceMethod yX7_set ∈ mm_tbl := mm_in5 86 rfl rfl
theorem w_se_X7_set : Cond.selects yX7_set.cls yX7_set yX7_set ∈ mm_tbl := mm_in5 87 rfl rfl
theorem w_ml_L_34 : Cond.methodLink RL 34 yX6_fault ∈ mm_tbl := mm_in3 7 rfl rfl
theorem w_im_X6_fault : Cond.instanceMethod yX6_fault ∈ mm_tbl := mm_in3 8 rfl rfl
theorem w_se_X6_fault : Cond.selects yX6_fault.cls yX6_fault yX6_fault ∈ mm_tbl := mm_in3 9 rfl rfl
theorem w_ml_L_37 : Cond.methodLink RL 37 yX7_fault ∈ mm_tbl := mm_in5 81 rfl rfl
theorem w_im_X7_fault : Cond.instanceMethod yX7_fault ∈ mm_tbl := mm_in5 82 rfl rfl
theorem w_se_X7_fault : Cond.selects yX7_fault.cls yX7_fault yX7_fault ∈ mm_tbl := mm_in5 83 rfl rfl
theorem w_ml_L_29 : Cond.methodLink RL 29 yX6_tell ∈ mm_tbl := mm_in2 55 rfl rfl
theorem w_im_X6_tell : Cond.instanceMethod yX6_tell ∈ mm_tbl := mm_in2 56 rfl rfl
theorem w_se_X6_tell : Cond.selects yX6_tell.cls yX6_tell yX6_tell ∈ mm_tbl := mm_in2 57 rfl rfl
theorem w_ml_L_33 : Cond.methodLink RL 33 yX7_tell ∈ mm_tbl := mm_in5 3 rfl rfl
theorem w_im_X7_tell : Cond.instanceMethod yX7_tell ∈ mm_tbl := mm_in5 4 rfl rfl
theorem w_se_X7_tell : Cond.selects yX7_tell.cls yX7_tell yX7_tell ∈ mm_tbl := mm_in5 5 rfl rfl
theorem w_ml_L_24 : Cond.methodLink RL 24 yX6_end ∈ mm_tbl := mm_in2 51 rfl rfl
theorem w_im_X6_end : Cond.instanceMethod yX6_end ∈ mm_tbl := mm_in2 52 rfl rfl
theorem w_se_X6_end : Cond.selects yX6_end.cls yX6_end yX6_end ∈ mm_tbl := mm_in2 53 rfl rfl
theorem w_ml_L_28 : Cond.methodLink RL 28 yX7_end ∈ mm_tbl := mm_in4 236 rfl rfl
theorem w_im_X7_end : Cond.instanceMethod yX7_end ∈ mm_tbl := mm_in4 237 rfl rfl
theorem w_se_X7_end : Cond.selects yX7_end.cls yX7_end yX7_end ∈ mm_tbl := mm_in4 238 rfl rfl
theorem w_ml_L_19 : Cond.methodLink RL 19 yX6_feed ∈ mm_tbl := mm_in2 43 rfl rfl
theorem w_im_X6_feed : Cond.instanceMethod yX6_feed ∈ mm_tbl := mm_in2 44 rfl rfl
theorem w_se_X6_feed : Cond.selects yX6_feed.cls yX6_feed yX6_feed ∈ mm_tbl := mm_in2 45 rfl rfl
theorem w_ml_L_23 : Cond.methodLink RL 23 yX7_feed ∈ mm_tbl := mm_in4 228 rfl rfl
theorem w_im_X7_feed : Cond.instanceMethod yX7_feed ∈ mm_tbl := mm_in4 229 rfl rfl
theorem w_se_X7_feed : Cond.selects yX7_feed.cls yX7_feed yX7_feed ∈ mm_tbl := mm_in4 230 rfl rfl
abbrev jL_law : mm_J := (yL_law, cL_law, 7, (some .boolean), 11)
theorem dL_law_0 : decode cL_law 0 = .ok (.new 8, 3) := by decide +kernel
theorem dL_law_3 : decode cL_law 3 = .ok (.dup, 1) := by decide +kernel
theorem dL_law_4 : decode cL_law 4 = .ok (.invokespecial 15, 3) := by decide +kernel
theorem dL_law_7 : decode cL_law 7 = .ok (.astore_n 1, 1) := by decide +kernel
theorem dL_law_8 : decode cL_law 8 = .ok (.new 16, 3) := by decide +kernel
theorem dL_law_11 : decode cL_law 11 = .ok (.dup, 1) := by decide +kernel
theorem dL_law_12 : decode cL_law 12 = .ok (.invokespecial 18, 3) := by decide +kernel
theorem dL_law_15 : decode cL_law 15 = .ok (.astore_n 2, 1) := by decide +kernel
theorem dL_law_16 : decode cL_law 16 = .ok (.iconst 1, 1) := by decide +kernel
theorem dL_law_17 : decode cL_law 17 = .ok (.newarray .long, 2) := by decide +kernel
theorem dL_law_19 : decode cL_law 19 = .ok (.astore_n 3, 1) := by decide +kernel
theorem dL_law_20 : decode cL_law 20 = .ok (.iconst 0, 1) := by decide +kernel
theorem dL_law_21 : decode cL_law 21 = .ok (.istore 4, 2) := by decide +kernel
theorem dL_law_23 : decode cL_law 23 = .ok (.iload 4, 2) := by decide +kernel
theorem dL_law_25 : decode cL_law 25 = .ok (.aload_n 0, 1) := by decide +kernel
theorem dL_law_26 : decode cL_law 26 = .ok (.arraylength, 1) := by decide +kernel
theorem dL_law_27 : decode cL_law 27 = .ok (.bipush 7, 2) := by decide +kernel
theorem dL_law_29 : decode cL_law 29 = .ok (.isub, 1) := by decide +kernel
theorem dL_law_30 : decode cL_law 30 = .ok (.if_icmp .gt 1114, 3) := by decide +kernel
theorem dL_law_33 : decode cL_law 33 = .ok (.aload_n 0, 1) := by decide +kernel
theorem dL_law_34 : decode cL_law 34 = .ok (.iload 4, 2) := by decide +kernel
theorem dL_law_36 : decode cL_law 36 = .ok (.iaload, 1) := by decide +kernel
theorem dL_law_37 : decode cL_law 37 = .ok (.bipush 31, 2) := by decide +kernel
theorem dL_law_39 : decode cL_law 39 = .ok (.iand, 1) := by decide +kernel
theorem dL_law_40 : decode cL_law 40 = .ok (.tableswitch 1098 0 28 #[132, 205, 230, 243, 256, 293, 380, 393, 458, 471, 496, 564, 613, 650, 699, 724, 761, 786, 811, 836, 861, 874, 911, 936, 973, 998, 1023, 1060, 1085], 132) := by decide +kernel
theorem dL_law_172 : decode cL_law 172 = .ok (.aload_n 1, 1) := by decide +kernel
theorem dL_law_173 : decode cL_law 173 = .ok (.aload_n 0, 1) := by decide +kernel
theorem dL_law_174 : decode cL_law 174 = .ok (.iload 4, 2) := by decide +kernel
theorem dL_law_176 : decode cL_law 176 = .ok (.iconst 1, 1) := by decide +kernel
theorem dL_law_177 : decode cL_law 177 = .ok (.iadd, 1) := by decide +kernel
theorem dL_law_178 : decode cL_law 178 = .ok (.iaload, 1) := by decide +kernel
theorem dL_law_179 : decode cL_law 179 = .ok (.aload_n 0, 1) := by decide +kernel
theorem dL_law_180 : decode cL_law 180 = .ok (.iload 4, 2) := by decide +kernel
theorem dL_law_182 : decode cL_law 182 = .ok (.iconst 2, 1) := by decide +kernel
theorem dL_law_183 : decode cL_law 183 = .ok (.iadd, 1) := by decide +kernel
theorem dL_law_184 : decode cL_law 184 = .ok (.iaload, 1) := by decide +kernel
theorem dL_law_185 : decode cL_law 185 = .ok (.aload_n 0, 1) := by decide +kernel
theorem dL_law_186 : decode cL_law 186 = .ok (.iload 4, 2) := by decide +kernel
theorem dL_law_188 : decode cL_law 188 = .ok (.iconst 3, 1) := by decide +kernel
theorem dL_law_189 : decode cL_law 189 = .ok (.iadd, 1) := by decide +kernel
theorem dL_law_190 : decode cL_law 190 = .ok (.iaload, 1) := by decide +kernel
theorem dL_law_191 : decode cL_law 191 = .ok (.aload_n 0, 1) := by decide +kernel
theorem dL_law_192 : decode cL_law 192 = .ok (.iload 4, 2) := by decide +kernel
theorem dL_law_194 : decode cL_law 194 = .ok (.iconst 4, 1) := by decide +kernel
theorem dL_law_195 : decode cL_law 195 = .ok (.iadd, 1) := by decide +kernel
theorem dL_law_196 : decode cL_law 196 = .ok (.iaload, 1) := by decide +kernel
theorem dL_law_197 : decode cL_law 197 = .ok (.aload_n 0, 1) := by decide +kernel
theorem dL_law_198 : decode cL_law 198 = .ok (.iload 4, 2) := by decide +kernel
theorem dL_law_200 : decode cL_law 200 = .ok (.iconst 5, 1) := by decide +kernel
theorem dL_law_201 : decode cL_law 201 = .ok (.iadd, 1) := by decide +kernel
theorem dL_law_202 : decode cL_law 202 = .ok (.iaload, 1) := by decide +kernel
theorem dL_law_203 : decode cL_law 203 = .ok (.invokevirtual 19, 3) := by decide +kernel
theorem dL_law_206 : decode cL_law 206 = .ok (.aload_n 2, 1) := by decide +kernel
theorem dL_law_207 : decode cL_law 207 = .ok (.aload_n 0, 1) := by decide +kernel
theorem dL_law_208 : decode cL_law 208 = .ok (.iload 4, 2) := by decide +kernel
theorem dL_law_210 : decode cL_law 210 = .ok (.iconst 1, 1) := by decide +kernel
theorem dL_law_211 : decode cL_law 211 = .ok (.iadd, 1) := by decide +kernel
theorem dL_law_212 : decode cL_law 212 = .ok (.iaload, 1) := by decide +kernel
theorem dL_law_213 : decode cL_law 213 = .ok (.aload_n 0, 1) := by decide +kernel
theorem dL_law_214 : decode cL_law 214 = .ok (.iload 4, 2) := by decide +kernel
theorem dL_law_216 : decode cL_law 216 = .ok (.iconst 2, 1) := by decide +kernel
theorem dL_law_217 : decode cL_law 217 = .ok (.iadd, 1) := by decide +kernel
theorem dL_law_218 : decode cL_law 218 = .ok (.iaload, 1) := by decide +kernel
theorem dL_law_219 : decode cL_law 219 = .ok (.aload_n 0, 1) := by decide +kernel
theorem dL_law_220 : decode cL_law 220 = .ok (.iload 4, 2) := by decide +kernel
theorem dL_law_222 : decode cL_law 222 = .ok (.iconst 3, 1) := by decide +kernel
theorem dL_law_223 : decode cL_law 223 = .ok (.iadd, 1) := by decide +kernel
theorem dL_law_224 : decode cL_law 224 = .ok (.iaload, 1) := by decide +kernel
theorem dL_law_225 : decode cL_law 225 = .ok (.aload_n 0, 1) := by decide +kernel
theorem dL_law_226 : decode cL_law 226 = .ok (.iload 4, 2) := by decide +kernel
theorem dL_law_228 : decode cL_law 228 = .ok (.iconst 4, 1) := by decide +kernel
theorem dL_law_229 : decode cL_law 229 = .ok (.iadd, 1) := by decide +kernel
theorem dL_law_230 : decode cL_law 230 = .ok (.iaload, 1) := by decide +kernel
theorem dL_law_231 : decode cL_law 231 = .ok (.aload_n 0, 1) := by decide +kernel
theorem dL_law_232 : decode cL_law 232 = .ok (.iload 4, 2) := by decide +kernel
theorem dL_law_234 : decode cL_law 234 = .ok (.iconst 5, 1) := by decide +kernel
theorem dL_law_235 : decode cL_law 235 = .ok (.iadd, 1) := by decide +kernel
theorem dL_law_236 : decode cL_law 236 = .ok (.iaload, 1) := by decide +kernel
theorem dL_law_237 : decode cL_law 237 = .ok (.invokevirtual 23, 3) := by decide +kernel
theorem dL_law_240 : decode cL_law 240 = .ok (.if_icmp .eq 898, 3) := by decide +kernel
theorem dL_law_243 : decode cL_law 243 = .ok (.iconst 0, 1) := by decide +kernel
theorem dL_law_244 : decode cL_law 244 = .ok (.ireturn, 1) := by decide +kernel
theorem dL_law_245 : decode cL_law 245 = .ok (.aload_n 1, 1) := by decide +kernel
theorem dL_law_246 : decode cL_law 246 = .ok (.aload_n 0, 1) := by decide +kernel
theorem dL_law_247 : decode cL_law 247 = .ok (.iload 4, 2) := by decide +kernel
theorem dL_law_249 : decode cL_law 249 = .ok (.iconst 1, 1) := by decide +kernel
theorem dL_law_250 : decode cL_law 250 = .ok (.iadd, 1) := by decide +kernel
theorem dL_law_251 : decode cL_law 251 = .ok (.iaload, 1) := by decide +kernel
theorem dL_law_252 : decode cL_law 252 = .ok (.invokevirtual 24, 3) := by decide +kernel
theorem dL_law_255 : decode cL_law 255 = .ok (.aload_n 2, 1) := by decide +kernel
theorem dL_law_256 : decode cL_law 256 = .ok (.aload_n 0, 1) := by decide +kernel
theorem dL_law_257 : decode cL_law 257 = .ok (.iload 4, 2) := by decide +kernel
theorem dL_law_259 : decode cL_law 259 = .ok (.iconst 1, 1) := by decide +kernel
theorem dL_law_260 : decode cL_law 260 = .ok (.iadd, 1) := by decide +kernel
theorem dL_law_261 : decode cL_law 261 = .ok (.iaload, 1) := by decide +kernel
theorem dL_law_262 : decode cL_law 262 = .ok (.invokevirtual 28, 3) := by decide +kernel
theorem dL_law_265 : decode cL_law 265 = .ok (.if_icmp .eq 873, 3) := by decide +kernel
theorem dL_law_268 : decode cL_law 268 = .ok (.iconst 0, 1) := by decide +kernel
theorem dL_law_269 : decode cL_law 269 = .ok (.ireturn, 1) := by decide +kernel
theorem dL_law_270 : decode cL_law 270 = .ok (.aload_n 1, 1) := by decide +kernel
theorem dL_law_271 : decode cL_law 271 = .ok (.invokevirtual 29, 3) := by decide +kernel
theorem dL_law_274 : decode cL_law 274 = .ok (.aload_n 2, 1) := by decide +kernel
theorem dL_law_275 : decode cL_law 275 = .ok (.invokevirtual 33, 3) := by decide +kernel
theorem dL_law_278 : decode cL_law 278 = .ok (.if_icmp .eq 860, 3) := by decide +kernel
theorem dL_law_281 : decode cL_law 281 = .ok (.iconst 0, 1) := by decide +kernel
theorem dL_law_282 : decode cL_law 282 = .ok (.ireturn, 1) := by decide +kernel
theorem dL_law_283 : decode cL_law 283 = .ok (.aload_n 1, 1) := by decide +kernel
theorem dL_law_284 : decode cL_law 284 = .ok (.invokevirtual 34, 3) := by decide +kernel
theorem dL_law_287 : decode cL_law 287 = .ok (.aload_n 2, 1) := by decide +kernel
theorem dL_law_288 : decode cL_law 288 = .ok (.invokevirtual 37, 3) := by decide +kernel
theorem dL_law_291 : decode cL_law 291 = .ok (.if_icmp .eq 847, 3) := by decide +kernel
theorem dL_law_294 : decode cL_law 294 = .ok (.iconst 0, 1) := by decide +kernel
theorem dL_law_295 : decode cL_law 295 = .ok (.ireturn, 1) := by decide +kernel
theorem dL_law_296 : decode cL_law 296 = .ok (.aload_n 1, 1) := by decide +kernel
theorem dL_law_297 : decode cL_law 297 = .ok (.aload_n 0, 1) := by decide +kernel
theorem dL_law_298 : decode cL_law 298 = .ok (.iload 4, 2) := by decide +kernel
theorem dL_law_300 : decode cL_law 300 = .ok (.iconst 1, 1) := by decide +kernel
theorem dL_law_301 : decode cL_law 301 = .ok (.iadd, 1) := by decide +kernel
theorem dL_law_302 : decode cL_law 302 = .ok (.iaload, 1) := by decide +kernel
theorem dL_law_303 : decode cL_law 303 = .ok (.aload_n 0, 1) := by decide +kernel
theorem dL_law_304 : decode cL_law 304 = .ok (.iload 4, 2) := by decide +kernel
theorem dL_law_306 : decode cL_law 306 = .ok (.iconst 2, 1) := by decide +kernel
theorem dL_law_307 : decode cL_law 307 = .ok (.iadd, 1) := by decide +kernel
theorem dL_law_308 : decode cL_law 308 = .ok (.iaload, 1) := by decide +kernel
theorem dL_law_309 : decode cL_law 309 = .ok (.invokevirtual 38, 3) := by decide +kernel
theorem dL_law_312 : decode cL_law 312 = .ok (.aload_n 2, 1) := by decide +kernel
theorem dL_law_313 : decode cL_law 313 = .ok (.aload_n 0, 1) := by decide +kernel
theorem dL_law_314 : decode cL_law 314 = .ok (.iload 4, 2) := by decide +kernel
theorem dL_law_316 : decode cL_law 316 = .ok (.iconst 1, 1) := by decide +kernel
theorem dL_law_317 : decode cL_law 317 = .ok (.iadd, 1) := by decide +kernel
theorem dL_law_318 : decode cL_law 318 = .ok (.iaload, 1) := by decide +kernel
theorem dL_law_319 : decode cL_law 319 = .ok (.aload_n 0, 1) := by decide +kernel
theorem dL_law_320 : decode cL_law 320 = .ok (.iload 4, 2) := by decide +kernel
theorem dL_law_322 : decode cL_law 322 = .ok (.iconst 2, 1) := by decide +kernel
theorem dL_law_323 : decode cL_law 323 = .ok (.iadd, 1) := by decide +kernel
theorem dL_law_324 : decode cL_law 324 = .ok (.iaload, 1) := by decide +kernel
theorem dL_law_325 : decode cL_law 325 = .ok (.invokevirtual 42, 3) := by decide +kernel
theorem dL_law_328 : decode cL_law 328 = .ok (.if_icmp .eq 810, 3) := by decide +kernel
theorem dL_law_331 : decode cL_law 331 = .ok (.iconst 0, 1) := by decide +kernel
theorem dL_law_332 : decode cL_law 332 = .ok (.ireturn, 1) := by decide +kernel
theorem dL_law_333 : decode cL_law 333 = .ok (.aload_n 1, 1) := by decide +kernel
theorem dL_law_334 : decode cL_law 334 = .ok (.aload_n 0, 1) := by decide +kernel
theorem dL_law_335 : decode cL_law 335 = .ok (.iload 4, 2) := by decide +kernel
theorem dL_law_337 : decode cL_law 337 = .ok (.iconst 1, 1) := by decide +kernel
theorem dL_law_338 : decode cL_law 338 = .ok (.iadd, 1) := by decide +kernel
theorem dL_law_339 : decode cL_law 339 = .ok (.iaload, 1) := by decide +kernel
theorem dL_law_340 : decode cL_law 340 = .ok (.aload_n 0, 1) := by decide +kernel
theorem dL_law_341 : decode cL_law 341 = .ok (.iload 4, 2) := by decide +kernel
theorem dL_law_343 : decode cL_law 343 = .ok (.iconst 2, 1) := by decide +kernel
theorem dL_law_344 : decode cL_law 344 = .ok (.iadd, 1) := by decide +kernel
theorem dL_law_345 : decode cL_law 345 = .ok (.iaload, 1) := by decide +kernel
theorem dL_law_346 : decode cL_law 346 = .ok (.aload_n 0, 1) := by decide +kernel
theorem dL_law_347 : decode cL_law 347 = .ok (.iload 4, 2) := by decide +kernel
theorem dL_law_349 : decode cL_law 349 = .ok (.iconst 3, 1) := by decide +kernel
theorem dL_law_350 : decode cL_law 350 = .ok (.iadd, 1) := by decide +kernel
theorem dL_law_351 : decode cL_law 351 = .ok (.iaload, 1) := by decide +kernel
theorem dL_law_352 : decode cL_law 352 = .ok (.aload_n 0, 1) := by decide +kernel
theorem dL_law_353 : decode cL_law 353 = .ok (.iload 4, 2) := by decide +kernel
theorem dL_law_355 : decode cL_law 355 = .ok (.iconst 4, 1) := by decide +kernel
theorem dL_law_356 : decode cL_law 356 = .ok (.iadd, 1) := by decide +kernel
theorem dL_law_357 : decode cL_law 357 = .ok (.iaload, 1) := by decide +kernel
theorem dL_law_358 : decode cL_law 358 = .ok (.aload_n 0, 1) := by decide +kernel
theorem dL_law_359 : decode cL_law 359 = .ok (.iload 4, 2) := by decide +kernel
theorem dL_law_361 : decode cL_law 361 = .ok (.iconst 5, 1) := by decide +kernel
theorem dL_law_362 : decode cL_law 362 = .ok (.iadd, 1) := by decide +kernel
theorem dL_law_363 : decode cL_law 363 = .ok (.iaload, 1) := by decide +kernel
theorem dL_law_364 : decode cL_law 364 = .ok (.aload_n 0, 1) := by decide +kernel
theorem dL_law_365 : decode cL_law 365 = .ok (.iload 4, 2) := by decide +kernel
theorem dL_law_367 : decode cL_law 367 = .ok (.bipush 6, 2) := by decide +kernel
theorem dL_law_369 : decode cL_law 369 = .ok (.iadd, 1) := by decide +kernel
theorem dL_law_370 : decode cL_law 370 = .ok (.iaload, 1) := by decide +kernel
theorem dL_law_371 : decode cL_law 371 = .ok (.invokevirtual 43, 3) := by decide +kernel
theorem dL_law_374 : decode cL_law 374 = .ok (.aload_n 2, 1) := by decide +kernel
theorem dL_law_375 : decode cL_law 375 = .ok (.aload_n 0, 1) := by decide +kernel
theorem dL_law_376 : decode cL_law 376 = .ok (.iload 4, 2) := by decide +kernel
theorem dL_law_378 : decode cL_law 378 = .ok (.iconst 1, 1) := by decide +kernel
theorem dL_law_379 : decode cL_law 379 = .ok (.iadd, 1) := by decide +kernel
theorem dL_law_380 : decode cL_law 380 = .ok (.iaload, 1) := by decide +kernel
theorem dL_law_381 : decode cL_law 381 = .ok (.aload_n 0, 1) := by decide +kernel
theorem dL_law_382 : decode cL_law 382 = .ok (.iload 4, 2) := by decide +kernel
theorem dL_law_384 : decode cL_law 384 = .ok (.iconst 2, 1) := by decide +kernel
theorem dL_law_385 : decode cL_law 385 = .ok (.iadd, 1) := by decide +kernel
theorem dL_law_386 : decode cL_law 386 = .ok (.iaload, 1) := by decide +kernel
theorem dL_law_387 : decode cL_law 387 = .ok (.aload_n 0, 1) := by decide +kernel
theorem dL_law_388 : decode cL_law 388 = .ok (.iload 4, 2) := by decide +kernel
theorem dL_law_390 : decode cL_law 390 = .ok (.iconst 3, 1) := by decide +kernel
theorem dL_law_391 : decode cL_law 391 = .ok (.iadd, 1) := by decide +kernel
theorem dL_law_392 : decode cL_law 392 = .ok (.iaload, 1) := by decide +kernel
theorem dL_law_393 : decode cL_law 393 = .ok (.aload_n 0, 1) := by decide +kernel
theorem dL_law_394 : decode cL_law 394 = .ok (.iload 4, 2) := by decide +kernel
theorem dL_law_396 : decode cL_law 396 = .ok (.iconst 4, 1) := by decide +kernel
theorem dL_law_397 : decode cL_law 397 = .ok (.iadd, 1) := by decide +kernel
theorem dL_law_398 : decode cL_law 398 = .ok (.iaload, 1) := by decide +kernel
theorem dL_law_399 : decode cL_law 399 = .ok (.aload_n 0, 1) := by decide +kernel
theorem dL_law_400 : decode cL_law 400 = .ok (.iload 4, 2) := by decide +kernel
theorem dL_law_402 : decode cL_law 402 = .ok (.iconst 5, 1) := by decide +kernel
theorem dL_law_403 : decode cL_law 403 = .ok (.iadd, 1) := by decide +kernel
theorem dL_law_404 : decode cL_law 404 = .ok (.iaload, 1) := by decide +kernel
theorem dL_law_405 : decode cL_law 405 = .ok (.aload_n 0, 1) := by decide +kernel
theorem dL_law_406 : decode cL_law 406 = .ok (.iload 4, 2) := by decide +kernel
theorem dL_law_408 : decode cL_law 408 = .ok (.bipush 6, 2) := by decide +kernel
theorem dL_law_410 : decode cL_law 410 = .ok (.iadd, 1) := by decide +kernel
theorem dL_law_411 : decode cL_law 411 = .ok (.iaload, 1) := by decide +kernel
theorem dL_law_412 : decode cL_law 412 = .ok (.invokevirtual 47, 3) := by decide +kernel
theorem dL_law_415 : decode cL_law 415 = .ok (.if_icmp .eq 723, 3) := by decide +kernel
theorem dL_law_418 : decode cL_law 418 = .ok (.iconst 0, 1) := by decide +kernel
theorem dL_law_419 : decode cL_law 419 = .ok (.ireturn, 1) := by decide +kernel
theorem dL_law_420 : decode cL_law 420 = .ok (.aload_n 1, 1) := by decide +kernel
theorem dL_law_421 : decode cL_law 421 = .ok (.invokevirtual 48, 3) := by decide +kernel
theorem dL_law_424 : decode cL_law 424 = .ok (.aload_n 2, 1) := by decide +kernel
theorem dL_law_425 : decode cL_law 425 = .ok (.invokevirtual 51, 3) := by decide +kernel
theorem dL_law_428 : decode cL_law 428 = .ok (.if_icmp .eq 710, 3) := by decide +kernel
theorem dL_law_431 : decode cL_law 431 = .ok (.iconst 0, 1) := by decide +kernel
theorem dL_law_432 : decode cL_law 432 = .ok (.ireturn, 1) := by decide +kernel
theorem dL_law_433 : decode cL_law 433 = .ok (.aload_n 1, 1) := by decide +kernel
theorem dL_law_434 : decode cL_law 434 = .ok (.aload_n 0, 1) := by decide +kernel
theorem dL_law_435 : decode cL_law 435 = .ok (.iload 4, 2) := by decide +kernel
theorem dL_law_437 : decode cL_law 437 = .ok (.iconst 1, 1) := by decide +kernel
theorem dL_law_438 : decode cL_law 438 = .ok (.iadd, 1) := by decide +kernel
theorem dL_law_439 : decode cL_law 439 = .ok (.iaload, 1) := by decide +kernel
theorem dL_law_440 : decode cL_law 440 = .ok (.aload_n 0, 1) := by decide +kernel
theorem dL_law_441 : decode cL_law 441 = .ok (.iload 4, 2) := by decide +kernel
theorem dL_law_443 : decode cL_law 443 = .ok (.iconst 2, 1) := by decide +kernel
theorem dL_law_444 : decode cL_law 444 = .ok (.iadd, 1) := by decide +kernel
theorem dL_law_445 : decode cL_law 445 = .ok (.iaload, 1) := by decide +kernel
theorem dL_law_446 : decode cL_law 446 = .ok (.aload_n 0, 1) := by decide +kernel
theorem dL_law_447 : decode cL_law 447 = .ok (.iload 4, 2) := by decide +kernel
theorem dL_law_449 : decode cL_law 449 = .ok (.iconst 3, 1) := by decide +kernel
theorem dL_law_450 : decode cL_law 450 = .ok (.iadd, 1) := by decide +kernel
theorem dL_law_451 : decode cL_law 451 = .ok (.iaload, 1) := by decide +kernel
theorem dL_law_452 : decode cL_law 452 = .ok (.ifCond .eq 7, 3) := by decide +kernel
theorem dL_law_455 : decode cL_law 455 = .ok (.iconst 1, 1) := by decide +kernel
theorem dL_law_456 : decode cL_law 456 = .ok (.goto 4, 3) := by decide +kernel
theorem dL_law_459 : decode cL_law 459 = .ok (.iconst 0, 1) := by decide +kernel
theorem dL_law_460 : decode cL_law 460 = .ok (.invokevirtual 52, 3) := by decide +kernel
theorem dL_law_463 : decode cL_law 463 = .ok (.aload_n 2, 1) := by decide +kernel
theorem dL_law_464 : decode cL_law 464 = .ok (.aload_n 0, 1) := by decide +kernel
theorem dL_law_465 : decode cL_law 465 = .ok (.iload 4, 2) := by decide +kernel
theorem dL_law_467 : decode cL_law 467 = .ok (.iconst 1, 1) := by decide +kernel
theorem dL_law_468 : decode cL_law 468 = .ok (.iadd, 1) := by decide +kernel
theorem dL_law_469 : decode cL_law 469 = .ok (.iaload, 1) := by decide +kernel
theorem dL_law_470 : decode cL_law 470 = .ok (.aload_n 0, 1) := by decide +kernel
theorem dL_law_471 : decode cL_law 471 = .ok (.iload 4, 2) := by decide +kernel
theorem dL_law_473 : decode cL_law 473 = .ok (.iconst 2, 1) := by decide +kernel
theorem dL_law_474 : decode cL_law 474 = .ok (.iadd, 1) := by decide +kernel
theorem dL_law_475 : decode cL_law 475 = .ok (.iaload, 1) := by decide +kernel
theorem dL_law_476 : decode cL_law 476 = .ok (.aload_n 0, 1) := by decide +kernel
theorem dL_law_477 : decode cL_law 477 = .ok (.iload 4, 2) := by decide +kernel
theorem dL_law_479 : decode cL_law 479 = .ok (.iconst 3, 1) := by decide +kernel
theorem dL_law_480 : decode cL_law 480 = .ok (.iadd, 1) := by decide +kernel
theorem dL_law_481 : decode cL_law 481 = .ok (.iaload, 1) := by decide +kernel
theorem dL_law_482 : decode cL_law 482 = .ok (.ifCond .eq 7, 3) := by decide +kernel
theorem dL_law_485 : decode cL_law 485 = .ok (.iconst 1, 1) := by decide +kernel
theorem dL_law_486 : decode cL_law 486 = .ok (.goto 4, 3) := by decide +kernel
theorem dL_law_489 : decode cL_law 489 = .ok (.iconst 0, 1) := by decide +kernel
theorem dL_law_490 : decode cL_law 490 = .ok (.invokevirtual 56, 3) := by decide +kernel
theorem dL_law_493 : decode cL_law 493 = .ok (.if_icmp .eq 645, 3) := by decide +kernel
theorem dL_law_496 : decode cL_law 496 = .ok (.iconst 0, 1) := by decide +kernel
theorem dL_law_497 : decode cL_law 497 = .ok (.ireturn, 1) := by decide +kernel
theorem dL_law_498 : decode cL_law 498 = .ok (.aload_n 1, 1) := by decide +kernel
theorem dL_law_499 : decode cL_law 499 = .ok (.invokevirtual 57, 3) := by decide +kernel
theorem dL_law_502 : decode cL_law 502 = .ok (.aload_n 2, 1) := by decide +kernel
theorem dL_law_503 : decode cL_law 503 = .ok (.invokevirtual 60, 3) := by decide +kernel
theorem dL_law_506 : decode cL_law 506 = .ok (.if_icmp .eq 632, 3) := by decide +kernel
theorem dL_law_509 : decode cL_law 509 = .ok (.iconst 0, 1) := by decide +kernel
theorem dL_law_510 : decode cL_law 510 = .ok (.ireturn, 1) := by decide +kernel
theorem dL_law_511 : decode cL_law 511 = .ok (.aload_n 1, 1) := by decide +kernel
theorem dL_law_512 : decode cL_law 512 = .ok (.aload_n 0, 1) := by decide +kernel
theorem dL_law_513 : decode cL_law 513 = .ok (.iload 4, 2) := by decide +kernel
theorem dL_law_515 : decode cL_law 515 = .ok (.iconst 1, 1) := by decide +kernel
theorem dL_law_516 : decode cL_law 516 = .ok (.iadd, 1) := by decide +kernel
theorem dL_law_517 : decode cL_law 517 = .ok (.iaload, 1) := by decide +kernel
theorem dL_law_518 : decode cL_law 518 = .ok (.invokevirtual 61, 3) := by decide +kernel
theorem dL_law_521 : decode cL_law 521 = .ok (.aload_n 2, 1) := by decide +kernel
theorem dL_law_522 : decode cL_law 522 = .ok (.aload_n 0, 1) := by decide +kernel
theorem dL_law_523 : decode cL_law 523 = .ok (.iload 4, 2) := by decide +kernel
theorem dL_law_525 : decode cL_law 525 = .ok (.iconst 1, 1) := by decide +kernel
theorem dL_law_526 : decode cL_law 526 = .ok (.iadd, 1) := by decide +kernel
theorem dL_law_527 : decode cL_law 527 = .ok (.iaload, 1) := by decide +kernel
theorem dL_law_528 : decode cL_law 528 = .ok (.invokevirtual 65, 3) := by decide +kernel
theorem dL_law_531 : decode cL_law 531 = .ok (.if_icmp .eq 607, 3) := by decide +kernel
theorem dL_law_534 : decode cL_law 534 = .ok (.iconst 0, 1) := by decide +kernel
theorem dL_law_535 : decode cL_law 535 = .ok (.ireturn, 1) := by decide +kernel
theorem dL_law_536 : decode cL_law 536 = .ok (.aload_n 1, 1) := by decide +kernel
theorem dL_law_537 : decode cL_law 537 = .ok (.aload_n 0, 1) := by decide +kernel
theorem dL_law_538 : decode cL_law 538 = .ok (.iload 4, 2) := by decide +kernel
theorem dL_law_540 : decode cL_law 540 = .ok (.iconst 1, 1) := by decide +kernel
theorem dL_law_541 : decode cL_law 541 = .ok (.iadd, 1) := by decide +kernel
theorem dL_law_542 : decode cL_law 542 = .ok (.iaload, 1) := by decide +kernel
theorem dL_law_543 : decode cL_law 543 = .ok (.aload_n 0, 1) := by decide +kernel
theorem dL_law_544 : decode cL_law 544 = .ok (.iload 4, 2) := by decide +kernel
theorem dL_law_546 : decode cL_law 546 = .ok (.iconst 2, 1) := by decide +kernel
theorem dL_law_547 : decode cL_law 547 = .ok (.iadd, 1) := by decide +kernel
theorem dL_law_548 : decode cL_law 548 = .ok (.iaload, 1) := by decide +kernel
theorem dL_law_549 : decode cL_law 549 = .ok (.aload_n 3, 1) := by decide +kernel
theorem dL_law_550 : decode cL_law 550 = .ok (.invokestatic 66, 3) := by decide +kernel
theorem dL_law_553 : decode cL_law 553 = .ok (.istore 5, 2) := by decide +kernel
theorem dL_law_555 : decode cL_law 555 = .ok (.aload_n 2, 1) := by decide +kernel
theorem dL_law_556 : decode cL_law 556 = .ok (.aload_n 0, 1) := by decide +kernel
theorem dL_law_557 : decode cL_law 557 = .ok (.iload 4, 2) := by decide +kernel
theorem dL_law_559 : decode cL_law 559 = .ok (.iconst 1, 1) := by decide +kernel
theorem dL_law_560 : decode cL_law 560 = .ok (.iadd, 1) := by decide +kernel
theorem dL_law_561 : decode cL_law 561 = .ok (.iaload, 1) := by decide +kernel
theorem dL_law_562 : decode cL_law 562 = .ok (.aload_n 0, 1) := by decide +kernel
theorem dL_law_563 : decode cL_law 563 = .ok (.iload 4, 2) := by decide +kernel
theorem dL_law_565 : decode cL_law 565 = .ok (.iconst 2, 1) := by decide +kernel
theorem dL_law_566 : decode cL_law 566 = .ok (.iadd, 1) := by decide +kernel
theorem dL_law_567 : decode cL_law 567 = .ok (.iaload, 1) := by decide +kernel
theorem dL_law_568 : decode cL_law 568 = .ok (.invokevirtual 71, 3) := by decide +kernel
theorem dL_law_571 : decode cL_law 571 = .ok (.istore 6, 2) := by decide +kernel
theorem dL_law_573 : decode cL_law 573 = .ok (.aload_n 2, 1) := by decide +kernel
theorem dL_law_574 : decode cL_law 574 = .ok (.invokevirtual 72, 3) := by decide +kernel
theorem dL_law_577 : decode cL_law 577 = .ok (.iload 5, 2) := by decide +kernel
theorem dL_law_579 : decode cL_law 579 = .ok (.if_icmp .eq 5, 3) := by decide +kernel
theorem dL_law_582 : decode cL_law 582 = .ok (.iconst 0, 1) := by decide +kernel
theorem dL_law_583 : decode cL_law 583 = .ok (.ireturn, 1) := by decide +kernel
theorem dL_law_584 : decode cL_law 584 = .ok (.iload 5, 2) := by decide +kernel
theorem dL_law_586 : decode cL_law 586 = .ok (.ifCond .ne 15, 3) := by decide +kernel
theorem dL_law_589 : decode cL_law 589 = .ok (.aload_n 3, 1) := by decide +kernel
theorem dL_law_590 : decode cL_law 590 = .ok (.iconst 0, 1) := by decide +kernel
theorem dL_law_591 : decode cL_law 591 = .ok (.laload, 1) := by decide +kernel
theorem dL_law_592 : decode cL_law 592 = .ok (.iload 6, 2) := by decide +kernel
theorem dL_law_594 : decode cL_law 594 = .ok (.i2l, 1) := by decide +kernel
theorem dL_law_595 : decode cL_law 595 = .ok (.lcmp, 1) := by decide +kernel
theorem dL_law_596 : decode cL_law 596 = .ok (.ifCond .eq 5, 3) := by decide +kernel
theorem dL_law_599 : decode cL_law 599 = .ok (.iconst 0, 1) := by decide +kernel
theorem dL_law_600 : decode cL_law 600 = .ok (.ireturn, 1) := by decide +kernel
theorem dL_law_601 : decode cL_law 601 = .ok (.goto 537, 3) := by decide +kernel
theorem dL_law_604 : decode cL_law 604 = .ok (.aload_n 1, 1) := by decide +kernel
theorem dL_law_605 : decode cL_law 605 = .ok (.aload_n 0, 1) := by decide +kernel
theorem dL_law_606 : decode cL_law 606 = .ok (.iload 4, 2) := by decide +kernel
theorem dL_law_608 : decode cL_law 608 = .ok (.iconst 1, 1) := by decide +kernel
theorem dL_law_609 : decode cL_law 609 = .ok (.iadd, 1) := by decide +kernel
theorem dL_law_610 : decode cL_law 610 = .ok (.iaload, 1) := by decide +kernel
theorem dL_law_611 : decode cL_law 611 = .ok (.aload_n 0, 1) := by decide +kernel
theorem dL_law_612 : decode cL_law 612 = .ok (.iload 4, 2) := by decide +kernel
theorem dL_law_614 : decode cL_law 614 = .ok (.iconst 2, 1) := by decide +kernel
theorem dL_law_615 : decode cL_law 615 = .ok (.iadd, 1) := by decide +kernel
theorem dL_law_616 : decode cL_law 616 = .ok (.iaload, 1) := by decide +kernel
theorem dL_law_617 : decode cL_law 617 = .ok (.aload_n 0, 1) := by decide +kernel
theorem dL_law_618 : decode cL_law 618 = .ok (.iload 4, 2) := by decide +kernel
theorem dL_law_620 : decode cL_law 620 = .ok (.iconst 3, 1) := by decide +kernel
theorem dL_law_621 : decode cL_law 621 = .ok (.iadd, 1) := by decide +kernel
theorem dL_law_622 : decode cL_law 622 = .ok (.iaload, 1) := by decide +kernel
theorem dL_law_623 : decode cL_law 623 = .ok (.invokevirtual 75, 3) := by decide +kernel
theorem dL_law_626 : decode cL_law 626 = .ok (.aload_n 2, 1) := by decide +kernel
theorem dL_law_627 : decode cL_law 627 = .ok (.aload_n 0, 1) := by decide +kernel
theorem dL_law_628 : decode cL_law 628 = .ok (.iload 4, 2) := by decide +kernel
theorem dL_law_630 : decode cL_law 630 = .ok (.iconst 1, 1) := by decide +kernel
theorem dL_law_631 : decode cL_law 631 = .ok (.iadd, 1) := by decide +kernel
theorem dL_law_632 : decode cL_law 632 = .ok (.iaload, 1) := by decide +kernel
theorem dL_law_633 : decode cL_law 633 = .ok (.aload_n 0, 1) := by decide +kernel
theorem dL_law_634 : decode cL_law 634 = .ok (.iload 4, 2) := by decide +kernel
theorem dL_law_636 : decode cL_law 636 = .ok (.iconst 2, 1) := by decide +kernel
theorem dL_law_637 : decode cL_law 637 = .ok (.iadd, 1) := by decide +kernel
theorem dL_law_638 : decode cL_law 638 = .ok (.iaload, 1) := by decide +kernel
theorem dL_law_639 : decode cL_law 639 = .ok (.aload_n 0, 1) := by decide +kernel
theorem dL_law_640 : decode cL_law 640 = .ok (.iload 4, 2) := by decide +kernel
theorem dL_law_642 : decode cL_law 642 = .ok (.iconst 3, 1) := by decide +kernel
theorem dL_law_643 : decode cL_law 643 = .ok (.iadd, 1) := by decide +kernel
theorem dL_law_644 : decode cL_law 644 = .ok (.iaload, 1) := by decide +kernel
theorem dL_law_645 : decode cL_law 645 = .ok (.invokevirtual 79, 3) := by decide +kernel
theorem dL_law_648 : decode cL_law 648 = .ok (.if_icmp .eq 490, 3) := by decide +kernel
theorem dL_law_651 : decode cL_law 651 = .ok (.iconst 0, 1) := by decide +kernel
theorem dL_law_652 : decode cL_law 652 = .ok (.ireturn, 1) := by decide +kernel
theorem dL_law_653 : decode cL_law 653 = .ok (.aload_n 1, 1) := by decide +kernel
theorem dL_law_654 : decode cL_law 654 = .ok (.aload_n 0, 1) := by decide +kernel
theorem dL_law_655 : decode cL_law 655 = .ok (.iload 4, 2) := by decide +kernel
theorem dL_law_657 : decode cL_law 657 = .ok (.iconst 1, 1) := by decide +kernel
theorem dL_law_658 : decode cL_law 658 = .ok (.iadd, 1) := by decide +kernel
theorem dL_law_659 : decode cL_law 659 = .ok (.iaload, 1) := by decide +kernel
theorem dL_law_660 : decode cL_law 660 = .ok (.aload_n 0, 1) := by decide +kernel
theorem dL_law_661 : decode cL_law 661 = .ok (.iload 4, 2) := by decide +kernel
theorem dL_law_663 : decode cL_law 663 = .ok (.iconst 2, 1) := by decide +kernel
theorem dL_law_664 : decode cL_law 664 = .ok (.iadd, 1) := by decide +kernel
theorem dL_law_665 : decode cL_law 665 = .ok (.iaload, 1) := by decide +kernel
theorem dL_law_666 : decode cL_law 666 = .ok (.invokevirtual 80, 3) := by decide +kernel
theorem dL_law_669 : decode cL_law 669 = .ok (.aload_n 2, 1) := by decide +kernel
theorem dL_law_670 : decode cL_law 670 = .ok (.aload_n 0, 1) := by decide +kernel
theorem dL_law_671 : decode cL_law 671 = .ok (.iload 4, 2) := by decide +kernel
theorem dL_law_673 : decode cL_law 673 = .ok (.iconst 1, 1) := by decide +kernel
theorem dL_law_674 : decode cL_law 674 = .ok (.iadd, 1) := by decide +kernel
theorem dL_law_675 : decode cL_law 675 = .ok (.iaload, 1) := by decide +kernel
theorem dL_law_676 : decode cL_law 676 = .ok (.aload_n 0, 1) := by decide +kernel
theorem dL_law_677 : decode cL_law 677 = .ok (.iload 4, 2) := by decide +kernel
theorem dL_law_679 : decode cL_law 679 = .ok (.iconst 2, 1) := by decide +kernel
theorem dL_law_680 : decode cL_law 680 = .ok (.iadd, 1) := by decide +kernel
theorem dL_law_681 : decode cL_law 681 = .ok (.iaload, 1) := by decide +kernel
theorem dL_law_682 : decode cL_law 682 = .ok (.invokevirtual 83, 3) := by decide +kernel
theorem dL_law_685 : decode cL_law 685 = .ok (.if_icmp .eq 453, 3) := by decide +kernel
theorem dL_law_688 : decode cL_law 688 = .ok (.iconst 0, 1) := by decide +kernel
theorem dL_law_689 : decode cL_law 689 = .ok (.ireturn, 1) := by decide +kernel
theorem dL_law_690 : decode cL_law 690 = .ok (.aload_n 1, 1) := by decide +kernel
theorem dL_law_691 : decode cL_law 691 = .ok (.aload_n 0, 1) := by decide +kernel
theorem dL_law_692 : decode cL_law 692 = .ok (.iload 4, 2) := by decide +kernel
theorem dL_law_694 : decode cL_law 694 = .ok (.iconst 1, 1) := by decide +kernel
theorem dL_law_695 : decode cL_law 695 = .ok (.iadd, 1) := by decide +kernel
theorem dL_law_696 : decode cL_law 696 = .ok (.iaload, 1) := by decide +kernel
theorem dL_law_697 : decode cL_law 697 = .ok (.aload_n 0, 1) := by decide +kernel
theorem dL_law_698 : decode cL_law 698 = .ok (.iload 4, 2) := by decide +kernel
theorem dL_law_700 : decode cL_law 700 = .ok (.iconst 2, 1) := by decide +kernel
theorem dL_law_701 : decode cL_law 701 = .ok (.iadd, 1) := by decide +kernel
theorem dL_law_702 : decode cL_law 702 = .ok (.iaload, 1) := by decide +kernel
theorem dL_law_703 : decode cL_law 703 = .ok (.aload_n 0, 1) := by decide +kernel
theorem dL_law_704 : decode cL_law 704 = .ok (.iload 4, 2) := by decide +kernel
theorem dL_law_706 : decode cL_law 706 = .ok (.iconst 3, 1) := by decide +kernel
theorem dL_law_707 : decode cL_law 707 = .ok (.iadd, 1) := by decide +kernel
theorem dL_law_708 : decode cL_law 708 = .ok (.iaload, 1) := by decide +kernel
theorem dL_law_709 : decode cL_law 709 = .ok (.invokevirtual 84, 3) := by decide +kernel
theorem dL_law_712 : decode cL_law 712 = .ok (.aload_n 2, 1) := by decide +kernel
theorem dL_law_713 : decode cL_law 713 = .ok (.aload_n 0, 1) := by decide +kernel
theorem dL_law_714 : decode cL_law 714 = .ok (.iload 4, 2) := by decide +kernel
theorem dL_law_716 : decode cL_law 716 = .ok (.iconst 1, 1) := by decide +kernel
theorem dL_law_717 : decode cL_law 717 = .ok (.iadd, 1) := by decide +kernel
theorem dL_law_718 : decode cL_law 718 = .ok (.iaload, 1) := by decide +kernel
theorem dL_law_719 : decode cL_law 719 = .ok (.aload_n 0, 1) := by decide +kernel
theorem dL_law_720 : decode cL_law 720 = .ok (.iload 4, 2) := by decide +kernel
theorem dL_law_722 : decode cL_law 722 = .ok (.iconst 2, 1) := by decide +kernel
theorem dL_law_723 : decode cL_law 723 = .ok (.iadd, 1) := by decide +kernel
theorem dL_law_724 : decode cL_law 724 = .ok (.iaload, 1) := by decide +kernel
theorem dL_law_725 : decode cL_law 725 = .ok (.aload_n 0, 1) := by decide +kernel
theorem dL_law_726 : decode cL_law 726 = .ok (.iload 4, 2) := by decide +kernel
theorem dL_law_728 : decode cL_law 728 = .ok (.iconst 3, 1) := by decide +kernel
theorem dL_law_729 : decode cL_law 729 = .ok (.iadd, 1) := by decide +kernel
theorem dL_law_730 : decode cL_law 730 = .ok (.iaload, 1) := by decide +kernel
theorem dL_law_731 : decode cL_law 731 = .ok (.invokevirtual 87, 3) := by decide +kernel
theorem dL_law_734 : decode cL_law 734 = .ok (.if_icmp .eq 404, 3) := by decide +kernel
theorem dL_law_737 : decode cL_law 737 = .ok (.iconst 0, 1) := by decide +kernel
theorem dL_law_738 : decode cL_law 738 = .ok (.ireturn, 1) := by decide +kernel
theorem dL_law_739 : decode cL_law 739 = .ok (.aload_n 1, 1) := by decide +kernel
theorem dL_law_740 : decode cL_law 740 = .ok (.aload_n 0, 1) := by decide +kernel
theorem dL_law_741 : decode cL_law 741 = .ok (.iload 4, 2) := by decide +kernel
theorem dL_law_743 : decode cL_law 743 = .ok (.iconst 1, 1) := by decide +kernel
theorem dL_law_744 : decode cL_law 744 = .ok (.iadd, 1) := by decide +kernel
theorem dL_law_745 : decode cL_law 745 = .ok (.iaload, 1) := by decide +kernel
theorem dL_law_746 : decode cL_law 746 = .ok (.invokevirtual 88, 3) := by decide +kernel
theorem dL_law_749 : decode cL_law 749 = .ok (.aload_n 2, 1) := by decide +kernel
theorem dL_law_750 : decode cL_law 750 = .ok (.aload_n 0, 1) := by decide +kernel
theorem dL_law_751 : decode cL_law 751 = .ok (.iload 4, 2) := by decide +kernel
theorem dL_law_753 : decode cL_law 753 = .ok (.iconst 1, 1) := by decide +kernel
theorem dL_law_754 : decode cL_law 754 = .ok (.iadd, 1) := by decide +kernel
theorem dL_law_755 : decode cL_law 755 = .ok (.iaload, 1) := by decide +kernel
theorem dL_law_756 : decode cL_law 756 = .ok (.invokevirtual 91, 3) := by decide +kernel
theorem dL_law_759 : decode cL_law 759 = .ok (.if_icmp .eq 379, 3) := by decide +kernel
theorem dL_law_762 : decode cL_law 762 = .ok (.iconst 0, 1) := by decide +kernel
theorem dL_law_763 : decode cL_law 763 = .ok (.ireturn, 1) := by decide +kernel
theorem dL_law_764 : decode cL_law 764 = .ok (.aload_n 1, 1) := by decide +kernel
theorem dL_law_765 : decode cL_law 765 = .ok (.aload_n 0, 1) := by decide +kernel
theorem dL_law_766 : decode cL_law 766 = .ok (.iload 4, 2) := by decide +kernel
theorem dL_law_768 : decode cL_law 768 = .ok (.iconst 1, 1) := by decide +kernel
theorem dL_law_769 : decode cL_law 769 = .ok (.iadd, 1) := by decide +kernel
theorem dL_law_770 : decode cL_law 770 = .ok (.iaload, 1) := by decide +kernel
theorem dL_law_771 : decode cL_law 771 = .ok (.aload_n 0, 1) := by decide +kernel
theorem dL_law_772 : decode cL_law 772 = .ok (.iload 4, 2) := by decide +kernel
theorem dL_law_774 : decode cL_law 774 = .ok (.iconst 2, 1) := by decide +kernel
theorem dL_law_775 : decode cL_law 775 = .ok (.iadd, 1) := by decide +kernel
theorem dL_law_776 : decode cL_law 776 = .ok (.iaload, 1) := by decide +kernel
theorem dL_law_777 : decode cL_law 777 = .ok (.invokevirtual 92, 3) := by decide +kernel
theorem dL_law_780 : decode cL_law 780 = .ok (.aload_n 2, 1) := by decide +kernel
theorem dL_law_781 : decode cL_law 781 = .ok (.aload_n 0, 1) := by decide +kernel
theorem dL_law_782 : decode cL_law 782 = .ok (.iload 4, 2) := by decide +kernel
theorem dL_law_784 : decode cL_law 784 = .ok (.iconst 1, 1) := by decide +kernel
theorem dL_law_785 : decode cL_law 785 = .ok (.iadd, 1) := by decide +kernel
theorem dL_law_786 : decode cL_law 786 = .ok (.iaload, 1) := by decide +kernel
theorem dL_law_787 : decode cL_law 787 = .ok (.aload_n 0, 1) := by decide +kernel
theorem dL_law_788 : decode cL_law 788 = .ok (.iload 4, 2) := by decide +kernel
theorem dL_law_790 : decode cL_law 790 = .ok (.iconst 2, 1) := by decide +kernel
theorem dL_law_791 : decode cL_law 791 = .ok (.iadd, 1) := by decide +kernel
theorem dL_law_792 : decode cL_law 792 = .ok (.iaload, 1) := by decide +kernel
theorem dL_law_793 : decode cL_law 793 = .ok (.invokevirtual 95, 3) := by decide +kernel
theorem dL_law_796 : decode cL_law 796 = .ok (.if_icmp .eq 342, 3) := by decide +kernel
theorem dL_law_799 : decode cL_law 799 = .ok (.iconst 0, 1) := by decide +kernel
theorem dL_law_800 : decode cL_law 800 = .ok (.ireturn, 1) := by decide +kernel
theorem dL_law_801 : decode cL_law 801 = .ok (.aload_n 1, 1) := by decide +kernel
theorem dL_law_802 : decode cL_law 802 = .ok (.aload_n 0, 1) := by decide +kernel
theorem dL_law_803 : decode cL_law 803 = .ok (.iload 4, 2) := by decide +kernel
theorem dL_law_805 : decode cL_law 805 = .ok (.iconst 1, 1) := by decide +kernel
theorem dL_law_806 : decode cL_law 806 = .ok (.iadd, 1) := by decide +kernel
theorem dL_law_807 : decode cL_law 807 = .ok (.iaload, 1) := by decide +kernel
theorem dL_law_808 : decode cL_law 808 = .ok (.invokevirtual 96, 3) := by decide +kernel
theorem dL_law_811 : decode cL_law 811 = .ok (.aload_n 2, 1) := by decide +kernel
theorem dL_law_812 : decode cL_law 812 = .ok (.aload_n 0, 1) := by decide +kernel
theorem dL_law_813 : decode cL_law 813 = .ok (.iload 4, 2) := by decide +kernel
theorem dL_law_815 : decode cL_law 815 = .ok (.iconst 1, 1) := by decide +kernel
theorem dL_law_816 : decode cL_law 816 = .ok (.iadd, 1) := by decide +kernel
theorem dL_law_817 : decode cL_law 817 = .ok (.iaload, 1) := by decide +kernel
theorem dL_law_818 : decode cL_law 818 = .ok (.invokevirtual 99, 3) := by decide +kernel
theorem dL_law_821 : decode cL_law 821 = .ok (.if_icmp .eq 317, 3) := by decide +kernel
theorem dL_law_824 : decode cL_law 824 = .ok (.iconst 0, 1) := by decide +kernel
theorem dL_law_825 : decode cL_law 825 = .ok (.ireturn, 1) := by decide +kernel
theorem dL_law_826 : decode cL_law 826 = .ok (.aload_n 1, 1) := by decide +kernel
theorem dL_law_827 : decode cL_law 827 = .ok (.aload_n 0, 1) := by decide +kernel
theorem dL_law_828 : decode cL_law 828 = .ok (.iload 4, 2) := by decide +kernel
theorem dL_law_830 : decode cL_law 830 = .ok (.iconst 1, 1) := by decide +kernel
theorem dL_law_831 : decode cL_law 831 = .ok (.iadd, 1) := by decide +kernel
theorem dL_law_832 : decode cL_law 832 = .ok (.iaload, 1) := by decide +kernel
theorem dL_law_833 : decode cL_law 833 = .ok (.invokevirtual 100, 3) := by decide +kernel
theorem dL_law_836 : decode cL_law 836 = .ok (.aload_n 2, 1) := by decide +kernel
theorem dL_law_837 : decode cL_law 837 = .ok (.aload_n 0, 1) := by decide +kernel
theorem dL_law_838 : decode cL_law 838 = .ok (.iload 4, 2) := by decide +kernel
theorem dL_law_840 : decode cL_law 840 = .ok (.iconst 1, 1) := by decide +kernel
theorem dL_law_841 : decode cL_law 841 = .ok (.iadd, 1) := by decide +kernel
theorem dL_law_842 : decode cL_law 842 = .ok (.iaload, 1) := by decide +kernel
theorem dL_law_843 : decode cL_law 843 = .ok (.invokevirtual 103, 3) := by decide +kernel
theorem dL_law_846 : decode cL_law 846 = .ok (.if_icmp .eq 292, 3) := by decide +kernel
theorem dL_law_849 : decode cL_law 849 = .ok (.iconst 0, 1) := by decide +kernel
theorem dL_law_850 : decode cL_law 850 = .ok (.ireturn, 1) := by decide +kernel
theorem dL_law_851 : decode cL_law 851 = .ok (.aload_n 1, 1) := by decide +kernel
theorem dL_law_852 : decode cL_law 852 = .ok (.aload_n 0, 1) := by decide +kernel
theorem dL_law_853 : decode cL_law 853 = .ok (.iload 4, 2) := by decide +kernel
theorem dL_law_855 : decode cL_law 855 = .ok (.iconst 1, 1) := by decide +kernel
theorem dL_law_856 : decode cL_law 856 = .ok (.iadd, 1) := by decide +kernel
theorem dL_law_857 : decode cL_law 857 = .ok (.iaload, 1) := by decide +kernel
theorem dL_law_858 : decode cL_law 858 = .ok (.invokevirtual 104, 3) := by decide +kernel
theorem dL_law_861 : decode cL_law 861 = .ok (.aload_n 2, 1) := by decide +kernel
theorem dL_law_862 : decode cL_law 862 = .ok (.aload_n 0, 1) := by decide +kernel
theorem dL_law_863 : decode cL_law 863 = .ok (.iload 4, 2) := by decide +kernel
theorem dL_law_865 : decode cL_law 865 = .ok (.iconst 1, 1) := by decide +kernel
theorem dL_law_866 : decode cL_law 866 = .ok (.iadd, 1) := by decide +kernel
theorem dL_law_867 : decode cL_law 867 = .ok (.iaload, 1) := by decide +kernel
theorem dL_law_868 : decode cL_law 868 = .ok (.invokevirtual 107, 3) := by decide +kernel
theorem dL_law_871 : decode cL_law 871 = .ok (.if_icmp .eq 267, 3) := by decide +kernel
theorem dL_law_874 : decode cL_law 874 = .ok (.iconst 0, 1) := by decide +kernel
theorem dL_law_875 : decode cL_law 875 = .ok (.ireturn, 1) := by decide +kernel
theorem dL_law_876 : decode cL_law 876 = .ok (.aload_n 1, 1) := by decide +kernel
theorem dL_law_877 : decode cL_law 877 = .ok (.aload_n 0, 1) := by decide +kernel
theorem dL_law_878 : decode cL_law 878 = .ok (.iload 4, 2) := by decide +kernel
theorem dL_law_880 : decode cL_law 880 = .ok (.iconst 1, 1) := by decide +kernel
theorem dL_law_881 : decode cL_law 881 = .ok (.iadd, 1) := by decide +kernel
theorem dL_law_882 : decode cL_law 882 = .ok (.iaload, 1) := by decide +kernel
theorem dL_law_883 : decode cL_law 883 = .ok (.invokevirtual 108, 3) := by decide +kernel
theorem dL_law_886 : decode cL_law 886 = .ok (.aload_n 2, 1) := by decide +kernel
theorem dL_law_887 : decode cL_law 887 = .ok (.aload_n 0, 1) := by decide +kernel
theorem dL_law_888 : decode cL_law 888 = .ok (.iload 4, 2) := by decide +kernel
theorem dL_law_890 : decode cL_law 890 = .ok (.iconst 1, 1) := by decide +kernel
theorem dL_law_891 : decode cL_law 891 = .ok (.iadd, 1) := by decide +kernel
theorem dL_law_892 : decode cL_law 892 = .ok (.iaload, 1) := by decide +kernel
theorem dL_law_893 : decode cL_law 893 = .ok (.invokevirtual 111, 3) := by decide +kernel
theorem dL_law_896 : decode cL_law 896 = .ok (.if_icmp .eq 242, 3) := by decide +kernel
theorem dL_law_899 : decode cL_law 899 = .ok (.iconst 0, 1) := by decide +kernel
theorem dL_law_900 : decode cL_law 900 = .ok (.ireturn, 1) := by decide +kernel
theorem dL_law_901 : decode cL_law 901 = .ok (.aload_n 1, 1) := by decide +kernel
theorem dL_law_902 : decode cL_law 902 = .ok (.invokevirtual 112, 3) := by decide +kernel
theorem dL_law_905 : decode cL_law 905 = .ok (.aload_n 2, 1) := by decide +kernel
theorem dL_law_906 : decode cL_law 906 = .ok (.invokevirtual 115, 3) := by decide +kernel
theorem dL_law_909 : decode cL_law 909 = .ok (.if_icmp .eq 229, 3) := by decide +kernel
theorem dL_law_912 : decode cL_law 912 = .ok (.iconst 0, 1) := by decide +kernel
theorem dL_law_913 : decode cL_law 913 = .ok (.ireturn, 1) := by decide +kernel
theorem dL_law_914 : decode cL_law 914 = .ok (.aload_n 1, 1) := by decide +kernel
theorem dL_law_915 : decode cL_law 915 = .ok (.aload_n 0, 1) := by decide +kernel
theorem dL_law_916 : decode cL_law 916 = .ok (.iload 4, 2) := by decide +kernel
theorem dL_law_918 : decode cL_law 918 = .ok (.iconst 1, 1) := by decide +kernel
theorem dL_law_919 : decode cL_law 919 = .ok (.iadd, 1) := by decide +kernel
theorem dL_law_920 : decode cL_law 920 = .ok (.iaload, 1) := by decide +kernel
theorem dL_law_921 : decode cL_law 921 = .ok (.aload_n 0, 1) := by decide +kernel
theorem dL_law_922 : decode cL_law 922 = .ok (.iload 4, 2) := by decide +kernel
theorem dL_law_924 : decode cL_law 924 = .ok (.iconst 2, 1) := by decide +kernel
theorem dL_law_925 : decode cL_law 925 = .ok (.iadd, 1) := by decide +kernel
theorem dL_law_926 : decode cL_law 926 = .ok (.iaload, 1) := by decide +kernel
theorem dL_law_927 : decode cL_law 927 = .ok (.invokevirtual 116, 3) := by decide +kernel
theorem dL_law_930 : decode cL_law 930 = .ok (.aload_n 2, 1) := by decide +kernel
theorem dL_law_931 : decode cL_law 931 = .ok (.aload_n 0, 1) := by decide +kernel
theorem dL_law_932 : decode cL_law 932 = .ok (.iload 4, 2) := by decide +kernel
theorem dL_law_934 : decode cL_law 934 = .ok (.iconst 1, 1) := by decide +kernel
theorem dL_law_935 : decode cL_law 935 = .ok (.iadd, 1) := by decide +kernel
theorem dL_law_936 : decode cL_law 936 = .ok (.iaload, 1) := by decide +kernel
theorem dL_law_937 : decode cL_law 937 = .ok (.aload_n 0, 1) := by decide +kernel
theorem dL_law_938 : decode cL_law 938 = .ok (.iload 4, 2) := by decide +kernel
theorem dL_law_940 : decode cL_law 940 = .ok (.iconst 2, 1) := by decide +kernel
theorem dL_law_941 : decode cL_law 941 = .ok (.iadd, 1) := by decide +kernel
theorem dL_law_942 : decode cL_law 942 = .ok (.iaload, 1) := by decide +kernel
theorem dL_law_943 : decode cL_law 943 = .ok (.invokevirtual 119, 3) := by decide +kernel
theorem dL_law_946 : decode cL_law 946 = .ok (.if_icmp .eq 192, 3) := by decide +kernel
theorem dL_law_949 : decode cL_law 949 = .ok (.iconst 0, 1) := by decide +kernel
theorem dL_law_950 : decode cL_law 950 = .ok (.ireturn, 1) := by decide +kernel
theorem dL_law_951 : decode cL_law 951 = .ok (.aload_n 1, 1) := by decide +kernel
theorem dL_law_952 : decode cL_law 952 = .ok (.aload_n 0, 1) := by decide +kernel
theorem dL_law_953 : decode cL_law 953 = .ok (.iload 4, 2) := by decide +kernel
theorem dL_law_955 : decode cL_law 955 = .ok (.iconst 1, 1) := by decide +kernel
theorem dL_law_956 : decode cL_law 956 = .ok (.iadd, 1) := by decide +kernel
theorem dL_law_957 : decode cL_law 957 = .ok (.iaload, 1) := by decide +kernel
theorem dL_law_958 : decode cL_law 958 = .ok (.invokevirtual 120, 3) := by decide +kernel
theorem dL_law_961 : decode cL_law 961 = .ok (.aload_n 2, 1) := by decide +kernel
theorem dL_law_962 : decode cL_law 962 = .ok (.aload_n 0, 1) := by decide +kernel
theorem dL_law_963 : decode cL_law 963 = .ok (.iload 4, 2) := by decide +kernel
theorem dL_law_965 : decode cL_law 965 = .ok (.iconst 1, 1) := by decide +kernel
theorem dL_law_966 : decode cL_law 966 = .ok (.iadd, 1) := by decide +kernel
theorem dL_law_967 : decode cL_law 967 = .ok (.iaload, 1) := by decide +kernel
theorem dL_law_968 : decode cL_law 968 = .ok (.invokevirtual 123, 3) := by decide +kernel
theorem dL_law_971 : decode cL_law 971 = .ok (.if_icmp .eq 167, 3) := by decide +kernel
theorem dL_law_974 : decode cL_law 974 = .ok (.iconst 0, 1) := by decide +kernel
theorem dL_law_975 : decode cL_law 975 = .ok (.ireturn, 1) := by decide +kernel
theorem dL_law_976 : decode cL_law 976 = .ok (.aload_n 1, 1) := by decide +kernel
theorem dL_law_977 : decode cL_law 977 = .ok (.aload_n 0, 1) := by decide +kernel
theorem dL_law_978 : decode cL_law 978 = .ok (.iload 4, 2) := by decide +kernel
theorem dL_law_980 : decode cL_law 980 = .ok (.iconst 1, 1) := by decide +kernel
theorem dL_law_981 : decode cL_law 981 = .ok (.iadd, 1) := by decide +kernel
theorem dL_law_982 : decode cL_law 982 = .ok (.iaload, 1) := by decide +kernel
theorem dL_law_983 : decode cL_law 983 = .ok (.aload_n 0, 1) := by decide +kernel
theorem dL_law_984 : decode cL_law 984 = .ok (.iload 4, 2) := by decide +kernel
theorem dL_law_986 : decode cL_law 986 = .ok (.iconst 2, 1) := by decide +kernel
theorem dL_law_987 : decode cL_law 987 = .ok (.iadd, 1) := by decide +kernel
theorem dL_law_988 : decode cL_law 988 = .ok (.iaload, 1) := by decide +kernel
theorem dL_law_989 : decode cL_law 989 = .ok (.invokevirtual 124, 3) := by decide +kernel
theorem dL_law_992 : decode cL_law 992 = .ok (.aload_n 2, 1) := by decide +kernel
theorem dL_law_993 : decode cL_law 993 = .ok (.aload_n 0, 1) := by decide +kernel
theorem dL_law_994 : decode cL_law 994 = .ok (.iload 4, 2) := by decide +kernel
theorem dL_law_996 : decode cL_law 996 = .ok (.iconst 1, 1) := by decide +kernel
theorem dL_law_997 : decode cL_law 997 = .ok (.iadd, 1) := by decide +kernel
theorem dL_law_998 : decode cL_law 998 = .ok (.iaload, 1) := by decide +kernel
theorem dL_law_999 : decode cL_law 999 = .ok (.aload_n 0, 1) := by decide +kernel
theorem dL_law_1000 : decode cL_law 1000 = .ok (.iload 4, 2) := by decide +kernel
theorem dL_law_1002 : decode cL_law 1002 = .ok (.iconst 2, 1) := by decide +kernel
theorem dL_law_1003 : decode cL_law 1003 = .ok (.iadd, 1) := by decide +kernel
theorem dL_law_1004 : decode cL_law 1004 = .ok (.iaload, 1) := by decide +kernel
theorem dL_law_1005 : decode cL_law 1005 = .ok (.invokevirtual 127, 3) := by decide +kernel
theorem dL_law_1008 : decode cL_law 1008 = .ok (.if_icmp .eq 130, 3) := by decide +kernel
theorem dL_law_1011 : decode cL_law 1011 = .ok (.iconst 0, 1) := by decide +kernel
theorem dL_law_1012 : decode cL_law 1012 = .ok (.ireturn, 1) := by decide +kernel
theorem dL_law_1013 : decode cL_law 1013 = .ok (.aload_n 1, 1) := by decide +kernel
theorem dL_law_1014 : decode cL_law 1014 = .ok (.aload_n 0, 1) := by decide +kernel
theorem dL_law_1015 : decode cL_law 1015 = .ok (.iload 4, 2) := by decide +kernel
theorem dL_law_1017 : decode cL_law 1017 = .ok (.iconst 1, 1) := by decide +kernel
theorem dL_law_1018 : decode cL_law 1018 = .ok (.iadd, 1) := by decide +kernel
theorem dL_law_1019 : decode cL_law 1019 = .ok (.iaload, 1) := by decide +kernel
theorem dL_law_1020 : decode cL_law 1020 = .ok (.invokevirtual 128, 3) := by decide +kernel
theorem dL_law_1023 : decode cL_law 1023 = .ok (.aload_n 2, 1) := by decide +kernel
theorem dL_law_1024 : decode cL_law 1024 = .ok (.aload_n 0, 1) := by decide +kernel
theorem dL_law_1025 : decode cL_law 1025 = .ok (.iload 4, 2) := by decide +kernel
theorem dL_law_1027 : decode cL_law 1027 = .ok (.iconst 1, 1) := by decide +kernel
theorem dL_law_1028 : decode cL_law 1028 = .ok (.iadd, 1) := by decide +kernel
theorem dL_law_1029 : decode cL_law 1029 = .ok (.iaload, 1) := by decide +kernel
theorem dL_law_1030 : decode cL_law 1030 = .ok (.invokevirtual 131, 3) := by decide +kernel
theorem dL_law_1033 : decode cL_law 1033 = .ok (.if_icmp .eq 105, 3) := by decide +kernel
theorem dL_law_1036 : decode cL_law 1036 = .ok (.iconst 0, 1) := by decide +kernel
theorem dL_law_1037 : decode cL_law 1037 = .ok (.ireturn, 1) := by decide +kernel
theorem dL_law_1038 : decode cL_law 1038 = .ok (.aload_n 1, 1) := by decide +kernel
theorem dL_law_1039 : decode cL_law 1039 = .ok (.aload_n 0, 1) := by decide +kernel
theorem dL_law_1040 : decode cL_law 1040 = .ok (.iload 4, 2) := by decide +kernel
theorem dL_law_1042 : decode cL_law 1042 = .ok (.iconst 1, 1) := by decide +kernel
theorem dL_law_1043 : decode cL_law 1043 = .ok (.iadd, 1) := by decide +kernel
theorem dL_law_1044 : decode cL_law 1044 = .ok (.iaload, 1) := by decide +kernel
theorem dL_law_1045 : decode cL_law 1045 = .ok (.invokevirtual 132, 3) := by decide +kernel
theorem dL_law_1048 : decode cL_law 1048 = .ok (.aload_n 2, 1) := by decide +kernel
theorem dL_law_1049 : decode cL_law 1049 = .ok (.aload_n 0, 1) := by decide +kernel
theorem dL_law_1050 : decode cL_law 1050 = .ok (.iload 4, 2) := by decide +kernel
theorem dL_law_1052 : decode cL_law 1052 = .ok (.iconst 1, 1) := by decide +kernel
theorem dL_law_1053 : decode cL_law 1053 = .ok (.iadd, 1) := by decide +kernel
theorem dL_law_1054 : decode cL_law 1054 = .ok (.iaload, 1) := by decide +kernel
theorem dL_law_1055 : decode cL_law 1055 = .ok (.invokevirtual 135, 3) := by decide +kernel
theorem dL_law_1058 : decode cL_law 1058 = .ok (.if_icmp .eq 80, 3) := by decide +kernel
theorem dL_law_1061 : decode cL_law 1061 = .ok (.iconst 0, 1) := by decide +kernel
theorem dL_law_1062 : decode cL_law 1062 = .ok (.ireturn, 1) := by decide +kernel
theorem dL_law_1063 : decode cL_law 1063 = .ok (.aload_n 1, 1) := by decide +kernel
theorem dL_law_1064 : decode cL_law 1064 = .ok (.aload_n 0, 1) := by decide +kernel
theorem dL_law_1065 : decode cL_law 1065 = .ok (.iload 4, 2) := by decide +kernel
theorem dL_law_1067 : decode cL_law 1067 = .ok (.iconst 1, 1) := by decide +kernel
theorem dL_law_1068 : decode cL_law 1068 = .ok (.iadd, 1) := by decide +kernel
theorem dL_law_1069 : decode cL_law 1069 = .ok (.iaload, 1) := by decide +kernel
theorem dL_law_1070 : decode cL_law 1070 = .ok (.aload_n 0, 1) := by decide +kernel
theorem dL_law_1071 : decode cL_law 1071 = .ok (.iload 4, 2) := by decide +kernel
theorem dL_law_1073 : decode cL_law 1073 = .ok (.iconst 2, 1) := by decide +kernel
theorem dL_law_1074 : decode cL_law 1074 = .ok (.iadd, 1) := by decide +kernel
theorem dL_law_1075 : decode cL_law 1075 = .ok (.iaload, 1) := by decide +kernel
theorem dL_law_1076 : decode cL_law 1076 = .ok (.invokevirtual 136, 3) := by decide +kernel
theorem dL_law_1079 : decode cL_law 1079 = .ok (.aload_n 2, 1) := by decide +kernel
theorem dL_law_1080 : decode cL_law 1080 = .ok (.aload_n 0, 1) := by decide +kernel
theorem dL_law_1081 : decode cL_law 1081 = .ok (.iload 4, 2) := by decide +kernel
theorem dL_law_1083 : decode cL_law 1083 = .ok (.iconst 1, 1) := by decide +kernel
theorem dL_law_1084 : decode cL_law 1084 = .ok (.iadd, 1) := by decide +kernel
theorem dL_law_1085 : decode cL_law 1085 = .ok (.iaload, 1) := by decide +kernel
theorem dL_law_1086 : decode cL_law 1086 = .ok (.aload_n 0, 1) := by decide +kernel
theorem dL_law_1087 : decode cL_law 1087 = .ok (.iload 4, 2) := by decide +kernel
theorem dL_law_1089 : decode cL_law 1089 = .ok (.iconst 2, 1) := by decide +kernel
theorem dL_law_1090 : decode cL_law 1090 = .ok (.iadd, 1) := by decide +kernel
theorem dL_law_1091 : decode cL_law 1091 = .ok (.iaload, 1) := by decide +kernel
theorem dL_law_1092 : decode cL_law 1092 = .ok (.invokevirtual 139, 3) := by decide +kernel
theorem dL_law_1095 : decode cL_law 1095 = .ok (.if_icmp .eq 43, 3) := by decide +kernel
theorem dL_law_1098 : decode cL_law 1098 = .ok (.iconst 0, 1) := by decide +kernel
theorem dL_law_1099 : decode cL_law 1099 = .ok (.ireturn, 1) := by decide +kernel
theorem dL_law_1100 : decode cL_law 1100 = .ok (.aload_n 1, 1) := by decide +kernel
theorem dL_law_1101 : decode cL_law 1101 = .ok (.aload_n 0, 1) := by decide +kernel
theorem dL_law_1102 : decode cL_law 1102 = .ok (.iload 4, 2) := by decide +kernel
theorem dL_law_1104 : decode cL_law 1104 = .ok (.iconst 1, 1) := by decide +kernel
theorem dL_law_1105 : decode cL_law 1105 = .ok (.iadd, 1) := by decide +kernel
theorem dL_law_1106 : decode cL_law 1106 = .ok (.iaload, 1) := by decide +kernel
theorem dL_law_1107 : decode cL_law 1107 = .ok (.invokevirtual 140, 3) := by decide +kernel
theorem dL_law_1110 : decode cL_law 1110 = .ok (.aload_n 2, 1) := by decide +kernel
theorem dL_law_1111 : decode cL_law 1111 = .ok (.aload_n 0, 1) := by decide +kernel
theorem dL_law_1112 : decode cL_law 1112 = .ok (.iload 4, 2) := by decide +kernel
theorem dL_law_1114 : decode cL_law 1114 = .ok (.iconst 1, 1) := by decide +kernel
theorem dL_law_1115 : decode cL_law 1115 = .ok (.iadd, 1) := by decide +kernel
theorem dL_law_1116 : decode cL_law 1116 = .ok (.iaload, 1) := by decide +kernel
theorem dL_law_1117 : decode cL_law 1117 = .ok (.invokevirtual 143, 3) := by decide +kernel
theorem dL_law_1120 : decode cL_law 1120 = .ok (.if_icmp .eq 18, 3) := by decide +kernel
theorem dL_law_1123 : decode cL_law 1123 = .ok (.iconst 0, 1) := by decide +kernel
theorem dL_law_1124 : decode cL_law 1124 = .ok (.ireturn, 1) := by decide +kernel
theorem dL_law_1125 : decode cL_law 1125 = .ok (.aload_n 1, 1) := by decide +kernel
theorem dL_law_1126 : decode cL_law 1126 = .ok (.invokevirtual 144, 3) := by decide +kernel
theorem dL_law_1129 : decode cL_law 1129 = .ok (.aload_n 2, 1) := by decide +kernel
theorem dL_law_1130 : decode cL_law 1130 = .ok (.invokevirtual 147, 3) := by decide +kernel
theorem dL_law_1133 : decode cL_law 1133 = .ok (.if_icmp .eq 5, 3) := by decide +kernel
theorem dL_law_1136 : decode cL_law 1136 = .ok (.iconst 0, 1) := by decide +kernel
theorem dL_law_1137 : decode cL_law 1137 = .ok (.ireturn, 1) := by decide +kernel
theorem dL_law_1138 : decode cL_law 1138 = .ok (.iinc 4 7, 3) := by decide +kernel
theorem dL_law_1141 : decode cL_law 1141 = .ok (.goto (-1118), 3) := by decide +kernel
theorem dL_law_1144 : decode cL_law 1144 = .ok (.iconst 1, 1) := by decide +kernel
theorem dL_law_1145 : decode cL_law 1145 = .ok (.ireturn, 1) := by decide +kernel
def lL_law_1138 (X : mm_X)  (rec23 : Int32 → mm_M → Option (Int32 × mm_M)) (x4 : Int32) (M : mm_M) : Option (Int32 × mm_M) :=
  rec23 (x4 + 7) M
set_option maxHeartbeats 2000000 in
theorem slL_law_1138 (X : mm_X) (hX : X.1 ≠ 0)  (rec23 : Int32 → mm_M → Option (Int32 × mm_M)) (hrec23 : ∀ (x4 : Int32) (M : mm_M), Snd injI jL_law X 23 [some (.ref 103), some (.ref 1), some (.ref 46), some (.ref 62), some (.int x4), none, none] [] M (rec23 x4 M)) (x4 : Int32)  (M : mm_M) : Snd injI jL_law X 1138 [some (.ref 103), some (.ref 1), some (.ref 46), some (.ref 62), some (.int x4), none, none] [] M (lL_law_1138 X rec23 x4 M) := by
  unfold lL_law_1138
  refine sn_iinc (j := jL_law) (pc := 1138) 7 rfl (by decide) rfl (lo' := [some (.ref 103), some (.ref 1), some (.ref 46), some (.ref 62), some (.int (x4 + 7)), none, none]) rfl dL_law_1138 ?_
  refine sn_goto (j := jL_law) (pc := 1141) 23 rfl dL_law_1141 ?_
  exact Snd.wk (hrec23 (x4 + 7) M ) (by simp [mm_le])
def lL_law_1125 (X : mm_X)  (rec23 : Int32 → mm_M → Option (Int32 × mm_M)) (x4 : Int32) (M : mm_M) : Option (Int32 × mm_M) :=
  cI (f6_bestRule M) (fun r_1 M => cI (f7_bestRule M) (fun r_2 M => if r_1 = r_2 then (lL_law_1138 X rec23 x4 M) else (rZ 0 M)))
set_option maxHeartbeats 2000000 in
theorem slL_law_1125 (X : mm_X) (hX : X.1 ≠ 0)  (rec23 : Int32 → mm_M → Option (Int32 × mm_M)) (hrec23 : ∀ (x4 : Int32) (M : mm_M), Snd injI jL_law X 23 [some (.ref 103), some (.ref 1), some (.ref 46), some (.ref 62), some (.int x4), none, none] [] M (rec23 x4 M)) (x4 : Int32)  (M : mm_M) : Snd injI jL_law X 1125 [some (.ref 103), some (.ref 1), some (.ref 46), some (.ref 62), some (.int x4), none, none] [] M (lL_law_1125 X rec23 x4 M) := by
  unfold lL_law_1125
  refine sn_aload_n (j := jL_law) (pc := 1125) rfl rfl dL_law_1125 ?_
  refine sn_callV (j := jL_law) (pc := 1126) (jc := j6_bestRule) (As := []) (s6_bestRule M) mm_hvI (by simp [Value.category]) (Nat.le_of_ble_eq_true rfl) q6_bestRule rfl (by decide) rfl rfl ⟨by decide, by decide⟩ w_ml_L_144 w_im_X6_bestRule w_se_X6_bestRule rfl (Nat.le_of_ble_eq_true rfl) dL_law_1126 ?_
  rintro ⟨r_1, M⟩
  show Snd injI jL_law X 1129 [some (.ref 103), some (.ref 1), some (.ref 46), some (.ref 62), some (.int x4), none, none] [.int r_1] M _
  refine sn_aload_n (j := jL_law) (pc := 1129) rfl rfl dL_law_1129 ?_
  refine sn_callV (j := jL_law) (pc := 1130) (jc := j7_bestRule) (As := []) (s7_bestRule M) mm_hvI (by simp [Value.category]) (Nat.le_of_ble_eq_true rfl) q7_bestRule rfl (by decide) rfl rfl ⟨by decide, by decide⟩ w_ml_L_147 w_im_X7_bestRule w_se_X7_bestRule rfl (Nat.le_of_ble_eq_true rfl) dL_law_1130 ?_
  rintro ⟨r_2, M⟩
  show Snd injI jL_law X 1133 [some (.ref 103), some (.ref 1), some (.ref 46), some (.ref 62), some (.int x4), none, none] [.int r_2, .int r_1] M _
  refine sn_icmp_eq (j := jL_law) (pc := 1133) 1138 rfl dL_law_1133 ?_ ?_
  · exact Snd.wk (slL_law_1138 X hX rec23 hrec23 x4 M) (by simp [mm_le])
  · refine sn_iconst (j := jL_law) (pc := 1136) 0 rfl dL_law_1136 ?_
    exact sn_zret (j := jL_law) (pc := 1137) rfl dL_law_1137
def lL_law_1100 (X : mm_X)  (rec23 : Int32 → mm_M → Option (Int32 × mm_M)) (x4 : Int32) (M : mm_M) : Option (Int32 × mm_M) :=
  aX X (x4 + 1) (fun w_3 => cI (f6_takeRule w_3 M) (fun r_4 M => aX X (x4 + 1) (fun w_5 => cI (f7_takeRule w_5 M) (fun r_6 M => if r_4 = r_6 then (lL_law_1138 X rec23 x4 M) else (rZ 0 M)))))
set_option maxHeartbeats 2000000 in
theorem slL_law_1100 (X : mm_X) (hX : X.1 ≠ 0)  (rec23 : Int32 → mm_M → Option (Int32 × mm_M)) (hrec23 : ∀ (x4 : Int32) (M : mm_M), Snd injI jL_law X 23 [some (.ref 103), some (.ref 1), some (.ref 46), some (.ref 62), some (.int x4), none, none] [] M (rec23 x4 M)) (x4 : Int32)  (M : mm_M) : Snd injI jL_law X 1100 [some (.ref 103), some (.ref 1), some (.ref 46), some (.ref 62), some (.int x4), none, none] [] M (lL_law_1100 X rec23 x4 M) := by
  unfold lL_law_1100
  refine sn_aload_n (j := jL_law) (pc := 1100) rfl rfl dL_law_1100 ?_
  refine sn_aload_n (j := jL_law) (pc := 1101) rfl rfl dL_law_1101 ?_
  refine sn_iload (j := jL_law) (pc := 1102) rfl dL_law_1102 ?_
  refine sn_iconst (j := jL_law) (pc := 1104) 1 rfl dL_law_1104 ?_
  refine sn_iadd (j := jL_law) (pc := 1105) dL_law_1105 ?_
  refine sn_xald (j := jL_law) (pc := 1106) dL_law_1106 (fun w_3 => ?_)
  refine sn_callV (j := jL_law) (pc := 1107) (jc := j6_takeRule) (As := [.int w_3]) (s6_takeRule w_3 M) mm_hvI (by simp [Value.category]) (Nat.le_of_ble_eq_true rfl) q6_takeRule rfl (by decide) rfl rfl ⟨by decide, by decide⟩ w_ml_L_140 w_im_X6_takeRule w_se_X6_takeRule rfl (Nat.le_of_ble_eq_true rfl) dL_law_1107 ?_
  rintro ⟨r_4, M⟩
  show Snd injI jL_law X 1110 [some (.ref 103), some (.ref 1), some (.ref 46), some (.ref 62), some (.int x4), none, none] [.int r_4] M _
  refine sn_aload_n (j := jL_law) (pc := 1110) rfl rfl dL_law_1110 ?_
  refine sn_aload_n (j := jL_law) (pc := 1111) rfl rfl dL_law_1111 ?_
  refine sn_iload (j := jL_law) (pc := 1112) rfl dL_law_1112 ?_
  refine sn_iconst (j := jL_law) (pc := 1114) 1 rfl dL_law_1114 ?_
  refine sn_iadd (j := jL_law) (pc := 1115) dL_law_1115 ?_
  refine sn_xald (j := jL_law) (pc := 1116) dL_law_1116 (fun w_5 => ?_)
  refine sn_callV (j := jL_law) (pc := 1117) (jc := j7_takeRule) (As := [.int w_5]) (s7_takeRule w_5 M) mm_hvI (by simp [Value.category]) (Nat.le_of_ble_eq_true rfl) q7_takeRule rfl (by decide) rfl rfl ⟨by decide, by decide⟩ w_ml_L_143 w_im_X7_takeRule w_se_X7_takeRule rfl (Nat.le_of_ble_eq_true rfl) dL_law_1117 ?_
  rintro ⟨r_6, M⟩
  show Snd injI jL_law X 1120 [some (.ref 103), some (.ref 1), some (.ref 46), some (.ref 62), some (.int x4), none, none] [.int r_6, .int r_4] M _
  refine sn_icmp_eq (j := jL_law) (pc := 1120) 1138 rfl dL_law_1120 ?_ ?_
  · exact Snd.wk (slL_law_1138 X hX rec23 hrec23 x4 M) (by simp [mm_le])
  · refine sn_iconst (j := jL_law) (pc := 1123) 0 rfl dL_law_1123 ?_
    exact sn_zret (j := jL_law) (pc := 1124) rfl dL_law_1124
def lL_law_1063 (X : mm_X)  (rec23 : Int32 → mm_M → Option (Int32 × mm_M)) (x4 : Int32) (M : mm_M) : Option (Int32 × mm_M) :=
  aX X (x4 + 1) (fun w_7 => aX X (x4 + 2) (fun w_8 => cI (f6_rule w_7 w_8 M) (fun r_9 M => aX X (x4 + 1) (fun w_10 => aX X (x4 + 2) (fun w_11 => cI (f7_rule w_10 w_11 M) (fun r_12 M => if r_9 = r_12 then (lL_law_1138 X rec23 x4 M) else (rZ 0 M)))))))
set_option maxHeartbeats 2000000 in
theorem slL_law_1063 (X : mm_X) (hX : X.1 ≠ 0)  (rec23 : Int32 → mm_M → Option (Int32 × mm_M)) (hrec23 : ∀ (x4 : Int32) (M : mm_M), Snd injI jL_law X 23 [some (.ref 103), some (.ref 1), some (.ref 46), some (.ref 62), some (.int x4), none, none] [] M (rec23 x4 M)) (x4 : Int32)  (M : mm_M) : Snd injI jL_law X 1063 [some (.ref 103), some (.ref 1), some (.ref 46), some (.ref 62), some (.int x4), none, none] [] M (lL_law_1063 X rec23 x4 M) := by
  unfold lL_law_1063
  refine sn_aload_n (j := jL_law) (pc := 1063) rfl rfl dL_law_1063 ?_
  refine sn_aload_n (j := jL_law) (pc := 1064) rfl rfl dL_law_1064 ?_
  refine sn_iload (j := jL_law) (pc := 1065) rfl dL_law_1065 ?_
  refine sn_iconst (j := jL_law) (pc := 1067) 1 rfl dL_law_1067 ?_
  refine sn_iadd (j := jL_law) (pc := 1068) dL_law_1068 ?_
  refine sn_xald (j := jL_law) (pc := 1069) dL_law_1069 (fun w_7 => ?_)
  refine sn_aload_n (j := jL_law) (pc := 1070) rfl rfl dL_law_1070 ?_
  refine sn_iload (j := jL_law) (pc := 1071) rfl dL_law_1071 ?_
  refine sn_iconst (j := jL_law) (pc := 1073) 2 rfl dL_law_1073 ?_
  refine sn_iadd (j := jL_law) (pc := 1074) dL_law_1074 ?_
  refine sn_xald (j := jL_law) (pc := 1075) dL_law_1075 (fun w_8 => ?_)
  refine sn_callV (j := jL_law) (pc := 1076) (jc := j6_rule) (As := [.int w_7, .int w_8]) (s6_rule w_7 w_8 M) mm_hvI (by simp [Value.category]) (Nat.le_of_ble_eq_true rfl) q6_rule rfl (by decide) rfl rfl ⟨by decide, by decide⟩ w_ml_L_136 w_im_X6_rule w_se_X6_rule rfl (Nat.le_of_ble_eq_true rfl) dL_law_1076 ?_
  rintro ⟨r_9, M⟩
  show Snd injI jL_law X 1079 [some (.ref 103), some (.ref 1), some (.ref 46), some (.ref 62), some (.int x4), none, none] [.int r_9] M _
  refine sn_aload_n (j := jL_law) (pc := 1079) rfl rfl dL_law_1079 ?_
  refine sn_aload_n (j := jL_law) (pc := 1080) rfl rfl dL_law_1080 ?_
  refine sn_iload (j := jL_law) (pc := 1081) rfl dL_law_1081 ?_
  refine sn_iconst (j := jL_law) (pc := 1083) 1 rfl dL_law_1083 ?_
  refine sn_iadd (j := jL_law) (pc := 1084) dL_law_1084 ?_
  refine sn_xald (j := jL_law) (pc := 1085) dL_law_1085 (fun w_10 => ?_)
  refine sn_aload_n (j := jL_law) (pc := 1086) rfl rfl dL_law_1086 ?_
  refine sn_iload (j := jL_law) (pc := 1087) rfl dL_law_1087 ?_
  refine sn_iconst (j := jL_law) (pc := 1089) 2 rfl dL_law_1089 ?_
  refine sn_iadd (j := jL_law) (pc := 1090) dL_law_1090 ?_
  refine sn_xald (j := jL_law) (pc := 1091) dL_law_1091 (fun w_11 => ?_)
  refine sn_callV (j := jL_law) (pc := 1092) (jc := j7_rule) (As := [.int w_10, .int w_11]) (s7_rule w_10 w_11 M) mm_hvI (by simp [Value.category]) (Nat.le_of_ble_eq_true rfl) q7_rule rfl (by decide) rfl rfl ⟨by decide, by decide⟩ w_ml_L_139 w_im_X7_rule w_se_X7_rule rfl (Nat.le_of_ble_eq_true rfl) dL_law_1092 ?_
  rintro ⟨r_12, M⟩
  show Snd injI jL_law X 1095 [some (.ref 103), some (.ref 1), some (.ref 46), some (.ref 62), some (.int x4), none, none] [.int r_12, .int r_9] M _
  refine sn_icmp_eq (j := jL_law) (pc := 1095) 1138 rfl dL_law_1095 ?_ ?_
  · exact Snd.wk (slL_law_1138 X hX rec23 hrec23 x4 M) (by simp [mm_le])
  · refine sn_iconst (j := jL_law) (pc := 1098) 0 rfl dL_law_1098 ?_
    exact sn_zret (j := jL_law) (pc := 1099) rfl dL_law_1099
def lL_law_1038 (X : mm_X)  (rec23 : Int32 → mm_M → Option (Int32 × mm_M)) (x4 : Int32) (M : mm_M) : Option (Int32 × mm_M) :=
  aX X (x4 + 1) (fun w_13 => cI (f6_without w_13 M) (fun r_14 M => aX X (x4 + 1) (fun w_15 => cI (f7_without w_15 M) (fun r_16 M => if r_14 = r_16 then (lL_law_1138 X rec23 x4 M) else (rZ 0 M)))))
set_option maxHeartbeats 2000000 in
theorem slL_law_1038 (X : mm_X) (hX : X.1 ≠ 0)  (rec23 : Int32 → mm_M → Option (Int32 × mm_M)) (hrec23 : ∀ (x4 : Int32) (M : mm_M), Snd injI jL_law X 23 [some (.ref 103), some (.ref 1), some (.ref 46), some (.ref 62), some (.int x4), none, none] [] M (rec23 x4 M)) (x4 : Int32)  (M : mm_M) : Snd injI jL_law X 1038 [some (.ref 103), some (.ref 1), some (.ref 46), some (.ref 62), some (.int x4), none, none] [] M (lL_law_1038 X rec23 x4 M) := by
  unfold lL_law_1038
  refine sn_aload_n (j := jL_law) (pc := 1038) rfl rfl dL_law_1038 ?_
  refine sn_aload_n (j := jL_law) (pc := 1039) rfl rfl dL_law_1039 ?_
  refine sn_iload (j := jL_law) (pc := 1040) rfl dL_law_1040 ?_
  refine sn_iconst (j := jL_law) (pc := 1042) 1 rfl dL_law_1042 ?_
  refine sn_iadd (j := jL_law) (pc := 1043) dL_law_1043 ?_
  refine sn_xald (j := jL_law) (pc := 1044) dL_law_1044 (fun w_13 => ?_)
  refine sn_callV (j := jL_law) (pc := 1045) (jc := j6_without) (As := [.int w_13]) (s6_without w_13 M) mm_hvI (by simp [Value.category]) (Nat.le_of_ble_eq_true rfl) q6_without rfl (by decide) rfl rfl ⟨by decide, by decide⟩ w_ml_L_132 w_im_X6_without w_se_X6_without rfl (Nat.le_of_ble_eq_true rfl) dL_law_1045 ?_
  rintro ⟨r_14, M⟩
  show Snd injI jL_law X 1048 [some (.ref 103), some (.ref 1), some (.ref 46), some (.ref 62), some (.int x4), none, none] [.int r_14] M _
  refine sn_aload_n (j := jL_law) (pc := 1048) rfl rfl dL_law_1048 ?_
  refine sn_aload_n (j := jL_law) (pc := 1049) rfl rfl dL_law_1049 ?_
  refine sn_iload (j := jL_law) (pc := 1050) rfl dL_law_1050 ?_
  refine sn_iconst (j := jL_law) (pc := 1052) 1 rfl dL_law_1052 ?_
  refine sn_iadd (j := jL_law) (pc := 1053) dL_law_1053 ?_
  refine sn_xald (j := jL_law) (pc := 1054) dL_law_1054 (fun w_15 => ?_)
  refine sn_callV (j := jL_law) (pc := 1055) (jc := j7_without) (As := [.int w_15]) (s7_without w_15 M) mm_hvI (by simp [Value.category]) (Nat.le_of_ble_eq_true rfl) q7_without rfl (by decide) rfl rfl ⟨by decide, by decide⟩ w_ml_L_135 w_im_X7_without w_se_X7_without rfl (Nat.le_of_ble_eq_true rfl) dL_law_1055 ?_
  rintro ⟨r_16, M⟩
  show Snd injI jL_law X 1058 [some (.ref 103), some (.ref 1), some (.ref 46), some (.ref 62), some (.int x4), none, none] [.int r_16, .int r_14] M _
  refine sn_icmp_eq (j := jL_law) (pc := 1058) 1138 rfl dL_law_1058 ?_ ?_
  · exact Snd.wk (slL_law_1138 X hX rec23 hrec23 x4 M) (by simp [mm_le])
  · refine sn_iconst (j := jL_law) (pc := 1061) 0 rfl dL_law_1061 ?_
    exact sn_zret (j := jL_law) (pc := 1062) rfl dL_law_1062
def lL_law_1013 (X : mm_X)  (rec23 : Int32 → mm_M → Option (Int32 × mm_M)) (x4 : Int32) (M : mm_M) : Option (Int32 × mm_M) :=
  aX X (x4 + 1) (fun w_17 => cI (f6_least w_17 M) (fun r_18 M => aX X (x4 + 1) (fun w_19 => cI (f7_least w_19 M) (fun r_20 M => if r_18 = r_20 then (lL_law_1138 X rec23 x4 M) else (rZ 0 M)))))
set_option maxHeartbeats 2000000 in
theorem slL_law_1013 (X : mm_X) (hX : X.1 ≠ 0)  (rec23 : Int32 → mm_M → Option (Int32 × mm_M)) (hrec23 : ∀ (x4 : Int32) (M : mm_M), Snd injI jL_law X 23 [some (.ref 103), some (.ref 1), some (.ref 46), some (.ref 62), some (.int x4), none, none] [] M (rec23 x4 M)) (x4 : Int32)  (M : mm_M) : Snd injI jL_law X 1013 [some (.ref 103), some (.ref 1), some (.ref 46), some (.ref 62), some (.int x4), none, none] [] M (lL_law_1013 X rec23 x4 M) := by
  unfold lL_law_1013
  refine sn_aload_n (j := jL_law) (pc := 1013) rfl rfl dL_law_1013 ?_
  refine sn_aload_n (j := jL_law) (pc := 1014) rfl rfl dL_law_1014 ?_
  refine sn_iload (j := jL_law) (pc := 1015) rfl dL_law_1015 ?_
  refine sn_iconst (j := jL_law) (pc := 1017) 1 rfl dL_law_1017 ?_
  refine sn_iadd (j := jL_law) (pc := 1018) dL_law_1018 ?_
  refine sn_xald (j := jL_law) (pc := 1019) dL_law_1019 (fun w_17 => ?_)
  refine sn_callV (j := jL_law) (pc := 1020) (jc := j6_least) (As := [.int w_17]) (s6_least w_17 M) mm_hvI (by simp [Value.category]) (Nat.le_of_ble_eq_true rfl) q6_least rfl (by decide) rfl rfl ⟨by decide, by decide⟩ w_ml_L_128 w_im_X6_least w_se_X6_least rfl (Nat.le_of_ble_eq_true rfl) dL_law_1020 ?_
  rintro ⟨r_18, M⟩
  show Snd injI jL_law X 1023 [some (.ref 103), some (.ref 1), some (.ref 46), some (.ref 62), some (.int x4), none, none] [.int r_18] M _
  refine sn_aload_n (j := jL_law) (pc := 1023) rfl rfl dL_law_1023 ?_
  refine sn_aload_n (j := jL_law) (pc := 1024) rfl rfl dL_law_1024 ?_
  refine sn_iload (j := jL_law) (pc := 1025) rfl dL_law_1025 ?_
  refine sn_iconst (j := jL_law) (pc := 1027) 1 rfl dL_law_1027 ?_
  refine sn_iadd (j := jL_law) (pc := 1028) dL_law_1028 ?_
  refine sn_xald (j := jL_law) (pc := 1029) dL_law_1029 (fun w_19 => ?_)
  refine sn_callV (j := jL_law) (pc := 1030) (jc := j7_least) (As := [.int w_19]) (s7_least w_19 M) mm_hvI (by simp [Value.category]) (Nat.le_of_ble_eq_true rfl) q7_least rfl (by decide) rfl rfl ⟨by decide, by decide⟩ w_ml_L_131 w_im_X7_least w_se_X7_least rfl (Nat.le_of_ble_eq_true rfl) dL_law_1030 ?_
  rintro ⟨r_20, M⟩
  show Snd injI jL_law X 1033 [some (.ref 103), some (.ref 1), some (.ref 46), some (.ref 62), some (.int x4), none, none] [.int r_20, .int r_18] M _
  refine sn_icmp_eq (j := jL_law) (pc := 1033) 1138 rfl dL_law_1033 ?_ ?_
  · exact Snd.wk (slL_law_1138 X hX rec23 hrec23 x4 M) (by simp [mm_le])
  · refine sn_iconst (j := jL_law) (pc := 1036) 0 rfl dL_law_1036 ?_
    exact sn_zret (j := jL_law) (pc := 1037) rfl dL_law_1037
def lL_law_976 (X : mm_X)  (rec23 : Int32 → mm_M → Option (Int32 × mm_M)) (x4 : Int32) (M : mm_M) : Option (Int32 × mm_M) :=
  aX X (x4 + 1) (fun w_21 => aX X (x4 + 2) (fun w_22 => cI (f6_were w_21 w_22 M) (fun r_23 M => aX X (x4 + 1) (fun w_24 => aX X (x4 + 2) (fun w_25 => cI (f7_were w_24 w_25 M) (fun r_26 M => if r_23 = r_26 then (lL_law_1138 X rec23 x4 M) else (rZ 0 M)))))))
set_option maxHeartbeats 2000000 in
theorem slL_law_976 (X : mm_X) (hX : X.1 ≠ 0)  (rec23 : Int32 → mm_M → Option (Int32 × mm_M)) (hrec23 : ∀ (x4 : Int32) (M : mm_M), Snd injI jL_law X 23 [some (.ref 103), some (.ref 1), some (.ref 46), some (.ref 62), some (.int x4), none, none] [] M (rec23 x4 M)) (x4 : Int32)  (M : mm_M) : Snd injI jL_law X 976 [some (.ref 103), some (.ref 1), some (.ref 46), some (.ref 62), some (.int x4), none, none] [] M (lL_law_976 X rec23 x4 M) := by
  unfold lL_law_976
  refine sn_aload_n (j := jL_law) (pc := 976) rfl rfl dL_law_976 ?_
  refine sn_aload_n (j := jL_law) (pc := 977) rfl rfl dL_law_977 ?_
  refine sn_iload (j := jL_law) (pc := 978) rfl dL_law_978 ?_
  refine sn_iconst (j := jL_law) (pc := 980) 1 rfl dL_law_980 ?_
  refine sn_iadd (j := jL_law) (pc := 981) dL_law_981 ?_
  refine sn_xald (j := jL_law) (pc := 982) dL_law_982 (fun w_21 => ?_)
  refine sn_aload_n (j := jL_law) (pc := 983) rfl rfl dL_law_983 ?_
  refine sn_iload (j := jL_law) (pc := 984) rfl dL_law_984 ?_
  refine sn_iconst (j := jL_law) (pc := 986) 2 rfl dL_law_986 ?_
  refine sn_iadd (j := jL_law) (pc := 987) dL_law_987 ?_
  refine sn_xald (j := jL_law) (pc := 988) dL_law_988 (fun w_22 => ?_)
  refine sn_callV (j := jL_law) (pc := 989) (jc := j6_were) (As := [.int w_21, .int w_22]) (s6_were w_21 w_22 M) mm_hvI (by simp [Value.category]) (Nat.le_of_ble_eq_true rfl) q6_were rfl (by decide) rfl rfl ⟨by decide, by decide⟩ w_ml_L_124 w_im_X6_were w_se_X6_were rfl (Nat.le_of_ble_eq_true rfl) dL_law_989 ?_
  rintro ⟨r_23, M⟩
  show Snd injI jL_law X 992 [some (.ref 103), some (.ref 1), some (.ref 46), some (.ref 62), some (.int x4), none, none] [.int r_23] M _
  refine sn_aload_n (j := jL_law) (pc := 992) rfl rfl dL_law_992 ?_
  refine sn_aload_n (j := jL_law) (pc := 993) rfl rfl dL_law_993 ?_
  refine sn_iload (j := jL_law) (pc := 994) rfl dL_law_994 ?_
  refine sn_iconst (j := jL_law) (pc := 996) 1 rfl dL_law_996 ?_
  refine sn_iadd (j := jL_law) (pc := 997) dL_law_997 ?_
  refine sn_xald (j := jL_law) (pc := 998) dL_law_998 (fun w_24 => ?_)
  refine sn_aload_n (j := jL_law) (pc := 999) rfl rfl dL_law_999 ?_
  refine sn_iload (j := jL_law) (pc := 1000) rfl dL_law_1000 ?_
  refine sn_iconst (j := jL_law) (pc := 1002) 2 rfl dL_law_1002 ?_
  refine sn_iadd (j := jL_law) (pc := 1003) dL_law_1003 ?_
  refine sn_xald (j := jL_law) (pc := 1004) dL_law_1004 (fun w_25 => ?_)
  refine sn_callV (j := jL_law) (pc := 1005) (jc := j7_were) (As := [.int w_24, .int w_25]) (s7_were w_24 w_25 M) mm_hvI (by simp [Value.category]) (Nat.le_of_ble_eq_true rfl) q7_were rfl (by decide) rfl rfl ⟨by decide, by decide⟩ w_ml_L_127 w_im_X7_were w_se_X7_were rfl (Nat.le_of_ble_eq_true rfl) dL_law_1005 ?_
  rintro ⟨r_26, M⟩
  show Snd injI jL_law X 1008 [some (.ref 103), some (.ref 1), some (.ref 46), some (.ref 62), some (.int x4), none, none] [.int r_26, .int r_23] M _
  refine sn_icmp_eq (j := jL_law) (pc := 1008) 1138 rfl dL_law_1008 ?_ ?_
  · exact Snd.wk (slL_law_1138 X hX rec23 hrec23 x4 M) (by simp [mm_le])
  · refine sn_iconst (j := jL_law) (pc := 1011) 0 rfl dL_law_1011 ?_
    exact sn_zret (j := jL_law) (pc := 1012) rfl dL_law_1012
def lL_law_951 (X : mm_X)  (rec23 : Int32 → mm_M → Option (Int32 × mm_M)) (x4 : Int32) (M : mm_M) : Option (Int32 × mm_M) :=
  aX X (x4 + 1) (fun w_27 => cI (f6_latest w_27 M) (fun r_28 M => aX X (x4 + 1) (fun w_29 => cI (f7_latest w_29 M) (fun r_30 M => if r_28 = r_30 then (lL_law_1138 X rec23 x4 M) else (rZ 0 M)))))
set_option maxHeartbeats 2000000 in
theorem slL_law_951 (X : mm_X) (hX : X.1 ≠ 0)  (rec23 : Int32 → mm_M → Option (Int32 × mm_M)) (hrec23 : ∀ (x4 : Int32) (M : mm_M), Snd injI jL_law X 23 [some (.ref 103), some (.ref 1), some (.ref 46), some (.ref 62), some (.int x4), none, none] [] M (rec23 x4 M)) (x4 : Int32)  (M : mm_M) : Snd injI jL_law X 951 [some (.ref 103), some (.ref 1), some (.ref 46), some (.ref 62), some (.int x4), none, none] [] M (lL_law_951 X rec23 x4 M) := by
  unfold lL_law_951
  refine sn_aload_n (j := jL_law) (pc := 951) rfl rfl dL_law_951 ?_
  refine sn_aload_n (j := jL_law) (pc := 952) rfl rfl dL_law_952 ?_
  refine sn_iload (j := jL_law) (pc := 953) rfl dL_law_953 ?_
  refine sn_iconst (j := jL_law) (pc := 955) 1 rfl dL_law_955 ?_
  refine sn_iadd (j := jL_law) (pc := 956) dL_law_956 ?_
  refine sn_xald (j := jL_law) (pc := 957) dL_law_957 (fun w_27 => ?_)
  refine sn_callV (j := jL_law) (pc := 958) (jc := j6_latest) (As := [.int w_27]) (s6_latest w_27 M) mm_hvI (by simp [Value.category]) (Nat.le_of_ble_eq_true rfl) q6_latest rfl (by decide) rfl rfl ⟨by decide, by decide⟩ w_ml_L_120 w_im_X6_latest w_se_X6_latest rfl (Nat.le_of_ble_eq_true rfl) dL_law_958 ?_
  rintro ⟨r_28, M⟩
  show Snd injI jL_law X 961 [some (.ref 103), some (.ref 1), some (.ref 46), some (.ref 62), some (.int x4), none, none] [.int r_28] M _
  refine sn_aload_n (j := jL_law) (pc := 961) rfl rfl dL_law_961 ?_
  refine sn_aload_n (j := jL_law) (pc := 962) rfl rfl dL_law_962 ?_
  refine sn_iload (j := jL_law) (pc := 963) rfl dL_law_963 ?_
  refine sn_iconst (j := jL_law) (pc := 965) 1 rfl dL_law_965 ?_
  refine sn_iadd (j := jL_law) (pc := 966) dL_law_966 ?_
  refine sn_xald (j := jL_law) (pc := 967) dL_law_967 (fun w_29 => ?_)
  refine sn_callV (j := jL_law) (pc := 968) (jc := j7_latest) (As := [.int w_29]) (s7_latest w_29 M) mm_hvI (by simp [Value.category]) (Nat.le_of_ble_eq_true rfl) q7_latest rfl (by decide) rfl rfl ⟨by decide, by decide⟩ w_ml_L_123 w_im_X7_latest w_se_X7_latest rfl (Nat.le_of_ble_eq_true rfl) dL_law_968 ?_
  rintro ⟨r_30, M⟩
  show Snd injI jL_law X 971 [some (.ref 103), some (.ref 1), some (.ref 46), some (.ref 62), some (.int x4), none, none] [.int r_30, .int r_28] M _
  refine sn_icmp_eq (j := jL_law) (pc := 971) 1138 rfl dL_law_971 ?_ ?_
  · exact Snd.wk (slL_law_1138 X hX rec23 hrec23 x4 M) (by simp [mm_le])
  · refine sn_iconst (j := jL_law) (pc := 974) 0 rfl dL_law_974 ?_
    exact sn_zret (j := jL_law) (pc := 975) rfl dL_law_975
def lL_law_914 (X : mm_X)  (rec23 : Int32 → mm_M → Option (Int32 × mm_M)) (x4 : Int32) (M : mm_M) : Option (Int32 × mm_M) :=
  aX X (x4 + 1) (fun w_31 => aX X (x4 + 2) (fun w_32 => cI (f6_late w_31 w_32 M) (fun r_33 M => aX X (x4 + 1) (fun w_34 => aX X (x4 + 2) (fun w_35 => cI (f7_late w_34 w_35 M) (fun r_36 M => if r_33 = r_36 then (lL_law_1138 X rec23 x4 M) else (rZ 0 M)))))))
set_option maxHeartbeats 2000000 in
theorem slL_law_914 (X : mm_X) (hX : X.1 ≠ 0)  (rec23 : Int32 → mm_M → Option (Int32 × mm_M)) (hrec23 : ∀ (x4 : Int32) (M : mm_M), Snd injI jL_law X 23 [some (.ref 103), some (.ref 1), some (.ref 46), some (.ref 62), some (.int x4), none, none] [] M (rec23 x4 M)) (x4 : Int32)  (M : mm_M) : Snd injI jL_law X 914 [some (.ref 103), some (.ref 1), some (.ref 46), some (.ref 62), some (.int x4), none, none] [] M (lL_law_914 X rec23 x4 M) := by
  unfold lL_law_914
  refine sn_aload_n (j := jL_law) (pc := 914) rfl rfl dL_law_914 ?_
  refine sn_aload_n (j := jL_law) (pc := 915) rfl rfl dL_law_915 ?_
  refine sn_iload (j := jL_law) (pc := 916) rfl dL_law_916 ?_
  refine sn_iconst (j := jL_law) (pc := 918) 1 rfl dL_law_918 ?_
  refine sn_iadd (j := jL_law) (pc := 919) dL_law_919 ?_
  refine sn_xald (j := jL_law) (pc := 920) dL_law_920 (fun w_31 => ?_)
  refine sn_aload_n (j := jL_law) (pc := 921) rfl rfl dL_law_921 ?_
  refine sn_iload (j := jL_law) (pc := 922) rfl dL_law_922 ?_
  refine sn_iconst (j := jL_law) (pc := 924) 2 rfl dL_law_924 ?_
  refine sn_iadd (j := jL_law) (pc := 925) dL_law_925 ?_
  refine sn_xald (j := jL_law) (pc := 926) dL_law_926 (fun w_32 => ?_)
  refine sn_callV (j := jL_law) (pc := 927) (jc := j6_late) (As := [.int w_31, .int w_32]) (s6_late w_31 w_32 M) mm_hvI (by simp [Value.category]) (Nat.le_of_ble_eq_true rfl) q6_late rfl (by decide) rfl rfl ⟨by decide, by decide⟩ w_ml_L_116 w_im_X6_late w_se_X6_late rfl (Nat.le_of_ble_eq_true rfl) dL_law_927 ?_
  rintro ⟨r_33, M⟩
  show Snd injI jL_law X 930 [some (.ref 103), some (.ref 1), some (.ref 46), some (.ref 62), some (.int x4), none, none] [.int r_33] M _
  refine sn_aload_n (j := jL_law) (pc := 930) rfl rfl dL_law_930 ?_
  refine sn_aload_n (j := jL_law) (pc := 931) rfl rfl dL_law_931 ?_
  refine sn_iload (j := jL_law) (pc := 932) rfl dL_law_932 ?_
  refine sn_iconst (j := jL_law) (pc := 934) 1 rfl dL_law_934 ?_
  refine sn_iadd (j := jL_law) (pc := 935) dL_law_935 ?_
  refine sn_xald (j := jL_law) (pc := 936) dL_law_936 (fun w_34 => ?_)
  refine sn_aload_n (j := jL_law) (pc := 937) rfl rfl dL_law_937 ?_
  refine sn_iload (j := jL_law) (pc := 938) rfl dL_law_938 ?_
  refine sn_iconst (j := jL_law) (pc := 940) 2 rfl dL_law_940 ?_
  refine sn_iadd (j := jL_law) (pc := 941) dL_law_941 ?_
  refine sn_xald (j := jL_law) (pc := 942) dL_law_942 (fun w_35 => ?_)
  refine sn_callV (j := jL_law) (pc := 943) (jc := j7_late) (As := [.int w_34, .int w_35]) (s7_late w_34 w_35 M) mm_hvI (by simp [Value.category]) (Nat.le_of_ble_eq_true rfl) q7_late rfl (by decide) rfl rfl ⟨by decide, by decide⟩ w_ml_L_119 w_im_X7_late w_se_X7_late rfl (Nat.le_of_ble_eq_true rfl) dL_law_943 ?_
  rintro ⟨r_36, M⟩
  show Snd injI jL_law X 946 [some (.ref 103), some (.ref 1), some (.ref 46), some (.ref 62), some (.int x4), none, none] [.int r_36, .int r_33] M _
  refine sn_icmp_eq (j := jL_law) (pc := 946) 1138 rfl dL_law_946 ?_ ?_
  · exact Snd.wk (slL_law_1138 X hX rec23 hrec23 x4 M) (by simp [mm_le])
  · refine sn_iconst (j := jL_law) (pc := 949) 0 rfl dL_law_949 ?_
    exact sn_zret (j := jL_law) (pc := 950) rfl dL_law_950
def lL_law_901 (X : mm_X)  (rec23 : Int32 → mm_M → Option (Int32 × mm_M)) (x4 : Int32) (M : mm_M) : Option (Int32 × mm_M) :=
  cI (f6_take M) (fun r_37 M => cI (f7_take M) (fun r_38 M => if r_37 = r_38 then (lL_law_1138 X rec23 x4 M) else (rZ 0 M)))
set_option maxHeartbeats 2000000 in
theorem slL_law_901 (X : mm_X) (hX : X.1 ≠ 0)  (rec23 : Int32 → mm_M → Option (Int32 × mm_M)) (hrec23 : ∀ (x4 : Int32) (M : mm_M), Snd injI jL_law X 23 [some (.ref 103), some (.ref 1), some (.ref 46), some (.ref 62), some (.int x4), none, none] [] M (rec23 x4 M)) (x4 : Int32)  (M : mm_M) : Snd injI jL_law X 901 [some (.ref 103), some (.ref 1), some (.ref 46), some (.ref 62), some (.int x4), none, none] [] M (lL_law_901 X rec23 x4 M) := by
  unfold lL_law_901
  refine sn_aload_n (j := jL_law) (pc := 901) rfl rfl dL_law_901 ?_
  refine sn_callV (j := jL_law) (pc := 902) (jc := j6_take) (As := []) (s6_take M) mm_hvI (by simp [Value.category]) (Nat.le_of_ble_eq_true rfl) q6_take rfl (by decide) rfl rfl ⟨by decide, by decide⟩ w_ml_L_112 w_im_X6_take w_se_X6_take rfl (Nat.le_of_ble_eq_true rfl) dL_law_902 ?_
  rintro ⟨r_37, M⟩
  show Snd injI jL_law X 905 [some (.ref 103), some (.ref 1), some (.ref 46), some (.ref 62), some (.int x4), none, none] [.int r_37] M _
  refine sn_aload_n (j := jL_law) (pc := 905) rfl rfl dL_law_905 ?_
  refine sn_callV (j := jL_law) (pc := 906) (jc := j7_take) (As := []) (s7_take M) mm_hvI (by simp [Value.category]) (Nat.le_of_ble_eq_true rfl) q7_take rfl (by decide) rfl rfl ⟨by decide, by decide⟩ w_ml_L_115 w_im_X7_take w_se_X7_take rfl (Nat.le_of_ble_eq_true rfl) dL_law_906 ?_
  rintro ⟨r_38, M⟩
  show Snd injI jL_law X 909 [some (.ref 103), some (.ref 1), some (.ref 46), some (.ref 62), some (.int x4), none, none] [.int r_38, .int r_37] M _
  refine sn_icmp_eq (j := jL_law) (pc := 909) 1138 rfl dL_law_909 ?_ ?_
  · exact Snd.wk (slL_law_1138 X hX rec23 hrec23 x4 M) (by simp [mm_le])
  · refine sn_iconst (j := jL_law) (pc := 912) 0 rfl dL_law_912 ?_
    exact sn_zret (j := jL_law) (pc := 913) rfl dL_law_913
def lL_law_876 (X : mm_X)  (rec23 : Int32 → mm_M → Option (Int32 × mm_M)) (x4 : Int32) (M : mm_M) : Option (Int32 × mm_M) :=
  aX X (x4 + 1) (fun w_39 => cI (f6_best w_39 M) (fun r_40 M => aX X (x4 + 1) (fun w_41 => cI (f7_best w_41 M) (fun r_42 M => if r_40 = r_42 then (lL_law_1138 X rec23 x4 M) else (rZ 0 M)))))
set_option maxHeartbeats 2000000 in
theorem slL_law_876 (X : mm_X) (hX : X.1 ≠ 0)  (rec23 : Int32 → mm_M → Option (Int32 × mm_M)) (hrec23 : ∀ (x4 : Int32) (M : mm_M), Snd injI jL_law X 23 [some (.ref 103), some (.ref 1), some (.ref 46), some (.ref 62), some (.int x4), none, none] [] M (rec23 x4 M)) (x4 : Int32)  (M : mm_M) : Snd injI jL_law X 876 [some (.ref 103), some (.ref 1), some (.ref 46), some (.ref 62), some (.int x4), none, none] [] M (lL_law_876 X rec23 x4 M) := by
  unfold lL_law_876
  refine sn_aload_n (j := jL_law) (pc := 876) rfl rfl dL_law_876 ?_
  refine sn_aload_n (j := jL_law) (pc := 877) rfl rfl dL_law_877 ?_
  refine sn_iload (j := jL_law) (pc := 878) rfl dL_law_878 ?_
  refine sn_iconst (j := jL_law) (pc := 880) 1 rfl dL_law_880 ?_
  refine sn_iadd (j := jL_law) (pc := 881) dL_law_881 ?_
  refine sn_xald (j := jL_law) (pc := 882) dL_law_882 (fun w_39 => ?_)
  refine sn_callV (j := jL_law) (pc := 883) (jc := j6_best) (As := [.int w_39]) (s6_best w_39 M) mm_hvI (by simp [Value.category]) (Nat.le_of_ble_eq_true rfl) q6_best rfl (by decide) rfl rfl ⟨by decide, by decide⟩ w_ml_L_108 w_im_X6_best w_se_X6_best rfl (Nat.le_of_ble_eq_true rfl) dL_law_883 ?_
  rintro ⟨r_40, M⟩
  show Snd injI jL_law X 886 [some (.ref 103), some (.ref 1), some (.ref 46), some (.ref 62), some (.int x4), none, none] [.int r_40] M _
  refine sn_aload_n (j := jL_law) (pc := 886) rfl rfl dL_law_886 ?_
  refine sn_aload_n (j := jL_law) (pc := 887) rfl rfl dL_law_887 ?_
  refine sn_iload (j := jL_law) (pc := 888) rfl dL_law_888 ?_
  refine sn_iconst (j := jL_law) (pc := 890) 1 rfl dL_law_890 ?_
  refine sn_iadd (j := jL_law) (pc := 891) dL_law_891 ?_
  refine sn_xald (j := jL_law) (pc := 892) dL_law_892 (fun w_41 => ?_)
  refine sn_callV (j := jL_law) (pc := 893) (jc := j7_best) (As := [.int w_41]) (s7_best w_41 M) mm_hvI (by simp [Value.category]) (Nat.le_of_ble_eq_true rfl) q7_best rfl (by decide) rfl rfl ⟨by decide, by decide⟩ w_ml_L_111 w_im_X7_best w_se_X7_best rfl (Nat.le_of_ble_eq_true rfl) dL_law_893 ?_
  rintro ⟨r_42, M⟩
  show Snd injI jL_law X 896 [some (.ref 103), some (.ref 1), some (.ref 46), some (.ref 62), some (.int x4), none, none] [.int r_42, .int r_40] M _
  refine sn_icmp_eq (j := jL_law) (pc := 896) 1138 rfl dL_law_896 ?_ ?_
  · exact Snd.wk (slL_law_1138 X hX rec23 hrec23 x4 M) (by simp [mm_le])
  · refine sn_iconst (j := jL_law) (pc := 899) 0 rfl dL_law_899 ?_
    exact sn_zret (j := jL_law) (pc := 900) rfl dL_law_900
def lL_law_851 (X : mm_X)  (rec23 : Int32 → mm_M → Option (Int32 × mm_M)) (x4 : Int32) (M : mm_M) : Option (Int32 × mm_M) :=
  aX X (x4 + 1) (fun w_43 => cI (f6_lack w_43 M) (fun r_44 M => aX X (x4 + 1) (fun w_45 => cI (f7_lack w_45 M) (fun r_46 M => if r_44 = r_46 then (lL_law_1138 X rec23 x4 M) else (rZ 0 M)))))
set_option maxHeartbeats 2000000 in
theorem slL_law_851 (X : mm_X) (hX : X.1 ≠ 0)  (rec23 : Int32 → mm_M → Option (Int32 × mm_M)) (hrec23 : ∀ (x4 : Int32) (M : mm_M), Snd injI jL_law X 23 [some (.ref 103), some (.ref 1), some (.ref 46), some (.ref 62), some (.int x4), none, none] [] M (rec23 x4 M)) (x4 : Int32)  (M : mm_M) : Snd injI jL_law X 851 [some (.ref 103), some (.ref 1), some (.ref 46), some (.ref 62), some (.int x4), none, none] [] M (lL_law_851 X rec23 x4 M) := by
  unfold lL_law_851
  refine sn_aload_n (j := jL_law) (pc := 851) rfl rfl dL_law_851 ?_
  refine sn_aload_n (j := jL_law) (pc := 852) rfl rfl dL_law_852 ?_
  refine sn_iload (j := jL_law) (pc := 853) rfl dL_law_853 ?_
  refine sn_iconst (j := jL_law) (pc := 855) 1 rfl dL_law_855 ?_
  refine sn_iadd (j := jL_law) (pc := 856) dL_law_856 ?_
  refine sn_xald (j := jL_law) (pc := 857) dL_law_857 (fun w_43 => ?_)
  refine sn_callV (j := jL_law) (pc := 858) (jc := j6_lack) (As := [.int w_43]) (s6_lack w_43 M) mm_hvI (by simp [Value.category]) (Nat.le_of_ble_eq_true rfl) q6_lack rfl (by decide) rfl rfl ⟨by decide, by decide⟩ w_ml_L_104 w_im_X6_lack w_se_X6_lack rfl (Nat.le_of_ble_eq_true rfl) dL_law_858 ?_
  rintro ⟨r_44, M⟩
  show Snd injI jL_law X 861 [some (.ref 103), some (.ref 1), some (.ref 46), some (.ref 62), some (.int x4), none, none] [.int r_44] M _
  refine sn_aload_n (j := jL_law) (pc := 861) rfl rfl dL_law_861 ?_
  refine sn_aload_n (j := jL_law) (pc := 862) rfl rfl dL_law_862 ?_
  refine sn_iload (j := jL_law) (pc := 863) rfl dL_law_863 ?_
  refine sn_iconst (j := jL_law) (pc := 865) 1 rfl dL_law_865 ?_
  refine sn_iadd (j := jL_law) (pc := 866) dL_law_866 ?_
  refine sn_xald (j := jL_law) (pc := 867) dL_law_867 (fun w_45 => ?_)
  refine sn_callV (j := jL_law) (pc := 868) (jc := j7_lack) (As := [.int w_45]) (s7_lack w_45 M) mm_hvI (by simp [Value.category]) (Nat.le_of_ble_eq_true rfl) q7_lack rfl (by decide) rfl rfl ⟨by decide, by decide⟩ w_ml_L_107 w_im_X7_lack w_se_X7_lack rfl (Nat.le_of_ble_eq_true rfl) dL_law_868 ?_
  rintro ⟨r_46, M⟩
  show Snd injI jL_law X 871 [some (.ref 103), some (.ref 1), some (.ref 46), some (.ref 62), some (.int x4), none, none] [.int r_46, .int r_44] M _
  refine sn_icmp_eq (j := jL_law) (pc := 871) 1138 rfl dL_law_871 ?_ ?_
  · exact Snd.wk (slL_law_1138 X hX rec23 hrec23 x4 M) (by simp [mm_le])
  · refine sn_iconst (j := jL_law) (pc := 874) 0 rfl dL_law_874 ?_
    exact sn_zret (j := jL_law) (pc := 875) rfl dL_law_875
def lL_law_826 (X : mm_X)  (rec23 : Int32 → mm_M → Option (Int32 × mm_M)) (x4 : Int32) (M : mm_M) : Option (Int32 × mm_M) :=
  aX X (x4 + 1) (fun w_47 => cI (f6_sum w_47 M) (fun r_48 M => aX X (x4 + 1) (fun w_49 => cI (f7_sum w_49 M) (fun r_50 M => if r_48 = r_50 then (lL_law_1138 X rec23 x4 M) else (rZ 0 M)))))
set_option maxHeartbeats 2000000 in
theorem slL_law_826 (X : mm_X) (hX : X.1 ≠ 0)  (rec23 : Int32 → mm_M → Option (Int32 × mm_M)) (hrec23 : ∀ (x4 : Int32) (M : mm_M), Snd injI jL_law X 23 [some (.ref 103), some (.ref 1), some (.ref 46), some (.ref 62), some (.int x4), none, none] [] M (rec23 x4 M)) (x4 : Int32)  (M : mm_M) : Snd injI jL_law X 826 [some (.ref 103), some (.ref 1), some (.ref 46), some (.ref 62), some (.int x4), none, none] [] M (lL_law_826 X rec23 x4 M) := by
  unfold lL_law_826
  refine sn_aload_n (j := jL_law) (pc := 826) rfl rfl dL_law_826 ?_
  refine sn_aload_n (j := jL_law) (pc := 827) rfl rfl dL_law_827 ?_
  refine sn_iload (j := jL_law) (pc := 828) rfl dL_law_828 ?_
  refine sn_iconst (j := jL_law) (pc := 830) 1 rfl dL_law_830 ?_
  refine sn_iadd (j := jL_law) (pc := 831) dL_law_831 ?_
  refine sn_xald (j := jL_law) (pc := 832) dL_law_832 (fun w_47 => ?_)
  refine sn_callV (j := jL_law) (pc := 833) (jc := j6_sum) (As := [.int w_47]) (s6_sum w_47 M) mm_hvI (by simp [Value.category]) (Nat.le_of_ble_eq_true rfl) q6_sum rfl (by decide) rfl rfl ⟨by decide, by decide⟩ w_ml_L_100 w_im_X6_sum w_se_X6_sum rfl (Nat.le_of_ble_eq_true rfl) dL_law_833 ?_
  rintro ⟨r_48, M⟩
  show Snd injI jL_law X 836 [some (.ref 103), some (.ref 1), some (.ref 46), some (.ref 62), some (.int x4), none, none] [.int r_48] M _
  refine sn_aload_n (j := jL_law) (pc := 836) rfl rfl dL_law_836 ?_
  refine sn_aload_n (j := jL_law) (pc := 837) rfl rfl dL_law_837 ?_
  refine sn_iload (j := jL_law) (pc := 838) rfl dL_law_838 ?_
  refine sn_iconst (j := jL_law) (pc := 840) 1 rfl dL_law_840 ?_
  refine sn_iadd (j := jL_law) (pc := 841) dL_law_841 ?_
  refine sn_xald (j := jL_law) (pc := 842) dL_law_842 (fun w_49 => ?_)
  refine sn_callV (j := jL_law) (pc := 843) (jc := j7_sum) (As := [.int w_49]) (s7_sum w_49 M) mm_hvI (by simp [Value.category]) (Nat.le_of_ble_eq_true rfl) q7_sum rfl (by decide) rfl rfl ⟨by decide, by decide⟩ w_ml_L_103 w_im_X7_sum w_se_X7_sum rfl (Nat.le_of_ble_eq_true rfl) dL_law_843 ?_
  rintro ⟨r_50, M⟩
  show Snd injI jL_law X 846 [some (.ref 103), some (.ref 1), some (.ref 46), some (.ref 62), some (.int x4), none, none] [.int r_50, .int r_48] M _
  refine sn_icmp_eq (j := jL_law) (pc := 846) 1138 rfl dL_law_846 ?_ ?_
  · exact Snd.wk (slL_law_1138 X hX rec23 hrec23 x4 M) (by simp [mm_le])
  · refine sn_iconst (j := jL_law) (pc := 849) 0 rfl dL_law_849 ?_
    exact sn_zret (j := jL_law) (pc := 850) rfl dL_law_850
def lL_law_801 (X : mm_X)  (rec23 : Int32 → mm_M → Option (Int32 × mm_M)) (x4 : Int32) (M : mm_M) : Option (Int32 × mm_M) :=
  aX X (x4 + 1) (fun w_51 => cI (f6_used w_51 M) (fun r_52 M => aX X (x4 + 1) (fun w_53 => cI (f7_used w_53 M) (fun r_54 M => if r_52 = r_54 then (lL_law_1138 X rec23 x4 M) else (rZ 0 M)))))
set_option maxHeartbeats 2000000 in
theorem slL_law_801 (X : mm_X) (hX : X.1 ≠ 0)  (rec23 : Int32 → mm_M → Option (Int32 × mm_M)) (hrec23 : ∀ (x4 : Int32) (M : mm_M), Snd injI jL_law X 23 [some (.ref 103), some (.ref 1), some (.ref 46), some (.ref 62), some (.int x4), none, none] [] M (rec23 x4 M)) (x4 : Int32)  (M : mm_M) : Snd injI jL_law X 801 [some (.ref 103), some (.ref 1), some (.ref 46), some (.ref 62), some (.int x4), none, none] [] M (lL_law_801 X rec23 x4 M) := by
  unfold lL_law_801
  refine sn_aload_n (j := jL_law) (pc := 801) rfl rfl dL_law_801 ?_
  refine sn_aload_n (j := jL_law) (pc := 802) rfl rfl dL_law_802 ?_
  refine sn_iload (j := jL_law) (pc := 803) rfl dL_law_803 ?_
  refine sn_iconst (j := jL_law) (pc := 805) 1 rfl dL_law_805 ?_
  refine sn_iadd (j := jL_law) (pc := 806) dL_law_806 ?_
  refine sn_xald (j := jL_law) (pc := 807) dL_law_807 (fun w_51 => ?_)
  refine sn_callV (j := jL_law) (pc := 808) (jc := j6_used) (As := [.int w_51]) (s6_used w_51 M) mm_hvI (by simp [Value.category]) (Nat.le_of_ble_eq_true rfl) q6_used rfl (by decide) rfl rfl ⟨by decide, by decide⟩ w_ml_L_96 w_im_X6_used w_se_X6_used rfl (Nat.le_of_ble_eq_true rfl) dL_law_808 ?_
  rintro ⟨r_52, M⟩
  show Snd injI jL_law X 811 [some (.ref 103), some (.ref 1), some (.ref 46), some (.ref 62), some (.int x4), none, none] [.int r_52] M _
  refine sn_aload_n (j := jL_law) (pc := 811) rfl rfl dL_law_811 ?_
  refine sn_aload_n (j := jL_law) (pc := 812) rfl rfl dL_law_812 ?_
  refine sn_iload (j := jL_law) (pc := 813) rfl dL_law_813 ?_
  refine sn_iconst (j := jL_law) (pc := 815) 1 rfl dL_law_815 ?_
  refine sn_iadd (j := jL_law) (pc := 816) dL_law_816 ?_
  refine sn_xald (j := jL_law) (pc := 817) dL_law_817 (fun w_53 => ?_)
  refine sn_callV (j := jL_law) (pc := 818) (jc := j7_used) (As := [.int w_53]) (s7_used w_53 M) mm_hvI (by simp [Value.category]) (Nat.le_of_ble_eq_true rfl) q7_used rfl (by decide) rfl rfl ⟨by decide, by decide⟩ w_ml_L_99 w_im_X7_used w_se_X7_used rfl (Nat.le_of_ble_eq_true rfl) dL_law_818 ?_
  rintro ⟨r_54, M⟩
  show Snd injI jL_law X 821 [some (.ref 103), some (.ref 1), some (.ref 46), some (.ref 62), some (.int x4), none, none] [.int r_54, .int r_52] M _
  refine sn_icmp_eq (j := jL_law) (pc := 821) 1138 rfl dL_law_821 ?_ ?_
  · exact Snd.wk (slL_law_1138 X hX rec23 hrec23 x4 M) (by simp [mm_le])
  · refine sn_iconst (j := jL_law) (pc := 824) 0 rfl dL_law_824 ?_
    exact sn_zret (j := jL_law) (pc := 825) rfl dL_law_825
def lL_law_764 (X : mm_X)  (rec23 : Int32 → mm_M → Option (Int32 × mm_M)) (x4 : Int32) (M : mm_M) : Option (Int32 × mm_M) :=
  aX X (x4 + 1) (fun w_55 => aX X (x4 + 2) (fun w_56 => cI (f6_level w_55 w_56 M) (fun r_57 M => aX X (x4 + 1) (fun w_58 => aX X (x4 + 2) (fun w_59 => cI (f7_level w_58 w_59 M) (fun r_60 M => if r_57 = r_60 then (lL_law_1138 X rec23 x4 M) else (rZ 0 M)))))))
set_option maxHeartbeats 2000000 in
theorem slL_law_764 (X : mm_X) (hX : X.1 ≠ 0)  (rec23 : Int32 → mm_M → Option (Int32 × mm_M)) (hrec23 : ∀ (x4 : Int32) (M : mm_M), Snd injI jL_law X 23 [some (.ref 103), some (.ref 1), some (.ref 46), some (.ref 62), some (.int x4), none, none] [] M (rec23 x4 M)) (x4 : Int32)  (M : mm_M) : Snd injI jL_law X 764 [some (.ref 103), some (.ref 1), some (.ref 46), some (.ref 62), some (.int x4), none, none] [] M (lL_law_764 X rec23 x4 M) := by
  unfold lL_law_764
  refine sn_aload_n (j := jL_law) (pc := 764) rfl rfl dL_law_764 ?_
  refine sn_aload_n (j := jL_law) (pc := 765) rfl rfl dL_law_765 ?_
  refine sn_iload (j := jL_law) (pc := 766) rfl dL_law_766 ?_
  refine sn_iconst (j := jL_law) (pc := 768) 1 rfl dL_law_768 ?_
  refine sn_iadd (j := jL_law) (pc := 769) dL_law_769 ?_
  refine sn_xald (j := jL_law) (pc := 770) dL_law_770 (fun w_55 => ?_)
  refine sn_aload_n (j := jL_law) (pc := 771) rfl rfl dL_law_771 ?_
  refine sn_iload (j := jL_law) (pc := 772) rfl dL_law_772 ?_
  refine sn_iconst (j := jL_law) (pc := 774) 2 rfl dL_law_774 ?_
  refine sn_iadd (j := jL_law) (pc := 775) dL_law_775 ?_
  refine sn_xald (j := jL_law) (pc := 776) dL_law_776 (fun w_56 => ?_)
  refine sn_callV (j := jL_law) (pc := 777) (jc := j6_level) (As := [.int w_55, .int w_56]) (s6_level w_55 w_56 M) mm_hvI (by simp [Value.category]) (Nat.le_of_ble_eq_true rfl) q6_level rfl (by decide) rfl rfl ⟨by decide, by decide⟩ w_ml_L_92 w_im_X6_level w_se_X6_level rfl (Nat.le_of_ble_eq_true rfl) dL_law_777 ?_
  rintro ⟨r_57, M⟩
  show Snd injI jL_law X 780 [some (.ref 103), some (.ref 1), some (.ref 46), some (.ref 62), some (.int x4), none, none] [.int r_57] M _
  refine sn_aload_n (j := jL_law) (pc := 780) rfl rfl dL_law_780 ?_
  refine sn_aload_n (j := jL_law) (pc := 781) rfl rfl dL_law_781 ?_
  refine sn_iload (j := jL_law) (pc := 782) rfl dL_law_782 ?_
  refine sn_iconst (j := jL_law) (pc := 784) 1 rfl dL_law_784 ?_
  refine sn_iadd (j := jL_law) (pc := 785) dL_law_785 ?_
  refine sn_xald (j := jL_law) (pc := 786) dL_law_786 (fun w_58 => ?_)
  refine sn_aload_n (j := jL_law) (pc := 787) rfl rfl dL_law_787 ?_
  refine sn_iload (j := jL_law) (pc := 788) rfl dL_law_788 ?_
  refine sn_iconst (j := jL_law) (pc := 790) 2 rfl dL_law_790 ?_
  refine sn_iadd (j := jL_law) (pc := 791) dL_law_791 ?_
  refine sn_xald (j := jL_law) (pc := 792) dL_law_792 (fun w_59 => ?_)
  refine sn_callV (j := jL_law) (pc := 793) (jc := j7_level) (As := [.int w_58, .int w_59]) (s7_level w_58 w_59 M) mm_hvI (by simp [Value.category]) (Nat.le_of_ble_eq_true rfl) q7_level rfl (by decide) rfl rfl ⟨by decide, by decide⟩ w_ml_L_95 w_im_X7_level w_se_X7_level rfl (Nat.le_of_ble_eq_true rfl) dL_law_793 ?_
  rintro ⟨r_60, M⟩
  show Snd injI jL_law X 796 [some (.ref 103), some (.ref 1), some (.ref 46), some (.ref 62), some (.int x4), none, none] [.int r_60, .int r_57] M _
  refine sn_icmp_eq (j := jL_law) (pc := 796) 1138 rfl dL_law_796 ?_ ?_
  · exact Snd.wk (slL_law_1138 X hX rec23 hrec23 x4 M) (by simp [mm_le])
  · refine sn_iconst (j := jL_law) (pc := 799) 0 rfl dL_law_799 ?_
    exact sn_zret (j := jL_law) (pc := 800) rfl dL_law_800
def lL_law_739 (X : mm_X)  (rec23 : Int32 → mm_M → Option (Int32 × mm_M)) (x4 : Int32) (M : mm_M) : Option (Int32 × mm_M) :=
  aX X (x4 + 1) (fun w_61 => cI (f6_plan w_61 M) (fun r_62 M => aX X (x4 + 1) (fun w_63 => cI (f7_plan w_63 M) (fun r_64 M => if r_62 = r_64 then (lL_law_1138 X rec23 x4 M) else (rZ 0 M)))))
set_option maxHeartbeats 2000000 in
theorem slL_law_739 (X : mm_X) (hX : X.1 ≠ 0)  (rec23 : Int32 → mm_M → Option (Int32 × mm_M)) (hrec23 : ∀ (x4 : Int32) (M : mm_M), Snd injI jL_law X 23 [some (.ref 103), some (.ref 1), some (.ref 46), some (.ref 62), some (.int x4), none, none] [] M (rec23 x4 M)) (x4 : Int32)  (M : mm_M) : Snd injI jL_law X 739 [some (.ref 103), some (.ref 1), some (.ref 46), some (.ref 62), some (.int x4), none, none] [] M (lL_law_739 X rec23 x4 M) := by
  unfold lL_law_739
  refine sn_aload_n (j := jL_law) (pc := 739) rfl rfl dL_law_739 ?_
  refine sn_aload_n (j := jL_law) (pc := 740) rfl rfl dL_law_740 ?_
  refine sn_iload (j := jL_law) (pc := 741) rfl dL_law_741 ?_
  refine sn_iconst (j := jL_law) (pc := 743) 1 rfl dL_law_743 ?_
  refine sn_iadd (j := jL_law) (pc := 744) dL_law_744 ?_
  refine sn_xald (j := jL_law) (pc := 745) dL_law_745 (fun w_61 => ?_)
  refine sn_callV (j := jL_law) (pc := 746) (jc := j6_plan) (As := [.int w_61]) (s6_plan w_61 M) mm_hvI (by simp [Value.category]) (Nat.le_of_ble_eq_true rfl) q6_plan rfl (by decide) rfl rfl ⟨by decide, by decide⟩ w_ml_L_88 w_im_X6_plan w_se_X6_plan rfl (Nat.le_of_ble_eq_true rfl) dL_law_746 ?_
  rintro ⟨r_62, M⟩
  show Snd injI jL_law X 749 [some (.ref 103), some (.ref 1), some (.ref 46), some (.ref 62), some (.int x4), none, none] [.int r_62] M _
  refine sn_aload_n (j := jL_law) (pc := 749) rfl rfl dL_law_749 ?_
  refine sn_aload_n (j := jL_law) (pc := 750) rfl rfl dL_law_750 ?_
  refine sn_iload (j := jL_law) (pc := 751) rfl dL_law_751 ?_
  refine sn_iconst (j := jL_law) (pc := 753) 1 rfl dL_law_753 ?_
  refine sn_iadd (j := jL_law) (pc := 754) dL_law_754 ?_
  refine sn_xald (j := jL_law) (pc := 755) dL_law_755 (fun w_63 => ?_)
  refine sn_callV (j := jL_law) (pc := 756) (jc := j7_plan) (As := [.int w_63]) (s7_plan w_63 M) mm_hvI (by simp [Value.category]) (Nat.le_of_ble_eq_true rfl) q7_plan rfl (by decide) rfl rfl ⟨by decide, by decide⟩ w_ml_L_91 w_im_X7_plan w_se_X7_plan rfl (Nat.le_of_ble_eq_true rfl) dL_law_756 ?_
  rintro ⟨r_64, M⟩
  show Snd injI jL_law X 759 [some (.ref 103), some (.ref 1), some (.ref 46), some (.ref 62), some (.int x4), none, none] [.int r_64, .int r_62] M _
  refine sn_icmp_eq (j := jL_law) (pc := 759) 1138 rfl dL_law_759 ?_ ?_
  · exact Snd.wk (slL_law_1138 X hX rec23 hrec23 x4 M) (by simp [mm_le])
  · refine sn_iconst (j := jL_law) (pc := 762) 0 rfl dL_law_762 ?_
    exact sn_zret (j := jL_law) (pc := 763) rfl dL_law_763
def lL_law_690 (X : mm_X)  (rec23 : Int32 → mm_M → Option (Int32 × mm_M)) (x4 : Int32) (M : mm_M) : Option (Int32 × mm_M) :=
  aX X (x4 + 1) (fun w_65 => aX X (x4 + 2) (fun w_66 => aX X (x4 + 3) (fun w_67 => cI (f6_slots w_65 w_66 w_67 M) (fun r_68 M => aX X (x4 + 1) (fun w_69 => aX X (x4 + 2) (fun w_70 => aX X (x4 + 3) (fun w_71 => cI (f7_slots w_69 w_70 w_71 M) (fun r_72 M => if r_68 = r_72 then (lL_law_1138 X rec23 x4 M) else (rZ 0 M)))))))))
set_option maxHeartbeats 2000000 in
theorem slL_law_690 (X : mm_X) (hX : X.1 ≠ 0)  (rec23 : Int32 → mm_M → Option (Int32 × mm_M)) (hrec23 : ∀ (x4 : Int32) (M : mm_M), Snd injI jL_law X 23 [some (.ref 103), some (.ref 1), some (.ref 46), some (.ref 62), some (.int x4), none, none] [] M (rec23 x4 M)) (x4 : Int32)  (M : mm_M) : Snd injI jL_law X 690 [some (.ref 103), some (.ref 1), some (.ref 46), some (.ref 62), some (.int x4), none, none] [] M (lL_law_690 X rec23 x4 M) := by
  unfold lL_law_690
  refine sn_aload_n (j := jL_law) (pc := 690) rfl rfl dL_law_690 ?_
  refine sn_aload_n (j := jL_law) (pc := 691) rfl rfl dL_law_691 ?_
  refine sn_iload (j := jL_law) (pc := 692) rfl dL_law_692 ?_
  refine sn_iconst (j := jL_law) (pc := 694) 1 rfl dL_law_694 ?_
  refine sn_iadd (j := jL_law) (pc := 695) dL_law_695 ?_
  refine sn_xald (j := jL_law) (pc := 696) dL_law_696 (fun w_65 => ?_)
  refine sn_aload_n (j := jL_law) (pc := 697) rfl rfl dL_law_697 ?_
  refine sn_iload (j := jL_law) (pc := 698) rfl dL_law_698 ?_
  refine sn_iconst (j := jL_law) (pc := 700) 2 rfl dL_law_700 ?_
  refine sn_iadd (j := jL_law) (pc := 701) dL_law_701 ?_
  refine sn_xald (j := jL_law) (pc := 702) dL_law_702 (fun w_66 => ?_)
  refine sn_aload_n (j := jL_law) (pc := 703) rfl rfl dL_law_703 ?_
  refine sn_iload (j := jL_law) (pc := 704) rfl dL_law_704 ?_
  refine sn_iconst (j := jL_law) (pc := 706) 3 rfl dL_law_706 ?_
  refine sn_iadd (j := jL_law) (pc := 707) dL_law_707 ?_
  refine sn_xald (j := jL_law) (pc := 708) dL_law_708 (fun w_67 => ?_)
  refine sn_callV (j := jL_law) (pc := 709) (jc := j6_slots) (As := [.int w_65, .int w_66, .int w_67]) (s6_slots w_65 w_66 w_67 M) mm_hvI (by simp [Value.category]) (Nat.le_of_ble_eq_true rfl) q6_slots rfl (by decide) rfl rfl ⟨by decide, by decide⟩ w_ml_L_84 w_im_X6_slots w_se_X6_slots rfl (Nat.le_of_ble_eq_true rfl) dL_law_709 ?_
  rintro ⟨r_68, M⟩
  show Snd injI jL_law X 712 [some (.ref 103), some (.ref 1), some (.ref 46), some (.ref 62), some (.int x4), none, none] [.int r_68] M _
  refine sn_aload_n (j := jL_law) (pc := 712) rfl rfl dL_law_712 ?_
  refine sn_aload_n (j := jL_law) (pc := 713) rfl rfl dL_law_713 ?_
  refine sn_iload (j := jL_law) (pc := 714) rfl dL_law_714 ?_
  refine sn_iconst (j := jL_law) (pc := 716) 1 rfl dL_law_716 ?_
  refine sn_iadd (j := jL_law) (pc := 717) dL_law_717 ?_
  refine sn_xald (j := jL_law) (pc := 718) dL_law_718 (fun w_69 => ?_)
  refine sn_aload_n (j := jL_law) (pc := 719) rfl rfl dL_law_719 ?_
  refine sn_iload (j := jL_law) (pc := 720) rfl dL_law_720 ?_
  refine sn_iconst (j := jL_law) (pc := 722) 2 rfl dL_law_722 ?_
  refine sn_iadd (j := jL_law) (pc := 723) dL_law_723 ?_
  refine sn_xald (j := jL_law) (pc := 724) dL_law_724 (fun w_70 => ?_)
  refine sn_aload_n (j := jL_law) (pc := 725) rfl rfl dL_law_725 ?_
  refine sn_iload (j := jL_law) (pc := 726) rfl dL_law_726 ?_
  refine sn_iconst (j := jL_law) (pc := 728) 3 rfl dL_law_728 ?_
  refine sn_iadd (j := jL_law) (pc := 729) dL_law_729 ?_
  refine sn_xald (j := jL_law) (pc := 730) dL_law_730 (fun w_71 => ?_)
  refine sn_callV (j := jL_law) (pc := 731) (jc := j7_slots) (As := [.int w_69, .int w_70, .int w_71]) (s7_slots w_69 w_70 w_71 M) mm_hvI (by simp [Value.category]) (Nat.le_of_ble_eq_true rfl) q7_slots rfl (by decide) rfl rfl ⟨by decide, by decide⟩ w_ml_L_87 w_im_X7_slots w_se_X7_slots rfl (Nat.le_of_ble_eq_true rfl) dL_law_731 ?_
  rintro ⟨r_72, M⟩
  show Snd injI jL_law X 734 [some (.ref 103), some (.ref 1), some (.ref 46), some (.ref 62), some (.int x4), none, none] [.int r_72, .int r_68] M _
  refine sn_icmp_eq (j := jL_law) (pc := 734) 1138 rfl dL_law_734 ?_ ?_
  · exact Snd.wk (slL_law_1138 X hX rec23 hrec23 x4 M) (by simp [mm_le])
  · refine sn_iconst (j := jL_law) (pc := 737) 0 rfl dL_law_737 ?_
    exact sn_zret (j := jL_law) (pc := 738) rfl dL_law_738
def lL_law_653 (X : mm_X)  (rec23 : Int32 → mm_M → Option (Int32 × mm_M)) (x4 : Int32) (M : mm_M) : Option (Int32 × mm_M) :=
  aX X (x4 + 1) (fun w_73 => aX X (x4 + 2) (fun w_74 => cI (f6_takes w_73 w_74 M) (fun r_75 M => aX X (x4 + 1) (fun w_76 => aX X (x4 + 2) (fun w_77 => cI (f7_takes w_76 w_77 M) (fun r_78 M => if r_75 = r_78 then (lL_law_1138 X rec23 x4 M) else (rZ 0 M)))))))
set_option maxHeartbeats 2000000 in
theorem slL_law_653 (X : mm_X) (hX : X.1 ≠ 0)  (rec23 : Int32 → mm_M → Option (Int32 × mm_M)) (hrec23 : ∀ (x4 : Int32) (M : mm_M), Snd injI jL_law X 23 [some (.ref 103), some (.ref 1), some (.ref 46), some (.ref 62), some (.int x4), none, none] [] M (rec23 x4 M)) (x4 : Int32)  (M : mm_M) : Snd injI jL_law X 653 [some (.ref 103), some (.ref 1), some (.ref 46), some (.ref 62), some (.int x4), none, none] [] M (lL_law_653 X rec23 x4 M) := by
  unfold lL_law_653
  refine sn_aload_n (j := jL_law) (pc := 653) rfl rfl dL_law_653 ?_
  refine sn_aload_n (j := jL_law) (pc := 654) rfl rfl dL_law_654 ?_
  refine sn_iload (j := jL_law) (pc := 655) rfl dL_law_655 ?_
  refine sn_iconst (j := jL_law) (pc := 657) 1 rfl dL_law_657 ?_
  refine sn_iadd (j := jL_law) (pc := 658) dL_law_658 ?_
  refine sn_xald (j := jL_law) (pc := 659) dL_law_659 (fun w_73 => ?_)
  refine sn_aload_n (j := jL_law) (pc := 660) rfl rfl dL_law_660 ?_
  refine sn_iload (j := jL_law) (pc := 661) rfl dL_law_661 ?_
  refine sn_iconst (j := jL_law) (pc := 663) 2 rfl dL_law_663 ?_
  refine sn_iadd (j := jL_law) (pc := 664) dL_law_664 ?_
  refine sn_xald (j := jL_law) (pc := 665) dL_law_665 (fun w_74 => ?_)
  refine sn_callV (j := jL_law) (pc := 666) (jc := j6_takes) (As := [.int w_73, .int w_74]) (s6_takes w_73 w_74 M) mm_hvI (by simp [Value.category]) (Nat.le_of_ble_eq_true rfl) q6_takes rfl (by decide) rfl rfl ⟨by decide, by decide⟩ w_ml_L_80 w_im_X6_takes w_se_X6_takes rfl (Nat.le_of_ble_eq_true rfl) dL_law_666 ?_
  rintro ⟨r_75, M⟩
  show Snd injI jL_law X 669 [some (.ref 103), some (.ref 1), some (.ref 46), some (.ref 62), some (.int x4), none, none] [.int r_75] M _
  refine sn_aload_n (j := jL_law) (pc := 669) rfl rfl dL_law_669 ?_
  refine sn_aload_n (j := jL_law) (pc := 670) rfl rfl dL_law_670 ?_
  refine sn_iload (j := jL_law) (pc := 671) rfl dL_law_671 ?_
  refine sn_iconst (j := jL_law) (pc := 673) 1 rfl dL_law_673 ?_
  refine sn_iadd (j := jL_law) (pc := 674) dL_law_674 ?_
  refine sn_xald (j := jL_law) (pc := 675) dL_law_675 (fun w_76 => ?_)
  refine sn_aload_n (j := jL_law) (pc := 676) rfl rfl dL_law_676 ?_
  refine sn_iload (j := jL_law) (pc := 677) rfl dL_law_677 ?_
  refine sn_iconst (j := jL_law) (pc := 679) 2 rfl dL_law_679 ?_
  refine sn_iadd (j := jL_law) (pc := 680) dL_law_680 ?_
  refine sn_xald (j := jL_law) (pc := 681) dL_law_681 (fun w_77 => ?_)
  refine sn_callV (j := jL_law) (pc := 682) (jc := j7_takes) (As := [.int w_76, .int w_77]) (s7_takes w_76 w_77 M) mm_hvI (by simp [Value.category]) (Nat.le_of_ble_eq_true rfl) q7_takes rfl (by decide) rfl rfl ⟨by decide, by decide⟩ w_ml_L_83 w_im_X7_takes w_se_X7_takes rfl (Nat.le_of_ble_eq_true rfl) dL_law_682 ?_
  rintro ⟨r_78, M⟩
  show Snd injI jL_law X 685 [some (.ref 103), some (.ref 1), some (.ref 46), some (.ref 62), some (.int x4), none, none] [.int r_78, .int r_75] M _
  refine sn_icmp_eq (j := jL_law) (pc := 685) 1138 rfl dL_law_685 ?_ ?_
  · exact Snd.wk (slL_law_1138 X hX rec23 hrec23 x4 M) (by simp [mm_le])
  · refine sn_iconst (j := jL_law) (pc := 688) 0 rfl dL_law_688 ?_
    exact sn_zret (j := jL_law) (pc := 689) rfl dL_law_689
def lL_law_604 (X : mm_X)  (rec23 : Int32 → mm_M → Option (Int32 × mm_M)) (x4 : Int32) (M : mm_M) : Option (Int32 × mm_M) :=
  aX X (x4 + 1) (fun w_79 => aX X (x4 + 2) (fun w_80 => aX X (x4 + 3) (fun w_81 => cI (f6_curve w_79 w_80 w_81 M) (fun r_82 M => aX X (x4 + 1) (fun w_83 => aX X (x4 + 2) (fun w_84 => aX X (x4 + 3) (fun w_85 => cI (f7_curve w_83 w_84 w_85 M) (fun r_86 M => if r_82 = r_86 then (lL_law_1138 X rec23 x4 M) else (rZ 0 M)))))))))
set_option maxHeartbeats 2000000 in
theorem slL_law_604 (X : mm_X) (hX : X.1 ≠ 0)  (rec23 : Int32 → mm_M → Option (Int32 × mm_M)) (hrec23 : ∀ (x4 : Int32) (M : mm_M), Snd injI jL_law X 23 [some (.ref 103), some (.ref 1), some (.ref 46), some (.ref 62), some (.int x4), none, none] [] M (rec23 x4 M)) (x4 : Int32)  (M : mm_M) : Snd injI jL_law X 604 [some (.ref 103), some (.ref 1), some (.ref 46), some (.ref 62), some (.int x4), none, none] [] M (lL_law_604 X rec23 x4 M) := by
  unfold lL_law_604
  refine sn_aload_n (j := jL_law) (pc := 604) rfl rfl dL_law_604 ?_
  refine sn_aload_n (j := jL_law) (pc := 605) rfl rfl dL_law_605 ?_
  refine sn_iload (j := jL_law) (pc := 606) rfl dL_law_606 ?_
  refine sn_iconst (j := jL_law) (pc := 608) 1 rfl dL_law_608 ?_
  refine sn_iadd (j := jL_law) (pc := 609) dL_law_609 ?_
  refine sn_xald (j := jL_law) (pc := 610) dL_law_610 (fun w_79 => ?_)
  refine sn_aload_n (j := jL_law) (pc := 611) rfl rfl dL_law_611 ?_
  refine sn_iload (j := jL_law) (pc := 612) rfl dL_law_612 ?_
  refine sn_iconst (j := jL_law) (pc := 614) 2 rfl dL_law_614 ?_
  refine sn_iadd (j := jL_law) (pc := 615) dL_law_615 ?_
  refine sn_xald (j := jL_law) (pc := 616) dL_law_616 (fun w_80 => ?_)
  refine sn_aload_n (j := jL_law) (pc := 617) rfl rfl dL_law_617 ?_
  refine sn_iload (j := jL_law) (pc := 618) rfl dL_law_618 ?_
  refine sn_iconst (j := jL_law) (pc := 620) 3 rfl dL_law_620 ?_
  refine sn_iadd (j := jL_law) (pc := 621) dL_law_621 ?_
  refine sn_xald (j := jL_law) (pc := 622) dL_law_622 (fun w_81 => ?_)
  refine sn_callV (j := jL_law) (pc := 623) (jc := j6_curve) (As := [.int w_79, .int w_80, .int w_81]) (s6_curve w_79 w_80 w_81 M) mm_hvI (by simp [Value.category]) (Nat.le_of_ble_eq_true rfl) q6_curve rfl (by decide) rfl rfl ⟨by decide, by decide⟩ w_ml_L_75 w_im_X6_curve w_se_X6_curve rfl (Nat.le_of_ble_eq_true rfl) dL_law_623 ?_
  rintro ⟨r_82, M⟩
  show Snd injI jL_law X 626 [some (.ref 103), some (.ref 1), some (.ref 46), some (.ref 62), some (.int x4), none, none] [.int r_82] M _
  refine sn_aload_n (j := jL_law) (pc := 626) rfl rfl dL_law_626 ?_
  refine sn_aload_n (j := jL_law) (pc := 627) rfl rfl dL_law_627 ?_
  refine sn_iload (j := jL_law) (pc := 628) rfl dL_law_628 ?_
  refine sn_iconst (j := jL_law) (pc := 630) 1 rfl dL_law_630 ?_
  refine sn_iadd (j := jL_law) (pc := 631) dL_law_631 ?_
  refine sn_xald (j := jL_law) (pc := 632) dL_law_632 (fun w_83 => ?_)
  refine sn_aload_n (j := jL_law) (pc := 633) rfl rfl dL_law_633 ?_
  refine sn_iload (j := jL_law) (pc := 634) rfl dL_law_634 ?_
  refine sn_iconst (j := jL_law) (pc := 636) 2 rfl dL_law_636 ?_
  refine sn_iadd (j := jL_law) (pc := 637) dL_law_637 ?_
  refine sn_xald (j := jL_law) (pc := 638) dL_law_638 (fun w_84 => ?_)
  refine sn_aload_n (j := jL_law) (pc := 639) rfl rfl dL_law_639 ?_
  refine sn_iload (j := jL_law) (pc := 640) rfl dL_law_640 ?_
  refine sn_iconst (j := jL_law) (pc := 642) 3 rfl dL_law_642 ?_
  refine sn_iadd (j := jL_law) (pc := 643) dL_law_643 ?_
  refine sn_xald (j := jL_law) (pc := 644) dL_law_644 (fun w_85 => ?_)
  refine sn_callV (j := jL_law) (pc := 645) (jc := j7_curve) (As := [.int w_83, .int w_84, .int w_85]) (s7_curve w_83 w_84 w_85 M) mm_hvI (by simp [Value.category]) (Nat.le_of_ble_eq_true rfl) q7_curve rfl (by decide) rfl rfl ⟨by decide, by decide⟩ w_ml_L_79 w_im_X7_curve w_se_X7_curve rfl (Nat.le_of_ble_eq_true rfl) dL_law_645 ?_
  rintro ⟨r_86, M⟩
  show Snd injI jL_law X 648 [some (.ref 103), some (.ref 1), some (.ref 46), some (.ref 62), some (.int x4), none, none] [.int r_86, .int r_82] M _
  refine sn_icmp_eq (j := jL_law) (pc := 648) 1138 rfl dL_law_648 ?_ ?_
  · exact Snd.wk (slL_law_1138 X hX rec23 hrec23 x4 M) (by simp [mm_le])
  · refine sn_iconst (j := jL_law) (pc := 651) 0 rfl dL_law_651 ?_
    exact sn_zret (j := jL_law) (pc := 652) rfl dL_law_652
def lL_law_601 (X : mm_X)  (rec23 : Int32 → mm_M → Option (Int32 × mm_M)) (x4 : Int32) (M : mm_M) : Option (Int32 × mm_M) :=
  lL_law_1138 X rec23 x4 M
set_option maxHeartbeats 2000000 in
theorem slL_law_601 (X : mm_X) (hX : X.1 ≠ 0)  (rec23 : Int32 → mm_M → Option (Int32 × mm_M)) (hrec23 : ∀ (x4 : Int32) (M : mm_M), Snd injI jL_law X 23 [some (.ref 103), some (.ref 1), some (.ref 46), some (.ref 62), some (.int x4), none, none] [] M (rec23 x4 M)) (x4 : Int32)  (M : mm_M) : Snd injI jL_law X 601 [some (.ref 103), some (.ref 1), some (.ref 46), some (.ref 62), some (.int x4), none, none] [] M (lL_law_601 X rec23 x4 M) := by
  unfold lL_law_601
  refine sn_goto (j := jL_law) (pc := 601) 1138 rfl dL_law_601 ?_
  exact Snd.wk (slL_law_1138 X hX rec23 hrec23 x4 M) (by simp [mm_le])
def lL_law_536 (X : mm_X)  (rec23 : Int32 → mm_M → Option (Int32 × mm_M)) (x4 : Int32) (M : mm_M) : Option (Int32 × mm_M) :=
  aX X (x4 + 1) (fun w_87 => aX X (x4 + 2) (fun w_88 => cI (fTold w_87 w_88 M) (fun r_89 M => aX X (x4 + 1) (fun w_90 => aX X (x4 + 2) (fun w_91 => cI (f7_told w_90 w_91 M) (fun r_92 M => cI (f7_thrown M) (fun r_93 M => if r_93 = r_89 then (if r_89 = 0 then (aL 62 1 0 M (fun u_94 => if (lg_cmp u_94 r_92.toInt64) = 0 then (lL_law_601 X rec23 x4 M) else (rZ 0 M))) else (lL_law_601 X rec23 x4 M)) else (rZ 0 M))))))))
set_option maxHeartbeats 2000000 in
theorem slL_law_536 (X : mm_X) (hX : X.1 ≠ 0)  (rec23 : Int32 → mm_M → Option (Int32 × mm_M)) (hrec23 : ∀ (x4 : Int32) (M : mm_M), Snd injI jL_law X 23 [some (.ref 103), some (.ref 1), some (.ref 46), some (.ref 62), some (.int x4), none, none] [] M (rec23 x4 M)) (x4 : Int32)  (M : mm_M) : Snd injI jL_law X 536 [some (.ref 103), some (.ref 1), some (.ref 46), some (.ref 62), some (.int x4), none, none] [] M (lL_law_536 X rec23 x4 M) := by
  unfold lL_law_536
  refine sn_aload_n (j := jL_law) (pc := 536) rfl rfl dL_law_536 ?_
  refine sn_aload_n (j := jL_law) (pc := 537) rfl rfl dL_law_537 ?_
  refine sn_iload (j := jL_law) (pc := 538) rfl dL_law_538 ?_
  refine sn_iconst (j := jL_law) (pc := 540) 1 rfl dL_law_540 ?_
  refine sn_iadd (j := jL_law) (pc := 541) dL_law_541 ?_
  refine sn_xald (j := jL_law) (pc := 542) dL_law_542 (fun w_87 => ?_)
  refine sn_aload_n (j := jL_law) (pc := 543) rfl rfl dL_law_543 ?_
  refine sn_iload (j := jL_law) (pc := 544) rfl dL_law_544 ?_
  refine sn_iconst (j := jL_law) (pc := 546) 2 rfl dL_law_546 ?_
  refine sn_iadd (j := jL_law) (pc := 547) dL_law_547 ?_
  refine sn_xald (j := jL_law) (pc := 548) dL_law_548 (fun w_88 => ?_)
  refine sn_aload_n (j := jL_law) (pc := 549) rfl rfl dL_law_549 ?_
  refine sn_told (j := jL_law) (pc := 550) rfl (by decide) hX (Nat.le_of_ble_eq_true rfl) dL_law_550 ?_
  rintro ⟨r_89, M⟩
  show Snd injI jL_law X 553 [some (.ref 103), some (.ref 1), some (.ref 46), some (.ref 62), some (.int x4), none, none] [.int r_89] M _
  refine sn_istore (j := jL_law) (pc := 553) (by decide) (lo' := [some (.ref 103), some (.ref 1), some (.ref 46), some (.ref 62), some (.int x4), some (.int r_89), none]) rfl dL_law_553 ?_
  refine sn_aload_n (j := jL_law) (pc := 555) rfl rfl dL_law_555 ?_
  refine sn_aload_n (j := jL_law) (pc := 556) rfl rfl dL_law_556 ?_
  refine sn_iload (j := jL_law) (pc := 557) rfl dL_law_557 ?_
  refine sn_iconst (j := jL_law) (pc := 559) 1 rfl dL_law_559 ?_
  refine sn_iadd (j := jL_law) (pc := 560) dL_law_560 ?_
  refine sn_xald (j := jL_law) (pc := 561) dL_law_561 (fun w_90 => ?_)
  refine sn_aload_n (j := jL_law) (pc := 562) rfl rfl dL_law_562 ?_
  refine sn_iload (j := jL_law) (pc := 563) rfl dL_law_563 ?_
  refine sn_iconst (j := jL_law) (pc := 565) 2 rfl dL_law_565 ?_
  refine sn_iadd (j := jL_law) (pc := 566) dL_law_566 ?_
  refine sn_xald (j := jL_law) (pc := 567) dL_law_567 (fun w_91 => ?_)
  refine sn_callV (j := jL_law) (pc := 568) (jc := j7_told) (As := [.int w_90, .int w_91]) (s7_told w_90 w_91 M) mm_hvI (by simp [Value.category]) (Nat.le_of_ble_eq_true rfl) q7_told rfl (by decide) rfl rfl ⟨by decide, by decide⟩ w_ml_L_71 w_im_X7_told w_se_X7_told rfl (Nat.le_of_ble_eq_true rfl) dL_law_568 ?_
  rintro ⟨r_92, M⟩
  show Snd injI jL_law X 571 [some (.ref 103), some (.ref 1), some (.ref 46), some (.ref 62), some (.int x4), some (.int r_89), none] [.int r_92] M _
  refine sn_istore (j := jL_law) (pc := 571) (by decide) (lo' := [some (.ref 103), some (.ref 1), some (.ref 46), some (.ref 62), some (.int x4), some (.int r_89), some (.int r_92)]) rfl dL_law_571 ?_
  refine sn_aload_n (j := jL_law) (pc := 573) rfl rfl dL_law_573 ?_
  refine sn_callV (j := jL_law) (pc := 574) (jc := j7_thrown) (As := []) (s7_thrown M) mm_hvI (by simp [Value.category]) (Nat.le_of_ble_eq_true rfl) q7_thrown rfl (by decide) rfl rfl ⟨by decide, by decide⟩ w_ml_L_72 w_im_X7_thrown w_se_X7_thrown rfl (Nat.le_of_ble_eq_true rfl) dL_law_574 ?_
  rintro ⟨r_93, M⟩
  show Snd injI jL_law X 577 [some (.ref 103), some (.ref 1), some (.ref 46), some (.ref 62), some (.int x4), some (.int r_89), some (.int r_92)] [.int r_93] M _
  refine sn_iload (j := jL_law) (pc := 577) rfl dL_law_577 ?_
  refine sn_icmp_eq (j := jL_law) (pc := 579) 584 rfl dL_law_579 ?_ ?_
  · refine sn_iload (j := jL_law) (pc := 584) rfl dL_law_584 ?_
    refine sn_if_ne (j := jL_law) (pc := 586) 601 rfl dL_law_586 ?_ ?_
    · exact Snd.wk (slL_law_601 X hX rec23 hrec23 x4 M) (by simp [mm_le])
    · refine sn_aload_n (j := jL_law) (pc := 589) rfl rfl dL_law_589 ?_
      refine sn_iconst (j := jL_law) (pc := 590) 0 rfl dL_law_590 ?_
      refine sn_lald (j := jL_law) (pc := 591) rfl ⟨by decide, by decide⟩ dL_law_591 (fun u_94 => ?_)
      refine sn_iload (j := jL_law) (pc := 592) rfl dL_law_592 ?_
      refine sn_i2l (j := jL_law) (pc := 594) dL_law_594 ?_
      refine sn_lcmp (j := jL_law) (pc := 595) dL_law_595 ?_
      refine sn_if_eq (j := jL_law) (pc := 596) 601 rfl dL_law_596 ?_ ?_
      · exact Snd.wk (slL_law_601 X hX rec23 hrec23 x4 M) (by simp [mm_le])
      · refine sn_iconst (j := jL_law) (pc := 599) 0 rfl dL_law_599 ?_
        exact sn_zret (j := jL_law) (pc := 600) rfl dL_law_600
  · refine sn_iconst (j := jL_law) (pc := 582) 0 rfl dL_law_582 ?_
    exact sn_zret (j := jL_law) (pc := 583) rfl dL_law_583
def lL_law_511 (X : mm_X)  (rec23 : Int32 → mm_M → Option (Int32 × mm_M)) (x4 : Int32) (M : mm_M) : Option (Int32 × mm_M) :=
  aX X (x4 + 1) (fun w_95 => cI (f6_count w_95 M) (fun r_96 M => aX X (x4 + 1) (fun w_97 => cI (f7_count w_97 M) (fun r_98 M => if r_96 = r_98 then (lL_law_1138 X rec23 x4 M) else (rZ 0 M)))))
set_option maxHeartbeats 2000000 in
theorem slL_law_511 (X : mm_X) (hX : X.1 ≠ 0)  (rec23 : Int32 → mm_M → Option (Int32 × mm_M)) (hrec23 : ∀ (x4 : Int32) (M : mm_M), Snd injI jL_law X 23 [some (.ref 103), some (.ref 1), some (.ref 46), some (.ref 62), some (.int x4), none, none] [] M (rec23 x4 M)) (x4 : Int32)  (M : mm_M) : Snd injI jL_law X 511 [some (.ref 103), some (.ref 1), some (.ref 46), some (.ref 62), some (.int x4), none, none] [] M (lL_law_511 X rec23 x4 M) := by
  unfold lL_law_511
  refine sn_aload_n (j := jL_law) (pc := 511) rfl rfl dL_law_511 ?_
  refine sn_aload_n (j := jL_law) (pc := 512) rfl rfl dL_law_512 ?_
  refine sn_iload (j := jL_law) (pc := 513) rfl dL_law_513 ?_
  refine sn_iconst (j := jL_law) (pc := 515) 1 rfl dL_law_515 ?_
  refine sn_iadd (j := jL_law) (pc := 516) dL_law_516 ?_
  refine sn_xald (j := jL_law) (pc := 517) dL_law_517 (fun w_95 => ?_)
  refine sn_callV (j := jL_law) (pc := 518) (jc := j6_count) (As := [.int w_95]) (s6_count w_95 M) mm_hvI (by simp [Value.category]) (Nat.le_of_ble_eq_true rfl) q6_count rfl (by decide) rfl rfl ⟨by decide, by decide⟩ w_ml_L_61 w_im_X6_count w_se_X6_count rfl (Nat.le_of_ble_eq_true rfl) dL_law_518 ?_
  rintro ⟨r_96, M⟩
  show Snd injI jL_law X 521 [some (.ref 103), some (.ref 1), some (.ref 46), some (.ref 62), some (.int x4), none, none] [.int r_96] M _
  refine sn_aload_n (j := jL_law) (pc := 521) rfl rfl dL_law_521 ?_
  refine sn_aload_n (j := jL_law) (pc := 522) rfl rfl dL_law_522 ?_
  refine sn_iload (j := jL_law) (pc := 523) rfl dL_law_523 ?_
  refine sn_iconst (j := jL_law) (pc := 525) 1 rfl dL_law_525 ?_
  refine sn_iadd (j := jL_law) (pc := 526) dL_law_526 ?_
  refine sn_xald (j := jL_law) (pc := 527) dL_law_527 (fun w_97 => ?_)
  refine sn_callV (j := jL_law) (pc := 528) (jc := j7_count) (As := [.int w_97]) (s7_count w_97 M) mm_hvI (by simp [Value.category]) (Nat.le_of_ble_eq_true rfl) q7_count rfl (by decide) rfl rfl ⟨by decide, by decide⟩ w_ml_L_65 w_im_X7_count w_se_X7_count rfl (Nat.le_of_ble_eq_true rfl) dL_law_528 ?_
  rintro ⟨r_98, M⟩
  show Snd injI jL_law X 531 [some (.ref 103), some (.ref 1), some (.ref 46), some (.ref 62), some (.int x4), none, none] [.int r_98, .int r_96] M _
  refine sn_icmp_eq (j := jL_law) (pc := 531) 1138 rfl dL_law_531 ?_ ?_
  · exact Snd.wk (slL_law_1138 X hX rec23 hrec23 x4 M) (by simp [mm_le])
  · refine sn_iconst (j := jL_law) (pc := 534) 0 rfl dL_law_534 ?_
    exact sn_zret (j := jL_law) (pc := 535) rfl dL_law_535
def lL_law_498 (X : mm_X)  (rec23 : Int32 → mm_M → Option (Int32 × mm_M)) (x4 : Int32) (M : mm_M) : Option (Int32 × mm_M) :=
  cI (f6_clear M) (fun r_99 M => cI (f7_clear M) (fun r_100 M => if r_99 = r_100 then (lL_law_1138 X rec23 x4 M) else (rZ 0 M)))
set_option maxHeartbeats 2000000 in
theorem slL_law_498 (X : mm_X) (hX : X.1 ≠ 0)  (rec23 : Int32 → mm_M → Option (Int32 × mm_M)) (hrec23 : ∀ (x4 : Int32) (M : mm_M), Snd injI jL_law X 23 [some (.ref 103), some (.ref 1), some (.ref 46), some (.ref 62), some (.int x4), none, none] [] M (rec23 x4 M)) (x4 : Int32)  (M : mm_M) : Snd injI jL_law X 498 [some (.ref 103), some (.ref 1), some (.ref 46), some (.ref 62), some (.int x4), none, none] [] M (lL_law_498 X rec23 x4 M) := by
  unfold lL_law_498
  refine sn_aload_n (j := jL_law) (pc := 498) rfl rfl dL_law_498 ?_
  refine sn_callV (j := jL_law) (pc := 499) (jc := j6_clear) (As := []) (s6_clear M) mm_hvI (by simp [Value.category]) (Nat.le_of_ble_eq_true rfl) q6_clear rfl (by decide) rfl rfl ⟨by decide, by decide⟩ w_ml_L_57 w_im_X6_clear w_se_X6_clear rfl (Nat.le_of_ble_eq_true rfl) dL_law_499 ?_
  rintro ⟨r_99, M⟩
  show Snd injI jL_law X 502 [some (.ref 103), some (.ref 1), some (.ref 46), some (.ref 62), some (.int x4), none, none] [.int r_99] M _
  refine sn_aload_n (j := jL_law) (pc := 502) rfl rfl dL_law_502 ?_
  refine sn_callV (j := jL_law) (pc := 503) (jc := j7_clear) (As := []) (s7_clear M) mm_hvI (by simp [Value.category]) (Nat.le_of_ble_eq_true rfl) q7_clear rfl (by decide) rfl rfl ⟨by decide, by decide⟩ w_ml_L_60 w_im_X7_clear w_se_X7_clear rfl (Nat.le_of_ble_eq_true rfl) dL_law_503 ?_
  rintro ⟨r_100, M⟩
  show Snd injI jL_law X 506 [some (.ref 103), some (.ref 1), some (.ref 46), some (.ref 62), some (.int x4), none, none] [.int r_100, .int r_99] M _
  refine sn_icmp_eq (j := jL_law) (pc := 506) 1138 rfl dL_law_506 ?_ ?_
  · exact Snd.wk (slL_law_1138 X hX rec23 hrec23 x4 M) (by simp [mm_le])
  · refine sn_iconst (j := jL_law) (pc := 509) 0 rfl dL_law_509 ?_
    exact sn_zret (j := jL_law) (pc := 510) rfl dL_law_510
def lL_law_490 (X : mm_X)  (rec23 : Int32 → mm_M → Option (Int32 × mm_M)) (x4 : Int32) (s0 : Int32) (s1 : Int32) (s2 : Int32) (s4 : Int32) (M : mm_M) : Option (Int32 × mm_M) :=
  cI (f7_charge s2 s1 s0 M) (fun r_101 M => if s4 = r_101 then (lL_law_1138 X rec23 x4 M) else (rZ 0 M))
set_option maxHeartbeats 2000000 in
theorem slL_law_490 (X : mm_X) (hX : X.1 ≠ 0)  (rec23 : Int32 → mm_M → Option (Int32 × mm_M)) (hrec23 : ∀ (x4 : Int32) (M : mm_M), Snd injI jL_law X 23 [some (.ref 103), some (.ref 1), some (.ref 46), some (.ref 62), some (.int x4), none, none] [] M (rec23 x4 M)) (x4 : Int32) (s0 : Int32) (s1 : Int32) (s2 : Int32) (s4 : Int32)  (M : mm_M) : Snd injI jL_law X 490 [some (.ref 103), some (.ref 1), some (.ref 46), some (.ref 62), some (.int x4), none, none] [.int s0, .int s1, .int s2, .ref 46, .int s4] M (lL_law_490 X rec23 x4 s0 s1 s2 s4 M) := by
  unfold lL_law_490
  refine sn_callV (j := jL_law) (pc := 490) (jc := j7_charge) (As := [.int s2, .int s1, .int s0]) (s7_charge s2 s1 s0 M) mm_hvI (by simp [Value.category]) (Nat.le_of_ble_eq_true rfl) q7_charge rfl (by decide) rfl rfl ⟨by decide, by decide⟩ w_ml_L_56 w_im_X7_charge w_se_X7_charge rfl (Nat.le_of_ble_eq_true rfl) dL_law_490 ?_
  rintro ⟨r_101, M⟩
  show Snd injI jL_law X 493 [some (.ref 103), some (.ref 1), some (.ref 46), some (.ref 62), some (.int x4), none, none] [.int r_101, .int s4] M _
  refine sn_icmp_eq (j := jL_law) (pc := 493) 1138 rfl dL_law_493 ?_ ?_
  · exact Snd.wk (slL_law_1138 X hX rec23 hrec23 x4 M) (by simp [mm_le])
  · refine sn_iconst (j := jL_law) (pc := 496) 0 rfl dL_law_496 ?_
    exact sn_zret (j := jL_law) (pc := 497) rfl dL_law_497
def lL_law_460 (X : mm_X)  (rec23 : Int32 → mm_M → Option (Int32 × mm_M)) (x4 : Int32) (s0 : Int32) (s1 : Int32) (s2 : Int32) (M : mm_M) : Option (Int32 × mm_M) :=
  cI (f6_charge s2 s1 s0 M) (fun r_102 M => aX X (x4 + 1) (fun w_103 => aX X (x4 + 2) (fun w_104 => aX X (x4 + 3) (fun w_105 => if w_105 = 0 then (lL_law_490 X rec23 x4 0 w_104 w_103 r_102 M) else (lL_law_490 X rec23 x4 1 w_104 w_103 r_102 M)))))
set_option maxHeartbeats 2000000 in
theorem slL_law_460 (X : mm_X) (hX : X.1 ≠ 0)  (rec23 : Int32 → mm_M → Option (Int32 × mm_M)) (hrec23 : ∀ (x4 : Int32) (M : mm_M), Snd injI jL_law X 23 [some (.ref 103), some (.ref 1), some (.ref 46), some (.ref 62), some (.int x4), none, none] [] M (rec23 x4 M)) (x4 : Int32) (s0 : Int32) (s1 : Int32) (s2 : Int32)  (M : mm_M) : Snd injI jL_law X 460 [some (.ref 103), some (.ref 1), some (.ref 46), some (.ref 62), some (.int x4), none, none] [.int s0, .int s1, .int s2, .ref 1] M (lL_law_460 X rec23 x4 s0 s1 s2 M) := by
  unfold lL_law_460
  refine sn_callV (j := jL_law) (pc := 460) (jc := j6_charge) (As := [.int s2, .int s1, .int s0]) (s6_charge s2 s1 s0 M) mm_hvI (by simp [Value.category]) (Nat.le_of_ble_eq_true rfl) q6_charge rfl (by decide) rfl rfl ⟨by decide, by decide⟩ w_ml_L_52 w_im_X6_charge w_se_X6_charge rfl (Nat.le_of_ble_eq_true rfl) dL_law_460 ?_
  rintro ⟨r_102, M⟩
  show Snd injI jL_law X 463 [some (.ref 103), some (.ref 1), some (.ref 46), some (.ref 62), some (.int x4), none, none] [.int r_102] M _
  refine sn_aload_n (j := jL_law) (pc := 463) rfl rfl dL_law_463 ?_
  refine sn_aload_n (j := jL_law) (pc := 464) rfl rfl dL_law_464 ?_
  refine sn_iload (j := jL_law) (pc := 465) rfl dL_law_465 ?_
  refine sn_iconst (j := jL_law) (pc := 467) 1 rfl dL_law_467 ?_
  refine sn_iadd (j := jL_law) (pc := 468) dL_law_468 ?_
  refine sn_xald (j := jL_law) (pc := 469) dL_law_469 (fun w_103 => ?_)
  refine sn_aload_n (j := jL_law) (pc := 470) rfl rfl dL_law_470 ?_
  refine sn_iload (j := jL_law) (pc := 471) rfl dL_law_471 ?_
  refine sn_iconst (j := jL_law) (pc := 473) 2 rfl dL_law_473 ?_
  refine sn_iadd (j := jL_law) (pc := 474) dL_law_474 ?_
  refine sn_xald (j := jL_law) (pc := 475) dL_law_475 (fun w_104 => ?_)
  refine sn_aload_n (j := jL_law) (pc := 476) rfl rfl dL_law_476 ?_
  refine sn_iload (j := jL_law) (pc := 477) rfl dL_law_477 ?_
  refine sn_iconst (j := jL_law) (pc := 479) 3 rfl dL_law_479 ?_
  refine sn_iadd (j := jL_law) (pc := 480) dL_law_480 ?_
  refine sn_xald (j := jL_law) (pc := 481) dL_law_481 (fun w_105 => ?_)
  refine sn_if_eq (j := jL_law) (pc := 482) 489 rfl dL_law_482 ?_ ?_
  · refine sn_iconst (j := jL_law) (pc := 489) 0 rfl dL_law_489 ?_
    exact Snd.wk (slL_law_490 X hX rec23 hrec23 x4 0 w_104 w_103 r_102 M) (by simp [mm_le])
  · refine sn_iconst (j := jL_law) (pc := 485) 1 rfl dL_law_485 ?_
    refine sn_goto (j := jL_law) (pc := 486) 490 rfl dL_law_486 ?_
    exact Snd.wk (slL_law_490 X hX rec23 hrec23 x4 1 w_104 w_103 r_102 M) (by simp [mm_le])
def lL_law_433 (X : mm_X)  (rec23 : Int32 → mm_M → Option (Int32 × mm_M)) (x4 : Int32) (M : mm_M) : Option (Int32 × mm_M) :=
  aX X (x4 + 1) (fun w_106 => aX X (x4 + 2) (fun w_107 => aX X (x4 + 3) (fun w_108 => if w_108 = 0 then (lL_law_460 X rec23 x4 0 w_107 w_106 M) else (lL_law_460 X rec23 x4 1 w_107 w_106 M))))
set_option maxHeartbeats 2000000 in
theorem slL_law_433 (X : mm_X) (hX : X.1 ≠ 0)  (rec23 : Int32 → mm_M → Option (Int32 × mm_M)) (hrec23 : ∀ (x4 : Int32) (M : mm_M), Snd injI jL_law X 23 [some (.ref 103), some (.ref 1), some (.ref 46), some (.ref 62), some (.int x4), none, none] [] M (rec23 x4 M)) (x4 : Int32)  (M : mm_M) : Snd injI jL_law X 433 [some (.ref 103), some (.ref 1), some (.ref 46), some (.ref 62), some (.int x4), none, none] [] M (lL_law_433 X rec23 x4 M) := by
  unfold lL_law_433
  refine sn_aload_n (j := jL_law) (pc := 433) rfl rfl dL_law_433 ?_
  refine sn_aload_n (j := jL_law) (pc := 434) rfl rfl dL_law_434 ?_
  refine sn_iload (j := jL_law) (pc := 435) rfl dL_law_435 ?_
  refine sn_iconst (j := jL_law) (pc := 437) 1 rfl dL_law_437 ?_
  refine sn_iadd (j := jL_law) (pc := 438) dL_law_438 ?_
  refine sn_xald (j := jL_law) (pc := 439) dL_law_439 (fun w_106 => ?_)
  refine sn_aload_n (j := jL_law) (pc := 440) rfl rfl dL_law_440 ?_
  refine sn_iload (j := jL_law) (pc := 441) rfl dL_law_441 ?_
  refine sn_iconst (j := jL_law) (pc := 443) 2 rfl dL_law_443 ?_
  refine sn_iadd (j := jL_law) (pc := 444) dL_law_444 ?_
  refine sn_xald (j := jL_law) (pc := 445) dL_law_445 (fun w_107 => ?_)
  refine sn_aload_n (j := jL_law) (pc := 446) rfl rfl dL_law_446 ?_
  refine sn_iload (j := jL_law) (pc := 447) rfl dL_law_447 ?_
  refine sn_iconst (j := jL_law) (pc := 449) 3 rfl dL_law_449 ?_
  refine sn_iadd (j := jL_law) (pc := 450) dL_law_450 ?_
  refine sn_xald (j := jL_law) (pc := 451) dL_law_451 (fun w_108 => ?_)
  refine sn_if_eq (j := jL_law) (pc := 452) 459 rfl dL_law_452 ?_ ?_
  · refine sn_iconst (j := jL_law) (pc := 459) 0 rfl dL_law_459 ?_
    exact Snd.wk (slL_law_460 X hX rec23 hrec23 x4 0 w_107 w_106 M) (by simp [mm_le])
  · refine sn_iconst (j := jL_law) (pc := 455) 1 rfl dL_law_455 ?_
    refine sn_goto (j := jL_law) (pc := 456) 460 rfl dL_law_456 ?_
    exact Snd.wk (slL_law_460 X hX rec23 hrec23 x4 1 w_107 w_106 M) (by simp [mm_le])
def lL_law_420 (X : mm_X)  (rec23 : Int32 → mm_M → Option (Int32 × mm_M)) (x4 : Int32) (M : mm_M) : Option (Int32 × mm_M) :=
  cI (f6_drop M) (fun r_109 M => cI (f7_drop M) (fun r_110 M => if r_109 = r_110 then (lL_law_1138 X rec23 x4 M) else (rZ 0 M)))
set_option maxHeartbeats 2000000 in
theorem slL_law_420 (X : mm_X) (hX : X.1 ≠ 0)  (rec23 : Int32 → mm_M → Option (Int32 × mm_M)) (hrec23 : ∀ (x4 : Int32) (M : mm_M), Snd injI jL_law X 23 [some (.ref 103), some (.ref 1), some (.ref 46), some (.ref 62), some (.int x4), none, none] [] M (rec23 x4 M)) (x4 : Int32)  (M : mm_M) : Snd injI jL_law X 420 [some (.ref 103), some (.ref 1), some (.ref 46), some (.ref 62), some (.int x4), none, none] [] M (lL_law_420 X rec23 x4 M) := by
  unfold lL_law_420
  refine sn_aload_n (j := jL_law) (pc := 420) rfl rfl dL_law_420 ?_
  refine sn_callV (j := jL_law) (pc := 421) (jc := j6_drop) (As := []) (s6_drop M) mm_hvI (by simp [Value.category]) (Nat.le_of_ble_eq_true rfl) q6_drop rfl (by decide) rfl rfl ⟨by decide, by decide⟩ w_ml_L_48 w_im_X6_drop w_se_X6_drop rfl (Nat.le_of_ble_eq_true rfl) dL_law_421 ?_
  rintro ⟨r_109, M⟩
  show Snd injI jL_law X 424 [some (.ref 103), some (.ref 1), some (.ref 46), some (.ref 62), some (.int x4), none, none] [.int r_109] M _
  refine sn_aload_n (j := jL_law) (pc := 424) rfl rfl dL_law_424 ?_
  refine sn_callV (j := jL_law) (pc := 425) (jc := j7_drop) (As := []) (s7_drop M) mm_hvI (by simp [Value.category]) (Nat.le_of_ble_eq_true rfl) q7_drop rfl (by decide) rfl rfl ⟨by decide, by decide⟩ w_ml_L_51 w_im_X7_drop w_se_X7_drop rfl (Nat.le_of_ble_eq_true rfl) dL_law_425 ?_
  rintro ⟨r_110, M⟩
  show Snd injI jL_law X 428 [some (.ref 103), some (.ref 1), some (.ref 46), some (.ref 62), some (.int x4), none, none] [.int r_110, .int r_109] M _
  refine sn_icmp_eq (j := jL_law) (pc := 428) 1138 rfl dL_law_428 ?_ ?_
  · exact Snd.wk (slL_law_1138 X hX rec23 hrec23 x4 M) (by simp [mm_le])
  · refine sn_iconst (j := jL_law) (pc := 431) 0 rfl dL_law_431 ?_
    exact sn_zret (j := jL_law) (pc := 432) rfl dL_law_432
def lL_law_333 (X : mm_X)  (rec23 : Int32 → mm_M → Option (Int32 × mm_M)) (x4 : Int32) (M : mm_M) : Option (Int32 × mm_M) :=
  aX X (x4 + 1) (fun w_111 => aX X (x4 + 2) (fun w_112 => aX X (x4 + 3) (fun w_113 => aX X (x4 + 4) (fun w_114 => aX X (x4 + 5) (fun w_115 => aX X (x4 + 6) (fun w_116 => cI (f6_bus w_111 w_112 w_113 w_114 w_115 w_116 M) (fun r_117 M => aX X (x4 + 1) (fun w_118 => aX X (x4 + 2) (fun w_119 => aX X (x4 + 3) (fun w_120 => aX X (x4 + 4) (fun w_121 => aX X (x4 + 5) (fun w_122 => aX X (x4 + 6) (fun w_123 => cI (f7_bus w_118 w_119 w_120 w_121 w_122 w_123 M) (fun r_124 M => if r_117 = r_124 then (lL_law_1138 X rec23 x4 M) else (rZ 0 M)))))))))))))))
set_option maxHeartbeats 2000000 in
theorem slL_law_333 (X : mm_X) (hX : X.1 ≠ 0)  (rec23 : Int32 → mm_M → Option (Int32 × mm_M)) (hrec23 : ∀ (x4 : Int32) (M : mm_M), Snd injI jL_law X 23 [some (.ref 103), some (.ref 1), some (.ref 46), some (.ref 62), some (.int x4), none, none] [] M (rec23 x4 M)) (x4 : Int32)  (M : mm_M) : Snd injI jL_law X 333 [some (.ref 103), some (.ref 1), some (.ref 46), some (.ref 62), some (.int x4), none, none] [] M (lL_law_333 X rec23 x4 M) := by
  unfold lL_law_333
  refine sn_aload_n (j := jL_law) (pc := 333) rfl rfl dL_law_333 ?_
  refine sn_aload_n (j := jL_law) (pc := 334) rfl rfl dL_law_334 ?_
  refine sn_iload (j := jL_law) (pc := 335) rfl dL_law_335 ?_
  refine sn_iconst (j := jL_law) (pc := 337) 1 rfl dL_law_337 ?_
  refine sn_iadd (j := jL_law) (pc := 338) dL_law_338 ?_
  refine sn_xald (j := jL_law) (pc := 339) dL_law_339 (fun w_111 => ?_)
  refine sn_aload_n (j := jL_law) (pc := 340) rfl rfl dL_law_340 ?_
  refine sn_iload (j := jL_law) (pc := 341) rfl dL_law_341 ?_
  refine sn_iconst (j := jL_law) (pc := 343) 2 rfl dL_law_343 ?_
  refine sn_iadd (j := jL_law) (pc := 344) dL_law_344 ?_
  refine sn_xald (j := jL_law) (pc := 345) dL_law_345 (fun w_112 => ?_)
  refine sn_aload_n (j := jL_law) (pc := 346) rfl rfl dL_law_346 ?_
  refine sn_iload (j := jL_law) (pc := 347) rfl dL_law_347 ?_
  refine sn_iconst (j := jL_law) (pc := 349) 3 rfl dL_law_349 ?_
  refine sn_iadd (j := jL_law) (pc := 350) dL_law_350 ?_
  refine sn_xald (j := jL_law) (pc := 351) dL_law_351 (fun w_113 => ?_)
  refine sn_aload_n (j := jL_law) (pc := 352) rfl rfl dL_law_352 ?_
  refine sn_iload (j := jL_law) (pc := 353) rfl dL_law_353 ?_
  refine sn_iconst (j := jL_law) (pc := 355) 4 rfl dL_law_355 ?_
  refine sn_iadd (j := jL_law) (pc := 356) dL_law_356 ?_
  refine sn_xald (j := jL_law) (pc := 357) dL_law_357 (fun w_114 => ?_)
  refine sn_aload_n (j := jL_law) (pc := 358) rfl rfl dL_law_358 ?_
  refine sn_iload (j := jL_law) (pc := 359) rfl dL_law_359 ?_
  refine sn_iconst (j := jL_law) (pc := 361) 5 rfl dL_law_361 ?_
  refine sn_iadd (j := jL_law) (pc := 362) dL_law_362 ?_
  refine sn_xald (j := jL_law) (pc := 363) dL_law_363 (fun w_115 => ?_)
  refine sn_aload_n (j := jL_law) (pc := 364) rfl rfl dL_law_364 ?_
  refine sn_iload (j := jL_law) (pc := 365) rfl dL_law_365 ?_
  refine sn_bipush (j := jL_law) (pc := 367) 6 rfl dL_law_367 ?_
  refine sn_iadd (j := jL_law) (pc := 369) dL_law_369 ?_
  refine sn_xald (j := jL_law) (pc := 370) dL_law_370 (fun w_116 => ?_)
  refine sn_callV (j := jL_law) (pc := 371) (jc := j6_bus) (As := [.int w_111, .int w_112, .int w_113, .int w_114, .int w_115, .int w_116]) (s6_bus w_111 w_112 w_113 w_114 w_115 w_116 M) mm_hvI (by simp [Value.category]) (Nat.le_of_ble_eq_true rfl) q6_bus rfl (by decide) rfl rfl ⟨by decide, by decide⟩ w_ml_L_43 w_im_X6_bus w_se_X6_bus rfl (Nat.le_of_ble_eq_true rfl) dL_law_371 ?_
  rintro ⟨r_117, M⟩
  show Snd injI jL_law X 374 [some (.ref 103), some (.ref 1), some (.ref 46), some (.ref 62), some (.int x4), none, none] [.int r_117] M _
  refine sn_aload_n (j := jL_law) (pc := 374) rfl rfl dL_law_374 ?_
  refine sn_aload_n (j := jL_law) (pc := 375) rfl rfl dL_law_375 ?_
  refine sn_iload (j := jL_law) (pc := 376) rfl dL_law_376 ?_
  refine sn_iconst (j := jL_law) (pc := 378) 1 rfl dL_law_378 ?_
  refine sn_iadd (j := jL_law) (pc := 379) dL_law_379 ?_
  refine sn_xald (j := jL_law) (pc := 380) dL_law_380 (fun w_118 => ?_)
  refine sn_aload_n (j := jL_law) (pc := 381) rfl rfl dL_law_381 ?_
  refine sn_iload (j := jL_law) (pc := 382) rfl dL_law_382 ?_
  refine sn_iconst (j := jL_law) (pc := 384) 2 rfl dL_law_384 ?_
  refine sn_iadd (j := jL_law) (pc := 385) dL_law_385 ?_
  refine sn_xald (j := jL_law) (pc := 386) dL_law_386 (fun w_119 => ?_)
  refine sn_aload_n (j := jL_law) (pc := 387) rfl rfl dL_law_387 ?_
  refine sn_iload (j := jL_law) (pc := 388) rfl dL_law_388 ?_
  refine sn_iconst (j := jL_law) (pc := 390) 3 rfl dL_law_390 ?_
  refine sn_iadd (j := jL_law) (pc := 391) dL_law_391 ?_
  refine sn_xald (j := jL_law) (pc := 392) dL_law_392 (fun w_120 => ?_)
  refine sn_aload_n (j := jL_law) (pc := 393) rfl rfl dL_law_393 ?_
  refine sn_iload (j := jL_law) (pc := 394) rfl dL_law_394 ?_
  refine sn_iconst (j := jL_law) (pc := 396) 4 rfl dL_law_396 ?_
  refine sn_iadd (j := jL_law) (pc := 397) dL_law_397 ?_
  refine sn_xald (j := jL_law) (pc := 398) dL_law_398 (fun w_121 => ?_)
  refine sn_aload_n (j := jL_law) (pc := 399) rfl rfl dL_law_399 ?_
  refine sn_iload (j := jL_law) (pc := 400) rfl dL_law_400 ?_
  refine sn_iconst (j := jL_law) (pc := 402) 5 rfl dL_law_402 ?_
  refine sn_iadd (j := jL_law) (pc := 403) dL_law_403 ?_
  refine sn_xald (j := jL_law) (pc := 404) dL_law_404 (fun w_122 => ?_)
  refine sn_aload_n (j := jL_law) (pc := 405) rfl rfl dL_law_405 ?_
  refine sn_iload (j := jL_law) (pc := 406) rfl dL_law_406 ?_
  refine sn_bipush (j := jL_law) (pc := 408) 6 rfl dL_law_408 ?_
  refine sn_iadd (j := jL_law) (pc := 410) dL_law_410 ?_
  refine sn_xald (j := jL_law) (pc := 411) dL_law_411 (fun w_123 => ?_)
  refine sn_callV (j := jL_law) (pc := 412) (jc := j7_bus) (As := [.int w_118, .int w_119, .int w_120, .int w_121, .int w_122, .int w_123]) (s7_bus w_118 w_119 w_120 w_121 w_122 w_123 M) mm_hvI (by simp [Value.category]) (Nat.le_of_ble_eq_true rfl) q7_bus rfl (by decide) rfl rfl ⟨by decide, by decide⟩ w_ml_L_47 w_im_X7_bus w_se_X7_bus rfl (Nat.le_of_ble_eq_true rfl) dL_law_412 ?_
  rintro ⟨r_124, M⟩
  show Snd injI jL_law X 415 [some (.ref 103), some (.ref 1), some (.ref 46), some (.ref 62), some (.int x4), none, none] [.int r_124, .int r_117] M _
  refine sn_icmp_eq (j := jL_law) (pc := 415) 1138 rfl dL_law_415 ?_ ?_
  · exact Snd.wk (slL_law_1138 X hX rec23 hrec23 x4 M) (by simp [mm_le])
  · refine sn_iconst (j := jL_law) (pc := 418) 0 rfl dL_law_418 ?_
    exact sn_zret (j := jL_law) (pc := 419) rfl dL_law_419
def lL_law_296 (X : mm_X)  (rec23 : Int32 → mm_M → Option (Int32 × mm_M)) (x4 : Int32) (M : mm_M) : Option (Int32 × mm_M) :=
  aX X (x4 + 1) (fun w_125 => aX X (x4 + 2) (fun w_126 => cI (f6_set w_125 w_126 M) (fun r_127 M => aX X (x4 + 1) (fun w_128 => aX X (x4 + 2) (fun w_129 => cI (f7_set w_128 w_129 M) (fun r_130 M => if r_127 = r_130 then (lL_law_1138 X rec23 x4 M) else (rZ 0 M)))))))
set_option maxHeartbeats 2000000 in
theorem slL_law_296 (X : mm_X) (hX : X.1 ≠ 0)  (rec23 : Int32 → mm_M → Option (Int32 × mm_M)) (hrec23 : ∀ (x4 : Int32) (M : mm_M), Snd injI jL_law X 23 [some (.ref 103), some (.ref 1), some (.ref 46), some (.ref 62), some (.int x4), none, none] [] M (rec23 x4 M)) (x4 : Int32)  (M : mm_M) : Snd injI jL_law X 296 [some (.ref 103), some (.ref 1), some (.ref 46), some (.ref 62), some (.int x4), none, none] [] M (lL_law_296 X rec23 x4 M) := by
  unfold lL_law_296
  refine sn_aload_n (j := jL_law) (pc := 296) rfl rfl dL_law_296 ?_
  refine sn_aload_n (j := jL_law) (pc := 297) rfl rfl dL_law_297 ?_
  refine sn_iload (j := jL_law) (pc := 298) rfl dL_law_298 ?_
  refine sn_iconst (j := jL_law) (pc := 300) 1 rfl dL_law_300 ?_
  refine sn_iadd (j := jL_law) (pc := 301) dL_law_301 ?_
  refine sn_xald (j := jL_law) (pc := 302) dL_law_302 (fun w_125 => ?_)
  refine sn_aload_n (j := jL_law) (pc := 303) rfl rfl dL_law_303 ?_
  refine sn_iload (j := jL_law) (pc := 304) rfl dL_law_304 ?_
  refine sn_iconst (j := jL_law) (pc := 306) 2 rfl dL_law_306 ?_
  refine sn_iadd (j := jL_law) (pc := 307) dL_law_307 ?_
  refine sn_xald (j := jL_law) (pc := 308) dL_law_308 (fun w_126 => ?_)
  refine sn_callV (j := jL_law) (pc := 309) (jc := j6_set) (As := [.int w_125, .int w_126]) (s6_set w_125 w_126 M) mm_hvI (by simp [Value.category]) (Nat.le_of_ble_eq_true rfl) q6_set rfl (by decide) rfl rfl ⟨by decide, by decide⟩ w_ml_L_38 w_im_X6_set w_se_X6_set rfl (Nat.le_of_ble_eq_true rfl) dL_law_309 ?_
  rintro ⟨r_127, M⟩
  show Snd injI jL_law X 312 [some (.ref 103), some (.ref 1), some (.ref 46), some (.ref 62), some (.int x4), none, none] [.int r_127] M _
  refine sn_aload_n (j := jL_law) (pc := 312) rfl rfl dL_law_312 ?_
  refine sn_aload_n (j := jL_law) (pc := 313) rfl rfl dL_law_313 ?_
  refine sn_iload (j := jL_law) (pc := 314) rfl dL_law_314 ?_
  refine sn_iconst (j := jL_law) (pc := 316) 1 rfl dL_law_316 ?_
  refine sn_iadd (j := jL_law) (pc := 317) dL_law_317 ?_
  refine sn_xald (j := jL_law) (pc := 318) dL_law_318 (fun w_128 => ?_)
  refine sn_aload_n (j := jL_law) (pc := 319) rfl rfl dL_law_319 ?_
  refine sn_iload (j := jL_law) (pc := 320) rfl dL_law_320 ?_
  refine sn_iconst (j := jL_law) (pc := 322) 2 rfl dL_law_322 ?_
  refine sn_iadd (j := jL_law) (pc := 323) dL_law_323 ?_
  refine sn_xald (j := jL_law) (pc := 324) dL_law_324 (fun w_129 => ?_)
  refine sn_callV (j := jL_law) (pc := 325) (jc := j7_set) (As := [.int w_128, .int w_129]) (s7_set w_128 w_129 M) mm_hvI (by simp [Value.category]) (Nat.le_of_ble_eq_true rfl) q7_set rfl (by decide) rfl rfl ⟨by decide, by decide⟩ w_ml_L_42 w_im_X7_set w_se_X7_set rfl (Nat.le_of_ble_eq_true rfl) dL_law_325 ?_
  rintro ⟨r_130, M⟩
  show Snd injI jL_law X 328 [some (.ref 103), some (.ref 1), some (.ref 46), some (.ref 62), some (.int x4), none, none] [.int r_130, .int r_127] M _
  refine sn_icmp_eq (j := jL_law) (pc := 328) 1138 rfl dL_law_328 ?_ ?_
  · exact Snd.wk (slL_law_1138 X hX rec23 hrec23 x4 M) (by simp [mm_le])
  · refine sn_iconst (j := jL_law) (pc := 331) 0 rfl dL_law_331 ?_
    exact sn_zret (j := jL_law) (pc := 332) rfl dL_law_332
def lL_law_283 (X : mm_X)  (rec23 : Int32 → mm_M → Option (Int32 × mm_M)) (x4 : Int32) (M : mm_M) : Option (Int32 × mm_M) :=
  cI (f6_fault M) (fun r_131 M => cI (f7_fault M) (fun r_132 M => if r_131 = r_132 then (lL_law_1138 X rec23 x4 M) else (rZ 0 M)))
set_option maxHeartbeats 2000000 in
theorem slL_law_283 (X : mm_X) (hX : X.1 ≠ 0)  (rec23 : Int32 → mm_M → Option (Int32 × mm_M)) (hrec23 : ∀ (x4 : Int32) (M : mm_M), Snd injI jL_law X 23 [some (.ref 103), some (.ref 1), some (.ref 46), some (.ref 62), some (.int x4), none, none] [] M (rec23 x4 M)) (x4 : Int32)  (M : mm_M) : Snd injI jL_law X 283 [some (.ref 103), some (.ref 1), some (.ref 46), some (.ref 62), some (.int x4), none, none] [] M (lL_law_283 X rec23 x4 M) := by
  unfold lL_law_283
  refine sn_aload_n (j := jL_law) (pc := 283) rfl rfl dL_law_283 ?_
  refine sn_callV (j := jL_law) (pc := 284) (jc := j6_fault) (As := []) (s6_fault M) mm_hvI (by simp [Value.category]) (Nat.le_of_ble_eq_true rfl) q6_fault rfl (by decide) rfl rfl ⟨by decide, by decide⟩ w_ml_L_34 w_im_X6_fault w_se_X6_fault rfl (Nat.le_of_ble_eq_true rfl) dL_law_284 ?_
  rintro ⟨r_131, M⟩
  show Snd injI jL_law X 287 [some (.ref 103), some (.ref 1), some (.ref 46), some (.ref 62), some (.int x4), none, none] [.int r_131] M _
  refine sn_aload_n (j := jL_law) (pc := 287) rfl rfl dL_law_287 ?_
  refine sn_callV (j := jL_law) (pc := 288) (jc := j7_fault) (As := []) (s7_fault M) mm_hvI (by simp [Value.category]) (Nat.le_of_ble_eq_true rfl) q7_fault rfl (by decide) rfl rfl ⟨by decide, by decide⟩ w_ml_L_37 w_im_X7_fault w_se_X7_fault rfl (Nat.le_of_ble_eq_true rfl) dL_law_288 ?_
  rintro ⟨r_132, M⟩
  show Snd injI jL_law X 291 [some (.ref 103), some (.ref 1), some (.ref 46), some (.ref 62), some (.int x4), none, none] [.int r_132, .int r_131] M _
  refine sn_icmp_eq (j := jL_law) (pc := 291) 1138 rfl dL_law_291 ?_ ?_
  · exact Snd.wk (slL_law_1138 X hX rec23 hrec23 x4 M) (by simp [mm_le])
  · refine sn_iconst (j := jL_law) (pc := 294) 0 rfl dL_law_294 ?_
    exact sn_zret (j := jL_law) (pc := 295) rfl dL_law_295
def lL_law_270 (X : mm_X)  (rec23 : Int32 → mm_M → Option (Int32 × mm_M)) (x4 : Int32) (M : mm_M) : Option (Int32 × mm_M) :=
  cI (f6_tell M) (fun r_133 M => cI (f7_tell M) (fun r_134 M => if r_133 = r_134 then (lL_law_1138 X rec23 x4 M) else (rZ 0 M)))
set_option maxHeartbeats 2000000 in
theorem slL_law_270 (X : mm_X) (hX : X.1 ≠ 0)  (rec23 : Int32 → mm_M → Option (Int32 × mm_M)) (hrec23 : ∀ (x4 : Int32) (M : mm_M), Snd injI jL_law X 23 [some (.ref 103), some (.ref 1), some (.ref 46), some (.ref 62), some (.int x4), none, none] [] M (rec23 x4 M)) (x4 : Int32)  (M : mm_M) : Snd injI jL_law X 270 [some (.ref 103), some (.ref 1), some (.ref 46), some (.ref 62), some (.int x4), none, none] [] M (lL_law_270 X rec23 x4 M) := by
  unfold lL_law_270
  refine sn_aload_n (j := jL_law) (pc := 270) rfl rfl dL_law_270 ?_
  refine sn_callV (j := jL_law) (pc := 271) (jc := j6_tell) (As := []) (s6_tell M) mm_hvI (by simp [Value.category]) (Nat.le_of_ble_eq_true rfl) q6_tell rfl (by decide) rfl rfl ⟨by decide, by decide⟩ w_ml_L_29 w_im_X6_tell w_se_X6_tell rfl (Nat.le_of_ble_eq_true rfl) dL_law_271 ?_
  rintro ⟨r_133, M⟩
  show Snd injI jL_law X 274 [some (.ref 103), some (.ref 1), some (.ref 46), some (.ref 62), some (.int x4), none, none] [.int r_133] M _
  refine sn_aload_n (j := jL_law) (pc := 274) rfl rfl dL_law_274 ?_
  refine sn_callV (j := jL_law) (pc := 275) (jc := j7_tell) (As := []) (s7_tell M) mm_hvI (by simp [Value.category]) (Nat.le_of_ble_eq_true rfl) q7_tell rfl (by decide) rfl rfl ⟨by decide, by decide⟩ w_ml_L_33 w_im_X7_tell w_se_X7_tell rfl (Nat.le_of_ble_eq_true rfl) dL_law_275 ?_
  rintro ⟨r_134, M⟩
  show Snd injI jL_law X 278 [some (.ref 103), some (.ref 1), some (.ref 46), some (.ref 62), some (.int x4), none, none] [.int r_134, .int r_133] M _
  refine sn_icmp_eq (j := jL_law) (pc := 278) 1138 rfl dL_law_278 ?_ ?_
  · exact Snd.wk (slL_law_1138 X hX rec23 hrec23 x4 M) (by simp [mm_le])
  · refine sn_iconst (j := jL_law) (pc := 281) 0 rfl dL_law_281 ?_
    exact sn_zret (j := jL_law) (pc := 282) rfl dL_law_282
def lL_law_245 (X : mm_X)  (rec23 : Int32 → mm_M → Option (Int32 × mm_M)) (x4 : Int32) (M : mm_M) : Option (Int32 × mm_M) :=
  aX X (x4 + 1) (fun w_135 => cI (f6_end w_135 M) (fun r_136 M => aX X (x4 + 1) (fun w_137 => cI (f7_end w_137 M) (fun r_138 M => if r_136 = r_138 then (lL_law_1138 X rec23 x4 M) else (rZ 0 M)))))
set_option maxHeartbeats 2000000 in
theorem slL_law_245 (X : mm_X) (hX : X.1 ≠ 0)  (rec23 : Int32 → mm_M → Option (Int32 × mm_M)) (hrec23 : ∀ (x4 : Int32) (M : mm_M), Snd injI jL_law X 23 [some (.ref 103), some (.ref 1), some (.ref 46), some (.ref 62), some (.int x4), none, none] [] M (rec23 x4 M)) (x4 : Int32)  (M : mm_M) : Snd injI jL_law X 245 [some (.ref 103), some (.ref 1), some (.ref 46), some (.ref 62), some (.int x4), none, none] [] M (lL_law_245 X rec23 x4 M) := by
  unfold lL_law_245
  refine sn_aload_n (j := jL_law) (pc := 245) rfl rfl dL_law_245 ?_
  refine sn_aload_n (j := jL_law) (pc := 246) rfl rfl dL_law_246 ?_
  refine sn_iload (j := jL_law) (pc := 247) rfl dL_law_247 ?_
  refine sn_iconst (j := jL_law) (pc := 249) 1 rfl dL_law_249 ?_
  refine sn_iadd (j := jL_law) (pc := 250) dL_law_250 ?_
  refine sn_xald (j := jL_law) (pc := 251) dL_law_251 (fun w_135 => ?_)
  refine sn_callV (j := jL_law) (pc := 252) (jc := j6_end) (As := [.int w_135]) (s6_end w_135 M) mm_hvI (by simp [Value.category]) (Nat.le_of_ble_eq_true rfl) q6_end rfl (by decide) rfl rfl ⟨by decide, by decide⟩ w_ml_L_24 w_im_X6_end w_se_X6_end rfl (Nat.le_of_ble_eq_true rfl) dL_law_252 ?_
  rintro ⟨r_136, M⟩
  show Snd injI jL_law X 255 [some (.ref 103), some (.ref 1), some (.ref 46), some (.ref 62), some (.int x4), none, none] [.int r_136] M _
  refine sn_aload_n (j := jL_law) (pc := 255) rfl rfl dL_law_255 ?_
  refine sn_aload_n (j := jL_law) (pc := 256) rfl rfl dL_law_256 ?_
  refine sn_iload (j := jL_law) (pc := 257) rfl dL_law_257 ?_
  refine sn_iconst (j := jL_law) (pc := 259) 1 rfl dL_law_259 ?_
  refine sn_iadd (j := jL_law) (pc := 260) dL_law_260 ?_
  refine sn_xald (j := jL_law) (pc := 261) dL_law_261 (fun w_137 => ?_)
  refine sn_callV (j := jL_law) (pc := 262) (jc := j7_end) (As := [.int w_137]) (s7_end w_137 M) mm_hvI (by simp [Value.category]) (Nat.le_of_ble_eq_true rfl) q7_end rfl (by decide) rfl rfl ⟨by decide, by decide⟩ w_ml_L_28 w_im_X7_end w_se_X7_end rfl (Nat.le_of_ble_eq_true rfl) dL_law_262 ?_
  rintro ⟨r_138, M⟩
  show Snd injI jL_law X 265 [some (.ref 103), some (.ref 1), some (.ref 46), some (.ref 62), some (.int x4), none, none] [.int r_138, .int r_136] M _
  refine sn_icmp_eq (j := jL_law) (pc := 265) 1138 rfl dL_law_265 ?_ ?_
  · exact Snd.wk (slL_law_1138 X hX rec23 hrec23 x4 M) (by simp [mm_le])
  · refine sn_iconst (j := jL_law) (pc := 268) 0 rfl dL_law_268 ?_
    exact sn_zret (j := jL_law) (pc := 269) rfl dL_law_269
def lL_law_172 (X : mm_X)  (rec23 : Int32 → mm_M → Option (Int32 × mm_M)) (x4 : Int32) (M : mm_M) : Option (Int32 × mm_M) :=
  aX X (x4 + 1) (fun w_139 => aX X (x4 + 2) (fun w_140 => aX X (x4 + 3) (fun w_141 => aX X (x4 + 4) (fun w_142 => aX X (x4 + 5) (fun w_143 => cI (f6_feed w_139 w_140 w_141 w_142 w_143 M) (fun r_144 M => aX X (x4 + 1) (fun w_145 => aX X (x4 + 2) (fun w_146 => aX X (x4 + 3) (fun w_147 => aX X (x4 + 4) (fun w_148 => aX X (x4 + 5) (fun w_149 => cI (f7_feed w_145 w_146 w_147 w_148 w_149 M) (fun r_150 M => if r_144 = r_150 then (lL_law_1138 X rec23 x4 M) else (rZ 0 M)))))))))))))
set_option maxHeartbeats 2000000 in
theorem slL_law_172 (X : mm_X) (hX : X.1 ≠ 0)  (rec23 : Int32 → mm_M → Option (Int32 × mm_M)) (hrec23 : ∀ (x4 : Int32) (M : mm_M), Snd injI jL_law X 23 [some (.ref 103), some (.ref 1), some (.ref 46), some (.ref 62), some (.int x4), none, none] [] M (rec23 x4 M)) (x4 : Int32)  (M : mm_M) : Snd injI jL_law X 172 [some (.ref 103), some (.ref 1), some (.ref 46), some (.ref 62), some (.int x4), none, none] [] M (lL_law_172 X rec23 x4 M) := by
  unfold lL_law_172
  refine sn_aload_n (j := jL_law) (pc := 172) rfl rfl dL_law_172 ?_
  refine sn_aload_n (j := jL_law) (pc := 173) rfl rfl dL_law_173 ?_
  refine sn_iload (j := jL_law) (pc := 174) rfl dL_law_174 ?_
  refine sn_iconst (j := jL_law) (pc := 176) 1 rfl dL_law_176 ?_
  refine sn_iadd (j := jL_law) (pc := 177) dL_law_177 ?_
  refine sn_xald (j := jL_law) (pc := 178) dL_law_178 (fun w_139 => ?_)
  refine sn_aload_n (j := jL_law) (pc := 179) rfl rfl dL_law_179 ?_
  refine sn_iload (j := jL_law) (pc := 180) rfl dL_law_180 ?_
  refine sn_iconst (j := jL_law) (pc := 182) 2 rfl dL_law_182 ?_
  refine sn_iadd (j := jL_law) (pc := 183) dL_law_183 ?_
  refine sn_xald (j := jL_law) (pc := 184) dL_law_184 (fun w_140 => ?_)
  refine sn_aload_n (j := jL_law) (pc := 185) rfl rfl dL_law_185 ?_
  refine sn_iload (j := jL_law) (pc := 186) rfl dL_law_186 ?_
  refine sn_iconst (j := jL_law) (pc := 188) 3 rfl dL_law_188 ?_
  refine sn_iadd (j := jL_law) (pc := 189) dL_law_189 ?_
  refine sn_xald (j := jL_law) (pc := 190) dL_law_190 (fun w_141 => ?_)
  refine sn_aload_n (j := jL_law) (pc := 191) rfl rfl dL_law_191 ?_
  refine sn_iload (j := jL_law) (pc := 192) rfl dL_law_192 ?_
  refine sn_iconst (j := jL_law) (pc := 194) 4 rfl dL_law_194 ?_
  refine sn_iadd (j := jL_law) (pc := 195) dL_law_195 ?_
  refine sn_xald (j := jL_law) (pc := 196) dL_law_196 (fun w_142 => ?_)
  refine sn_aload_n (j := jL_law) (pc := 197) rfl rfl dL_law_197 ?_
  refine sn_iload (j := jL_law) (pc := 198) rfl dL_law_198 ?_
  refine sn_iconst (j := jL_law) (pc := 200) 5 rfl dL_law_200 ?_
  refine sn_iadd (j := jL_law) (pc := 201) dL_law_201 ?_
  refine sn_xald (j := jL_law) (pc := 202) dL_law_202 (fun w_143 => ?_)
  refine sn_callV (j := jL_law) (pc := 203) (jc := j6_feed) (As := [.int w_139, .int w_140, .int w_141, .int w_142, .int w_143]) (s6_feed w_139 w_140 w_141 w_142 w_143 M) mm_hvI (by simp [Value.category]) (Nat.le_of_ble_eq_true rfl) q6_feed rfl (by decide) rfl rfl ⟨by decide, by decide⟩ w_ml_L_19 w_im_X6_feed w_se_X6_feed rfl (Nat.le_of_ble_eq_true rfl) dL_law_203 ?_
  rintro ⟨r_144, M⟩
  show Snd injI jL_law X 206 [some (.ref 103), some (.ref 1), some (.ref 46), some (.ref 62), some (.int x4), none, none] [.int r_144] M _
  refine sn_aload_n (j := jL_law) (pc := 206) rfl rfl dL_law_206 ?_
  refine sn_aload_n (j := jL_law) (pc := 207) rfl rfl dL_law_207 ?_
  refine sn_iload (j := jL_law) (pc := 208) rfl dL_law_208 ?_
  refine sn_iconst (j := jL_law) (pc := 210) 1 rfl dL_law_210 ?_
  refine sn_iadd (j := jL_law) (pc := 211) dL_law_211 ?_
  refine sn_xald (j := jL_law) (pc := 212) dL_law_212 (fun w_145 => ?_)
  refine sn_aload_n (j := jL_law) (pc := 213) rfl rfl dL_law_213 ?_
  refine sn_iload (j := jL_law) (pc := 214) rfl dL_law_214 ?_
  refine sn_iconst (j := jL_law) (pc := 216) 2 rfl dL_law_216 ?_
  refine sn_iadd (j := jL_law) (pc := 217) dL_law_217 ?_
  refine sn_xald (j := jL_law) (pc := 218) dL_law_218 (fun w_146 => ?_)
  refine sn_aload_n (j := jL_law) (pc := 219) rfl rfl dL_law_219 ?_
  refine sn_iload (j := jL_law) (pc := 220) rfl dL_law_220 ?_
  refine sn_iconst (j := jL_law) (pc := 222) 3 rfl dL_law_222 ?_
  refine sn_iadd (j := jL_law) (pc := 223) dL_law_223 ?_
  refine sn_xald (j := jL_law) (pc := 224) dL_law_224 (fun w_147 => ?_)
  refine sn_aload_n (j := jL_law) (pc := 225) rfl rfl dL_law_225 ?_
  refine sn_iload (j := jL_law) (pc := 226) rfl dL_law_226 ?_
  refine sn_iconst (j := jL_law) (pc := 228) 4 rfl dL_law_228 ?_
  refine sn_iadd (j := jL_law) (pc := 229) dL_law_229 ?_
  refine sn_xald (j := jL_law) (pc := 230) dL_law_230 (fun w_148 => ?_)
  refine sn_aload_n (j := jL_law) (pc := 231) rfl rfl dL_law_231 ?_
  refine sn_iload (j := jL_law) (pc := 232) rfl dL_law_232 ?_
  refine sn_iconst (j := jL_law) (pc := 234) 5 rfl dL_law_234 ?_
  refine sn_iadd (j := jL_law) (pc := 235) dL_law_235 ?_
  refine sn_xald (j := jL_law) (pc := 236) dL_law_236 (fun w_149 => ?_)
  refine sn_callV (j := jL_law) (pc := 237) (jc := j7_feed) (As := [.int w_145, .int w_146, .int w_147, .int w_148, .int w_149]) (s7_feed w_145 w_146 w_147 w_148 w_149 M) mm_hvI (by simp [Value.category]) (Nat.le_of_ble_eq_true rfl) q7_feed rfl (by decide) rfl rfl ⟨by decide, by decide⟩ w_ml_L_23 w_im_X7_feed w_se_X7_feed rfl (Nat.le_of_ble_eq_true rfl) dL_law_237 ?_
  rintro ⟨r_150, M⟩
  show Snd injI jL_law X 240 [some (.ref 103), some (.ref 1), some (.ref 46), some (.ref 62), some (.int x4), none, none] [.int r_150, .int r_144] M _
  refine sn_icmp_eq (j := jL_law) (pc := 240) 1138 rfl dL_law_240 ?_ ?_
  · exact Snd.wk (slL_law_1138 X hX rec23 hrec23 x4 M) (by simp [mm_le])
  · refine sn_iconst (j := jL_law) (pc := 243) 0 rfl dL_law_243 ?_
    exact sn_zret (j := jL_law) (pc := 244) rfl dL_law_244
def bL_law_23 (X : mm_X)   (rec23 : Int32 → mm_M → Option (Int32 × mm_M)) (x4 : Int32) (M : mm_M) : Option (Int32 × mm_M) :=
  if ((Int32.ofNat X.1) - 7) < x4 then (rZ 1 M) else (aX X x4 (fun w_151 => if (w_151 &&& 31) = 0 then (lL_law_172 X rec23 x4 M) else (if (w_151 &&& 31) = 1 then (lL_law_245 X rec23 x4 M) else (if (w_151 &&& 31) = 2 then (lL_law_270 X rec23 x4 M) else (if (w_151 &&& 31) = 3 then (lL_law_283 X rec23 x4 M) else (if (w_151 &&& 31) = 4 then (lL_law_296 X rec23 x4 M) else (if (w_151 &&& 31) = 5 then (lL_law_333 X rec23 x4 M) else (if (w_151 &&& 31) = 6 then (lL_law_420 X rec23 x4 M) else (if (w_151 &&& 31) = 7 then (lL_law_433 X rec23 x4 M) else (if (w_151 &&& 31) = 8 then (lL_law_498 X rec23 x4 M) else (if (w_151 &&& 31) = 9 then (lL_law_511 X rec23 x4 M) else (if (w_151 &&& 31) = 10 then (lL_law_536 X rec23 x4 M) else (if (w_151 &&& 31) = 11 then (lL_law_604 X rec23 x4 M) else (if (w_151 &&& 31) = 12 then (lL_law_653 X rec23 x4 M) else (if (w_151 &&& 31) = 13 then (lL_law_690 X rec23 x4 M) else (if (w_151 &&& 31) = 14 then (lL_law_739 X rec23 x4 M) else (if (w_151 &&& 31) = 15 then (lL_law_764 X rec23 x4 M) else (if (w_151 &&& 31) = 16 then (lL_law_801 X rec23 x4 M) else (if (w_151 &&& 31) = 17 then (lL_law_826 X rec23 x4 M) else (if (w_151 &&& 31) = 18 then (lL_law_851 X rec23 x4 M) else (if (w_151 &&& 31) = 19 then (lL_law_876 X rec23 x4 M) else (if (w_151 &&& 31) = 20 then (lL_law_901 X rec23 x4 M) else (if (w_151 &&& 31) = 21 then (lL_law_914 X rec23 x4 M) else (if (w_151 &&& 31) = 22 then (lL_law_951 X rec23 x4 M) else (if (w_151 &&& 31) = 23 then (lL_law_976 X rec23 x4 M) else (if (w_151 &&& 31) = 24 then (lL_law_1013 X rec23 x4 M) else (if (w_151 &&& 31) = 25 then (lL_law_1038 X rec23 x4 M) else (if (w_151 &&& 31) = 26 then (lL_law_1063 X rec23 x4 M) else (if (w_151 &&& 31) = 27 then (lL_law_1100 X rec23 x4 M) else (if (w_151 &&& 31) = 28 then (lL_law_1125 X rec23 x4 M) else (lL_law_1138 X rec23 x4 M)))))))))))))))))))))))))))))))
set_option maxHeartbeats 2000000 in
theorem sbL_law_23 (X : mm_X) (hX : X.1 ≠ 0)    (rec23 : Int32 → mm_M → Option (Int32 × mm_M)) (hrec23 : ∀ (x4 : Int32) (M : mm_M), Snd injI jL_law X 23 [some (.ref 103), some (.ref 1), some (.ref 46), some (.ref 62), some (.int x4), none, none] [] M (rec23 x4 M)) (x4 : Int32)  (M : mm_M) : Snd injI jL_law X 23 [some (.ref 103), some (.ref 1), some (.ref 46), some (.ref 62), some (.int x4), none, none] [] M (bL_law_23 X  rec23 x4 M) := by
  unfold bL_law_23
  refine sn_iload (j := jL_law) (pc := 23) rfl dL_law_23 ?_
  refine sn_aload_n (j := jL_law) (pc := 25) rfl rfl dL_law_25 ?_
  refine sn_xlen (j := jL_law) (pc := 26) hX dL_law_26 ?_
  refine sn_bipush (j := jL_law) (pc := 27) 7 rfl dL_law_27 ?_
  refine sn_isub (j := jL_law) (pc := 29) dL_law_29 ?_
  refine sn_icmp_gt (j := jL_law) (pc := 30) 1144 rfl dL_law_30 ?_ ?_
  · refine sn_iconst (j := jL_law) (pc := 1144) 1 rfl dL_law_1144 ?_
    exact sn_zret (j := jL_law) (pc := 1145) rfl dL_law_1145
  · refine sn_aload_n (j := jL_law) (pc := 33) rfl rfl dL_law_33 ?_
    refine sn_iload (j := jL_law) (pc := 34) rfl dL_law_34 ?_
    refine sn_xald (j := jL_law) (pc := 36) dL_law_36 (fun w_151 => ?_)
    refine sn_bipush (j := jL_law) (pc := 37) 31 rfl dL_law_37 ?_
    refine sn_iand (j := jL_law) (pc := 39) dL_law_39 ?_
    refine Snd.ifc (fun hx_152_0 => ?_) (fun hx_152_0 => ?_)
    · refine sn_tbl (j := jL_law) (pc := 40) 172 hx_152_0 rfl dL_law_40 (by decide) (by decide) rfl rfl ?_
      exact Snd.wk (slL_law_172 X hX rec23 hrec23 x4 M) (by simp [mm_le])
    refine Snd.ifc (fun hx_152_1 => ?_) (fun hx_152_1 => ?_)
    · refine sn_tbl (j := jL_law) (pc := 40) 245 hx_152_1 rfl dL_law_40 (by decide) (by decide) rfl rfl ?_
      exact Snd.wk (slL_law_245 X hX rec23 hrec23 x4 M) (by simp [mm_le])
    refine Snd.ifc (fun hx_152_2 => ?_) (fun hx_152_2 => ?_)
    · refine sn_tbl (j := jL_law) (pc := 40) 270 hx_152_2 rfl dL_law_40 (by decide) (by decide) rfl rfl ?_
      exact Snd.wk (slL_law_270 X hX rec23 hrec23 x4 M) (by simp [mm_le])
    refine Snd.ifc (fun hx_152_3 => ?_) (fun hx_152_3 => ?_)
    · refine sn_tbl (j := jL_law) (pc := 40) 283 hx_152_3 rfl dL_law_40 (by decide) (by decide) rfl rfl ?_
      exact Snd.wk (slL_law_283 X hX rec23 hrec23 x4 M) (by simp [mm_le])
    refine Snd.ifc (fun hx_152_4 => ?_) (fun hx_152_4 => ?_)
    · refine sn_tbl (j := jL_law) (pc := 40) 296 hx_152_4 rfl dL_law_40 (by decide) (by decide) rfl rfl ?_
      exact Snd.wk (slL_law_296 X hX rec23 hrec23 x4 M) (by simp [mm_le])
    refine Snd.ifc (fun hx_152_5 => ?_) (fun hx_152_5 => ?_)
    · refine sn_tbl (j := jL_law) (pc := 40) 333 hx_152_5 rfl dL_law_40 (by decide) (by decide) rfl rfl ?_
      exact Snd.wk (slL_law_333 X hX rec23 hrec23 x4 M) (by simp [mm_le])
    refine Snd.ifc (fun hx_152_6 => ?_) (fun hx_152_6 => ?_)
    · refine sn_tbl (j := jL_law) (pc := 40) 420 hx_152_6 rfl dL_law_40 (by decide) (by decide) rfl rfl ?_
      exact Snd.wk (slL_law_420 X hX rec23 hrec23 x4 M) (by simp [mm_le])
    refine Snd.ifc (fun hx_152_7 => ?_) (fun hx_152_7 => ?_)
    · refine sn_tbl (j := jL_law) (pc := 40) 433 hx_152_7 rfl dL_law_40 (by decide) (by decide) rfl rfl ?_
      exact Snd.wk (slL_law_433 X hX rec23 hrec23 x4 M) (by simp [mm_le])
    refine Snd.ifc (fun hx_152_8 => ?_) (fun hx_152_8 => ?_)
    · refine sn_tbl (j := jL_law) (pc := 40) 498 hx_152_8 rfl dL_law_40 (by decide) (by decide) rfl rfl ?_
      exact Snd.wk (slL_law_498 X hX rec23 hrec23 x4 M) (by simp [mm_le])
    refine Snd.ifc (fun hx_152_9 => ?_) (fun hx_152_9 => ?_)
    · refine sn_tbl (j := jL_law) (pc := 40) 511 hx_152_9 rfl dL_law_40 (by decide) (by decide) rfl rfl ?_
      exact Snd.wk (slL_law_511 X hX rec23 hrec23 x4 M) (by simp [mm_le])
    refine Snd.ifc (fun hx_152_10 => ?_) (fun hx_152_10 => ?_)
    · refine sn_tbl (j := jL_law) (pc := 40) 536 hx_152_10 rfl dL_law_40 (by decide) (by decide) rfl rfl ?_
      exact Snd.wk (slL_law_536 X hX rec23 hrec23 x4 M) (by simp [mm_le])
    refine Snd.ifc (fun hx_152_11 => ?_) (fun hx_152_11 => ?_)
    · refine sn_tbl (j := jL_law) (pc := 40) 604 hx_152_11 rfl dL_law_40 (by decide) (by decide) rfl rfl ?_
      exact Snd.wk (slL_law_604 X hX rec23 hrec23 x4 M) (by simp [mm_le])
    refine Snd.ifc (fun hx_152_12 => ?_) (fun hx_152_12 => ?_)
    · refine sn_tbl (j := jL_law) (pc := 40) 653 hx_152_12 rfl dL_law_40 (by decide) (by decide) rfl rfl ?_
      exact Snd.wk (slL_law_653 X hX rec23 hrec23 x4 M) (by simp [mm_le])
    refine Snd.ifc (fun hx_152_13 => ?_) (fun hx_152_13 => ?_)
    · refine sn_tbl (j := jL_law) (pc := 40) 690 hx_152_13 rfl dL_law_40 (by decide) (by decide) rfl rfl ?_
      exact Snd.wk (slL_law_690 X hX rec23 hrec23 x4 M) (by simp [mm_le])
    refine Snd.ifc (fun hx_152_14 => ?_) (fun hx_152_14 => ?_)
    · refine sn_tbl (j := jL_law) (pc := 40) 739 hx_152_14 rfl dL_law_40 (by decide) (by decide) rfl rfl ?_
      exact Snd.wk (slL_law_739 X hX rec23 hrec23 x4 M) (by simp [mm_le])
    refine Snd.ifc (fun hx_152_15 => ?_) (fun hx_152_15 => ?_)
    · refine sn_tbl (j := jL_law) (pc := 40) 764 hx_152_15 rfl dL_law_40 (by decide) (by decide) rfl rfl ?_
      exact Snd.wk (slL_law_764 X hX rec23 hrec23 x4 M) (by simp [mm_le])
    refine Snd.ifc (fun hx_152_16 => ?_) (fun hx_152_16 => ?_)
    · refine sn_tbl (j := jL_law) (pc := 40) 801 hx_152_16 rfl dL_law_40 (by decide) (by decide) rfl rfl ?_
      exact Snd.wk (slL_law_801 X hX rec23 hrec23 x4 M) (by simp [mm_le])
    refine Snd.ifc (fun hx_152_17 => ?_) (fun hx_152_17 => ?_)
    · refine sn_tbl (j := jL_law) (pc := 40) 826 hx_152_17 rfl dL_law_40 (by decide) (by decide) rfl rfl ?_
      exact Snd.wk (slL_law_826 X hX rec23 hrec23 x4 M) (by simp [mm_le])
    refine Snd.ifc (fun hx_152_18 => ?_) (fun hx_152_18 => ?_)
    · refine sn_tbl (j := jL_law) (pc := 40) 851 hx_152_18 rfl dL_law_40 (by decide) (by decide) rfl rfl ?_
      exact Snd.wk (slL_law_851 X hX rec23 hrec23 x4 M) (by simp [mm_le])
    refine Snd.ifc (fun hx_152_19 => ?_) (fun hx_152_19 => ?_)
    · refine sn_tbl (j := jL_law) (pc := 40) 876 hx_152_19 rfl dL_law_40 (by decide) (by decide) rfl rfl ?_
      exact Snd.wk (slL_law_876 X hX rec23 hrec23 x4 M) (by simp [mm_le])
    refine Snd.ifc (fun hx_152_20 => ?_) (fun hx_152_20 => ?_)
    · refine sn_tbl (j := jL_law) (pc := 40) 901 hx_152_20 rfl dL_law_40 (by decide) (by decide) rfl rfl ?_
      exact Snd.wk (slL_law_901 X hX rec23 hrec23 x4 M) (by simp [mm_le])
    refine Snd.ifc (fun hx_152_21 => ?_) (fun hx_152_21 => ?_)
    · refine sn_tbl (j := jL_law) (pc := 40) 914 hx_152_21 rfl dL_law_40 (by decide) (by decide) rfl rfl ?_
      exact Snd.wk (slL_law_914 X hX rec23 hrec23 x4 M) (by simp [mm_le])
    refine Snd.ifc (fun hx_152_22 => ?_) (fun hx_152_22 => ?_)
    · refine sn_tbl (j := jL_law) (pc := 40) 951 hx_152_22 rfl dL_law_40 (by decide) (by decide) rfl rfl ?_
      exact Snd.wk (slL_law_951 X hX rec23 hrec23 x4 M) (by simp [mm_le])
    refine Snd.ifc (fun hx_152_23 => ?_) (fun hx_152_23 => ?_)
    · refine sn_tbl (j := jL_law) (pc := 40) 976 hx_152_23 rfl dL_law_40 (by decide) (by decide) rfl rfl ?_
      exact Snd.wk (slL_law_976 X hX rec23 hrec23 x4 M) (by simp [mm_le])
    refine Snd.ifc (fun hx_152_24 => ?_) (fun hx_152_24 => ?_)
    · refine sn_tbl (j := jL_law) (pc := 40) 1013 hx_152_24 rfl dL_law_40 (by decide) (by decide) rfl rfl ?_
      exact Snd.wk (slL_law_1013 X hX rec23 hrec23 x4 M) (by simp [mm_le])
    refine Snd.ifc (fun hx_152_25 => ?_) (fun hx_152_25 => ?_)
    · refine sn_tbl (j := jL_law) (pc := 40) 1038 hx_152_25 rfl dL_law_40 (by decide) (by decide) rfl rfl ?_
      exact Snd.wk (slL_law_1038 X hX rec23 hrec23 x4 M) (by simp [mm_le])
    refine Snd.ifc (fun hx_152_26 => ?_) (fun hx_152_26 => ?_)
    · refine sn_tbl (j := jL_law) (pc := 40) 1063 hx_152_26 rfl dL_law_40 (by decide) (by decide) rfl rfl ?_
      exact Snd.wk (slL_law_1063 X hX rec23 hrec23 x4 M) (by simp [mm_le])
    refine Snd.ifc (fun hx_152_27 => ?_) (fun hx_152_27 => ?_)
    · refine sn_tbl (j := jL_law) (pc := 40) 1100 hx_152_27 rfl dL_law_40 (by decide) (by decide) rfl rfl ?_
      exact Snd.wk (slL_law_1100 X hX rec23 hrec23 x4 M) (by simp [mm_le])
    refine Snd.ifc (fun hx_152_28 => ?_) (fun hx_152_28 => ?_)
    · refine sn_tbl (j := jL_law) (pc := 40) 1125 hx_152_28 rfl dL_law_40 (by decide) (by decide) rfl rfl ?_
      exact Snd.wk (slL_law_1125 X hX rec23 hrec23 x4 M) (by simp [mm_le])
    refine sn_tblO (j := jL_law) (pc := 40) 1138 dL_law_40 (by have := lv_neT hx_152_0 (show (0 : Int32).toInt = 0 from rfl); have := lv_neT hx_152_1 (show (1 : Int32).toInt = 1 from rfl); have := lv_neT hx_152_2 (show (2 : Int32).toInt = 2 from rfl); have := lv_neT hx_152_3 (show (3 : Int32).toInt = 3 from rfl); have := lv_neT hx_152_4 (show (4 : Int32).toInt = 4 from rfl); have := lv_neT hx_152_5 (show (5 : Int32).toInt = 5 from rfl); have := lv_neT hx_152_6 (show (6 : Int32).toInt = 6 from rfl); have := lv_neT hx_152_7 (show (7 : Int32).toInt = 7 from rfl); have := lv_neT hx_152_8 (show (8 : Int32).toInt = 8 from rfl); have := lv_neT hx_152_9 (show (9 : Int32).toInt = 9 from rfl); have := lv_neT hx_152_10 (show (10 : Int32).toInt = 10 from rfl); have := lv_neT hx_152_11 (show (11 : Int32).toInt = 11 from rfl); have := lv_neT hx_152_12 (show (12 : Int32).toInt = 12 from rfl); have := lv_neT hx_152_13 (show (13 : Int32).toInt = 13 from rfl); have := lv_neT hx_152_14 (show (14 : Int32).toInt = 14 from rfl); have := lv_neT hx_152_15 (show (15 : Int32).toInt = 15 from rfl); have := lv_neT hx_152_16 (show (16 : Int32).toInt = 16 from rfl); have := lv_neT hx_152_17 (show (17 : Int32).toInt = 17 from rfl); have := lv_neT hx_152_18 (show (18 : Int32).toInt = 18 from rfl); have := lv_neT hx_152_19 (show (19 : Int32).toInt = 19 from rfl); have := lv_neT hx_152_20 (show (20 : Int32).toInt = 20 from rfl); have := lv_neT hx_152_21 (show (21 : Int32).toInt = 21 from rfl); have := lv_neT hx_152_22 (show (22 : Int32).toInt = 22 from rfl); have := lv_neT hx_152_23 (show (23 : Int32).toInt = 23 from rfl); have := lv_neT hx_152_24 (show (24 : Int32).toInt = 24 from rfl); have := lv_neT hx_152_25 (show (25 : Int32).toInt = 25 from rfl); have := lv_neT hx_152_26 (show (26 : Int32).toInt = 26 from rfl); have := lv_neT hx_152_27 (show (27 : Int32).toInt = 27 from rfl); have := lv_neT hx_152_28 (show (28 : Int32).toInt = 28 from rfl); omega) rfl ?_
    exact Snd.wk (slL_law_1138 X hX rec23 hrec23 x4 M) (by simp [mm_le])
def lL_law_23 (X : mm_X)   : Nat → Int32 → mm_M → Option (Int32 × mm_M)
  | 0 => fun _ _ => none
  | n + 1 => fun x4 M => bL_law_23 X  (lL_law_23 X  n) x4 M
theorem slL_law_23 (X : mm_X) (hX : X.1 ≠ 0)    : ∀ (n : Nat) (x4 : Int32)  (M : mm_M), Snd injI jL_law X 23 [some (.ref 103), some (.ref 1), some (.ref 46), some (.ref 62), some (.int x4), none, none] [] M (lL_law_23 X  n x4 M)
  | 0 => fun _  _ => Snd.none
  | n + 1 => fun x4  M => sbL_law_23 X hX   (lL_law_23 X  n) (fun x4 M  => slL_law_23 X hX   n x4  M) x4  M
