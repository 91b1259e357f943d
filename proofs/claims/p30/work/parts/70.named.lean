theorem dL_draw_0 : decode cL_draw 0 = .ok (.iload_n 1, 1) := by decide +kernel
theorem dL_draw_1 : decode cL_draw 1 = .ok (.aload_n 0, 1) := by decide +kernel
theorem dL_draw_2 : decode cL_draw 2 = .ok (.arraylength, 1) := by decide +kernel
theorem dL_draw_3 : decode cL_draw 3 = .ok (.if_icmp .ge 9, 3) := by decide +kernel
theorem dL_draw_6 : decode cL_draw 6 = .ok (.aload_n 0, 1) := by decide +kernel
theorem dL_draw_7 : decode cL_draw 7 = .ok (.iload_n 1, 1) := by decide +kernel
theorem dL_draw_8 : decode cL_draw 8 = .ok (.iaload, 1) := by decide +kernel
theorem dL_draw_9 : decode cL_draw 9 = .ok (.goto 11, 3) := by decide +kernel
theorem dL_draw_12 : decode cL_draw 12 = .ok (.ldc 7, 2) := by decide +kernel
theorem dL_draw_14 : decode cL_draw 14 = .ok (.iload_n 1, 1) := by decide +kernel
theorem dL_draw_15 : decode cL_draw 15 = .ok (.imul, 1) := by decide +kernel
theorem dL_draw_16 : decode cL_draw 16 = .ok (.sipush 10243, 3) := by decide +kernel
theorem dL_draw_19 : decode cL_draw 19 = .ok (.iadd, 1) := by decide +kernel
theorem dL_draw_20 : decode cL_draw 20 = .ok (.ldc 8, 2) := by decide +kernel
theorem dL_draw_22 : decode cL_draw 22 = .ok (.iand, 1) := by decide +kernel
theorem dL_draw_23 : decode cL_draw 23 = .ok (.ireturn, 1) := by decide +kernel
theorem dL_in_0 : decode cL_in 0 = .ok (.lload_n 0, 1) := by decide +kernel
theorem dL_in_1 : decode cL_in 1 = .ok (.lload_n 2, 1) := by decide +kernel
theorem dL_in_2 : decode cL_in 2 = .ok (.lcmp, 1) := by decide +kernel
theorem dL_in_3 : decode cL_in 3 = .ok (.ifCond .lt 14, 3) := by decide +kernel
theorem dL_in_6 : decode cL_in 6 = .ok (.lload_n 0, 1) := by decide +kernel
theorem dL_in_7 : decode cL_in 7 = .ok (.lload 4, 2) := by decide +kernel
theorem dL_in_9 : decode cL_in 9 = .ok (.lcmp, 1) := by decide +kernel
theorem dL_in_10 : decode cL_in 10 = .ok (.ifCond .gt 7, 3) := by decide +kernel
theorem dL_in_13 : decode cL_in 13 = .ok (.iconst 1, 1) := by decide +kernel
theorem dL_in_14 : decode cL_in 14 = .ok (.goto 4, 3) := by decide +kernel
theorem dL_in_17 : decode cL_in 17 = .ok (.iconst 0, 1) := by decide +kernel
theorem dL_in_18 : decode cL_in 18 = .ok (.ireturn, 1) := by decide +kernel
theorem dL_append_0 : decode cL_append 0 = .ok (.aload_n 0, 1) := by decide +kernel
theorem dL_append_1 : decode cL_append 1 = .ok (.iload_n 1, 1) := by decide +kernel
theorem dL_append_2 : decode cL_append 2 = .ok (.invokevirtual 9, 3) := by decide +kernel
theorem dL_append_5 : decode cL_append 5 = .ok (.i2l, 1) := by decide +kernel
theorem dL_append_6 : decode cL_append 6 = .ok (.lreturn, 1) := by decide +kernel
theorem dL_append_7 : decode cL_append 7 = .ok (.astore_n 2, 1) := by decide +kernel
theorem dL_append_8 : decode cL_append 8 = .ok (.ldc2_w 17, 3) := by decide +kernel
theorem dL_append_11 : decode cL_append 11 = .ok (.lreturn, 1) := by decide +kernel
theorem dL_append_12 : decode cL_append 12 = .ok (.astore_n 2, 1) := by decide +kernel
theorem dL_append_13 : decode cL_append 13 = .ok (.ldc2_w 21, 3) := by decide +kernel
theorem dL_append_16 : decode cL_append 16 = .ok (.lreturn, 1) := by decide +kernel
theorem dL_load_0 : decode cL_load 0 = .ok (.aload_n 0, 1) := by decide +kernel
theorem dL_load_1 : decode cL_load 1 = .ok (.invokevirtual 23, 3) := by decide +kernel
theorem dL_load_4 : decode cL_load 4 = .ok (.i2l, 1) := by decide +kernel
theorem dL_load_5 : decode cL_load 5 = .ok (.lreturn, 1) := by decide +kernel
theorem dL_load_6 : decode cL_load 6 = .ok (.astore_n 1, 1) := by decide +kernel
theorem dL_load_7 : decode cL_load 7 = .ok (.ldc2_w 21, 3) := by decide +kernel
theorem dL_load_10 : decode cL_load 10 = .ok (.lreturn, 1) := by decide +kernel
theorem dL_about_0 : decode cL_about 0 = .ok (.aload_n 0, 1) := by decide +kernel
theorem dL_about_1 : decode cL_about 1 = .ok (.iload_n 1, 1) := by decide +kernel
theorem dL_about_2 : decode cL_about 2 = .ok (.invokevirtual 27, 3) := by decide +kernel
theorem dL_about_5 : decode cL_about 5 = .ok (.i2l, 1) := by decide +kernel
theorem dL_about_6 : decode cL_about 6 = .ok (.lreturn, 1) := by decide +kernel
theorem dL_about_7 : decode cL_about 7 = .ok (.astore_n 2, 1) := by decide +kernel
theorem dL_about_8 : decode cL_about 8 = .ok (.ldc2_w 17, 3) := by decide +kernel
theorem dL_about_11 : decode cL_about 11 = .ok (.lreturn, 1) := by decide +kernel
theorem dL_total_0 : decode cL_total 0 = .ok (.aload_n 0, 1) := by decide +kernel
theorem dL_total_1 : decode cL_total 1 = .ok (.iload_n 1, 1) := by decide +kernel
theorem dL_total_2 : decode cL_total 2 = .ok (.invokevirtual 30, 3) := by decide +kernel
theorem dL_total_5 : decode cL_total 5 = .ok (.i2l, 1) := by decide +kernel
theorem dL_total_6 : decode cL_total 6 = .ok (.lreturn, 1) := by decide +kernel
theorem dL_total_7 : decode cL_total 7 = .ok (.astore_n 2, 1) := by decide +kernel
theorem dL_total_8 : decode cL_total 8 = .ok (.ldc2_w 17, 3) := by decide +kernel
theorem dL_total_11 : decode cL_total 11 = .ok (.lreturn, 1) := by decide +kernel
theorem dL_effect_0 : decode cL_effect 0 = .ok (.aload_n 0, 1) := by decide +kernel
theorem dL_effect_1 : decode cL_effect 1 = .ok (.iload_n 1, 1) := by decide +kernel
theorem dL_effect_2 : decode cL_effect 2 = .ok (.iload_n 2, 1) := by decide +kernel
theorem dL_effect_3 : decode cL_effect 3 = .ok (.invokevirtual 33, 3) := by decide +kernel
theorem dL_effect_6 : decode cL_effect 6 = .ok (.i2l, 1) := by decide +kernel
theorem dL_effect_7 : decode cL_effect 7 = .ok (.lreturn, 1) := by decide +kernel
theorem dL_effect_8 : decode cL_effect 8 = .ok (.astore_n 3, 1) := by decide +kernel
theorem dL_effect_9 : decode cL_effect 9 = .ok (.ldc2_w 39, 3) := by decide +kernel
theorem dL_effect_12 : decode cL_effect 12 = .ok (.lreturn, 1) := by decide +kernel
theorem dL_effect_13 : decode cL_effect 13 = .ok (.astore_n 3, 1) := by decide +kernel
theorem dL_effect_14 : decode cL_effect 14 = .ok (.ldc2_w 17, 3) := by decide +kernel
theorem dL_effect_17 : decode cL_effect 17 = .ok (.lreturn, 1) := by decide +kernel
theorem dL_neighbor_0 : decode cL_neighbor 0 = .ok (.aload_n 0, 1) := by decide +kernel
theorem dL_neighbor_1 : decode cL_neighbor 1 = .ok (.iload_n 1, 1) := by decide +kernel
theorem dL_neighbor_2 : decode cL_neighbor 2 = .ok (.iload_n 2, 1) := by decide +kernel
theorem dL_neighbor_3 : decode cL_neighbor 3 = .ok (.invokevirtual 41, 3) := by decide +kernel
theorem dL_neighbor_6 : decode cL_neighbor 6 = .ok (.i2l, 1) := by decide +kernel
theorem dL_neighbor_7 : decode cL_neighbor 7 = .ok (.lreturn, 1) := by decide +kernel
theorem dL_neighbor_8 : decode cL_neighbor 8 = .ok (.astore_n 3, 1) := by decide +kernel
theorem dL_neighbor_9 : decode cL_neighbor 9 = .ok (.ldc2_w 39, 3) := by decide +kernel
theorem dL_neighbor_12 : decode cL_neighbor 12 = .ok (.lreturn, 1) := by decide +kernel
theorem dL_tick_0 : decode cL_tick 0 = .ok (.aload_n 0, 1) := by decide +kernel
theorem dL_tick_1 : decode cL_tick 1 = .ok (.iload_n 1, 1) := by decide +kernel
theorem dL_tick_2 : decode cL_tick 2 = .ok (.invokevirtual 45, 3) := by decide +kernel
theorem dL_tick_5 : decode cL_tick 5 = .ok (.i2l, 1) := by decide +kernel
theorem dL_tick_6 : decode cL_tick 6 = .ok (.lreturn, 1) := by decide +kernel
theorem dL_tick_7 : decode cL_tick 7 = .ok (.astore_n 2, 1) := by decide +kernel
theorem dL_tick_8 : decode cL_tick 8 = .ok (.ldc2_w 17, 3) := by decide +kernel
theorem dL_tick_11 : decode cL_tick 11 = .ok (.lreturn, 1) := by decide +kernel
theorem dL_set_0 : decode cL_set 0 = .ok (.aload_n 0, 1) := by decide +kernel
theorem dL_set_1 : decode cL_set 1 = .ok (.iload_n 1, 1) := by decide +kernel
theorem dL_set_2 : decode cL_set 2 = .ok (.iload_n 2, 1) := by decide +kernel
theorem dL_set_3 : decode cL_set 3 = .ok (.invokevirtual 48, 3) := by decide +kernel
theorem dL_set_6 : decode cL_set 6 = .ok (.i2l, 1) := by decide +kernel
theorem dL_set_7 : decode cL_set 7 = .ok (.lreturn, 1) := by decide +kernel
theorem dL_set_8 : decode cL_set 8 = .ok (.astore_n 3, 1) := by decide +kernel
theorem dL_set_9 : decode cL_set 9 = .ok (.ldc2_w 17, 3) := by decide +kernel
theorem dL_set_12 : decode cL_set 12 = .ok (.lreturn, 1) := by decide +kernel
theorem dL_setValve_0 : decode cL_setValve 0 = .ok (.aload_n 0, 1) := by decide +kernel
theorem dL_setValve_1 : decode cL_setValve 1 = .ok (.iload_n 1, 1) := by decide +kernel
theorem dL_setValve_2 : decode cL_setValve 2 = .ok (.iload_n 2, 1) := by decide +kernel
theorem dL_setValve_3 : decode cL_setValve 3 = .ok (.invokevirtual 51, 3) := by decide +kernel
theorem dL_setValve_6 : decode cL_setValve 6 = .ok (.i2l, 1) := by decide +kernel
theorem dL_setValve_7 : decode cL_setValve 7 = .ok (.lreturn, 1) := by decide +kernel
theorem dL_setValve_8 : decode cL_setValve 8 = .ok (.astore_n 3, 1) := by decide +kernel
theorem dL_setValve_9 : decode cL_setValve 9 = .ok (.ldc2_w 39, 3) := by decide +kernel
theorem dL_setValve_12 : decode cL_setValve 12 = .ok (.lreturn, 1) := by decide +kernel
theorem dL_setValve_13 : decode cL_setValve 13 = .ok (.astore_n 3, 1) := by decide +kernel
theorem dL_setValve_14 : decode cL_setValve 14 = .ok (.ldc2_w 17, 3) := by decide +kernel
theorem dL_setValve_17 : decode cL_setValve 17 = .ok (.lreturn, 1) := by decide +kernel
theorem dL_setBleed_0 : decode cL_setBleed 0 = .ok (.aload_n 0, 1) := by decide +kernel
theorem dL_setBleed_1 : decode cL_setBleed 1 = .ok (.iload_n 1, 1) := by decide +kernel
theorem dL_setBleed_2 : decode cL_setBleed 2 = .ok (.iload_n 2, 1) := by decide +kernel
theorem dL_setBleed_3 : decode cL_setBleed 3 = .ok (.invokevirtual 54, 3) := by decide +kernel
theorem dL_setBleed_6 : decode cL_setBleed 6 = .ok (.i2l, 1) := by decide +kernel
theorem dL_setBleed_7 : decode cL_setBleed 7 = .ok (.lreturn, 1) := by decide +kernel
theorem dL_setBleed_8 : decode cL_setBleed 8 = .ok (.astore_n 3, 1) := by decide +kernel
theorem dL_setBleed_9 : decode cL_setBleed 9 = .ok (.ldc2_w 39, 3) := by decide +kernel
theorem dL_setBleed_12 : decode cL_setBleed 12 = .ok (.lreturn, 1) := by decide +kernel
theorem dL_setBleed_13 : decode cL_setBleed 13 = .ok (.astore_n 3, 1) := by decide +kernel
theorem dL_setBleed_14 : decode cL_setBleed 14 = .ok (.ldc2_w 17, 3) := by decide +kernel
theorem dL_setBleed_17 : decode cL_setBleed 17 = .ok (.lreturn, 1) := by decide +kernel
theorem dL_wash_0 : decode cL_wash 0 = .ok (.aload_n 0, 1) := by decide +kernel
theorem dL_wash_1 : decode cL_wash 1 = .ok (.iload_n 1, 1) := by decide +kernel
theorem dL_wash_2 : decode cL_wash 2 = .ok (.iload_n 2, 1) := by decide +kernel
theorem dL_wash_3 : decode cL_wash 3 = .ok (.invokevirtual 57, 3) := by decide +kernel
theorem dL_wash_6 : decode cL_wash 6 = .ok (.i2l, 1) := by decide +kernel
theorem dL_wash_7 : decode cL_wash 7 = .ok (.lreturn, 1) := by decide +kernel
theorem dL_wash_8 : decode cL_wash 8 = .ok (.astore_n 3, 1) := by decide +kernel
theorem dL_wash_9 : decode cL_wash 9 = .ok (.ldc2_w 39, 3) := by decide +kernel
theorem dL_wash_12 : decode cL_wash 12 = .ok (.lreturn, 1) := by decide +kernel
theorem dL_wash_13 : decode cL_wash 13 = .ok (.astore_n 3, 1) := by decide +kernel
theorem dL_wash_14 : decode cL_wash 14 = .ok (.ldc2_w 17, 3) := by decide +kernel
theorem dL_wash_17 : decode cL_wash 17 = .ok (.lreturn, 1) := by decide +kernel
theorem dL_wash_18 : decode cL_wash 18 = .ok (.astore_n 3, 1) := by decide +kernel
theorem dL_wash_19 : decode cL_wash 19 = .ok (.ldc2_w 21, 3) := by decide +kernel
theorem dL_wash_22 : decode cL_wash 22 = .ok (.lreturn, 1) := by decide +kernel
theorem dL_endWash_0 : decode cL_endWash 0 = .ok (.aload_n 0, 1) := by decide +kernel
theorem dL_endWash_1 : decode cL_endWash 1 = .ok (.iload_n 1, 1) := by decide +kernel
theorem dL_endWash_2 : decode cL_endWash 2 = .ok (.invokevirtual 60, 3) := by decide +kernel
theorem dL_endWash_5 : decode cL_endWash 5 = .ok (.i2l, 1) := by decide +kernel
theorem dL_endWash_6 : decode cL_endWash 6 = .ok (.lreturn, 1) := by decide +kernel
theorem dL_endWash_7 : decode cL_endWash 7 = .ok (.astore_n 2, 1) := by decide +kernel
theorem dL_endWash_8 : decode cL_endWash 8 = .ok (.ldc2_w 39, 3) := by decide +kernel
theorem dL_endWash_11 : decode cL_endWash 11 = .ok (.lreturn, 1) := by decide +kernel
theorem dL_endWash_12 : decode cL_endWash 12 = .ok (.astore_n 2, 1) := by decide +kernel
theorem dL_endWash_13 : decode cL_endWash 13 = .ok (.ldc2_w 21, 3) := by decide +kernel
theorem dL_endWash_16 : decode cL_endWash 16 = .ok (.lreturn, 1) := by decide +kernel
theorem dL_undo_0 : decode cL_undo 0 = .ok (.aload_n 0, 1) := by decide +kernel
theorem dL_undo_1 : decode cL_undo 1 = .ok (.invokevirtual 63, 3) := by decide +kernel
theorem dL_undo_4 : decode cL_undo 4 = .ok (.i2l, 1) := by decide +kernel
theorem dL_undo_5 : decode cL_undo 5 = .ok (.lreturn, 1) := by decide +kernel
theorem dL_undo_6 : decode cL_undo 6 = .ok (.astore_n 1, 1) := by decide +kernel
theorem dL_undo_7 : decode cL_undo 7 = .ok (.ldc2_w 21, 3) := by decide +kernel
theorem dL_undo_10 : decode cL_undo 10 = .ok (.lreturn, 1) := by decide +kernel
theorem dL_ahead_0 : decode cL_ahead 0 = .ok (.aload_n 0, 1) := by decide +kernel
theorem dL_ahead_1 : decode cL_ahead 1 = .ok (.iload_n 1, 1) := by decide +kernel
theorem dL_ahead_2 : decode cL_ahead 2 = .ok (.iload_n 2, 1) := by decide +kernel
theorem dL_ahead_3 : decode cL_ahead 3 = .ok (.iload_n 3, 1) := by decide +kernel
theorem dL_ahead_4 : decode cL_ahead 4 = .ok (.invokevirtual 66, 3) := by decide +kernel
theorem dL_ahead_7 : decode cL_ahead 7 = .ok (.i2l, 1) := by decide +kernel
theorem dL_ahead_8 : decode cL_ahead 8 = .ok (.lreturn, 1) := by decide +kernel
theorem dL_ahead_9 : decode cL_ahead 9 = .ok (.astore 4, 2) := by decide +kernel
theorem dL_ahead_11 : decode cL_ahead 11 = .ok (.ldc2_w 39, 3) := by decide +kernel
theorem dL_ahead_14 : decode cL_ahead 14 = .ok (.lreturn, 1) := by decide +kernel
theorem dL_ahead_15 : decode cL_ahead 15 = .ok (.astore 4, 2) := by decide +kernel
theorem dL_ahead_17 : decode cL_ahead 17 = .ok (.ldc2_w 17, 3) := by decide +kernel
theorem dL_ahead_20 : decode cL_ahead 20 = .ok (.lreturn, 1) := by decide +kernel
theorem dL_growth_0 : decode cL_growth 0 = .ok (.aload_n 0, 1) := by decide +kernel
theorem dL_growth_1 : decode cL_growth 1 = .ok (.iload_n 1, 1) := by decide +kernel
theorem dL_growth_2 : decode cL_growth 2 = .ok (.iload_n 2, 1) := by decide +kernel
theorem dL_growth_3 : decode cL_growth 3 = .ok (.invokevirtual 70, 3) := by decide +kernel
theorem dL_growth_6 : decode cL_growth 6 = .ok (.i2l, 1) := by decide +kernel
theorem dL_growth_7 : decode cL_growth 7 = .ok (.lreturn, 1) := by decide +kernel
theorem dL_growth_8 : decode cL_growth 8 = .ok (.astore_n 3, 1) := by decide +kernel
theorem dL_growth_9 : decode cL_growth 9 = .ok (.ldc2_w 17, 3) := by decide +kernel
theorem dL_growth_12 : decode cL_growth 12 = .ok (.lreturn, 1) := by decide +kernel
theorem dL_washGain_0 : decode cL_washGain 0 = .ok (.aload_n 0, 1) := by decide +kernel
theorem dL_washGain_1 : decode cL_washGain 1 = .ok (.iload_n 1, 1) := by decide +kernel
theorem dL_washGain_2 : decode cL_washGain 2 = .ok (.iload_n 2, 1) := by decide +kernel
theorem dL_washGain_3 : decode cL_washGain 3 = .ok (.iload_n 3, 1) := by decide +kernel
theorem dL_washGain_4 : decode cL_washGain 4 = .ok (.invokevirtual 73, 3) := by decide +kernel
theorem dL_washGain_7 : decode cL_washGain 7 = .ok (.i2l, 1) := by decide +kernel
theorem dL_washGain_8 : decode cL_washGain 8 = .ok (.lreturn, 1) := by decide +kernel
theorem dL_washGain_9 : decode cL_washGain 9 = .ok (.astore 4, 2) := by decide +kernel
theorem dL_washGain_11 : decode cL_washGain 11 = .ok (.ldc2_w 39, 3) := by decide +kernel
theorem dL_washGain_14 : decode cL_washGain 14 = .ok (.lreturn, 1) := by decide +kernel
theorem dL_washGain_15 : decode cL_washGain 15 = .ok (.astore 4, 2) := by decide +kernel
theorem dL_washGain_17 : decode cL_washGain 17 = .ok (.ldc2_w 17, 3) := by decide +kernel
theorem dL_washGain_20 : decode cL_washGain 20 = .ok (.lreturn, 1) := by decide +kernel
theorem dL_washGain_21 : decode cL_washGain 21 = .ok (.astore 4, 2) := by decide +kernel
theorem dL_washGain_23 : decode cL_washGain 23 = .ok (.ldc2_w 21, 3) := by decide +kernel
theorem dL_washGain_26 : decode cL_washGain 26 = .ok (.lreturn, 1) := by decide +kernel
theorem dL_bestTurns_0 : decode cL_bestTurns 0 = .ok (.aload_n 0, 1) := by decide +kernel
theorem dL_bestTurns_1 : decode cL_bestTurns 1 = .ok (.iload_n 1, 1) := by decide +kernel
theorem dL_bestTurns_2 : decode cL_bestTurns 2 = .ok (.iload_n 2, 1) := by decide +kernel
theorem dL_bestTurns_3 : decode cL_bestTurns 3 = .ok (.invokevirtual 76, 3) := by decide +kernel
theorem dL_bestTurns_6 : decode cL_bestTurns 6 = .ok (.i2l, 1) := by decide +kernel
theorem dL_bestTurns_7 : decode cL_bestTurns 7 = .ok (.lreturn, 1) := by decide +kernel
theorem dL_bestTurns_8 : decode cL_bestTurns 8 = .ok (.astore_n 3, 1) := by decide +kernel
theorem dL_bestTurns_9 : decode cL_bestTurns 9 = .ok (.ldc2_w 17, 3) := by decide +kernel
theorem dL_bestTurns_12 : decode cL_bestTurns 12 = .ok (.lreturn, 1) := by decide +kernel
theorem dL_scaledAfter_0 : decode cL_scaledAfter 0 = .ok (.aload_n 0, 1) := by decide +kernel
theorem dL_scaledAfter_1 : decode cL_scaledAfter 1 = .ok (.iload_n 1, 1) := by decide +kernel
theorem dL_scaledAfter_2 : decode cL_scaledAfter 2 = .ok (.iload_n 2, 1) := by decide +kernel
theorem dL_scaledAfter_3 : decode cL_scaledAfter 3 = .ok (.invokevirtual 79, 3) := by decide +kernel
theorem dL_scaledAfter_6 : decode cL_scaledAfter 6 = .ok (.i2l, 1) := by decide +kernel
theorem dL_scaledAfter_7 : decode cL_scaledAfter 7 = .ok (.lreturn, 1) := by decide +kernel
theorem dL_scaledAfter_8 : decode cL_scaledAfter 8 = .ok (.astore_n 3, 1) := by decide +kernel
theorem dL_scaledAfter_9 : decode cL_scaledAfter 9 = .ok (.ldc2_w 39, 3) := by decide +kernel
theorem dL_scaledAfter_12 : decode cL_scaledAfter 12 = .ok (.lreturn, 1) := by decide +kernel
theorem dL_scaledAfter_13 : decode cL_scaledAfter 13 = .ok (.astore_n 3, 1) := by decide +kernel
theorem dL_scaledAfter_14 : decode cL_scaledAfter 14 = .ok (.ldc2_w 17, 3) := by decide +kernel
theorem dL_scaledAfter_17 : decode cL_scaledAfter 17 = .ok (.lreturn, 1) := by decide +kernel
theorem dL_steamFor_0 : decode cL_steamFor 0 = .ok (.aload_n 0, 1) := by decide +kernel
theorem dL_steamFor_1 : decode cL_steamFor 1 = .ok (.iload_n 1, 1) := by decide +kernel
theorem dL_steamFor_2 : decode cL_steamFor 2 = .ok (.iload_n 2, 1) := by decide +kernel
theorem dL_steamFor_3 : decode cL_steamFor 3 = .ok (.invokevirtual 82, 3) := by decide +kernel
theorem dL_steamFor_6 : decode cL_steamFor 6 = .ok (.i2l, 1) := by decide +kernel
theorem dL_steamFor_7 : decode cL_steamFor 7 = .ok (.lreturn, 1) := by decide +kernel
theorem dL_steamFor_8 : decode cL_steamFor 8 = .ok (.astore_n 3, 1) := by decide +kernel
theorem dL_steamFor_9 : decode cL_steamFor 9 = .ok (.ldc2_w 17, 3) := by decide +kernel
theorem dL_steamFor_12 : decode cL_steamFor 12 = .ok (.lreturn, 1) := by decide +kernel
theorem dL_script_0 : decode cL_script 0 = .ok (.aload_n 0, 1) := by decide +kernel
theorem dL_script_1 : decode cL_script 1 = .ok (.iload_n 1, 1) := by decide +kernel
theorem dL_script_2 : decode cL_script 2 = .ok (.lload_n 2, 1) := by decide +kernel
theorem dL_script_3 : decode cL_script 3 = .ok (.invokevirtual 85, 3) := by decide +kernel
theorem dL_script_6 : decode cL_script 6 = .ok (.i2l, 1) := by decide +kernel
theorem dL_script_7 : decode cL_script 7 = .ok (.lreturn, 1) := by decide +kernel
theorem dL_script_8 : decode cL_script 8 = .ok (.astore 4, 2) := by decide +kernel
theorem dL_script_10 : decode cL_script 10 = .ok (.ldc2_w 17, 3) := by decide +kernel
theorem dL_script_13 : decode cL_script 13 = .ok (.lreturn, 1) := by decide +kernel
theorem dL_simulate_0 : decode cL_simulate 0 = .ok (.aload_n 0, 1) := by decide +kernel
theorem dL_simulate_1 : decode cL_simulate 1 = .ok (.lload_n 1, 1) := by decide +kernel
theorem dL_simulate_2 : decode cL_simulate 2 = .ok (.iload_n 3, 1) := by decide +kernel
theorem dL_simulate_3 : decode cL_simulate 3 = .ok (.invokevirtual 89, 3) := by decide +kernel
theorem dL_simulate_6 : decode cL_simulate 6 = .ok (.i2l, 1) := by decide +kernel
theorem dL_simulate_7 : decode cL_simulate 7 = .ok (.lreturn, 1) := by decide +kernel
theorem dL_simulate_8 : decode cL_simulate 8 = .ok (.astore 4, 2) := by decide +kernel
theorem dL_simulate_10 : decode cL_simulate 10 = .ok (.ldc2_w 17, 3) := by decide +kernel
theorem dL_simulate_13 : decode cL_simulate 13 = .ok (.lreturn, 1) := by decide +kernel
theorem dL_save_0 : decode cL_save 0 = .ok (.aload_n 0, 1) := by decide +kernel
theorem dL_save_1 : decode cL_save 1 = .ok (.iload_n 1, 1) := by decide +kernel
theorem dL_save_2 : decode cL_save 2 = .ok (.invokevirtual 93, 3) := by decide +kernel
theorem dL_save_5 : decode cL_save 5 = .ok (.i2l, 1) := by decide +kernel
theorem dL_save_6 : decode cL_save 6 = .ok (.lreturn, 1) := by decide +kernel
theorem dL_save_7 : decode cL_save 7 = .ok (.astore_n 2, 1) := by decide +kernel
theorem dL_save_8 : decode cL_save 8 = .ok (.ldc2_w 39, 3) := by decide +kernel
theorem dL_save_11 : decode cL_save 11 = .ok (.lreturn, 1) := by decide +kernel
theorem dL_restore_0 : decode cL_restore 0 = .ok (.aload_n 0, 1) := by decide +kernel
theorem dL_restore_1 : decode cL_restore 1 = .ok (.iload_n 1, 1) := by decide +kernel
theorem dL_restore_2 : decode cL_restore 2 = .ok (.invokevirtual 96, 3) := by decide +kernel
theorem dL_restore_5 : decode cL_restore 5 = .ok (.i2l, 1) := by decide +kernel
theorem dL_restore_6 : decode cL_restore 6 = .ok (.lreturn, 1) := by decide +kernel
theorem dL_restore_7 : decode cL_restore 7 = .ok (.astore_n 2, 1) := by decide +kernel
theorem dL_restore_8 : decode cL_restore 8 = .ok (.ldc2_w 39, 3) := by decide +kernel
theorem dL_restore_11 : decode cL_restore 11 = .ok (.lreturn, 1) := by decide +kernel
theorem dL_restore_12 : decode cL_restore 12 = .ok (.astore_n 2, 1) := by decide +kernel
theorem dL_restore_13 : decode cL_restore 13 = .ok (.ldc2_w 21, 3) := by decide +kernel
theorem dL_restore_16 : decode cL_restore 16 = .ok (.lreturn, 1) := by decide +kernel
theorem dL_share_0 : decode cL_share 0 = .ok (.aload_n 0, 1) := by decide +kernel
theorem dL_share_1 : decode cL_share 1 = .ok (.iload_n 1, 1) := by decide +kernel
theorem dL_share_2 : decode cL_share 2 = .ok (.invokevirtual 99, 3) := by decide +kernel
theorem dL_share_5 : decode cL_share 5 = .ok (.freturn, 1) := by decide +kernel
theorem dL_share_6 : decode cL_share 6 = .ok (.astore_n 2, 1) := by decide +kernel
theorem dL_share_7 : decode cL_share 7 = .ok (.ldc 103, 2) := by decide +kernel
theorem dL_share_9 : decode cL_share 9 = .ok (.freturn, 1) := by decide +kernel
theorem dL_effects_0 : decode cL_effects 0 = .ok (.aload_n 0, 1) := by decide +kernel
theorem dL_effects_1 : decode cL_effects 1 = .ok (.iconst 0, 1) := by decide +kernel
theorem dL_effects_2 : decode cL_effects 2 = .ok (.invokestatic 104, 3) := by decide +kernel
theorem dL_effects_5 : decode cL_effects 5 = .ok (.l2i, 1) := by decide +kernel
theorem dL_effects_6 : decode cL_effects 6 = .ok (.ireturn, 1) := by decide +kernel
theorem dL_now_0 : decode cL_now 0 = .ok (.ldc2_w 109, 3) := by decide +kernel
theorem dL_now_3 : decode cL_now 3 = .ok (.lstore_n 1, 1) := by decide +kernel
theorem dL_now_4 : decode cL_now 4 = .ok (.iconst 0, 1) := by decide +kernel
theorem dL_now_5 : decode cL_now 5 = .ok (.istore_n 3, 1) := by decide +kernel
theorem dL_now_6 : decode cL_now 6 = .ok (.iload_n 3, 1) := by decide +kernel
theorem dL_now_7 : decode cL_now 7 = .ok (.bipush 10, 2) := by decide +kernel
theorem dL_now_9 : decode cL_now 9 = .ok (.if_icmp .ge 35, 3) := by decide +kernel
theorem dL_now_12 : decode cL_now 12 = .ok (.ldc2_w 111, 3) := by decide +kernel
theorem dL_now_15 : decode cL_now 15 = .ok (.lload_n 1, 1) := by decide +kernel
theorem dL_now_16 : decode cL_now 16 = .ok (.lmul, 1) := by decide +kernel
theorem dL_now_17 : decode cL_now 17 = .ok (.ldc2_w 113, 3) := by decide +kernel
theorem dL_now_20 : decode cL_now 20 = .ok (.aload_n 0, 1) := by decide +kernel
theorem dL_now_21 : decode cL_now 21 = .ok (.iload_n 3, 1) := by decide +kernel
theorem dL_now_22 : decode cL_now 22 = .ok (.invokestatic 104, 3) := by decide +kernel
theorem dL_now_25 : decode cL_now 25 = .ok (.lmul, 1) := by decide +kernel
theorem dL_now_26 : decode cL_now 26 = .ok (.ladd, 1) := by decide +kernel
theorem dL_now_27 : decode cL_now 27 = .ok (.aload_n 0, 1) := by decide +kernel
theorem dL_now_28 : decode cL_now 28 = .ok (.iload_n 3, 1) := by decide +kernel
theorem dL_now_29 : decode cL_now 29 = .ok (.invokestatic 115, 3) := by decide +kernel
theorem dL_now_32 : decode cL_now 32 = .ok (.ladd, 1) := by decide +kernel
theorem dL_now_33 : decode cL_now 33 = .ok (.ldc2_w 117, 3) := by decide +kernel
theorem dL_now_36 : decode cL_now 36 = .ok (.lrem, 1) := by decide +kernel
theorem dL_now_37 : decode cL_now 37 = .ok (.lstore_n 1, 1) := by decide +kernel
theorem dL_now_38 : decode cL_now 38 = .ok (.iinc 3 1, 3) := by decide +kernel
theorem dL_now_41 : decode cL_now 41 = .ok (.goto (-35), 3) := by decide +kernel
theorem dL_now_44 : decode cL_now 44 = .ok (.iconst 0, 1) := by decide +kernel
theorem dL_now_45 : decode cL_now 45 = .ok (.istore_n 3, 1) := by decide +kernel
theorem dL_now_46 : decode cL_now 46 = .ok (.iload_n 3, 1) := by decide +kernel
theorem dL_now_47 : decode cL_now 47 = .ok (.aload_n 0, 1) := by decide +kernel
theorem dL_now_48 : decode cL_now 48 = .ok (.invokestatic 119, 3) := by decide +kernel
theorem dL_now_51 : decode cL_now 51 = .ok (.if_icmp .ge 43, 3) := by decide +kernel
theorem dL_now_54 : decode cL_now 54 = .ok (.iconst 0, 1) := by decide +kernel
theorem dL_now_55 : decode cL_now 55 = .ok (.istore 4, 2) := by decide +kernel
theorem dL_now_57 : decode cL_now 57 = .ok (.iload 4, 2) := by decide +kernel
theorem dL_now_59 : decode cL_now 59 = .ok (.bipush 10, 2) := by decide +kernel
theorem dL_now_61 : decode cL_now 61 = .ok (.if_icmp .ge 27, 3) := by decide +kernel
theorem dL_now_64 : decode cL_now 64 = .ok (.ldc2_w 111, 3) := by decide +kernel
theorem dL_now_67 : decode cL_now 67 = .ok (.lload_n 1, 1) := by decide +kernel
theorem dL_now_68 : decode cL_now 68 = .ok (.lmul, 1) := by decide +kernel
theorem dL_now_69 : decode cL_now 69 = .ok (.aload_n 0, 1) := by decide +kernel
theorem dL_now_70 : decode cL_now 70 = .ok (.iload_n 3, 1) := by decide +kernel
theorem dL_now_71 : decode cL_now 71 = .ok (.iload 4, 2) := by decide +kernel
theorem dL_now_73 : decode cL_now 73 = .ok (.invokestatic 123, 3) := by decide +kernel
theorem dL_now_76 : decode cL_now 76 = .ok (.ladd, 1) := by decide +kernel
theorem dL_now_77 : decode cL_now 77 = .ok (.ldc2_w 117, 3) := by decide +kernel
theorem dL_now_80 : decode cL_now 80 = .ok (.lrem, 1) := by decide +kernel
theorem dL_now_81 : decode cL_now 81 = .ok (.lstore_n 1, 1) := by decide +kernel
theorem dL_now_82 : decode cL_now 82 = .ok (.iinc 4 1, 3) := by decide +kernel
theorem dL_now_85 : decode cL_now 85 = .ok (.goto (-28), 3) := by decide +kernel
theorem dL_now_88 : decode cL_now 88 = .ok (.iinc 3 1, 3) := by decide +kernel
theorem dL_now_91 : decode cL_now 91 = .ok (.goto (-45), 3) := by decide +kernel
theorem dL_now_94 : decode cL_now 94 = .ok (.lload_n 1, 1) := by decide +kernel
theorem dL_now_95 : decode cL_now 95 = .ok (.lreturn, 1) := by decide +kernel
theorem dL_alike_0 : decode cL_alike 0 = .ok (.iload_n 2, 1) := by decide +kernel
theorem dL_alike_1 : decode cL_alike 1 = .ok (.bipush 6, 2) := by decide +kernel
theorem dL_alike_3 : decode cL_alike 3 = .ok (.irem, 1) := by decide +kernel
theorem dL_alike_4 : decode cL_alike 4 = .ok (.istore_n 3, 1) := by decide +kernel
theorem dL_alike_5 : decode cL_alike 5 = .ok (.iconst 1, 1) := by decide +kernel
theorem dL_alike_6 : decode cL_alike 6 = .ok (.iload_n 2, 1) := by decide +kernel
theorem dL_alike_7 : decode cL_alike 7 = .ok (.bipush 6, 2) := by decide +kernel
theorem dL_alike_9 : decode cL_alike 9 = .ok (.idiv, 1) := by decide +kernel
theorem dL_alike_10 : decode cL_alike 10 = .ok (.bipush 40, 2) := by decide +kernel
theorem dL_alike_12 : decode cL_alike 12 = .ok (.irem, 1) := by decide +kernel
theorem dL_alike_13 : decode cL_alike 13 = .ok (.iadd, 1) := by decide +kernel
theorem dL_alike_14 : decode cL_alike 14 = .ok (.istore 4, 2) := by decide +kernel
theorem dL_alike_16 : decode cL_alike 16 = .ok (.aload_n 0, 1) := by decide +kernel
theorem dL_alike_17 : decode cL_alike 17 = .ok (.invokestatic 126, 3) := by decide +kernel
theorem dL_alike_20 : decode cL_alike 20 = .ok (.aload_n 1, 1) := by decide +kernel
theorem dL_alike_21 : decode cL_alike 21 = .ok (.invokestatic 126, 3) := by decide +kernel
theorem dL_alike_24 : decode cL_alike 24 = .ok (.lcmp, 1) := by decide +kernel
theorem dL_alike_25 : decode cL_alike 25 = .ok (.ifCond .ne 234, 3) := by decide +kernel
theorem dL_alike_28 : decode cL_alike 28 = .ok (.aload_n 0, 1) := by decide +kernel
theorem dL_alike_29 : decode cL_alike 29 = .ok (.invokevirtual 130, 3) := by decide +kernel
theorem dL_alike_32 : decode cL_alike 32 = .ok (.aload_n 1, 1) := by decide +kernel
theorem dL_alike_33 : decode cL_alike 33 = .ok (.invokevirtual 130, 3) := by decide +kernel
theorem dL_alike_36 : decode cL_alike 36 = .ok (.if_icmp .ne 223, 3) := by decide +kernel
theorem dL_alike_39 : decode cL_alike 39 = .ok (.aload_n 0, 1) := by decide +kernel
theorem dL_alike_40 : decode cL_alike 40 = .ok (.invokevirtual 133, 3) := by decide +kernel
theorem dL_alike_43 : decode cL_alike 43 = .ok (.aload_n 1, 1) := by decide +kernel
theorem dL_alike_44 : decode cL_alike 44 = .ok (.invokevirtual 133, 3) := by decide +kernel
theorem dL_alike_47 : decode cL_alike 47 = .ok (.fcmp .l, 1) := by decide +kernel
theorem dL_alike_48 : decode cL_alike 48 = .ok (.ifCond .ne 211, 3) := by decide +kernel
theorem dL_alike_51 : decode cL_alike 51 = .ok (.aload_n 0, 1) := by decide +kernel
theorem dL_alike_52 : decode cL_alike 52 = .ok (.iload_n 3, 1) := by decide +kernel
theorem dL_alike_53 : decode cL_alike 53 = .ok (.invokestatic 137, 3) := by decide +kernel
theorem dL_alike_56 : decode cL_alike 56 = .ok (.aload_n 1, 1) := by decide +kernel
theorem dL_alike_57 : decode cL_alike 57 = .ok (.iload_n 3, 1) := by decide +kernel
theorem dL_alike_58 : decode cL_alike 58 = .ok (.invokestatic 137, 3) := by decide +kernel
theorem dL_alike_61 : decode cL_alike 61 = .ok (.fcmp .l, 1) := by decide +kernel
theorem dL_alike_62 : decode cL_alike 62 = .ok (.ifCond .ne 197, 3) := by decide +kernel
theorem dL_alike_65 : decode cL_alike 65 = .ok (.aload_n 0, 1) := by decide +kernel
theorem dL_alike_66 : decode cL_alike 66 = .ok (.iload_n 3, 1) := by decide +kernel
theorem dL_alike_67 : decode cL_alike 67 = .ok (.iload_n 2, 1) := by decide +kernel
theorem dL_alike_68 : decode cL_alike 68 = .ok (.iconst 2, 1) := by decide +kernel
theorem dL_alike_69 : decode cL_alike 69 = .ok (.irem, 1) := by decide +kernel
theorem dL_alike_70 : decode cL_alike 70 = .ok (.ifCond .ne 7, 3) := by decide +kernel
theorem dL_alike_73 : decode cL_alike 73 = .ok (.iconst 1, 1) := by decide +kernel
theorem dL_alike_74 : decode cL_alike 74 = .ok (.goto 4, 3) := by decide +kernel
theorem dL_alike_77 : decode cL_alike 77 = .ok (.iconst 0, 1) := by decide +kernel
theorem dL_alike_78 : decode cL_alike 78 = .ok (.invokestatic 140, 3) := by decide +kernel
theorem dL_alike_81 : decode cL_alike 81 = .ok (.aload_n 1, 1) := by decide +kernel
theorem dL_alike_82 : decode cL_alike 82 = .ok (.iload_n 3, 1) := by decide +kernel
theorem dL_alike_83 : decode cL_alike 83 = .ok (.iload_n 2, 1) := by decide +kernel
theorem dL_alike_84 : decode cL_alike 84 = .ok (.iconst 2, 1) := by decide +kernel
theorem dL_alike_85 : decode cL_alike 85 = .ok (.irem, 1) := by decide +kernel
theorem dL_alike_86 : decode cL_alike 86 = .ok (.ifCond .ne 7, 3) := by decide +kernel
theorem dL_alike_89 : decode cL_alike 89 = .ok (.iconst 1, 1) := by decide +kernel
theorem dL_alike_90 : decode cL_alike 90 = .ok (.goto 4, 3) := by decide +kernel
theorem dL_alike_93 : decode cL_alike 93 = .ok (.iconst 0, 1) := by decide +kernel
theorem dL_alike_94 : decode cL_alike 94 = .ok (.invokestatic 140, 3) := by decide +kernel
theorem dL_alike_97 : decode cL_alike 97 = .ok (.lcmp, 1) := by decide +kernel
theorem dL_alike_98 : decode cL_alike 98 = .ok (.ifCond .ne 161, 3) := by decide +kernel
theorem dL_alike_101 : decode cL_alike 101 = .ok (.aload_n 0, 1) := by decide +kernel
theorem dL_alike_102 : decode cL_alike 102 = .ok (.iload_n 3, 1) := by decide +kernel
theorem dL_alike_103 : decode cL_alike 103 = .ok (.iload 4, 2) := by decide +kernel
theorem dL_alike_105 : decode cL_alike 105 = .ok (.iload_n 2, 1) := by decide +kernel
theorem dL_alike_106 : decode cL_alike 106 = .ok (.bipush 10, 2) := by decide +kernel
theorem dL_alike_108 : decode cL_alike 108 = .ok (.irem, 1) := by decide +kernel
theorem dL_alike_109 : decode cL_alike 109 = .ok (.invokestatic 143, 3) := by decide +kernel
theorem dL_alike_112 : decode cL_alike 112 = .ok (.aload_n 1, 1) := by decide +kernel
theorem dL_alike_113 : decode cL_alike 113 = .ok (.iload_n 3, 1) := by decide +kernel
theorem dL_alike_114 : decode cL_alike 114 = .ok (.iload 4, 2) := by decide +kernel
theorem dL_alike_116 : decode cL_alike 116 = .ok (.iload_n 2, 1) := by decide +kernel
theorem dL_alike_117 : decode cL_alike 117 = .ok (.bipush 10, 2) := by decide +kernel
theorem dL_alike_119 : decode cL_alike 119 = .ok (.irem, 1) := by decide +kernel
theorem dL_alike_120 : decode cL_alike 120 = .ok (.invokestatic 143, 3) := by decide +kernel
theorem dL_alike_123 : decode cL_alike 123 = .ok (.lcmp, 1) := by decide +kernel
theorem dL_alike_124 : decode cL_alike 124 = .ok (.ifCond .ne 135, 3) := by decide +kernel
theorem dL_alike_127 : decode cL_alike 127 = .ok (.aload_n 0, 1) := by decide +kernel
theorem dL_alike_128 : decode cL_alike 128 = .ok (.iload 4, 2) := by decide +kernel
theorem dL_alike_130 : decode cL_alike 130 = .ok (.iload_n 2, 1) := by decide +kernel
theorem dL_alike_131 : decode cL_alike 131 = .ok (.bipush 10, 2) := by decide +kernel
theorem dL_alike_133 : decode cL_alike 133 = .ok (.irem, 1) := by decide +kernel
theorem dL_alike_134 : decode cL_alike 134 = .ok (.invokestatic 146, 3) := by decide +kernel
theorem dL_alike_137 : decode cL_alike 137 = .ok (.aload_n 1, 1) := by decide +kernel
theorem dL_alike_138 : decode cL_alike 138 = .ok (.iload 4, 2) := by decide +kernel
theorem dL_alike_140 : decode cL_alike 140 = .ok (.iload_n 2, 1) := by decide +kernel
theorem dL_alike_141 : decode cL_alike 141 = .ok (.bipush 10, 2) := by decide +kernel
theorem dL_alike_143 : decode cL_alike 143 = .ok (.irem, 1) := by decide +kernel
theorem dL_alike_144 : decode cL_alike 144 = .ok (.invokestatic 146, 3) := by decide +kernel
theorem dL_alike_147 : decode cL_alike 147 = .ok (.lcmp, 1) := by decide +kernel
theorem dL_alike_148 : decode cL_alike 148 = .ok (.ifCond .ne 111, 3) := by decide +kernel
theorem dL_alike_151 : decode cL_alike 151 = .ok (.aload_n 0, 1) := by decide +kernel
theorem dL_alike_152 : decode cL_alike 152 = .ok (.iload_n 3, 1) := by decide +kernel
theorem dL_alike_153 : decode cL_alike 153 = .ok (.iconst 1, 1) := by decide +kernel
theorem dL_alike_154 : decode cL_alike 154 = .ok (.iload_n 2, 1) := by decide +kernel
theorem dL_alike_155 : decode cL_alike 155 = .ok (.bipush 20, 2) := by decide +kernel
theorem dL_alike_157 : decode cL_alike 157 = .ok (.irem, 1) := by decide +kernel
theorem dL_alike_158 : decode cL_alike 158 = .ok (.iadd, 1) := by decide +kernel
theorem dL_alike_159 : decode cL_alike 159 = .ok (.iload 4, 2) := by decide +kernel
theorem dL_alike_161 : decode cL_alike 161 = .ok (.invokestatic 148, 3) := by decide +kernel
theorem dL_alike_164 : decode cL_alike 164 = .ok (.aload_n 1, 1) := by decide +kernel
theorem dL_alike_165 : decode cL_alike 165 = .ok (.iload_n 3, 1) := by decide +kernel
theorem dL_alike_166 : decode cL_alike 166 = .ok (.iconst 1, 1) := by decide +kernel
theorem dL_alike_167 : decode cL_alike 167 = .ok (.iload_n 2, 1) := by decide +kernel
theorem dL_alike_168 : decode cL_alike 168 = .ok (.bipush 20, 2) := by decide +kernel
theorem dL_alike_170 : decode cL_alike 170 = .ok (.irem, 1) := by decide +kernel
theorem dL_alike_171 : decode cL_alike 171 = .ok (.iadd, 1) := by decide +kernel
theorem dL_alike_172 : decode cL_alike 172 = .ok (.iload 4, 2) := by decide +kernel
theorem dL_alike_174 : decode cL_alike 174 = .ok (.invokestatic 148, 3) := by decide +kernel
theorem dL_alike_177 : decode cL_alike 177 = .ok (.lcmp, 1) := by decide +kernel
theorem dL_alike_178 : decode cL_alike 178 = .ok (.ifCond .ne 81, 3) := by decide +kernel
theorem dL_alike_181 : decode cL_alike 181 = .ok (.aload_n 0, 1) := by decide +kernel
theorem dL_alike_182 : decode cL_alike 182 = .ok (.iload_n 3, 1) := by decide +kernel
theorem dL_alike_183 : decode cL_alike 183 = .ok (.iconst 1, 1) := by decide +kernel
theorem dL_alike_184 : decode cL_alike 184 = .ok (.iload_n 2, 1) := by decide +kernel
theorem dL_alike_185 : decode cL_alike 185 = .ok (.bipush 99, 2) := by decide +kernel
theorem dL_alike_187 : decode cL_alike 187 = .ok (.irem, 1) := by decide +kernel
theorem dL_alike_188 : decode cL_alike 188 = .ok (.iadd, 1) := by decide +kernel
theorem dL_alike_189 : decode cL_alike 189 = .ok (.invokestatic 150, 3) := by decide +kernel
theorem dL_alike_192 : decode cL_alike 192 = .ok (.aload_n 1, 1) := by decide +kernel
theorem dL_alike_193 : decode cL_alike 193 = .ok (.iload_n 3, 1) := by decide +kernel
theorem dL_alike_194 : decode cL_alike 194 = .ok (.iconst 1, 1) := by decide +kernel
theorem dL_alike_195 : decode cL_alike 195 = .ok (.iload_n 2, 1) := by decide +kernel
theorem dL_alike_196 : decode cL_alike 196 = .ok (.bipush 99, 2) := by decide +kernel
theorem dL_alike_198 : decode cL_alike 198 = .ok (.irem, 1) := by decide +kernel
theorem dL_alike_199 : decode cL_alike 199 = .ok (.iadd, 1) := by decide +kernel
theorem dL_alike_200 : decode cL_alike 200 = .ok (.invokestatic 150, 3) := by decide +kernel
theorem dL_alike_203 : decode cL_alike 203 = .ok (.lcmp, 1) := by decide +kernel
theorem dL_alike_204 : decode cL_alike 204 = .ok (.ifCond .ne 55, 3) := by decide +kernel
theorem dL_alike_207 : decode cL_alike 207 = .ok (.aload_n 0, 1) := by decide +kernel
theorem dL_alike_208 : decode cL_alike 208 = .ok (.iconst 1, 1) := by decide +kernel
theorem dL_alike_209 : decode cL_alike 209 = .ok (.iload_n 2, 1) := by decide +kernel
theorem dL_alike_210 : decode cL_alike 210 = .ok (.iconst 2, 1) := by decide +kernel
theorem dL_alike_211 : decode cL_alike 211 = .ok (.irem, 1) := by decide +kernel
theorem dL_alike_212 : decode cL_alike 212 = .ok (.iadd, 1) := by decide +kernel
theorem dL_alike_213 : decode cL_alike 213 = .ok (.iconst 1, 1) := by decide +kernel
theorem dL_alike_214 : decode cL_alike 214 = .ok (.invokestatic 152, 3) := by decide +kernel
theorem dL_alike_217 : decode cL_alike 217 = .ok (.aload_n 1, 1) := by decide +kernel
theorem dL_alike_218 : decode cL_alike 218 = .ok (.iconst 1, 1) := by decide +kernel
theorem dL_alike_219 : decode cL_alike 219 = .ok (.iload_n 2, 1) := by decide +kernel
theorem dL_alike_220 : decode cL_alike 220 = .ok (.iconst 2, 1) := by decide +kernel
theorem dL_alike_221 : decode cL_alike 221 = .ok (.irem, 1) := by decide +kernel
theorem dL_alike_222 : decode cL_alike 222 = .ok (.iadd, 1) := by decide +kernel
theorem dL_alike_223 : decode cL_alike 223 = .ok (.iconst 1, 1) := by decide +kernel
theorem dL_alike_224 : decode cL_alike 224 = .ok (.invokestatic 152, 3) := by decide +kernel
theorem dL_alike_227 : decode cL_alike 227 = .ok (.lcmp, 1) := by decide +kernel
theorem dL_alike_228 : decode cL_alike 228 = .ok (.ifCond .ne 31, 3) := by decide +kernel
theorem dL_alike_231 : decode cL_alike 231 = .ok (.aload_n 0, 1) := by decide +kernel
theorem dL_alike_232 : decode cL_alike 232 = .ok (.iconst 1, 1) := by decide +kernel
theorem dL_alike_233 : decode cL_alike 233 = .ok (.iload_n 2, 1) := by decide +kernel
theorem dL_alike_234 : decode cL_alike 234 = .ok (.iconst 2, 1) := by decide +kernel
theorem dL_alike_235 : decode cL_alike 235 = .ok (.irem, 1) := by decide +kernel
theorem dL_alike_236 : decode cL_alike 236 = .ok (.iadd, 1) := by decide +kernel
theorem dL_alike_237 : decode cL_alike 237 = .ok (.iconst 0, 1) := by decide +kernel
theorem dL_alike_238 : decode cL_alike 238 = .ok (.invokestatic 152, 3) := by decide +kernel
theorem dL_alike_241 : decode cL_alike 241 = .ok (.aload_n 1, 1) := by decide +kernel
theorem dL_alike_242 : decode cL_alike 242 = .ok (.iconst 1, 1) := by decide +kernel
theorem dL_alike_243 : decode cL_alike 243 = .ok (.iload_n 2, 1) := by decide +kernel
theorem dL_alike_244 : decode cL_alike 244 = .ok (.iconst 2, 1) := by decide +kernel
theorem dL_alike_245 : decode cL_alike 245 = .ok (.irem, 1) := by decide +kernel
theorem dL_alike_246 : decode cL_alike 246 = .ok (.iadd, 1) := by decide +kernel
theorem dL_alike_247 : decode cL_alike 247 = .ok (.iconst 0, 1) := by decide +kernel
theorem dL_alike_248 : decode cL_alike 248 = .ok (.invokestatic 152, 3) := by decide +kernel
theorem dL_alike_251 : decode cL_alike 251 = .ok (.lcmp, 1) := by decide +kernel
theorem dL_alike_252 : decode cL_alike 252 = .ok (.ifCond .ne 7, 3) := by decide +kernel
theorem dL_alike_255 : decode cL_alike 255 = .ok (.iconst 1, 1) := by decide +kernel
theorem dL_alike_256 : decode cL_alike 256 = .ok (.goto 4, 3) := by decide +kernel
theorem dL_alike_259 : decode cL_alike 259 = .ok (.iconst 0, 1) := by decide +kernel
theorem dL_alike_260 : decode cL_alike 260 = .ok (.istore 5, 2) := by decide +kernel
theorem dL_alike_262 : decode cL_alike 262 = .ok (.ldc2_w 154, 3) := by decide +kernel
theorem dL_alike_265 : decode cL_alike 265 = .ok (.sipush 10000, 3) := by decide +kernel
theorem dL_alike_268 : decode cL_alike 268 = .ok (.iconst 1, 1) := by decide +kernel
theorem dL_alike_269 : decode cL_alike 269 = .ok (.iload_n 2, 1) := by decide +kernel
theorem dL_alike_270 : decode cL_alike 270 = .ok (.bipush 8, 2) := by decide +kernel
theorem dL_alike_272 : decode cL_alike 272 = .ok (.irem, 1) := by decide +kernel
theorem dL_alike_273 : decode cL_alike 273 = .ok (.iadd, 1) := by decide +kernel
theorem dL_alike_274 : decode cL_alike 274 = .ok (.imul, 1) := by decide +kernel
theorem dL_alike_275 : decode cL_alike 275 = .ok (.iload_n 2, 1) := by decide +kernel
theorem dL_alike_276 : decode cL_alike 276 = .ok (.bipush 8, 2) := by decide +kernel
theorem dL_alike_278 : decode cL_alike 278 = .ok (.idiv, 1) := by decide +kernel
theorem dL_alike_279 : decode cL_alike 279 = .ok (.sipush 10000, 3) := by decide +kernel
theorem dL_alike_282 : decode cL_alike 282 = .ok (.irem, 1) := by decide +kernel
theorem dL_alike_283 : decode cL_alike 283 = .ok (.iadd, 1) := by decide +kernel
theorem dL_alike_284 : decode cL_alike 284 = .ok (.i2l, 1) := by decide +kernel
theorem dL_alike_285 : decode cL_alike 285 = .ok (.lmul, 1) := by decide +kernel
theorem dL_alike_286 : decode cL_alike 286 = .ok (.iload_n 2, 1) := by decide +kernel
theorem dL_alike_287 : decode cL_alike 287 = .ok (.ldc 156, 2) := by decide +kernel
theorem dL_alike_289 : decode cL_alike 289 = .ok (.irem, 1) := by decide +kernel
theorem dL_alike_290 : decode cL_alike 290 = .ok (.i2l, 1) := by decide +kernel
theorem dL_alike_291 : decode cL_alike 291 = .ok (.ladd, 1) := by decide +kernel
theorem dL_alike_292 : decode cL_alike 292 = .ok (.lstore 6, 2) := by decide +kernel
theorem dL_alike_294 : decode cL_alike 294 = .ok (.iload 5, 2) := by decide +kernel
theorem dL_alike_296 : decode cL_alike 296 = .ok (.ifCond .eq 85, 3) := by decide +kernel
theorem dL_alike_299 : decode cL_alike 299 = .ok (.iload_n 2, 1) := by decide +kernel
theorem dL_alike_300 : decode cL_alike 300 = .ok (.iconst 4, 1) := by decide +kernel
theorem dL_alike_301 : decode cL_alike 301 = .ok (.irem, 1) := by decide +kernel
theorem dL_alike_302 : decode cL_alike 302 = .ok (.ifCond .gt 37, 3) := by decide +kernel
theorem dL_alike_305 : decode cL_alike 305 = .ok (.aload_n 0, 1) := by decide +kernel
theorem dL_alike_306 : decode cL_alike 306 = .ok (.iload_n 2, 1) := by decide +kernel
theorem dL_alike_307 : decode cL_alike 307 = .ok (.sipush 2000, 3) := by decide +kernel
theorem dL_alike_310 : decode cL_alike 310 = .ok (.irem, 1) := by decide +kernel
theorem dL_alike_311 : decode cL_alike 311 = .ok (.iconst 1, 1) := by decide +kernel
theorem dL_alike_312 : decode cL_alike 312 = .ok (.iload_n 2, 1) := by decide +kernel
theorem dL_alike_313 : decode cL_alike 313 = .ok (.bipush 9, 2) := by decide +kernel
theorem dL_alike_315 : decode cL_alike 315 = .ok (.irem, 1) := by decide +kernel
theorem dL_alike_316 : decode cL_alike 316 = .ok (.iadd, 1) := by decide +kernel
theorem dL_alike_317 : decode cL_alike 317 = .ok (.invokestatic 157, 3) := by decide +kernel
theorem dL_alike_320 : decode cL_alike 320 = .ok (.aload_n 1, 1) := by decide +kernel
theorem dL_alike_321 : decode cL_alike 321 = .ok (.iload_n 2, 1) := by decide +kernel
theorem dL_alike_322 : decode cL_alike 322 = .ok (.sipush 2000, 3) := by decide +kernel
theorem dL_alike_325 : decode cL_alike 325 = .ok (.irem, 1) := by decide +kernel
theorem dL_alike_326 : decode cL_alike 326 = .ok (.iconst 1, 1) := by decide +kernel
theorem dL_alike_327 : decode cL_alike 327 = .ok (.iload_n 2, 1) := by decide +kernel
theorem dL_alike_328 : decode cL_alike 328 = .ok (.bipush 9, 2) := by decide +kernel
theorem dL_alike_330 : decode cL_alike 330 = .ok (.irem, 1) := by decide +kernel
theorem dL_alike_331 : decode cL_alike 331 = .ok (.iadd, 1) := by decide +kernel
theorem dL_alike_332 : decode cL_alike 332 = .ok (.invokestatic 157, 3) := by decide +kernel
theorem dL_alike_335 : decode cL_alike 335 = .ok (.lcmp, 1) := by decide +kernel
theorem dL_alike_336 : decode cL_alike 336 = .ok (.ifCond .ne 45, 3) := by decide +kernel
theorem dL_alike_339 : decode cL_alike 339 = .ok (.aload_n 0, 1) := by decide +kernel
theorem dL_alike_340 : decode cL_alike 340 = .ok (.iconst 2, 1) := by decide +kernel
theorem dL_alike_341 : decode cL_alike 341 = .ok (.lload 6, 2) := by decide +kernel
theorem dL_alike_343 : decode cL_alike 343 = .ok (.invokestatic 159, 3) := by decide +kernel
theorem dL_alike_346 : decode cL_alike 346 = .ok (.aload_n 1, 1) := by decide +kernel
theorem dL_alike_347 : decode cL_alike 347 = .ok (.iconst 2, 1) := by decide +kernel
theorem dL_alike_348 : decode cL_alike 348 = .ok (.lload 6, 2) := by decide +kernel
theorem dL_alike_350 : decode cL_alike 350 = .ok (.invokestatic 159, 3) := by decide +kernel
theorem dL_alike_353 : decode cL_alike 353 = .ok (.lcmp, 1) := by decide +kernel
theorem dL_alike_354 : decode cL_alike 354 = .ok (.ifCond .ne 27, 3) := by decide +kernel
theorem dL_alike_357 : decode cL_alike 357 = .ok (.aload_n 0, 1) := by decide +kernel
theorem dL_alike_358 : decode cL_alike 358 = .ok (.iload_n 2, 1) := by decide +kernel
theorem dL_alike_359 : decode cL_alike 359 = .ok (.i2l, 1) := by decide +kernel
theorem dL_alike_360 : decode cL_alike 360 = .ok (.iload 4, 2) := by decide +kernel
theorem dL_alike_362 : decode cL_alike 362 = .ok (.invokestatic 163, 3) := by decide +kernel
theorem dL_alike_365 : decode cL_alike 365 = .ok (.aload_n 1, 1) := by decide +kernel
theorem dL_alike_366 : decode cL_alike 366 = .ok (.iload_n 2, 1) := by decide +kernel
theorem dL_alike_367 : decode cL_alike 367 = .ok (.i2l, 1) := by decide +kernel
theorem dL_alike_368 : decode cL_alike 368 = .ok (.iload 4, 2) := by decide +kernel
theorem dL_alike_370 : decode cL_alike 370 = .ok (.invokestatic 163, 3) := by decide +kernel
theorem dL_alike_373 : decode cL_alike 373 = .ok (.lcmp, 1) := by decide +kernel
theorem dL_alike_374 : decode cL_alike 374 = .ok (.ifCond .ne 7, 3) := by decide +kernel
theorem dL_alike_377 : decode cL_alike 377 = .ok (.iconst 1, 1) := by decide +kernel
theorem dL_alike_378 : decode cL_alike 378 = .ok (.goto 4, 3) := by decide +kernel
theorem dL_alike_381 : decode cL_alike 381 = .ok (.iconst 0, 1) := by decide +kernel
theorem dL_alike_382 : decode cL_alike 382 = .ok (.ireturn, 1) := by decide +kernel
theorem dL_errors_0 : decode cL_errors 0 = .ok (.aload_n 0, 1) := by decide +kernel
theorem dL_errors_1 : decode cL_errors 1 = .ok (.invokestatic 126, 3) := by decide +kernel
theorem dL_errors_4 : decode cL_errors 4 = .ok (.lstore_n 1, 1) := by decide +kernel
theorem dL_errors_5 : decode cL_errors 5 = .ok (.aload_n 0, 1) := by decide +kernel
theorem dL_errors_6 : decode cL_errors 6 = .ok (.invokestatic 119, 3) := by decide +kernel
theorem dL_errors_9 : decode cL_errors 9 = .ok (.istore_n 3, 1) := by decide +kernel
theorem dL_errors_10 : decode cL_errors 10 = .ok (.aload_n 0, 1) := by decide +kernel
theorem dL_errors_11 : decode cL_errors 11 = .ok (.iconst (-1), 1) := by decide +kernel
theorem dL_errors_12 : decode cL_errors 12 = .ok (.invokestatic 166, 3) := by decide +kernel
theorem dL_errors_15 : decode cL_errors 15 = .ok (.ldc2_w 17, 3) := by decide +kernel
theorem dL_errors_18 : decode cL_errors 18 = .ok (.lcmp, 1) := by decide +kernel
theorem dL_errors_19 : decode cL_errors 19 = .ok (.ifCond .ne 317, 3) := by decide +kernel
theorem dL_errors_22 : decode cL_errors 22 = .ok (.aload_n 0, 1) := by decide +kernel
theorem dL_errors_23 : decode cL_errors 23 = .ok (.sipush 256, 3) := by decide +kernel
theorem dL_errors_26 : decode cL_errors 26 = .ok (.invokestatic 166, 3) := by decide +kernel
theorem dL_errors_29 : decode cL_errors 29 = .ok (.ldc2_w 17, 3) := by decide +kernel
theorem dL_errors_32 : decode cL_errors 32 = .ok (.lcmp, 1) := by decide +kernel
theorem dL_errors_33 : decode cL_errors 33 = .ok (.ifCond .ne 303, 3) := by decide +kernel
theorem dL_errors_36 : decode cL_errors 36 = .ok (.aload_n 0, 1) := by decide +kernel
theorem dL_errors_37 : decode cL_errors 37 = .ok (.bipush 10, 2) := by decide +kernel
theorem dL_errors_39 : decode cL_errors 39 = .ok (.invokestatic 104, 3) := by decide +kernel
theorem dL_errors_42 : decode cL_errors 42 = .ok (.ldc2_w 17, 3) := by decide +kernel
theorem dL_errors_45 : decode cL_errors 45 = .ok (.lcmp, 1) := by decide +kernel
theorem dL_errors_46 : decode cL_errors 46 = .ok (.ifCond .ne 290, 3) := by decide +kernel
theorem dL_errors_49 : decode cL_errors 49 = .ok (.aload_n 0, 1) := by decide +kernel
theorem dL_errors_50 : decode cL_errors 50 = .ok (.bipush 10, 2) := by decide +kernel
theorem dL_errors_52 : decode cL_errors 52 = .ok (.invokestatic 115, 3) := by decide +kernel
theorem dL_errors_55 : decode cL_errors 55 = .ok (.ldc2_w 17, 3) := by decide +kernel
theorem dL_errors_58 : decode cL_errors 58 = .ok (.lcmp, 1) := by decide +kernel
theorem dL_errors_59 : decode cL_errors 59 = .ok (.ifCond .ne 277, 3) := by decide +kernel
theorem dL_errors_62 : decode cL_errors 62 = .ok (.aload_n 0, 1) := by decide +kernel
theorem dL_errors_63 : decode cL_errors 63 = .ok (.iload_n 3, 1) := by decide +kernel
theorem dL_errors_64 : decode cL_errors 64 = .ok (.bipush 99, 2) := by decide +kernel
theorem dL_errors_66 : decode cL_errors 66 = .ok (.invokestatic 123, 3) := by decide +kernel
theorem dL_errors_69 : decode cL_errors 69 = .ok (.ldc2_w 39, 3) := by decide +kernel
theorem dL_errors_72 : decode cL_errors 72 = .ok (.lcmp, 1) := by decide +kernel
theorem dL_errors_73 : decode cL_errors 73 = .ok (.ifCond .ne 263, 3) := by decide +kernel
theorem dL_errors_76 : decode cL_errors 76 = .ok (.aload_n 0, 1) := by decide +kernel
theorem dL_errors_77 : decode cL_errors 77 = .ok (.iconst 0, 1) := by decide +kernel
theorem dL_errors_78 : decode cL_errors 78 = .ok (.bipush 10, 2) := by decide +kernel
theorem dL_errors_80 : decode cL_errors 80 = .ok (.invokestatic 123, 3) := by decide +kernel
theorem dL_errors_83 : decode cL_errors 83 = .ok (.ldc2_w 17, 3) := by decide +kernel
theorem dL_errors_86 : decode cL_errors 86 = .ok (.lcmp, 1) := by decide +kernel
theorem dL_errors_87 : decode cL_errors 87 = .ok (.ifCond .ne 249, 3) := by decide +kernel
theorem dL_errors_90 : decode cL_errors 90 = .ok (.aload_n 0, 1) := by decide +kernel
theorem dL_errors_91 : decode cL_errors 91 = .ok (.iload_n 3, 1) := by decide +kernel
theorem dL_errors_92 : decode cL_errors 92 = .ok (.iconst 1, 1) := by decide +kernel
theorem dL_errors_93 : decode cL_errors 93 = .ok (.invokestatic 140, 3) := by decide +kernel
theorem dL_errors_96 : decode cL_errors 96 = .ok (.ldc2_w 39, 3) := by decide +kernel
theorem dL_errors_99 : decode cL_errors 99 = .ok (.lcmp, 1) := by decide +kernel
theorem dL_errors_100 : decode cL_errors 100 = .ok (.ifCond .ne 236, 3) := by decide +kernel
theorem dL_errors_103 : decode cL_errors 103 = .ok (.aload_n 0, 1) := by decide +kernel
theorem dL_errors_104 : decode cL_errors 104 = .ok (.iconst (-1), 1) := by decide +kernel
theorem dL_errors_105 : decode cL_errors 105 = .ok (.invokestatic 137, 3) := by decide +kernel
theorem dL_errors_108 : decode cL_errors 108 = .ok (.ldc 103, 2) := by decide +kernel
theorem dL_errors_110 : decode cL_errors 110 = .ok (.fcmp .l, 1) := by decide +kernel
theorem dL_errors_111 : decode cL_errors 111 = .ok (.ifCond .ne 225, 3) := by decide +kernel
theorem dL_errors_114 : decode cL_errors 114 = .ok (.aload_n 0, 1) := by decide +kernel
theorem dL_errors_115 : decode cL_errors 115 = .ok (.iconst 0, 1) := by decide +kernel
theorem dL_errors_116 : decode cL_errors 116 = .ok (.invokestatic 168, 3) := by decide +kernel
theorem dL_errors_119 : decode cL_errors 119 = .ok (.ldc2_w 17, 3) := by decide +kernel
theorem dL_errors_122 : decode cL_errors 122 = .ok (.lcmp, 1) := by decide +kernel
theorem dL_errors_123 : decode cL_errors 123 = .ok (.ifCond .ne 213, 3) := by decide +kernel
theorem dL_errors_126 : decode cL_errors 126 = .ok (.aload_n 0, 1) := by decide +kernel
theorem dL_errors_127 : decode cL_errors 127 = .ok (.bipush 100, 2) := by decide +kernel
theorem dL_errors_129 : decode cL_errors 129 = .ok (.invokestatic 168, 3) := by decide +kernel
theorem dL_errors_132 : decode cL_errors 132 = .ok (.ldc2_w 17, 3) := by decide +kernel
theorem dL_errors_135 : decode cL_errors 135 = .ok (.lcmp, 1) := by decide +kernel
theorem dL_errors_136 : decode cL_errors 136 = .ok (.ifCond .ne 200, 3) := by decide +kernel
theorem dL_errors_139 : decode cL_errors 139 = .ok (.aload_n 0, 1) := by decide +kernel
theorem dL_errors_140 : decode cL_errors 140 = .ok (.iconst 5, 1) := by decide +kernel
theorem dL_errors_141 : decode cL_errors 141 = .ok (.iconst 1, 1) := by decide +kernel
theorem dL_errors_142 : decode cL_errors 142 = .ok (.invokestatic 170, 3) := by decide +kernel
theorem dL_errors_145 : decode cL_errors 145 = .ok (.ldc2_w 17, 3) := by decide +kernel
theorem dL_errors_148 : decode cL_errors 148 = .ok (.lcmp, 1) := by decide +kernel
theorem dL_errors_149 : decode cL_errors 149 = .ok (.ifCond .ne 187, 3) := by decide +kernel
theorem dL_errors_152 : decode cL_errors 152 = .ok (.aload_n 0, 1) := by decide +kernel
theorem dL_errors_153 : decode cL_errors 153 = .ok (.iconst 0, 1) := by decide +kernel
theorem dL_errors_154 : decode cL_errors 154 = .ok (.sipush 1000, 3) := by decide +kernel
theorem dL_errors_157 : decode cL_errors 157 = .ok (.invokestatic 170, 3) := by decide +kernel
theorem dL_errors_160 : decode cL_errors 160 = .ok (.ldc2_w 17, 3) := by decide +kernel
theorem dL_errors_163 : decode cL_errors 163 = .ok (.lcmp, 1) := by decide +kernel
theorem dL_errors_164 : decode cL_errors 164 = .ok (.ifCond .ne 172, 3) := by decide +kernel
theorem dL_errors_167 : decode cL_errors 167 = .ok (.aload_n 0, 1) := by decide +kernel
theorem dL_errors_168 : decode cL_errors 168 = .ok (.iconst 1, 1) := by decide +kernel
theorem dL_errors_169 : decode cL_errors 169 = .ok (.iconst (-1), 1) := by decide +kernel
theorem dL_errors_170 : decode cL_errors 170 = .ok (.invokestatic 170, 3) := by decide +kernel
theorem dL_errors_173 : decode cL_errors 173 = .ok (.ldc2_w 17, 3) := by decide +kernel
theorem dL_errors_176 : decode cL_errors 176 = .ok (.lcmp, 1) := by decide +kernel
theorem dL_errors_177 : decode cL_errors 177 = .ok (.ifCond .ne 159, 3) := by decide +kernel
theorem dL_errors_180 : decode cL_errors 180 = .ok (.aload_n 0, 1) := by decide +kernel
theorem dL_errors_181 : decode cL_errors 181 = .ok (.iconst 2, 1) := by decide +kernel
theorem dL_errors_182 : decode cL_errors 182 = .ok (.bipush 100, 2) := by decide +kernel
theorem dL_errors_184 : decode cL_errors 184 = .ok (.invokestatic 170, 3) := by decide +kernel
theorem dL_errors_187 : decode cL_errors 187 = .ok (.ldc2_w 17, 3) := by decide +kernel
theorem dL_errors_190 : decode cL_errors 190 = .ok (.lcmp, 1) := by decide +kernel
theorem dL_errors_191 : decode cL_errors 191 = .ok (.ifCond .ne 145, 3) := by decide +kernel
theorem dL_errors_194 : decode cL_errors 194 = .ok (.aload_n 0, 1) := by decide +kernel
theorem dL_errors_195 : decode cL_errors 195 = .ok (.iconst 3, 1) := by decide +kernel
theorem dL_errors_196 : decode cL_errors 196 = .ok (.bipush 100, 2) := by decide +kernel
theorem dL_errors_198 : decode cL_errors 198 = .ok (.invokestatic 170, 3) := by decide +kernel
theorem dL_errors_201 : decode cL_errors 201 = .ok (.ldc2_w 17, 3) := by decide +kernel
theorem dL_errors_204 : decode cL_errors 204 = .ok (.lcmp, 1) := by decide +kernel
theorem dL_errors_205 : decode cL_errors 205 = .ok (.ifCond .ne 131, 3) := by decide +kernel
theorem dL_errors_208 : decode cL_errors 208 = .ok (.aload_n 0, 1) := by decide +kernel
theorem dL_errors_209 : decode cL_errors 209 = .ok (.iconst 4, 1) := by decide +kernel
theorem dL_errors_210 : decode cL_errors 210 = .ok (.iconst 0, 1) := by decide +kernel
theorem dL_errors_211 : decode cL_errors 211 = .ok (.invokestatic 170, 3) := by decide +kernel
theorem dL_errors_214 : decode cL_errors 214 = .ok (.ldc2_w 17, 3) := by decide +kernel
theorem dL_errors_217 : decode cL_errors 217 = .ok (.lcmp, 1) := by decide +kernel
theorem dL_errors_218 : decode cL_errors 218 = .ok (.ifCond .ne 118, 3) := by decide +kernel
theorem dL_errors_221 : decode cL_errors 221 = .ok (.aload_n 0, 1) := by decide +kernel
theorem dL_errors_222 : decode cL_errors 222 = .ok (.iconst 4, 1) := by decide +kernel
theorem dL_errors_223 : decode cL_errors 223 = .ok (.bipush 21, 2) := by decide +kernel
theorem dL_errors_225 : decode cL_errors 225 = .ok (.invokestatic 170, 3) := by decide +kernel
theorem dL_errors_228 : decode cL_errors 228 = .ok (.ldc2_w 17, 3) := by decide +kernel
theorem dL_errors_231 : decode cL_errors 231 = .ok (.lcmp, 1) := by decide +kernel
theorem dL_errors_232 : decode cL_errors 232 = .ok (.ifCond .ne 104, 3) := by decide +kernel
theorem dL_errors_235 : decode cL_errors 235 = .ok (.aload_n 0, 1) := by decide +kernel
theorem dL_errors_236 : decode cL_errors 236 = .ok (.iload_n 3, 1) := by decide +kernel
theorem dL_errors_237 : decode cL_errors 237 = .ok (.sipush 1000, 3) := by decide +kernel
theorem dL_errors_240 : decode cL_errors 240 = .ok (.invokestatic 172, 3) := by decide +kernel
theorem dL_errors_243 : decode cL_errors 243 = .ok (.ldc2_w 39, 3) := by decide +kernel
theorem dL_errors_246 : decode cL_errors 246 = .ok (.lcmp, 1) := by decide +kernel
theorem dL_errors_247 : decode cL_errors 247 = .ok (.ifCond .ne 89, 3) := by decide +kernel
theorem dL_errors_250 : decode cL_errors 250 = .ok (.aload_n 0, 1) := by decide +kernel
theorem dL_errors_251 : decode cL_errors 251 = .ok (.iconst 0, 1) := by decide +kernel
theorem dL_errors_252 : decode cL_errors 252 = .ok (.sipush 1000, 3) := by decide +kernel
theorem dL_errors_255 : decode cL_errors 255 = .ok (.invokestatic 172, 3) := by decide +kernel
theorem dL_errors_258 : decode cL_errors 258 = .ok (.ldc2_w 17, 3) := by decide +kernel
theorem dL_errors_261 : decode cL_errors 261 = .ok (.lcmp, 1) := by decide +kernel
theorem dL_errors_262 : decode cL_errors 262 = .ok (.ifCond .ne 74, 3) := by decide +kernel
theorem dL_errors_265 : decode cL_errors 265 = .ok (.aload_n 0, 1) := by decide +kernel
theorem dL_errors_266 : decode cL_errors 266 = .ok (.iconst (-1), 1) := by decide +kernel
theorem dL_errors_267 : decode cL_errors 267 = .ok (.bipush 91, 2) := by decide +kernel
theorem dL_errors_269 : decode cL_errors 269 = .ok (.invokestatic 174, 3) := by decide +kernel
theorem dL_errors_272 : decode cL_errors 272 = .ok (.ldc2_w 39, 3) := by decide +kernel
theorem dL_errors_275 : decode cL_errors 275 = .ok (.lcmp, 1) := by decide +kernel
theorem dL_errors_276 : decode cL_errors 276 = .ok (.ifCond .ne 60, 3) := by decide +kernel
theorem dL_errors_279 : decode cL_errors 279 = .ok (.aload_n 0, 1) := by decide +kernel
theorem dL_errors_280 : decode cL_errors 280 = .ok (.iconst 0, 1) := by decide +kernel
theorem dL_errors_281 : decode cL_errors 281 = .ok (.bipush 91, 2) := by decide +kernel
theorem dL_errors_283 : decode cL_errors 283 = .ok (.invokestatic 174, 3) := by decide +kernel
theorem dL_errors_286 : decode cL_errors 286 = .ok (.ldc2_w 17, 3) := by decide +kernel
theorem dL_errors_289 : decode cL_errors 289 = .ok (.lcmp, 1) := by decide +kernel
theorem dL_errors_290 : decode cL_errors 290 = .ok (.ifCond .ne 46, 3) := by decide +kernel
theorem dL_errors_293 : decode cL_errors 293 = .ok (.aload_n 0, 1) := by decide +kernel
theorem dL_errors_294 : decode cL_errors 294 = .ok (.iload_n 3, 1) := by decide +kernel
theorem dL_errors_295 : decode cL_errors 295 = .ok (.iconst 0, 1) := by decide +kernel
theorem dL_errors_296 : decode cL_errors 296 = .ok (.invokestatic 176, 3) := by decide +kernel
theorem dL_errors_299 : decode cL_errors 299 = .ok (.ldc2_w 39, 3) := by decide +kernel
theorem dL_errors_302 : decode cL_errors 302 = .ok (.lcmp, 1) := by decide +kernel
theorem dL_errors_303 : decode cL_errors 303 = .ok (.ifCond .ne 33, 3) := by decide +kernel
theorem dL_errors_306 : decode cL_errors 306 = .ok (.aload_n 0, 1) := by decide +kernel
theorem dL_errors_307 : decode cL_errors 307 = .ok (.iconst 0, 1) := by decide +kernel
theorem dL_errors_308 : decode cL_errors 308 = .ok (.bipush 21, 2) := by decide +kernel
theorem dL_errors_310 : decode cL_errors 310 = .ok (.invokestatic 176, 3) := by decide +kernel
theorem dL_errors_313 : decode cL_errors 313 = .ok (.ldc2_w 17, 3) := by decide +kernel
theorem dL_errors_316 : decode cL_errors 316 = .ok (.lcmp, 1) := by decide +kernel
theorem dL_errors_317 : decode cL_errors 317 = .ok (.ifCond .ne 19, 3) := by decide +kernel
theorem dL_errors_320 : decode cL_errors 320 = .ok (.aload_n 0, 1) := by decide +kernel
theorem dL_errors_321 : decode cL_errors 321 = .ok (.iload_n 3, 1) := by decide +kernel
theorem dL_errors_322 : decode cL_errors 322 = .ok (.invokestatic 178, 3) := by decide +kernel
theorem dL_errors_325 : decode cL_errors 325 = .ok (.ldc2_w 39, 3) := by decide +kernel
theorem dL_errors_328 : decode cL_errors 328 = .ok (.lcmp, 1) := by decide +kernel
theorem dL_errors_329 : decode cL_errors 329 = .ok (.ifCond .ne 7, 3) := by decide +kernel
theorem dL_errors_332 : decode cL_errors 332 = .ok (.iconst 1, 1) := by decide +kernel
theorem dL_errors_333 : decode cL_errors 333 = .ok (.goto 4, 3) := by decide +kernel
theorem dL_errors_336 : decode cL_errors 336 = .ok (.iconst 0, 1) := by decide +kernel
theorem dL_errors_337 : decode cL_errors 337 = .ok (.istore 4, 2) := by decide +kernel
theorem dL_errors_339 : decode cL_errors 339 = .ok (.iconst 0, 1) := by decide +kernel
theorem dL_errors_340 : decode cL_errors 340 = .ok (.istore 5, 2) := by decide +kernel
theorem dL_errors_342 : decode cL_errors 342 = .ok (.iload 5, 2) := by decide +kernel
theorem dL_errors_344 : decode cL_errors 344 = .ok (.iload_n 3, 1) := by decide +kernel
theorem dL_errors_345 : decode cL_errors 345 = .ok (.if_icmp .ge 99, 3) := by decide +kernel
theorem dL_errors_348 : decode cL_errors 348 = .ok (.iload 4, 2) := by decide +kernel
theorem dL_errors_350 : decode cL_errors 350 = .ok (.ifCond .eq 94, 3) := by decide +kernel
theorem dL_errors_353 : decode cL_errors 353 = .ok (.aload_n 0, 1) := by decide +kernel
theorem dL_errors_354 : decode cL_errors 354 = .ok (.iload 5, 2) := by decide +kernel
theorem dL_errors_356 : decode cL_errors 356 = .ok (.bipush 7, 2) := by decide +kernel
theorem dL_errors_358 : decode cL_errors 358 = .ok (.invokestatic 123, 3) := by decide +kernel
theorem dL_errors_361 : decode cL_errors 361 = .ok (.lconst 0, 1) := by decide +kernel
theorem dL_errors_362 : decode cL_errors 362 = .ok (.lcmp, 1) := by decide +kernel
theorem dL_errors_363 : decode cL_errors 363 = .ok (.ifCond .le 40, 3) := by decide +kernel
theorem dL_errors_366 : decode cL_errors 366 = .ok (.aload_n 0, 1) := by decide +kernel
theorem dL_errors_367 : decode cL_errors 367 = .ok (.iload 5, 2) := by decide +kernel
theorem dL_errors_369 : decode cL_errors 369 = .ok (.iconst 5, 1) := by decide +kernel
theorem dL_errors_370 : decode cL_errors 370 = .ok (.invokestatic 176, 3) := by decide +kernel
theorem dL_errors_373 : decode cL_errors 373 = .ok (.ldc2_w 21, 3) := by decide +kernel
theorem dL_errors_376 : decode cL_errors 376 = .ok (.lcmp, 1) := by decide +kernel
theorem dL_errors_377 : decode cL_errors 377 = .ok (.ifCond .ne 22, 3) := by decide +kernel
theorem dL_errors_380 : decode cL_errors 380 = .ok (.aload_n 0, 1) := by decide +kernel
theorem dL_errors_381 : decode cL_errors 381 = .ok (.iload 5, 2) := by decide +kernel
theorem dL_errors_383 : decode cL_errors 383 = .ok (.iconst 5, 1) := by decide +kernel
theorem dL_errors_384 : decode cL_errors 384 = .ok (.iconst 5, 1) := by decide +kernel
theorem dL_errors_385 : decode cL_errors 385 = .ok (.invokestatic 148, 3) := by decide +kernel
theorem dL_errors_388 : decode cL_errors 388 = .ok (.ldc2_w 21, 3) := by decide +kernel
theorem dL_errors_391 : decode cL_errors 391 = .ok (.lcmp, 1) := by decide +kernel
theorem dL_errors_392 : decode cL_errors 392 = .ok (.ifCond .ne 7, 3) := by decide +kernel
theorem dL_errors_395 : decode cL_errors 395 = .ok (.iconst 1, 1) := by decide +kernel
theorem dL_errors_396 : decode cL_errors 396 = .ok (.goto 40, 3) := by decide +kernel
theorem dL_errors_399 : decode cL_errors 399 = .ok (.iconst 0, 1) := by decide +kernel
theorem dL_errors_400 : decode cL_errors 400 = .ok (.goto 36, 3) := by decide +kernel
theorem dL_errors_403 : decode cL_errors 403 = .ok (.aload_n 0, 1) := by decide +kernel
theorem dL_errors_404 : decode cL_errors 404 = .ok (.iload 5, 2) := by decide +kernel
theorem dL_errors_406 : decode cL_errors 406 = .ok (.invokestatic 178, 3) := by decide +kernel
theorem dL_errors_409 : decode cL_errors 409 = .ok (.ldc2_w 21, 3) := by decide +kernel
theorem dL_errors_412 : decode cL_errors 412 = .ok (.lcmp, 1) := by decide +kernel
theorem dL_errors_413 : decode cL_errors 413 = .ok (.ifCond .ne 22, 3) := by decide +kernel
theorem dL_errors_416 : decode cL_errors 416 = .ok (.aload_n 0, 1) := by decide +kernel
theorem dL_errors_417 : decode cL_errors 417 = .ok (.iload 5, 2) := by decide +kernel
theorem dL_errors_419 : decode cL_errors 419 = .ok (.iconst 0, 1) := by decide +kernel
theorem dL_errors_420 : decode cL_errors 420 = .ok (.iconst 5, 1) := by decide +kernel
theorem dL_errors_421 : decode cL_errors 421 = .ok (.invokestatic 148, 3) := by decide +kernel
theorem dL_errors_424 : decode cL_errors 424 = .ok (.ldc2_w 17, 3) := by decide +kernel
theorem dL_errors_427 : decode cL_errors 427 = .ok (.lcmp, 1) := by decide +kernel
theorem dL_errors_428 : decode cL_errors 428 = .ok (.ifCond .ne 7, 3) := by decide +kernel
theorem dL_errors_431 : decode cL_errors 431 = .ok (.iconst 1, 1) := by decide +kernel
theorem dL_errors_432 : decode cL_errors 432 = .ok (.goto 4, 3) := by decide +kernel
theorem dL_errors_435 : decode cL_errors 435 = .ok (.iconst 0, 1) := by decide +kernel
theorem dL_errors_436 : decode cL_errors 436 = .ok (.istore 4, 2) := by decide +kernel
theorem dL_errors_438 : decode cL_errors 438 = .ok (.iinc 5 1, 3) := by decide +kernel
theorem dL_errors_441 : decode cL_errors 441 = .ok (.goto (-99), 3) := by decide +kernel
theorem dL_errors_444 : decode cL_errors 444 = .ok (.iload 4, 2) := by decide +kernel
theorem dL_errors_446 : decode cL_errors 446 = .ok (.ifCond .eq 278, 3) := by decide +kernel
theorem dL_errors_449 : decode cL_errors 449 = .ok (.aload_n 0, 1) := by decide +kernel
theorem dL_errors_450 : decode cL_errors 450 = .ok (.iload_n 3, 1) := by decide +kernel
theorem dL_errors_451 : decode cL_errors 451 = .ok (.iconst 1, 1) := by decide +kernel
theorem dL_errors_452 : decode cL_errors 452 = .ok (.bipush 99, 2) := by decide +kernel
theorem dL_errors_454 : decode cL_errors 454 = .ok (.invokestatic 143, 3) := by decide +kernel
theorem dL_errors_457 : decode cL_errors 457 = .ok (.ldc2_w 39, 3) := by decide +kernel
theorem dL_errors_460 : decode cL_errors 460 = .ok (.lcmp, 1) := by decide +kernel
theorem dL_errors_461 : decode cL_errors 461 = .ok (.ifCond .ne 263, 3) := by decide +kernel
theorem dL_errors_464 : decode cL_errors 464 = .ok (.aload_n 0, 1) := by decide +kernel
theorem dL_errors_465 : decode cL_errors 465 = .ok (.iconst 0, 1) := by decide +kernel
theorem dL_errors_466 : decode cL_errors 466 = .ok (.bipush 100, 2) := by decide +kernel
theorem dL_errors_468 : decode cL_errors 468 = .ok (.iconst 0, 1) := by decide +kernel
theorem dL_errors_469 : decode cL_errors 469 = .ok (.invokestatic 143, 3) := by decide +kernel
theorem dL_errors_472 : decode cL_errors 472 = .ok (.ldc2_w 17, 3) := by decide +kernel
theorem dL_errors_475 : decode cL_errors 475 = .ok (.lcmp, 1) := by decide +kernel
theorem dL_errors_476 : decode cL_errors 476 = .ok (.ifCond .ne 248, 3) := by decide +kernel
theorem dL_errors_479 : decode cL_errors 479 = .ok (.aload_n 0, 1) := by decide +kernel
theorem dL_errors_480 : decode cL_errors 480 = .ok (.iconst 0, 1) := by decide +kernel
theorem dL_errors_481 : decode cL_errors 481 = .ok (.iconst 0, 1) := by decide +kernel
theorem dL_errors_482 : decode cL_errors 482 = .ok (.bipush 10, 2) := by decide +kernel
theorem dL_errors_484 : decode cL_errors 484 = .ok (.invokestatic 143, 3) := by decide +kernel
theorem dL_errors_487 : decode cL_errors 487 = .ok (.ldc2_w 17, 3) := by decide +kernel
theorem dL_errors_490 : decode cL_errors 490 = .ok (.lcmp, 1) := by decide +kernel
theorem dL_errors_491 : decode cL_errors 491 = .ok (.ifCond .ne 233, 3) := by decide +kernel
theorem dL_errors_494 : decode cL_errors 494 = .ok (.aload_n 0, 1) := by decide +kernel
theorem dL_errors_495 : decode cL_errors 495 = .ok (.iconst 0, 1) := by decide +kernel
theorem dL_errors_496 : decode cL_errors 496 = .ok (.iconst 0, 1) := by decide +kernel
theorem dL_errors_497 : decode cL_errors 497 = .ok (.invokestatic 146, 3) := by decide +kernel
theorem dL_errors_500 : decode cL_errors 500 = .ok (.ldc2_w 17, 3) := by decide +kernel
theorem dL_errors_503 : decode cL_errors 503 = .ok (.lcmp, 1) := by decide +kernel
theorem dL_errors_504 : decode cL_errors 504 = .ok (.ifCond .ne 220, 3) := by decide +kernel
theorem dL_errors_507 : decode cL_errors 507 = .ok (.aload_n 0, 1) := by decide +kernel
theorem dL_errors_508 : decode cL_errors 508 = .ok (.iconst 1, 1) := by decide +kernel
theorem dL_errors_509 : decode cL_errors 509 = .ok (.bipush 10, 2) := by decide +kernel
theorem dL_errors_511 : decode cL_errors 511 = .ok (.invokestatic 146, 3) := by decide +kernel
theorem dL_errors_514 : decode cL_errors 514 = .ok (.ldc2_w 17, 3) := by decide +kernel
theorem dL_errors_517 : decode cL_errors 517 = .ok (.lcmp, 1) := by decide +kernel
theorem dL_errors_518 : decode cL_errors 518 = .ok (.ifCond .ne 206, 3) := by decide +kernel
theorem dL_errors_521 : decode cL_errors 521 = .ok (.aload_n 0, 1) := by decide +kernel
theorem dL_errors_522 : decode cL_errors 522 = .ok (.iload_n 3, 1) := by decide +kernel
theorem dL_errors_523 : decode cL_errors 523 = .ok (.iconst 0, 1) := by decide +kernel
theorem dL_errors_524 : decode cL_errors 524 = .ok (.iconst 0, 1) := by decide +kernel
theorem dL_errors_525 : decode cL_errors 525 = .ok (.invokestatic 148, 3) := by decide +kernel
theorem dL_errors_528 : decode cL_errors 528 = .ok (.ldc2_w 39, 3) := by decide +kernel
theorem dL_errors_531 : decode cL_errors 531 = .ok (.lcmp, 1) := by decide +kernel
theorem dL_errors_532 : decode cL_errors 532 = .ok (.ifCond .ne 192, 3) := by decide +kernel
theorem dL_errors_535 : decode cL_errors 535 = .ok (.aload_n 0, 1) := by decide +kernel
theorem dL_errors_536 : decode cL_errors 536 = .ok (.iconst 0, 1) := by decide +kernel
theorem dL_errors_537 : decode cL_errors 537 = .ok (.iconst 1, 1) := by decide +kernel
theorem dL_errors_538 : decode cL_errors 538 = .ok (.bipush 100, 2) := by decide +kernel
theorem dL_errors_540 : decode cL_errors 540 = .ok (.invokestatic 148, 3) := by decide +kernel
theorem dL_errors_543 : decode cL_errors 543 = .ok (.ldc2_w 17, 3) := by decide +kernel
theorem dL_errors_546 : decode cL_errors 546 = .ok (.lcmp, 1) := by decide +kernel
theorem dL_errors_547 : decode cL_errors 547 = .ok (.ifCond .ne 177, 3) := by decide +kernel
theorem dL_errors_550 : decode cL_errors 550 = .ok (.aload_n 0, 1) := by decide +kernel
theorem dL_errors_551 : decode cL_errors 551 = .ok (.iconst 0, 1) := by decide +kernel
theorem dL_errors_552 : decode cL_errors 552 = .ok (.iconst 1, 1) := by decide +kernel
theorem dL_errors_553 : decode cL_errors 553 = .ok (.invokestatic 152, 3) := by decide +kernel
theorem dL_errors_556 : decode cL_errors 556 = .ok (.ldc2_w 17, 3) := by decide +kernel
theorem dL_errors_559 : decode cL_errors 559 = .ok (.lcmp, 1) := by decide +kernel
theorem dL_errors_560 : decode cL_errors 560 = .ok (.ifCond .ne 164, 3) := by decide +kernel
theorem dL_errors_563 : decode cL_errors 563 = .ok (.aload_n 0, 1) := by decide +kernel
theorem dL_errors_564 : decode cL_errors 564 = .ok (.iconst 4, 1) := by decide +kernel
theorem dL_errors_565 : decode cL_errors 565 = .ok (.iconst 0, 1) := by decide +kernel
theorem dL_errors_566 : decode cL_errors 566 = .ok (.invokestatic 152, 3) := by decide +kernel
theorem dL_errors_569 : decode cL_errors 569 = .ok (.ldc2_w 17, 3) := by decide +kernel
theorem dL_errors_572 : decode cL_errors 572 = .ok (.lcmp, 1) := by decide +kernel
theorem dL_errors_573 : decode cL_errors 573 = .ok (.ifCond .ne 151, 3) := by decide +kernel
theorem dL_errors_576 : decode cL_errors 576 = .ok (.aload_n 0, 1) := by decide +kernel
theorem dL_errors_577 : decode cL_errors 577 = .ok (.iload_n 3, 1) := by decide +kernel
theorem dL_errors_578 : decode cL_errors 578 = .ok (.iconst 0, 1) := by decide +kernel
theorem dL_errors_579 : decode cL_errors 579 = .ok (.invokestatic 150, 3) := by decide +kernel
theorem dL_errors_582 : decode cL_errors 582 = .ok (.ldc2_w 39, 3) := by decide +kernel
theorem dL_errors_585 : decode cL_errors 585 = .ok (.lcmp, 1) := by decide +kernel
theorem dL_errors_586 : decode cL_errors 586 = .ok (.ifCond .ne 138, 3) := by decide +kernel
theorem dL_errors_589 : decode cL_errors 589 = .ok (.aload_n 0, 1) := by decide +kernel
theorem dL_errors_590 : decode cL_errors 590 = .ok (.iconst 0, 1) := by decide +kernel
theorem dL_errors_591 : decode cL_errors 591 = .ok (.bipush 100, 2) := by decide +kernel
theorem dL_errors_593 : decode cL_errors 593 = .ok (.invokestatic 150, 3) := by decide +kernel
theorem dL_errors_596 : decode cL_errors 596 = .ok (.ldc2_w 17, 3) := by decide +kernel
theorem dL_errors_599 : decode cL_errors 599 = .ok (.lcmp, 1) := by decide +kernel
theorem dL_errors_600 : decode cL_errors 600 = .ok (.ifCond .ne 124, 3) := by decide +kernel
theorem dL_errors_603 : decode cL_errors 603 = .ok (.aload_n 0, 1) := by decide +kernel
theorem dL_errors_604 : decode cL_errors 604 = .ok (.sipush 10000, 3) := by decide +kernel
theorem dL_errors_607 : decode cL_errors 607 = .ok (.iconst 1, 1) := by decide +kernel
theorem dL_errors_608 : decode cL_errors 608 = .ok (.invokestatic 157, 3) := by decide +kernel
theorem dL_errors_611 : decode cL_errors 611 = .ok (.ldc2_w 17, 3) := by decide +kernel
theorem dL_errors_614 : decode cL_errors 614 = .ok (.lcmp, 1) := by decide +kernel
theorem dL_errors_615 : decode cL_errors 615 = .ok (.ifCond .ne 109, 3) := by decide +kernel
theorem dL_errors_618 : decode cL_errors 618 = .ok (.aload_n 0, 1) := by decide +kernel
theorem dL_errors_619 : decode cL_errors 619 = .ok (.iconst 1, 1) := by decide +kernel
theorem dL_errors_620 : decode cL_errors 620 = .ok (.bipush 21, 2) := by decide +kernel
theorem dL_errors_622 : decode cL_errors 622 = .ok (.invokestatic 157, 3) := by decide +kernel
theorem dL_errors_625 : decode cL_errors 625 = .ok (.ldc2_w 17, 3) := by decide +kernel
theorem dL_errors_628 : decode cL_errors 628 = .ok (.lcmp, 1) := by decide +kernel
theorem dL_errors_629 : decode cL_errors 629 = .ok (.ifCond .ne 95, 3) := by decide +kernel
theorem dL_errors_632 : decode cL_errors 632 = .ok (.aload_n 0, 1) := by decide +kernel
theorem dL_errors_633 : decode cL_errors 633 = .ok (.iconst 4, 1) := by decide +kernel
theorem dL_errors_634 : decode cL_errors 634 = .ok (.lconst 0, 1) := by decide +kernel
theorem dL_errors_635 : decode cL_errors 635 = .ok (.invokestatic 159, 3) := by decide +kernel
theorem dL_errors_638 : decode cL_errors 638 = .ok (.ldc2_w 17, 3) := by decide +kernel
theorem dL_errors_641 : decode cL_errors 641 = .ok (.lcmp, 1) := by decide +kernel
theorem dL_errors_642 : decode cL_errors 642 = .ok (.ifCond .ne 82, 3) := by decide +kernel
theorem dL_errors_645 : decode cL_errors 645 = .ok (.aload_n 0, 1) := by decide +kernel
theorem dL_errors_646 : decode cL_errors 646 = .ok (.iconst 1, 1) := by decide +kernel
theorem dL_errors_647 : decode cL_errors 647 = .ok (.ldc2_w 154, 3) := by decide +kernel
theorem dL_errors_650 : decode cL_errors 650 = .ok (.invokestatic 159, 3) := by decide +kernel
theorem dL_errors_653 : decode cL_errors 653 = .ok (.ldc2_w 17, 3) := by decide +kernel
theorem dL_errors_656 : decode cL_errors 656 = .ok (.lcmp, 1) := by decide +kernel
theorem dL_errors_657 : decode cL_errors 657 = .ok (.ifCond .ne 67, 3) := by decide +kernel
theorem dL_errors_660 : decode cL_errors 660 = .ok (.aload_n 0, 1) := by decide +kernel
theorem dL_errors_661 : decode cL_errors 661 = .ok (.iconst 1, 1) := by decide +kernel
theorem dL_errors_662 : decode cL_errors 662 = .ok (.ldc2_w 180, 3) := by decide +kernel
theorem dL_errors_665 : decode cL_errors 665 = .ok (.invokestatic 159, 3) := by decide +kernel
theorem dL_errors_668 : decode cL_errors 668 = .ok (.lconst 0, 1) := by decide +kernel
theorem dL_errors_669 : decode cL_errors 669 = .ok (.lcmp, 1) := by decide +kernel
theorem dL_errors_670 : decode cL_errors 670 = .ok (.ifCond .ne 54, 3) := by decide +kernel
theorem dL_errors_673 : decode cL_errors 673 = .ok (.aload_n 0, 1) := by decide +kernel
theorem dL_errors_674 : decode cL_errors 674 = .ok (.lconst 1, 1) := by decide +kernel
theorem dL_errors_675 : decode cL_errors 675 = .ok (.bipush 100, 2) := by decide +kernel
theorem dL_errors_677 : decode cL_errors 677 = .ok (.invokestatic 163, 3) := by decide +kernel
theorem dL_errors_680 : decode cL_errors 680 = .ok (.ldc2_w 17, 3) := by decide +kernel
theorem dL_errors_683 : decode cL_errors 683 = .ok (.lcmp, 1) := by decide +kernel
theorem dL_errors_684 : decode cL_errors 684 = .ok (.ifCond .ne 40, 3) := by decide +kernel
theorem dL_errors_687 : decode cL_errors 687 = .ok (.aload_n 0, 1) := by decide +kernel
theorem dL_errors_688 : decode cL_errors 688 = .ok (.iconst 2, 1) := by decide +kernel
theorem dL_errors_689 : decode cL_errors 689 = .ok (.invokestatic 182, 3) := by decide +kernel
theorem dL_errors_692 : decode cL_errors 692 = .ok (.ldc2_w 39, 3) := by decide +kernel
theorem dL_errors_695 : decode cL_errors 695 = .ok (.lcmp, 1) := by decide +kernel
theorem dL_errors_696 : decode cL_errors 696 = .ok (.ifCond .ne 28, 3) := by decide +kernel
theorem dL_errors_699 : decode cL_errors 699 = .ok (.aload_n 0, 1) := by decide +kernel
theorem dL_errors_700 : decode cL_errors 700 = .ok (.iconst (-1), 1) := by decide +kernel
theorem dL_errors_701 : decode cL_errors 701 = .ok (.invokestatic 184, 3) := by decide +kernel
theorem dL_errors_704 : decode cL_errors 704 = .ok (.ldc2_w 39, 3) := by decide +kernel
theorem dL_errors_707 : decode cL_errors 707 = .ok (.lcmp, 1) := by decide +kernel
theorem dL_errors_708 : decode cL_errors 708 = .ok (.ifCond .ne 16, 3) := by decide +kernel
theorem dL_errors_711 : decode cL_errors 711 = .ok (.aload_n 0, 1) := by decide +kernel
theorem dL_errors_712 : decode cL_errors 712 = .ok (.invokestatic 126, 3) := by decide +kernel
theorem dL_errors_715 : decode cL_errors 715 = .ok (.lload_n 1, 1) := by decide +kernel
theorem dL_errors_716 : decode cL_errors 716 = .ok (.lcmp, 1) := by decide +kernel
theorem dL_errors_717 : decode cL_errors 717 = .ok (.ifCond .ne 7, 3) := by decide +kernel
theorem dL_errors_720 : decode cL_errors 720 = .ok (.iconst 1, 1) := by decide +kernel
theorem dL_errors_721 : decode cL_errors 721 = .ok (.goto 4, 3) := by decide +kernel
theorem dL_errors_724 : decode cL_errors 724 = .ok (.iconst 0, 1) := by decide +kernel
theorem dL_errors_725 : decode cL_errors 725 = .ok (.ireturn, 1) := by decide +kernel
theorem dL_built_0 : decode cL_built 0 = .ok (.aload_n 0, 1) := by decide +kernel
theorem dL_built_1 : decode cL_built 1 = .ok (.invokestatic 119, 3) := by decide +kernel
theorem dL_built_4 : decode cL_built 4 = .ok (.istore_n 1, 1) := by decide +kernel
theorem dL_built_5 : decode cL_built 5 = .ok (.lconst 0, 1) := by decide +kernel
theorem dL_built_6 : decode cL_built 6 = .ok (.lstore_n 2, 1) := by decide +kernel
theorem dL_built_7 : decode cL_built 7 = .ok (.lconst 0, 1) := by decide +kernel
theorem dL_built_8 : decode cL_built 8 = .ok (.lstore 4, 2) := by decide +kernel
theorem dL_built_10 : decode cL_built 10 = .ok (.iconst 0, 1) := by decide +kernel
theorem dL_built_11 : decode cL_built 11 = .ok (.istore 6, 2) := by decide +kernel
theorem dL_built_13 : decode cL_built 13 = .ok (.bipush (-9), 2) := by decide +kernel
theorem dL_built_15 : decode cL_built 15 = .ok (.istore 7, 2) := by decide +kernel
theorem dL_built_17 : decode cL_built 17 = .ok (.iconst 1, 1) := by decide +kernel
theorem dL_built_18 : decode cL_built 18 = .ok (.istore 8, 2) := by decide +kernel
theorem dL_built_20 : decode cL_built 20 = .ok (.iconst 0, 1) := by decide +kernel
theorem dL_built_21 : decode cL_built 21 = .ok (.istore 9, 2) := by decide +kernel
theorem dL_built_23 : decode cL_built 23 = .ok (.iload 9, 2) := by decide +kernel
theorem dL_built_25 : decode cL_built 25 = .ok (.iload_n 1, 1) := by decide +kernel
theorem dL_built_26 : decode cL_built 26 = .ok (.if_icmp .ge 314, 3) := by decide +kernel
theorem dL_built_29 : decode cL_built 29 = .ok (.iload 8, 2) := by decide +kernel
theorem dL_built_31 : decode cL_built 31 = .ok (.ifCond .eq 309, 3) := by decide +kernel
theorem dL_built_34 : decode cL_built 34 = .ok (.aload_n 0, 1) := by decide +kernel
theorem dL_built_35 : decode cL_built 35 = .ok (.iload 9, 2) := by decide +kernel
theorem dL_built_37 : decode cL_built 37 = .ok (.iconst 1, 1) := by decide +kernel
theorem dL_built_38 : decode cL_built 38 = .ok (.invokestatic 123, 3) := by decide +kernel
theorem dL_built_41 : decode cL_built 41 = .ok (.lstore 10, 2) := by decide +kernel
theorem dL_built_43 : decode cL_built 43 = .ok (.aload_n 0, 1) := by decide +kernel
theorem dL_built_44 : decode cL_built 44 = .ok (.iload 9, 2) := by decide +kernel
theorem dL_built_46 : decode cL_built 46 = .ok (.iconst 2, 1) := by decide +kernel
theorem dL_built_47 : decode cL_built 47 = .ok (.invokestatic 123, 3) := by decide +kernel
theorem dL_built_50 : decode cL_built 50 = .ok (.lstore 12, 2) := by decide +kernel
theorem dL_built_52 : decode cL_built 52 = .ok (.aload_n 0, 1) := by decide +kernel
theorem dL_built_53 : decode cL_built 53 = .ok (.iload 9, 2) := by decide +kernel
theorem dL_built_55 : decode cL_built 55 = .ok (.iconst 5, 1) := by decide +kernel
theorem dL_built_56 : decode cL_built 56 = .ok (.invokestatic 123, 3) := by decide +kernel
theorem dL_built_59 : decode cL_built 59 = .ok (.lstore 14, 2) := by decide +kernel
theorem dL_built_61 : decode cL_built 61 = .ok (.lload_n 2, 1) := by decide +kernel
theorem dL_built_62 : decode cL_built 62 = .ok (.lload 10, 2) := by decide +kernel
theorem dL_built_64 : decode cL_built 64 = .ok (.ladd, 1) := by decide +kernel
theorem dL_built_65 : decode cL_built 65 = .ok (.lstore_n 2, 1) := by decide +kernel
theorem dL_built_66 : decode cL_built 66 = .ok (.lload 4, 2) := by decide +kernel
theorem dL_built_68 : decode cL_built 68 = .ok (.lload 12, 2) := by decide +kernel
theorem dL_built_70 : decode cL_built 70 = .ok (.ladd, 1) := by decide +kernel
theorem dL_built_71 : decode cL_built 71 = .ok (.lstore 4, 2) := by decide +kernel
theorem dL_built_73 : decode cL_built 73 = .ok (.iload 6, 2) := by decide +kernel
theorem dL_built_75 : decode cL_built 75 = .ok (.aload_n 0, 1) := by decide +kernel
theorem dL_built_76 : decode cL_built 76 = .ok (.iload 9, 2) := by decide +kernel
theorem dL_built_78 : decode cL_built 78 = .ok (.bipush 7, 2) := by decide +kernel
theorem dL_built_80 : decode cL_built 80 = .ok (.invokestatic 123, 3) := by decide +kernel
theorem dL_built_83 : decode cL_built 83 = .ok (.lconst 0, 1) := by decide +kernel
theorem dL_built_84 : decode cL_built 84 = .ok (.lcmp, 1) := by decide +kernel
theorem dL_built_85 : decode cL_built 85 = .ok (.ifCond .le 7, 3) := by decide +kernel
theorem dL_built_88 : decode cL_built 88 = .ok (.iconst 1, 1) := by decide +kernel
theorem dL_built_89 : decode cL_built 89 = .ok (.goto 4, 3) := by decide +kernel
theorem dL_built_92 : decode cL_built 92 = .ok (.iconst 0, 1) := by decide +kernel
theorem dL_built_93 : decode cL_built 93 = .ok (.iadd, 1) := by decide +kernel
theorem dL_built_94 : decode cL_built 94 = .ok (.istore 6, 2) := by decide +kernel
theorem dL_built_96 : decode cL_built 96 = .ok (.lload 10, 2) := by decide +kernel
theorem dL_built_98 : decode cL_built 98 = .ok (.lconst 0, 1) := by decide +kernel
theorem dL_built_99 : decode cL_built 99 = .ok (.lcmp, 1) := by decide +kernel
theorem dL_built_100 : decode cL_built 100 = .ok (.ifCond .lt 209, 3) := by decide +kernel
theorem dL_built_103 : decode cL_built 103 = .ok (.lload 12, 2) := by decide +kernel
theorem dL_built_105 : decode cL_built 105 = .ok (.lconst 0, 1) := by decide +kernel
theorem dL_built_106 : decode cL_built 106 = .ok (.lcmp, 1) := by decide +kernel
theorem dL_built_107 : decode cL_built 107 = .ok (.ifCond .lt 202, 3) := by decide +kernel
theorem dL_built_110 : decode cL_built 110 = .ok (.lload 10, 2) := by decide +kernel
theorem dL_built_112 : decode cL_built 112 = .ok (.lload 12, 2) := by decide +kernel
theorem dL_built_114 : decode cL_built 114 = .ok (.ladd, 1) := by decide +kernel
theorem dL_built_115 : decode cL_built 115 = .ok (.ldc2_w 186, 3) := by decide +kernel
theorem dL_built_118 : decode cL_built 118 = .ok (.lcmp, 1) := by decide +kernel
theorem dL_built_119 : decode cL_built 119 = .ok (.ifCond .gt 190, 3) := by decide +kernel
theorem dL_built_122 : decode cL_built 122 = .ok (.lload 14, 2) := by decide +kernel
theorem dL_built_124 : decode cL_built 124 = .ok (.lconst 0, 1) := by decide +kernel
theorem dL_built_125 : decode cL_built 125 = .ok (.ldc2_w 188, 3) := by decide +kernel
theorem dL_built_128 : decode cL_built 128 = .ok (.invokestatic 190, 3) := by decide +kernel
theorem dL_built_131 : decode cL_built 131 = .ok (.ifCond .eq 178, 3) := by decide +kernel
theorem dL_built_134 : decode cL_built 134 = .ok (.aload_n 0, 1) := by decide +kernel
theorem dL_built_135 : decode cL_built 135 = .ok (.iload 9, 2) := by decide +kernel
theorem dL_built_137 : decode cL_built 137 = .ok (.bipush 6, 2) := by decide +kernel
theorem dL_built_139 : decode cL_built 139 = .ok (.invokestatic 123, 3) := by decide +kernel
theorem dL_built_142 : decode cL_built 142 = .ok (.lconst 0, 1) := by decide +kernel
theorem dL_built_143 : decode cL_built 143 = .ok (.ldc2_w 194, 3) := by decide +kernel
theorem dL_built_146 : decode cL_built 146 = .ok (.invokestatic 190, 3) := by decide +kernel
theorem dL_built_149 : decode cL_built 149 = .ok (.ifCond .eq 160, 3) := by decide +kernel
theorem dL_built_152 : decode cL_built 152 = .ok (.aload_n 0, 1) := by decide +kernel
theorem dL_built_153 : decode cL_built 153 = .ok (.iload 9, 2) := by decide +kernel
theorem dL_built_155 : decode cL_built 155 = .ok (.bipush 7, 2) := by decide +kernel
theorem dL_built_157 : decode cL_built 157 = .ok (.invokestatic 123, 3) := by decide +kernel
theorem dL_built_160 : decode cL_built 160 = .ok (.lconst 0, 1) := by decide +kernel
theorem dL_built_161 : decode cL_built 161 = .ok (.ldc2_w 196, 3) := by decide +kernel
theorem dL_built_164 : decode cL_built 164 = .ok (.invokestatic 190, 3) := by decide +kernel
theorem dL_built_167 : decode cL_built 167 = .ok (.ifCond .eq 142, 3) := by decide +kernel
theorem dL_built_170 : decode cL_built 170 = .ok (.aload_n 0, 1) := by decide +kernel
theorem dL_built_171 : decode cL_built 171 = .ok (.iload 9, 2) := by decide +kernel
theorem dL_built_173 : decode cL_built 173 = .ok (.bipush 8, 2) := by decide +kernel
theorem dL_built_175 : decode cL_built 175 = .ok (.invokestatic 123, 3) := by decide +kernel
theorem dL_built_178 : decode cL_built 178 = .ok (.lload 10, 2) := by decide +kernel
theorem dL_built_180 : decode cL_built 180 = .ok (.lload 12, 2) := by decide +kernel
theorem dL_built_182 : decode cL_built 182 = .ok (.ladd, 1) := by decide +kernel
theorem dL_built_183 : decode cL_built 183 = .ok (.lconst 0, 1) := by decide +kernel
theorem dL_built_184 : decode cL_built 184 = .ok (.lcmp, 1) := by decide +kernel
theorem dL_built_185 : decode cL_built 185 = .ok (.ifCond .ne 7, 3) := by decide +kernel
theorem dL_built_188 : decode cL_built 188 = .ok (.lconst 0, 1) := by decide +kernel
theorem dL_built_189 : decode cL_built 189 = .ok (.goto 15, 3) := by decide +kernel
theorem dL_built_192 : decode cL_built 192 = .ok (.ldc2_w 198, 3) := by decide +kernel
theorem dL_built_195 : decode cL_built 195 = .ok (.lload 12, 2) := by decide +kernel
theorem dL_built_197 : decode cL_built 197 = .ok (.lmul, 1) := by decide +kernel
theorem dL_built_198 : decode cL_built 198 = .ok (.lload 10, 2) := by decide +kernel
theorem dL_built_200 : decode cL_built 200 = .ok (.lload 12, 2) := by decide +kernel
theorem dL_built_202 : decode cL_built 202 = .ok (.ladd, 1) := by decide +kernel
theorem dL_built_203 : decode cL_built 203 = .ok (.ldiv, 1) := by decide +kernel
theorem dL_built_204 : decode cL_built 204 = .ok (.lcmp, 1) := by decide +kernel
theorem dL_built_205 : decode cL_built 205 = .ok (.ifCond .ne 104, 3) := by decide +kernel
theorem dL_built_208 : decode cL_built 208 = .ok (.aload_n 0, 1) := by decide +kernel
theorem dL_built_209 : decode cL_built 209 = .ok (.iload 9, 2) := by decide +kernel
theorem dL_built_211 : decode cL_built 211 = .ok (.bipush 9, 2) := by decide +kernel
theorem dL_built_213 : decode cL_built 213 = .ok (.invokestatic 123, 3) := by decide +kernel
theorem dL_built_216 : decode cL_built 216 = .ok (.ldc2_w 198, 3) := by decide +kernel
theorem dL_built_219 : decode cL_built 219 = .ok (.aload_n 0, 1) := by decide +kernel
theorem dL_built_220 : decode cL_built 220 = .ok (.iload 9, 2) := by decide +kernel
theorem dL_built_222 : decode cL_built 222 = .ok (.iconst 0, 1) := by decide +kernel
theorem dL_built_223 : decode cL_built 223 = .ok (.invokestatic 123, 3) := by decide +kernel
theorem dL_built_226 : decode cL_built 226 = .ok (.lmul, 1) := by decide +kernel
theorem dL_built_227 : decode cL_built 227 = .ok (.ldc2_w 200, 3) := by decide +kernel
theorem dL_built_230 : decode cL_built 230 = .ok (.lload 14, 2) := by decide +kernel
theorem dL_built_232 : decode cL_built 232 = .ok (.ladd, 1) := by decide +kernel
theorem dL_built_233 : decode cL_built 233 = .ok (.ldiv, 1) := by decide +kernel
theorem dL_built_234 : decode cL_built 234 = .ok (.lcmp, 1) := by decide +kernel
theorem dL_built_235 : decode cL_built 235 = .ok (.ifCond .ne 74, 3) := by decide +kernel
theorem dL_built_238 : decode cL_built 238 = .ok (.aload_n 0, 1) := by decide +kernel
theorem dL_built_239 : decode cL_built 239 = .ok (.iload 9, 2) := by decide +kernel
theorem dL_built_241 : decode cL_built 241 = .ok (.iconst 0, 1) := by decide +kernel
theorem dL_built_242 : decode cL_built 242 = .ok (.invokestatic 140, 3) := by decide +kernel
theorem dL_built_245 : decode cL_built 245 = .ok (.iload 7, 2) := by decide +kernel
theorem dL_built_247 : decode cL_built 247 = .ok (.i2l, 1) := by decide +kernel
theorem dL_built_248 : decode cL_built 248 = .ok (.lcmp, 1) := by decide +kernel
theorem dL_built_249 : decode cL_built 249 = .ok (.ifCond .ne 60, 3) := by decide +kernel
theorem dL_built_252 : decode cL_built 252 = .ok (.aload_n 0, 1) := by decide +kernel
theorem dL_built_253 : decode cL_built 253 = .ok (.iload 9, 2) := by decide +kernel
theorem dL_built_255 : decode cL_built 255 = .ok (.invokestatic 137, 3) := by decide +kernel
theorem dL_built_258 : decode cL_built 258 = .ok (.fconst 0, 1) := by decide +kernel
theorem dL_built_259 : decode cL_built 259 = .ok (.fcmp .l, 1) := by decide +kernel
theorem dL_built_260 : decode cL_built 260 = .ok (.ifCond .lt 49, 3) := by decide +kernel
theorem dL_built_263 : decode cL_built 263 = .ok (.aload_n 0, 1) := by decide +kernel
theorem dL_built_264 : decode cL_built 264 = .ok (.iload 9, 2) := by decide +kernel
theorem dL_built_266 : decode cL_built 266 = .ok (.invokestatic 137, 3) := by decide +kernel
theorem dL_built_269 : decode cL_built 269 = .ok (.fconst 1, 1) := by decide +kernel
theorem dL_built_270 : decode cL_built 270 = .ok (.fcmp .g, 1) := by decide +kernel
theorem dL_built_271 : decode cL_built 271 = .ok (.ifCond .gt 38, 3) := by decide +kernel
theorem dL_built_274 : decode cL_built 274 = .ok (.aload_n 0, 1) := by decide +kernel
theorem dL_built_275 : decode cL_built 275 = .ok (.iload 9, 2) := by decide +kernel
theorem dL_built_277 : decode cL_built 277 = .ok (.invokestatic 137, 3) := by decide +kernel
theorem dL_built_280 : decode cL_built 280 = .ok (.fconst 0, 1) := by decide +kernel
theorem dL_built_281 : decode cL_built 281 = .ok (.fcmp .l, 1) := by decide +kernel
theorem dL_built_282 : decode cL_built 282 = .ok (.ifCond .ne 7, 3) := by decide +kernel
theorem dL_built_285 : decode cL_built 285 = .ok (.iconst 1, 1) := by decide +kernel
theorem dL_built_286 : decode cL_built 286 = .ok (.goto 4, 3) := by decide +kernel
theorem dL_built_289 : decode cL_built 289 = .ok (.iconst 0, 1) := by decide +kernel
theorem dL_built_290 : decode cL_built 290 = .ok (.lload 12, 2) := by decide +kernel
theorem dL_built_292 : decode cL_built 292 = .ok (.lconst 0, 1) := by decide +kernel
theorem dL_built_293 : decode cL_built 293 = .ok (.lcmp, 1) := by decide +kernel
theorem dL_built_294 : decode cL_built 294 = .ok (.ifCond .ne 7, 3) := by decide +kernel
theorem dL_built_297 : decode cL_built 297 = .ok (.iconst 1, 1) := by decide +kernel
theorem dL_built_298 : decode cL_built 298 = .ok (.goto 4, 3) := by decide +kernel
theorem dL_built_301 : decode cL_built 301 = .ok (.iconst 0, 1) := by decide +kernel
theorem dL_built_302 : decode cL_built 302 = .ok (.if_icmp .ne 7, 3) := by decide +kernel
theorem dL_built_305 : decode cL_built 305 = .ok (.iconst 1, 1) := by decide +kernel
theorem dL_built_306 : decode cL_built 306 = .ok (.goto 4, 3) := by decide +kernel
theorem dL_built_309 : decode cL_built 309 = .ok (.iconst 0, 1) := by decide +kernel
theorem dL_built_310 : decode cL_built 310 = .ok (.istore 8, 2) := by decide +kernel
theorem dL_built_312 : decode cL_built 312 = .ok (.aload_n 0, 1) := by decide +kernel
theorem dL_built_313 : decode cL_built 313 = .ok (.iload 9, 2) := by decide +kernel
theorem dL_built_315 : decode cL_built 315 = .ok (.bipush 7, 2) := by decide +kernel
theorem dL_built_317 : decode cL_built 317 = .ok (.invokestatic 123, 3) := by decide +kernel
theorem dL_built_320 : decode cL_built 320 = .ok (.lconst 0, 1) := by decide +kernel
theorem dL_built_321 : decode cL_built 321 = .ok (.lcmp, 1) := by decide +kernel
theorem dL_built_322 : decode cL_built 322 = .ok (.ifCond .ne 8, 3) := by decide +kernel
theorem dL_built_325 : decode cL_built 325 = .ok (.iload 9, 2) := by decide +kernel
theorem dL_built_327 : decode cL_built 327 = .ok (.goto 5, 3) := by decide +kernel
theorem dL_built_330 : decode cL_built 330 = .ok (.iload 7, 2) := by decide +kernel
theorem dL_built_332 : decode cL_built 332 = .ok (.istore 7, 2) := by decide +kernel
theorem dL_built_334 : decode cL_built 334 = .ok (.iinc 9 1, 3) := by decide +kernel
theorem dL_built_337 : decode cL_built 337 = .ok (.goto (-314), 3) := by decide +kernel
theorem dL_built_340 : decode cL_built 340 = .ok (.bipush (-9), 2) := by decide +kernel
theorem dL_built_342 : decode cL_built 342 = .ok (.istore 9, 2) := by decide +kernel
theorem dL_built_344 : decode cL_built 344 = .ok (.iload_n 1, 1) := by decide +kernel
theorem dL_built_345 : decode cL_built 345 = .ok (.iconst 1, 1) := by decide +kernel
theorem dL_built_346 : decode cL_built 346 = .ok (.isub, 1) := by decide +kernel
theorem dL_built_347 : decode cL_built 347 = .ok (.istore 10, 2) := by decide +kernel
theorem dL_built_349 : decode cL_built 349 = .ok (.iload 10, 2) := by decide +kernel
theorem dL_built_351 : decode cL_built 351 = .ok (.ifCond .lt 57, 3) := by decide +kernel
theorem dL_built_354 : decode cL_built 354 = .ok (.iload 8, 2) := by decide +kernel
theorem dL_built_356 : decode cL_built 356 = .ok (.ifCond .eq 52, 3) := by decide +kernel
theorem dL_built_359 : decode cL_built 359 = .ok (.aload_n 0, 1) := by decide +kernel
theorem dL_built_360 : decode cL_built 360 = .ok (.iload 10, 2) := by decide +kernel
theorem dL_built_362 : decode cL_built 362 = .ok (.iconst 1, 1) := by decide +kernel
theorem dL_built_363 : decode cL_built 363 = .ok (.invokestatic 140, 3) := by decide +kernel
theorem dL_built_366 : decode cL_built 366 = .ok (.iload 9, 2) := by decide +kernel
theorem dL_built_368 : decode cL_built 368 = .ok (.i2l, 1) := by decide +kernel
theorem dL_built_369 : decode cL_built 369 = .ok (.lcmp, 1) := by decide +kernel
theorem dL_built_370 : decode cL_built 370 = .ok (.ifCond .ne 7, 3) := by decide +kernel
theorem dL_built_373 : decode cL_built 373 = .ok (.iconst 1, 1) := by decide +kernel
theorem dL_built_374 : decode cL_built 374 = .ok (.goto 4, 3) := by decide +kernel
theorem dL_built_377 : decode cL_built 377 = .ok (.iconst 0, 1) := by decide +kernel
theorem dL_built_378 : decode cL_built 378 = .ok (.istore 8, 2) := by decide +kernel
theorem dL_built_380 : decode cL_built 380 = .ok (.aload_n 0, 1) := by decide +kernel
theorem dL_built_381 : decode cL_built 381 = .ok (.iload 10, 2) := by decide +kernel
theorem dL_built_383 : decode cL_built 383 = .ok (.bipush 7, 2) := by decide +kernel
theorem dL_built_385 : decode cL_built 385 = .ok (.invokestatic 123, 3) := by decide +kernel
theorem dL_built_388 : decode cL_built 388 = .ok (.lconst 0, 1) := by decide +kernel
theorem dL_built_389 : decode cL_built 389 = .ok (.lcmp, 1) := by decide +kernel
theorem dL_built_390 : decode cL_built 390 = .ok (.ifCond .ne 8, 3) := by decide +kernel
theorem dL_built_393 : decode cL_built 393 = .ok (.iload 10, 2) := by decide +kernel
theorem dL_built_395 : decode cL_built 395 = .ok (.goto 5, 3) := by decide +kernel
theorem dL_built_398 : decode cL_built 398 = .ok (.iload 9, 2) := by decide +kernel
theorem dL_built_400 : decode cL_built 400 = .ok (.istore 9, 2) := by decide +kernel
theorem dL_built_402 : decode cL_built 402 = .ok (.iinc 10 (-1), 3) := by decide +kernel
theorem dL_built_405 : decode cL_built 405 = .ok (.goto (-56), 3) := by decide +kernel
theorem dL_built_408 : decode cL_built 408 = .ok (.iload 8, 2) := by decide +kernel
theorem dL_built_410 : decode cL_built 410 = .ok (.ifCond .eq 97, 3) := by decide +kernel
theorem dL_built_413 : decode cL_built 413 = .ok (.aload_n 0, 1) := by decide +kernel
theorem dL_built_414 : decode cL_built 414 = .ok (.bipush 7, 2) := by decide +kernel
theorem dL_built_416 : decode cL_built 416 = .ok (.invokestatic 104, 3) := by decide +kernel
theorem dL_built_419 : decode cL_built 419 = .ok (.iload 6, 2) := by decide +kernel
theorem dL_built_421 : decode cL_built 421 = .ok (.i2l, 1) := by decide +kernel
theorem dL_built_422 : decode cL_built 422 = .ok (.lcmp, 1) := by decide +kernel
theorem dL_built_423 : decode cL_built 423 = .ok (.ifCond .ne 84, 3) := by decide +kernel
theorem dL_built_426 : decode cL_built 426 = .ok (.aload_n 0, 1) := by decide +kernel
theorem dL_built_427 : decode cL_built 427 = .ok (.bipush 8, 2) := by decide +kernel
theorem dL_built_429 : decode cL_built 429 = .ok (.invokestatic 104, 3) := by decide +kernel
theorem dL_built_432 : decode cL_built 432 = .ok (.lload_n 2, 1) := by decide +kernel
theorem dL_built_433 : decode cL_built 433 = .ok (.lcmp, 1) := by decide +kernel
theorem dL_built_434 : decode cL_built 434 = .ok (.ifCond .ne 73, 3) := by decide +kernel
theorem dL_built_437 : decode cL_built 437 = .ok (.aload_n 0, 1) := by decide +kernel
theorem dL_built_438 : decode cL_built 438 = .ok (.bipush 9, 2) := by decide +kernel
theorem dL_built_440 : decode cL_built 440 = .ok (.invokestatic 104, 3) := by decide +kernel
theorem dL_built_443 : decode cL_built 443 = .ok (.lload 4, 2) := by decide +kernel
theorem dL_built_445 : decode cL_built 445 = .ok (.lcmp, 1) := by decide +kernel
theorem dL_built_446 : decode cL_built 446 = .ok (.ifCond .ne 61, 3) := by decide +kernel
theorem dL_built_449 : decode cL_built 449 = .ok (.aload_n 0, 1) := by decide +kernel
theorem dL_built_450 : decode cL_built 450 = .ok (.iconst 2, 1) := by decide +kernel
theorem dL_built_451 : decode cL_built 451 = .ok (.invokestatic 115, 3) := by decide +kernel
theorem dL_built_454 : decode cL_built 454 = .ok (.aload_n 0, 1) := by decide +kernel
theorem dL_built_455 : decode cL_built 455 = .ok (.iconst 1, 1) := by decide +kernel
theorem dL_built_456 : decode cL_built 456 = .ok (.invokestatic 115, 3) := by decide +kernel
theorem dL_built_459 : decode cL_built 459 = .ok (.lcmp, 1) := by decide +kernel
theorem dL_built_460 : decode cL_built 460 = .ok (.ifCond .gt 47, 3) := by decide +kernel
theorem dL_built_463 : decode cL_built 463 = .ok (.aload_n 0, 1) := by decide +kernel
theorem dL_built_464 : decode cL_built 464 = .ok (.iconst 3, 1) := by decide +kernel
theorem dL_built_465 : decode cL_built 465 = .ok (.invokestatic 115, 3) := by decide +kernel
theorem dL_built_468 : decode cL_built 468 = .ok (.aload_n 0, 1) := by decide +kernel
theorem dL_built_469 : decode cL_built 469 = .ok (.iconst 1, 1) := by decide +kernel
theorem dL_built_470 : decode cL_built 470 = .ok (.invokestatic 115, 3) := by decide +kernel
theorem dL_built_473 : decode cL_built 473 = .ok (.lcmp, 1) := by decide +kernel
theorem dL_built_474 : decode cL_built 474 = .ok (.ifCond .gt 33, 3) := by decide +kernel
theorem dL_built_477 : decode cL_built 477 = .ok (.aload_n 0, 1) := by decide +kernel
theorem dL_built_478 : decode cL_built 478 = .ok (.iconst 0, 1) := by decide +kernel
theorem dL_built_479 : decode cL_built 479 = .ok (.invokestatic 115, 3) := by decide +kernel
theorem dL_built_482 : decode cL_built 482 = .ok (.aload_n 0, 1) := by decide +kernel
theorem dL_built_483 : decode cL_built 483 = .ok (.iconst 2, 1) := by decide +kernel
theorem dL_built_484 : decode cL_built 484 = .ok (.invokestatic 115, 3) := by decide +kernel
theorem dL_built_487 : decode cL_built 487 = .ok (.aload_n 0, 1) := by decide +kernel
theorem dL_built_488 : decode cL_built 488 = .ok (.iconst 3, 1) := by decide +kernel
theorem dL_built_489 : decode cL_built 489 = .ok (.invokestatic 115, 3) := by decide +kernel
theorem dL_built_492 : decode cL_built 492 = .ok (.ladd, 1) := by decide +kernel
theorem dL_built_493 : decode cL_built 493 = .ok (.aload_n 0, 1) := by decide +kernel
theorem dL_built_494 : decode cL_built 494 = .ok (.iconst 4, 1) := by decide +kernel
theorem dL_built_495 : decode cL_built 495 = .ok (.invokestatic 115, 3) := by decide +kernel
theorem dL_built_498 : decode cL_built 498 = .ok (.ladd, 1) := by decide +kernel
theorem dL_built_499 : decode cL_built 499 = .ok (.lcmp, 1) := by decide +kernel
theorem dL_built_500 : decode cL_built 500 = .ok (.ifCond .ne 7, 3) := by decide +kernel
theorem dL_built_503 : decode cL_built 503 = .ok (.iconst 1, 1) := by decide +kernel
theorem dL_built_504 : decode cL_built 504 = .ok (.goto 4, 3) := by decide +kernel
theorem dL_built_507 : decode cL_built 507 = .ok (.iconst 0, 1) := by decide +kernel
theorem dL_built_508 : decode cL_built 508 = .ok (.ireturn, 1) := by decide +kernel
theorem dL_follows_0 : decode cL_follows 0 = .ok (.aload_n 0, 1) := by decide +kernel
theorem dL_follows_1 : decode cL_follows 1 = .ok (.invokestatic 126, 3) := by decide +kernel
theorem dL_follows_4 : decode cL_follows 4 = .ok (.lstore_n 2, 1) := by decide +kernel
theorem dL_follows_5 : decode cL_follows 5 = .ok (.aload_n 0, 1) := by decide +kernel
theorem dL_follows_6 : decode cL_follows 6 = .ok (.invokestatic 119, 3) := by decide +kernel
theorem dL_follows_9 : decode cL_follows 9 = .ok (.istore 4, 2) := by decide +kernel
theorem dL_follows_11 : decode cL_follows 11 = .ok (.iconst 1, 1) := by decide +kernel
theorem dL_follows_12 : decode cL_follows 12 = .ok (.iload_n 1, 1) := by decide +kernel
theorem dL_follows_13 : decode cL_follows 13 = .ok (.bipush 50, 2) := by decide +kernel
theorem dL_follows_15 : decode cL_follows 15 = .ok (.irem, 1) := by decide +kernel
theorem dL_follows_16 : decode cL_follows 16 = .ok (.iadd, 1) := by decide +kernel
theorem dL_follows_17 : decode cL_follows 17 = .ok (.istore 5, 2) := by decide +kernel
theorem dL_follows_19 : decode cL_follows 19 = .ok (.iload_n 1, 1) := by decide +kernel
theorem dL_follows_20 : decode cL_follows 20 = .ok (.bipush 50, 2) := by decide +kernel
theorem dL_follows_22 : decode cL_follows 22 = .ok (.idiv, 1) := by decide +kernel
theorem dL_follows_23 : decode cL_follows 23 = .ok (.iload 4, 2) := by decide +kernel
theorem dL_follows_25 : decode cL_follows 25 = .ok (.irem, 1) := by decide +kernel
theorem dL_follows_26 : decode cL_follows 26 = .ok (.istore 6, 2) := by decide +kernel
theorem dL_follows_28 : decode cL_follows 28 = .ok (.aload_n 0, 1) := by decide +kernel
theorem dL_follows_29 : decode cL_follows 29 = .ok (.bipush 6, 2) := by decide +kernel
theorem dL_follows_31 : decode cL_follows 31 = .ok (.invokestatic 104, 3) := by decide +kernel
theorem dL_follows_34 : decode cL_follows 34 = .ok (.lstore 7, 2) := by decide +kernel
theorem dL_follows_36 : decode cL_follows 36 = .ok (.aload_n 0, 1) := by decide +kernel
theorem dL_follows_37 : decode cL_follows 37 = .ok (.iconst 1, 1) := by decide +kernel
theorem dL_follows_38 : decode cL_follows 38 = .ok (.invokestatic 182, 3) := by decide +kernel
theorem dL_follows_41 : decode cL_follows 41 = .ok (.lload 7, 2) := by decide +kernel
theorem dL_follows_43 : decode cL_follows 43 = .ok (.lcmp, 1) := by decide +kernel
theorem dL_follows_44 : decode cL_follows 44 = .ok (.ifCond .ne 7, 3) := by decide +kernel
theorem dL_follows_47 : decode cL_follows 47 = .ok (.iconst 1, 1) := by decide +kernel
theorem dL_follows_48 : decode cL_follows 48 = .ok (.goto 4, 3) := by decide +kernel
theorem dL_follows_51 : decode cL_follows 51 = .ok (.iconst 0, 1) := by decide +kernel
theorem dL_follows_52 : decode cL_follows 52 = .ok (.istore 9, 2) := by decide +kernel
theorem dL_follows_54 : decode cL_follows 54 = .ok (.bipush 10, 2) := by decide +kernel
theorem dL_follows_56 : decode cL_follows 56 = .ok (.newarray .long, 2) := by decide +kernel
theorem dL_follows_58 : decode cL_follows 58 = .ok (.astore 10, 2) := by decide +kernel
theorem dL_follows_60 : decode cL_follows 60 = .ok (.bipush 10, 2) := by decide +kernel
theorem dL_follows_62 : decode cL_follows 62 = .ok (.newarray .long, 2) := by decide +kernel
theorem dL_follows_64 : decode cL_follows 64 = .ok (.astore 11, 2) := by decide +kernel
theorem dL_follows_66 : decode cL_follows 66 = .ok (.iconst 0, 1) := by decide +kernel
theorem dL_follows_67 : decode cL_follows 67 = .ok (.istore 12, 2) := by decide +kernel
theorem dL_follows_69 : decode cL_follows 69 = .ok (.iload 12, 2) := by decide +kernel
theorem dL_follows_71 : decode cL_follows 71 = .ok (.bipush 10, 2) := by decide +kernel
theorem dL_follows_73 : decode cL_follows 73 = .ok (.if_icmp .ge 33, 3) := by decide +kernel
theorem dL_follows_76 : decode cL_follows 76 = .ok (.aload 10, 2) := by decide +kernel
theorem dL_follows_78 : decode cL_follows 78 = .ok (.iload 12, 2) := by decide +kernel
theorem dL_follows_80 : decode cL_follows 80 = .ok (.aload_n 0, 1) := by decide +kernel
theorem dL_follows_81 : decode cL_follows 81 = .ok (.iload 12, 2) := by decide +kernel
theorem dL_follows_83 : decode cL_follows 83 = .ok (.invokestatic 115, 3) := by decide +kernel
theorem dL_follows_86 : decode cL_follows 86 = .ok (.lastore, 1) := by decide +kernel
theorem dL_follows_87 : decode cL_follows 87 = .ok (.aload 11, 2) := by decide +kernel
theorem dL_follows_89 : decode cL_follows 89 = .ok (.iload 12, 2) := by decide +kernel
theorem dL_follows_91 : decode cL_follows 91 = .ok (.aload_n 0, 1) := by decide +kernel
theorem dL_follows_92 : decode cL_follows 92 = .ok (.iload 5, 2) := by decide +kernel
theorem dL_follows_94 : decode cL_follows 94 = .ok (.iload 12, 2) := by decide +kernel
theorem dL_follows_96 : decode cL_follows 96 = .ok (.invokestatic 146, 3) := by decide +kernel
theorem dL_follows_99 : decode cL_follows 99 = .ok (.lastore, 1) := by decide +kernel
theorem dL_follows_100 : decode cL_follows 100 = .ok (.iinc 12 1, 3) := by decide +kernel
theorem dL_follows_103 : decode cL_follows 103 = .ok (.goto (-34), 3) := by decide +kernel
theorem dL_follows_106 : decode cL_follows 106 = .ok (.aload_n 0, 1) := by decide +kernel
theorem dL_follows_107 : decode cL_follows 107 = .ok (.bipush 8, 2) := by decide +kernel
theorem dL_follows_109 : decode cL_follows 109 = .ok (.invokestatic 104, 3) := by decide +kernel
theorem dL_follows_112 : decode cL_follows 112 = .ok (.lstore 12, 2) := by decide +kernel
theorem dL_follows_114 : decode cL_follows 114 = .ok (.aload_n 0, 1) := by decide +kernel
theorem dL_follows_115 : decode cL_follows 115 = .ok (.bipush 9, 2) := by decide +kernel
theorem dL_follows_117 : decode cL_follows 117 = .ok (.invokestatic 104, 3) := by decide +kernel
theorem dL_follows_120 : decode cL_follows 120 = .ok (.lstore 14, 2) := by decide +kernel
theorem dL_follows_122 : decode cL_follows 122 = .ok (.aload_n 0, 1) := by decide +kernel
theorem dL_follows_123 : decode cL_follows 123 = .ok (.iload 6, 2) := by decide +kernel
theorem dL_follows_125 : decode cL_follows 125 = .ok (.iload 5, 2) := by decide +kernel
theorem dL_follows_127 : decode cL_follows 127 = .ok (.iconst 5, 1) := by decide +kernel
theorem dL_follows_128 : decode cL_follows 128 = .ok (.invokestatic 143, 3) := by decide +kernel
theorem dL_follows_131 : decode cL_follows 131 = .ok (.lstore 16, 2) := by decide +kernel
theorem dL_follows_133 : decode cL_follows 133 = .ok (.aload_n 0, 1) := by decide +kernel
theorem dL_follows_134 : decode cL_follows 134 = .ok (.iload 6, 2) := by decide +kernel
theorem dL_follows_136 : decode cL_follows 136 = .ok (.iload 5, 2) := by decide +kernel
theorem dL_follows_138 : decode cL_follows 138 = .ok (.iconst 1, 1) := by decide +kernel
theorem dL_follows_139 : decode cL_follows 139 = .ok (.invokestatic 143, 3) := by decide +kernel
theorem dL_follows_142 : decode cL_follows 142 = .ok (.lstore 18, 2) := by decide +kernel
theorem dL_follows_144 : decode cL_follows 144 = .ok (.lload 16, 2) := by decide +kernel
theorem dL_follows_146 : decode cL_follows 146 = .ok (.lconst 0, 1) := by decide +kernel
theorem dL_follows_147 : decode cL_follows 147 = .ok (.lcmp, 1) := by decide +kernel
theorem dL_follows_148 : decode cL_follows 148 = .ok (.ifCond .ne 7, 3) := by decide +kernel
theorem dL_follows_151 : decode cL_follows 151 = .ok (.lconst 0, 1) := by decide +kernel
theorem dL_follows_152 : decode cL_follows 152 = .ok (.goto 12, 3) := by decide +kernel
theorem dL_follows_155 : decode cL_follows 155 = .ok (.aload_n 0, 1) := by decide +kernel
theorem dL_follows_156 : decode cL_follows 156 = .ok (.iload 6, 2) := by decide +kernel
theorem dL_follows_158 : decode cL_follows 158 = .ok (.lload 16, 2) := by decide +kernel
theorem dL_follows_160 : decode cL_follows 160 = .ok (.l2i, 1) := by decide +kernel
theorem dL_follows_161 : decode cL_follows 161 = .ok (.invokestatic 150, 3) := by decide +kernel
theorem dL_follows_164 : decode cL_follows 164 = .ok (.lstore 20, 2) := by decide +kernel
theorem dL_follows_166 : decode cL_follows 166 = .ok (.iload 9, 2) := by decide +kernel
theorem dL_follows_168 : decode cL_follows 168 = .ok (.ifCond .eq 75, 3) := by decide +kernel
theorem dL_follows_171 : decode cL_follows 171 = .ok (.aload_n 0, 1) := by decide +kernel
theorem dL_follows_172 : decode cL_follows 172 = .ok (.iload 5, 2) := by decide +kernel
theorem dL_follows_174 : decode cL_follows 174 = .ok (.invokestatic 168, 3) := by decide +kernel
theorem dL_follows_177 : decode cL_follows 177 = .ok (.aload 11, 2) := by decide +kernel
theorem dL_follows_179 : decode cL_follows 179 = .ok (.iconst 1, 1) := by decide +kernel
theorem dL_follows_180 : decode cL_follows 180 = .ok (.laload, 1) := by decide +kernel
theorem dL_follows_181 : decode cL_follows 181 = .ok (.lcmp, 1) := by decide +kernel
theorem dL_follows_182 : decode cL_follows 182 = .ok (.ifCond .ne 61, 3) := by decide +kernel
theorem dL_follows_185 : decode cL_follows 185 = .ok (.aload_n 0, 1) := by decide +kernel
theorem dL_follows_186 : decode cL_follows 186 = .ok (.bipush 6, 2) := by decide +kernel
theorem dL_follows_188 : decode cL_follows 188 = .ok (.invokestatic 104, 3) := by decide +kernel
theorem dL_follows_191 : decode cL_follows 191 = .ok (.lload 7, 2) := by decide +kernel
theorem dL_follows_193 : decode cL_follows 193 = .ok (.iload 5, 2) := by decide +kernel
theorem dL_follows_195 : decode cL_follows 195 = .ok (.i2l, 1) := by decide +kernel
theorem dL_follows_196 : decode cL_follows 196 = .ok (.ladd, 1) := by decide +kernel
theorem dL_follows_197 : decode cL_follows 197 = .ok (.lcmp, 1) := by decide +kernel
theorem dL_follows_198 : decode cL_follows 198 = .ok (.ifCond .ne 45, 3) := by decide +kernel
theorem dL_follows_201 : decode cL_follows 201 = .ok (.aload_n 0, 1) := by decide +kernel
theorem dL_follows_202 : decode cL_follows 202 = .ok (.iload 6, 2) := by decide +kernel
theorem dL_follows_204 : decode cL_follows 204 = .ok (.iconst 5, 1) := by decide +kernel
theorem dL_follows_205 : decode cL_follows 205 = .ok (.invokestatic 123, 3) := by decide +kernel
theorem dL_follows_208 : decode cL_follows 208 = .ok (.lload 16, 2) := by decide +kernel
theorem dL_follows_210 : decode cL_follows 210 = .ok (.lcmp, 1) := by decide +kernel
theorem dL_follows_211 : decode cL_follows 211 = .ok (.ifCond .ne 32, 3) := by decide +kernel
theorem dL_follows_214 : decode cL_follows 214 = .ok (.aload_n 0, 1) := by decide +kernel
theorem dL_follows_215 : decode cL_follows 215 = .ok (.iload 6, 2) := by decide +kernel
theorem dL_follows_217 : decode cL_follows 217 = .ok (.iconst 1, 1) := by decide +kernel
theorem dL_follows_218 : decode cL_follows 218 = .ok (.invokestatic 123, 3) := by decide +kernel
theorem dL_follows_221 : decode cL_follows 221 = .ok (.lload 18, 2) := by decide +kernel
theorem dL_follows_223 : decode cL_follows 223 = .ok (.lcmp, 1) := by decide +kernel
theorem dL_follows_224 : decode cL_follows 224 = .ok (.ifCond .ne 19, 3) := by decide +kernel
theorem dL_follows_227 : decode cL_follows 227 = .ok (.lload 20, 2) := by decide +kernel
theorem dL_follows_229 : decode cL_follows 229 = .ok (.lconst 0, 1) := by decide +kernel
theorem dL_follows_230 : decode cL_follows 230 = .ok (.iload 5, 2) := by decide +kernel
theorem dL_follows_232 : decode cL_follows 232 = .ok (.i2l, 1) := by decide +kernel
theorem dL_follows_233 : decode cL_follows 233 = .ok (.invokestatic 190, 3) := by decide +kernel
theorem dL_follows_236 : decode cL_follows 236 = .ok (.ifCond .eq 7, 3) := by decide +kernel
theorem dL_follows_239 : decode cL_follows 239 = .ok (.iconst 1, 1) := by decide +kernel
theorem dL_follows_240 : decode cL_follows 240 = .ok (.goto 4, 3) := by decide +kernel
theorem dL_follows_243 : decode cL_follows 243 = .ok (.iconst 0, 1) := by decide +kernel
theorem dL_follows_244 : decode cL_follows 244 = .ok (.istore 9, 2) := by decide +kernel
theorem dL_follows_246 : decode cL_follows 246 = .ok (.iconst 0, 1) := by decide +kernel
theorem dL_follows_247 : decode cL_follows 247 = .ok (.istore 22, 2) := by decide +kernel
theorem dL_follows_249 : decode cL_follows 249 = .ok (.iload 22, 2) := by decide +kernel
theorem dL_follows_251 : decode cL_follows 251 = .ok (.bipush 10, 2) := by decide +kernel
theorem dL_follows_253 : decode cL_follows 253 = .ok (.if_icmp .ge 52, 3) := by decide +kernel
theorem dL_follows_256 : decode cL_follows 256 = .ok (.iload 9, 2) := by decide +kernel
theorem dL_follows_258 : decode cL_follows 258 = .ok (.ifCond .eq 47, 3) := by decide +kernel
theorem dL_follows_261 : decode cL_follows 261 = .ok (.aload_n 0, 1) := by decide +kernel
theorem dL_follows_262 : decode cL_follows 262 = .ok (.iload 22, 2) := by decide +kernel
theorem dL_follows_264 : decode cL_follows 264 = .ok (.invokestatic 115, 3) := by decide +kernel
theorem dL_follows_267 : decode cL_follows 267 = .ok (.aload 10, 2) := by decide +kernel
theorem dL_follows_269 : decode cL_follows 269 = .ok (.iload 22, 2) := by decide +kernel
theorem dL_follows_271 : decode cL_follows 271 = .ok (.laload, 1) := by decide +kernel
theorem dL_follows_272 : decode cL_follows 272 = .ok (.aload 11, 2) := by decide +kernel
theorem dL_follows_274 : decode cL_follows 274 = .ok (.iload 22, 2) := by decide +kernel
theorem dL_follows_276 : decode cL_follows 276 = .ok (.laload, 1) := by decide +kernel
theorem dL_follows_277 : decode cL_follows 277 = .ok (.ladd, 1) := by decide +kernel
theorem dL_follows_278 : decode cL_follows 278 = .ok (.lcmp, 1) := by decide +kernel
theorem dL_follows_279 : decode cL_follows 279 = .ok (.ifCond .ne 17, 3) := by decide +kernel
theorem dL_follows_282 : decode cL_follows 282 = .ok (.aload 11, 2) := by decide +kernel
theorem dL_follows_284 : decode cL_follows 284 = .ok (.iload 22, 2) := by decide +kernel
theorem dL_follows_286 : decode cL_follows 286 = .ok (.laload, 1) := by decide +kernel
theorem dL_follows_287 : decode cL_follows 287 = .ok (.lconst 0, 1) := by decide +kernel
theorem dL_follows_288 : decode cL_follows 288 = .ok (.lcmp, 1) := by decide +kernel
theorem dL_follows_289 : decode cL_follows 289 = .ok (.ifCond .lt 7, 3) := by decide +kernel
theorem dL_follows_292 : decode cL_follows 292 = .ok (.iconst 1, 1) := by decide +kernel
theorem dL_follows_293 : decode cL_follows 293 = .ok (.goto 4, 3) := by decide +kernel
theorem dL_follows_296 : decode cL_follows 296 = .ok (.iconst 0, 1) := by decide +kernel
theorem dL_follows_297 : decode cL_follows 297 = .ok (.istore 9, 2) := by decide +kernel
theorem dL_follows_299 : decode cL_follows 299 = .ok (.iinc 22 1, 3) := by decide +kernel
theorem dL_follows_302 : decode cL_follows 302 = .ok (.goto (-53), 3) := by decide +kernel
theorem dL_follows_305 : decode cL_follows 305 = .ok (.iload 9, 2) := by decide +kernel
theorem dL_follows_307 : decode cL_follows 307 = .ok (.ifCond .eq 89, 3) := by decide +kernel
theorem dL_follows_310 : decode cL_follows 310 = .ok (.aload_n 0, 1) := by decide +kernel
theorem dL_follows_311 : decode cL_follows 311 = .ok (.bipush 8, 2) := by decide +kernel
theorem dL_follows_313 : decode cL_follows 313 = .ok (.invokestatic 104, 3) := by decide +kernel
theorem dL_follows_316 : decode cL_follows 316 = .ok (.lload 12, 2) := by decide +kernel
theorem dL_follows_318 : decode cL_follows 318 = .ok (.aload 11, 2) := by decide +kernel
theorem dL_follows_320 : decode cL_follows 320 = .ok (.iconst 5, 1) := by decide +kernel
theorem dL_follows_321 : decode cL_follows 321 = .ok (.laload, 1) := by decide +kernel
theorem dL_follows_322 : decode cL_follows 322 = .ok (.ladd, 1) := by decide +kernel
theorem dL_follows_323 : decode cL_follows 323 = .ok (.aload 11, 2) := by decide +kernel
theorem dL_follows_325 : decode cL_follows 325 = .ok (.bipush 7, 2) := by decide +kernel
theorem dL_follows_327 : decode cL_follows 327 = .ok (.laload, 1) := by decide +kernel
theorem dL_follows_328 : decode cL_follows 328 = .ok (.lsub, 1) := by decide +kernel
theorem dL_follows_329 : decode cL_follows 329 = .ok (.aload 11, 2) := by decide +kernel
theorem dL_follows_331 : decode cL_follows 331 = .ok (.iconst 1, 1) := by decide +kernel
theorem dL_follows_332 : decode cL_follows 332 = .ok (.laload, 1) := by decide +kernel
theorem dL_follows_333 : decode cL_follows 333 = .ok (.lsub, 1) := by decide +kernel
theorem dL_follows_334 : decode cL_follows 334 = .ok (.lcmp, 1) := by decide +kernel
theorem dL_follows_335 : decode cL_follows 335 = .ok (.ifCond .ne 61, 3) := by decide +kernel
theorem dL_follows_338 : decode cL_follows 338 = .ok (.aload_n 0, 1) := by decide +kernel
theorem dL_follows_339 : decode cL_follows 339 = .ok (.bipush 9, 2) := by decide +kernel
theorem dL_follows_341 : decode cL_follows 341 = .ok (.invokestatic 104, 3) := by decide +kernel
theorem dL_follows_344 : decode cL_follows 344 = .ok (.lload 14, 2) := by decide +kernel
theorem dL_follows_346 : decode cL_follows 346 = .ok (.aload 11, 2) := by decide +kernel
theorem dL_follows_348 : decode cL_follows 348 = .ok (.bipush 6, 2) := by decide +kernel
theorem dL_follows_350 : decode cL_follows 350 = .ok (.laload, 1) := by decide +kernel
theorem dL_follows_351 : decode cL_follows 351 = .ok (.ladd, 1) := by decide +kernel
theorem dL_follows_352 : decode cL_follows 352 = .ok (.aload 11, 2) := by decide +kernel
theorem dL_follows_354 : decode cL_follows 354 = .ok (.bipush 8, 2) := by decide +kernel
theorem dL_follows_356 : decode cL_follows 356 = .ok (.laload, 1) := by decide +kernel
theorem dL_follows_357 : decode cL_follows 357 = .ok (.lsub, 1) := by decide +kernel
theorem dL_follows_358 : decode cL_follows 358 = .ok (.lcmp, 1) := by decide +kernel
theorem dL_follows_359 : decode cL_follows 359 = .ok (.ifCond .ne 37, 3) := by decide +kernel
theorem dL_follows_362 : decode cL_follows 362 = .ok (.aload 11, 2) := by decide +kernel
theorem dL_follows_364 : decode cL_follows 364 = .ok (.bipush 9, 2) := by decide +kernel
theorem dL_follows_366 : decode cL_follows 366 = .ok (.laload, 1) := by decide +kernel
theorem dL_follows_367 : decode cL_follows 367 = .ok (.iload 5, 2) := by decide +kernel
theorem dL_follows_369 : decode cL_follows 369 = .ok (.i2l, 1) := by decide +kernel
theorem dL_follows_370 : decode cL_follows 370 = .ok (.lcmp, 1) := by decide +kernel
theorem dL_follows_371 : decode cL_follows 371 = .ok (.ifCond .gt 25, 3) := by decide +kernel
theorem dL_follows_374 : decode cL_follows 374 = .ok (.aload_n 0, 1) := by decide +kernel
theorem dL_follows_375 : decode cL_follows 375 = .ok (.invokestatic 202, 3) := by decide +kernel
theorem dL_follows_378 : decode cL_follows 378 = .ok (.lconst 0, 1) := by decide +kernel
theorem dL_follows_379 : decode cL_follows 379 = .ok (.lcmp, 1) := by decide +kernel
theorem dL_follows_380 : decode cL_follows 380 = .ok (.ifCond .lt 16, 3) := by decide +kernel
theorem dL_follows_383 : decode cL_follows 383 = .ok (.aload_n 0, 1) := by decide +kernel
theorem dL_follows_384 : decode cL_follows 384 = .ok (.invokestatic 126, 3) := by decide +kernel
theorem dL_follows_387 : decode cL_follows 387 = .ok (.lload_n 2, 1) := by decide +kernel
theorem dL_follows_388 : decode cL_follows 388 = .ok (.lcmp, 1) := by decide +kernel
theorem dL_follows_389 : decode cL_follows 389 = .ok (.ifCond .ne 7, 3) := by decide +kernel
theorem dL_follows_392 : decode cL_follows 392 = .ok (.iconst 1, 1) := by decide +kernel
theorem dL_follows_393 : decode cL_follows 393 = .ok (.goto 4, 3) := by decide +kernel
theorem dL_follows_396 : decode cL_follows 396 = .ok (.iconst 0, 1) := by decide +kernel
theorem dL_follows_397 : decode cL_follows 397 = .ok (.istore 9, 2) := by decide +kernel
theorem dL_follows_399 : decode cL_follows 399 = .ok (.aload_n 0, 1) := by decide +kernel
theorem dL_follows_400 : decode cL_follows 400 = .ok (.iload 6, 2) := by decide +kernel
theorem dL_follows_402 : decode cL_follows 402 = .ok (.bipush 7, 2) := by decide +kernel
theorem dL_follows_404 : decode cL_follows 404 = .ok (.invokestatic 123, 3) := by decide +kernel
theorem dL_follows_407 : decode cL_follows 407 = .ok (.lconst 0, 1) := by decide +kernel
theorem dL_follows_408 : decode cL_follows 408 = .ok (.lcmp, 1) := by decide +kernel
theorem dL_follows_409 : decode cL_follows 409 = .ok (.ifCond .ne 7, 3) := by decide +kernel
theorem dL_follows_412 : decode cL_follows 412 = .ok (.iconst 1, 1) := by decide +kernel
theorem dL_follows_413 : decode cL_follows 413 = .ok (.goto 4, 3) := by decide +kernel
theorem dL_follows_416 : decode cL_follows 416 = .ok (.iconst 0, 1) := by decide +kernel
theorem dL_follows_417 : decode cL_follows 417 = .ok (.istore 22, 2) := by decide +kernel
theorem dL_follows_419 : decode cL_follows 419 = .ok (.aload_n 0, 1) := by decide +kernel
theorem dL_follows_420 : decode cL_follows 420 = .ok (.bipush 7, 2) := by decide +kernel
theorem dL_follows_422 : decode cL_follows 422 = .ok (.invokestatic 104, 3) := by decide +kernel
theorem dL_follows_425 : decode cL_follows 425 = .ok (.lstore 23, 2) := by decide +kernel
theorem dL_follows_427 : decode cL_follows 427 = .ok (.aload_n 0, 1) := by decide +kernel
theorem dL_follows_428 : decode cL_follows 428 = .ok (.iload 6, 2) := by decide +kernel
theorem dL_follows_430 : decode cL_follows 430 = .ok (.iconst 5, 1) := by decide +kernel
theorem dL_follows_431 : decode cL_follows 431 = .ok (.iload 5, 2) := by decide +kernel
theorem dL_follows_433 : decode cL_follows 433 = .ok (.invokestatic 148, 3) := by decide +kernel
theorem dL_follows_436 : decode cL_follows 436 = .ok (.lstore 25, 2) := by decide +kernel
theorem dL_follows_438 : decode cL_follows 438 = .ok (.aload_n 0, 1) := by decide +kernel
theorem dL_follows_439 : decode cL_follows 439 = .ok (.iload 5, 2) := by decide +kernel
theorem dL_follows_441 : decode cL_follows 441 = .ok (.iconst 1, 1) := by decide +kernel
theorem dL_follows_442 : decode cL_follows 442 = .ok (.invokestatic 146, 3) := by decide +kernel
theorem dL_follows_445 : decode cL_follows 445 = .ok (.lstore 27, 2) := by decide +kernel
theorem dL_follows_447 : decode cL_follows 447 = .ok (.iload 9, 2) := by decide +kernel
theorem dL_follows_449 : decode cL_follows 449 = .ok (.ifCond .eq 109, 3) := by decide +kernel
theorem dL_follows_452 : decode cL_follows 452 = .ok (.aload_n 0, 1) := by decide +kernel
theorem dL_follows_453 : decode cL_follows 453 = .ok (.iload 6, 2) := by decide +kernel
theorem dL_follows_455 : decode cL_follows 455 = .ok (.iconst 5, 1) := by decide +kernel
theorem dL_follows_456 : decode cL_follows 456 = .ok (.invokestatic 176, 3) := by decide +kernel
theorem dL_follows_459 : decode cL_follows 459 = .ok (.iload 22, 2) := by decide +kernel
theorem dL_follows_461 : decode cL_follows 461 = .ok (.ifCond .eq 10, 3) := by decide +kernel
theorem dL_follows_464 : decode cL_follows 464 = .ok (.lload 23, 2) := by decide +kernel
theorem dL_follows_466 : decode cL_follows 466 = .ok (.lconst 1, 1) := by decide +kernel
theorem dL_follows_467 : decode cL_follows 467 = .ok (.ladd, 1) := by decide +kernel
theorem dL_follows_468 : decode cL_follows 468 = .ok (.goto 6, 3) := by decide +kernel
theorem dL_follows_471 : decode cL_follows 471 = .ok (.ldc2_w 21, 3) := by decide +kernel
theorem dL_follows_474 : decode cL_follows 474 = .ok (.lcmp, 1) := by decide +kernel
theorem dL_follows_475 : decode cL_follows 475 = .ok (.ifCond .ne 83, 3) := by decide +kernel
theorem dL_follows_478 : decode cL_follows 478 = .ok (.iload 22, 2) := by decide +kernel
theorem dL_follows_480 : decode cL_follows 480 = .ok (.ifCond .eq 65, 3) := by decide +kernel
theorem dL_follows_483 : decode cL_follows 483 = .ok (.aload_n 0, 1) := by decide +kernel
theorem dL_follows_484 : decode cL_follows 484 = .ok (.iload 5, 2) := by decide +kernel
theorem dL_follows_486 : decode cL_follows 486 = .ok (.iconst 1, 1) := by decide +kernel
theorem dL_follows_487 : decode cL_follows 487 = .ok (.invokestatic 146, 3) := by decide +kernel
theorem dL_follows_490 : decode cL_follows 490 = .ok (.lload 27, 2) := by decide +kernel
theorem dL_follows_492 : decode cL_follows 492 = .ok (.lsub, 1) := by decide +kernel
theorem dL_follows_493 : decode cL_follows 493 = .ok (.lload 25, 2) := by decide +kernel
theorem dL_follows_495 : decode cL_follows 495 = .ok (.lcmp, 1) := by decide +kernel
theorem dL_follows_496 : decode cL_follows 496 = .ok (.ifCond .ne 62, 3) := by decide +kernel
theorem dL_follows_499 : decode cL_follows 499 = .ok (.aload_n 0, 1) := by decide +kernel
theorem dL_follows_500 : decode cL_follows 500 = .ok (.iload 6, 2) := by decide +kernel
theorem dL_follows_502 : decode cL_follows 502 = .ok (.bipush 7, 2) := by decide +kernel
theorem dL_follows_504 : decode cL_follows 504 = .ok (.invokestatic 123, 3) := by decide +kernel
theorem dL_follows_507 : decode cL_follows 507 = .ok (.ldc2_w 204, 3) := by decide +kernel
theorem dL_follows_510 : decode cL_follows 510 = .ok (.lcmp, 1) := by decide +kernel
theorem dL_follows_511 : decode cL_follows 511 = .ok (.ifCond .ne 47, 3) := by decide +kernel
theorem dL_follows_514 : decode cL_follows 514 = .ok (.aload_n 0, 1) := by decide +kernel
theorem dL_follows_515 : decode cL_follows 515 = .ok (.iload 6, 2) := by decide +kernel
theorem dL_follows_517 : decode cL_follows 517 = .ok (.invokestatic 178, 3) := by decide +kernel
theorem dL_follows_520 : decode cL_follows 520 = .ok (.ldc2_w 204, 3) := by decide +kernel
theorem dL_follows_523 : decode cL_follows 523 = .ok (.lcmp, 1) := by decide +kernel
theorem dL_follows_524 : decode cL_follows 524 = .ok (.ifCond .ne 34, 3) := by decide +kernel
theorem dL_follows_527 : decode cL_follows 527 = .ok (.aload_n 0, 1) := by decide +kernel
theorem dL_follows_528 : decode cL_follows 528 = .ok (.invokestatic 202, 3) := by decide +kernel
theorem dL_follows_531 : decode cL_follows 531 = .ok (.lconst 0, 1) := by decide +kernel
theorem dL_follows_532 : decode cL_follows 532 = .ok (.lcmp, 1) := by decide +kernel
theorem dL_follows_533 : decode cL_follows 533 = .ok (.ifCond .lt 25, 3) := by decide +kernel
theorem dL_follows_536 : decode cL_follows 536 = .ok (.aload_n 0, 1) := by decide +kernel
theorem dL_follows_537 : decode cL_follows 537 = .ok (.invokestatic 202, 3) := by decide +kernel
theorem dL_follows_540 : decode cL_follows 540 = .ok (.lconst 0, 1) := by decide +kernel
theorem dL_follows_541 : decode cL_follows 541 = .ok (.lcmp, 1) := by decide +kernel
theorem dL_follows_542 : decode cL_follows 542 = .ok (.ifCond .lt 16, 3) := by decide +kernel
theorem dL_follows_545 : decode cL_follows 545 = .ok (.aload_n 0, 1) := by decide +kernel
theorem dL_follows_546 : decode cL_follows 546 = .ok (.invokestatic 126, 3) := by decide +kernel
theorem dL_follows_549 : decode cL_follows 549 = .ok (.lload_n 2, 1) := by decide +kernel
theorem dL_follows_550 : decode cL_follows 550 = .ok (.lcmp, 1) := by decide +kernel
theorem dL_follows_551 : decode cL_follows 551 = .ok (.ifCond .ne 7, 3) := by decide +kernel
theorem dL_follows_554 : decode cL_follows 554 = .ok (.iconst 1, 1) := by decide +kernel
theorem dL_follows_555 : decode cL_follows 555 = .ok (.goto 4, 3) := by decide +kernel
theorem dL_follows_558 : decode cL_follows 558 = .ok (.iconst 0, 1) := by decide +kernel
theorem dL_follows_559 : decode cL_follows 559 = .ok (.istore 9, 2) := by decide +kernel
theorem dL_follows_561 : decode cL_follows 561 = .ok (.aload_n 0, 1) := by decide +kernel
theorem dL_follows_562 : decode cL_follows 562 = .ok (.iconst 1, 1) := by decide +kernel
theorem dL_follows_563 : decode cL_follows 563 = .ok (.iconst 0, 1) := by decide +kernel
theorem dL_follows_564 : decode cL_follows 564 = .ok (.invokestatic 152, 3) := by decide +kernel
theorem dL_follows_567 : decode cL_follows 567 = .ok (.lstore 29, 2) := by decide +kernel
theorem dL_follows_569 : decode cL_follows 569 = .ok (.aload_n 0, 1) := by decide +kernel
theorem dL_follows_570 : decode cL_follows 570 = .ok (.iconst 1, 1) := by decide +kernel
theorem dL_follows_571 : decode cL_follows 571 = .ok (.iconst 1, 1) := by decide +kernel
theorem dL_follows_572 : decode cL_follows 572 = .ok (.invokestatic 152, 3) := by decide +kernel
theorem dL_follows_575 : decode cL_follows 575 = .ok (.l2i, 1) := by decide +kernel
theorem dL_follows_576 : decode cL_follows 576 = .ok (.istore 31, 2) := by decide +kernel
theorem dL_follows_578 : decode cL_follows 578 = .ok (.iload 9, 2) := by decide +kernel
theorem dL_follows_580 : decode cL_follows 580 = .ok (.ifCond .eq 89, 3) := by decide +kernel
theorem dL_follows_583 : decode cL_follows 583 = .ok (.aload_n 0, 1) := by decide +kernel
theorem dL_follows_584 : decode cL_follows 584 = .ok (.iconst 5, 1) := by decide +kernel
theorem dL_follows_585 : decode cL_follows 585 = .ok (.iconst 1, 1) := by decide +kernel
theorem dL_follows_586 : decode cL_follows 586 = .ok (.invokestatic 146, 3) := by decide +kernel
theorem dL_follows_589 : decode cL_follows 589 = .ok (.lload 29, 2) := by decide +kernel
theorem dL_follows_591 : decode cL_follows 591 = .ok (.lcmp, 1) := by decide +kernel
theorem dL_follows_592 : decode cL_follows 592 = .ok (.ifCond .gt 77, 3) := by decide +kernel
theorem dL_follows_595 : decode cL_follows 595 = .ok (.iload 31, 2) := by decide +kernel
theorem dL_follows_597 : decode cL_follows 597 = .ok (.ifCond .lt 39, 3) := by decide +kernel
theorem dL_follows_600 : decode cL_follows 600 = .ok (.aload_n 0, 1) := by decide +kernel
theorem dL_follows_601 : decode cL_follows 601 = .ok (.iconst 5, 1) := by decide +kernel
theorem dL_follows_602 : decode cL_follows 602 = .ok (.iconst 1, 1) := by decide +kernel
theorem dL_follows_603 : decode cL_follows 603 = .ok (.invokestatic 146, 3) := by decide +kernel
theorem dL_follows_606 : decode cL_follows 606 = .ok (.lload 29, 2) := by decide +kernel
theorem dL_follows_608 : decode cL_follows 608 = .ok (.lcmp, 1) := by decide +kernel
theorem dL_follows_609 : decode cL_follows 609 = .ok (.ifCond .ge 60, 3) := by decide +kernel
theorem dL_follows_612 : decode cL_follows 612 = .ok (.aload_n 0, 1) := by decide +kernel
theorem dL_follows_613 : decode cL_follows 613 = .ok (.iconst 5, 1) := by decide +kernel
theorem dL_follows_614 : decode cL_follows 614 = .ok (.iconst 1, 1) := by decide +kernel
theorem dL_follows_615 : decode cL_follows 615 = .ok (.invokestatic 146, 3) := by decide +kernel
theorem dL_follows_618 : decode cL_follows 618 = .ok (.aload_n 0, 1) := by decide +kernel
theorem dL_follows_619 : decode cL_follows 619 = .ok (.iload 31, 2) := by decide +kernel
theorem dL_follows_621 : decode cL_follows 621 = .ok (.iconst 5, 1) := by decide +kernel
theorem dL_follows_622 : decode cL_follows 622 = .ok (.iconst 5, 1) := by decide +kernel
theorem dL_follows_623 : decode cL_follows 623 = .ok (.invokestatic 148, 3) := by decide +kernel
theorem dL_follows_626 : decode cL_follows 626 = .ok (.ladd, 1) := by decide +kernel
theorem dL_follows_627 : decode cL_follows 627 = .ok (.lload 29, 2) := by decide +kernel
theorem dL_follows_629 : decode cL_follows 629 = .ok (.lcmp, 1) := by decide +kernel
theorem dL_follows_630 : decode cL_follows 630 = .ok (.ifCond .ne 39, 3) := by decide +kernel
theorem dL_follows_633 : decode cL_follows 633 = .ok (.goto 15, 3) := by decide +kernel
theorem dL_follows_636 : decode cL_follows 636 = .ok (.aload_n 0, 1) := by decide +kernel
theorem dL_follows_637 : decode cL_follows 637 = .ok (.iconst 5, 1) := by decide +kernel
theorem dL_follows_638 : decode cL_follows 638 = .ok (.iconst 1, 1) := by decide +kernel
theorem dL_follows_639 : decode cL_follows 639 = .ok (.invokestatic 146, 3) := by decide +kernel
theorem dL_follows_642 : decode cL_follows 642 = .ok (.lload 29, 2) := by decide +kernel
theorem dL_follows_644 : decode cL_follows 644 = .ok (.lcmp, 1) := by decide +kernel
theorem dL_follows_645 : decode cL_follows 645 = .ok (.ifCond .ne 24, 3) := by decide +kernel
theorem dL_follows_648 : decode cL_follows 648 = .ok (.aload_n 0, 1) := by decide +kernel
theorem dL_follows_649 : decode cL_follows 649 = .ok (.iconst 2, 1) := by decide +kernel
theorem dL_follows_650 : decode cL_follows 650 = .ok (.iconst 0, 1) := by decide +kernel
theorem dL_follows_651 : decode cL_follows 651 = .ok (.invokestatic 152, 3) := by decide +kernel
theorem dL_follows_654 : decode cL_follows 654 = .ok (.aload_n 0, 1) := by decide +kernel
theorem dL_follows_655 : decode cL_follows 655 = .ok (.bipush 10, 2) := by decide +kernel
theorem dL_follows_657 : decode cL_follows 657 = .ok (.iconst 1, 1) := by decide +kernel
theorem dL_follows_658 : decode cL_follows 658 = .ok (.invokestatic 146, 3) := by decide +kernel
theorem dL_follows_661 : decode cL_follows 661 = .ok (.lcmp, 1) := by decide +kernel
theorem dL_follows_662 : decode cL_follows 662 = .ok (.ifCond .lt 7, 3) := by decide +kernel
theorem dL_follows_665 : decode cL_follows 665 = .ok (.iconst 1, 1) := by decide +kernel
theorem dL_follows_666 : decode cL_follows 666 = .ok (.goto 4, 3) := by decide +kernel
theorem dL_follows_669 : decode cL_follows 669 = .ok (.iconst 0, 1) := by decide +kernel
theorem dL_follows_670 : decode cL_follows 670 = .ok (.istore 9, 2) := by decide +kernel
theorem dL_follows_672 : decode cL_follows 672 = .ok (.iconst 0, 1) := by decide +kernel
theorem dL_follows_673 : decode cL_follows 673 = .ok (.istore 32, 2) := by decide +kernel
theorem dL_follows_675 : decode cL_follows 675 = .ok (.iload 32, 2) := by decide +kernel
theorem dL_follows_677 : decode cL_follows 677 = .ok (.iload 4, 2) := by decide +kernel
theorem dL_follows_679 : decode cL_follows 679 = .ok (.if_icmp .ge 55, 3) := by decide +kernel
theorem dL_follows_682 : decode cL_follows 682 = .ok (.iload 9, 2) := by decide +kernel
theorem dL_follows_684 : decode cL_follows 684 = .ok (.ifCond .eq 50, 3) := by decide +kernel
theorem dL_follows_687 : decode cL_follows 687 = .ok (.aload_n 0, 1) := by decide +kernel
theorem dL_follows_688 : decode cL_follows 688 = .ok (.iload 32, 2) := by decide +kernel
theorem dL_follows_690 : decode cL_follows 690 = .ok (.bipush 7, 2) := by decide +kernel
theorem dL_follows_692 : decode cL_follows 692 = .ok (.invokestatic 123, 3) := by decide +kernel
theorem dL_follows_695 : decode cL_follows 695 = .ok (.lconst 0, 1) := by decide +kernel
theorem dL_follows_696 : decode cL_follows 696 = .ok (.lcmp, 1) := by decide +kernel
theorem dL_follows_697 : decode cL_follows 697 = .ok (.ifCond .gt 24, 3) := by decide +kernel
theorem dL_follows_700 : decode cL_follows 700 = .ok (.aload_n 0, 1) := by decide +kernel
theorem dL_follows_701 : decode cL_follows 701 = .ok (.iconst 5, 1) := by decide +kernel
theorem dL_follows_702 : decode cL_follows 702 = .ok (.iconst 1, 1) := by decide +kernel
theorem dL_follows_703 : decode cL_follows 703 = .ok (.invokestatic 146, 3) := by decide +kernel
theorem dL_follows_706 : decode cL_follows 706 = .ok (.aload_n 0, 1) := by decide +kernel
theorem dL_follows_707 : decode cL_follows 707 = .ok (.iload 32, 2) := by decide +kernel
theorem dL_follows_709 : decode cL_follows 709 = .ok (.iconst 5, 1) := by decide +kernel
theorem dL_follows_710 : decode cL_follows 710 = .ok (.iconst 5, 1) := by decide +kernel
theorem dL_follows_711 : decode cL_follows 711 = .ok (.invokestatic 148, 3) := by decide +kernel
theorem dL_follows_714 : decode cL_follows 714 = .ok (.ladd, 1) := by decide +kernel
theorem dL_follows_715 : decode cL_follows 715 = .ok (.lload 29, 2) := by decide +kernel
theorem dL_follows_717 : decode cL_follows 717 = .ok (.lcmp, 1) := by decide +kernel
theorem dL_follows_718 : decode cL_follows 718 = .ok (.ifCond .gt 7, 3) := by decide +kernel
theorem dL_follows_721 : decode cL_follows 721 = .ok (.iconst 1, 1) := by decide +kernel
theorem dL_follows_722 : decode cL_follows 722 = .ok (.goto 4, 3) := by decide +kernel
theorem dL_follows_725 : decode cL_follows 725 = .ok (.iconst 0, 1) := by decide +kernel
theorem dL_follows_726 : decode cL_follows 726 = .ok (.istore 9, 2) := by decide +kernel
theorem dL_follows_728 : decode cL_follows 728 = .ok (.iinc 32 1, 3) := by decide +kernel
theorem dL_follows_731 : decode cL_follows 731 = .ok (.goto (-56), 3) := by decide +kernel
theorem dL_follows_734 : decode cL_follows 734 = .ok (.iload_n 1, 1) := by decide +kernel
theorem dL_follows_735 : decode cL_follows 735 = .ok (.iconst 3, 1) := by decide +kernel
theorem dL_follows_736 : decode cL_follows 736 = .ok (.irem, 1) := by decide +kernel
theorem dL_follows_737 : decode cL_follows 737 = .ok (.ifCond .ne 131, 3) := by decide +kernel
theorem dL_follows_740 : decode cL_follows 740 = .ok (.iload 9, 2) := by decide +kernel
theorem dL_follows_742 : decode cL_follows 742 = .ok (.ifCond .eq 126, 3) := by decide +kernel
theorem dL_follows_745 : decode cL_follows 745 = .ok (.iload_n 1, 1) := by decide +kernel
theorem dL_follows_746 : decode cL_follows 746 = .ok (.bipush 7, 2) := by decide +kernel
theorem dL_follows_748 : decode cL_follows 748 = .ok (.idiv, 1) := by decide +kernel
theorem dL_follows_749 : decode cL_follows 749 = .ok (.sipush 900, 3) := by decide +kernel
theorem dL_follows_752 : decode cL_follows 752 = .ok (.irem, 1) := by decide +kernel
theorem dL_follows_753 : decode cL_follows 753 = .ok (.istore 32, 2) := by decide +kernel
theorem dL_follows_755 : decode cL_follows 755 = .ok (.aload_n 0, 1) := by decide +kernel
theorem dL_follows_756 : decode cL_follows 756 = .ok (.iload 32, 2) := by decide +kernel
theorem dL_follows_758 : decode cL_follows 758 = .ok (.iconst 3, 1) := by decide +kernel
theorem dL_follows_759 : decode cL_follows 759 = .ok (.invokestatic 157, 3) := by decide +kernel
theorem dL_follows_762 : decode cL_follows 762 = .ok (.lstore 33, 2) := by decide +kernel
theorem dL_follows_764 : decode cL_follows 764 = .ok (.aload_n 0, 1) := by decide +kernel
theorem dL_follows_765 : decode cL_follows 765 = .ok (.iconst 1, 1) := by decide +kernel
theorem dL_follows_766 : decode cL_follows 766 = .ok (.invokestatic 104, 3) := by decide +kernel
theorem dL_follows_769 : decode cL_follows 769 = .ok (.lstore 35, 2) := by decide +kernel
theorem dL_follows_771 : decode cL_follows 771 = .ok (.lload 33, 2) := by decide +kernel
theorem dL_follows_773 : decode cL_follows 773 = .ok (.ldc2_w 206, 3) := by decide +kernel
theorem dL_follows_776 : decode cL_follows 776 = .ok (.lcmp, 1) := by decide +kernel
theorem dL_follows_777 : decode cL_follows 777 = .ok (.ifCond .eq 84, 3) := by decide +kernel
theorem dL_follows_780 : decode cL_follows 780 = .ok (.aload_n 0, 1) := by decide +kernel
theorem dL_follows_781 : decode cL_follows 781 = .ok (.iconst 0, 1) := by decide +kernel
theorem dL_follows_782 : decode cL_follows 782 = .ok (.lload 33, 2) := by decide +kernel
theorem dL_follows_784 : decode cL_follows 784 = .ok (.l2i, 1) := by decide +kernel
theorem dL_follows_785 : decode cL_follows 785 = .ok (.invokestatic 170, 3) := by decide +kernel
theorem dL_follows_788 : decode cL_follows 788 = .ok (.lload 35, 2) := by decide +kernel
theorem dL_follows_790 : decode cL_follows 790 = .ok (.lcmp, 1) := by decide +kernel
theorem dL_follows_791 : decode cL_follows 791 = .ok (.ifCond .ne 74, 3) := by decide +kernel
theorem dL_follows_794 : decode cL_follows 794 = .ok (.aload_n 0, 1) := by decide +kernel
theorem dL_follows_795 : decode cL_follows 795 = .ok (.iconst 3, 1) := by decide +kernel
theorem dL_follows_796 : decode cL_follows 796 = .ok (.iconst 1, 1) := by decide +kernel
theorem dL_follows_797 : decode cL_follows 797 = .ok (.invokestatic 146, 3) := by decide +kernel
theorem dL_follows_800 : decode cL_follows 800 = .ok (.iload 32, 2) := by decide +kernel
theorem dL_follows_802 : decode cL_follows 802 = .ok (.i2l, 1) := by decide +kernel
theorem dL_follows_803 : decode cL_follows 803 = .ok (.lcmp, 1) := by decide +kernel
theorem dL_follows_804 : decode cL_follows 804 = .ok (.ifCond .lt 61, 3) := by decide +kernel
theorem dL_follows_807 : decode cL_follows 807 = .ok (.aload_n 0, 1) := by decide +kernel
theorem dL_follows_808 : decode cL_follows 808 = .ok (.invokestatic 202, 3) := by decide +kernel
theorem dL_follows_811 : decode cL_follows 811 = .ok (.lconst 0, 1) := by decide +kernel
theorem dL_follows_812 : decode cL_follows 812 = .ok (.lcmp, 1) := by decide +kernel
theorem dL_follows_813 : decode cL_follows 813 = .ok (.ifCond .lt 52, 3) := by decide +kernel
theorem dL_follows_816 : decode cL_follows 816 = .ok (.lload 33, 2) := by decide +kernel
theorem dL_follows_818 : decode cL_follows 818 = .ok (.lconst 0, 1) := by decide +kernel
theorem dL_follows_819 : decode cL_follows 819 = .ok (.lcmp, 1) := by decide +kernel
theorem dL_follows_820 : decode cL_follows 820 = .ok (.ifCond .eq 41, 3) := by decide +kernel
theorem dL_follows_823 : decode cL_follows 823 = .ok (.aload_n 0, 1) := by decide +kernel
theorem dL_follows_824 : decode cL_follows 824 = .ok (.iconst 0, 1) := by decide +kernel
theorem dL_follows_825 : decode cL_follows 825 = .ok (.lload 33, 2) := by decide +kernel
theorem dL_follows_827 : decode cL_follows 827 = .ok (.l2i, 1) := by decide +kernel
theorem dL_follows_828 : decode cL_follows 828 = .ok (.iconst 1, 1) := by decide +kernel
theorem dL_follows_829 : decode cL_follows 829 = .ok (.isub, 1) := by decide +kernel
theorem dL_follows_830 : decode cL_follows 830 = .ok (.invokestatic 170, 3) := by decide +kernel
theorem dL_follows_833 : decode cL_follows 833 = .ok (.lload 35, 2) := by decide +kernel
theorem dL_follows_835 : decode cL_follows 835 = .ok (.lcmp, 1) := by decide +kernel
theorem dL_follows_836 : decode cL_follows 836 = .ok (.ifCond .ne 29, 3) := by decide +kernel
theorem dL_follows_839 : decode cL_follows 839 = .ok (.aload_n 0, 1) := by decide +kernel
theorem dL_follows_840 : decode cL_follows 840 = .ok (.iconst 3, 1) := by decide +kernel
theorem dL_follows_841 : decode cL_follows 841 = .ok (.iconst 1, 1) := by decide +kernel
theorem dL_follows_842 : decode cL_follows 842 = .ok (.invokestatic 146, 3) := by decide +kernel
theorem dL_follows_845 : decode cL_follows 845 = .ok (.iload 32, 2) := by decide +kernel
theorem dL_follows_847 : decode cL_follows 847 = .ok (.i2l, 1) := by decide +kernel
theorem dL_follows_848 : decode cL_follows 848 = .ok (.lcmp, 1) := by decide +kernel
theorem dL_follows_849 : decode cL_follows 849 = .ok (.ifCond .ge 16, 3) := by decide +kernel
theorem dL_follows_852 : decode cL_follows 852 = .ok (.aload_n 0, 1) := by decide +kernel
theorem dL_follows_853 : decode cL_follows 853 = .ok (.invokestatic 202, 3) := by decide +kernel
theorem dL_follows_856 : decode cL_follows 856 = .ok (.lconst 0, 1) := by decide +kernel
theorem dL_follows_857 : decode cL_follows 857 = .ok (.lcmp, 1) := by decide +kernel
theorem dL_follows_858 : decode cL_follows 858 = .ok (.ifCond .lt 7, 3) := by decide +kernel
theorem dL_follows_861 : decode cL_follows 861 = .ok (.iconst 1, 1) := by decide +kernel
theorem dL_follows_862 : decode cL_follows 862 = .ok (.goto 4, 3) := by decide +kernel
theorem dL_follows_865 : decode cL_follows 865 = .ok (.iconst 0, 1) := by decide +kernel
theorem dL_follows_866 : decode cL_follows 866 = .ok (.istore 9, 2) := by decide +kernel
theorem dL_follows_868 : decode cL_follows 868 = .ok (.aload_n 0, 1) := by decide +kernel
theorem dL_follows_869 : decode cL_follows 869 = .ok (.invokevirtual 133, 3) := by decide +kernel
theorem dL_follows_872 : decode cL_follows 872 = .ok (.fstore 32, 2) := by decide +kernel
theorem dL_follows_874 : decode cL_follows 874 = .ok (.iload 9, 2) := by decide +kernel
theorem dL_follows_876 : decode cL_follows 876 = .ok (.ifCond .eq 46, 3) := by decide +kernel
theorem dL_follows_879 : decode cL_follows 879 = .ok (.aload_n 0, 1) := by decide +kernel
theorem dL_follows_880 : decode cL_follows 880 = .ok (.iconst 0, 1) := by decide +kernel
theorem dL_follows_881 : decode cL_follows 881 = .ok (.invokestatic 115, 3) := by decide +kernel
theorem dL_follows_884 : decode cL_follows 884 = .ok (.lconst 0, 1) := by decide +kernel
theorem dL_follows_885 : decode cL_follows 885 = .ok (.lcmp, 1) := by decide +kernel
theorem dL_follows_886 : decode cL_follows 886 = .ok (.ifCond .ne 13, 3) := by decide +kernel
theorem dL_follows_889 : decode cL_follows 889 = .ok (.fload 32, 2) := by decide +kernel
theorem dL_follows_891 : decode cL_follows 891 = .ok (.fconst 0, 1) := by decide +kernel
theorem dL_follows_892 : decode cL_follows 892 = .ok (.fcmp .l, 1) := by decide +kernel
theorem dL_follows_893 : decode cL_follows 893 = .ok (.ifCond .ne 29, 3) := by decide +kernel
theorem dL_follows_896 : decode cL_follows 896 = .ok (.goto 22, 3) := by decide +kernel
theorem dL_follows_899 : decode cL_follows 899 = .ok (.fload 32, 2) := by decide +kernel
theorem dL_follows_901 : decode cL_follows 901 = .ok (.aload_n 0, 1) := by decide +kernel
theorem dL_follows_902 : decode cL_follows 902 = .ok (.iconst 1, 1) := by decide +kernel
theorem dL_follows_903 : decode cL_follows 903 = .ok (.invokestatic 115, 3) := by decide +kernel
theorem dL_follows_906 : decode cL_follows 906 = .ok (.l2f, 1) := by decide +kernel
theorem dL_follows_907 : decode cL_follows 907 = .ok (.aload_n 0, 1) := by decide +kernel
theorem dL_follows_908 : decode cL_follows 908 = .ok (.iconst 0, 1) := by decide +kernel
theorem dL_follows_909 : decode cL_follows 909 = .ok (.invokestatic 115, 3) := by decide +kernel
theorem dL_follows_912 : decode cL_follows 912 = .ok (.l2f, 1) := by decide +kernel
theorem dL_follows_913 : decode cL_follows 913 = .ok (.fdiv, 1) := by decide +kernel
theorem dL_follows_914 : decode cL_follows 914 = .ok (.fcmp .l, 1) := by decide +kernel
theorem dL_follows_915 : decode cL_follows 915 = .ok (.ifCond .ne 7, 3) := by decide +kernel
theorem dL_follows_918 : decode cL_follows 918 = .ok (.iconst 1, 1) := by decide +kernel
theorem dL_follows_919 : decode cL_follows 919 = .ok (.goto 4, 3) := by decide +kernel
theorem dL_follows_922 : decode cL_follows 922 = .ok (.iconst 0, 1) := by decide +kernel
theorem dL_follows_923 : decode cL_follows 923 = .ok (.istore 9, 2) := by decide +kernel
theorem dL_follows_925 : decode cL_follows 925 = .ok (.iload 9, 2) := by decide +kernel
theorem dL_follows_927 : decode cL_follows 927 = .ok (.ifCond .eq 47, 3) := by decide +kernel
theorem dL_follows_930 : decode cL_follows 930 = .ok (.aload_n 0, 1) := by decide +kernel
theorem dL_follows_931 : decode cL_follows 931 = .ok (.invokestatic 126, 3) := by decide +kernel
theorem dL_follows_934 : decode cL_follows 934 = .ok (.lload_n 2, 1) := by decide +kernel
theorem dL_follows_935 : decode cL_follows 935 = .ok (.lcmp, 1) := by decide +kernel
theorem dL_follows_936 : decode cL_follows 936 = .ok (.ifCond .ne 38, 3) := by decide +kernel
theorem dL_follows_939 : decode cL_follows 939 = .ok (.aload_n 0, 1) := by decide +kernel
theorem dL_follows_940 : decode cL_follows 940 = .ok (.iconst 1, 1) := by decide +kernel
theorem dL_follows_941 : decode cL_follows 941 = .ok (.invokestatic 184, 3) := by decide +kernel
theorem dL_follows_944 : decode cL_follows 944 = .ok (.lload 7, 2) := by decide +kernel
theorem dL_follows_946 : decode cL_follows 946 = .ok (.lcmp, 1) := by decide +kernel
theorem dL_follows_947 : decode cL_follows 947 = .ok (.ifCond .ne 27, 3) := by decide +kernel
theorem dL_follows_950 : decode cL_follows 950 = .ok (.aload_n 0, 1) := by decide +kernel
theorem dL_follows_951 : decode cL_follows 951 = .ok (.invokestatic 126, 3) := by decide +kernel
theorem dL_follows_954 : decode cL_follows 954 = .ok (.lload_n 2, 1) := by decide +kernel
theorem dL_follows_955 : decode cL_follows 955 = .ok (.lcmp, 1) := by decide +kernel
theorem dL_follows_956 : decode cL_follows 956 = .ok (.ifCond .ne 18, 3) := by decide +kernel
theorem dL_follows_959 : decode cL_follows 959 = .ok (.aload_n 0, 1) := by decide +kernel
theorem dL_follows_960 : decode cL_follows 960 = .ok (.invokestatic 202, 3) := by decide +kernel
theorem dL_follows_963 : decode cL_follows 963 = .ok (.ldc2_w 21, 3) := by decide +kernel
theorem dL_follows_966 : decode cL_follows 966 = .ok (.lcmp, 1) := by decide +kernel
theorem dL_follows_967 : decode cL_follows 967 = .ok (.ifCond .ne 7, 3) := by decide +kernel
theorem dL_follows_970 : decode cL_follows 970 = .ok (.iconst 1, 1) := by decide +kernel
theorem dL_follows_971 : decode cL_follows 971 = .ok (.goto 4, 3) := by decide +kernel
theorem dL_follows_974 : decode cL_follows 974 = .ok (.iconst 0, 1) := by decide +kernel
theorem dL_follows_975 : decode cL_follows 975 = .ok (.ireturn, 1) := by decide +kernel
theorem dL_digits_0 : decode cL_digits 0 = .ok (.iload_n 2, 1) := by decide +kernel
theorem dL_digits_1 : decode cL_digits 1 = .ok (.iconst 4, 1) := by decide +kernel
theorem dL_digits_2 : decode cL_digits 2 = .ok (.if_icmp .ne 9, 3) := by decide +kernel
theorem dL_digits_5 : decode cL_digits 5 = .ok (.sipush 1000, 3) := by decide +kernel
theorem dL_digits_8 : decode cL_digits 8 = .ok (.goto 24, 3) := by decide +kernel
theorem dL_digits_11 : decode cL_digits 11 = .ok (.iload_n 2, 1) := by decide +kernel
theorem dL_digits_12 : decode cL_digits 12 = .ok (.iconst 3, 1) := by decide +kernel
theorem dL_digits_13 : decode cL_digits 13 = .ok (.if_icmp .ne 8, 3) := by decide +kernel
theorem dL_digits_16 : decode cL_digits 16 = .ok (.bipush 100, 2) := by decide +kernel
theorem dL_digits_18 : decode cL_digits 18 = .ok (.goto 14, 3) := by decide +kernel
theorem dL_digits_21 : decode cL_digits 21 = .ok (.iload_n 2, 1) := by decide +kernel
theorem dL_digits_22 : decode cL_digits 22 = .ok (.iconst 2, 1) := by decide +kernel
theorem dL_digits_23 : decode cL_digits 23 = .ok (.if_icmp .ne 8, 3) := by decide +kernel
theorem dL_digits_26 : decode cL_digits 26 = .ok (.bipush 10, 2) := by decide +kernel
theorem dL_digits_28 : decode cL_digits 28 = .ok (.goto 4, 3) := by decide +kernel
theorem dL_digits_31 : decode cL_digits 31 = .ok (.iconst 1, 1) := by decide +kernel
theorem dL_digits_32 : decode cL_digits 32 = .ok (.istore_n 3, 1) := by decide +kernel
theorem dL_digits_33 : decode cL_digits 33 = .ok (.iconst 1, 1) := by decide +kernel
theorem dL_digits_34 : decode cL_digits 34 = .ok (.istore 4, 2) := by decide +kernel
theorem dL_digits_36 : decode cL_digits 36 = .ok (.iload_n 1, 1) := by decide +kernel
theorem dL_digits_37 : decode cL_digits 37 = .ok (.istore 5, 2) := by decide +kernel
theorem dL_digits_39 : decode cL_digits 39 = .ok (.iconst 0, 1) := by decide +kernel
theorem dL_digits_40 : decode cL_digits 40 = .ok (.istore 6, 2) := by decide +kernel
theorem dL_digits_42 : decode cL_digits 42 = .ok (.iload 6, 2) := by decide +kernel
theorem dL_digits_44 : decode cL_digits 44 = .ok (.iload_n 2, 1) := by decide +kernel
theorem dL_digits_45 : decode cL_digits 45 = .ok (.if_icmp .ge 58, 3) := by decide +kernel
theorem dL_digits_48 : decode cL_digits 48 = .ok (.iload 4, 2) := by decide +kernel
theorem dL_digits_50 : decode cL_digits 50 = .ok (.ifCond .eq 53, 3) := by decide +kernel
theorem dL_digits_53 : decode cL_digits 53 = .ok (.aload_n 0, 1) := by decide +kernel
theorem dL_digits_54 : decode cL_digits 54 = .ok (.bipush 48, 2) := by decide +kernel
theorem dL_digits_56 : decode cL_digits 56 = .ok (.iload 5, 2) := by decide +kernel
theorem dL_digits_58 : decode cL_digits 58 = .ok (.iload_n 3, 1) := by decide +kernel
theorem dL_digits_59 : decode cL_digits 59 = .ok (.idiv, 1) := by decide +kernel
theorem dL_digits_60 : decode cL_digits 60 = .ok (.iadd, 1) := by decide +kernel
theorem dL_digits_61 : decode cL_digits 61 = .ok (.invokestatic 166, 3) := by decide +kernel
theorem dL_digits_64 : decode cL_digits 64 = .ok (.lconst 0, 1) := by decide +kernel
theorem dL_digits_65 : decode cL_digits 65 = .ok (.lcmp, 1) := by decide +kernel
theorem dL_digits_66 : decode cL_digits 66 = .ok (.ifCond .le 7, 3) := by decide +kernel
theorem dL_digits_69 : decode cL_digits 69 = .ok (.iconst 1, 1) := by decide +kernel
theorem dL_digits_70 : decode cL_digits 70 = .ok (.goto 4, 3) := by decide +kernel
theorem dL_digits_73 : decode cL_digits 73 = .ok (.iconst 0, 1) := by decide +kernel
theorem dL_digits_74 : decode cL_digits 74 = .ok (.istore 4, 2) := by decide +kernel
theorem dL_digits_76 : decode cL_digits 76 = .ok (.iload 5, 2) := by decide +kernel
theorem dL_digits_78 : decode cL_digits 78 = .ok (.iload_n 3, 1) := by decide +kernel
theorem dL_digits_79 : decode cL_digits 79 = .ok (.irem, 1) := by decide +kernel
theorem dL_digits_80 : decode cL_digits 80 = .ok (.istore 5, 2) := by decide +kernel
theorem dL_digits_82 : decode cL_digits 82 = .ok (.iload_n 3, 1) := by decide +kernel
theorem dL_digits_83 : decode cL_digits 83 = .ok (.bipush 10, 2) := by decide +kernel
theorem dL_digits_85 : decode cL_digits 85 = .ok (.if_icmp .lt 10, 3) := by decide +kernel
theorem dL_digits_88 : decode cL_digits 88 = .ok (.iload_n 3, 1) := by decide +kernel
theorem dL_digits_89 : decode cL_digits 89 = .ok (.bipush 10, 2) := by decide +kernel
theorem dL_digits_91 : decode cL_digits 91 = .ok (.idiv, 1) := by decide +kernel
theorem dL_digits_92 : decode cL_digits 92 = .ok (.goto 4, 3) := by decide +kernel
theorem dL_digits_95 : decode cL_digits 95 = .ok (.iconst 1, 1) := by decide +kernel
theorem dL_digits_96 : decode cL_digits 96 = .ok (.istore_n 3, 1) := by decide +kernel
theorem dL_digits_97 : decode cL_digits 97 = .ok (.iinc 6 1, 3) := by decide +kernel
theorem dL_digits_100 : decode cL_digits 100 = .ok (.goto (-58), 3) := by decide +kernel
theorem dL_digits_103 : decode cL_digits 103 = .ok (.iload 4, 2) := by decide +kernel
theorem dL_digits_105 : decode cL_digits 105 = .ok (.ireturn, 1) := by decide +kernel
theorem dL_tells_0 : decode cL_tells 0 = .ok (.iconst 2, 1) := by decide +kernel
theorem dL_tells_1 : decode cL_tells 1 = .ok (.iload_n 1, 1) := by decide +kernel
theorem dL_tells_2 : decode cL_tells 2 = .ok (.iconst 5, 1) := by decide +kernel
theorem dL_tells_3 : decode cL_tells 3 = .ok (.irem, 1) := by decide +kernel
theorem dL_tells_4 : decode cL_tells 4 = .ok (.iadd, 1) := by decide +kernel
theorem dL_tells_5 : decode cL_tells 5 = .ok (.istore_n 3, 1) := by decide +kernel
theorem dL_tells_6 : decode cL_tells 6 = .ok (.aload_n 0, 1) := by decide +kernel
theorem dL_tells_7 : decode cL_tells 7 = .ok (.invokevirtual 208, 3) := by decide +kernel
theorem dL_tells_10 : decode cL_tells 10 = .ok (.ifCond .lt 106, 3) := by decide +kernel
theorem dL_tells_13 : decode cL_tells 13 = .ok (.aload_n 0, 1) := by decide +kernel
theorem dL_tells_14 : decode cL_tells 14 = .ok (.bipush 69, 2) := by decide +kernel
theorem dL_tells_16 : decode cL_tells 16 = .ok (.invokestatic 166, 3) := by decide +kernel
theorem dL_tells_19 : decode cL_tells 19 = .ok (.lconst 1, 1) := by decide +kernel
theorem dL_tells_20 : decode cL_tells 20 = .ok (.lcmp, 1) := by decide +kernel
theorem dL_tells_21 : decode cL_tells 21 = .ok (.ifCond .ne 95, 3) := by decide +kernel
theorem dL_tells_24 : decode cL_tells 24 = .ok (.aload_n 0, 1) := by decide +kernel
theorem dL_tells_25 : decode cL_tells 25 = .ok (.iload_n 3, 1) := by decide +kernel
theorem dL_tells_26 : decode cL_tells 26 = .ok (.iconst 1, 1) := by decide +kernel
theorem dL_tells_27 : decode cL_tells 27 = .ok (.invokestatic 211, 3) := by decide +kernel
theorem dL_tells_30 : decode cL_tells 30 = .ok (.ifCond .eq 86, 3) := by decide +kernel
theorem dL_tells_33 : decode cL_tells 33 = .ok (.aload_n 0, 1) := by decide +kernel
theorem dL_tells_34 : decode cL_tells 34 = .ok (.iload_n 1, 1) := by decide +kernel
theorem dL_tells_35 : decode cL_tells 35 = .ok (.iconst 5, 1) := by decide +kernel
theorem dL_tells_36 : decode cL_tells 36 = .ok (.idiv, 1) := by decide +kernel
theorem dL_tells_37 : decode cL_tells 37 = .ok (.sipush 1000, 3) := by decide +kernel
theorem dL_tells_40 : decode cL_tells 40 = .ok (.irem, 1) := by decide +kernel
theorem dL_tells_41 : decode cL_tells 41 = .ok (.iconst 3, 1) := by decide +kernel
theorem dL_tells_42 : decode cL_tells 42 = .ok (.invokestatic 211, 3) := by decide +kernel
theorem dL_tells_45 : decode cL_tells 45 = .ok (.ifCond .eq 71, 3) := by decide +kernel
theorem dL_tells_48 : decode cL_tells 48 = .ok (.aload_n 0, 1) := by decide +kernel
theorem dL_tells_49 : decode cL_tells 49 = .ok (.iload_n 1, 1) := by decide +kernel
theorem dL_tells_50 : decode cL_tells 50 = .ok (.sipush 5000, 3) := by decide +kernel
theorem dL_tells_53 : decode cL_tells 53 = .ok (.idiv, 1) := by decide +kernel
theorem dL_tells_54 : decode cL_tells 54 = .ok (.sipush 400, 3) := by decide +kernel
theorem dL_tells_57 : decode cL_tells 57 = .ok (.irem, 1) := by decide +kernel
theorem dL_tells_58 : decode cL_tells 58 = .ok (.iconst 3, 1) := by decide +kernel
theorem dL_tells_59 : decode cL_tells 59 = .ok (.invokestatic 211, 3) := by decide +kernel
theorem dL_tells_62 : decode cL_tells 62 = .ok (.ifCond .eq 54, 3) := by decide +kernel
theorem dL_tells_65 : decode cL_tells 65 = .ok (.aload_n 0, 1) := by decide +kernel
theorem dL_tells_66 : decode cL_tells 66 = .ok (.iload_n 2, 1) := by decide +kernel
theorem dL_tells_67 : decode cL_tells 67 = .ok (.bipush 100, 2) := by decide +kernel
theorem dL_tells_69 : decode cL_tells 69 = .ok (.irem, 1) := by decide +kernel
theorem dL_tells_70 : decode cL_tells 70 = .ok (.iconst 2, 1) := by decide +kernel
theorem dL_tells_71 : decode cL_tells 71 = .ok (.invokestatic 211, 3) := by decide +kernel
theorem dL_tells_74 : decode cL_tells 74 = .ok (.ifCond .eq 42, 3) := by decide +kernel
theorem dL_tells_77 : decode cL_tells 77 = .ok (.aload_n 0, 1) := by decide +kernel
theorem dL_tells_78 : decode cL_tells 78 = .ok (.iload_n 2, 1) := by decide +kernel
theorem dL_tells_79 : decode cL_tells 79 = .ok (.bipush 100, 2) := by decide +kernel
theorem dL_tells_81 : decode cL_tells 81 = .ok (.idiv, 1) := by decide +kernel
theorem dL_tells_82 : decode cL_tells 82 = .ok (.iconst 4, 1) := by decide +kernel
theorem dL_tells_83 : decode cL_tells 83 = .ok (.irem, 1) := by decide +kernel
theorem dL_tells_84 : decode cL_tells 84 = .ok (.bipush 7, 2) := by decide +kernel
theorem dL_tells_86 : decode cL_tells 86 = .ok (.imul, 1) := by decide +kernel
theorem dL_tells_87 : decode cL_tells 87 = .ok (.iconst 2, 1) := by decide +kernel
theorem dL_tells_88 : decode cL_tells 88 = .ok (.invokestatic 211, 3) := by decide +kernel
theorem dL_tells_91 : decode cL_tells 91 = .ok (.ifCond .eq 25, 3) := by decide +kernel
theorem dL_tells_94 : decode cL_tells 94 = .ok (.aload_n 0, 1) := by decide +kernel
theorem dL_tells_95 : decode cL_tells 95 = .ok (.iconst 1, 1) := by decide +kernel
theorem dL_tells_96 : decode cL_tells 96 = .ok (.iload_n 2, 1) := by decide +kernel
theorem dL_tells_97 : decode cL_tells 97 = .ok (.sipush 400, 3) := by decide +kernel
theorem dL_tells_100 : decode cL_tells 100 = .ok (.idiv, 1) := by decide +kernel
theorem dL_tells_101 : decode cL_tells 101 = .ok (.bipush 20, 2) := by decide +kernel
theorem dL_tells_103 : decode cL_tells 103 = .ok (.irem, 1) := by decide +kernel
theorem dL_tells_104 : decode cL_tells 104 = .ok (.iadd, 1) := by decide +kernel
theorem dL_tells_105 : decode cL_tells 105 = .ok (.iconst 2, 1) := by decide +kernel
theorem dL_tells_106 : decode cL_tells 106 = .ok (.invokestatic 211, 3) := by decide +kernel
theorem dL_tells_109 : decode cL_tells 109 = .ok (.ifCond .eq 7, 3) := by decide +kernel
theorem dL_tells_112 : decode cL_tells 112 = .ok (.iconst 1, 1) := by decide +kernel
theorem dL_tells_113 : decode cL_tells 113 = .ok (.goto 4, 3) := by decide +kernel
theorem dL_tells_116 : decode cL_tells 116 = .ok (.iconst 0, 1) := by decide +kernel
theorem dL_tells_117 : decode cL_tells 117 = .ok (.istore 4, 2) := by decide +kernel
theorem dL_tells_119 : decode cL_tells 119 = .ok (.lconst 0, 1) := by decide +kernel
theorem dL_tells_120 : decode cL_tells 120 = .ok (.lstore 5, 2) := by decide +kernel
theorem dL_tells_122 : decode cL_tells 122 = .ok (.iconst 0, 1) := by decide +kernel
theorem dL_tells_123 : decode cL_tells 123 = .ok (.istore 7, 2) := by decide +kernel
theorem dL_tells_125 : decode cL_tells 125 = .ok (.iload 7, 2) := by decide +kernel
theorem dL_tells_127 : decode cL_tells 127 = .ok (.iload_n 3, 1) := by decide +kernel
theorem dL_tells_128 : decode cL_tells 128 = .ok (.if_icmp .ge 150, 3) := by decide +kernel
theorem dL_tells_131 : decode cL_tells 131 = .ok (.iload 4, 2) := by decide +kernel
theorem dL_tells_133 : decode cL_tells 133 = .ok (.ifCond .eq 145, 3) := by decide +kernel
theorem dL_tells_136 : decode cL_tells 136 = .ok (.iload_n 2, 1) := by decide +kernel
theorem dL_tells_137 : decode cL_tells 137 = .ok (.sipush 977, 3) := by decide +kernel
theorem dL_tells_140 : decode cL_tells 140 = .ok (.iload 7, 2) := by decide +kernel
theorem dL_tells_142 : decode cL_tells 142 = .ok (.iconst 1, 1) := by decide +kernel
theorem dL_tells_143 : decode cL_tells 143 = .ok (.iadd, 1) := by decide +kernel
theorem dL_tells_144 : decode cL_tells 144 = .ok (.imul, 1) := by decide +kernel
theorem dL_tells_145 : decode cL_tells 145 = .ok (.ixor, 1) := by decide +kernel
theorem dL_tells_146 : decode cL_tells 146 = .ok (.ldc 8, 2) := by decide +kernel
theorem dL_tells_148 : decode cL_tells 148 = .ok (.iand, 1) := by decide +kernel
theorem dL_tells_149 : decode cL_tells 149 = .ok (.istore 8, 2) := by decide +kernel
theorem dL_tells_151 : decode cL_tells 151 = .ok (.iload 8, 2) := by decide +kernel
theorem dL_tells_153 : decode cL_tells 153 = .ok (.sipush 4001, 3) := by decide +kernel
theorem dL_tells_156 : decode cL_tells 156 = .ok (.irem, 1) := by decide +kernel
theorem dL_tells_157 : decode cL_tells 157 = .ok (.istore 9, 2) := by decide +kernel
theorem dL_tells_159 : decode cL_tells 159 = .ok (.iload 8, 2) := by decide +kernel
theorem dL_tells_161 : decode cL_tells 161 = .ok (.bipush 9, 2) := by decide +kernel
theorem dL_tells_163 : decode cL_tells 163 = .ok (.idiv, 1) := by decide +kernel
theorem dL_tells_164 : decode cL_tells 164 = .ok (.sipush 1001, 3) := by decide +kernel
theorem dL_tells_167 : decode cL_tells 167 = .ok (.irem, 1) := by decide +kernel
theorem dL_tells_168 : decode cL_tells 168 = .ok (.istore 10, 2) := by decide +kernel
theorem dL_tells_170 : decode cL_tells 170 = .ok (.lload 5, 2) := by decide +kernel
theorem dL_tells_172 : decode cL_tells 172 = .ok (.iload 9, 2) := by decide +kernel
theorem dL_tells_174 : decode cL_tells 174 = .ok (.iload 10, 2) := by decide +kernel
theorem dL_tells_176 : decode cL_tells 176 = .ok (.iadd, 1) := by decide +kernel
theorem dL_tells_177 : decode cL_tells 177 = .ok (.i2l, 1) := by decide +kernel
theorem dL_tells_178 : decode cL_tells 178 = .ok (.ladd, 1) := by decide +kernel
theorem dL_tells_179 : decode cL_tells 179 = .ok (.lstore 5, 2) := by decide +kernel
theorem dL_tells_181 : decode cL_tells 181 = .ok (.aload_n 0, 1) := by decide +kernel
theorem dL_tells_182 : decode cL_tells 182 = .ok (.iconst 1, 1) := by decide +kernel
theorem dL_tells_183 : decode cL_tells 183 = .ok (.iload 8, 2) := by decide +kernel
theorem dL_tells_185 : decode cL_tells 185 = .ok (.bipush 9, 2) := by decide +kernel
theorem dL_tells_187 : decode cL_tells 187 = .ok (.irem, 1) := by decide +kernel
theorem dL_tells_188 : decode cL_tells 188 = .ok (.iadd, 1) := by decide +kernel
theorem dL_tells_189 : decode cL_tells 189 = .ok (.iconst 1, 1) := by decide +kernel
theorem dL_tells_190 : decode cL_tells 190 = .ok (.invokestatic 211, 3) := by decide +kernel
theorem dL_tells_193 : decode cL_tells 193 = .ok (.ifCond .eq 76, 3) := by decide +kernel
theorem dL_tells_196 : decode cL_tells 196 = .ok (.aload_n 0, 1) := by decide +kernel
theorem dL_tells_197 : decode cL_tells 197 = .ok (.iload 9, 2) := by decide +kernel
theorem dL_tells_199 : decode cL_tells 199 = .ok (.iconst 4, 1) := by decide +kernel
theorem dL_tells_200 : decode cL_tells 200 = .ok (.invokestatic 211, 3) := by decide +kernel
theorem dL_tells_203 : decode cL_tells 203 = .ok (.ifCond .eq 66, 3) := by decide +kernel
theorem dL_tells_206 : decode cL_tells 206 = .ok (.aload_n 0, 1) := by decide +kernel
theorem dL_tells_207 : decode cL_tells 207 = .ok (.iload 10, 2) := by decide +kernel
theorem dL_tells_209 : decode cL_tells 209 = .ok (.iconst 4, 1) := by decide +kernel
theorem dL_tells_210 : decode cL_tells 210 = .ok (.invokestatic 211, 3) := by decide +kernel
theorem dL_tells_213 : decode cL_tells 213 = .ok (.ifCond .eq 56, 3) := by decide +kernel
theorem dL_tells_216 : decode cL_tells 216 = .ok (.aload_n 0, 1) := by decide +kernel
theorem dL_tells_217 : decode cL_tells 217 = .ok (.iload 8, 2) := by decide +kernel
theorem dL_tells_219 : decode cL_tells 219 = .ok (.bipush 7, 2) := by decide +kernel
theorem dL_tells_221 : decode cL_tells 221 = .ok (.idiv, 1) := by decide +kernel
theorem dL_tells_222 : decode cL_tells 222 = .ok (.sipush 300, 3) := by decide +kernel
theorem dL_tells_225 : decode cL_tells 225 = .ok (.irem, 1) := by decide +kernel
theorem dL_tells_226 : decode cL_tells 226 = .ok (.iconst 3, 1) := by decide +kernel
theorem dL_tells_227 : decode cL_tells 227 = .ok (.invokestatic 211, 3) := by decide +kernel
theorem dL_tells_230 : decode cL_tells 230 = .ok (.ifCond .eq 39, 3) := by decide +kernel
theorem dL_tells_233 : decode cL_tells 233 = .ok (.aload_n 0, 1) := by decide +kernel
theorem dL_tells_234 : decode cL_tells 234 = .ok (.iload 8, 2) := by decide +kernel
theorem dL_tells_236 : decode cL_tells 236 = .ok (.bipush 11, 2) := by decide +kernel
theorem dL_tells_238 : decode cL_tells 238 = .ok (.idiv, 1) := by decide +kernel
theorem dL_tells_239 : decode cL_tells 239 = .ok (.bipush 91, 2) := by decide +kernel
theorem dL_tells_241 : decode cL_tells 241 = .ok (.irem, 1) := by decide +kernel
theorem dL_tells_242 : decode cL_tells 242 = .ok (.iconst 2, 1) := by decide +kernel
theorem dL_tells_243 : decode cL_tells 243 = .ok (.invokestatic 211, 3) := by decide +kernel
theorem dL_tells_246 : decode cL_tells 246 = .ok (.ifCond .eq 23, 3) := by decide +kernel
theorem dL_tells_249 : decode cL_tells 249 = .ok (.aload_n 0, 1) := by decide +kernel
theorem dL_tells_250 : decode cL_tells 250 = .ok (.iload 8, 2) := by decide +kernel
theorem dL_tells_252 : decode cL_tells 252 = .ok (.bipush 13, 2) := by decide +kernel
theorem dL_tells_254 : decode cL_tells 254 = .ok (.idiv, 1) := by decide +kernel
theorem dL_tells_255 : decode cL_tells 255 = .ok (.bipush 100, 2) := by decide +kernel
theorem dL_tells_257 : decode cL_tells 257 = .ok (.irem, 1) := by decide +kernel
theorem dL_tells_258 : decode cL_tells 258 = .ok (.iconst 2, 1) := by decide +kernel
theorem dL_tells_259 : decode cL_tells 259 = .ok (.invokestatic 211, 3) := by decide +kernel
theorem dL_tells_262 : decode cL_tells 262 = .ok (.ifCond .eq 7, 3) := by decide +kernel
theorem dL_tells_265 : decode cL_tells 265 = .ok (.iconst 1, 1) := by decide +kernel
theorem dL_tells_266 : decode cL_tells 266 = .ok (.goto 4, 3) := by decide +kernel
theorem dL_tells_269 : decode cL_tells 269 = .ok (.iconst 0, 1) := by decide +kernel
theorem dL_tells_270 : decode cL_tells 270 = .ok (.istore 4, 2) := by decide +kernel
theorem dL_tells_272 : decode cL_tells 272 = .ok (.iinc 7 1, 3) := by decide +kernel
theorem dL_tells_275 : decode cL_tells 275 = .ok (.goto (-150), 3) := by decide +kernel
theorem dL_tells_278 : decode cL_tells 278 = .ok (.iload 4, 2) := by decide +kernel
theorem dL_tells_280 : decode cL_tells 280 = .ok (.ifCond .eq 55, 3) := by decide +kernel
theorem dL_tells_283 : decode cL_tells 283 = .ok (.aload_n 0, 1) := by decide +kernel
theorem dL_tells_284 : decode cL_tells 284 = .ok (.invokevirtual 130, 3) := by decide +kernel
theorem dL_tells_287 : decode cL_tells 287 = .ok (.bipush (-9), 2) := by decide +kernel
theorem dL_tells_289 : decode cL_tells 289 = .ok (.if_icmp .ne 46, 3) := by decide +kernel
theorem dL_tells_292 : decode cL_tells 292 = .ok (.aload_n 0, 1) := by decide +kernel
theorem dL_tells_293 : decode cL_tells 293 = .ok (.invokestatic 215, 3) := by decide +kernel
theorem dL_tells_296 : decode cL_tells 296 = .ok (.lload 5, 2) := by decide +kernel
theorem dL_tells_298 : decode cL_tells 298 = .ok (.lcmp, 1) := by decide +kernel
theorem dL_tells_299 : decode cL_tells 299 = .ok (.ifCond .ne 36, 3) := by decide +kernel
theorem dL_tells_302 : decode cL_tells 302 = .ok (.aload_n 0, 1) := by decide +kernel
theorem dL_tells_303 : decode cL_tells 303 = .ok (.invokestatic 119, 3) := by decide +kernel
theorem dL_tells_306 : decode cL_tells 306 = .ok (.iload_n 3, 1) := by decide +kernel
theorem dL_tells_307 : decode cL_tells 307 = .ok (.if_icmp .ne 28, 3) := by decide +kernel
theorem dL_tells_310 : decode cL_tells 310 = .ok (.aload_n 0, 1) := by decide +kernel
theorem dL_tells_311 : decode cL_tells 311 = .ok (.iconst 0, 1) := by decide +kernel
theorem dL_tells_312 : decode cL_tells 312 = .ok (.invokestatic 115, 3) := by decide +kernel
theorem dL_tells_315 : decode cL_tells 315 = .ok (.lconst 0, 1) := by decide +kernel
theorem dL_tells_316 : decode cL_tells 316 = .ok (.lcmp, 1) := by decide +kernel
theorem dL_tells_317 : decode cL_tells 317 = .ok (.ifCond .ne 18, 3) := by decide +kernel
theorem dL_tells_320 : decode cL_tells 320 = .ok (.aload_n 0, 1) := by decide +kernel
theorem dL_tells_321 : decode cL_tells 321 = .ok (.invokestatic 202, 3) := by decide +kernel
theorem dL_tells_324 : decode cL_tells 324 = .ok (.ldc2_w 21, 3) := by decide +kernel
theorem dL_tells_327 : decode cL_tells 327 = .ok (.lcmp, 1) := by decide +kernel
theorem dL_tells_328 : decode cL_tells 328 = .ok (.ifCond .ne 7, 3) := by decide +kernel
theorem dL_tells_331 : decode cL_tells 331 = .ok (.iconst 1, 1) := by decide +kernel
theorem dL_tells_332 : decode cL_tells 332 = .ok (.goto 4, 3) := by decide +kernel
theorem dL_tells_335 : decode cL_tells 335 = .ok (.iconst 0, 1) := by decide +kernel
theorem dL_tells_336 : decode cL_tells 336 = .ok (.ireturn, 1) := by decide +kernel
theorem dL_act_0 : decode cL_act 0 = .ok (.iload_n 2, 1) := by decide +kernel
theorem dL_act_1 : decode cL_act 1 = .ok (.bipush 6, 2) := by decide +kernel
theorem dL_act_3 : decode cL_act 3 = .ok (.irem, 1) := by decide +kernel
theorem dL_act_4 : decode cL_act 4 = .ok (.istore_n 3, 1) := by decide +kernel
theorem dL_act_5 : decode cL_act 5 = .ok (.iload_n 1, 1) := by decide +kernel
theorem dL_act_6 : decode cL_act 6 = .ok (.bipush 14, 2) := by decide +kernel
theorem dL_act_8 : decode cL_act 8 = .ok (.irem, 1) := by decide +kernel
theorem dL_act_9 : decode cL_act 9 = .ok (.tableswitch 222 0 12 #[67, 67, 67, 67, 78, 89, 89, 155, 155, 169, 182, 197, 217], 67) := by decide +kernel
theorem dL_act_76 : decode cL_act 76 = .ok (.aload_n 0, 1) := by decide +kernel
theorem dL_act_77 : decode cL_act 77 = .ok (.iconst 1, 1) := by decide +kernel
theorem dL_act_78 : decode cL_act 78 = .ok (.iload_n 2, 1) := by decide +kernel
theorem dL_act_79 : decode cL_act 79 = .ok (.bipush 20, 2) := by decide +kernel
theorem dL_act_81 : decode cL_act 81 = .ok (.irem, 1) := by decide +kernel
theorem dL_act_82 : decode cL_act 82 = .ok (.iadd, 1) := by decide +kernel
theorem dL_act_83 : decode cL_act 83 = .ok (.invokestatic 168, 3) := by decide +kernel
theorem dL_act_86 : decode cL_act 86 = .ok (.lreturn, 1) := by decide +kernel
theorem dL_act_87 : decode cL_act 87 = .ok (.aload_n 0, 1) := by decide +kernel
theorem dL_act_88 : decode cL_act 88 = .ok (.iconst 1, 1) := by decide +kernel
theorem dL_act_89 : decode cL_act 89 = .ok (.iload_n 2, 1) := by decide +kernel
theorem dL_act_90 : decode cL_act 90 = .ok (.bipush 90, 2) := by decide +kernel
theorem dL_act_92 : decode cL_act 92 = .ok (.irem, 1) := by decide +kernel
theorem dL_act_93 : decode cL_act 93 = .ok (.iadd, 1) := by decide +kernel
theorem dL_act_94 : decode cL_act 94 = .ok (.invokestatic 168, 3) := by decide +kernel
theorem dL_act_97 : decode cL_act 97 = .ok (.lreturn, 1) := by decide +kernel
theorem dL_act_98 : decode cL_act 98 = .ok (.iload_n 2, 1) := by decide +kernel
theorem dL_act_99 : decode cL_act 99 = .ok (.iconst 5, 1) := by decide +kernel
theorem dL_act_100 : decode cL_act 100 = .ok (.irem, 1) := by decide +kernel
theorem dL_act_101 : decode cL_act 101 = .ok (.istore 4, 2) := by decide +kernel
theorem dL_act_103 : decode cL_act 103 = .ok (.aload_n 0, 1) := by decide +kernel
theorem dL_act_104 : decode cL_act 104 = .ok (.iload 4, 2) := by decide +kernel
theorem dL_act_106 : decode cL_act 106 = .ok (.iload 4, 2) := by decide +kernel
theorem dL_act_108 : decode cL_act 108 = .ok (.iconst 2, 1) := by decide +kernel
theorem dL_act_109 : decode cL_act 109 = .ok (.if_icmp .ge 13, 3) := by decide +kernel
theorem dL_act_112 : decode cL_act 112 = .ok (.iload_n 2, 1) := by decide +kernel
theorem dL_act_113 : decode cL_act 113 = .ok (.iconst 5, 1) := by decide +kernel
theorem dL_act_114 : decode cL_act 114 = .ok (.idiv, 1) := by decide +kernel
theorem dL_act_115 : decode cL_act 115 = .ok (.sipush 600, 3) := by decide +kernel
theorem dL_act_118 : decode cL_act 118 = .ok (.irem, 1) := by decide +kernel
theorem dL_act_119 : decode cL_act 119 = .ok (.goto 41, 3) := by decide +kernel
theorem dL_act_122 : decode cL_act 122 = .ok (.iload 4, 2) := by decide +kernel
theorem dL_act_124 : decode cL_act 124 = .ok (.iconst 2, 1) := by decide +kernel
theorem dL_act_125 : decode cL_act 125 = .ok (.if_icmp .ne 12, 3) := by decide +kernel
theorem dL_act_128 : decode cL_act 128 = .ok (.iload_n 2, 1) := by decide +kernel
theorem dL_act_129 : decode cL_act 129 = .ok (.iconst 5, 1) := by decide +kernel
theorem dL_act_130 : decode cL_act 130 = .ok (.idiv, 1) := by decide +kernel
theorem dL_act_131 : decode cL_act 131 = .ok (.bipush 100, 2) := by decide +kernel
theorem dL_act_133 : decode cL_act 133 = .ok (.irem, 1) := by decide +kernel
theorem dL_act_134 : decode cL_act 134 = .ok (.goto 26, 3) := by decide +kernel
theorem dL_act_137 : decode cL_act 137 = .ok (.iload 4, 2) := by decide +kernel
theorem dL_act_139 : decode cL_act 139 = .ok (.iconst 3, 1) := by decide +kernel
theorem dL_act_140 : decode cL_act 140 = .ok (.if_icmp .ne 12, 3) := by decide +kernel
theorem dL_act_143 : decode cL_act 143 = .ok (.iload_n 2, 1) := by decide +kernel
theorem dL_act_144 : decode cL_act 144 = .ok (.iconst 5, 1) := by decide +kernel
theorem dL_act_145 : decode cL_act 145 = .ok (.idiv, 1) := by decide +kernel
theorem dL_act_146 : decode cL_act 146 = .ok (.bipush 9, 2) := by decide +kernel
theorem dL_act_148 : decode cL_act 148 = .ok (.irem, 1) := by decide +kernel
theorem dL_act_149 : decode cL_act 149 = .ok (.goto 11, 3) := by decide +kernel
theorem dL_act_152 : decode cL_act 152 = .ok (.iconst 1, 1) := by decide +kernel
theorem dL_act_153 : decode cL_act 153 = .ok (.iload_n 2, 1) := by decide +kernel
theorem dL_act_154 : decode cL_act 154 = .ok (.iconst 5, 1) := by decide +kernel
theorem dL_act_155 : decode cL_act 155 = .ok (.idiv, 1) := by decide +kernel
theorem dL_act_156 : decode cL_act 156 = .ok (.bipush 20, 2) := by decide +kernel
theorem dL_act_158 : decode cL_act 158 = .ok (.irem, 1) := by decide +kernel
theorem dL_act_159 : decode cL_act 159 = .ok (.iadd, 1) := by decide +kernel
theorem dL_act_160 : decode cL_act 160 = .ok (.invokestatic 170, 3) := by decide +kernel
theorem dL_act_163 : decode cL_act 163 = .ok (.lreturn, 1) := by decide +kernel
theorem dL_act_164 : decode cL_act 164 = .ok (.aload_n 0, 1) := by decide +kernel
theorem dL_act_165 : decode cL_act 165 = .ok (.iload_n 3, 1) := by decide +kernel
theorem dL_act_166 : decode cL_act 166 = .ok (.iload_n 2, 1) := by decide +kernel
theorem dL_act_167 : decode cL_act 167 = .ok (.bipush 6, 2) := by decide +kernel
theorem dL_act_169 : decode cL_act 169 = .ok (.idiv, 1) := by decide +kernel
theorem dL_act_170 : decode cL_act 170 = .ok (.sipush 300, 3) := by decide +kernel
theorem dL_act_173 : decode cL_act 173 = .ok (.irem, 1) := by decide +kernel
theorem dL_act_174 : decode cL_act 174 = .ok (.invokestatic 172, 3) := by decide +kernel
theorem dL_act_177 : decode cL_act 177 = .ok (.lreturn, 1) := by decide +kernel
theorem dL_act_178 : decode cL_act 178 = .ok (.aload_n 0, 1) := by decide +kernel
theorem dL_act_179 : decode cL_act 179 = .ok (.iload_n 3, 1) := by decide +kernel
theorem dL_act_180 : decode cL_act 180 = .ok (.iload_n 2, 1) := by decide +kernel
theorem dL_act_181 : decode cL_act 181 = .ok (.bipush 6, 2) := by decide +kernel
theorem dL_act_183 : decode cL_act 183 = .ok (.idiv, 1) := by decide +kernel
theorem dL_act_184 : decode cL_act 184 = .ok (.bipush 91, 2) := by decide +kernel
theorem dL_act_186 : decode cL_act 186 = .ok (.irem, 1) := by decide +kernel
theorem dL_act_187 : decode cL_act 187 = .ok (.invokestatic 174, 3) := by decide +kernel
theorem dL_act_190 : decode cL_act 190 = .ok (.lreturn, 1) := by decide +kernel
theorem dL_act_191 : decode cL_act 191 = .ok (.aload_n 0, 1) := by decide +kernel
theorem dL_act_192 : decode cL_act 192 = .ok (.iload_n 3, 1) := by decide +kernel
theorem dL_act_193 : decode cL_act 193 = .ok (.iconst 1, 1) := by decide +kernel
theorem dL_act_194 : decode cL_act 194 = .ok (.iload_n 2, 1) := by decide +kernel
theorem dL_act_195 : decode cL_act 195 = .ok (.bipush 6, 2) := by decide +kernel
theorem dL_act_197 : decode cL_act 197 = .ok (.idiv, 1) := by decide +kernel
theorem dL_act_198 : decode cL_act 198 = .ok (.bipush 20, 2) := by decide +kernel
theorem dL_act_200 : decode cL_act 200 = .ok (.irem, 1) := by decide +kernel
theorem dL_act_201 : decode cL_act 201 = .ok (.iadd, 1) := by decide +kernel
theorem dL_act_202 : decode cL_act 202 = .ok (.invokestatic 176, 3) := by decide +kernel
theorem dL_act_205 : decode cL_act 205 = .ok (.lreturn, 1) := by decide +kernel
theorem dL_act_206 : decode cL_act 206 = .ok (.iload_n 2, 1) := by decide +kernel
theorem dL_act_207 : decode cL_act 207 = .ok (.iconst 2, 1) := by decide +kernel
theorem dL_act_208 : decode cL_act 208 = .ok (.irem, 1) := by decide +kernel
theorem dL_act_209 : decode cL_act 209 = .ok (.ifCond .ne 11, 3) := by decide +kernel
theorem dL_act_212 : decode cL_act 212 = .ok (.aload_n 0, 1) := by decide +kernel
theorem dL_act_213 : decode cL_act 213 = .ok (.iload_n 3, 1) := by decide +kernel
theorem dL_act_214 : decode cL_act 214 = .ok (.invokestatic 178, 3) := by decide +kernel
theorem dL_act_217 : decode cL_act 217 = .ok (.goto 8, 3) := by decide +kernel
theorem dL_act_220 : decode cL_act 220 = .ok (.aload_n 0, 1) := by decide +kernel
theorem dL_act_221 : decode cL_act 221 = .ok (.iconst 1, 1) := by decide +kernel
theorem dL_act_222 : decode cL_act 222 = .ok (.invokestatic 168, 3) := by decide +kernel
theorem dL_act_225 : decode cL_act 225 = .ok (.lreturn, 1) := by decide +kernel
theorem dL_act_226 : decode cL_act 226 = .ok (.aload_n 0, 1) := by decide +kernel
theorem dL_act_227 : decode cL_act 227 = .ok (.invokestatic 202, 3) := by decide +kernel
theorem dL_act_230 : decode cL_act 230 = .ok (.lreturn, 1) := by decide +kernel
theorem dL_act_231 : decode cL_act 231 = .ok (.iload_n 2, 1) := by decide +kernel
theorem dL_act_232 : decode cL_act 232 = .ok (.iconst 2, 1) := by decide +kernel
theorem dL_act_233 : decode cL_act 233 = .ok (.irem, 1) := by decide +kernel
theorem dL_act_234 : decode cL_act 234 = .ok (.ifCond .ne 15, 3) := by decide +kernel
theorem dL_act_237 : decode cL_act 237 = .ok (.aload_n 0, 1) := by decide +kernel
theorem dL_act_238 : decode cL_act 238 = .ok (.iload_n 2, 1) := by decide +kernel
theorem dL_act_239 : decode cL_act 239 = .ok (.iconst 2, 1) := by decide +kernel
theorem dL_act_240 : decode cL_act 240 = .ok (.idiv, 1) := by decide +kernel
theorem dL_act_241 : decode cL_act 241 = .ok (.iconst 1, 1) := by decide +kernel
theorem dL_act_242 : decode cL_act 242 = .ok (.iand, 1) := by decide +kernel
theorem dL_act_243 : decode cL_act 243 = .ok (.invokestatic 182, 3) := by decide +kernel
theorem dL_act_246 : decode cL_act 246 = .ok (.goto 12, 3) := by decide +kernel
theorem dL_act_249 : decode cL_act 249 = .ok (.aload_n 0, 1) := by decide +kernel
theorem dL_act_250 : decode cL_act 250 = .ok (.iload_n 2, 1) := by decide +kernel
theorem dL_act_251 : decode cL_act 251 = .ok (.iconst 2, 1) := by decide +kernel
theorem dL_act_252 : decode cL_act 252 = .ok (.idiv, 1) := by decide +kernel
theorem dL_act_253 : decode cL_act 253 = .ok (.iconst 1, 1) := by decide +kernel
theorem dL_act_254 : decode cL_act 254 = .ok (.iand, 1) := by decide +kernel
theorem dL_act_255 : decode cL_act 255 = .ok (.invokestatic 184, 3) := by decide +kernel
theorem dL_act_258 : decode cL_act 258 = .ok (.lreturn, 1) := by decide +kernel
theorem dL_law_0 : decode cL_law 0 = .ok (.new 10, 3) := by decide +kernel
theorem dL_law_3 : decode cL_law 3 = .ok (.dup, 1) := by decide +kernel
theorem dL_law_4 : decode cL_law 4 = .ok (.invokespecial 217, 3) := by decide +kernel
theorem dL_law_7 : decode cL_law 7 = .ok (.astore_n 1, 1) := by decide +kernel
theorem dL_law_8 : decode cL_law 8 = .ok (.new 10, 3) := by decide +kernel
theorem dL_law_11 : decode cL_law 11 = .ok (.dup, 1) := by decide +kernel
theorem dL_law_12 : decode cL_law 12 = .ok (.invokespecial 217, 3) := by decide +kernel
theorem dL_law_15 : decode cL_law 15 = .ok (.astore_n 2, 1) := by decide +kernel
theorem dL_law_16 : decode cL_law 16 = .ok (.aload_n 1, 1) := by decide +kernel
theorem dL_law_17 : decode cL_law 17 = .ok (.aload_n 2, 1) := by decide +kernel
theorem dL_law_18 : decode cL_law 18 = .ok (.aload_n 0, 1) := by decide +kernel
theorem dL_law_19 : decode cL_law 19 = .ok (.iconst 0, 1) := by decide +kernel
theorem dL_law_20 : decode cL_law 20 = .ok (.invokestatic 218, 3) := by decide +kernel
theorem dL_law_23 : decode cL_law 23 = .ok (.invokestatic 222, 3) := by decide +kernel
theorem dL_law_26 : decode cL_law 26 = .ok (.ifCond .eq 21, 3) := by decide +kernel
theorem dL_law_29 : decode cL_law 29 = .ok (.aload_n 1, 1) := by decide +kernel
theorem dL_law_30 : decode cL_law 30 = .ok (.invokestatic 226, 3) := by decide +kernel
theorem dL_law_33 : decode cL_law 33 = .ok (.ifCond .eq 14, 3) := by decide +kernel
theorem dL_law_36 : decode cL_law 36 = .ok (.aload_n 1, 1) := by decide +kernel
theorem dL_law_37 : decode cL_law 37 = .ok (.invokestatic 230, 3) := by decide +kernel
theorem dL_law_40 : decode cL_law 40 = .ok (.ifCond .eq 7, 3) := by decide +kernel
theorem dL_law_43 : decode cL_law 43 = .ok (.iconst 1, 1) := by decide +kernel
theorem dL_law_44 : decode cL_law 44 = .ok (.goto 4, 3) := by decide +kernel
theorem dL_law_47 : decode cL_law 47 = .ok (.iconst 0, 1) := by decide +kernel
theorem dL_law_48 : decode cL_law 48 = .ok (.istore_n 3, 1) := by decide +kernel
theorem dL_law_49 : decode cL_law 49 = .ok (.iconst 0, 1) := by decide +kernel
theorem dL_law_50 : decode cL_law 50 = .ok (.istore 4, 2) := by decide +kernel
theorem dL_law_52 : decode cL_law 52 = .ok (.iload 4, 2) := by decide +kernel
theorem dL_law_54 : decode cL_law 54 = .ok (.bipush 26, 2) := by decide +kernel
theorem dL_law_56 : decode cL_law 56 = .ok (.if_icmp .ge 208, 3) := by decide +kernel
theorem dL_law_59 : decode cL_law 59 = .ok (.iload_n 3, 1) := by decide +kernel
theorem dL_law_60 : decode cL_law 60 = .ok (.ifCond .eq 204, 3) := by decide +kernel
theorem dL_law_63 : decode cL_law 63 = .ok (.aload_n 0, 1) := by decide +kernel
theorem dL_law_64 : decode cL_law 64 = .ok (.iconst 2, 1) := by decide +kernel
theorem dL_law_65 : decode cL_law 65 = .ok (.iload 4, 2) := by decide +kernel
theorem dL_law_67 : decode cL_law 67 = .ok (.imul, 1) := by decide +kernel
theorem dL_law_68 : decode cL_law 68 = .ok (.invokestatic 218, 3) := by decide +kernel
theorem dL_law_71 : decode cL_law 71 = .ok (.istore 5, 2) := by decide +kernel
theorem dL_law_73 : decode cL_law 73 = .ok (.aload_n 0, 1) := by decide +kernel
theorem dL_law_74 : decode cL_law 74 = .ok (.iconst 2, 1) := by decide +kernel
theorem dL_law_75 : decode cL_law 75 = .ok (.iload 4, 2) := by decide +kernel
theorem dL_law_77 : decode cL_law 77 = .ok (.imul, 1) := by decide +kernel
theorem dL_law_78 : decode cL_law 78 = .ok (.iconst 1, 1) := by decide +kernel
theorem dL_law_79 : decode cL_law 79 = .ok (.iadd, 1) := by decide +kernel
theorem dL_law_80 : decode cL_law 80 = .ok (.invokestatic 218, 3) := by decide +kernel
theorem dL_law_83 : decode cL_law 83 = .ok (.istore 6, 2) := by decide +kernel
theorem dL_law_85 : decode cL_law 85 = .ok (.iload 4, 2) := by decide +kernel
theorem dL_law_87 : decode cL_law 87 = .ok (.bipush 13, 2) := by decide +kernel
theorem dL_law_89 : decode cL_law 89 = .ok (.irem, 1) := by decide +kernel
theorem dL_law_90 : decode cL_law 90 = .ok (.ifCond .ne 34, 3) := by decide +kernel
theorem dL_law_93 : decode cL_law 93 = .ok (.aload_n 1, 1) := by decide +kernel
theorem dL_law_94 : decode cL_law 94 = .ok (.iload 5, 2) := by decide +kernel
theorem dL_law_96 : decode cL_law 96 = .ok (.iload 6, 2) := by decide +kernel
theorem dL_law_98 : decode cL_law 98 = .ok (.invokestatic 233, 3) := by decide +kernel
theorem dL_law_101 : decode cL_law 101 = .ok (.ifCond .eq 18, 3) := by decide +kernel
theorem dL_law_104 : decode cL_law 104 = .ok (.aload_n 2, 1) := by decide +kernel
theorem dL_law_105 : decode cL_law 105 = .ok (.iload 5, 2) := by decide +kernel
theorem dL_law_107 : decode cL_law 107 = .ok (.iload 6, 2) := by decide +kernel
theorem dL_law_109 : decode cL_law 109 = .ok (.invokestatic 233, 3) := by decide +kernel
theorem dL_law_112 : decode cL_law 112 = .ok (.ifCond .eq 7, 3) := by decide +kernel
theorem dL_law_115 : decode cL_law 115 = .ok (.iconst 1, 1) := by decide +kernel
theorem dL_law_116 : decode cL_law 116 = .ok (.goto 4, 3) := by decide +kernel
theorem dL_law_119 : decode cL_law 119 = .ok (.iconst 0, 1) := by decide +kernel
theorem dL_law_120 : decode cL_law 120 = .ok (.istore_n 3, 1) := by decide +kernel
theorem dL_law_121 : decode cL_law 121 = .ok (.goto 137, 3) := by decide +kernel
theorem dL_law_124 : decode cL_law 124 = .ok (.aload_n 1, 1) := by decide +kernel
theorem dL_law_125 : decode cL_law 125 = .ok (.iload 5, 2) := by decide +kernel
theorem dL_law_127 : decode cL_law 127 = .ok (.iload 6, 2) := by decide +kernel
theorem dL_law_129 : decode cL_law 129 = .ok (.invokestatic 236, 3) := by decide +kernel
theorem dL_law_132 : decode cL_law 132 = .ok (.aload_n 2, 1) := by decide +kernel
theorem dL_law_133 : decode cL_law 133 = .ok (.iload 5, 2) := by decide +kernel
theorem dL_law_135 : decode cL_law 135 = .ok (.iload 6, 2) := by decide +kernel
theorem dL_law_137 : decode cL_law 137 = .ok (.invokestatic 236, 3) := by decide +kernel
theorem dL_law_140 : decode cL_law 140 = .ok (.lcmp, 1) := by decide +kernel
theorem dL_law_141 : decode cL_law 141 = .ok (.ifCond .ne 7, 3) := by decide +kernel
theorem dL_law_144 : decode cL_law 144 = .ok (.iconst 1, 1) := by decide +kernel
theorem dL_law_145 : decode cL_law 145 = .ok (.goto 4, 3) := by decide +kernel
theorem dL_law_148 : decode cL_law 148 = .ok (.iconst 0, 1) := by decide +kernel
theorem dL_law_149 : decode cL_law 149 = .ok (.istore_n 3, 1) := by decide +kernel
theorem dL_law_150 : decode cL_law 150 = .ok (.iload 4, 2) := by decide +kernel
theorem dL_law_152 : decode cL_law 152 = .ok (.iconst 4, 1) := by decide +kernel
theorem dL_law_153 : decode cL_law 153 = .ok (.irem, 1) := by decide +kernel
theorem dL_law_154 : decode cL_law 154 = .ok (.ifCond .ne 27, 3) := by decide +kernel
theorem dL_law_157 : decode cL_law 157 = .ok (.iload_n 3, 1) := by decide +kernel
theorem dL_law_158 : decode cL_law 158 = .ok (.ifCond .eq 21, 3) := by decide +kernel
theorem dL_law_161 : decode cL_law 161 = .ok (.aload_n 2, 1) := by decide +kernel
theorem dL_law_162 : decode cL_law 162 = .ok (.invokestatic 226, 3) := by decide +kernel
theorem dL_law_165 : decode cL_law 165 = .ok (.ifCond .eq 14, 3) := by decide +kernel
theorem dL_law_168 : decode cL_law 168 = .ok (.aload_n 2, 1) := by decide +kernel
theorem dL_law_169 : decode cL_law 169 = .ok (.invokestatic 230, 3) := by decide +kernel
theorem dL_law_172 : decode cL_law 172 = .ok (.ifCond .eq 7, 3) := by decide +kernel
theorem dL_law_175 : decode cL_law 175 = .ok (.iconst 1, 1) := by decide +kernel
theorem dL_law_176 : decode cL_law 176 = .ok (.goto 4, 3) := by decide +kernel
theorem dL_law_179 : decode cL_law 179 = .ok (.iconst 0, 1) := by decide +kernel
theorem dL_law_180 : decode cL_law 180 = .ok (.istore_n 3, 1) := by decide +kernel
theorem dL_law_181 : decode cL_law 181 = .ok (.iload 4, 2) := by decide +kernel
theorem dL_law_183 : decode cL_law 183 = .ok (.bipush 13, 2) := by decide +kernel
theorem dL_law_185 : decode cL_law 185 = .ok (.irem, 1) := by decide +kernel
theorem dL_law_186 : decode cL_law 186 = .ok (.bipush 12, 2) := by decide +kernel
theorem dL_law_188 : decode cL_law 188 = .ok (.if_icmp .ne 42, 3) := by decide +kernel
theorem dL_law_191 : decode cL_law 191 = .ok (.iload_n 3, 1) := by decide +kernel
theorem dL_law_192 : decode cL_law 192 = .ok (.ifCond .eq 36, 3) := by decide +kernel
theorem dL_law_195 : decode cL_law 195 = .ok (.aload_n 2, 1) := by decide +kernel
theorem dL_law_196 : decode cL_law 196 = .ok (.iload 6, 2) := by decide +kernel
theorem dL_law_198 : decode cL_law 198 = .ok (.invokestatic 239, 3) := by decide +kernel
theorem dL_law_201 : decode cL_law 201 = .ok (.ifCond .eq 27, 3) := by decide +kernel
theorem dL_law_204 : decode cL_law 204 = .ok (.aload_n 1, 1) := by decide +kernel
theorem dL_law_205 : decode cL_law 205 = .ok (.iconst 1, 1) := by decide +kernel
theorem dL_law_206 : decode cL_law 206 = .ok (.invokestatic 182, 3) := by decide +kernel
theorem dL_law_209 : decode cL_law 209 = .ok (.lconst 0, 1) := by decide +kernel
theorem dL_law_210 : decode cL_law 210 = .ok (.lcmp, 1) := by decide +kernel
theorem dL_law_211 : decode cL_law 211 = .ok (.ifCond .lt 17, 3) := by decide +kernel
theorem dL_law_214 : decode cL_law 214 = .ok (.aload_n 1, 1) := by decide +kernel
theorem dL_law_215 : decode cL_law 215 = .ok (.iconst 1, 1) := by decide +kernel
theorem dL_law_216 : decode cL_law 216 = .ok (.invokestatic 184, 3) := by decide +kernel
theorem dL_law_219 : decode cL_law 219 = .ok (.lconst 0, 1) := by decide +kernel
theorem dL_law_220 : decode cL_law 220 = .ok (.lcmp, 1) := by decide +kernel
theorem dL_law_221 : decode cL_law 221 = .ok (.ifCond .lt 7, 3) := by decide +kernel
theorem dL_law_224 : decode cL_law 224 = .ok (.iconst 1, 1) := by decide +kernel
theorem dL_law_225 : decode cL_law 225 = .ok (.goto 4, 3) := by decide +kernel
theorem dL_law_228 : decode cL_law 228 = .ok (.iconst 0, 1) := by decide +kernel
theorem dL_law_229 : decode cL_law 229 = .ok (.istore_n 3, 1) := by decide +kernel
theorem dL_law_230 : decode cL_law 230 = .ok (.iload_n 3, 1) := by decide +kernel
theorem dL_law_231 : decode cL_law 231 = .ok (.ifCond .eq 25, 3) := by decide +kernel
theorem dL_law_234 : decode cL_law 234 = .ok (.iload 4, 2) := by decide +kernel
theorem dL_law_236 : decode cL_law 236 = .ok (.bipush 6, 2) := by decide +kernel
theorem dL_law_238 : decode cL_law 238 = .ok (.irem, 1) := by decide +kernel
theorem dL_law_239 : decode cL_law 239 = .ok (.ifCond .gt 13, 3) := by decide +kernel
theorem dL_law_242 : decode cL_law 242 = .ok (.aload_n 1, 1) := by decide +kernel
theorem dL_law_243 : decode cL_law 243 = .ok (.aload_n 2, 1) := by decide +kernel
theorem dL_law_244 : decode cL_law 244 = .ok (.iload 6, 2) := by decide +kernel
theorem dL_law_246 : decode cL_law 246 = .ok (.invokestatic 222, 3) := by decide +kernel
theorem dL_law_249 : decode cL_law 249 = .ok (.ifCond .eq 7, 3) := by decide +kernel
theorem dL_law_252 : decode cL_law 252 = .ok (.iconst 1, 1) := by decide +kernel
theorem dL_law_253 : decode cL_law 253 = .ok (.goto 4, 3) := by decide +kernel
theorem dL_law_256 : decode cL_law 256 = .ok (.iconst 0, 1) := by decide +kernel
theorem dL_law_257 : decode cL_law 257 = .ok (.istore_n 3, 1) := by decide +kernel
theorem dL_law_258 : decode cL_law 258 = .ok (.iinc 4 1, 3) := by decide +kernel
theorem dL_law_261 : decode cL_law 261 = .ok (.goto (-209), 3) := by decide +kernel
theorem dL_law_264 : decode cL_law 264 = .ok (.iload_n 3, 1) := by decide +kernel
theorem dL_law_265 : decode cL_law 265 = .ok (.ifCond .eq 17, 3) := by decide +kernel
theorem dL_law_268 : decode cL_law 268 = .ok (.aload_n 1, 1) := by decide +kernel
theorem dL_law_269 : decode cL_law 269 = .ok (.aload_n 2, 1) := by decide +kernel
theorem dL_law_270 : decode cL_law 270 = .ok (.ldc 243, 2) := by decide +kernel
theorem dL_law_272 : decode cL_law 272 = .ok (.invokestatic 222, 3) := by decide +kernel
theorem dL_law_275 : decode cL_law 275 = .ok (.ifCond .eq 7, 3) := by decide +kernel
theorem dL_law_278 : decode cL_law 278 = .ok (.iconst 1, 1) := by decide +kernel
theorem dL_law_279 : decode cL_law 279 = .ok (.goto 4, 3) := by decide +kernel
theorem dL_law_282 : decode cL_law 282 = .ok (.iconst 0, 1) := by decide +kernel
theorem dL_law_283 : decode cL_law 283 = .ok (.ireturn, 1) := by decide +kernel

