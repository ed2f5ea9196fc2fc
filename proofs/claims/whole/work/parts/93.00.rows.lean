/-! decode rows of the helpers -/
theorem dL_shifted_0 : decode cL_shifted 0 = .ok (.aload_n 2, 1) := by decide +kernel
theorem dL_shifted_1 : decode cL_shifted 1 = .ok (.iconst 0, 1) := by decide +kernel
theorem dL_shifted_2 : decode cL_shifted 2 = .ok (.aload_n 0, 1) := by decide +kernel
theorem dL_shifted_3 : decode cL_shifted 3 = .ok (.iload_n 1, 1) := by decide +kernel
theorem dL_shifted_4 : decode cL_shifted 4 = .ok (.invokevirtual 7, 3) := by decide +kernel
theorem dL_shifted_7 : decode cL_shifted 7 = .ok (.i2l, 1) := by decide +kernel
theorem dL_shifted_8 : decode cL_shifted 8 = .ok (.lastore, 1) := by decide +kernel
theorem dL_shifted_9 : decode cL_shifted 9 = .ok (.goto 6, 3) := by decide +kernel
theorem dL_shifted_12 : decode cL_shifted 12 = .ok (.astore_n 3, 1) := by decide +kernel
theorem dL_shifted_13 : decode cL_shifted 13 = .ok (.iconst 1, 1) := by decide +kernel
theorem dL_shifted_14 : decode cL_shifted 14 = .ok (.ireturn, 1) := by decide +kernel
theorem dL_shifted_15 : decode cL_shifted 15 = .ok (.iconst 0, 1) := by decide +kernel
theorem dL_shifted_16 : decode cL_shifted 16 = .ok (.ireturn, 1) := by decide +kernel
theorem dL_over_0 : decode cL_over 0 = .ok (.aload_n 3, 1) := by decide +kernel
theorem dL_over_1 : decode cL_over 1 = .ok (.iconst 0, 1) := by decide +kernel
theorem dL_over_2 : decode cL_over 2 = .ok (.aload_n 0, 1) := by decide +kernel
theorem dL_over_3 : decode cL_over 3 = .ok (.iload_n 1, 1) := by decide +kernel
theorem dL_over_4 : decode cL_over 4 = .ok (.iload_n 2, 1) := by decide +kernel
theorem dL_over_5 : decode cL_over 5 = .ok (.invokevirtual 15, 3) := by decide +kernel
theorem dL_over_8 : decode cL_over 8 = .ok (.i2l, 1) := by decide +kernel
theorem dL_over_9 : decode cL_over 9 = .ok (.lastore, 1) := by decide +kernel
theorem dL_over_10 : decode cL_over 10 = .ok (.goto 7, 3) := by decide +kernel
theorem dL_over_13 : decode cL_over 13 = .ok (.astore 4, 2) := by decide +kernel
theorem dL_over_15 : decode cL_over 15 = .ok (.iconst 1, 1) := by decide +kernel
theorem dL_over_16 : decode cL_over 16 = .ok (.ireturn, 1) := by decide +kernel
theorem dL_over_17 : decode cL_over 17 = .ok (.iconst 0, 1) := by decide +kernel
theorem dL_over_18 : decode cL_over 18 = .ok (.ireturn, 1) := by decide +kernel
theorem dL_apply_0 : decode cL_apply 0 = .ok (.aload 4, 2) := by decide +kernel
theorem dL_apply_2 : decode cL_apply 2 = .ok (.iconst 0, 1) := by decide +kernel
theorem dL_apply_3 : decode cL_apply 3 = .ok (.aload_n 0, 1) := by decide +kernel
theorem dL_apply_4 : decode cL_apply 4 = .ok (.iload_n 1, 1) := by decide +kernel
theorem dL_apply_5 : decode cL_apply 5 = .ok (.iload_n 2, 1) := by decide +kernel
theorem dL_apply_6 : decode cL_apply 6 = .ok (.iload_n 3, 1) := by decide +kernel
theorem dL_apply_7 : decode cL_apply 7 = .ok (.invokevirtual 21, 3) := by decide +kernel
theorem dL_apply_10 : decode cL_apply 10 = .ok (.i2l, 1) := by decide +kernel
theorem dL_apply_11 : decode cL_apply 11 = .ok (.lastore, 1) := by decide +kernel
theorem dL_apply_12 : decode cL_apply 12 = .ok (.goto 7, 3) := by decide +kernel
theorem dL_apply_15 : decode cL_apply 15 = .ok (.astore 5, 2) := by decide +kernel
theorem dL_apply_17 : decode cL_apply 17 = .ok (.iconst 1, 1) := by decide +kernel
theorem dL_apply_18 : decode cL_apply 18 = .ok (.ireturn, 1) := by decide +kernel
theorem dL_apply_19 : decode cL_apply 19 = .ok (.iconst 0, 1) := by decide +kernel
theorem dL_apply_20 : decode cL_apply 20 = .ok (.ireturn, 1) := by decide +kernel
theorem dL_power_0 : decode cL_power 0 = .ok (.aload_n 3, 1) := by decide +kernel
theorem dL_power_1 : decode cL_power 1 = .ok (.iconst 0, 1) := by decide +kernel
theorem dL_power_2 : decode cL_power 2 = .ok (.aload_n 0, 1) := by decide +kernel
theorem dL_power_3 : decode cL_power 3 = .ok (.iload_n 1, 1) := by decide +kernel
theorem dL_power_4 : decode cL_power 4 = .ok (.iload_n 2, 1) := by decide +kernel
theorem dL_power_5 : decode cL_power 5 = .ok (.invokevirtual 25, 3) := by decide +kernel
theorem dL_power_8 : decode cL_power 8 = .ok (.i2l, 1) := by decide +kernel
theorem dL_power_9 : decode cL_power 9 = .ok (.lastore, 1) := by decide +kernel
theorem dL_power_10 : decode cL_power 10 = .ok (.goto 7, 3) := by decide +kernel
theorem dL_power_13 : decode cL_power 13 = .ok (.astore 4, 2) := by decide +kernel
theorem dL_power_15 : decode cL_power 15 = .ok (.iconst 1, 1) := by decide +kernel
theorem dL_power_16 : decode cL_power 16 = .ok (.ireturn, 1) := by decide +kernel
theorem dL_power_17 : decode cL_power 17 = .ok (.iconst 0, 1) := by decide +kernel
theorem dL_power_18 : decode cL_power 18 = .ok (.ireturn, 1) := by decide +kernel
theorem dL_limb_0 : decode cL_limb 0 = .ok (.aload 4, 2) := by decide +kernel
theorem dL_limb_2 : decode cL_limb 2 = .ok (.iconst 0, 1) := by decide +kernel
theorem dL_limb_3 : decode cL_limb 3 = .ok (.aload_n 0, 1) := by decide +kernel
theorem dL_limb_4 : decode cL_limb 4 = .ok (.iload_n 1, 1) := by decide +kernel
theorem dL_limb_5 : decode cL_limb 5 = .ok (.iload_n 2, 1) := by decide +kernel
theorem dL_limb_6 : decode cL_limb 6 = .ok (.iload_n 3, 1) := by decide +kernel
theorem dL_limb_7 : decode cL_limb 7 = .ok (.invokevirtual 28, 3) := by decide +kernel
theorem dL_limb_10 : decode cL_limb 10 = .ok (.i2l, 1) := by decide +kernel
theorem dL_limb_11 : decode cL_limb 11 = .ok (.lastore, 1) := by decide +kernel
theorem dL_limb_12 : decode cL_limb 12 = .ok (.goto 7, 3) := by decide +kernel
theorem dL_limb_15 : decode cL_limb 15 = .ok (.astore 5, 2) := by decide +kernel
theorem dL_limb_17 : decode cL_limb 17 = .ok (.iconst 1, 1) := by decide +kernel
theorem dL_limb_18 : decode cL_limb 18 = .ok (.ireturn, 1) := by decide +kernel
theorem dL_limb_19 : decode cL_limb 19 = .ok (.iconst 0, 1) := by decide +kernel
theorem dL_limb_20 : decode cL_limb 20 = .ok (.ireturn, 1) := by decide +kernel
theorem dL_exact_0 : decode cL_exact 0 = .ok (.aload_n 3, 1) := by decide +kernel
theorem dL_exact_1 : decode cL_exact 1 = .ok (.iconst 0, 1) := by decide +kernel
theorem dL_exact_2 : decode cL_exact 2 = .ok (.aload_n 0, 1) := by decide +kernel
theorem dL_exact_3 : decode cL_exact 3 = .ok (.iload_n 1, 1) := by decide +kernel
theorem dL_exact_4 : decode cL_exact 4 = .ok (.iload_n 2, 1) := by decide +kernel
theorem dL_exact_5 : decode cL_exact 5 = .ok (.invokevirtual 33, 3) := by decide +kernel
theorem dL_exact_8 : decode cL_exact 8 = .ok (.lastore, 1) := by decide +kernel
theorem dL_exact_9 : decode cL_exact 9 = .ok (.goto 7, 3) := by decide +kernel
theorem dL_exact_12 : decode cL_exact 12 = .ok (.astore 4, 2) := by decide +kernel
theorem dL_exact_14 : decode cL_exact 14 = .ok (.iconst 1, 1) := by decide +kernel
theorem dL_exact_15 : decode cL_exact 15 = .ok (.ireturn, 1) := by decide +kernel
theorem dL_exact_16 : decode cL_exact 16 = .ok (.iconst 0, 1) := by decide +kernel
theorem dL_exact_17 : decode cL_exact 17 = .ok (.ireturn, 1) := by decide +kernel
theorem dL_ofReal_0 : decode cL_ofReal 0 = .ok (.aload_n 3, 1) := by decide +kernel
theorem dL_ofReal_1 : decode cL_ofReal 1 = .ok (.iconst 0, 1) := by decide +kernel
theorem dL_ofReal_2 : decode cL_ofReal 2 = .ok (.aload_n 0, 1) := by decide +kernel
theorem dL_ofReal_3 : decode cL_ofReal 3 = .ok (.lload_n 1, 1) := by decide +kernel
theorem dL_ofReal_4 : decode cL_ofReal 4 = .ok (.invokevirtual 37, 3) := by decide +kernel
theorem dL_ofReal_7 : decode cL_ofReal 7 = .ok (.i2l, 1) := by decide +kernel
theorem dL_ofReal_8 : decode cL_ofReal 8 = .ok (.lastore, 1) := by decide +kernel
theorem dL_ofReal_9 : decode cL_ofReal 9 = .ok (.goto 7, 3) := by decide +kernel
theorem dL_ofReal_12 : decode cL_ofReal 12 = .ok (.astore 4, 2) := by decide +kernel
theorem dL_ofReal_14 : decode cL_ofReal 14 = .ok (.iconst 1, 1) := by decide +kernel
theorem dL_ofReal_15 : decode cL_ofReal 15 = .ok (.ireturn, 1) := by decide +kernel
theorem dL_ofReal_16 : decode cL_ofReal 16 = .ok (.iconst 0, 1) := by decide +kernel
theorem dL_ofReal_17 : decode cL_ofReal 17 = .ok (.ireturn, 1) := by decide +kernel
theorem dL_read_0 : decode cL_read 0 = .ok (.aload_n 1, 1) := by decide +kernel
theorem dL_read_1 : decode cL_read 1 = .ok (.iconst 0, 1) := by decide +kernel
theorem dL_read_2 : decode cL_read 2 = .ok (.aload_n 0, 1) := by decide +kernel
theorem dL_read_3 : decode cL_read 3 = .ok (.invokevirtual 41, 3) := by decide +kernel
theorem dL_read_6 : decode cL_read 6 = .ok (.i2l, 1) := by decide +kernel
theorem dL_read_7 : decode cL_read 7 = .ok (.lastore, 1) := by decide +kernel
theorem dL_read_8 : decode cL_read 8 = .ok (.goto 6, 3) := by decide +kernel
theorem dL_read_11 : decode cL_read 11 = .ok (.astore_n 2, 1) := by decide +kernel
theorem dL_read_12 : decode cL_read 12 = .ok (.iconst 1, 1) := by decide +kernel
theorem dL_read_13 : decode cL_read 13 = .ok (.ireturn, 1) := by decide +kernel
theorem dL_read_14 : decode cL_read 14 = .ok (.iconst 0, 1) := by decide +kernel
theorem dL_read_15 : decode cL_read 15 = .ok (.ireturn, 1) := by decide +kernel
