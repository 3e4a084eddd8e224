theorem dL_append_0 : zD cL_append 0 (.aload_n 2) 1 1 := ⟨by decide +kernel, rfl⟩
theorem dL_append_1 : zD cL_append 1 (.iconst 0) 1 2 := ⟨by decide +kernel, rfl⟩
theorem dL_append_2 : zD cL_append 2 (.aload_n 0) 1 3 := ⟨by decide +kernel, rfl⟩
theorem dL_append_3 : zD cL_append 3 (.iload_n 1) 1 4 := ⟨by decide +kernel, rfl⟩
theorem dL_append_4 : zD cL_append 4 (.invokevirtual 7) 3 7 := ⟨by decide +kernel, rfl⟩
theorem dL_append_7 : zD cL_append 7 (.i2l) 1 8 := ⟨by decide +kernel, rfl⟩
theorem dL_append_8 : zD cL_append 8 (.lastore) 1 9 := ⟨by decide +kernel, rfl⟩
theorem dL_append_9 : zD cL_append 9 (.goto 9) 3 12 := ⟨by decide +kernel, rfl⟩
theorem dL_append_12 : zD cL_append 12 (.astore_n 3) 1 13 := ⟨by decide +kernel, rfl⟩
theorem dL_append_13 : zD cL_append 13 (.iconst 1) 1 14 := ⟨by decide +kernel, rfl⟩
theorem dL_append_14 : zD cL_append 14 (.ireturn) 1 15 := ⟨by decide +kernel, rfl⟩
theorem dL_append_15 : zD cL_append 15 (.astore_n 3) 1 16 := ⟨by decide +kernel, rfl⟩
theorem dL_append_16 : zD cL_append 16 (.iconst 2) 1 17 := ⟨by decide +kernel, rfl⟩
theorem dL_append_17 : zD cL_append 17 (.ireturn) 1 18 := ⟨by decide +kernel, rfl⟩
theorem dL_append_18 : zD cL_append 18 (.iconst 0) 1 19 := ⟨by decide +kernel, rfl⟩
theorem dL_append_19 : zD cL_append 19 (.ireturn) 1 20 := ⟨by decide +kernel, rfl⟩
theorem dL_load_0 : zD cL_load 0 (.aload_n 1) 1 1 := ⟨by decide +kernel, rfl⟩
theorem dL_load_1 : zD cL_load 1 (.iconst 0) 1 2 := ⟨by decide +kernel, rfl⟩
theorem dL_load_2 : zD cL_load 2 (.aload_n 0) 1 3 := ⟨by decide +kernel, rfl⟩
theorem dL_load_3 : zD cL_load 3 (.invokevirtual 17) 3 6 := ⟨by decide +kernel, rfl⟩
theorem dL_load_6 : zD cL_load 6 (.i2l) 1 7 := ⟨by decide +kernel, rfl⟩
theorem dL_load_7 : zD cL_load 7 (.lastore) 1 8 := ⟨by decide +kernel, rfl⟩
theorem dL_load_8 : zD cL_load 8 (.goto 6) 3 11 := ⟨by decide +kernel, rfl⟩
theorem dL_load_11 : zD cL_load 11 (.astore_n 2) 1 12 := ⟨by decide +kernel, rfl⟩
theorem dL_load_12 : zD cL_load 12 (.iconst 1) 1 13 := ⟨by decide +kernel, rfl⟩
theorem dL_load_13 : zD cL_load 13 (.ireturn) 1 14 := ⟨by decide +kernel, rfl⟩
theorem dL_load_14 : zD cL_load 14 (.iconst 0) 1 15 := ⟨by decide +kernel, rfl⟩
theorem dL_load_15 : zD cL_load 15 (.ireturn) 1 16 := ⟨by decide +kernel, rfl⟩
theorem dL_about_0 : zD cL_about 0 (.aload_n 2) 1 1 := ⟨by decide +kernel, rfl⟩
theorem dL_about_1 : zD cL_about 1 (.iconst 0) 1 2 := ⟨by decide +kernel, rfl⟩
theorem dL_about_2 : zD cL_about 2 (.aload_n 0) 1 3 := ⟨by decide +kernel, rfl⟩
theorem dL_about_3 : zD cL_about 3 (.iload_n 1) 1 4 := ⟨by decide +kernel, rfl⟩
theorem dL_about_4 : zD cL_about 4 (.invokevirtual 21) 3 7 := ⟨by decide +kernel, rfl⟩
theorem dL_about_7 : zD cL_about 7 (.i2l) 1 8 := ⟨by decide +kernel, rfl⟩
theorem dL_about_8 : zD cL_about 8 (.lastore) 1 9 := ⟨by decide +kernel, rfl⟩
theorem dL_about_9 : zD cL_about 9 (.goto 6) 3 12 := ⟨by decide +kernel, rfl⟩
theorem dL_about_12 : zD cL_about 12 (.astore_n 3) 1 13 := ⟨by decide +kernel, rfl⟩
theorem dL_about_13 : zD cL_about 13 (.iconst 1) 1 14 := ⟨by decide +kernel, rfl⟩
theorem dL_about_14 : zD cL_about 14 (.ireturn) 1 15 := ⟨by decide +kernel, rfl⟩
theorem dL_about_15 : zD cL_about 15 (.iconst 0) 1 16 := ⟨by decide +kernel, rfl⟩
theorem dL_about_16 : zD cL_about 16 (.ireturn) 1 17 := ⟨by decide +kernel, rfl⟩
theorem dL_conversion_0 : zD cL_conversion 0 (.aload_n 3) 1 1 := ⟨by decide +kernel, rfl⟩
theorem dL_conversion_1 : zD cL_conversion 1 (.iconst 0) 1 2 := ⟨by decide +kernel, rfl⟩
theorem dL_conversion_2 : zD cL_conversion 2 (.aload_n 0) 1 3 := ⟨by decide +kernel, rfl⟩
theorem dL_conversion_3 : zD cL_conversion 3 (.iload_n 1) 1 4 := ⟨by decide +kernel, rfl⟩
theorem dL_conversion_4 : zD cL_conversion 4 (.iload_n 2) 1 5 := ⟨by decide +kernel, rfl⟩
theorem dL_conversion_5 : zD cL_conversion 5 (.invokevirtual 24) 3 8 := ⟨by decide +kernel, rfl⟩
theorem dL_conversion_8 : zD cL_conversion 8 (.i2l) 1 9 := ⟨by decide +kernel, rfl⟩
theorem dL_conversion_9 : zD cL_conversion 9 (.lastore) 1 10 := ⟨by decide +kernel, rfl⟩
theorem dL_conversion_10 : zD cL_conversion 10 (.goto 11) 3 13 := ⟨by decide +kernel, rfl⟩
theorem dL_conversion_13 : zD cL_conversion 13 (.astore 4) 2 15 := ⟨by decide +kernel, rfl⟩
theorem dL_conversion_15 : zD cL_conversion 15 (.iconst 1) 1 16 := ⟨by decide +kernel, rfl⟩
theorem dL_conversion_16 : zD cL_conversion 16 (.ireturn) 1 17 := ⟨by decide +kernel, rfl⟩
theorem dL_conversion_17 : zD cL_conversion 17 (.astore 4) 2 19 := ⟨by decide +kernel, rfl⟩
theorem dL_conversion_19 : zD cL_conversion 19 (.iconst 2) 1 20 := ⟨by decide +kernel, rfl⟩
theorem dL_conversion_20 : zD cL_conversion 20 (.ireturn) 1 21 := ⟨by decide +kernel, rfl⟩
theorem dL_conversion_21 : zD cL_conversion 21 (.iconst 0) 1 22 := ⟨by decide +kernel, rfl⟩
theorem dL_conversion_22 : zD cL_conversion 22 (.ireturn) 1 23 := ⟨by decide +kernel, rfl⟩
theorem dL_place_0 : zD cL_place 0 (.aload_n 3) 1 1 := ⟨by decide +kernel, rfl⟩
theorem dL_place_1 : zD cL_place 1 (.iconst 0) 1 2 := ⟨by decide +kernel, rfl⟩
theorem dL_place_2 : zD cL_place 2 (.aload_n 0) 1 3 := ⟨by decide +kernel, rfl⟩
theorem dL_place_3 : zD cL_place 3 (.iload_n 1) 1 4 := ⟨by decide +kernel, rfl⟩
theorem dL_place_4 : zD cL_place 4 (.iload_n 2) 1 5 := ⟨by decide +kernel, rfl⟩
theorem dL_place_5 : zD cL_place 5 (.invokevirtual 30) 3 8 := ⟨by decide +kernel, rfl⟩
theorem dL_place_8 : zD cL_place 8 (.i2l) 1 9 := ⟨by decide +kernel, rfl⟩
theorem dL_place_9 : zD cL_place 9 (.lastore) 1 10 := ⟨by decide +kernel, rfl⟩
theorem dL_place_10 : zD cL_place 10 (.goto 11) 3 13 := ⟨by decide +kernel, rfl⟩
theorem dL_place_13 : zD cL_place 13 (.astore 4) 2 15 := ⟨by decide +kernel, rfl⟩
theorem dL_place_15 : zD cL_place 15 (.iconst 1) 1 16 := ⟨by decide +kernel, rfl⟩
theorem dL_place_16 : zD cL_place 16 (.ireturn) 1 17 := ⟨by decide +kernel, rfl⟩
theorem dL_place_17 : zD cL_place 17 (.astore 4) 2 19 := ⟨by decide +kernel, rfl⟩
theorem dL_place_19 : zD cL_place 19 (.iconst 2) 1 20 := ⟨by decide +kernel, rfl⟩
theorem dL_place_20 : zD cL_place 20 (.ireturn) 1 21 := ⟨by decide +kernel, rfl⟩
theorem dL_place_21 : zD cL_place 21 (.iconst 0) 1 22 := ⟨by decide +kernel, rfl⟩
theorem dL_place_22 : zD cL_place 22 (.ireturn) 1 23 := ⟨by decide +kernel, rfl⟩
theorem dL_entry_0 : zD cL_entry 0 (.aload_n 3) 1 1 := ⟨by decide +kernel, rfl⟩
theorem dL_entry_1 : zD cL_entry 1 (.iconst 0) 1 2 := ⟨by decide +kernel, rfl⟩
theorem dL_entry_2 : zD cL_entry 2 (.aload_n 0) 1 3 := ⟨by decide +kernel, rfl⟩
theorem dL_entry_3 : zD cL_entry 3 (.iload_n 1) 1 4 := ⟨by decide +kernel, rfl⟩
theorem dL_entry_4 : zD cL_entry 4 (.iload_n 2) 1 5 := ⟨by decide +kernel, rfl⟩
theorem dL_entry_5 : zD cL_entry 5 (.invokevirtual 33) 3 8 := ⟨by decide +kernel, rfl⟩
theorem dL_entry_8 : zD cL_entry 8 (.i2l) 1 9 := ⟨by decide +kernel, rfl⟩
theorem dL_entry_9 : zD cL_entry 9 (.lastore) 1 10 := ⟨by decide +kernel, rfl⟩
theorem dL_entry_10 : zD cL_entry 10 (.goto 11) 3 13 := ⟨by decide +kernel, rfl⟩
theorem dL_entry_13 : zD cL_entry 13 (.astore 4) 2 15 := ⟨by decide +kernel, rfl⟩
theorem dL_entry_15 : zD cL_entry 15 (.iconst 1) 1 16 := ⟨by decide +kernel, rfl⟩
theorem dL_entry_16 : zD cL_entry 16 (.ireturn) 1 17 := ⟨by decide +kernel, rfl⟩
theorem dL_entry_17 : zD cL_entry 17 (.astore 4) 2 19 := ⟨by decide +kernel, rfl⟩
theorem dL_entry_19 : zD cL_entry 19 (.iconst 2) 1 20 := ⟨by decide +kernel, rfl⟩
theorem dL_entry_20 : zD cL_entry 20 (.ireturn) 1 21 := ⟨by decide +kernel, rfl⟩
theorem dL_entry_21 : zD cL_entry 21 (.iconst 0) 1 22 := ⟨by decide +kernel, rfl⟩
theorem dL_entry_22 : zD cL_entry 22 (.ireturn) 1 23 := ⟨by decide +kernel, rfl⟩
theorem dL_form_0 : zD cL_form 0 (.aload 4) 2 2 := ⟨by decide +kernel, rfl⟩
theorem dL_form_2 : zD cL_form 2 (.iconst 0) 1 3 := ⟨by decide +kernel, rfl⟩
theorem dL_form_3 : zD cL_form 3 (.aload_n 0) 1 4 := ⟨by decide +kernel, rfl⟩
theorem dL_form_4 : zD cL_form 4 (.iload_n 1) 1 5 := ⟨by decide +kernel, rfl⟩
theorem dL_form_5 : zD cL_form 5 (.iload_n 2) 1 6 := ⟨by decide +kernel, rfl⟩
theorem dL_form_6 : zD cL_form 6 (.iload_n 3) 1 7 := ⟨by decide +kernel, rfl⟩
theorem dL_form_7 : zD cL_form 7 (.invokevirtual 36) 3 10 := ⟨by decide +kernel, rfl⟩
theorem dL_form_10 : zD cL_form 10 (.i2l) 1 11 := ⟨by decide +kernel, rfl⟩
theorem dL_form_11 : zD cL_form 11 (.lastore) 1 12 := ⟨by decide +kernel, rfl⟩
theorem dL_form_12 : zD cL_form 12 (.goto 7) 3 15 := ⟨by decide +kernel, rfl⟩
theorem dL_form_15 : zD cL_form 15 (.astore 5) 2 17 := ⟨by decide +kernel, rfl⟩
theorem dL_form_17 : zD cL_form 17 (.iconst 1) 1 18 := ⟨by decide +kernel, rfl⟩
theorem dL_form_18 : zD cL_form 18 (.ireturn) 1 19 := ⟨by decide +kernel, rfl⟩
theorem dL_form_19 : zD cL_form 19 (.iconst 0) 1 20 := ⟨by decide +kernel, rfl⟩
theorem dL_form_20 : zD cL_form 20 (.ireturn) 1 21 := ⟨by decide +kernel, rfl⟩
theorem dL_copy_0 : zD cL_copy 0 (.aload_n 3) 1 1 := ⟨by decide +kernel, rfl⟩
theorem dL_copy_1 : zD cL_copy 1 (.iconst 0) 1 2 := ⟨by decide +kernel, rfl⟩
theorem dL_copy_2 : zD cL_copy 2 (.aload_n 0) 1 3 := ⟨by decide +kernel, rfl⟩
theorem dL_copy_3 : zD cL_copy 3 (.iload_n 1) 1 4 := ⟨by decide +kernel, rfl⟩
theorem dL_copy_4 : zD cL_copy 4 (.iload_n 2) 1 5 := ⟨by decide +kernel, rfl⟩
theorem dL_copy_5 : zD cL_copy 5 (.invokevirtual 40) 3 8 := ⟨by decide +kernel, rfl⟩
theorem dL_copy_8 : zD cL_copy 8 (.i2l) 1 9 := ⟨by decide +kernel, rfl⟩
theorem dL_copy_9 : zD cL_copy 9 (.lastore) 1 10 := ⟨by decide +kernel, rfl⟩
theorem dL_copy_10 : zD cL_copy 10 (.goto 15) 3 13 := ⟨by decide +kernel, rfl⟩
theorem dL_copy_13 : zD cL_copy 13 (.astore 4) 2 15 := ⟨by decide +kernel, rfl⟩
theorem dL_copy_15 : zD cL_copy 15 (.iconst 1) 1 16 := ⟨by decide +kernel, rfl⟩
theorem dL_copy_16 : zD cL_copy 16 (.ireturn) 1 17 := ⟨by decide +kernel, rfl⟩
theorem dL_copy_17 : zD cL_copy 17 (.astore 4) 2 19 := ⟨by decide +kernel, rfl⟩
theorem dL_copy_19 : zD cL_copy 19 (.iconst 2) 1 20 := ⟨by decide +kernel, rfl⟩
theorem dL_copy_20 : zD cL_copy 20 (.ireturn) 1 21 := ⟨by decide +kernel, rfl⟩
theorem dL_copy_21 : zD cL_copy 21 (.astore 4) 2 23 := ⟨by decide +kernel, rfl⟩
theorem dL_copy_23 : zD cL_copy 23 (.iconst 3) 1 24 := ⟨by decide +kernel, rfl⟩
theorem dL_copy_24 : zD cL_copy 24 (.ireturn) 1 25 := ⟨by decide +kernel, rfl⟩
theorem dL_copy_25 : zD cL_copy 25 (.iconst 0) 1 26 := ⟨by decide +kernel, rfl⟩
theorem dL_copy_26 : zD cL_copy 26 (.ireturn) 1 27 := ⟨by decide +kernel, rfl⟩
theorem dL_offer_0 : zD cL_offer 0 (.aload_n 3) 1 1 := ⟨by decide +kernel, rfl⟩
theorem dL_offer_1 : zD cL_offer 1 (.iconst 0) 1 2 := ⟨by decide +kernel, rfl⟩
theorem dL_offer_2 : zD cL_offer 2 (.aload_n 0) 1 3 := ⟨by decide +kernel, rfl⟩
theorem dL_offer_3 : zD cL_offer 3 (.iload_n 1) 1 4 := ⟨by decide +kernel, rfl⟩
theorem dL_offer_4 : zD cL_offer 4 (.iload_n 2) 1 5 := ⟨by decide +kernel, rfl⟩
theorem dL_offer_5 : zD cL_offer 5 (.invokevirtual 43) 3 8 := ⟨by decide +kernel, rfl⟩
theorem dL_offer_8 : zD cL_offer 8 (.i2l) 1 9 := ⟨by decide +kernel, rfl⟩
theorem dL_offer_9 : zD cL_offer 9 (.lastore) 1 10 := ⟨by decide +kernel, rfl⟩
theorem dL_offer_10 : zD cL_offer 10 (.goto 15) 3 13 := ⟨by decide +kernel, rfl⟩
theorem dL_offer_13 : zD cL_offer 13 (.astore 4) 2 15 := ⟨by decide +kernel, rfl⟩
theorem dL_offer_15 : zD cL_offer 15 (.iconst 1) 1 16 := ⟨by decide +kernel, rfl⟩
theorem dL_offer_16 : zD cL_offer 16 (.ireturn) 1 17 := ⟨by decide +kernel, rfl⟩
theorem dL_offer_17 : zD cL_offer 17 (.astore 4) 2 19 := ⟨by decide +kernel, rfl⟩
theorem dL_offer_19 : zD cL_offer 19 (.iconst 2) 1 20 := ⟨by decide +kernel, rfl⟩
theorem dL_offer_20 : zD cL_offer 20 (.ireturn) 1 21 := ⟨by decide +kernel, rfl⟩
theorem dL_offer_21 : zD cL_offer 21 (.astore 4) 2 23 := ⟨by decide +kernel, rfl⟩
theorem dL_offer_23 : zD cL_offer 23 (.iconst 3) 1 24 := ⟨by decide +kernel, rfl⟩
theorem dL_offer_24 : zD cL_offer 24 (.ireturn) 1 25 := ⟨by decide +kernel, rfl⟩
theorem dL_offer_25 : zD cL_offer 25 (.iconst 0) 1 26 := ⟨by decide +kernel, rfl⟩
theorem dL_offer_26 : zD cL_offer 26 (.ireturn) 1 27 := ⟨by decide +kernel, rfl⟩
theorem dL_paste_0 : zD cL_paste 0 (.aload_n 3) 1 1 := ⟨by decide +kernel, rfl⟩
theorem dL_paste_1 : zD cL_paste 1 (.iconst 0) 1 2 := ⟨by decide +kernel, rfl⟩
theorem dL_paste_2 : zD cL_paste 2 (.aload_n 0) 1 3 := ⟨by decide +kernel, rfl⟩
theorem dL_paste_3 : zD cL_paste 3 (.iload_n 1) 1 4 := ⟨by decide +kernel, rfl⟩
theorem dL_paste_4 : zD cL_paste 4 (.iload_n 2) 1 5 := ⟨by decide +kernel, rfl⟩
theorem dL_paste_5 : zD cL_paste 5 (.invokevirtual 46) 3 8 := ⟨by decide +kernel, rfl⟩
theorem dL_paste_8 : zD cL_paste 8 (.i2l) 1 9 := ⟨by decide +kernel, rfl⟩
theorem dL_paste_9 : zD cL_paste 9 (.lastore) 1 10 := ⟨by decide +kernel, rfl⟩
theorem dL_paste_10 : zD cL_paste 10 (.goto 11) 3 13 := ⟨by decide +kernel, rfl⟩
theorem dL_paste_13 : zD cL_paste 13 (.astore 4) 2 15 := ⟨by decide +kernel, rfl⟩
theorem dL_paste_15 : zD cL_paste 15 (.iconst 1) 1 16 := ⟨by decide +kernel, rfl⟩
theorem dL_paste_16 : zD cL_paste 16 (.ireturn) 1 17 := ⟨by decide +kernel, rfl⟩
theorem dL_paste_17 : zD cL_paste 17 (.astore 4) 2 19 := ⟨by decide +kernel, rfl⟩
theorem dL_paste_19 : zD cL_paste 19 (.iconst 2) 1 20 := ⟨by decide +kernel, rfl⟩
theorem dL_paste_20 : zD cL_paste 20 (.ireturn) 1 21 := ⟨by decide +kernel, rfl⟩
theorem dL_paste_21 : zD cL_paste 21 (.iconst 0) 1 22 := ⟨by decide +kernel, rfl⟩
theorem dL_paste_22 : zD cL_paste 22 (.ireturn) 1 23 := ⟨by decide +kernel, rfl⟩
theorem dL_togglePin_0 : zD cL_togglePin 0 (.aload_n 2) 1 1 := ⟨by decide +kernel, rfl⟩
theorem dL_togglePin_1 : zD cL_togglePin 1 (.iconst 0) 1 2 := ⟨by decide +kernel, rfl⟩
theorem dL_togglePin_2 : zD cL_togglePin 2 (.aload_n 0) 1 3 := ⟨by decide +kernel, rfl⟩
theorem dL_togglePin_3 : zD cL_togglePin 3 (.iload_n 1) 1 4 := ⟨by decide +kernel, rfl⟩
theorem dL_togglePin_4 : zD cL_togglePin 4 (.invokevirtual 49) 3 7 := ⟨by decide +kernel, rfl⟩
theorem dL_togglePin_7 : zD cL_togglePin 7 (.i2l) 1 8 := ⟨by decide +kernel, rfl⟩
theorem dL_togglePin_8 : zD cL_togglePin 8 (.lastore) 1 9 := ⟨by decide +kernel, rfl⟩
theorem dL_togglePin_9 : zD cL_togglePin 9 (.goto 6) 3 12 := ⟨by decide +kernel, rfl⟩
theorem dL_togglePin_12 : zD cL_togglePin 12 (.astore_n 3) 1 13 := ⟨by decide +kernel, rfl⟩
theorem dL_togglePin_13 : zD cL_togglePin 13 (.iconst 1) 1 14 := ⟨by decide +kernel, rfl⟩
theorem dL_togglePin_14 : zD cL_togglePin 14 (.ireturn) 1 15 := ⟨by decide +kernel, rfl⟩
theorem dL_togglePin_15 : zD cL_togglePin 15 (.iconst 0) 1 16 := ⟨by decide +kernel, rfl⟩
theorem dL_togglePin_16 : zD cL_togglePin 16 (.ireturn) 1 17 := ⟨by decide +kernel, rfl⟩
theorem dL_remove_0 : zD cL_remove 0 (.aload_n 2) 1 1 := ⟨by decide +kernel, rfl⟩
theorem dL_remove_1 : zD cL_remove 1 (.iconst 0) 1 2 := ⟨by decide +kernel, rfl⟩
theorem dL_remove_2 : zD cL_remove 2 (.aload_n 0) 1 3 := ⟨by decide +kernel, rfl⟩
theorem dL_remove_3 : zD cL_remove 3 (.iload_n 1) 1 4 := ⟨by decide +kernel, rfl⟩
theorem dL_remove_4 : zD cL_remove 4 (.invokevirtual 52) 3 7 := ⟨by decide +kernel, rfl⟩
theorem dL_remove_7 : zD cL_remove 7 (.i2l) 1 8 := ⟨by decide +kernel, rfl⟩
theorem dL_remove_8 : zD cL_remove 8 (.lastore) 1 9 := ⟨by decide +kernel, rfl⟩
theorem dL_remove_9 : zD cL_remove 9 (.goto 6) 3 12 := ⟨by decide +kernel, rfl⟩
theorem dL_remove_12 : zD cL_remove 12 (.astore_n 3) 1 13 := ⟨by decide +kernel, rfl⟩
theorem dL_remove_13 : zD cL_remove 13 (.iconst 1) 1 14 := ⟨by decide +kernel, rfl⟩
theorem dL_remove_14 : zD cL_remove 14 (.ireturn) 1 15 := ⟨by decide +kernel, rfl⟩
theorem dL_remove_15 : zD cL_remove 15 (.iconst 0) 1 16 := ⟨by decide +kernel, rfl⟩
theorem dL_remove_16 : zD cL_remove 16 (.ireturn) 1 17 := ⟨by decide +kernel, rfl⟩
theorem dL_setBudget_0 : zD cL_setBudget 0 (.aload_n 2) 1 1 := ⟨by decide +kernel, rfl⟩
theorem dL_setBudget_1 : zD cL_setBudget 1 (.iconst 0) 1 2 := ⟨by decide +kernel, rfl⟩
theorem dL_setBudget_2 : zD cL_setBudget 2 (.aload_n 0) 1 3 := ⟨by decide +kernel, rfl⟩
theorem dL_setBudget_3 : zD cL_setBudget 3 (.iload_n 1) 1 4 := ⟨by decide +kernel, rfl⟩
theorem dL_setBudget_4 : zD cL_setBudget 4 (.invokevirtual 55) 3 7 := ⟨by decide +kernel, rfl⟩
theorem dL_setBudget_7 : zD cL_setBudget 7 (.i2l) 1 8 := ⟨by decide +kernel, rfl⟩
theorem dL_setBudget_8 : zD cL_setBudget 8 (.lastore) 1 9 := ⟨by decide +kernel, rfl⟩
theorem dL_setBudget_9 : zD cL_setBudget 9 (.goto 9) 3 12 := ⟨by decide +kernel, rfl⟩
theorem dL_setBudget_12 : zD cL_setBudget 12 (.astore_n 3) 1 13 := ⟨by decide +kernel, rfl⟩
theorem dL_setBudget_13 : zD cL_setBudget 13 (.iconst 1) 1 14 := ⟨by decide +kernel, rfl⟩
theorem dL_setBudget_14 : zD cL_setBudget 14 (.ireturn) 1 15 := ⟨by decide +kernel, rfl⟩
theorem dL_setBudget_15 : zD cL_setBudget 15 (.astore_n 3) 1 16 := ⟨by decide +kernel, rfl⟩
theorem dL_setBudget_16 : zD cL_setBudget 16 (.iconst 2) 1 17 := ⟨by decide +kernel, rfl⟩
theorem dL_setBudget_17 : zD cL_setBudget 17 (.ireturn) 1 18 := ⟨by decide +kernel, rfl⟩
theorem dL_setBudget_18 : zD cL_setBudget 18 (.iconst 0) 1 19 := ⟨by decide +kernel, rfl⟩
theorem dL_setBudget_19 : zD cL_setBudget 19 (.ireturn) 1 20 := ⟨by decide +kernel, rfl⟩
theorem dL_setCost_0 : zD cL_setCost 0 (.aload_n 3) 1 1 := ⟨by decide +kernel, rfl⟩
theorem dL_setCost_1 : zD cL_setCost 1 (.iconst 0) 1 2 := ⟨by decide +kernel, rfl⟩
theorem dL_setCost_2 : zD cL_setCost 2 (.aload_n 0) 1 3 := ⟨by decide +kernel, rfl⟩
theorem dL_setCost_3 : zD cL_setCost 3 (.iload_n 1) 1 4 := ⟨by decide +kernel, rfl⟩
theorem dL_setCost_4 : zD cL_setCost 4 (.iload_n 2) 1 5 := ⟨by decide +kernel, rfl⟩
theorem dL_setCost_5 : zD cL_setCost 5 (.invokevirtual 58) 3 8 := ⟨by decide +kernel, rfl⟩
theorem dL_setCost_8 : zD cL_setCost 8 (.i2l) 1 9 := ⟨by decide +kernel, rfl⟩
theorem dL_setCost_9 : zD cL_setCost 9 (.lastore) 1 10 := ⟨by decide +kernel, rfl⟩
theorem dL_setCost_10 : zD cL_setCost 10 (.goto 11) 3 13 := ⟨by decide +kernel, rfl⟩
theorem dL_setCost_13 : zD cL_setCost 13 (.astore 4) 2 15 := ⟨by decide +kernel, rfl⟩
theorem dL_setCost_15 : zD cL_setCost 15 (.iconst 1) 1 16 := ⟨by decide +kernel, rfl⟩
theorem dL_setCost_16 : zD cL_setCost 16 (.ireturn) 1 17 := ⟨by decide +kernel, rfl⟩
theorem dL_setCost_17 : zD cL_setCost 17 (.astore 4) 2 19 := ⟨by decide +kernel, rfl⟩
theorem dL_setCost_19 : zD cL_setCost 19 (.iconst 2) 1 20 := ⟨by decide +kernel, rfl⟩
theorem dL_setCost_20 : zD cL_setCost 20 (.ireturn) 1 21 := ⟨by decide +kernel, rfl⟩
theorem dL_setCost_21 : zD cL_setCost 21 (.iconst 0) 1 22 := ⟨by decide +kernel, rfl⟩
theorem dL_setCost_22 : zD cL_setCost 22 (.ireturn) 1 23 := ⟨by decide +kernel, rfl⟩
theorem dL_undo_0 : zD cL_undo 0 (.aload_n 1) 1 1 := ⟨by decide +kernel, rfl⟩
theorem dL_undo_1 : zD cL_undo 1 (.iconst 0) 1 2 := ⟨by decide +kernel, rfl⟩
theorem dL_undo_2 : zD cL_undo 2 (.aload_n 0) 1 3 := ⟨by decide +kernel, rfl⟩
theorem dL_undo_3 : zD cL_undo 3 (.invokevirtual 61) 3 6 := ⟨by decide +kernel, rfl⟩
theorem dL_undo_6 : zD cL_undo 6 (.i2l) 1 7 := ⟨by decide +kernel, rfl⟩
theorem dL_undo_7 : zD cL_undo 7 (.lastore) 1 8 := ⟨by decide +kernel, rfl⟩
theorem dL_undo_8 : zD cL_undo 8 (.goto 6) 3 11 := ⟨by decide +kernel, rfl⟩
theorem dL_undo_11 : zD cL_undo 11 (.astore_n 2) 1 12 := ⟨by decide +kernel, rfl⟩
theorem dL_undo_12 : zD cL_undo 12 (.iconst 1) 1 13 := ⟨by decide +kernel, rfl⟩
theorem dL_undo_13 : zD cL_undo 13 (.ireturn) 1 14 := ⟨by decide +kernel, rfl⟩
theorem dL_undo_14 : zD cL_undo 14 (.iconst 0) 1 15 := ⟨by decide +kernel, rfl⟩
theorem dL_undo_15 : zD cL_undo 15 (.ireturn) 1 16 := ⟨by decide +kernel, rfl⟩
theorem dL_path_0 : zD cL_path 0 (.aload 4) 2 2 := ⟨by decide +kernel, rfl⟩
theorem dL_path_2 : zD cL_path 2 (.iconst 0) 1 3 := ⟨by decide +kernel, rfl⟩
theorem dL_path_3 : zD cL_path 3 (.aload_n 0) 1 4 := ⟨by decide +kernel, rfl⟩
theorem dL_path_4 : zD cL_path 4 (.iload_n 1) 1 5 := ⟨by decide +kernel, rfl⟩
theorem dL_path_5 : zD cL_path 5 (.iload_n 2) 1 6 := ⟨by decide +kernel, rfl⟩
theorem dL_path_6 : zD cL_path 6 (.iload_n 3) 1 7 := ⟨by decide +kernel, rfl⟩
theorem dL_path_7 : zD cL_path 7 (.invokevirtual 64) 3 10 := ⟨by decide +kernel, rfl⟩
theorem dL_path_10 : zD cL_path 10 (.i2l) 1 11 := ⟨by decide +kernel, rfl⟩
theorem dL_path_11 : zD cL_path 11 (.lastore) 1 12 := ⟨by decide +kernel, rfl⟩
theorem dL_path_12 : zD cL_path 12 (.goto 11) 3 15 := ⟨by decide +kernel, rfl⟩
theorem dL_path_15 : zD cL_path 15 (.astore 5) 2 17 := ⟨by decide +kernel, rfl⟩
theorem dL_path_17 : zD cL_path 17 (.iconst 1) 1 18 := ⟨by decide +kernel, rfl⟩
theorem dL_path_18 : zD cL_path 18 (.ireturn) 1 19 := ⟨by decide +kernel, rfl⟩
theorem dL_path_19 : zD cL_path 19 (.astore 5) 2 21 := ⟨by decide +kernel, rfl⟩
theorem dL_path_21 : zD cL_path 21 (.iconst 2) 1 22 := ⟨by decide +kernel, rfl⟩
theorem dL_path_22 : zD cL_path 22 (.ireturn) 1 23 := ⟨by decide +kernel, rfl⟩
theorem dL_path_23 : zD cL_path 23 (.iconst 0) 1 24 := ⟨by decide +kernel, rfl⟩
theorem dL_path_24 : zD cL_path 24 (.ireturn) 1 25 := ⟨by decide +kernel, rfl⟩
theorem dL_step_0 : zD cL_step 0 (.aload 4) 2 2 := ⟨by decide +kernel, rfl⟩
theorem dL_step_2 : zD cL_step 2 (.iconst 0) 1 3 := ⟨by decide +kernel, rfl⟩
theorem dL_step_3 : zD cL_step 3 (.aload_n 0) 1 4 := ⟨by decide +kernel, rfl⟩
theorem dL_step_4 : zD cL_step 4 (.iload_n 1) 1 5 := ⟨by decide +kernel, rfl⟩
theorem dL_step_5 : zD cL_step 5 (.iload_n 2) 1 6 := ⟨by decide +kernel, rfl⟩
theorem dL_step_6 : zD cL_step 6 (.iload_n 3) 1 7 := ⟨by decide +kernel, rfl⟩
theorem dL_step_7 : zD cL_step 7 (.invokevirtual 68) 3 10 := ⟨by decide +kernel, rfl⟩
theorem dL_step_10 : zD cL_step 10 (.i2l) 1 11 := ⟨by decide +kernel, rfl⟩
theorem dL_step_11 : zD cL_step 11 (.lastore) 1 12 := ⟨by decide +kernel, rfl⟩
theorem dL_step_12 : zD cL_step 12 (.goto 11) 3 15 := ⟨by decide +kernel, rfl⟩
theorem dL_step_15 : zD cL_step 15 (.astore 5) 2 17 := ⟨by decide +kernel, rfl⟩
theorem dL_step_17 : zD cL_step 17 (.iconst 1) 1 18 := ⟨by decide +kernel, rfl⟩
theorem dL_step_18 : zD cL_step 18 (.ireturn) 1 19 := ⟨by decide +kernel, rfl⟩
theorem dL_step_19 : zD cL_step 19 (.astore 5) 2 21 := ⟨by decide +kernel, rfl⟩
theorem dL_step_21 : zD cL_step 21 (.iconst 2) 1 22 := ⟨by decide +kernel, rfl⟩
theorem dL_step_22 : zD cL_step 22 (.ireturn) 1 23 := ⟨by decide +kernel, rfl⟩
theorem dL_step_23 : zD cL_step 23 (.iconst 0) 1 24 := ⟨by decide +kernel, rfl⟩
theorem dL_step_24 : zD cL_step 24 (.ireturn) 1 25 := ⟨by decide +kernel, rfl⟩
theorem dL_sizeAfter_0 : zD cL_sizeAfter 0 (.aload 4) 2 2 := ⟨by decide +kernel, rfl⟩
theorem dL_sizeAfter_2 : zD cL_sizeAfter 2 (.iconst 0) 1 3 := ⟨by decide +kernel, rfl⟩
theorem dL_sizeAfter_3 : zD cL_sizeAfter 3 (.aload_n 0) 1 4 := ⟨by decide +kernel, rfl⟩
theorem dL_sizeAfter_4 : zD cL_sizeAfter 4 (.iload_n 1) 1 5 := ⟨by decide +kernel, rfl⟩
theorem dL_sizeAfter_5 : zD cL_sizeAfter 5 (.iload_n 2) 1 6 := ⟨by decide +kernel, rfl⟩
theorem dL_sizeAfter_6 : zD cL_sizeAfter 6 (.iload_n 3) 1 7 := ⟨by decide +kernel, rfl⟩
theorem dL_sizeAfter_7 : zD cL_sizeAfter 7 (.invokevirtual 71) 3 10 := ⟨by decide +kernel, rfl⟩
theorem dL_sizeAfter_10 : zD cL_sizeAfter 10 (.i2l) 1 11 := ⟨by decide +kernel, rfl⟩
theorem dL_sizeAfter_11 : zD cL_sizeAfter 11 (.lastore) 1 12 := ⟨by decide +kernel, rfl⟩
theorem dL_sizeAfter_12 : zD cL_sizeAfter 12 (.goto 11) 3 15 := ⟨by decide +kernel, rfl⟩
theorem dL_sizeAfter_15 : zD cL_sizeAfter 15 (.astore 5) 2 17 := ⟨by decide +kernel, rfl⟩
theorem dL_sizeAfter_17 : zD cL_sizeAfter 17 (.iconst 1) 1 18 := ⟨by decide +kernel, rfl⟩
theorem dL_sizeAfter_18 : zD cL_sizeAfter 18 (.ireturn) 1 19 := ⟨by decide +kernel, rfl⟩
theorem dL_sizeAfter_19 : zD cL_sizeAfter 19 (.astore 5) 2 21 := ⟨by decide +kernel, rfl⟩
theorem dL_sizeAfter_21 : zD cL_sizeAfter 21 (.iconst 2) 1 22 := ⟨by decide +kernel, rfl⟩
theorem dL_sizeAfter_22 : zD cL_sizeAfter 22 (.ireturn) 1 23 := ⟨by decide +kernel, rfl⟩
theorem dL_sizeAfter_23 : zD cL_sizeAfter 23 (.iconst 0) 1 24 := ⟨by decide +kernel, rfl⟩
theorem dL_sizeAfter_24 : zD cL_sizeAfter 24 (.ireturn) 1 25 := ⟨by decide +kernel, rfl⟩
theorem dL_reachable_0 : zD cL_reachable 0 (.aload_n 2) 1 1 := ⟨by decide +kernel, rfl⟩
theorem dL_reachable_1 : zD cL_reachable 1 (.iconst 0) 1 2 := ⟨by decide +kernel, rfl⟩
theorem dL_reachable_2 : zD cL_reachable 2 (.aload_n 0) 1 3 := ⟨by decide +kernel, rfl⟩
theorem dL_reachable_3 : zD cL_reachable 3 (.iload_n 1) 1 4 := ⟨by decide +kernel, rfl⟩
theorem dL_reachable_4 : zD cL_reachable 4 (.invokevirtual 74) 3 7 := ⟨by decide +kernel, rfl⟩
theorem dL_reachable_7 : zD cL_reachable 7 (.i2l) 1 8 := ⟨by decide +kernel, rfl⟩
theorem dL_reachable_8 : zD cL_reachable 8 (.lastore) 1 9 := ⟨by decide +kernel, rfl⟩
theorem dL_reachable_9 : zD cL_reachable 9 (.goto 6) 3 12 := ⟨by decide +kernel, rfl⟩
theorem dL_reachable_12 : zD cL_reachable 12 (.astore_n 3) 1 13 := ⟨by decide +kernel, rfl⟩
theorem dL_reachable_13 : zD cL_reachable 13 (.iconst 1) 1 14 := ⟨by decide +kernel, rfl⟩
theorem dL_reachable_14 : zD cL_reachable 14 (.ireturn) 1 15 := ⟨by decide +kernel, rfl⟩
theorem dL_reachable_15 : zD cL_reachable 15 (.iconst 0) 1 16 := ⟨by decide +kernel, rfl⟩
theorem dL_reachable_16 : zD cL_reachable 16 (.ireturn) 1 17 := ⟨by decide +kernel, rfl⟩
theorem dL_without_0 : zD cL_without 0 (.aload 4) 2 2 := ⟨by decide +kernel, rfl⟩
theorem dL_without_2 : zD cL_without 2 (.iconst 0) 1 3 := ⟨by decide +kernel, rfl⟩
theorem dL_without_3 : zD cL_without 3 (.aload_n 0) 1 4 := ⟨by decide +kernel, rfl⟩
theorem dL_without_4 : zD cL_without 4 (.iload_n 1) 1 5 := ⟨by decide +kernel, rfl⟩
theorem dL_without_5 : zD cL_without 5 (.iload_n 2) 1 6 := ⟨by decide +kernel, rfl⟩
theorem dL_without_6 : zD cL_without 6 (.iload_n 3) 1 7 := ⟨by decide +kernel, rfl⟩
theorem dL_without_7 : zD cL_without 7 (.invokevirtual 77) 3 10 := ⟨by decide +kernel, rfl⟩
theorem dL_without_10 : zD cL_without 10 (.i2l) 1 11 := ⟨by decide +kernel, rfl⟩
theorem dL_without_11 : zD cL_without 11 (.lastore) 1 12 := ⟨by decide +kernel, rfl⟩
theorem dL_without_12 : zD cL_without 12 (.goto 7) 3 15 := ⟨by decide +kernel, rfl⟩
theorem dL_without_15 : zD cL_without 15 (.astore 5) 2 17 := ⟨by decide +kernel, rfl⟩
theorem dL_without_17 : zD cL_without 17 (.iconst 1) 1 18 := ⟨by decide +kernel, rfl⟩
theorem dL_without_18 : zD cL_without 18 (.ireturn) 1 19 := ⟨by decide +kernel, rfl⟩
theorem dL_without_19 : zD cL_without 19 (.iconst 0) 1 20 := ⟨by decide +kernel, rfl⟩
theorem dL_without_20 : zD cL_without 20 (.ireturn) 1 21 := ⟨by decide +kernel, rfl⟩
theorem dL_worth_0 : zD cL_worth 0 (.aload_n 2) 1 1 := ⟨by decide +kernel, rfl⟩
theorem dL_worth_1 : zD cL_worth 1 (.iconst 0) 1 2 := ⟨by decide +kernel, rfl⟩
theorem dL_worth_2 : zD cL_worth 2 (.aload_n 0) 1 3 := ⟨by decide +kernel, rfl⟩
theorem dL_worth_3 : zD cL_worth 3 (.iload_n 1) 1 4 := ⟨by decide +kernel, rfl⟩
theorem dL_worth_4 : zD cL_worth 4 (.invokevirtual 80) 3 7 := ⟨by decide +kernel, rfl⟩
theorem dL_worth_7 : zD cL_worth 7 (.i2l) 1 8 := ⟨by decide +kernel, rfl⟩
theorem dL_worth_8 : zD cL_worth 8 (.lastore) 1 9 := ⟨by decide +kernel, rfl⟩
theorem dL_worth_9 : zD cL_worth 9 (.goto 6) 3 12 := ⟨by decide +kernel, rfl⟩
theorem dL_worth_12 : zD cL_worth 12 (.astore_n 3) 1 13 := ⟨by decide +kernel, rfl⟩
theorem dL_worth_13 : zD cL_worth 13 (.iconst 1) 1 14 := ⟨by decide +kernel, rfl⟩
theorem dL_worth_14 : zD cL_worth 14 (.ireturn) 1 15 := ⟨by decide +kernel, rfl⟩
theorem dL_worth_15 : zD cL_worth 15 (.iconst 0) 1 16 := ⟨by decide +kernel, rfl⟩
theorem dL_worth_16 : zD cL_worth 16 (.ireturn) 1 17 := ⟨by decide +kernel, rfl⟩
theorem dL_between_0 : zD cL_between 0 (.aload_n 2) 1 1 := ⟨by decide +kernel, rfl⟩
theorem dL_between_1 : zD cL_between 1 (.iconst 0) 1 2 := ⟨by decide +kernel, rfl⟩
theorem dL_between_2 : zD cL_between 2 (.aload_n 0) 1 3 := ⟨by decide +kernel, rfl⟩
theorem dL_between_3 : zD cL_between 3 (.iload_n 1) 1 4 := ⟨by decide +kernel, rfl⟩
theorem dL_between_4 : zD cL_between 4 (.invokevirtual 83) 3 7 := ⟨by decide +kernel, rfl⟩
theorem dL_between_7 : zD cL_between 7 (.i2l) 1 8 := ⟨by decide +kernel, rfl⟩
theorem dL_between_8 : zD cL_between 8 (.lastore) 1 9 := ⟨by decide +kernel, rfl⟩
theorem dL_between_9 : zD cL_between 9 (.goto 6) 3 12 := ⟨by decide +kernel, rfl⟩
theorem dL_between_12 : zD cL_between 12 (.astore_n 3) 1 13 := ⟨by decide +kernel, rfl⟩
theorem dL_between_13 : zD cL_between 13 (.iconst 1) 1 14 := ⟨by decide +kernel, rfl⟩
theorem dL_between_14 : zD cL_between 14 (.ireturn) 1 15 := ⟨by decide +kernel, rfl⟩
theorem dL_between_15 : zD cL_between 15 (.iconst 0) 1 16 := ⟨by decide +kernel, rfl⟩
theorem dL_between_16 : zD cL_between 16 (.ireturn) 1 17 := ⟨by decide +kernel, rfl⟩
theorem dL_way_0 : zD cL_way 0 (.aload 4) 2 2 := ⟨by decide +kernel, rfl⟩
theorem dL_way_2 : zD cL_way 2 (.iconst 0) 1 3 := ⟨by decide +kernel, rfl⟩
theorem dL_way_3 : zD cL_way 3 (.aload_n 0) 1 4 := ⟨by decide +kernel, rfl⟩
theorem dL_way_4 : zD cL_way 4 (.iload_n 1) 1 5 := ⟨by decide +kernel, rfl⟩
theorem dL_way_5 : zD cL_way 5 (.iload_n 2) 1 6 := ⟨by decide +kernel, rfl⟩
theorem dL_way_6 : zD cL_way 6 (.iload_n 3) 1 7 := ⟨by decide +kernel, rfl⟩
theorem dL_way_7 : zD cL_way 7 (.invokevirtual 86) 3 10 := ⟨by decide +kernel, rfl⟩
theorem dL_way_10 : zD cL_way 10 (.i2l) 1 11 := ⟨by decide +kernel, rfl⟩
theorem dL_way_11 : zD cL_way 11 (.lastore) 1 12 := ⟨by decide +kernel, rfl⟩
theorem dL_way_12 : zD cL_way 12 (.goto 11) 3 15 := ⟨by decide +kernel, rfl⟩
theorem dL_way_15 : zD cL_way 15 (.astore 5) 2 17 := ⟨by decide +kernel, rfl⟩
theorem dL_way_17 : zD cL_way 17 (.iconst 1) 1 18 := ⟨by decide +kernel, rfl⟩
theorem dL_way_18 : zD cL_way 18 (.ireturn) 1 19 := ⟨by decide +kernel, rfl⟩
theorem dL_way_19 : zD cL_way 19 (.astore 5) 2 21 := ⟨by decide +kernel, rfl⟩
theorem dL_way_21 : zD cL_way 21 (.iconst 2) 1 22 := ⟨by decide +kernel, rfl⟩
theorem dL_way_22 : zD cL_way 22 (.ireturn) 1 23 := ⟨by decide +kernel, rfl⟩
theorem dL_way_23 : zD cL_way 23 (.iconst 0) 1 24 := ⟨by decide +kernel, rfl⟩
theorem dL_way_24 : zD cL_way 24 (.ireturn) 1 25 := ⟨by decide +kernel, rfl⟩
theorem dL_bestFor_0 : zD cL_bestFor 0 (.aload_n 2) 1 1 := ⟨by decide +kernel, rfl⟩
theorem dL_bestFor_1 : zD cL_bestFor 1 (.iconst 0) 1 2 := ⟨by decide +kernel, rfl⟩
theorem dL_bestFor_2 : zD cL_bestFor 2 (.aload_n 0) 1 3 := ⟨by decide +kernel, rfl⟩
theorem dL_bestFor_3 : zD cL_bestFor 3 (.iload_n 1) 1 4 := ⟨by decide +kernel, rfl⟩
theorem dL_bestFor_4 : zD cL_bestFor 4 (.invokevirtual 89) 3 7 := ⟨by decide +kernel, rfl⟩
theorem dL_bestFor_7 : zD cL_bestFor 7 (.i2l) 1 8 := ⟨by decide +kernel, rfl⟩
theorem dL_bestFor_8 : zD cL_bestFor 8 (.lastore) 1 9 := ⟨by decide +kernel, rfl⟩
theorem dL_bestFor_9 : zD cL_bestFor 9 (.goto 6) 3 12 := ⟨by decide +kernel, rfl⟩
theorem dL_bestFor_12 : zD cL_bestFor 12 (.astore_n 3) 1 13 := ⟨by decide +kernel, rfl⟩
theorem dL_bestFor_13 : zD cL_bestFor 13 (.iconst 1) 1 14 := ⟨by decide +kernel, rfl⟩
theorem dL_bestFor_14 : zD cL_bestFor 14 (.ireturn) 1 15 := ⟨by decide +kernel, rfl⟩
theorem dL_bestFor_15 : zD cL_bestFor 15 (.iconst 0) 1 16 := ⟨by decide +kernel, rfl⟩
theorem dL_bestFor_16 : zD cL_bestFor 16 (.ireturn) 1 17 := ⟨by decide +kernel, rfl⟩
theorem dL_victims_0 : zD cL_victims 0 (.aload_n 2) 1 1 := ⟨by decide +kernel, rfl⟩
theorem dL_victims_1 : zD cL_victims 1 (.iconst 0) 1 2 := ⟨by decide +kernel, rfl⟩
theorem dL_victims_2 : zD cL_victims 2 (.aload_n 0) 1 3 := ⟨by decide +kernel, rfl⟩
theorem dL_victims_3 : zD cL_victims 3 (.iload_n 1) 1 4 := ⟨by decide +kernel, rfl⟩
theorem dL_victims_4 : zD cL_victims 4 (.invokevirtual 92) 3 7 := ⟨by decide +kernel, rfl⟩
theorem dL_victims_7 : zD cL_victims 7 (.i2l) 1 8 := ⟨by decide +kernel, rfl⟩
theorem dL_victims_8 : zD cL_victims 8 (.lastore) 1 9 := ⟨by decide +kernel, rfl⟩
theorem dL_victims_9 : zD cL_victims 9 (.goto 6) 3 12 := ⟨by decide +kernel, rfl⟩
theorem dL_victims_12 : zD cL_victims 12 (.astore_n 3) 1 13 := ⟨by decide +kernel, rfl⟩
theorem dL_victims_13 : zD cL_victims 13 (.iconst 1) 1 14 := ⟨by decide +kernel, rfl⟩
theorem dL_victims_14 : zD cL_victims 14 (.ireturn) 1 15 := ⟨by decide +kernel, rfl⟩
theorem dL_victims_15 : zD cL_victims 15 (.iconst 0) 1 16 := ⟨by decide +kernel, rfl⟩
theorem dL_victims_16 : zD cL_victims 16 (.ireturn) 1 17 := ⟨by decide +kernel, rfl⟩
theorem dL_ranked_0 : zD cL_ranked 0 (.aload_n 2) 1 1 := ⟨by decide +kernel, rfl⟩
theorem dL_ranked_1 : zD cL_ranked 1 (.iconst 0) 1 2 := ⟨by decide +kernel, rfl⟩
theorem dL_ranked_2 : zD cL_ranked 2 (.aload_n 0) 1 3 := ⟨by decide +kernel, rfl⟩
theorem dL_ranked_3 : zD cL_ranked 3 (.iload_n 1) 1 4 := ⟨by decide +kernel, rfl⟩
theorem dL_ranked_4 : zD cL_ranked 4 (.invokevirtual 95) 3 7 := ⟨by decide +kernel, rfl⟩
theorem dL_ranked_7 : zD cL_ranked 7 (.i2l) 1 8 := ⟨by decide +kernel, rfl⟩
theorem dL_ranked_8 : zD cL_ranked 8 (.lastore) 1 9 := ⟨by decide +kernel, rfl⟩
theorem dL_ranked_9 : zD cL_ranked 9 (.goto 6) 3 12 := ⟨by decide +kernel, rfl⟩
theorem dL_ranked_12 : zD cL_ranked 12 (.astore_n 3) 1 13 := ⟨by decide +kernel, rfl⟩
theorem dL_ranked_13 : zD cL_ranked 13 (.iconst 1) 1 14 := ⟨by decide +kernel, rfl⟩
theorem dL_ranked_14 : zD cL_ranked 14 (.ireturn) 1 15 := ⟨by decide +kernel, rfl⟩
theorem dL_ranked_15 : zD cL_ranked 15 (.iconst 0) 1 16 := ⟨by decide +kernel, rfl⟩
theorem dL_ranked_16 : zD cL_ranked 16 (.ireturn) 1 17 := ⟨by decide +kernel, rfl⟩
theorem dL_runScript_0 : zD cL_runScript 0 (.aload 4) 2 2 := ⟨by decide +kernel, rfl⟩
theorem dL_runScript_2 : zD cL_runScript 2 (.iconst 0) 1 3 := ⟨by decide +kernel, rfl⟩
theorem dL_runScript_3 : zD cL_runScript 3 (.aload_n 0) 1 4 := ⟨by decide +kernel, rfl⟩
theorem dL_runScript_4 : zD cL_runScript 4 (.iload_n 1) 1 5 := ⟨by decide +kernel, rfl⟩
theorem dL_runScript_5 : zD cL_runScript 5 (.lload_n 2) 1 6 := ⟨by decide +kernel, rfl⟩
theorem dL_runScript_6 : zD cL_runScript 6 (.invokevirtual 98) 3 9 := ⟨by decide +kernel, rfl⟩
theorem dL_runScript_9 : zD cL_runScript 9 (.i2l) 1 10 := ⟨by decide +kernel, rfl⟩
theorem dL_runScript_10 : zD cL_runScript 10 (.lastore) 1 11 := ⟨by decide +kernel, rfl⟩
theorem dL_runScript_11 : zD cL_runScript 11 (.goto 7) 3 14 := ⟨by decide +kernel, rfl⟩
theorem dL_runScript_14 : zD cL_runScript 14 (.astore 5) 2 16 := ⟨by decide +kernel, rfl⟩
theorem dL_runScript_16 : zD cL_runScript 16 (.iconst 1) 1 17 := ⟨by decide +kernel, rfl⟩
theorem dL_runScript_17 : zD cL_runScript 17 (.ireturn) 1 18 := ⟨by decide +kernel, rfl⟩
theorem dL_runScript_18 : zD cL_runScript 18 (.iconst 0) 1 19 := ⟨by decide +kernel, rfl⟩
theorem dL_runScript_19 : zD cL_runScript 19 (.ireturn) 1 20 := ⟨by decide +kernel, rfl⟩
theorem dL_simulate_0 : zD cL_simulate 0 (.aload 4) 2 2 := ⟨by decide +kernel, rfl⟩
theorem dL_simulate_2 : zD cL_simulate 2 (.iconst 0) 1 3 := ⟨by decide +kernel, rfl⟩
theorem dL_simulate_3 : zD cL_simulate 3 (.aload_n 0) 1 4 := ⟨by decide +kernel, rfl⟩
theorem dL_simulate_4 : zD cL_simulate 4 (.lload_n 1) 1 5 := ⟨by decide +kernel, rfl⟩
theorem dL_simulate_5 : zD cL_simulate 5 (.iload_n 3) 1 6 := ⟨by decide +kernel, rfl⟩
theorem dL_simulate_6 : zD cL_simulate 6 (.invokevirtual 102) 3 9 := ⟨by decide +kernel, rfl⟩
theorem dL_simulate_9 : zD cL_simulate 9 (.i2l) 1 10 := ⟨by decide +kernel, rfl⟩
theorem dL_simulate_10 : zD cL_simulate 10 (.lastore) 1 11 := ⟨by decide +kernel, rfl⟩
theorem dL_simulate_11 : zD cL_simulate 11 (.goto 7) 3 14 := ⟨by decide +kernel, rfl⟩
theorem dL_simulate_14 : zD cL_simulate 14 (.astore 5) 2 16 := ⟨by decide +kernel, rfl⟩
theorem dL_simulate_16 : zD cL_simulate 16 (.iconst 1) 1 17 := ⟨by decide +kernel, rfl⟩
theorem dL_simulate_17 : zD cL_simulate 17 (.ireturn) 1 18 := ⟨by decide +kernel, rfl⟩
theorem dL_simulate_18 : zD cL_simulate 18 (.iconst 0) 1 19 := ⟨by decide +kernel, rfl⟩
theorem dL_simulate_19 : zD cL_simulate 19 (.ireturn) 1 20 := ⟨by decide +kernel, rfl⟩
theorem dL_save_0 : zD cL_save 0 (.aload_n 2) 1 1 := ⟨by decide +kernel, rfl⟩
theorem dL_save_1 : zD cL_save 1 (.iconst 0) 1 2 := ⟨by decide +kernel, rfl⟩
theorem dL_save_2 : zD cL_save 2 (.aload_n 0) 1 3 := ⟨by decide +kernel, rfl⟩
theorem dL_save_3 : zD cL_save 3 (.iload_n 1) 1 4 := ⟨by decide +kernel, rfl⟩
theorem dL_save_4 : zD cL_save 4 (.invokevirtual 106) 3 7 := ⟨by decide +kernel, rfl⟩
theorem dL_save_7 : zD cL_save 7 (.i2l) 1 8 := ⟨by decide +kernel, rfl⟩
theorem dL_save_8 : zD cL_save 8 (.lastore) 1 9 := ⟨by decide +kernel, rfl⟩
theorem dL_save_9 : zD cL_save 9 (.goto 6) 3 12 := ⟨by decide +kernel, rfl⟩
theorem dL_save_12 : zD cL_save 12 (.astore_n 3) 1 13 := ⟨by decide +kernel, rfl⟩
theorem dL_save_13 : zD cL_save 13 (.iconst 1) 1 14 := ⟨by decide +kernel, rfl⟩
theorem dL_save_14 : zD cL_save 14 (.ireturn) 1 15 := ⟨by decide +kernel, rfl⟩
theorem dL_save_15 : zD cL_save 15 (.iconst 0) 1 16 := ⟨by decide +kernel, rfl⟩
theorem dL_save_16 : zD cL_save 16 (.ireturn) 1 17 := ⟨by decide +kernel, rfl⟩
theorem dL_restore_0 : zD cL_restore 0 (.aload_n 2) 1 1 := ⟨by decide +kernel, rfl⟩
theorem dL_restore_1 : zD cL_restore 1 (.iconst 0) 1 2 := ⟨by decide +kernel, rfl⟩
theorem dL_restore_2 : zD cL_restore 2 (.aload_n 0) 1 3 := ⟨by decide +kernel, rfl⟩
theorem dL_restore_3 : zD cL_restore 3 (.iload_n 1) 1 4 := ⟨by decide +kernel, rfl⟩
theorem dL_restore_4 : zD cL_restore 4 (.invokevirtual 109) 3 7 := ⟨by decide +kernel, rfl⟩
theorem dL_restore_7 : zD cL_restore 7 (.i2l) 1 8 := ⟨by decide +kernel, rfl⟩
theorem dL_restore_8 : zD cL_restore 8 (.lastore) 1 9 := ⟨by decide +kernel, rfl⟩
theorem dL_restore_9 : zD cL_restore 9 (.goto 9) 3 12 := ⟨by decide +kernel, rfl⟩
theorem dL_restore_12 : zD cL_restore 12 (.astore_n 3) 1 13 := ⟨by decide +kernel, rfl⟩
theorem dL_restore_13 : zD cL_restore 13 (.iconst 1) 1 14 := ⟨by decide +kernel, rfl⟩
theorem dL_restore_14 : zD cL_restore 14 (.ireturn) 1 15 := ⟨by decide +kernel, rfl⟩
theorem dL_restore_15 : zD cL_restore 15 (.astore_n 3) 1 16 := ⟨by decide +kernel, rfl⟩
theorem dL_restore_16 : zD cL_restore 16 (.iconst 2) 1 17 := ⟨by decide +kernel, rfl⟩
theorem dL_restore_17 : zD cL_restore 17 (.ireturn) 1 18 := ⟨by decide +kernel, rfl⟩
theorem dL_restore_18 : zD cL_restore 18 (.iconst 0) 1 19 := ⟨by decide +kernel, rfl⟩
theorem dL_restore_19 : zD cL_restore 19 (.ireturn) 1 20 := ⟨by decide +kernel, rfl⟩
def fL_append (h : zH) (a0 : Nat) (a1 : Int32) (a2 : Nat) : Option (Int32 × zH) :=
    zb5 (fX6_append h (a0) (a1)) (fun w1 h2 =>
    (zbJ h2 a2 (0) ((w1 : Int32).toInt64)).bind fun h5 =>
    some (0, h5))
    (fun E3 h4 => if E3 = "java/lang/IllegalArgumentException" then
    some (1, h4)
    else if E3 = "java/lang/IllegalStateException" then
    some (2, h4)
    else none)
def fL_load (h : zH) (a0 : Nat) (a1 : Nat) : Option (Int32 × zH) :=
    zb5 (fX6_load h (a0)) (fun w1 h2 =>
    (zbJ h2 a1 (0) ((w1 : Int32).toInt64)).bind fun h5 =>
    some (0, h5))
    (fun E3 h4 => if E3 = "java/lang/IllegalStateException" then
    some (1, h4)
    else none)
def fL_about (h : zH) (a0 : Nat) (a1 : Int32) (a2 : Nat) : Option (Int32 × zH) :=
    zb5 (fX6_about h (a0) (a1)) (fun w1 h2 =>
    (zbJ h2 a2 (0) ((w1 : Int32).toInt64)).bind fun h5 =>
    some (0, h5))
    (fun E3 h4 => if E3 = "java/lang/IllegalArgumentException" then
    some (1, h4)
    else none)
def fL_conversion (h : zH) (a0 : Nat) (a1 : Int32) (a2 : Int32) (a3 : Nat) : Option (Int32 × zH) :=
    zb5 (fX6_conversion h (a0) (a1) (a2)) (fun w1 h2 =>
    (zbJ h2 a3 (0) ((w1 : Int32).toInt64)).bind fun h5 =>
    some (0, h5))
    (fun E3 h4 => if E3 = "java/lang/IndexOutOfBoundsException" then
    some (1, h4)
    else if E3 = "java/lang/IllegalArgumentException" then
    some (2, h4)
    else none)
def fL_place (h : zH) (a0 : Nat) (a1 : Int32) (a2 : Int32) (a3 : Nat) : Option (Int32 × zH) :=
    zb5 (fX6_place h (a0) (a1) (a2)) (fun w1 h2 =>
    (zbJ h2 a3 (0) ((w1 : Int32).toInt64)).bind fun h5 =>
    some (0, h5))
    (fun E3 h4 => if E3 = "java/lang/IndexOutOfBoundsException" then
    some (1, h4)
    else if E3 = "java/lang/IllegalArgumentException" then
    some (2, h4)
    else none)
def fL_entry (h : zH) (a0 : Nat) (a1 : Int32) (a2 : Int32) (a3 : Nat) : Option (Int32 × zH) :=
    zb5 (fX6_entry h (a0) (a1) (a2)) (fun w1 h2 =>
    (zbJ h2 a3 (0) ((w1 : Int32).toInt64)).bind fun h5 =>
    some (0, h5))
    (fun E3 h4 => if E3 = "java/lang/IndexOutOfBoundsException" then
    some (1, h4)
    else if E3 = "java/lang/IllegalArgumentException" then
    some (2, h4)
    else none)
def fL_form (h : zH) (a0 : Nat) (a1 : Int32) (a2 : Int32) (a3 : Int32) (a4 : Nat) : Option (Int32 × zH) :=
    zb5 (fX6_form h (a0) (a1) (a2) (a3)) (fun w1 h2 =>
    (zbJ h2 a4 (0) ((w1 : Int32).toInt64)).bind fun h5 =>
    some (0, h5))
    (fun E3 h4 => if E3 = "java/lang/IndexOutOfBoundsException" then
    some (1, h4)
    else none)
def fL_copy (h : zH) (a0 : Nat) (a1 : Int32) (a2 : Int32) (a3 : Nat) : Option (Int32 × zH) :=
    zb5 (fX6_copy h (a0) (a1) (a2)) (fun w1 h2 =>
    (zbJ h2 a3 (0) ((w1 : Int32).toInt64)).bind fun h5 =>
    some (0, h5))
    (fun E3 h4 => if E3 = "java/lang/IndexOutOfBoundsException" then
    some (1, h4)
    else if E3 = "java/lang/IllegalArgumentException" then
    some (2, h4)
    else if E3 = "java/lang/IllegalStateException" then
    some (3, h4)
    else none)
def fL_offer (h : zH) (a0 : Nat) (a1 : Int32) (a2 : Int32) (a3 : Nat) : Option (Int32 × zH) :=
    zb5 (fX6_offer h (a0) (a1) (a2)) (fun w1 h2 =>
    (zbJ h2 a3 (0) ((w1 : Int32).toInt64)).bind fun h5 =>
    some (0, h5))
    (fun E3 h4 => if E3 = "java/lang/IndexOutOfBoundsException" then
    some (1, h4)
    else if E3 = "java/lang/IllegalArgumentException" then
    some (2, h4)
    else if E3 = "java/lang/IllegalStateException" then
    some (3, h4)
    else none)
def fL_paste (h : zH) (a0 : Nat) (a1 : Int32) (a2 : Int32) (a3 : Nat) : Option (Int32 × zH) :=
    zb5 (fX6_paste h (a0) (a1) (a2)) (fun w1 h2 =>
    (zbJ h2 a3 (0) ((w1 : Int32).toInt64)).bind fun h5 =>
    some (0, h5))
    (fun E3 h4 => if E3 = "java/lang/IndexOutOfBoundsException" then
    some (1, h4)
    else if E3 = "java/lang/IllegalStateException" then
    some (2, h4)
    else none)
def fL_togglePin (h : zH) (a0 : Nat) (a1 : Int32) (a2 : Nat) : Option (Int32 × zH) :=
    zb5 (fX6_togglePin h (a0) (a1)) (fun w1 h2 =>
    (zbJ h2 a2 (0) ((w1 : Int32).toInt64)).bind fun h5 =>
    some (0, h5))
    (fun E3 h4 => if E3 = "java/lang/IndexOutOfBoundsException" then
    some (1, h4)
    else none)
def fL_remove (h : zH) (a0 : Nat) (a1 : Int32) (a2 : Nat) : Option (Int32 × zH) :=
    zb5 (fX6_remove h (a0) (a1)) (fun w1 h2 =>
    (zbJ h2 a2 (0) ((w1 : Int32).toInt64)).bind fun h5 =>
    some (0, h5))
    (fun E3 h4 => if E3 = "java/lang/IndexOutOfBoundsException" then
    some (1, h4)
    else none)
def fL_setBudget (h : zH) (a0 : Nat) (a1 : Int32) (a2 : Nat) : Option (Int32 × zH) :=
    zb5 (fX6_setBudget h (a0) (a1)) (fun w1 h2 =>
    (zbJ h2 a2 (0) ((w1 : Int32).toInt64)).bind fun h5 =>
    some (0, h5))
    (fun E3 h4 => if E3 = "java/lang/IllegalArgumentException" then
    some (1, h4)
    else if E3 = "java/lang/IllegalStateException" then
    some (2, h4)
    else none)
def fL_setCost (h : zH) (a0 : Nat) (a1 : Int32) (a2 : Int32) (a3 : Nat) : Option (Int32 × zH) :=
    zb5 (fX6_setCost h (a0) (a1) (a2)) (fun w1 h2 =>
    (zbJ h2 a3 (0) ((w1 : Int32).toInt64)).bind fun h5 =>
    some (0, h5))
    (fun E3 h4 => if E3 = "java/lang/IndexOutOfBoundsException" then
    some (1, h4)
    else if E3 = "java/lang/IllegalArgumentException" then
    some (2, h4)
    else none)
def fL_undo (h : zH) (a0 : Nat) (a1 : Nat) : Option (Int32 × zH) :=
    zb5 (fX6_undo h (a0)) (fun w1 h2 =>
    (zbJ h2 a1 (0) ((w1 : Int32).toInt64)).bind fun h5 =>
    some (0, h5))
    (fun E3 h4 => if E3 = "java/lang/IllegalStateException" then
    some (1, h4)
    else none)
def fL_path (h : zH) (a0 : Nat) (a1 : Int32) (a2 : Int32) (a3 : Int32) (a4 : Nat) : Option (Int32 × zH) :=
    zb5 (fX6_path h (a0) (a1) (a2) (a3)) (fun w1 h2 =>
    (zbJ h2 a4 (0) ((w1 : Int32).toInt64)).bind fun h5 =>
    some (0, h5))
    (fun E3 h4 => if E3 = "java/lang/IndexOutOfBoundsException" then
    some (1, h4)
    else if E3 = "java/lang/IllegalArgumentException" then
    some (2, h4)
    else none)
def fL_step (h : zH) (a0 : Nat) (a1 : Int32) (a2 : Int32) (a3 : Int32) (a4 : Nat) : Option (Int32 × zH) :=
    zb5 (fX6_step h (a0) (a1) (a2) (a3)) (fun w1 h2 =>
    (zbJ h2 a4 (0) ((w1 : Int32).toInt64)).bind fun h5 =>
    some (0, h5))
    (fun E3 h4 => if E3 = "java/lang/IndexOutOfBoundsException" then
    some (1, h4)
    else if E3 = "java/lang/IllegalArgumentException" then
    some (2, h4)
    else none)
def fL_sizeAfter (h : zH) (a0 : Nat) (a1 : Int32) (a2 : Int32) (a3 : Int32) (a4 : Nat) : Option (Int32 × zH) :=
    zb5 (fX6_sizeAfter h (a0) (a1) (a2) (a3)) (fun w1 h2 =>
    (zbJ h2 a4 (0) ((w1 : Int32).toInt64)).bind fun h5 =>
    some (0, h5))
    (fun E3 h4 => if E3 = "java/lang/IndexOutOfBoundsException" then
    some (1, h4)
    else if E3 = "java/lang/IllegalArgumentException" then
    some (2, h4)
    else none)
def fL_reachable (h : zH) (a0 : Nat) (a1 : Int32) (a2 : Nat) : Option (Int32 × zH) :=
    zb5 (fX6_reachable h (a0) (a1)) (fun w1 h2 =>
    (zbJ h2 a2 (0) ((w1 : Int32).toInt64)).bind fun h5 =>
    some (0, h5))
    (fun E3 h4 => if E3 = "java/lang/IndexOutOfBoundsException" then
    some (1, h4)
    else none)
def fL_without (h : zH) (a0 : Nat) (a1 : Int32) (a2 : Int32) (a3 : Int32) (a4 : Nat) : Option (Int32 × zH) :=
    zb5 (fX6_without h (a0) (a1) (a2) (a3)) (fun w1 h2 =>
    (zbJ h2 a4 (0) ((w1 : Int32).toInt64)).bind fun h5 =>
    some (0, h5))
    (fun E3 h4 => if E3 = "java/lang/IndexOutOfBoundsException" then
    some (1, h4)
    else none)
def fL_worth (h : zH) (a0 : Nat) (a1 : Int32) (a2 : Nat) : Option (Int32 × zH) :=
    zb5 (fX6_worth h (a0) (a1)) (fun w1 h2 =>
    (zbJ h2 a2 (0) ((w1 : Int32).toInt64)).bind fun h5 =>
    some (0, h5))
    (fun E3 h4 => if E3 = "java/lang/IndexOutOfBoundsException" then
    some (1, h4)
    else none)
def fL_between (h : zH) (a0 : Nat) (a1 : Int32) (a2 : Nat) : Option (Int32 × zH) :=
    zb5 (fX6_between h (a0) (a1)) (fun w1 h2 =>
    (zbJ h2 a2 (0) ((w1 : Int32).toInt64)).bind fun h5 =>
    some (0, h5))
    (fun E3 h4 => if E3 = "java/lang/IndexOutOfBoundsException" then
    some (1, h4)
    else none)
def fL_way (h : zH) (a0 : Nat) (a1 : Int32) (a2 : Int32) (a3 : Int32) (a4 : Nat) : Option (Int32 × zH) :=
    zb5 (fX6_way h (a0) (a1) (a2) (a3)) (fun w1 h2 =>
    (zbJ h2 a4 (0) ((w1 : Int32).toInt64)).bind fun h5 =>
    some (0, h5))
    (fun E3 h4 => if E3 = "java/lang/IndexOutOfBoundsException" then
    some (1, h4)
    else if E3 = "java/lang/IllegalArgumentException" then
    some (2, h4)
    else none)
def fL_bestFor (h : zH) (a0 : Nat) (a1 : Int32) (a2 : Nat) : Option (Int32 × zH) :=
    zb5 (fX6_bestFor h (a0) (a1)) (fun w1 h2 =>
    (zbJ h2 a2 (0) ((w1 : Int32).toInt64)).bind fun h5 =>
    some (0, h5))
    (fun E3 h4 => if E3 = "java/lang/IndexOutOfBoundsException" then
    some (1, h4)
    else none)
def fL_victims (h : zH) (a0 : Nat) (a1 : Int32) (a2 : Nat) : Option (Int32 × zH) :=
    zb5 (fX6_victims h (a0) (a1)) (fun w1 h2 =>
    (zbJ h2 a2 (0) ((w1 : Int32).toInt64)).bind fun h5 =>
    some (0, h5))
    (fun E3 h4 => if E3 = "java/lang/IllegalArgumentException" then
    some (1, h4)
    else none)
def fL_ranked (h : zH) (a0 : Nat) (a1 : Int32) (a2 : Nat) : Option (Int32 × zH) :=
    zb5 (fX6_ranked h (a0) (a1)) (fun w1 h2 =>
    (zbJ h2 a2 (0) ((w1 : Int32).toInt64)).bind fun h5 =>
    some (0, h5))
    (fun E3 h4 => if E3 = "java/lang/IndexOutOfBoundsException" then
    some (1, h4)
    else none)
def fL_runScript (h : zH) (a0 : Nat) (a1 : Int32) (a2 : Int64) (a4 : Nat) : Option (Int32 × zH) :=
    zb5 (fX6_runScript h (a0) (a1) (a2)) (fun w1 h2 =>
    (zbJ h2 a4 (0) ((w1 : Int32).toInt64)).bind fun h5 =>
    some (0, h5))
    (fun E3 h4 => if E3 = "java/lang/IllegalArgumentException" then
    some (1, h4)
    else none)
def fL_simulate (h : zH) (a0 : Nat) (a1 : Int64) (a3 : Int32) (a4 : Nat) : Option (Int32 × zH) :=
    zb5 (fX6_simulate h (a0) (a1) (a3)) (fun w1 h2 =>
    (zbJ h2 a4 (0) ((w1 : Int32).toInt64)).bind fun h5 =>
    some (0, h5))
    (fun E3 h4 => if E3 = "java/lang/IllegalArgumentException" then
    some (1, h4)
    else none)
def fL_save (h : zH) (a0 : Nat) (a1 : Int32) (a2 : Nat) : Option (Int32 × zH) :=
    zb5 (fX6_save h (a0) (a1)) (fun w1 h2 =>
    (zbJ h2 a2 (0) ((w1 : Int32).toInt64)).bind fun h5 =>
    some (0, h5))
    (fun E3 h4 => if E3 = "java/lang/IndexOutOfBoundsException" then
    some (1, h4)
    else none)
def fL_restore (h : zH) (a0 : Nat) (a1 : Int32) (a2 : Nat) : Option (Int32 × zH) :=
    zb5 (fX6_restore h (a0) (a1)) (fun w1 h2 =>
    (zbJ h2 a2 (0) ((w1 : Int32).toInt64)).bind fun h5 =>
    some (0, h5))
    (fun E3 h4 => if E3 = "java/lang/IndexOutOfBoundsException" then
    some (1, h4)
    else if E3 = "java/lang/IllegalStateException" then
    some (2, h4)
    else none)
abbrev rm_L_append : Room := { frames := 7, cells := 1, slots := 6, locals := 103 }
set_option maxRecDepth 100000 in
set_option maxHeartbeats 4000000 in
theorem tL_append {l : Launch} {G : zG} (hst : l.stackTraces = false) {h : zH} {a0 : Nat} {a1 : Int32} {a2 : Nat} {r : Int32 × zH} (hf : fL_append h a0 a1 a2 = some r) : zMet l G yL_append (.codeWith yL_append cL_append 4 (some .int) [(0, 9, 12, 13), (0, 9, 15, 15)]) rm_L_append 1 6 [.ref a0, .int a1, .ref a2] h (zoi r) := by
  unfold fL_append at hf
  refine z_enterW (by decide) (Nat.le_of_ble_eq_true rfl) hst (fun x hx B hT => ?_)
  subst hx
  have B : zB G x cL_append 4 RL "append" rm_L_append (some .int) := B
  show zV G x 4 (zQ G x (zoi r) 1 6) h 0 0 0 [(0, .ref a0), (1, .int a1), (2, .ref a2)] []
  refine z_aload_n B dL_append_0 rfl 2 rfl ?_
  refine z_iconst (v := 0) B dL_append_1 (by decide) ?_
  refine z_aload_n B dL_append_2 rfl 0 rfl ?_
  refine z_iload_n B dL_append_3 rfl 1 rfl ?_
  rcases zb5s hf with ⟨w1, h2, ew1, hf⟩ | ⟨E3, h4, ew1, hf⟩
  · refine z_callVi B [.int a1] [.int 0, .ref a2] cw_X6_append mv_RL_7 (tX6_append hst ew1) rfl (by decide) (kfX6_append ew1) ⟨rfl, rfl, (Nat.le_of_ble_eq_true rfl), (Nat.le_of_ble_eq_true rfl), (Nat.le_of_ble_eq_true rfl), (Nat.le_of_ble_eq_true rfl)⟩ rfl rfl (Nat.le_of_ble_eq_true rfl) dL_append_4 ?_
    refine z_i2l B dL_append_7 ?_
    obtain ⟨h5, eh5, hf⟩ := zbs hf
    refine z_bJ B eh5 dL_append_8 ?_
    refine z_goto B 18 dL_append_9 (by decide) ?_
    refine z_iconst (v := 0) B dL_append_18 (by decide) ?_
    cases hf
    exact z_iret B dL_append_19 (Nat.le_of_ble_eq_true rfl) (Nat.le_of_ble_eq_true rfl)
  rcases zite hf with ⟨c6, hf⟩ | ⟨c6, hf⟩
  · subst c6
    refine z_callVC B [.int a1] [.int 0, .ref a2] [] (⟨0, 9, 12, 13⟩ : ExceptionTableEntry) [(⟨0, 9, 15, 15⟩ : ExceptionTableEntry)] hT (fun z hz => nomatch hz) (by decide) (by decide) (by decide) lc_13 cw_X6_append mv_RL_7 (tX6_append hst ew1) rfl (by decide) (kfX6_append ew1) ⟨rfl, rfl, (Nat.le_of_ble_eq_true rfl), (Nat.le_of_ble_eq_true rfl), (Nat.le_of_ble_eq_true rfl), (Nat.le_of_ble_eq_true rfl)⟩ rfl rfl (Nat.le_of_ble_eq_true rfl) dL_append_4 (fun q => ?_)
    refine z_astore_n (lv' := [(3, .ref q), (0, .ref a0), (1, .int a1), (2, .ref a2)]) B dL_append_12 rfl (by decide) rfl ?_
    refine z_iconst (v := 1) B dL_append_13 (by decide) ?_
    cases hf
    exact z_iret B dL_append_14 (Nat.le_of_ble_eq_true rfl) (Nat.le_of_ble_eq_true rfl)
  rcases zite hf with ⟨c7, hf⟩ | ⟨c7, hf⟩
  · subst c7
    refine z_callVC B [.int a1] [.int 0, .ref a2] [(⟨0, 9, 12, 13⟩ : ExceptionTableEntry)] (⟨0, 9, 15, 15⟩ : ExceptionTableEntry) [] hT (fun z hz => by rcases List.mem_singleton.mp hz with rfl; exact ⟨by decide, "java/lang/IllegalArgumentException", lc_13, by decide, by decide⟩) (by decide) (by decide) (by decide) lc_15 cw_X6_append mv_RL_7 (tX6_append hst ew1) rfl (by decide) (kfX6_append ew1) ⟨rfl, rfl, (Nat.le_of_ble_eq_true rfl), (Nat.le_of_ble_eq_true rfl), (Nat.le_of_ble_eq_true rfl), (Nat.le_of_ble_eq_true rfl)⟩ rfl rfl (Nat.le_of_ble_eq_true rfl) dL_append_4 (fun q => ?_)
    refine z_astore_n (lv' := [(3, .ref q), (0, .ref a0), (1, .int a1), (2, .ref a2)]) B dL_append_15 rfl (by decide) rfl ?_
    refine z_iconst (v := 2) B dL_append_16 (by decide) ?_
    cases hf
    exact z_iret B dL_append_17 (Nat.le_of_ble_eq_true rfl) (Nat.le_of_ble_eq_true rfl)
  cases hf
abbrev rm_L_load : Room := { frames := 7, cells := 1, slots := 6, locals := 159 }
set_option maxRecDepth 100000 in
set_option maxHeartbeats 4000000 in
theorem tL_load {l : Launch} {G : zG} (hst : l.stackTraces = false) {h : zH} {a0 : Nat} {a1 : Nat} {r : Int32 × zH} (hf : fL_load h a0 a1 = some r) : zMet l G yL_load (.codeWith yL_load cL_load 3 (some .int) [(0, 8, 11, 15)]) rm_L_load 1 6 [.ref a0, .ref a1] h (zoi r) := by
  unfold fL_load at hf
  refine z_enterW (by decide) (Nat.le_of_ble_eq_true rfl) hst (fun x hx B hT => ?_)
  subst hx
  have B : zB G x cL_load 3 RL "load" rm_L_load (some .int) := B
  show zV G x 3 (zQ G x (zoi r) 1 6) h 0 0 0 [(0, .ref a0), (1, .ref a1)] []
  refine z_aload_n B dL_load_0 rfl 1 rfl ?_
  refine z_iconst (v := 0) B dL_load_1 (by decide) ?_
  refine z_aload_n B dL_load_2 rfl 0 rfl ?_
  rcases zb5s hf with ⟨w1, h2, ew1, hf⟩ | ⟨E3, h4, ew1, hf⟩
  · refine z_callVi B [] [.int 0, .ref a1] cw_X6_load mv_RL_17 (tX6_load hst ew1) rfl (by decide) (kfX6_load ew1) ⟨rfl, rfl, (Nat.le_of_ble_eq_true rfl), (Nat.le_of_ble_eq_true rfl), (Nat.le_of_ble_eq_true rfl), (Nat.le_of_ble_eq_true rfl)⟩ rfl rfl (Nat.le_of_ble_eq_true rfl) dL_load_3 ?_
    refine z_i2l B dL_load_6 ?_
    obtain ⟨h5, eh5, hf⟩ := zbs hf
    refine z_bJ B eh5 dL_load_7 ?_
    refine z_goto B 14 dL_load_8 (by decide) ?_
    refine z_iconst (v := 0) B dL_load_14 (by decide) ?_
    cases hf
    exact z_iret B dL_load_15 (Nat.le_of_ble_eq_true rfl) (Nat.le_of_ble_eq_true rfl)
  rcases zite hf with ⟨c6, hf⟩ | ⟨c6, hf⟩
  · subst c6
    refine z_callVC B [] [.int 0, .ref a1] [] (⟨0, 8, 11, 15⟩ : ExceptionTableEntry) [] hT (fun z hz => nomatch hz) (by decide) (by decide) (by decide) lc_15 cw_X6_load mv_RL_17 (tX6_load hst ew1) rfl (by decide) (kfX6_load ew1) ⟨rfl, rfl, (Nat.le_of_ble_eq_true rfl), (Nat.le_of_ble_eq_true rfl), (Nat.le_of_ble_eq_true rfl), (Nat.le_of_ble_eq_true rfl)⟩ rfl rfl (Nat.le_of_ble_eq_true rfl) dL_load_3 (fun q => ?_)
    refine z_astore_n (lv' := [(2, .ref q), (0, .ref a0), (1, .ref a1)]) B dL_load_11 rfl (by decide) rfl ?_
    refine z_iconst (v := 1) B dL_load_12 (by decide) ?_
    cases hf
    exact z_iret B dL_load_13 (Nat.le_of_ble_eq_true rfl) (Nat.le_of_ble_eq_true rfl)
  cases hf
abbrev rm_L_about : Room := { frames := 7, cells := 1, slots := 6, locals := 103 }
set_option maxRecDepth 100000 in
set_option maxHeartbeats 4000000 in
theorem tL_about {l : Launch} {G : zG} (hst : l.stackTraces = false) {h : zH} {a0 : Nat} {a1 : Int32} {a2 : Nat} {r : Int32 × zH} (hf : fL_about h a0 a1 a2 = some r) : zMet l G yL_about (.codeWith yL_about cL_about 4 (some .int) [(0, 9, 12, 13)]) rm_L_about 1 6 [.ref a0, .int a1, .ref a2] h (zoi r) := by
  unfold fL_about at hf
  refine z_enterW (by decide) (Nat.le_of_ble_eq_true rfl) hst (fun x hx B hT => ?_)
  subst hx
  have B : zB G x cL_about 4 RL "about" rm_L_about (some .int) := B
  show zV G x 4 (zQ G x (zoi r) 1 6) h 0 0 0 [(0, .ref a0), (1, .int a1), (2, .ref a2)] []
  refine z_aload_n B dL_about_0 rfl 2 rfl ?_
  refine z_iconst (v := 0) B dL_about_1 (by decide) ?_
  refine z_aload_n B dL_about_2 rfl 0 rfl ?_
  refine z_iload_n B dL_about_3 rfl 1 rfl ?_
  rcases zb5s hf with ⟨w1, h2, ew1, hf⟩ | ⟨E3, h4, ew1, hf⟩
  · refine z_callVi B [.int a1] [.int 0, .ref a2] cw_X6_about mv_RL_21 (tX6_about hst ew1) rfl (by decide) (kfX6_about ew1) ⟨rfl, rfl, (Nat.le_of_ble_eq_true rfl), (Nat.le_of_ble_eq_true rfl), (Nat.le_of_ble_eq_true rfl), (Nat.le_of_ble_eq_true rfl)⟩ rfl rfl (Nat.le_of_ble_eq_true rfl) dL_about_4 ?_
    refine z_i2l B dL_about_7 ?_
    obtain ⟨h5, eh5, hf⟩ := zbs hf
    refine z_bJ B eh5 dL_about_8 ?_
    refine z_goto B 15 dL_about_9 (by decide) ?_
    refine z_iconst (v := 0) B dL_about_15 (by decide) ?_
    cases hf
    exact z_iret B dL_about_16 (Nat.le_of_ble_eq_true rfl) (Nat.le_of_ble_eq_true rfl)
  rcases zite hf with ⟨c6, hf⟩ | ⟨c6, hf⟩
  · subst c6
    refine z_callVC B [.int a1] [.int 0, .ref a2] [] (⟨0, 9, 12, 13⟩ : ExceptionTableEntry) [] hT (fun z hz => nomatch hz) (by decide) (by decide) (by decide) lc_13 cw_X6_about mv_RL_21 (tX6_about hst ew1) rfl (by decide) (kfX6_about ew1) ⟨rfl, rfl, (Nat.le_of_ble_eq_true rfl), (Nat.le_of_ble_eq_true rfl), (Nat.le_of_ble_eq_true rfl), (Nat.le_of_ble_eq_true rfl)⟩ rfl rfl (Nat.le_of_ble_eq_true rfl) dL_about_4 (fun q => ?_)
    refine z_astore_n (lv' := [(3, .ref q), (0, .ref a0), (1, .int a1), (2, .ref a2)]) B dL_about_12 rfl (by decide) rfl ?_
    refine z_iconst (v := 1) B dL_about_13 (by decide) ?_
    cases hf
    exact z_iret B dL_about_14 (Nat.le_of_ble_eq_true rfl) (Nat.le_of_ble_eq_true rfl)
  cases hf
abbrev rm_L_conversion : Room := { frames := 8, cells := 2, slots := 12, locals := 125 }
set_option maxRecDepth 100000 in
set_option maxHeartbeats 4000000 in
theorem tL_conversion {l : Launch} {G : zG} (hst : l.stackTraces = false) {h : zH} {a0 : Nat} {a1 : Int32} {a2 : Int32} {a3 : Nat} {r : Int32 × zH} (hf : fL_conversion h a0 a1 a2 a3 = some r) : zMet l G yL_conversion (.codeWith yL_conversion cL_conversion 5 (some .int) [(0, 10, 13, 28), (0, 10, 17, 13)]) rm_L_conversion 2 12 [.ref a0, .int a1, .int a2, .ref a3] h (zoi r) := by
  unfold fL_conversion at hf
  refine z_enterW (by decide) (Nat.le_of_ble_eq_true rfl) hst (fun x hx B hT => ?_)
  subst hx
  have B : zB G x cL_conversion 5 RL "conversion" rm_L_conversion (some .int) := B
  show zV G x 5 (zQ G x (zoi r) 2 12) h 0 0 0 [(0, .ref a0), (1, .int a1), (2, .int a2), (3, .ref a3)] []
  refine z_aload_n B dL_conversion_0 rfl 3 rfl ?_
  refine z_iconst (v := 0) B dL_conversion_1 (by decide) ?_
  refine z_aload_n B dL_conversion_2 rfl 0 rfl ?_
  refine z_iload_n B dL_conversion_3 rfl 1 rfl ?_
  refine z_iload_n B dL_conversion_4 rfl 2 rfl ?_
  rcases zb5s hf with ⟨w1, h2, ew1, hf⟩ | ⟨E3, h4, ew1, hf⟩
  · refine z_callVi B [.int a1, .int a2] [.int 0, .ref a3] cw_X6_conversion mv_RL_24 (tX6_conversion hst ew1) rfl (by decide) (kfX6_conversion ew1) ⟨rfl, rfl, (Nat.le_of_ble_eq_true rfl), (Nat.le_of_ble_eq_true rfl), (Nat.le_of_ble_eq_true rfl), (Nat.le_of_ble_eq_true rfl)⟩ rfl rfl (Nat.le_of_ble_eq_true rfl) dL_conversion_5 ?_
    refine z_i2l B dL_conversion_8 ?_
    obtain ⟨h5, eh5, hf⟩ := zbs hf
    refine z_bJ B eh5 dL_conversion_9 ?_
    refine z_goto B 21 dL_conversion_10 (by decide) ?_
    refine z_iconst (v := 0) B dL_conversion_21 (by decide) ?_
    cases hf
    exact z_iret B dL_conversion_22 (Nat.le_of_ble_eq_true rfl) (Nat.le_of_ble_eq_true rfl)
  rcases zite hf with ⟨c6, hf⟩ | ⟨c6, hf⟩
  · subst c6
    refine z_callVC B [.int a1, .int a2] [.int 0, .ref a3] [] (⟨0, 10, 13, 28⟩ : ExceptionTableEntry) [(⟨0, 10, 17, 13⟩ : ExceptionTableEntry)] hT (fun z hz => nomatch hz) (by decide) (by decide) (by decide) lc_28 cw_X6_conversion mv_RL_24 (tX6_conversion hst ew1) rfl (by decide) (kfX6_conversion ew1) ⟨rfl, rfl, (Nat.le_of_ble_eq_true rfl), (Nat.le_of_ble_eq_true rfl), (Nat.le_of_ble_eq_true rfl), (Nat.le_of_ble_eq_true rfl)⟩ rfl rfl (Nat.le_of_ble_eq_true rfl) dL_conversion_5 (fun q => ?_)
    refine z_astore (lv' := [(4, .ref q), (0, .ref a0), (1, .int a1), (2, .int a2), (3, .ref a3)]) B dL_conversion_13 (by decide) rfl ?_
    refine z_iconst (v := 1) B dL_conversion_15 (by decide) ?_
    cases hf
    exact z_iret B dL_conversion_16 (Nat.le_of_ble_eq_true rfl) (Nat.le_of_ble_eq_true rfl)
  rcases zite hf with ⟨c7, hf⟩ | ⟨c7, hf⟩
  · subst c7
    refine z_callVC B [.int a1, .int a2] [.int 0, .ref a3] [(⟨0, 10, 13, 28⟩ : ExceptionTableEntry)] (⟨0, 10, 17, 13⟩ : ExceptionTableEntry) [] hT (fun z hz => by rcases List.mem_singleton.mp hz with rfl; exact ⟨by decide, "java/lang/IndexOutOfBoundsException", lc_28, by decide, by decide⟩) (by decide) (by decide) (by decide) lc_13 cw_X6_conversion mv_RL_24 (tX6_conversion hst ew1) rfl (by decide) (kfX6_conversion ew1) ⟨rfl, rfl, (Nat.le_of_ble_eq_true rfl), (Nat.le_of_ble_eq_true rfl), (Nat.le_of_ble_eq_true rfl), (Nat.le_of_ble_eq_true rfl)⟩ rfl rfl (Nat.le_of_ble_eq_true rfl) dL_conversion_5 (fun q => ?_)
    refine z_astore (lv' := [(4, .ref q), (0, .ref a0), (1, .int a1), (2, .int a2), (3, .ref a3)]) B dL_conversion_17 (by decide) rfl ?_
    refine z_iconst (v := 2) B dL_conversion_19 (by decide) ?_
    cases hf
    exact z_iret B dL_conversion_20 (Nat.le_of_ble_eq_true rfl) (Nat.le_of_ble_eq_true rfl)
  cases hf
abbrev rm_L_place : Room := { frames := 8, cells := 2, slots := 12, locals := 125 }
set_option maxRecDepth 100000 in
set_option maxHeartbeats 4000000 in
theorem tL_place {l : Launch} {G : zG} (hst : l.stackTraces = false) {h : zH} {a0 : Nat} {a1 : Int32} {a2 : Int32} {a3 : Nat} {r : Int32 × zH} (hf : fL_place h a0 a1 a2 a3 = some r) : zMet l G yL_place (.codeWith yL_place cL_place 5 (some .int) [(0, 10, 13, 28), (0, 10, 17, 13)]) rm_L_place 2 12 [.ref a0, .int a1, .int a2, .ref a3] h (zoi r) := by
  unfold fL_place at hf
  refine z_enterW (by decide) (Nat.le_of_ble_eq_true rfl) hst (fun x hx B hT => ?_)
  subst hx
  have B : zB G x cL_place 5 RL "place" rm_L_place (some .int) := B
  show zV G x 5 (zQ G x (zoi r) 2 12) h 0 0 0 [(0, .ref a0), (1, .int a1), (2, .int a2), (3, .ref a3)] []
  refine z_aload_n B dL_place_0 rfl 3 rfl ?_
  refine z_iconst (v := 0) B dL_place_1 (by decide) ?_
  refine z_aload_n B dL_place_2 rfl 0 rfl ?_
  refine z_iload_n B dL_place_3 rfl 1 rfl ?_
  refine z_iload_n B dL_place_4 rfl 2 rfl ?_
  rcases zb5s hf with ⟨w1, h2, ew1, hf⟩ | ⟨E3, h4, ew1, hf⟩
  · refine z_callVi B [.int a1, .int a2] [.int 0, .ref a3] cw_X6_place mv_RL_30 (tX6_place hst ew1) rfl (by decide) (kfX6_place ew1) ⟨rfl, rfl, (Nat.le_of_ble_eq_true rfl), (Nat.le_of_ble_eq_true rfl), (Nat.le_of_ble_eq_true rfl), (Nat.le_of_ble_eq_true rfl)⟩ rfl rfl (Nat.le_of_ble_eq_true rfl) dL_place_5 ?_
    refine z_i2l B dL_place_8 ?_
    obtain ⟨h5, eh5, hf⟩ := zbs hf
    refine z_bJ B eh5 dL_place_9 ?_
    refine z_goto B 21 dL_place_10 (by decide) ?_
    refine z_iconst (v := 0) B dL_place_21 (by decide) ?_
    cases hf
    exact z_iret B dL_place_22 (Nat.le_of_ble_eq_true rfl) (Nat.le_of_ble_eq_true rfl)
  rcases zite hf with ⟨c6, hf⟩ | ⟨c6, hf⟩
  · subst c6
    refine z_callVC B [.int a1, .int a2] [.int 0, .ref a3] [] (⟨0, 10, 13, 28⟩ : ExceptionTableEntry) [(⟨0, 10, 17, 13⟩ : ExceptionTableEntry)] hT (fun z hz => nomatch hz) (by decide) (by decide) (by decide) lc_28 cw_X6_place mv_RL_30 (tX6_place hst ew1) rfl (by decide) (kfX6_place ew1) ⟨rfl, rfl, (Nat.le_of_ble_eq_true rfl), (Nat.le_of_ble_eq_true rfl), (Nat.le_of_ble_eq_true rfl), (Nat.le_of_ble_eq_true rfl)⟩ rfl rfl (Nat.le_of_ble_eq_true rfl) dL_place_5 (fun q => ?_)
    refine z_astore (lv' := [(4, .ref q), (0, .ref a0), (1, .int a1), (2, .int a2), (3, .ref a3)]) B dL_place_13 (by decide) rfl ?_
    refine z_iconst (v := 1) B dL_place_15 (by decide) ?_
    cases hf
    exact z_iret B dL_place_16 (Nat.le_of_ble_eq_true rfl) (Nat.le_of_ble_eq_true rfl)
  rcases zite hf with ⟨c7, hf⟩ | ⟨c7, hf⟩
  · subst c7
    refine z_callVC B [.int a1, .int a2] [.int 0, .ref a3] [(⟨0, 10, 13, 28⟩ : ExceptionTableEntry)] (⟨0, 10, 17, 13⟩ : ExceptionTableEntry) [] hT (fun z hz => by rcases List.mem_singleton.mp hz with rfl; exact ⟨by decide, "java/lang/IndexOutOfBoundsException", lc_28, by decide, by decide⟩) (by decide) (by decide) (by decide) lc_13 cw_X6_place mv_RL_30 (tX6_place hst ew1) rfl (by decide) (kfX6_place ew1) ⟨rfl, rfl, (Nat.le_of_ble_eq_true rfl), (Nat.le_of_ble_eq_true rfl), (Nat.le_of_ble_eq_true rfl), (Nat.le_of_ble_eq_true rfl)⟩ rfl rfl (Nat.le_of_ble_eq_true rfl) dL_place_5 (fun q => ?_)
    refine z_astore (lv' := [(4, .ref q), (0, .ref a0), (1, .int a1), (2, .int a2), (3, .ref a3)]) B dL_place_17 (by decide) rfl ?_
    refine z_iconst (v := 2) B dL_place_19 (by decide) ?_
    cases hf
    exact z_iret B dL_place_20 (Nat.le_of_ble_eq_true rfl) (Nat.le_of_ble_eq_true rfl)
  cases hf
abbrev rm_L_entry : Room := { frames := 8, cells := 2, slots := 12, locals := 126 }
set_option maxRecDepth 100000 in
set_option maxHeartbeats 4000000 in
theorem tL_entry {l : Launch} {G : zG} (hst : l.stackTraces = false) {h : zH} {a0 : Nat} {a1 : Int32} {a2 : Int32} {a3 : Nat} {r : Int32 × zH} (hf : fL_entry h a0 a1 a2 a3 = some r) : zMet l G yL_entry (.codeWith yL_entry cL_entry 5 (some .int) [(0, 10, 13, 28), (0, 10, 17, 13)]) rm_L_entry 2 12 [.ref a0, .int a1, .int a2, .ref a3] h (zoi r) := by
  unfold fL_entry at hf
  refine z_enterW (by decide) (Nat.le_of_ble_eq_true rfl) hst (fun x hx B hT => ?_)
  subst hx
  have B : zB G x cL_entry 5 RL "entry" rm_L_entry (some .int) := B
  show zV G x 5 (zQ G x (zoi r) 2 12) h 0 0 0 [(0, .ref a0), (1, .int a1), (2, .int a2), (3, .ref a3)] []
  refine z_aload_n B dL_entry_0 rfl 3 rfl ?_
  refine z_iconst (v := 0) B dL_entry_1 (by decide) ?_
  refine z_aload_n B dL_entry_2 rfl 0 rfl ?_
  refine z_iload_n B dL_entry_3 rfl 1 rfl ?_
  refine z_iload_n B dL_entry_4 rfl 2 rfl ?_
  rcases zb5s hf with ⟨w1, h2, ew1, hf⟩ | ⟨E3, h4, ew1, hf⟩
  · refine z_callVi B [.int a1, .int a2] [.int 0, .ref a3] cw_X6_entry mv_RL_33 (tX6_entry hst ew1) rfl (by decide) (kfX6_entry ew1) ⟨rfl, rfl, (Nat.le_of_ble_eq_true rfl), (Nat.le_of_ble_eq_true rfl), (Nat.le_of_ble_eq_true rfl), (Nat.le_of_ble_eq_true rfl)⟩ rfl rfl (Nat.le_of_ble_eq_true rfl) dL_entry_5 ?_
    refine z_i2l B dL_entry_8 ?_
    obtain ⟨h5, eh5, hf⟩ := zbs hf
    refine z_bJ B eh5 dL_entry_9 ?_
    refine z_goto B 21 dL_entry_10 (by decide) ?_
    refine z_iconst (v := 0) B dL_entry_21 (by decide) ?_
    cases hf
    exact z_iret B dL_entry_22 (Nat.le_of_ble_eq_true rfl) (Nat.le_of_ble_eq_true rfl)
  rcases zite hf with ⟨c6, hf⟩ | ⟨c6, hf⟩
  · subst c6
    refine z_callVC B [.int a1, .int a2] [.int 0, .ref a3] [] (⟨0, 10, 13, 28⟩ : ExceptionTableEntry) [(⟨0, 10, 17, 13⟩ : ExceptionTableEntry)] hT (fun z hz => nomatch hz) (by decide) (by decide) (by decide) lc_28 cw_X6_entry mv_RL_33 (tX6_entry hst ew1) rfl (by decide) (kfX6_entry ew1) ⟨rfl, rfl, (Nat.le_of_ble_eq_true rfl), (Nat.le_of_ble_eq_true rfl), (Nat.le_of_ble_eq_true rfl), (Nat.le_of_ble_eq_true rfl)⟩ rfl rfl (Nat.le_of_ble_eq_true rfl) dL_entry_5 (fun q => ?_)
    refine z_astore (lv' := [(4, .ref q), (0, .ref a0), (1, .int a1), (2, .int a2), (3, .ref a3)]) B dL_entry_13 (by decide) rfl ?_
    refine z_iconst (v := 1) B dL_entry_15 (by decide) ?_
    cases hf
    exact z_iret B dL_entry_16 (Nat.le_of_ble_eq_true rfl) (Nat.le_of_ble_eq_true rfl)
  rcases zite hf with ⟨c7, hf⟩ | ⟨c7, hf⟩
  · subst c7
    refine z_callVC B [.int a1, .int a2] [.int 0, .ref a3] [(⟨0, 10, 13, 28⟩ : ExceptionTableEntry)] (⟨0, 10, 17, 13⟩ : ExceptionTableEntry) [] hT (fun z hz => by rcases List.mem_singleton.mp hz with rfl; exact ⟨by decide, "java/lang/IndexOutOfBoundsException", lc_28, by decide, by decide⟩) (by decide) (by decide) (by decide) lc_13 cw_X6_entry mv_RL_33 (tX6_entry hst ew1) rfl (by decide) (kfX6_entry ew1) ⟨rfl, rfl, (Nat.le_of_ble_eq_true rfl), (Nat.le_of_ble_eq_true rfl), (Nat.le_of_ble_eq_true rfl), (Nat.le_of_ble_eq_true rfl)⟩ rfl rfl (Nat.le_of_ble_eq_true rfl) dL_entry_5 (fun q => ?_)
    refine z_astore (lv' := [(4, .ref q), (0, .ref a0), (1, .int a1), (2, .int a2), (3, .ref a3)]) B dL_entry_17 (by decide) rfl ?_
    refine z_iconst (v := 2) B dL_entry_19 (by decide) ?_
    cases hf
    exact z_iret B dL_entry_20 (Nat.le_of_ble_eq_true rfl) (Nat.le_of_ble_eq_true rfl)
  cases hf
abbrev rm_L_form : Room := { frames := 8, cells := 2, slots := 12, locals := 127 }
set_option maxRecDepth 100000 in
set_option maxHeartbeats 4000000 in
theorem tL_form {l : Launch} {G : zG} (hst : l.stackTraces = false) {h : zH} {a0 : Nat} {a1 : Int32} {a2 : Int32} {a3 : Int32} {a4 : Nat} {r : Int32 × zH} (hf : fL_form h a0 a1 a2 a3 a4 = some r) : zMet l G yL_form (.codeWith yL_form cL_form 6 (some .int) [(0, 12, 15, 28)]) rm_L_form 2 12 [.ref a0, .int a1, .int a2, .int a3, .ref a4] h (zoi r) := by
  unfold fL_form at hf
  refine z_enterW (by decide) (Nat.le_of_ble_eq_true rfl) hst (fun x hx B hT => ?_)
  subst hx
  have B : zB G x cL_form 6 RL "form" rm_L_form (some .int) := B
  show zV G x 6 (zQ G x (zoi r) 2 12) h 0 0 0 [(0, .ref a0), (1, .int a1), (2, .int a2), (3, .int a3), (4, .ref a4)] []
  refine z_aload B dL_form_0 4 rfl ?_
  refine z_iconst (v := 0) B dL_form_2 (by decide) ?_
  refine z_aload_n B dL_form_3 rfl 0 rfl ?_
  refine z_iload_n B dL_form_4 rfl 1 rfl ?_
  refine z_iload_n B dL_form_5 rfl 2 rfl ?_
  refine z_iload_n B dL_form_6 rfl 3 rfl ?_
  rcases zb5s hf with ⟨w1, h2, ew1, hf⟩ | ⟨E3, h4, ew1, hf⟩
  · refine z_callVi B [.int a1, .int a2, .int a3] [.int 0, .ref a4] cw_X6_form mv_RL_36 (tX6_form hst ew1) rfl (by decide) (kfX6_form ew1) ⟨rfl, rfl, (Nat.le_of_ble_eq_true rfl), (Nat.le_of_ble_eq_true rfl), (Nat.le_of_ble_eq_true rfl), (Nat.le_of_ble_eq_true rfl)⟩ rfl rfl (Nat.le_of_ble_eq_true rfl) dL_form_7 ?_
    refine z_i2l B dL_form_10 ?_
    obtain ⟨h5, eh5, hf⟩ := zbs hf
    refine z_bJ B eh5 dL_form_11 ?_
    refine z_goto B 19 dL_form_12 (by decide) ?_
    refine z_iconst (v := 0) B dL_form_19 (by decide) ?_
    cases hf
    exact z_iret B dL_form_20 (Nat.le_of_ble_eq_true rfl) (Nat.le_of_ble_eq_true rfl)
  rcases zite hf with ⟨c6, hf⟩ | ⟨c6, hf⟩
  · subst c6
    refine z_callVC B [.int a1, .int a2, .int a3] [.int 0, .ref a4] [] (⟨0, 12, 15, 28⟩ : ExceptionTableEntry) [] hT (fun z hz => nomatch hz) (by decide) (by decide) (by decide) lc_28 cw_X6_form mv_RL_36 (tX6_form hst ew1) rfl (by decide) (kfX6_form ew1) ⟨rfl, rfl, (Nat.le_of_ble_eq_true rfl), (Nat.le_of_ble_eq_true rfl), (Nat.le_of_ble_eq_true rfl), (Nat.le_of_ble_eq_true rfl)⟩ rfl rfl (Nat.le_of_ble_eq_true rfl) dL_form_7 (fun q => ?_)
    refine z_astore (lv' := [(5, .ref q), (0, .ref a0), (1, .int a1), (2, .int a2), (3, .int a3), (4, .ref a4)]) B dL_form_15 (by decide) rfl ?_
    refine z_iconst (v := 1) B dL_form_17 (by decide) ?_
    cases hf
    exact z_iret B dL_form_18 (Nat.le_of_ble_eq_true rfl) (Nat.le_of_ble_eq_true rfl)
  cases hf
abbrev rm_L_copy : Room := { frames := 8, cells := 3, slots := 18, locals := 135 }
set_option maxRecDepth 100000 in
set_option maxHeartbeats 4000000 in
theorem tL_copy {l : Launch} {G : zG} (hst : l.stackTraces = false) {h : zH} {a0 : Nat} {a1 : Int32} {a2 : Int32} {a3 : Nat} {r : Int32 × zH} (hf : fL_copy h a0 a1 a2 a3 = some r) : zMet l G yL_copy (.codeWith yL_copy cL_copy 5 (some .int) [(0, 10, 13, 28), (0, 10, 17, 13), (0, 10, 21, 15)]) rm_L_copy 3 18 [.ref a0, .int a1, .int a2, .ref a3] h (zoi r) := by
  unfold fL_copy at hf
  refine z_enterW (by decide) (Nat.le_of_ble_eq_true rfl) hst (fun x hx B hT => ?_)
  subst hx
  have B : zB G x cL_copy 5 RL "copy" rm_L_copy (some .int) := B
  show zV G x 5 (zQ G x (zoi r) 3 18) h 0 0 0 [(0, .ref a0), (1, .int a1), (2, .int a2), (3, .ref a3)] []
  refine z_aload_n B dL_copy_0 rfl 3 rfl ?_
  refine z_iconst (v := 0) B dL_copy_1 (by decide) ?_
  refine z_aload_n B dL_copy_2 rfl 0 rfl ?_
  refine z_iload_n B dL_copy_3 rfl 1 rfl ?_
  refine z_iload_n B dL_copy_4 rfl 2 rfl ?_
  rcases zb5s hf with ⟨w1, h2, ew1, hf⟩ | ⟨E3, h4, ew1, hf⟩
  · refine z_callVi B [.int a1, .int a2] [.int 0, .ref a3] cw_X6_copy mv_RL_40 (tX6_copy hst ew1) rfl (by decide) (kfX6_copy ew1) ⟨rfl, rfl, (Nat.le_of_ble_eq_true rfl), (Nat.le_of_ble_eq_true rfl), (Nat.le_of_ble_eq_true rfl), (Nat.le_of_ble_eq_true rfl)⟩ rfl rfl (Nat.le_of_ble_eq_true rfl) dL_copy_5 ?_
    refine z_i2l B dL_copy_8 ?_
    obtain ⟨h5, eh5, hf⟩ := zbs hf
    refine z_bJ B eh5 dL_copy_9 ?_
    refine z_goto B 25 dL_copy_10 (by decide) ?_
    refine z_iconst (v := 0) B dL_copy_25 (by decide) ?_
    cases hf
    exact z_iret B dL_copy_26 (Nat.le_of_ble_eq_true rfl) (Nat.le_of_ble_eq_true rfl)
  rcases zite hf with ⟨c6, hf⟩ | ⟨c6, hf⟩
  · subst c6
    refine z_callVC B [.int a1, .int a2] [.int 0, .ref a3] [] (⟨0, 10, 13, 28⟩ : ExceptionTableEntry) [(⟨0, 10, 17, 13⟩ : ExceptionTableEntry), (⟨0, 10, 21, 15⟩ : ExceptionTableEntry)] hT (fun z hz => nomatch hz) (by decide) (by decide) (by decide) lc_28 cw_X6_copy mv_RL_40 (tX6_copy hst ew1) rfl (by decide) (kfX6_copy ew1) ⟨rfl, rfl, (Nat.le_of_ble_eq_true rfl), (Nat.le_of_ble_eq_true rfl), (Nat.le_of_ble_eq_true rfl), (Nat.le_of_ble_eq_true rfl)⟩ rfl rfl (Nat.le_of_ble_eq_true rfl) dL_copy_5 (fun q => ?_)
    refine z_astore (lv' := [(4, .ref q), (0, .ref a0), (1, .int a1), (2, .int a2), (3, .ref a3)]) B dL_copy_13 (by decide) rfl ?_
    refine z_iconst (v := 1) B dL_copy_15 (by decide) ?_
    cases hf
    exact z_iret B dL_copy_16 (Nat.le_of_ble_eq_true rfl) (Nat.le_of_ble_eq_true rfl)
  rcases zite hf with ⟨c7, hf⟩ | ⟨c7, hf⟩
  · subst c7
    refine z_callVC B [.int a1, .int a2] [.int 0, .ref a3] [(⟨0, 10, 13, 28⟩ : ExceptionTableEntry)] (⟨0, 10, 17, 13⟩ : ExceptionTableEntry) [(⟨0, 10, 21, 15⟩ : ExceptionTableEntry)] hT (fun z hz => by rcases List.mem_singleton.mp hz with rfl; exact ⟨by decide, "java/lang/IndexOutOfBoundsException", lc_28, by decide, by decide⟩) (by decide) (by decide) (by decide) lc_13 cw_X6_copy mv_RL_40 (tX6_copy hst ew1) rfl (by decide) (kfX6_copy ew1) ⟨rfl, rfl, (Nat.le_of_ble_eq_true rfl), (Nat.le_of_ble_eq_true rfl), (Nat.le_of_ble_eq_true rfl), (Nat.le_of_ble_eq_true rfl)⟩ rfl rfl (Nat.le_of_ble_eq_true rfl) dL_copy_5 (fun q => ?_)
    refine z_astore (lv' := [(4, .ref q), (0, .ref a0), (1, .int a1), (2, .int a2), (3, .ref a3)]) B dL_copy_17 (by decide) rfl ?_
    refine z_iconst (v := 2) B dL_copy_19 (by decide) ?_
    cases hf
    exact z_iret B dL_copy_20 (Nat.le_of_ble_eq_true rfl) (Nat.le_of_ble_eq_true rfl)
  rcases zite hf with ⟨c8, hf⟩ | ⟨c8, hf⟩
  · subst c8
    refine z_callVC B [.int a1, .int a2] [.int 0, .ref a3] [(⟨0, 10, 13, 28⟩ : ExceptionTableEntry), (⟨0, 10, 17, 13⟩ : ExceptionTableEntry)] (⟨0, 10, 21, 15⟩ : ExceptionTableEntry) [] hT (fun z hz => (List.mem_cons.mp hz).elim (fun e => by subst e; exact ⟨by decide, "java/lang/IndexOutOfBoundsException", lc_28, by decide, by decide⟩) (fun hz => by rcases List.mem_singleton.mp hz with rfl; exact ⟨by decide, "java/lang/IllegalArgumentException", lc_13, by decide, by decide⟩)) (by decide) (by decide) (by decide) lc_15 cw_X6_copy mv_RL_40 (tX6_copy hst ew1) rfl (by decide) (kfX6_copy ew1) ⟨rfl, rfl, (Nat.le_of_ble_eq_true rfl), (Nat.le_of_ble_eq_true rfl), (Nat.le_of_ble_eq_true rfl), (Nat.le_of_ble_eq_true rfl)⟩ rfl rfl (Nat.le_of_ble_eq_true rfl) dL_copy_5 (fun q => ?_)
    refine z_astore (lv' := [(4, .ref q), (0, .ref a0), (1, .int a1), (2, .int a2), (3, .ref a3)]) B dL_copy_21 (by decide) rfl ?_
    refine z_iconst (v := 3) B dL_copy_23 (by decide) ?_
    cases hf
    exact z_iret B dL_copy_24 (Nat.le_of_ble_eq_true rfl) (Nat.le_of_ble_eq_true rfl)
  cases hf
abbrev rm_L_offer : Room := { frames := 8, cells := 3, slots := 18, locals := 135 }
set_option maxRecDepth 100000 in
set_option maxHeartbeats 4000000 in
theorem tL_offer {l : Launch} {G : zG} (hst : l.stackTraces = false) {h : zH} {a0 : Nat} {a1 : Int32} {a2 : Int32} {a3 : Nat} {r : Int32 × zH} (hf : fL_offer h a0 a1 a2 a3 = some r) : zMet l G yL_offer (.codeWith yL_offer cL_offer 5 (some .int) [(0, 10, 13, 28), (0, 10, 17, 13), (0, 10, 21, 15)]) rm_L_offer 3 18 [.ref a0, .int a1, .int a2, .ref a3] h (zoi r) := by
  unfold fL_offer at hf
  refine z_enterW (by decide) (Nat.le_of_ble_eq_true rfl) hst (fun x hx B hT => ?_)
  subst hx
  have B : zB G x cL_offer 5 RL "offer" rm_L_offer (some .int) := B
  show zV G x 5 (zQ G x (zoi r) 3 18) h 0 0 0 [(0, .ref a0), (1, .int a1), (2, .int a2), (3, .ref a3)] []
  refine z_aload_n B dL_offer_0 rfl 3 rfl ?_
  refine z_iconst (v := 0) B dL_offer_1 (by decide) ?_
  refine z_aload_n B dL_offer_2 rfl 0 rfl ?_
  refine z_iload_n B dL_offer_3 rfl 1 rfl ?_
  refine z_iload_n B dL_offer_4 rfl 2 rfl ?_
  rcases zb5s hf with ⟨w1, h2, ew1, hf⟩ | ⟨E3, h4, ew1, hf⟩
  · refine z_callVi B [.int a1, .int a2] [.int 0, .ref a3] cw_X6_offer mv_RL_43 (tX6_offer hst ew1) rfl (by decide) (kfX6_offer ew1) ⟨rfl, rfl, (Nat.le_of_ble_eq_true rfl), (Nat.le_of_ble_eq_true rfl), (Nat.le_of_ble_eq_true rfl), (Nat.le_of_ble_eq_true rfl)⟩ rfl rfl (Nat.le_of_ble_eq_true rfl) dL_offer_5 ?_
    refine z_i2l B dL_offer_8 ?_
    obtain ⟨h5, eh5, hf⟩ := zbs hf
    refine z_bJ B eh5 dL_offer_9 ?_
    refine z_goto B 25 dL_offer_10 (by decide) ?_
    refine z_iconst (v := 0) B dL_offer_25 (by decide) ?_
    cases hf
    exact z_iret B dL_offer_26 (Nat.le_of_ble_eq_true rfl) (Nat.le_of_ble_eq_true rfl)
  rcases zite hf with ⟨c6, hf⟩ | ⟨c6, hf⟩
  · subst c6
    refine z_callVC B [.int a1, .int a2] [.int 0, .ref a3] [] (⟨0, 10, 13, 28⟩ : ExceptionTableEntry) [(⟨0, 10, 17, 13⟩ : ExceptionTableEntry), (⟨0, 10, 21, 15⟩ : ExceptionTableEntry)] hT (fun z hz => nomatch hz) (by decide) (by decide) (by decide) lc_28 cw_X6_offer mv_RL_43 (tX6_offer hst ew1) rfl (by decide) (kfX6_offer ew1) ⟨rfl, rfl, (Nat.le_of_ble_eq_true rfl), (Nat.le_of_ble_eq_true rfl), (Nat.le_of_ble_eq_true rfl), (Nat.le_of_ble_eq_true rfl)⟩ rfl rfl (Nat.le_of_ble_eq_true rfl) dL_offer_5 (fun q => ?_)
    refine z_astore (lv' := [(4, .ref q), (0, .ref a0), (1, .int a1), (2, .int a2), (3, .ref a3)]) B dL_offer_13 (by decide) rfl ?_
    refine z_iconst (v := 1) B dL_offer_15 (by decide) ?_
    cases hf
    exact z_iret B dL_offer_16 (Nat.le_of_ble_eq_true rfl) (Nat.le_of_ble_eq_true rfl)
  rcases zite hf with ⟨c7, hf⟩ | ⟨c7, hf⟩
  · subst c7
    refine z_callVC B [.int a1, .int a2] [.int 0, .ref a3] [(⟨0, 10, 13, 28⟩ : ExceptionTableEntry)] (⟨0, 10, 17, 13⟩ : ExceptionTableEntry) [(⟨0, 10, 21, 15⟩ : ExceptionTableEntry)] hT (fun z hz => by rcases List.mem_singleton.mp hz with rfl; exact ⟨by decide, "java/lang/IndexOutOfBoundsException", lc_28, by decide, by decide⟩) (by decide) (by decide) (by decide) lc_13 cw_X6_offer mv_RL_43 (tX6_offer hst ew1) rfl (by decide) (kfX6_offer ew1) ⟨rfl, rfl, (Nat.le_of_ble_eq_true rfl), (Nat.le_of_ble_eq_true rfl), (Nat.le_of_ble_eq_true rfl), (Nat.le_of_ble_eq_true rfl)⟩ rfl rfl (Nat.le_of_ble_eq_true rfl) dL_offer_5 (fun q => ?_)
    refine z_astore (lv' := [(4, .ref q), (0, .ref a0), (1, .int a1), (2, .int a2), (3, .ref a3)]) B dL_offer_17 (by decide) rfl ?_
    refine z_iconst (v := 2) B dL_offer_19 (by decide) ?_
    cases hf
    exact z_iret B dL_offer_20 (Nat.le_of_ble_eq_true rfl) (Nat.le_of_ble_eq_true rfl)
  rcases zite hf with ⟨c8, hf⟩ | ⟨c8, hf⟩
  · subst c8
    refine z_callVC B [.int a1, .int a2] [.int 0, .ref a3] [(⟨0, 10, 13, 28⟩ : ExceptionTableEntry), (⟨0, 10, 17, 13⟩ : ExceptionTableEntry)] (⟨0, 10, 21, 15⟩ : ExceptionTableEntry) [] hT (fun z hz => (List.mem_cons.mp hz).elim (fun e => by subst e; exact ⟨by decide, "java/lang/IndexOutOfBoundsException", lc_28, by decide, by decide⟩) (fun hz => by rcases List.mem_singleton.mp hz with rfl; exact ⟨by decide, "java/lang/IllegalArgumentException", lc_13, by decide, by decide⟩)) (by decide) (by decide) (by decide) lc_15 cw_X6_offer mv_RL_43 (tX6_offer hst ew1) rfl (by decide) (kfX6_offer ew1) ⟨rfl, rfl, (Nat.le_of_ble_eq_true rfl), (Nat.le_of_ble_eq_true rfl), (Nat.le_of_ble_eq_true rfl), (Nat.le_of_ble_eq_true rfl)⟩ rfl rfl (Nat.le_of_ble_eq_true rfl) dL_offer_5 (fun q => ?_)
    refine z_astore (lv' := [(4, .ref q), (0, .ref a0), (1, .int a1), (2, .int a2), (3, .ref a3)]) B dL_offer_21 (by decide) rfl ?_
    refine z_iconst (v := 3) B dL_offer_23 (by decide) ?_
    cases hf
    exact z_iret B dL_offer_24 (Nat.le_of_ble_eq_true rfl) (Nat.le_of_ble_eq_true rfl)
  cases hf
abbrev rm_L_paste : Room := { frames := 8, cells := 3, slots := 18, locals := 136 }
set_option maxRecDepth 100000 in
set_option maxHeartbeats 4000000 in
theorem tL_paste {l : Launch} {G : zG} (hst : l.stackTraces = false) {h : zH} {a0 : Nat} {a1 : Int32} {a2 : Int32} {a3 : Nat} {r : Int32 × zH} (hf : fL_paste h a0 a1 a2 a3 = some r) : zMet l G yL_paste (.codeWith yL_paste cL_paste 5 (some .int) [(0, 10, 13, 28), (0, 10, 17, 15)]) rm_L_paste 3 18 [.ref a0, .int a1, .int a2, .ref a3] h (zoi r) := by
  unfold fL_paste at hf
  refine z_enterW (by decide) (Nat.le_of_ble_eq_true rfl) hst (fun x hx B hT => ?_)
  subst hx
  have B : zB G x cL_paste 5 RL "paste" rm_L_paste (some .int) := B
  show zV G x 5 (zQ G x (zoi r) 3 18) h 0 0 0 [(0, .ref a0), (1, .int a1), (2, .int a2), (3, .ref a3)] []
  refine z_aload_n B dL_paste_0 rfl 3 rfl ?_
  refine z_iconst (v := 0) B dL_paste_1 (by decide) ?_
  refine z_aload_n B dL_paste_2 rfl 0 rfl ?_
  refine z_iload_n B dL_paste_3 rfl 1 rfl ?_
  refine z_iload_n B dL_paste_4 rfl 2 rfl ?_
  rcases zb5s hf with ⟨w1, h2, ew1, hf⟩ | ⟨E3, h4, ew1, hf⟩
  · refine z_callVi B [.int a1, .int a2] [.int 0, .ref a3] cw_X6_paste mv_RL_46 (tX6_paste hst ew1) rfl (by decide) (kfX6_paste ew1) ⟨rfl, rfl, (Nat.le_of_ble_eq_true rfl), (Nat.le_of_ble_eq_true rfl), (Nat.le_of_ble_eq_true rfl), (Nat.le_of_ble_eq_true rfl)⟩ rfl rfl (Nat.le_of_ble_eq_true rfl) dL_paste_5 ?_
    refine z_i2l B dL_paste_8 ?_
    obtain ⟨h5, eh5, hf⟩ := zbs hf
    refine z_bJ B eh5 dL_paste_9 ?_
    refine z_goto B 21 dL_paste_10 (by decide) ?_
    refine z_iconst (v := 0) B dL_paste_21 (by decide) ?_
    cases hf
    exact z_iret B dL_paste_22 (Nat.le_of_ble_eq_true rfl) (Nat.le_of_ble_eq_true rfl)
  rcases zite hf with ⟨c6, hf⟩ | ⟨c6, hf⟩
  · subst c6
    refine z_callVC B [.int a1, .int a2] [.int 0, .ref a3] [] (⟨0, 10, 13, 28⟩ : ExceptionTableEntry) [(⟨0, 10, 17, 15⟩ : ExceptionTableEntry)] hT (fun z hz => nomatch hz) (by decide) (by decide) (by decide) lc_28 cw_X6_paste mv_RL_46 (tX6_paste hst ew1) rfl (by decide) (kfX6_paste ew1) ⟨rfl, rfl, (Nat.le_of_ble_eq_true rfl), (Nat.le_of_ble_eq_true rfl), (Nat.le_of_ble_eq_true rfl), (Nat.le_of_ble_eq_true rfl)⟩ rfl rfl (Nat.le_of_ble_eq_true rfl) dL_paste_5 (fun q => ?_)
    refine z_astore (lv' := [(4, .ref q), (0, .ref a0), (1, .int a1), (2, .int a2), (3, .ref a3)]) B dL_paste_13 (by decide) rfl ?_
    refine z_iconst (v := 1) B dL_paste_15 (by decide) ?_
    cases hf
    exact z_iret B dL_paste_16 (Nat.le_of_ble_eq_true rfl) (Nat.le_of_ble_eq_true rfl)
  rcases zite hf with ⟨c7, hf⟩ | ⟨c7, hf⟩
  · subst c7
    refine z_callVC B [.int a1, .int a2] [.int 0, .ref a3] [(⟨0, 10, 13, 28⟩ : ExceptionTableEntry)] (⟨0, 10, 17, 15⟩ : ExceptionTableEntry) [] hT (fun z hz => by rcases List.mem_singleton.mp hz with rfl; exact ⟨by decide, "java/lang/IndexOutOfBoundsException", lc_28, by decide, by decide⟩) (by decide) (by decide) (by decide) lc_15 cw_X6_paste mv_RL_46 (tX6_paste hst ew1) rfl (by decide) (kfX6_paste ew1) ⟨rfl, rfl, (Nat.le_of_ble_eq_true rfl), (Nat.le_of_ble_eq_true rfl), (Nat.le_of_ble_eq_true rfl), (Nat.le_of_ble_eq_true rfl)⟩ rfl rfl (Nat.le_of_ble_eq_true rfl) dL_paste_5 (fun q => ?_)
    refine z_astore (lv' := [(4, .ref q), (0, .ref a0), (1, .int a1), (2, .int a2), (3, .ref a3)]) B dL_paste_17 (by decide) rfl ?_
    refine z_iconst (v := 2) B dL_paste_19 (by decide) ?_
    cases hf
    exact z_iret B dL_paste_20 (Nat.le_of_ble_eq_true rfl) (Nat.le_of_ble_eq_true rfl)
  cases hf
abbrev rm_L_togglePin : Room := { frames := 8, cells := 1, slots := 6, locals := 124 }
set_option maxRecDepth 100000 in
set_option maxHeartbeats 4000000 in
theorem tL_togglePin {l : Launch} {G : zG} (hst : l.stackTraces = false) {h : zH} {a0 : Nat} {a1 : Int32} {a2 : Nat} {r : Int32 × zH} (hf : fL_togglePin h a0 a1 a2 = some r) : zMet l G yL_togglePin (.codeWith yL_togglePin cL_togglePin 4 (some .int) [(0, 9, 12, 28)]) rm_L_togglePin 1 6 [.ref a0, .int a1, .ref a2] h (zoi r) := by
  unfold fL_togglePin at hf
  refine z_enterW (by decide) (Nat.le_of_ble_eq_true rfl) hst (fun x hx B hT => ?_)
  subst hx
  have B : zB G x cL_togglePin 4 RL "togglePin" rm_L_togglePin (some .int) := B
  show zV G x 4 (zQ G x (zoi r) 1 6) h 0 0 0 [(0, .ref a0), (1, .int a1), (2, .ref a2)] []
  refine z_aload_n B dL_togglePin_0 rfl 2 rfl ?_
  refine z_iconst (v := 0) B dL_togglePin_1 (by decide) ?_
  refine z_aload_n B dL_togglePin_2 rfl 0 rfl ?_
  refine z_iload_n B dL_togglePin_3 rfl 1 rfl ?_
  rcases zb5s hf with ⟨w1, h2, ew1, hf⟩ | ⟨E3, h4, ew1, hf⟩
  · refine z_callVi B [.int a1] [.int 0, .ref a2] cw_X6_togglePin mv_RL_49 (tX6_togglePin hst ew1) rfl (by decide) (kfX6_togglePin ew1) ⟨rfl, rfl, (Nat.le_of_ble_eq_true rfl), (Nat.le_of_ble_eq_true rfl), (Nat.le_of_ble_eq_true rfl), (Nat.le_of_ble_eq_true rfl)⟩ rfl rfl (Nat.le_of_ble_eq_true rfl) dL_togglePin_4 ?_
    refine z_i2l B dL_togglePin_7 ?_
    obtain ⟨h5, eh5, hf⟩ := zbs hf
    refine z_bJ B eh5 dL_togglePin_8 ?_
    refine z_goto B 15 dL_togglePin_9 (by decide) ?_
    refine z_iconst (v := 0) B dL_togglePin_15 (by decide) ?_
    cases hf
    exact z_iret B dL_togglePin_16 (Nat.le_of_ble_eq_true rfl) (Nat.le_of_ble_eq_true rfl)
  rcases zite hf with ⟨c6, hf⟩ | ⟨c6, hf⟩
  · subst c6
    refine z_callVC B [.int a1] [.int 0, .ref a2] [] (⟨0, 9, 12, 28⟩ : ExceptionTableEntry) [] hT (fun z hz => nomatch hz) (by decide) (by decide) (by decide) lc_28 cw_X6_togglePin mv_RL_49 (tX6_togglePin hst ew1) rfl (by decide) (kfX6_togglePin ew1) ⟨rfl, rfl, (Nat.le_of_ble_eq_true rfl), (Nat.le_of_ble_eq_true rfl), (Nat.le_of_ble_eq_true rfl), (Nat.le_of_ble_eq_true rfl)⟩ rfl rfl (Nat.le_of_ble_eq_true rfl) dL_togglePin_4 (fun q => ?_)
    refine z_astore_n (lv' := [(3, .ref q), (0, .ref a0), (1, .int a1), (2, .ref a2)]) B dL_togglePin_12 rfl (by decide) rfl ?_
    refine z_iconst (v := 1) B dL_togglePin_13 (by decide) ?_
    cases hf
    exact z_iret B dL_togglePin_14 (Nat.le_of_ble_eq_true rfl) (Nat.le_of_ble_eq_true rfl)
  cases hf
abbrev rm_L_remove : Room := { frames := 8, cells := 1, slots := 6, locals := 125 }
set_option maxRecDepth 100000 in
set_option maxHeartbeats 4000000 in
theorem tL_remove {l : Launch} {G : zG} (hst : l.stackTraces = false) {h : zH} {a0 : Nat} {a1 : Int32} {a2 : Nat} {r : Int32 × zH} (hf : fL_remove h a0 a1 a2 = some r) : zMet l G yL_remove (.codeWith yL_remove cL_remove 4 (some .int) [(0, 9, 12, 28)]) rm_L_remove 1 6 [.ref a0, .int a1, .ref a2] h (zoi r) := by
  unfold fL_remove at hf
  refine z_enterW (by decide) (Nat.le_of_ble_eq_true rfl) hst (fun x hx B hT => ?_)
  subst hx
  have B : zB G x cL_remove 4 RL "remove" rm_L_remove (some .int) := B
  show zV G x 4 (zQ G x (zoi r) 1 6) h 0 0 0 [(0, .ref a0), (1, .int a1), (2, .ref a2)] []
  refine z_aload_n B dL_remove_0 rfl 2 rfl ?_
  refine z_iconst (v := 0) B dL_remove_1 (by decide) ?_
  refine z_aload_n B dL_remove_2 rfl 0 rfl ?_
  refine z_iload_n B dL_remove_3 rfl 1 rfl ?_
  rcases zb5s hf with ⟨w1, h2, ew1, hf⟩ | ⟨E3, h4, ew1, hf⟩
  · refine z_callVi B [.int a1] [.int 0, .ref a2] cw_X6_remove mv_RL_52 (tX6_remove hst ew1) rfl (by decide) (kfX6_remove ew1) ⟨rfl, rfl, (Nat.le_of_ble_eq_true rfl), (Nat.le_of_ble_eq_true rfl), (Nat.le_of_ble_eq_true rfl), (Nat.le_of_ble_eq_true rfl)⟩ rfl rfl (Nat.le_of_ble_eq_true rfl) dL_remove_4 ?_
    refine z_i2l B dL_remove_7 ?_
    obtain ⟨h5, eh5, hf⟩ := zbs hf
    refine z_bJ B eh5 dL_remove_8 ?_
    refine z_goto B 15 dL_remove_9 (by decide) ?_
    refine z_iconst (v := 0) B dL_remove_15 (by decide) ?_
    cases hf
    exact z_iret B dL_remove_16 (Nat.le_of_ble_eq_true rfl) (Nat.le_of_ble_eq_true rfl)
  rcases zite hf with ⟨c6, hf⟩ | ⟨c6, hf⟩
  · subst c6
    refine z_callVC B [.int a1] [.int 0, .ref a2] [] (⟨0, 9, 12, 28⟩ : ExceptionTableEntry) [] hT (fun z hz => nomatch hz) (by decide) (by decide) (by decide) lc_28 cw_X6_remove mv_RL_52 (tX6_remove hst ew1) rfl (by decide) (kfX6_remove ew1) ⟨rfl, rfl, (Nat.le_of_ble_eq_true rfl), (Nat.le_of_ble_eq_true rfl), (Nat.le_of_ble_eq_true rfl), (Nat.le_of_ble_eq_true rfl)⟩ rfl rfl (Nat.le_of_ble_eq_true rfl) dL_remove_4 (fun q => ?_)
    refine z_astore_n (lv' := [(3, .ref q), (0, .ref a0), (1, .int a1), (2, .ref a2)]) B dL_remove_12 rfl (by decide) rfl ?_
    refine z_iconst (v := 1) B dL_remove_13 (by decide) ?_
    cases hf
    exact z_iret B dL_remove_14 (Nat.le_of_ble_eq_true rfl) (Nat.le_of_ble_eq_true rfl)
  cases hf
abbrev rm_L_setBudget : Room := { frames := 7, cells := 1, slots := 6, locals := 112 }
set_option maxRecDepth 100000 in
set_option maxHeartbeats 4000000 in
theorem tL_setBudget {l : Launch} {G : zG} (hst : l.stackTraces = false) {h : zH} {a0 : Nat} {a1 : Int32} {a2 : Nat} {r : Int32 × zH} (hf : fL_setBudget h a0 a1 a2 = some r) : zMet l G yL_setBudget (.codeWith yL_setBudget cL_setBudget 4 (some .int) [(0, 9, 12, 13), (0, 9, 15, 15)]) rm_L_setBudget 1 6 [.ref a0, .int a1, .ref a2] h (zoi r) := by
  unfold fL_setBudget at hf
  refine z_enterW (by decide) (Nat.le_of_ble_eq_true rfl) hst (fun x hx B hT => ?_)
  subst hx
  have B : zB G x cL_setBudget 4 RL "setBudget" rm_L_setBudget (some .int) := B
  show zV G x 4 (zQ G x (zoi r) 1 6) h 0 0 0 [(0, .ref a0), (1, .int a1), (2, .ref a2)] []
  refine z_aload_n B dL_setBudget_0 rfl 2 rfl ?_
  refine z_iconst (v := 0) B dL_setBudget_1 (by decide) ?_
  refine z_aload_n B dL_setBudget_2 rfl 0 rfl ?_
  refine z_iload_n B dL_setBudget_3 rfl 1 rfl ?_
  rcases zb5s hf with ⟨w1, h2, ew1, hf⟩ | ⟨E3, h4, ew1, hf⟩
  · refine z_callVi B [.int a1] [.int 0, .ref a2] cw_X6_setBudget mv_RL_55 (tX6_setBudget hst ew1) rfl (by decide) (kfX6_setBudget ew1) ⟨rfl, rfl, (Nat.le_of_ble_eq_true rfl), (Nat.le_of_ble_eq_true rfl), (Nat.le_of_ble_eq_true rfl), (Nat.le_of_ble_eq_true rfl)⟩ rfl rfl (Nat.le_of_ble_eq_true rfl) dL_setBudget_4 ?_
    refine z_i2l B dL_setBudget_7 ?_
    obtain ⟨h5, eh5, hf⟩ := zbs hf
    refine z_bJ B eh5 dL_setBudget_8 ?_
    refine z_goto B 18 dL_setBudget_9 (by decide) ?_
    refine z_iconst (v := 0) B dL_setBudget_18 (by decide) ?_
    cases hf
    exact z_iret B dL_setBudget_19 (Nat.le_of_ble_eq_true rfl) (Nat.le_of_ble_eq_true rfl)
  rcases zite hf with ⟨c6, hf⟩ | ⟨c6, hf⟩
  · subst c6
    refine z_callVC B [.int a1] [.int 0, .ref a2] [] (⟨0, 9, 12, 13⟩ : ExceptionTableEntry) [(⟨0, 9, 15, 15⟩ : ExceptionTableEntry)] hT (fun z hz => nomatch hz) (by decide) (by decide) (by decide) lc_13 cw_X6_setBudget mv_RL_55 (tX6_setBudget hst ew1) rfl (by decide) (kfX6_setBudget ew1) ⟨rfl, rfl, (Nat.le_of_ble_eq_true rfl), (Nat.le_of_ble_eq_true rfl), (Nat.le_of_ble_eq_true rfl), (Nat.le_of_ble_eq_true rfl)⟩ rfl rfl (Nat.le_of_ble_eq_true rfl) dL_setBudget_4 (fun q => ?_)
    refine z_astore_n (lv' := [(3, .ref q), (0, .ref a0), (1, .int a1), (2, .ref a2)]) B dL_setBudget_12 rfl (by decide) rfl ?_
    refine z_iconst (v := 1) B dL_setBudget_13 (by decide) ?_
    cases hf
    exact z_iret B dL_setBudget_14 (Nat.le_of_ble_eq_true rfl) (Nat.le_of_ble_eq_true rfl)
  rcases zite hf with ⟨c7, hf⟩ | ⟨c7, hf⟩
  · subst c7
    refine z_callVC B [.int a1] [.int 0, .ref a2] [(⟨0, 9, 12, 13⟩ : ExceptionTableEntry)] (⟨0, 9, 15, 15⟩ : ExceptionTableEntry) [] hT (fun z hz => by rcases List.mem_singleton.mp hz with rfl; exact ⟨by decide, "java/lang/IllegalArgumentException", lc_13, by decide, by decide⟩) (by decide) (by decide) (by decide) lc_15 cw_X6_setBudget mv_RL_55 (tX6_setBudget hst ew1) rfl (by decide) (kfX6_setBudget ew1) ⟨rfl, rfl, (Nat.le_of_ble_eq_true rfl), (Nat.le_of_ble_eq_true rfl), (Nat.le_of_ble_eq_true rfl), (Nat.le_of_ble_eq_true rfl)⟩ rfl rfl (Nat.le_of_ble_eq_true rfl) dL_setBudget_4 (fun q => ?_)
    refine z_astore_n (lv' := [(3, .ref q), (0, .ref a0), (1, .int a1), (2, .ref a2)]) B dL_setBudget_15 rfl (by decide) rfl ?_
    refine z_iconst (v := 2) B dL_setBudget_16 (by decide) ?_
    cases hf
    exact z_iret B dL_setBudget_17 (Nat.le_of_ble_eq_true rfl) (Nat.le_of_ble_eq_true rfl)
  cases hf
abbrev rm_L_setCost : Room := { frames := 8, cells := 2, slots := 12, locals := 126 }
set_option maxRecDepth 100000 in
set_option maxHeartbeats 4000000 in
theorem tL_setCost {l : Launch} {G : zG} (hst : l.stackTraces = false) {h : zH} {a0 : Nat} {a1 : Int32} {a2 : Int32} {a3 : Nat} {r : Int32 × zH} (hf : fL_setCost h a0 a1 a2 a3 = some r) : zMet l G yL_setCost (.codeWith yL_setCost cL_setCost 5 (some .int) [(0, 10, 13, 28), (0, 10, 17, 13)]) rm_L_setCost 2 12 [.ref a0, .int a1, .int a2, .ref a3] h (zoi r) := by
  unfold fL_setCost at hf
  refine z_enterW (by decide) (Nat.le_of_ble_eq_true rfl) hst (fun x hx B hT => ?_)
  subst hx
  have B : zB G x cL_setCost 5 RL "setCost" rm_L_setCost (some .int) := B
  show zV G x 5 (zQ G x (zoi r) 2 12) h 0 0 0 [(0, .ref a0), (1, .int a1), (2, .int a2), (3, .ref a3)] []
  refine z_aload_n B dL_setCost_0 rfl 3 rfl ?_
  refine z_iconst (v := 0) B dL_setCost_1 (by decide) ?_
  refine z_aload_n B dL_setCost_2 rfl 0 rfl ?_
  refine z_iload_n B dL_setCost_3 rfl 1 rfl ?_
  refine z_iload_n B dL_setCost_4 rfl 2 rfl ?_
  rcases zb5s hf with ⟨w1, h2, ew1, hf⟩ | ⟨E3, h4, ew1, hf⟩
  · refine z_callVi B [.int a1, .int a2] [.int 0, .ref a3] cw_X6_setCost mv_RL_58 (tX6_setCost hst ew1) rfl (by decide) (kfX6_setCost ew1) ⟨rfl, rfl, (Nat.le_of_ble_eq_true rfl), (Nat.le_of_ble_eq_true rfl), (Nat.le_of_ble_eq_true rfl), (Nat.le_of_ble_eq_true rfl)⟩ rfl rfl (Nat.le_of_ble_eq_true rfl) dL_setCost_5 ?_
    refine z_i2l B dL_setCost_8 ?_
    obtain ⟨h5, eh5, hf⟩ := zbs hf
    refine z_bJ B eh5 dL_setCost_9 ?_
    refine z_goto B 21 dL_setCost_10 (by decide) ?_
    refine z_iconst (v := 0) B dL_setCost_21 (by decide) ?_
    cases hf
    exact z_iret B dL_setCost_22 (Nat.le_of_ble_eq_true rfl) (Nat.le_of_ble_eq_true rfl)
  rcases zite hf with ⟨c6, hf⟩ | ⟨c6, hf⟩
  · subst c6
    refine z_callVC B [.int a1, .int a2] [.int 0, .ref a3] [] (⟨0, 10, 13, 28⟩ : ExceptionTableEntry) [(⟨0, 10, 17, 13⟩ : ExceptionTableEntry)] hT (fun z hz => nomatch hz) (by decide) (by decide) (by decide) lc_28 cw_X6_setCost mv_RL_58 (tX6_setCost hst ew1) rfl (by decide) (kfX6_setCost ew1) ⟨rfl, rfl, (Nat.le_of_ble_eq_true rfl), (Nat.le_of_ble_eq_true rfl), (Nat.le_of_ble_eq_true rfl), (Nat.le_of_ble_eq_true rfl)⟩ rfl rfl (Nat.le_of_ble_eq_true rfl) dL_setCost_5 (fun q => ?_)
    refine z_astore (lv' := [(4, .ref q), (0, .ref a0), (1, .int a1), (2, .int a2), (3, .ref a3)]) B dL_setCost_13 (by decide) rfl ?_
    refine z_iconst (v := 1) B dL_setCost_15 (by decide) ?_
    cases hf
    exact z_iret B dL_setCost_16 (Nat.le_of_ble_eq_true rfl) (Nat.le_of_ble_eq_true rfl)
  rcases zite hf with ⟨c7, hf⟩ | ⟨c7, hf⟩
  · subst c7
    refine z_callVC B [.int a1, .int a2] [.int 0, .ref a3] [(⟨0, 10, 13, 28⟩ : ExceptionTableEntry)] (⟨0, 10, 17, 13⟩ : ExceptionTableEntry) [] hT (fun z hz => by rcases List.mem_singleton.mp hz with rfl; exact ⟨by decide, "java/lang/IndexOutOfBoundsException", lc_28, by decide, by decide⟩) (by decide) (by decide) (by decide) lc_13 cw_X6_setCost mv_RL_58 (tX6_setCost hst ew1) rfl (by decide) (kfX6_setCost ew1) ⟨rfl, rfl, (Nat.le_of_ble_eq_true rfl), (Nat.le_of_ble_eq_true rfl), (Nat.le_of_ble_eq_true rfl), (Nat.le_of_ble_eq_true rfl)⟩ rfl rfl (Nat.le_of_ble_eq_true rfl) dL_setCost_5 (fun q => ?_)
    refine z_astore (lv' := [(4, .ref q), (0, .ref a0), (1, .int a1), (2, .int a2), (3, .ref a3)]) B dL_setCost_17 (by decide) rfl ?_
    refine z_iconst (v := 2) B dL_setCost_19 (by decide) ?_
    cases hf
    exact z_iret B dL_setCost_20 (Nat.le_of_ble_eq_true rfl) (Nat.le_of_ble_eq_true rfl)
  cases hf
abbrev rm_L_undo : Room := { frames := 7, cells := 1, slots := 6, locals := 111 }
set_option maxRecDepth 100000 in
set_option maxHeartbeats 4000000 in
theorem tL_undo {l : Launch} {G : zG} (hst : l.stackTraces = false) {h : zH} {a0 : Nat} {a1 : Nat} {r : Int32 × zH} (hf : fL_undo h a0 a1 = some r) : zMet l G yL_undo (.codeWith yL_undo cL_undo 3 (some .int) [(0, 8, 11, 15)]) rm_L_undo 1 6 [.ref a0, .ref a1] h (zoi r) := by
  unfold fL_undo at hf
  refine z_enterW (by decide) (Nat.le_of_ble_eq_true rfl) hst (fun x hx B hT => ?_)
  subst hx
  have B : zB G x cL_undo 3 RL "undo" rm_L_undo (some .int) := B
  show zV G x 3 (zQ G x (zoi r) 1 6) h 0 0 0 [(0, .ref a0), (1, .ref a1)] []
  refine z_aload_n B dL_undo_0 rfl 1 rfl ?_
  refine z_iconst (v := 0) B dL_undo_1 (by decide) ?_
  refine z_aload_n B dL_undo_2 rfl 0 rfl ?_
  rcases zb5s hf with ⟨w1, h2, ew1, hf⟩ | ⟨E3, h4, ew1, hf⟩
  · refine z_callVi B [] [.int 0, .ref a1] cw_X6_undo mv_RL_61 (tX6_undo hst ew1) rfl (by decide) (kfX6_undo ew1) ⟨rfl, rfl, (Nat.le_of_ble_eq_true rfl), (Nat.le_of_ble_eq_true rfl), (Nat.le_of_ble_eq_true rfl), (Nat.le_of_ble_eq_true rfl)⟩ rfl rfl (Nat.le_of_ble_eq_true rfl) dL_undo_3 ?_
    refine z_i2l B dL_undo_6 ?_
    obtain ⟨h5, eh5, hf⟩ := zbs hf
    refine z_bJ B eh5 dL_undo_7 ?_
    refine z_goto B 14 dL_undo_8 (by decide) ?_
    refine z_iconst (v := 0) B dL_undo_14 (by decide) ?_
    cases hf
    exact z_iret B dL_undo_15 (Nat.le_of_ble_eq_true rfl) (Nat.le_of_ble_eq_true rfl)
  rcases zite hf with ⟨c6, hf⟩ | ⟨c6, hf⟩
  · subst c6
    refine z_callVC B [] [.int 0, .ref a1] [] (⟨0, 8, 11, 15⟩ : ExceptionTableEntry) [] hT (fun z hz => nomatch hz) (by decide) (by decide) (by decide) lc_15 cw_X6_undo mv_RL_61 (tX6_undo hst ew1) rfl (by decide) (kfX6_undo ew1) ⟨rfl, rfl, (Nat.le_of_ble_eq_true rfl), (Nat.le_of_ble_eq_true rfl), (Nat.le_of_ble_eq_true rfl), (Nat.le_of_ble_eq_true rfl)⟩ rfl rfl (Nat.le_of_ble_eq_true rfl) dL_undo_3 (fun q => ?_)
    refine z_astore_n (lv' := [(2, .ref q), (0, .ref a0), (1, .ref a1)]) B dL_undo_11 rfl (by decide) rfl ?_
    refine z_iconst (v := 1) B dL_undo_12 (by decide) ?_
    cases hf
    exact z_iret B dL_undo_13 (Nat.le_of_ble_eq_true rfl) (Nat.le_of_ble_eq_true rfl)
  cases hf
abbrev rm_L_path : Room := { frames := 8, cells := 3, slots := 18, locals := 126 }
set_option maxRecDepth 100000 in
set_option maxHeartbeats 4000000 in
theorem tL_path {l : Launch} {G : zG} (hst : l.stackTraces = false) {h : zH} {a0 : Nat} {a1 : Int32} {a2 : Int32} {a3 : Int32} {a4 : Nat} {r : Int32 × zH} (hf : fL_path h a0 a1 a2 a3 a4 = some r) : zMet l G yL_path (.codeWith yL_path cL_path 6 (some .int) [(0, 12, 15, 28), (0, 12, 19, 13)]) rm_L_path 3 18 [.ref a0, .int a1, .int a2, .int a3, .ref a4] h (zoi r) := by
  unfold fL_path at hf
  refine z_enterW (by decide) (Nat.le_of_ble_eq_true rfl) hst (fun x hx B hT => ?_)
  subst hx
  have B : zB G x cL_path 6 RL "path" rm_L_path (some .int) := B
  show zV G x 6 (zQ G x (zoi r) 3 18) h 0 0 0 [(0, .ref a0), (1, .int a1), (2, .int a2), (3, .int a3), (4, .ref a4)] []
  refine z_aload B dL_path_0 4 rfl ?_
  refine z_iconst (v := 0) B dL_path_2 (by decide) ?_
  refine z_aload_n B dL_path_3 rfl 0 rfl ?_
  refine z_iload_n B dL_path_4 rfl 1 rfl ?_
  refine z_iload_n B dL_path_5 rfl 2 rfl ?_
  refine z_iload_n B dL_path_6 rfl 3 rfl ?_
  rcases zb5s hf with ⟨w1, h2, ew1, hf⟩ | ⟨E3, h4, ew1, hf⟩
  · refine z_callVi B [.int a1, .int a2, .int a3] [.int 0, .ref a4] cw_X6_path mv_RL_64 (tX6_path hst ew1) rfl (by decide) (kfX6_path ew1) ⟨rfl, rfl, (Nat.le_of_ble_eq_true rfl), (Nat.le_of_ble_eq_true rfl), (Nat.le_of_ble_eq_true rfl), (Nat.le_of_ble_eq_true rfl)⟩ rfl rfl (Nat.le_of_ble_eq_true rfl) dL_path_7 ?_
    refine z_i2l B dL_path_10 ?_
    obtain ⟨h5, eh5, hf⟩ := zbs hf
    refine z_bJ B eh5 dL_path_11 ?_
    refine z_goto B 23 dL_path_12 (by decide) ?_
    refine z_iconst (v := 0) B dL_path_23 (by decide) ?_
    cases hf
    exact z_iret B dL_path_24 (Nat.le_of_ble_eq_true rfl) (Nat.le_of_ble_eq_true rfl)
  rcases zite hf with ⟨c6, hf⟩ | ⟨c6, hf⟩
  · subst c6
    refine z_callVC B [.int a1, .int a2, .int a3] [.int 0, .ref a4] [] (⟨0, 12, 15, 28⟩ : ExceptionTableEntry) [(⟨0, 12, 19, 13⟩ : ExceptionTableEntry)] hT (fun z hz => nomatch hz) (by decide) (by decide) (by decide) lc_28 cw_X6_path mv_RL_64 (tX6_path hst ew1) rfl (by decide) (kfX6_path ew1) ⟨rfl, rfl, (Nat.le_of_ble_eq_true rfl), (Nat.le_of_ble_eq_true rfl), (Nat.le_of_ble_eq_true rfl), (Nat.le_of_ble_eq_true rfl)⟩ rfl rfl (Nat.le_of_ble_eq_true rfl) dL_path_7 (fun q => ?_)
    refine z_astore (lv' := [(5, .ref q), (0, .ref a0), (1, .int a1), (2, .int a2), (3, .int a3), (4, .ref a4)]) B dL_path_15 (by decide) rfl ?_
    refine z_iconst (v := 1) B dL_path_17 (by decide) ?_
    cases hf
    exact z_iret B dL_path_18 (Nat.le_of_ble_eq_true rfl) (Nat.le_of_ble_eq_true rfl)
  rcases zite hf with ⟨c7, hf⟩ | ⟨c7, hf⟩
  · subst c7
    refine z_callVC B [.int a1, .int a2, .int a3] [.int 0, .ref a4] [(⟨0, 12, 15, 28⟩ : ExceptionTableEntry)] (⟨0, 12, 19, 13⟩ : ExceptionTableEntry) [] hT (fun z hz => by rcases List.mem_singleton.mp hz with rfl; exact ⟨by decide, "java/lang/IndexOutOfBoundsException", lc_28, by decide, by decide⟩) (by decide) (by decide) (by decide) lc_13 cw_X6_path mv_RL_64 (tX6_path hst ew1) rfl (by decide) (kfX6_path ew1) ⟨rfl, rfl, (Nat.le_of_ble_eq_true rfl), (Nat.le_of_ble_eq_true rfl), (Nat.le_of_ble_eq_true rfl), (Nat.le_of_ble_eq_true rfl)⟩ rfl rfl (Nat.le_of_ble_eq_true rfl) dL_path_7 (fun q => ?_)
    refine z_astore (lv' := [(5, .ref q), (0, .ref a0), (1, .int a1), (2, .int a2), (3, .int a3), (4, .ref a4)]) B dL_path_19 (by decide) rfl ?_
    refine z_iconst (v := 2) B dL_path_21 (by decide) ?_
    cases hf
    exact z_iret B dL_path_22 (Nat.le_of_ble_eq_true rfl) (Nat.le_of_ble_eq_true rfl)
  cases hf
abbrev rm_L_step : Room := { frames := 8, cells := 3, slots := 18, locals := 126 }
set_option maxRecDepth 100000 in
set_option maxHeartbeats 4000000 in
theorem tL_step {l : Launch} {G : zG} (hst : l.stackTraces = false) {h : zH} {a0 : Nat} {a1 : Int32} {a2 : Int32} {a3 : Int32} {a4 : Nat} {r : Int32 × zH} (hf : fL_step h a0 a1 a2 a3 a4 = some r) : zMet l G yL_step (.codeWith yL_step cL_step 6 (some .int) [(0, 12, 15, 28), (0, 12, 19, 13)]) rm_L_step 3 18 [.ref a0, .int a1, .int a2, .int a3, .ref a4] h (zoi r) := by
  unfold fL_step at hf
  refine z_enterW (by decide) (Nat.le_of_ble_eq_true rfl) hst (fun x hx B hT => ?_)
  subst hx
  have B : zB G x cL_step 6 RL "step" rm_L_step (some .int) := B
  show zV G x 6 (zQ G x (zoi r) 3 18) h 0 0 0 [(0, .ref a0), (1, .int a1), (2, .int a2), (3, .int a3), (4, .ref a4)] []
  refine z_aload B dL_step_0 4 rfl ?_
  refine z_iconst (v := 0) B dL_step_2 (by decide) ?_
  refine z_aload_n B dL_step_3 rfl 0 rfl ?_
  refine z_iload_n B dL_step_4 rfl 1 rfl ?_
  refine z_iload_n B dL_step_5 rfl 2 rfl ?_
  refine z_iload_n B dL_step_6 rfl 3 rfl ?_
  rcases zb5s hf with ⟨w1, h2, ew1, hf⟩ | ⟨E3, h4, ew1, hf⟩
  · refine z_callVi B [.int a1, .int a2, .int a3] [.int 0, .ref a4] cw_X6_step mv_RL_68 (tX6_step hst ew1) rfl (by decide) (kfX6_step ew1) ⟨rfl, rfl, (Nat.le_of_ble_eq_true rfl), (Nat.le_of_ble_eq_true rfl), (Nat.le_of_ble_eq_true rfl), (Nat.le_of_ble_eq_true rfl)⟩ rfl rfl (Nat.le_of_ble_eq_true rfl) dL_step_7 ?_
    refine z_i2l B dL_step_10 ?_
    obtain ⟨h5, eh5, hf⟩ := zbs hf
    refine z_bJ B eh5 dL_step_11 ?_
    refine z_goto B 23 dL_step_12 (by decide) ?_
    refine z_iconst (v := 0) B dL_step_23 (by decide) ?_
    cases hf
    exact z_iret B dL_step_24 (Nat.le_of_ble_eq_true rfl) (Nat.le_of_ble_eq_true rfl)
  rcases zite hf with ⟨c6, hf⟩ | ⟨c6, hf⟩
  · subst c6
    refine z_callVC B [.int a1, .int a2, .int a3] [.int 0, .ref a4] [] (⟨0, 12, 15, 28⟩ : ExceptionTableEntry) [(⟨0, 12, 19, 13⟩ : ExceptionTableEntry)] hT (fun z hz => nomatch hz) (by decide) (by decide) (by decide) lc_28 cw_X6_step mv_RL_68 (tX6_step hst ew1) rfl (by decide) (kfX6_step ew1) ⟨rfl, rfl, (Nat.le_of_ble_eq_true rfl), (Nat.le_of_ble_eq_true rfl), (Nat.le_of_ble_eq_true rfl), (Nat.le_of_ble_eq_true rfl)⟩ rfl rfl (Nat.le_of_ble_eq_true rfl) dL_step_7 (fun q => ?_)
    refine z_astore (lv' := [(5, .ref q), (0, .ref a0), (1, .int a1), (2, .int a2), (3, .int a3), (4, .ref a4)]) B dL_step_15 (by decide) rfl ?_
    refine z_iconst (v := 1) B dL_step_17 (by decide) ?_
    cases hf
    exact z_iret B dL_step_18 (Nat.le_of_ble_eq_true rfl) (Nat.le_of_ble_eq_true rfl)
  rcases zite hf with ⟨c7, hf⟩ | ⟨c7, hf⟩
  · subst c7
    refine z_callVC B [.int a1, .int a2, .int a3] [.int 0, .ref a4] [(⟨0, 12, 15, 28⟩ : ExceptionTableEntry)] (⟨0, 12, 19, 13⟩ : ExceptionTableEntry) [] hT (fun z hz => by rcases List.mem_singleton.mp hz with rfl; exact ⟨by decide, "java/lang/IndexOutOfBoundsException", lc_28, by decide, by decide⟩) (by decide) (by decide) (by decide) lc_13 cw_X6_step mv_RL_68 (tX6_step hst ew1) rfl (by decide) (kfX6_step ew1) ⟨rfl, rfl, (Nat.le_of_ble_eq_true rfl), (Nat.le_of_ble_eq_true rfl), (Nat.le_of_ble_eq_true rfl), (Nat.le_of_ble_eq_true rfl)⟩ rfl rfl (Nat.le_of_ble_eq_true rfl) dL_step_7 (fun q => ?_)
    refine z_astore (lv' := [(5, .ref q), (0, .ref a0), (1, .int a1), (2, .int a2), (3, .int a3), (4, .ref a4)]) B dL_step_19 (by decide) rfl ?_
    refine z_iconst (v := 2) B dL_step_21 (by decide) ?_
    cases hf
    exact z_iret B dL_step_22 (Nat.le_of_ble_eq_true rfl) (Nat.le_of_ble_eq_true rfl)
  cases hf
abbrev rm_L_sizeAfter : Room := { frames := 8, cells := 3, slots := 18, locals := 126 }
set_option maxRecDepth 100000 in
set_option maxHeartbeats 4000000 in
theorem tL_sizeAfter {l : Launch} {G : zG} (hst : l.stackTraces = false) {h : zH} {a0 : Nat} {a1 : Int32} {a2 : Int32} {a3 : Int32} {a4 : Nat} {r : Int32 × zH} (hf : fL_sizeAfter h a0 a1 a2 a3 a4 = some r) : zMet l G yL_sizeAfter (.codeWith yL_sizeAfter cL_sizeAfter 6 (some .int) [(0, 12, 15, 28), (0, 12, 19, 13)]) rm_L_sizeAfter 3 18 [.ref a0, .int a1, .int a2, .int a3, .ref a4] h (zoi r) := by
  unfold fL_sizeAfter at hf
  refine z_enterW (by decide) (Nat.le_of_ble_eq_true rfl) hst (fun x hx B hT => ?_)
  subst hx
  have B : zB G x cL_sizeAfter 6 RL "sizeAfter" rm_L_sizeAfter (some .int) := B
  show zV G x 6 (zQ G x (zoi r) 3 18) h 0 0 0 [(0, .ref a0), (1, .int a1), (2, .int a2), (3, .int a3), (4, .ref a4)] []
  refine z_aload B dL_sizeAfter_0 4 rfl ?_
  refine z_iconst (v := 0) B dL_sizeAfter_2 (by decide) ?_
  refine z_aload_n B dL_sizeAfter_3 rfl 0 rfl ?_
  refine z_iload_n B dL_sizeAfter_4 rfl 1 rfl ?_
  refine z_iload_n B dL_sizeAfter_5 rfl 2 rfl ?_
  refine z_iload_n B dL_sizeAfter_6 rfl 3 rfl ?_
  rcases zb5s hf with ⟨w1, h2, ew1, hf⟩ | ⟨E3, h4, ew1, hf⟩
  · refine z_callVi B [.int a1, .int a2, .int a3] [.int 0, .ref a4] cw_X6_sizeAfter mv_RL_71 (tX6_sizeAfter hst ew1) rfl (by decide) (kfX6_sizeAfter ew1) ⟨rfl, rfl, (Nat.le_of_ble_eq_true rfl), (Nat.le_of_ble_eq_true rfl), (Nat.le_of_ble_eq_true rfl), (Nat.le_of_ble_eq_true rfl)⟩ rfl rfl (Nat.le_of_ble_eq_true rfl) dL_sizeAfter_7 ?_
    refine z_i2l B dL_sizeAfter_10 ?_
    obtain ⟨h5, eh5, hf⟩ := zbs hf
    refine z_bJ B eh5 dL_sizeAfter_11 ?_
    refine z_goto B 23 dL_sizeAfter_12 (by decide) ?_
    refine z_iconst (v := 0) B dL_sizeAfter_23 (by decide) ?_
    cases hf
    exact z_iret B dL_sizeAfter_24 (Nat.le_of_ble_eq_true rfl) (Nat.le_of_ble_eq_true rfl)
  rcases zite hf with ⟨c6, hf⟩ | ⟨c6, hf⟩
  · subst c6
    refine z_callVC B [.int a1, .int a2, .int a3] [.int 0, .ref a4] [] (⟨0, 12, 15, 28⟩ : ExceptionTableEntry) [(⟨0, 12, 19, 13⟩ : ExceptionTableEntry)] hT (fun z hz => nomatch hz) (by decide) (by decide) (by decide) lc_28 cw_X6_sizeAfter mv_RL_71 (tX6_sizeAfter hst ew1) rfl (by decide) (kfX6_sizeAfter ew1) ⟨rfl, rfl, (Nat.le_of_ble_eq_true rfl), (Nat.le_of_ble_eq_true rfl), (Nat.le_of_ble_eq_true rfl), (Nat.le_of_ble_eq_true rfl)⟩ rfl rfl (Nat.le_of_ble_eq_true rfl) dL_sizeAfter_7 (fun q => ?_)
    refine z_astore (lv' := [(5, .ref q), (0, .ref a0), (1, .int a1), (2, .int a2), (3, .int a3), (4, .ref a4)]) B dL_sizeAfter_15 (by decide) rfl ?_
    refine z_iconst (v := 1) B dL_sizeAfter_17 (by decide) ?_
    cases hf
    exact z_iret B dL_sizeAfter_18 (Nat.le_of_ble_eq_true rfl) (Nat.le_of_ble_eq_true rfl)
  rcases zite hf with ⟨c7, hf⟩ | ⟨c7, hf⟩
  · subst c7
    refine z_callVC B [.int a1, .int a2, .int a3] [.int 0, .ref a4] [(⟨0, 12, 15, 28⟩ : ExceptionTableEntry)] (⟨0, 12, 19, 13⟩ : ExceptionTableEntry) [] hT (fun z hz => by rcases List.mem_singleton.mp hz with rfl; exact ⟨by decide, "java/lang/IndexOutOfBoundsException", lc_28, by decide, by decide⟩) (by decide) (by decide) (by decide) lc_13 cw_X6_sizeAfter mv_RL_71 (tX6_sizeAfter hst ew1) rfl (by decide) (kfX6_sizeAfter ew1) ⟨rfl, rfl, (Nat.le_of_ble_eq_true rfl), (Nat.le_of_ble_eq_true rfl), (Nat.le_of_ble_eq_true rfl), (Nat.le_of_ble_eq_true rfl)⟩ rfl rfl (Nat.le_of_ble_eq_true rfl) dL_sizeAfter_7 (fun q => ?_)
    refine z_astore (lv' := [(5, .ref q), (0, .ref a0), (1, .int a1), (2, .int a2), (3, .int a3), (4, .ref a4)]) B dL_sizeAfter_19 (by decide) rfl ?_
    refine z_iconst (v := 2) B dL_sizeAfter_21 (by decide) ?_
    cases hf
    exact z_iret B dL_sizeAfter_22 (Nat.le_of_ble_eq_true rfl) (Nat.le_of_ble_eq_true rfl)
  cases hf
abbrev rm_L_reachable : Room := { frames := 8, cells := 1, slots := 6, locals := 126 }
set_option maxRecDepth 100000 in
set_option maxHeartbeats 4000000 in
theorem tL_reachable {l : Launch} {G : zG} (hst : l.stackTraces = false) {h : zH} {a0 : Nat} {a1 : Int32} {a2 : Nat} {r : Int32 × zH} (hf : fL_reachable h a0 a1 a2 = some r) : zMet l G yL_reachable (.codeWith yL_reachable cL_reachable 4 (some .int) [(0, 9, 12, 28)]) rm_L_reachable 1 6 [.ref a0, .int a1, .ref a2] h (zoi r) := by
  unfold fL_reachable at hf
  refine z_enterW (by decide) (Nat.le_of_ble_eq_true rfl) hst (fun x hx B hT => ?_)
  subst hx
  have B : zB G x cL_reachable 4 RL "reachable" rm_L_reachable (some .int) := B
  show zV G x 4 (zQ G x (zoi r) 1 6) h 0 0 0 [(0, .ref a0), (1, .int a1), (2, .ref a2)] []
  refine z_aload_n B dL_reachable_0 rfl 2 rfl ?_
  refine z_iconst (v := 0) B dL_reachable_1 (by decide) ?_
  refine z_aload_n B dL_reachable_2 rfl 0 rfl ?_
  refine z_iload_n B dL_reachable_3 rfl 1 rfl ?_
  rcases zb5s hf with ⟨w1, h2, ew1, hf⟩ | ⟨E3, h4, ew1, hf⟩
  · refine z_callVi B [.int a1] [.int 0, .ref a2] cw_X6_reachable mv_RL_74 (tX6_reachable hst ew1) rfl (by decide) (kfX6_reachable ew1) ⟨rfl, rfl, (Nat.le_of_ble_eq_true rfl), (Nat.le_of_ble_eq_true rfl), (Nat.le_of_ble_eq_true rfl), (Nat.le_of_ble_eq_true rfl)⟩ rfl rfl (Nat.le_of_ble_eq_true rfl) dL_reachable_4 ?_
    refine z_i2l B dL_reachable_7 ?_
    obtain ⟨h5, eh5, hf⟩ := zbs hf
    refine z_bJ B eh5 dL_reachable_8 ?_
    refine z_goto B 15 dL_reachable_9 (by decide) ?_
    refine z_iconst (v := 0) B dL_reachable_15 (by decide) ?_
    cases hf
    exact z_iret B dL_reachable_16 (Nat.le_of_ble_eq_true rfl) (Nat.le_of_ble_eq_true rfl)
  rcases zite hf with ⟨c6, hf⟩ | ⟨c6, hf⟩
  · subst c6
    refine z_callVC B [.int a1] [.int 0, .ref a2] [] (⟨0, 9, 12, 28⟩ : ExceptionTableEntry) [] hT (fun z hz => nomatch hz) (by decide) (by decide) (by decide) lc_28 cw_X6_reachable mv_RL_74 (tX6_reachable hst ew1) rfl (by decide) (kfX6_reachable ew1) ⟨rfl, rfl, (Nat.le_of_ble_eq_true rfl), (Nat.le_of_ble_eq_true rfl), (Nat.le_of_ble_eq_true rfl), (Nat.le_of_ble_eq_true rfl)⟩ rfl rfl (Nat.le_of_ble_eq_true rfl) dL_reachable_4 (fun q => ?_)
    refine z_astore_n (lv' := [(3, .ref q), (0, .ref a0), (1, .int a1), (2, .ref a2)]) B dL_reachable_12 rfl (by decide) rfl ?_
    refine z_iconst (v := 1) B dL_reachable_13 (by decide) ?_
    cases hf
    exact z_iret B dL_reachable_14 (Nat.le_of_ble_eq_true rfl) (Nat.le_of_ble_eq_true rfl)
  cases hf
abbrev rm_L_without : Room := { frames := 8, cells := 3, slots := 18, locals := 126 }
set_option maxRecDepth 100000 in
set_option maxHeartbeats 4000000 in
theorem tL_without {l : Launch} {G : zG} (hst : l.stackTraces = false) {h : zH} {a0 : Nat} {a1 : Int32} {a2 : Int32} {a3 : Int32} {a4 : Nat} {r : Int32 × zH} (hf : fL_without h a0 a1 a2 a3 a4 = some r) : zMet l G yL_without (.codeWith yL_without cL_without 6 (some .int) [(0, 12, 15, 28)]) rm_L_without 3 18 [.ref a0, .int a1, .int a2, .int a3, .ref a4] h (zoi r) := by
  unfold fL_without at hf
  refine z_enterW (by decide) (Nat.le_of_ble_eq_true rfl) hst (fun x hx B hT => ?_)
  subst hx
  have B : zB G x cL_without 6 RL "without" rm_L_without (some .int) := B
  show zV G x 6 (zQ G x (zoi r) 3 18) h 0 0 0 [(0, .ref a0), (1, .int a1), (2, .int a2), (3, .int a3), (4, .ref a4)] []
  refine z_aload B dL_without_0 4 rfl ?_
  refine z_iconst (v := 0) B dL_without_2 (by decide) ?_
  refine z_aload_n B dL_without_3 rfl 0 rfl ?_
  refine z_iload_n B dL_without_4 rfl 1 rfl ?_
  refine z_iload_n B dL_without_5 rfl 2 rfl ?_
  refine z_iload_n B dL_without_6 rfl 3 rfl ?_
  rcases zb5s hf with ⟨w1, h2, ew1, hf⟩ | ⟨E3, h4, ew1, hf⟩
  · refine z_callVi B [.int a1, .int a2, .int a3] [.int 0, .ref a4] cw_X6_without mv_RL_77 (tX6_without hst ew1) rfl (by decide) (kfX6_without ew1) ⟨rfl, rfl, (Nat.le_of_ble_eq_true rfl), (Nat.le_of_ble_eq_true rfl), (Nat.le_of_ble_eq_true rfl), (Nat.le_of_ble_eq_true rfl)⟩ rfl rfl (Nat.le_of_ble_eq_true rfl) dL_without_7 ?_
    refine z_i2l B dL_without_10 ?_
    obtain ⟨h5, eh5, hf⟩ := zbs hf
    refine z_bJ B eh5 dL_without_11 ?_
    refine z_goto B 19 dL_without_12 (by decide) ?_
    refine z_iconst (v := 0) B dL_without_19 (by decide) ?_
    cases hf
    exact z_iret B dL_without_20 (Nat.le_of_ble_eq_true rfl) (Nat.le_of_ble_eq_true rfl)
  rcases zite hf with ⟨c6, hf⟩ | ⟨c6, hf⟩
  · subst c6
    refine z_callVC B [.int a1, .int a2, .int a3] [.int 0, .ref a4] [] (⟨0, 12, 15, 28⟩ : ExceptionTableEntry) [] hT (fun z hz => nomatch hz) (by decide) (by decide) (by decide) lc_28 cw_X6_without mv_RL_77 (tX6_without hst ew1) rfl (by decide) (kfX6_without ew1) ⟨rfl, rfl, (Nat.le_of_ble_eq_true rfl), (Nat.le_of_ble_eq_true rfl), (Nat.le_of_ble_eq_true rfl), (Nat.le_of_ble_eq_true rfl)⟩ rfl rfl (Nat.le_of_ble_eq_true rfl) dL_without_7 (fun q => ?_)
    refine z_astore (lv' := [(5, .ref q), (0, .ref a0), (1, .int a1), (2, .int a2), (3, .int a3), (4, .ref a4)]) B dL_without_15 (by decide) rfl ?_
    refine z_iconst (v := 1) B dL_without_17 (by decide) ?_
    cases hf
    exact z_iret B dL_without_18 (Nat.le_of_ble_eq_true rfl) (Nat.le_of_ble_eq_true rfl)
  cases hf
abbrev rm_L_worth : Room := { frames := 8, cells := 1, slots := 6, locals := 125 }
set_option maxRecDepth 100000 in
set_option maxHeartbeats 4000000 in
theorem tL_worth {l : Launch} {G : zG} (hst : l.stackTraces = false) {h : zH} {a0 : Nat} {a1 : Int32} {a2 : Nat} {r : Int32 × zH} (hf : fL_worth h a0 a1 a2 = some r) : zMet l G yL_worth (.codeWith yL_worth cL_worth 4 (some .int) [(0, 9, 12, 28)]) rm_L_worth 1 6 [.ref a0, .int a1, .ref a2] h (zoi r) := by
  unfold fL_worth at hf
  refine z_enterW (by decide) (Nat.le_of_ble_eq_true rfl) hst (fun x hx B hT => ?_)
  subst hx
  have B : zB G x cL_worth 4 RL "worth" rm_L_worth (some .int) := B
  show zV G x 4 (zQ G x (zoi r) 1 6) h 0 0 0 [(0, .ref a0), (1, .int a1), (2, .ref a2)] []
  refine z_aload_n B dL_worth_0 rfl 2 rfl ?_
  refine z_iconst (v := 0) B dL_worth_1 (by decide) ?_
  refine z_aload_n B dL_worth_2 rfl 0 rfl ?_
  refine z_iload_n B dL_worth_3 rfl 1 rfl ?_
  rcases zb5s hf with ⟨w1, h2, ew1, hf⟩ | ⟨E3, h4, ew1, hf⟩
  · refine z_callVi B [.int a1] [.int 0, .ref a2] cw_X6_worth mv_RL_80 (tX6_worth hst ew1) rfl (by decide) (kfX6_worth ew1) ⟨rfl, rfl, (Nat.le_of_ble_eq_true rfl), (Nat.le_of_ble_eq_true rfl), (Nat.le_of_ble_eq_true rfl), (Nat.le_of_ble_eq_true rfl)⟩ rfl rfl (Nat.le_of_ble_eq_true rfl) dL_worth_4 ?_
    refine z_i2l B dL_worth_7 ?_
    obtain ⟨h5, eh5, hf⟩ := zbs hf
    refine z_bJ B eh5 dL_worth_8 ?_
    refine z_goto B 15 dL_worth_9 (by decide) ?_
    refine z_iconst (v := 0) B dL_worth_15 (by decide) ?_
    cases hf
    exact z_iret B dL_worth_16 (Nat.le_of_ble_eq_true rfl) (Nat.le_of_ble_eq_true rfl)
  rcases zite hf with ⟨c6, hf⟩ | ⟨c6, hf⟩
  · subst c6
    refine z_callVC B [.int a1] [.int 0, .ref a2] [] (⟨0, 9, 12, 28⟩ : ExceptionTableEntry) [] hT (fun z hz => nomatch hz) (by decide) (by decide) (by decide) lc_28 cw_X6_worth mv_RL_80 (tX6_worth hst ew1) rfl (by decide) (kfX6_worth ew1) ⟨rfl, rfl, (Nat.le_of_ble_eq_true rfl), (Nat.le_of_ble_eq_true rfl), (Nat.le_of_ble_eq_true rfl), (Nat.le_of_ble_eq_true rfl)⟩ rfl rfl (Nat.le_of_ble_eq_true rfl) dL_worth_4 (fun q => ?_)
    refine z_astore_n (lv' := [(3, .ref q), (0, .ref a0), (1, .int a1), (2, .ref a2)]) B dL_worth_12 rfl (by decide) rfl ?_
    refine z_iconst (v := 1) B dL_worth_13 (by decide) ?_
    cases hf
    exact z_iret B dL_worth_14 (Nat.le_of_ble_eq_true rfl) (Nat.le_of_ble_eq_true rfl)
  cases hf
abbrev rm_L_between : Room := { frames := 8, cells := 1, slots := 6, locals := 127 }
set_option maxRecDepth 100000 in
set_option maxHeartbeats 4000000 in
theorem tL_between {l : Launch} {G : zG} (hst : l.stackTraces = false) {h : zH} {a0 : Nat} {a1 : Int32} {a2 : Nat} {r : Int32 × zH} (hf : fL_between h a0 a1 a2 = some r) : zMet l G yL_between (.codeWith yL_between cL_between 4 (some .int) [(0, 9, 12, 28)]) rm_L_between 1 6 [.ref a0, .int a1, .ref a2] h (zoi r) := by
  unfold fL_between at hf
  refine z_enterW (by decide) (Nat.le_of_ble_eq_true rfl) hst (fun x hx B hT => ?_)
  subst hx
  have B : zB G x cL_between 4 RL "between" rm_L_between (some .int) := B
  show zV G x 4 (zQ G x (zoi r) 1 6) h 0 0 0 [(0, .ref a0), (1, .int a1), (2, .ref a2)] []
  refine z_aload_n B dL_between_0 rfl 2 rfl ?_
  refine z_iconst (v := 0) B dL_between_1 (by decide) ?_
  refine z_aload_n B dL_between_2 rfl 0 rfl ?_
  refine z_iload_n B dL_between_3 rfl 1 rfl ?_
  rcases zb5s hf with ⟨w1, h2, ew1, hf⟩ | ⟨E3, h4, ew1, hf⟩
  · refine z_callVi B [.int a1] [.int 0, .ref a2] cw_X6_between mv_RL_83 (tX6_between hst ew1) rfl (by decide) (kfX6_between ew1) ⟨rfl, rfl, (Nat.le_of_ble_eq_true rfl), (Nat.le_of_ble_eq_true rfl), (Nat.le_of_ble_eq_true rfl), (Nat.le_of_ble_eq_true rfl)⟩ rfl rfl (Nat.le_of_ble_eq_true rfl) dL_between_4 ?_
    refine z_i2l B dL_between_7 ?_
    obtain ⟨h5, eh5, hf⟩ := zbs hf
    refine z_bJ B eh5 dL_between_8 ?_
    refine z_goto B 15 dL_between_9 (by decide) ?_
    refine z_iconst (v := 0) B dL_between_15 (by decide) ?_
    cases hf
    exact z_iret B dL_between_16 (Nat.le_of_ble_eq_true rfl) (Nat.le_of_ble_eq_true rfl)
  rcases zite hf with ⟨c6, hf⟩ | ⟨c6, hf⟩
  · subst c6
    refine z_callVC B [.int a1] [.int 0, .ref a2] [] (⟨0, 9, 12, 28⟩ : ExceptionTableEntry) [] hT (fun z hz => nomatch hz) (by decide) (by decide) (by decide) lc_28 cw_X6_between mv_RL_83 (tX6_between hst ew1) rfl (by decide) (kfX6_between ew1) ⟨rfl, rfl, (Nat.le_of_ble_eq_true rfl), (Nat.le_of_ble_eq_true rfl), (Nat.le_of_ble_eq_true rfl), (Nat.le_of_ble_eq_true rfl)⟩ rfl rfl (Nat.le_of_ble_eq_true rfl) dL_between_4 (fun q => ?_)
    refine z_astore_n (lv' := [(3, .ref q), (0, .ref a0), (1, .int a1), (2, .ref a2)]) B dL_between_12 rfl (by decide) rfl ?_
    refine z_iconst (v := 1) B dL_between_13 (by decide) ?_
    cases hf
    exact z_iret B dL_between_14 (Nat.le_of_ble_eq_true rfl) (Nat.le_of_ble_eq_true rfl)
  cases hf
abbrev rm_L_way : Room := { frames := 8, cells := 3, slots := 18, locals := 126 }
set_option maxRecDepth 100000 in
set_option maxHeartbeats 4000000 in
theorem tL_way {l : Launch} {G : zG} (hst : l.stackTraces = false) {h : zH} {a0 : Nat} {a1 : Int32} {a2 : Int32} {a3 : Int32} {a4 : Nat} {r : Int32 × zH} (hf : fL_way h a0 a1 a2 a3 a4 = some r) : zMet l G yL_way (.codeWith yL_way cL_way 6 (some .int) [(0, 12, 15, 28), (0, 12, 19, 13)]) rm_L_way 3 18 [.ref a0, .int a1, .int a2, .int a3, .ref a4] h (zoi r) := by
  unfold fL_way at hf
  refine z_enterW (by decide) (Nat.le_of_ble_eq_true rfl) hst (fun x hx B hT => ?_)
  subst hx
  have B : zB G x cL_way 6 RL "way" rm_L_way (some .int) := B
  show zV G x 6 (zQ G x (zoi r) 3 18) h 0 0 0 [(0, .ref a0), (1, .int a1), (2, .int a2), (3, .int a3), (4, .ref a4)] []
  refine z_aload B dL_way_0 4 rfl ?_
  refine z_iconst (v := 0) B dL_way_2 (by decide) ?_
  refine z_aload_n B dL_way_3 rfl 0 rfl ?_
  refine z_iload_n B dL_way_4 rfl 1 rfl ?_
  refine z_iload_n B dL_way_5 rfl 2 rfl ?_
  refine z_iload_n B dL_way_6 rfl 3 rfl ?_
  rcases zb5s hf with ⟨w1, h2, ew1, hf⟩ | ⟨E3, h4, ew1, hf⟩
  · refine z_callVi B [.int a1, .int a2, .int a3] [.int 0, .ref a4] cw_X6_way mv_RL_86 (tX6_way hst ew1) rfl (by decide) (kfX6_way ew1) ⟨rfl, rfl, (Nat.le_of_ble_eq_true rfl), (Nat.le_of_ble_eq_true rfl), (Nat.le_of_ble_eq_true rfl), (Nat.le_of_ble_eq_true rfl)⟩ rfl rfl (Nat.le_of_ble_eq_true rfl) dL_way_7 ?_
    refine z_i2l B dL_way_10 ?_
    obtain ⟨h5, eh5, hf⟩ := zbs hf
    refine z_bJ B eh5 dL_way_11 ?_
    refine z_goto B 23 dL_way_12 (by decide) ?_
    refine z_iconst (v := 0) B dL_way_23 (by decide) ?_
    cases hf
    exact z_iret B dL_way_24 (Nat.le_of_ble_eq_true rfl) (Nat.le_of_ble_eq_true rfl)
  rcases zite hf with ⟨c6, hf⟩ | ⟨c6, hf⟩
  · subst c6
    refine z_callVC B [.int a1, .int a2, .int a3] [.int 0, .ref a4] [] (⟨0, 12, 15, 28⟩ : ExceptionTableEntry) [(⟨0, 12, 19, 13⟩ : ExceptionTableEntry)] hT (fun z hz => nomatch hz) (by decide) (by decide) (by decide) lc_28 cw_X6_way mv_RL_86 (tX6_way hst ew1) rfl (by decide) (kfX6_way ew1) ⟨rfl, rfl, (Nat.le_of_ble_eq_true rfl), (Nat.le_of_ble_eq_true rfl), (Nat.le_of_ble_eq_true rfl), (Nat.le_of_ble_eq_true rfl)⟩ rfl rfl (Nat.le_of_ble_eq_true rfl) dL_way_7 (fun q => ?_)
    refine z_astore (lv' := [(5, .ref q), (0, .ref a0), (1, .int a1), (2, .int a2), (3, .int a3), (4, .ref a4)]) B dL_way_15 (by decide) rfl ?_
    refine z_iconst (v := 1) B dL_way_17 (by decide) ?_
    cases hf
    exact z_iret B dL_way_18 (Nat.le_of_ble_eq_true rfl) (Nat.le_of_ble_eq_true rfl)
  rcases zite hf with ⟨c7, hf⟩ | ⟨c7, hf⟩
  · subst c7
    refine z_callVC B [.int a1, .int a2, .int a3] [.int 0, .ref a4] [(⟨0, 12, 15, 28⟩ : ExceptionTableEntry)] (⟨0, 12, 19, 13⟩ : ExceptionTableEntry) [] hT (fun z hz => by rcases List.mem_singleton.mp hz with rfl; exact ⟨by decide, "java/lang/IndexOutOfBoundsException", lc_28, by decide, by decide⟩) (by decide) (by decide) (by decide) lc_13 cw_X6_way mv_RL_86 (tX6_way hst ew1) rfl (by decide) (kfX6_way ew1) ⟨rfl, rfl, (Nat.le_of_ble_eq_true rfl), (Nat.le_of_ble_eq_true rfl), (Nat.le_of_ble_eq_true rfl), (Nat.le_of_ble_eq_true rfl)⟩ rfl rfl (Nat.le_of_ble_eq_true rfl) dL_way_7 (fun q => ?_)
    refine z_astore (lv' := [(5, .ref q), (0, .ref a0), (1, .int a1), (2, .int a2), (3, .int a3), (4, .ref a4)]) B dL_way_19 (by decide) rfl ?_
    refine z_iconst (v := 2) B dL_way_21 (by decide) ?_
    cases hf
    exact z_iret B dL_way_22 (Nat.le_of_ble_eq_true rfl) (Nat.le_of_ble_eq_true rfl)
  cases hf
abbrev rm_L_bestFor : Room := { frames := 8, cells := 1, slots := 6, locals := 128 }
set_option maxRecDepth 100000 in
set_option maxHeartbeats 4000000 in
theorem tL_bestFor {l : Launch} {G : zG} (hst : l.stackTraces = false) {h : zH} {a0 : Nat} {a1 : Int32} {a2 : Nat} {r : Int32 × zH} (hf : fL_bestFor h a0 a1 a2 = some r) : zMet l G yL_bestFor (.codeWith yL_bestFor cL_bestFor 4 (some .int) [(0, 9, 12, 28)]) rm_L_bestFor 1 6 [.ref a0, .int a1, .ref a2] h (zoi r) := by
  unfold fL_bestFor at hf
  refine z_enterW (by decide) (Nat.le_of_ble_eq_true rfl) hst (fun x hx B hT => ?_)
  subst hx
  have B : zB G x cL_bestFor 4 RL "bestFor" rm_L_bestFor (some .int) := B
  show zV G x 4 (zQ G x (zoi r) 1 6) h 0 0 0 [(0, .ref a0), (1, .int a1), (2, .ref a2)] []
  refine z_aload_n B dL_bestFor_0 rfl 2 rfl ?_
  refine z_iconst (v := 0) B dL_bestFor_1 (by decide) ?_
  refine z_aload_n B dL_bestFor_2 rfl 0 rfl ?_
  refine z_iload_n B dL_bestFor_3 rfl 1 rfl ?_
  rcases zb5s hf with ⟨w1, h2, ew1, hf⟩ | ⟨E3, h4, ew1, hf⟩
  · refine z_callVi B [.int a1] [.int 0, .ref a2] cw_X6_bestFor mv_RL_89 (tX6_bestFor hst ew1) rfl (by decide) (kfX6_bestFor ew1) ⟨rfl, rfl, (Nat.le_of_ble_eq_true rfl), (Nat.le_of_ble_eq_true rfl), (Nat.le_of_ble_eq_true rfl), (Nat.le_of_ble_eq_true rfl)⟩ rfl rfl (Nat.le_of_ble_eq_true rfl) dL_bestFor_4 ?_
    refine z_i2l B dL_bestFor_7 ?_
    obtain ⟨h5, eh5, hf⟩ := zbs hf
    refine z_bJ B eh5 dL_bestFor_8 ?_
    refine z_goto B 15 dL_bestFor_9 (by decide) ?_
    refine z_iconst (v := 0) B dL_bestFor_15 (by decide) ?_
    cases hf
    exact z_iret B dL_bestFor_16 (Nat.le_of_ble_eq_true rfl) (Nat.le_of_ble_eq_true rfl)
  rcases zite hf with ⟨c6, hf⟩ | ⟨c6, hf⟩
  · subst c6
    refine z_callVC B [.int a1] [.int 0, .ref a2] [] (⟨0, 9, 12, 28⟩ : ExceptionTableEntry) [] hT (fun z hz => nomatch hz) (by decide) (by decide) (by decide) lc_28 cw_X6_bestFor mv_RL_89 (tX6_bestFor hst ew1) rfl (by decide) (kfX6_bestFor ew1) ⟨rfl, rfl, (Nat.le_of_ble_eq_true rfl), (Nat.le_of_ble_eq_true rfl), (Nat.le_of_ble_eq_true rfl), (Nat.le_of_ble_eq_true rfl)⟩ rfl rfl (Nat.le_of_ble_eq_true rfl) dL_bestFor_4 (fun q => ?_)
    refine z_astore_n (lv' := [(3, .ref q), (0, .ref a0), (1, .int a1), (2, .ref a2)]) B dL_bestFor_12 rfl (by decide) rfl ?_
    refine z_iconst (v := 1) B dL_bestFor_13 (by decide) ?_
    cases hf
    exact z_iret B dL_bestFor_14 (Nat.le_of_ble_eq_true rfl) (Nat.le_of_ble_eq_true rfl)
  cases hf
abbrev rm_L_victims : Room := { frames := 8, cells := 1, slots := 6, locals := 135 }
set_option maxRecDepth 100000 in
set_option maxHeartbeats 4000000 in
theorem tL_victims {l : Launch} {G : zG} (hst : l.stackTraces = false) {h : zH} {a0 : Nat} {a1 : Int32} {a2 : Nat} {r : Int32 × zH} (hf : fL_victims h a0 a1 a2 = some r) : zMet l G yL_victims (.codeWith yL_victims cL_victims 4 (some .int) [(0, 9, 12, 13)]) rm_L_victims 1 6 [.ref a0, .int a1, .ref a2] h (zoi r) := by
  unfold fL_victims at hf
  refine z_enterW (by decide) (Nat.le_of_ble_eq_true rfl) hst (fun x hx B hT => ?_)
  subst hx
  have B : zB G x cL_victims 4 RL "victims" rm_L_victims (some .int) := B
  show zV G x 4 (zQ G x (zoi r) 1 6) h 0 0 0 [(0, .ref a0), (1, .int a1), (2, .ref a2)] []
  refine z_aload_n B dL_victims_0 rfl 2 rfl ?_
  refine z_iconst (v := 0) B dL_victims_1 (by decide) ?_
  refine z_aload_n B dL_victims_2 rfl 0 rfl ?_
  refine z_iload_n B dL_victims_3 rfl 1 rfl ?_
  rcases zb5s hf with ⟨w1, h2, ew1, hf⟩ | ⟨E3, h4, ew1, hf⟩
  · refine z_callVi B [.int a1] [.int 0, .ref a2] cw_X6_victims mv_RL_92 (tX6_victims hst ew1) rfl (by decide) (kfX6_victims ew1) ⟨rfl, rfl, (Nat.le_of_ble_eq_true rfl), (Nat.le_of_ble_eq_true rfl), (Nat.le_of_ble_eq_true rfl), (Nat.le_of_ble_eq_true rfl)⟩ rfl rfl (Nat.le_of_ble_eq_true rfl) dL_victims_4 ?_
    refine z_i2l B dL_victims_7 ?_
    obtain ⟨h5, eh5, hf⟩ := zbs hf
    refine z_bJ B eh5 dL_victims_8 ?_
    refine z_goto B 15 dL_victims_9 (by decide) ?_
    refine z_iconst (v := 0) B dL_victims_15 (by decide) ?_
    cases hf
    exact z_iret B dL_victims_16 (Nat.le_of_ble_eq_true rfl) (Nat.le_of_ble_eq_true rfl)
  rcases zite hf with ⟨c6, hf⟩ | ⟨c6, hf⟩
  · subst c6
    refine z_callVC B [.int a1] [.int 0, .ref a2] [] (⟨0, 9, 12, 13⟩ : ExceptionTableEntry) [] hT (fun z hz => nomatch hz) (by decide) (by decide) (by decide) lc_13 cw_X6_victims mv_RL_92 (tX6_victims hst ew1) rfl (by decide) (kfX6_victims ew1) ⟨rfl, rfl, (Nat.le_of_ble_eq_true rfl), (Nat.le_of_ble_eq_true rfl), (Nat.le_of_ble_eq_true rfl), (Nat.le_of_ble_eq_true rfl)⟩ rfl rfl (Nat.le_of_ble_eq_true rfl) dL_victims_4 (fun q => ?_)
    refine z_astore_n (lv' := [(3, .ref q), (0, .ref a0), (1, .int a1), (2, .ref a2)]) B dL_victims_12 rfl (by decide) rfl ?_
    refine z_iconst (v := 1) B dL_victims_13 (by decide) ?_
    cases hf
    exact z_iret B dL_victims_14 (Nat.le_of_ble_eq_true rfl) (Nat.le_of_ble_eq_true rfl)
  cases hf
abbrev rm_L_ranked : Room := { frames := 7, cells := 1, slots := 6, locals := 105 }
set_option maxRecDepth 100000 in
set_option maxHeartbeats 4000000 in
theorem tL_ranked {l : Launch} {G : zG} (hst : l.stackTraces = false) {h : zH} {a0 : Nat} {a1 : Int32} {a2 : Nat} {r : Int32 × zH} (hf : fL_ranked h a0 a1 a2 = some r) : zMet l G yL_ranked (.codeWith yL_ranked cL_ranked 4 (some .int) [(0, 9, 12, 28)]) rm_L_ranked 1 6 [.ref a0, .int a1, .ref a2] h (zoi r) := by
  unfold fL_ranked at hf
  refine z_enterW (by decide) (Nat.le_of_ble_eq_true rfl) hst (fun x hx B hT => ?_)
  subst hx
  have B : zB G x cL_ranked 4 RL "ranked" rm_L_ranked (some .int) := B
  show zV G x 4 (zQ G x (zoi r) 1 6) h 0 0 0 [(0, .ref a0), (1, .int a1), (2, .ref a2)] []
  refine z_aload_n B dL_ranked_0 rfl 2 rfl ?_
  refine z_iconst (v := 0) B dL_ranked_1 (by decide) ?_
  refine z_aload_n B dL_ranked_2 rfl 0 rfl ?_
  refine z_iload_n B dL_ranked_3 rfl 1 rfl ?_
  rcases zb5s hf with ⟨w1, h2, ew1, hf⟩ | ⟨E3, h4, ew1, hf⟩
  · refine z_callVi B [.int a1] [.int 0, .ref a2] cw_X6_ranked mv_RL_95 (tX6_ranked hst ew1) rfl (by decide) (kfX6_ranked ew1) ⟨rfl, rfl, (Nat.le_of_ble_eq_true rfl), (Nat.le_of_ble_eq_true rfl), (Nat.le_of_ble_eq_true rfl), (Nat.le_of_ble_eq_true rfl)⟩ rfl rfl (Nat.le_of_ble_eq_true rfl) dL_ranked_4 ?_
    refine z_i2l B dL_ranked_7 ?_
    obtain ⟨h5, eh5, hf⟩ := zbs hf
    refine z_bJ B eh5 dL_ranked_8 ?_
    refine z_goto B 15 dL_ranked_9 (by decide) ?_
    refine z_iconst (v := 0) B dL_ranked_15 (by decide) ?_
    cases hf
    exact z_iret B dL_ranked_16 (Nat.le_of_ble_eq_true rfl) (Nat.le_of_ble_eq_true rfl)
  rcases zite hf with ⟨c6, hf⟩ | ⟨c6, hf⟩
  · subst c6
    refine z_callVC B [.int a1] [.int 0, .ref a2] [] (⟨0, 9, 12, 28⟩ : ExceptionTableEntry) [] hT (fun z hz => nomatch hz) (by decide) (by decide) (by decide) lc_28 cw_X6_ranked mv_RL_95 (tX6_ranked hst ew1) rfl (by decide) (kfX6_ranked ew1) ⟨rfl, rfl, (Nat.le_of_ble_eq_true rfl), (Nat.le_of_ble_eq_true rfl), (Nat.le_of_ble_eq_true rfl), (Nat.le_of_ble_eq_true rfl)⟩ rfl rfl (Nat.le_of_ble_eq_true rfl) dL_ranked_4 (fun q => ?_)
    refine z_astore_n (lv' := [(3, .ref q), (0, .ref a0), (1, .int a1), (2, .ref a2)]) B dL_ranked_12 rfl (by decide) rfl ?_
    refine z_iconst (v := 1) B dL_ranked_13 (by decide) ?_
    cases hf
    exact z_iret B dL_ranked_14 (Nat.le_of_ble_eq_true rfl) (Nat.le_of_ble_eq_true rfl)
  cases hf
abbrev rm_L_runScript : Room := { frames := 8, cells := 1, slots := 6, locals := 184 }
set_option maxRecDepth 100000 in
set_option maxHeartbeats 4000000 in
theorem tL_runScript {l : Launch} {G : zG} (hst : l.stackTraces = false) {h : zH} {a0 : Nat} {a1 : Int32} {a2 : Int64} {a4 : Nat} {r : Int32 × zH} (hf : fL_runScript h a0 a1 a2 a4 = some r) : zMet l G yL_runScript (.codeWith yL_runScript cL_runScript 6 (some .int) [(0, 11, 14, 13)]) rm_L_runScript 1 6 [.ref a0, .int a1, .long a2, .ref a4] h (zoi r) := by
  unfold fL_runScript at hf
  refine z_enterW (by decide) (Nat.le_of_ble_eq_true rfl) hst (fun x hx B hT => ?_)
  subst hx
  have B : zB G x cL_runScript 6 RL "runScript" rm_L_runScript (some .int) := B
  show zV G x 6 (zQ G x (zoi r) 1 6) h 0 0 0 [(0, .ref a0), (1, .int a1), (2, .long a2), (4, .ref a4)] []
  refine z_aload B dL_runScript_0 3 rfl ?_
  refine z_iconst (v := 0) B dL_runScript_2 (by decide) ?_
  refine z_aload_n B dL_runScript_3 rfl 0 rfl ?_
  refine z_iload_n B dL_runScript_4 rfl 1 rfl ?_
  refine z_lload_n B dL_runScript_5 rfl 2 rfl ?_
  rcases zb5s hf with ⟨w1, h2, ew1, hf⟩ | ⟨E3, h4, ew1, hf⟩
  · refine z_callVi B [.int a1, .long a2] [.int 0, .ref a4] cw_X6_runScript mv_RL_98 (tX6_runScript hst ew1) rfl (by decide) (kfX6_runScript ew1) ⟨rfl, rfl, (Nat.le_of_ble_eq_true rfl), (Nat.le_of_ble_eq_true rfl), (Nat.le_of_ble_eq_true rfl), (Nat.le_of_ble_eq_true rfl)⟩ rfl rfl (Nat.le_of_ble_eq_true rfl) dL_runScript_6 ?_
    refine z_i2l B dL_runScript_9 ?_
    obtain ⟨h5, eh5, hf⟩ := zbs hf
    refine z_bJ B eh5 dL_runScript_10 ?_
    refine z_goto B 18 dL_runScript_11 (by decide) ?_
    refine z_iconst (v := 0) B dL_runScript_18 (by decide) ?_
    cases hf
    exact z_iret B dL_runScript_19 (Nat.le_of_ble_eq_true rfl) (Nat.le_of_ble_eq_true rfl)
  rcases zite hf with ⟨c6, hf⟩ | ⟨c6, hf⟩
  · subst c6
    refine z_callVC B [.int a1, .long a2] [.int 0, .ref a4] [] (⟨0, 11, 14, 13⟩ : ExceptionTableEntry) [] hT (fun z hz => nomatch hz) (by decide) (by decide) (by decide) lc_13 cw_X6_runScript mv_RL_98 (tX6_runScript hst ew1) rfl (by decide) (kfX6_runScript ew1) ⟨rfl, rfl, (Nat.le_of_ble_eq_true rfl), (Nat.le_of_ble_eq_true rfl), (Nat.le_of_ble_eq_true rfl), (Nat.le_of_ble_eq_true rfl)⟩ rfl rfl (Nat.le_of_ble_eq_true rfl) dL_runScript_6 (fun q => ?_)
    refine z_astore (lv' := [(5, .ref q), (0, .ref a0), (1, .int a1), (2, .long a2), (4, .ref a4)]) B dL_runScript_14 (by decide) rfl ?_
    refine z_iconst (v := 1) B dL_runScript_16 (by decide) ?_
    cases hf
    exact z_iret B dL_runScript_17 (Nat.le_of_ble_eq_true rfl) (Nat.le_of_ble_eq_true rfl)
  cases hf
abbrev rm_L_simulate : Room := { frames := 8, cells := 1, slots := 6, locals := 183 }
set_option maxRecDepth 100000 in
set_option maxHeartbeats 4000000 in
theorem tL_simulate {l : Launch} {G : zG} (hst : l.stackTraces = false) {h : zH} {a0 : Nat} {a1 : Int64} {a3 : Int32} {a4 : Nat} {r : Int32 × zH} (hf : fL_simulate h a0 a1 a3 a4 = some r) : zMet l G yL_simulate (.codeWith yL_simulate cL_simulate 6 (some .int) [(0, 11, 14, 13)]) rm_L_simulate 1 6 [.ref a0, .long a1, .int a3, .ref a4] h (zoi r) := by
  unfold fL_simulate at hf
  refine z_enterW (by decide) (Nat.le_of_ble_eq_true rfl) hst (fun x hx B hT => ?_)
  subst hx
  have B : zB G x cL_simulate 6 RL "simulate" rm_L_simulate (some .int) := B
  show zV G x 6 (zQ G x (zoi r) 1 6) h 0 0 0 [(0, .ref a0), (1, .long a1), (3, .int a3), (4, .ref a4)] []
  refine z_aload B dL_simulate_0 3 rfl ?_
  refine z_iconst (v := 0) B dL_simulate_2 (by decide) ?_
  refine z_aload_n B dL_simulate_3 rfl 0 rfl ?_
  refine z_lload_n B dL_simulate_4 rfl 1 rfl ?_
  refine z_iload_n B dL_simulate_5 rfl 2 rfl ?_
  rcases zb5s hf with ⟨w1, h2, ew1, hf⟩ | ⟨E3, h4, ew1, hf⟩
  · refine z_callVi B [.long a1, .int a3] [.int 0, .ref a4] cw_X6_simulate mv_RL_102 (tX6_simulate hst ew1) rfl (by decide) (kfX6_simulate ew1) ⟨rfl, rfl, (Nat.le_of_ble_eq_true rfl), (Nat.le_of_ble_eq_true rfl), (Nat.le_of_ble_eq_true rfl), (Nat.le_of_ble_eq_true rfl)⟩ rfl rfl (Nat.le_of_ble_eq_true rfl) dL_simulate_6 ?_
    refine z_i2l B dL_simulate_9 ?_
    obtain ⟨h5, eh5, hf⟩ := zbs hf
    refine z_bJ B eh5 dL_simulate_10 ?_
    refine z_goto B 18 dL_simulate_11 (by decide) ?_
    refine z_iconst (v := 0) B dL_simulate_18 (by decide) ?_
    cases hf
    exact z_iret B dL_simulate_19 (Nat.le_of_ble_eq_true rfl) (Nat.le_of_ble_eq_true rfl)
  rcases zite hf with ⟨c6, hf⟩ | ⟨c6, hf⟩
  · subst c6
    refine z_callVC B [.long a1, .int a3] [.int 0, .ref a4] [] (⟨0, 11, 14, 13⟩ : ExceptionTableEntry) [] hT (fun z hz => nomatch hz) (by decide) (by decide) (by decide) lc_13 cw_X6_simulate mv_RL_102 (tX6_simulate hst ew1) rfl (by decide) (kfX6_simulate ew1) ⟨rfl, rfl, (Nat.le_of_ble_eq_true rfl), (Nat.le_of_ble_eq_true rfl), (Nat.le_of_ble_eq_true rfl), (Nat.le_of_ble_eq_true rfl)⟩ rfl rfl (Nat.le_of_ble_eq_true rfl) dL_simulate_6 (fun q => ?_)
    refine z_astore (lv' := [(5, .ref q), (0, .ref a0), (1, .long a1), (3, .int a3), (4, .ref a4)]) B dL_simulate_14 (by decide) rfl ?_
    refine z_iconst (v := 1) B dL_simulate_16 (by decide) ?_
    cases hf
    exact z_iret B dL_simulate_17 (Nat.le_of_ble_eq_true rfl) (Nat.le_of_ble_eq_true rfl)
  cases hf
abbrev rm_L_save : Room := { frames := 8, cells := 1, slots := 6, locals := 123 }
set_option maxRecDepth 100000 in
set_option maxHeartbeats 4000000 in
theorem tL_save {l : Launch} {G : zG} (hst : l.stackTraces = false) {h : zH} {a0 : Nat} {a1 : Int32} {a2 : Nat} {r : Int32 × zH} (hf : fL_save h a0 a1 a2 = some r) : zMet l G yL_save (.codeWith yL_save cL_save 4 (some .int) [(0, 9, 12, 28)]) rm_L_save 1 6 [.ref a0, .int a1, .ref a2] h (zoi r) := by
  unfold fL_save at hf
  refine z_enterW (by decide) (Nat.le_of_ble_eq_true rfl) hst (fun x hx B hT => ?_)
  subst hx
  have B : zB G x cL_save 4 RL "save" rm_L_save (some .int) := B
  show zV G x 4 (zQ G x (zoi r) 1 6) h 0 0 0 [(0, .ref a0), (1, .int a1), (2, .ref a2)] []
  refine z_aload_n B dL_save_0 rfl 2 rfl ?_
  refine z_iconst (v := 0) B dL_save_1 (by decide) ?_
  refine z_aload_n B dL_save_2 rfl 0 rfl ?_
  refine z_iload_n B dL_save_3 rfl 1 rfl ?_
  rcases zb5s hf with ⟨w1, h2, ew1, hf⟩ | ⟨E3, h4, ew1, hf⟩
  · refine z_callVi B [.int a1] [.int 0, .ref a2] cw_X6_save mv_RL_106 (tX6_save hst ew1) rfl (by decide) (kfX6_save ew1) ⟨rfl, rfl, (Nat.le_of_ble_eq_true rfl), (Nat.le_of_ble_eq_true rfl), (Nat.le_of_ble_eq_true rfl), (Nat.le_of_ble_eq_true rfl)⟩ rfl rfl (Nat.le_of_ble_eq_true rfl) dL_save_4 ?_
    refine z_i2l B dL_save_7 ?_
    obtain ⟨h5, eh5, hf⟩ := zbs hf
    refine z_bJ B eh5 dL_save_8 ?_
    refine z_goto B 15 dL_save_9 (by decide) ?_
    refine z_iconst (v := 0) B dL_save_15 (by decide) ?_
    cases hf
    exact z_iret B dL_save_16 (Nat.le_of_ble_eq_true rfl) (Nat.le_of_ble_eq_true rfl)
  rcases zite hf with ⟨c6, hf⟩ | ⟨c6, hf⟩
  · subst c6
    refine z_callVC B [.int a1] [.int 0, .ref a2] [] (⟨0, 9, 12, 28⟩ : ExceptionTableEntry) [] hT (fun z hz => nomatch hz) (by decide) (by decide) (by decide) lc_28 cw_X6_save mv_RL_106 (tX6_save hst ew1) rfl (by decide) (kfX6_save ew1) ⟨rfl, rfl, (Nat.le_of_ble_eq_true rfl), (Nat.le_of_ble_eq_true rfl), (Nat.le_of_ble_eq_true rfl), (Nat.le_of_ble_eq_true rfl)⟩ rfl rfl (Nat.le_of_ble_eq_true rfl) dL_save_4 (fun q => ?_)
    refine z_astore_n (lv' := [(3, .ref q), (0, .ref a0), (1, .int a1), (2, .ref a2)]) B dL_save_12 rfl (by decide) rfl ?_
    refine z_iconst (v := 1) B dL_save_13 (by decide) ?_
    cases hf
    exact z_iret B dL_save_14 (Nat.le_of_ble_eq_true rfl) (Nat.le_of_ble_eq_true rfl)
  cases hf
abbrev rm_L_restore : Room := { frames := 8, cells := 2, slots := 12, locals := 123 }
set_option maxRecDepth 100000 in
set_option maxHeartbeats 4000000 in
theorem tL_restore {l : Launch} {G : zG} (hst : l.stackTraces = false) {h : zH} {a0 : Nat} {a1 : Int32} {a2 : Nat} {r : Int32 × zH} (hf : fL_restore h a0 a1 a2 = some r) : zMet l G yL_restore (.codeWith yL_restore cL_restore 4 (some .int) [(0, 9, 12, 28), (0, 9, 15, 15)]) rm_L_restore 2 12 [.ref a0, .int a1, .ref a2] h (zoi r) := by
  unfold fL_restore at hf
  refine z_enterW (by decide) (Nat.le_of_ble_eq_true rfl) hst (fun x hx B hT => ?_)
  subst hx
  have B : zB G x cL_restore 4 RL "restore" rm_L_restore (some .int) := B
  show zV G x 4 (zQ G x (zoi r) 2 12) h 0 0 0 [(0, .ref a0), (1, .int a1), (2, .ref a2)] []
  refine z_aload_n B dL_restore_0 rfl 2 rfl ?_
  refine z_iconst (v := 0) B dL_restore_1 (by decide) ?_
  refine z_aload_n B dL_restore_2 rfl 0 rfl ?_
  refine z_iload_n B dL_restore_3 rfl 1 rfl ?_
  rcases zb5s hf with ⟨w1, h2, ew1, hf⟩ | ⟨E3, h4, ew1, hf⟩
  · refine z_callVi B [.int a1] [.int 0, .ref a2] cw_X6_restore mv_RL_109 (tX6_restore hst ew1) rfl (by decide) (kfX6_restore ew1) ⟨rfl, rfl, (Nat.le_of_ble_eq_true rfl), (Nat.le_of_ble_eq_true rfl), (Nat.le_of_ble_eq_true rfl), (Nat.le_of_ble_eq_true rfl)⟩ rfl rfl (Nat.le_of_ble_eq_true rfl) dL_restore_4 ?_
    refine z_i2l B dL_restore_7 ?_
    obtain ⟨h5, eh5, hf⟩ := zbs hf
    refine z_bJ B eh5 dL_restore_8 ?_
    refine z_goto B 18 dL_restore_9 (by decide) ?_
    refine z_iconst (v := 0) B dL_restore_18 (by decide) ?_
    cases hf
    exact z_iret B dL_restore_19 (Nat.le_of_ble_eq_true rfl) (Nat.le_of_ble_eq_true rfl)
  rcases zite hf with ⟨c6, hf⟩ | ⟨c6, hf⟩
  · subst c6
    refine z_callVC B [.int a1] [.int 0, .ref a2] [] (⟨0, 9, 12, 28⟩ : ExceptionTableEntry) [(⟨0, 9, 15, 15⟩ : ExceptionTableEntry)] hT (fun z hz => nomatch hz) (by decide) (by decide) (by decide) lc_28 cw_X6_restore mv_RL_109 (tX6_restore hst ew1) rfl (by decide) (kfX6_restore ew1) ⟨rfl, rfl, (Nat.le_of_ble_eq_true rfl), (Nat.le_of_ble_eq_true rfl), (Nat.le_of_ble_eq_true rfl), (Nat.le_of_ble_eq_true rfl)⟩ rfl rfl (Nat.le_of_ble_eq_true rfl) dL_restore_4 (fun q => ?_)
    refine z_astore_n (lv' := [(3, .ref q), (0, .ref a0), (1, .int a1), (2, .ref a2)]) B dL_restore_12 rfl (by decide) rfl ?_
    refine z_iconst (v := 1) B dL_restore_13 (by decide) ?_
    cases hf
    exact z_iret B dL_restore_14 (Nat.le_of_ble_eq_true rfl) (Nat.le_of_ble_eq_true rfl)
  rcases zite hf with ⟨c7, hf⟩ | ⟨c7, hf⟩
  · subst c7
    refine z_callVC B [.int a1] [.int 0, .ref a2] [(⟨0, 9, 12, 28⟩ : ExceptionTableEntry)] (⟨0, 9, 15, 15⟩ : ExceptionTableEntry) [] hT (fun z hz => by rcases List.mem_singleton.mp hz with rfl; exact ⟨by decide, "java/lang/IndexOutOfBoundsException", lc_28, by decide, by decide⟩) (by decide) (by decide) (by decide) lc_15 cw_X6_restore mv_RL_109 (tX6_restore hst ew1) rfl (by decide) (kfX6_restore ew1) ⟨rfl, rfl, (Nat.le_of_ble_eq_true rfl), (Nat.le_of_ble_eq_true rfl), (Nat.le_of_ble_eq_true rfl), (Nat.le_of_ble_eq_true rfl)⟩ rfl rfl (Nat.le_of_ble_eq_true rfl) dL_restore_4 (fun q => ?_)
    refine z_astore_n (lv' := [(3, .ref q), (0, .ref a0), (1, .int a1), (2, .ref a2)]) B dL_restore_15 rfl (by decide) rfl ?_
    refine z_iconst (v := 2) B dL_restore_16 (by decide) ?_
    cases hf
    exact z_iret B dL_restore_17 (Nat.le_of_ble_eq_true rfl) (Nat.le_of_ble_eq_true rfl)
  cases hf
