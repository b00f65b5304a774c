theorem dL_cave_0 : decode cL_cave 0 = .ok (.aload_n 2, 1) := by decide +kernel
theorem dL_cave_1 : decode cL_cave 1 = .ok (.iconst 0, 1) := by decide +kernel
theorem dL_cave_2 : decode cL_cave 2 = .ok (.aload_n 0, 1) := by decide +kernel
theorem dL_cave_3 : decode cL_cave 3 = .ok (.iload_n 1, 1) := by decide +kernel
theorem dL_cave_4 : decode cL_cave 4 = .ok (.invokevirtual 7, 3) := by decide +kernel
theorem dL_cave_7 : decode cL_cave 7 = .ok (.i2l, 1) := by decide +kernel
theorem dL_cave_8 : decode cL_cave 8 = .ok (.lastore, 1) := by decide +kernel
theorem dL_cave_9 : decode cL_cave 9 = .ok (.goto 6, 3) := by decide +kernel
theorem dL_cave_12 : decode cL_cave 12 = .ok (.astore_n 3, 1) := by decide +kernel
theorem dL_cave_13 : decode cL_cave 13 = .ok (.iconst 1, 1) := by decide +kernel
theorem dL_cave_14 : decode cL_cave 14 = .ok (.ireturn, 1) := by decide +kernel
theorem dL_cave_15 : decode cL_cave 15 = .ok (.iconst 0, 1) := by decide +kernel
theorem dL_cave_16 : decode cL_cave 16 = .ok (.ireturn, 1) := by decide +kernel
theorem dL_count_0 : decode cL_count 0 = .ok (.aload_n 2, 1) := by decide +kernel
theorem dL_count_1 : decode cL_count 1 = .ok (.iconst 0, 1) := by decide +kernel
theorem dL_count_2 : decode cL_count 2 = .ok (.aload_n 0, 1) := by decide +kernel
theorem dL_count_3 : decode cL_count 3 = .ok (.iload_n 1, 1) := by decide +kernel
theorem dL_count_4 : decode cL_count 4 = .ok (.invokevirtual 15, 3) := by decide +kernel
theorem dL_count_7 : decode cL_count 7 = .ok (.i2l, 1) := by decide +kernel
theorem dL_count_8 : decode cL_count 8 = .ok (.lastore, 1) := by decide +kernel
theorem dL_count_9 : decode cL_count 9 = .ok (.goto 6, 3) := by decide +kernel
theorem dL_count_12 : decode cL_count 12 = .ok (.astore_n 3, 1) := by decide +kernel
theorem dL_count_13 : decode cL_count 13 = .ok (.iconst 1, 1) := by decide +kernel
theorem dL_count_14 : decode cL_count 14 = .ok (.ireturn, 1) := by decide +kernel
theorem dL_count_15 : decode cL_count 15 = .ok (.iconst 0, 1) := by decide +kernel
theorem dL_count_16 : decode cL_count 16 = .ok (.ireturn, 1) := by decide +kernel
theorem dL_cup_0 : decode cL_cup 0 = .ok (.aload_n 3, 1) := by decide +kernel
theorem dL_cup_1 : decode cL_cup 1 = .ok (.iconst 0, 1) := by decide +kernel
theorem dL_cup_2 : decode cL_cup 2 = .ok (.aload_n 0, 1) := by decide +kernel
theorem dL_cup_3 : decode cL_cup 3 = .ok (.iload_n 1, 1) := by decide +kernel
theorem dL_cup_4 : decode cL_cup 4 = .ok (.iload_n 2, 1) := by decide +kernel
theorem dL_cup_5 : decode cL_cup 5 = .ok (.invokevirtual 20, 3) := by decide +kernel
theorem dL_cup_8 : decode cL_cup 8 = .ok (.i2l, 1) := by decide +kernel
theorem dL_cup_9 : decode cL_cup 9 = .ok (.lastore, 1) := by decide +kernel
theorem dL_cup_10 : decode cL_cup 10 = .ok (.goto 7, 3) := by decide +kernel
theorem dL_cup_13 : decode cL_cup 13 = .ok (.astore 4, 2) := by decide +kernel
theorem dL_cup_15 : decode cL_cup 15 = .ok (.iconst 1, 1) := by decide +kernel
theorem dL_cup_16 : decode cL_cup 16 = .ok (.ireturn, 1) := by decide +kernel
theorem dL_cup_17 : decode cL_cup 17 = .ok (.iconst 0, 1) := by decide +kernel
theorem dL_cup_18 : decode cL_cup 18 = .ok (.ireturn, 1) := by decide +kernel
theorem dL_lead_0 : decode cL_lead 0 = .ok (.aload_n 3, 1) := by decide +kernel
theorem dL_lead_1 : decode cL_lead 1 = .ok (.iconst 0, 1) := by decide +kernel
theorem dL_lead_2 : decode cL_lead 2 = .ok (.aload_n 0, 1) := by decide +kernel
theorem dL_lead_3 : decode cL_lead 3 = .ok (.iload_n 1, 1) := by decide +kernel
theorem dL_lead_4 : decode cL_lead 4 = .ok (.iload_n 2, 1) := by decide +kernel
theorem dL_lead_5 : decode cL_lead 5 = .ok (.invokevirtual 24, 3) := by decide +kernel
theorem dL_lead_8 : decode cL_lead 8 = .ok (.ifCond .eq 7, 3) := by decide +kernel
theorem dL_lead_11 : decode cL_lead 11 = .ok (.lconst 1, 1) := by decide +kernel
theorem dL_lead_12 : decode cL_lead 12 = .ok (.goto 4, 3) := by decide +kernel
theorem dL_lead_15 : decode cL_lead 15 = .ok (.lconst 0, 1) := by decide +kernel
theorem dL_lead_16 : decode cL_lead 16 = .ok (.lastore, 1) := by decide +kernel
theorem dL_lead_17 : decode cL_lead 17 = .ok (.goto 7, 3) := by decide +kernel
theorem dL_lead_20 : decode cL_lead 20 = .ok (.astore 4, 2) := by decide +kernel
theorem dL_lead_22 : decode cL_lead 22 = .ok (.iconst 1, 1) := by decide +kernel
theorem dL_lead_23 : decode cL_lead 23 = .ok (.ireturn, 1) := by decide +kernel
theorem dL_lead_24 : decode cL_lead 24 = .ok (.iconst 0, 1) := by decide +kernel
theorem dL_lead_25 : decode cL_lead 25 = .ok (.ireturn, 1) := by decide +kernel
theorem dL_plug_0 : decode cL_plug 0 = .ok (.aload_n 3, 1) := by decide +kernel
theorem dL_plug_1 : decode cL_plug 1 = .ok (.iconst 0, 1) := by decide +kernel
theorem dL_plug_2 : decode cL_plug 2 = .ok (.aload_n 0, 1) := by decide +kernel
theorem dL_plug_3 : decode cL_plug 3 = .ok (.iload_n 1, 1) := by decide +kernel
theorem dL_plug_4 : decode cL_plug 4 = .ok (.iload_n 2, 1) := by decide +kernel
theorem dL_plug_5 : decode cL_plug 5 = .ok (.invokevirtual 28, 3) := by decide +kernel
theorem dL_plug_8 : decode cL_plug 8 = .ok (.ifCond .eq 7, 3) := by decide +kernel
theorem dL_plug_11 : decode cL_plug 11 = .ok (.lconst 1, 1) := by decide +kernel
theorem dL_plug_12 : decode cL_plug 12 = .ok (.goto 4, 3) := by decide +kernel
theorem dL_plug_15 : decode cL_plug 15 = .ok (.lconst 0, 1) := by decide +kernel
theorem dL_plug_16 : decode cL_plug 16 = .ok (.lastore, 1) := by decide +kernel
theorem dL_plug_17 : decode cL_plug 17 = .ok (.goto 7, 3) := by decide +kernel
theorem dL_plug_20 : decode cL_plug 20 = .ok (.astore 4, 2) := by decide +kernel
theorem dL_plug_22 : decode cL_plug 22 = .ok (.iconst 1, 1) := by decide +kernel
theorem dL_plug_23 : decode cL_plug 23 = .ok (.ireturn, 1) := by decide +kernel
theorem dL_plug_24 : decode cL_plug 24 = .ok (.iconst 0, 1) := by decide +kernel
theorem dL_plug_25 : decode cL_plug 25 = .ok (.ireturn, 1) := by decide +kernel
theorem dL_pour_0 : decode cL_pour 0 = .ok (.aload_n 3, 1) := by decide +kernel
theorem dL_pour_1 : decode cL_pour 1 = .ok (.iconst 0, 1) := by decide +kernel
theorem dL_pour_2 : decode cL_pour 2 = .ok (.aload_n 0, 1) := by decide +kernel
theorem dL_pour_3 : decode cL_pour 3 = .ok (.iload_n 1, 1) := by decide +kernel
theorem dL_pour_4 : decode cL_pour 4 = .ok (.iload_n 2, 1) := by decide +kernel
theorem dL_pour_5 : decode cL_pour 5 = .ok (.invokevirtual 32, 3) := by decide +kernel
theorem dL_pour_8 : decode cL_pour 8 = .ok (.i2l, 1) := by decide +kernel
theorem dL_pour_9 : decode cL_pour 9 = .ok (.lastore, 1) := by decide +kernel
theorem dL_pour_10 : decode cL_pour 10 = .ok (.goto 7, 3) := by decide +kernel
theorem dL_pour_13 : decode cL_pour 13 = .ok (.astore 4, 2) := by decide +kernel
theorem dL_pour_15 : decode cL_pour 15 = .ok (.iconst 1, 1) := by decide +kernel
theorem dL_pour_16 : decode cL_pour 16 = .ok (.ireturn, 1) := by decide +kernel
theorem dL_pour_17 : decode cL_pour 17 = .ok (.iconst 0, 1) := by decide +kernel
theorem dL_pour_18 : decode cL_pour 18 = .ok (.ireturn, 1) := by decide +kernel
theorem dL_crack_0 : decode cL_crack 0 = .ok (.aload_n 3, 1) := by decide +kernel
theorem dL_crack_1 : decode cL_crack 1 = .ok (.iconst 0, 1) := by decide +kernel
theorem dL_crack_2 : decode cL_crack 2 = .ok (.aload_n 0, 1) := by decide +kernel
theorem dL_crack_3 : decode cL_crack 3 = .ok (.iload_n 1, 1) := by decide +kernel
theorem dL_crack_4 : decode cL_crack 4 = .ok (.iload_n 2, 1) := by decide +kernel
theorem dL_crack_5 : decode cL_crack 5 = .ok (.invokevirtual 35, 3) := by decide +kernel
theorem dL_crack_8 : decode cL_crack 8 = .ok (.i2l, 1) := by decide +kernel
theorem dL_crack_9 : decode cL_crack 9 = .ok (.lastore, 1) := by decide +kernel
theorem dL_crack_10 : decode cL_crack 10 = .ok (.goto 7, 3) := by decide +kernel
theorem dL_crack_13 : decode cL_crack 13 = .ok (.astore 4, 2) := by decide +kernel
theorem dL_crack_15 : decode cL_crack 15 = .ok (.iconst 1, 1) := by decide +kernel
theorem dL_crack_16 : decode cL_crack 16 = .ok (.ireturn, 1) := by decide +kernel
theorem dL_crack_17 : decode cL_crack 17 = .ok (.iconst 0, 1) := by decide +kernel
theorem dL_crack_18 : decode cL_crack 18 = .ok (.ireturn, 1) := by decide +kernel
theorem dL_then_0 : decode cL_then 0 = .ok (.aload 4, 2) := by decide +kernel
theorem dL_then_2 : decode cL_then 2 = .ok (.iconst 0, 1) := by decide +kernel
theorem dL_then_3 : decode cL_then 3 = .ok (.aload_n 0, 1) := by decide +kernel
theorem dL_then_4 : decode cL_then 4 = .ok (.iload_n 1, 1) := by decide +kernel
theorem dL_then_5 : decode cL_then 5 = .ok (.iload_n 2, 1) := by decide +kernel
theorem dL_then_6 : decode cL_then 6 = .ok (.iload_n 3, 1) := by decide +kernel
theorem dL_then_7 : decode cL_then 7 = .ok (.invokevirtual 38, 3) := by decide +kernel
theorem dL_then_10 : decode cL_then 10 = .ok (.i2l, 1) := by decide +kernel
theorem dL_then_11 : decode cL_then 11 = .ok (.lastore, 1) := by decide +kernel
theorem dL_then_12 : decode cL_then 12 = .ok (.goto 11, 3) := by decide +kernel
theorem dL_then_15 : decode cL_then 15 = .ok (.astore 5, 2) := by decide +kernel
theorem dL_then_17 : decode cL_then 17 = .ok (.iconst 1, 1) := by decide +kernel
theorem dL_then_18 : decode cL_then 18 = .ok (.ireturn, 1) := by decide +kernel
theorem dL_then_19 : decode cL_then 19 = .ok (.astore 5, 2) := by decide +kernel
theorem dL_then_21 : decode cL_then 21 = .ok (.iconst 2, 1) := by decide +kernel
theorem dL_then_22 : decode cL_then 22 = .ok (.ireturn, 1) := by decide +kernel
theorem dL_then_23 : decode cL_then 23 = .ok (.iconst 0, 1) := by decide +kernel
theorem dL_then_24 : decode cL_then 24 = .ok (.ireturn, 1) := by decide +kernel
theorem dL_tipping_0 : decode cL_tipping 0 = .ok (.aload_n 2, 1) := by decide +kernel
theorem dL_tipping_1 : decode cL_tipping 1 = .ok (.iconst 0, 1) := by decide +kernel
theorem dL_tipping_2 : decode cL_tipping 2 = .ok (.aload_n 0, 1) := by decide +kernel
theorem dL_tipping_3 : decode cL_tipping 3 = .ok (.iload_n 1, 1) := by decide +kernel
theorem dL_tipping_4 : decode cL_tipping 4 = .ok (.invokevirtual 42, 3) := by decide +kernel
theorem dL_tipping_7 : decode cL_tipping 7 = .ok (.i2l, 1) := by decide +kernel
theorem dL_tipping_8 : decode cL_tipping 8 = .ok (.lastore, 1) := by decide +kernel
theorem dL_tipping_9 : decode cL_tipping 9 = .ok (.goto 6, 3) := by decide +kernel
theorem dL_tipping_12 : decode cL_tipping 12 = .ok (.astore_n 3, 1) := by decide +kernel
theorem dL_tipping_13 : decode cL_tipping 13 = .ok (.iconst 1, 1) := by decide +kernel
theorem dL_tipping_14 : decode cL_tipping 14 = .ok (.ireturn, 1) := by decide +kernel
theorem dL_tipping_15 : decode cL_tipping 15 = .ok (.iconst 0, 1) := by decide +kernel
theorem dL_tipping_16 : decode cL_tipping 16 = .ok (.ireturn, 1) := by decide +kernel
theorem dL_next_0 : decode cL_next 0 = .ok (.aload_n 2, 1) := by decide +kernel
theorem dL_next_1 : decode cL_next 1 = .ok (.iconst 0, 1) := by decide +kernel
theorem dL_next_2 : decode cL_next 2 = .ok (.aload_n 0, 1) := by decide +kernel
theorem dL_next_3 : decode cL_next 3 = .ok (.iload_n 1, 1) := by decide +kernel
theorem dL_next_4 : decode cL_next 4 = .ok (.invokevirtual 45, 3) := by decide +kernel
theorem dL_next_7 : decode cL_next 7 = .ok (.i2l, 1) := by decide +kernel
theorem dL_next_8 : decode cL_next 8 = .ok (.lastore, 1) := by decide +kernel
theorem dL_next_9 : decode cL_next 9 = .ok (.goto 6, 3) := by decide +kernel
theorem dL_next_12 : decode cL_next 12 = .ok (.astore_n 3, 1) := by decide +kernel
theorem dL_next_13 : decode cL_next 13 = .ok (.iconst 1, 1) := by decide +kernel
theorem dL_next_14 : decode cL_next 14 = .ok (.ireturn, 1) := by decide +kernel
theorem dL_next_15 : decode cL_next 15 = .ok (.iconst 0, 1) := by decide +kernel
theorem dL_next_16 : decode cL_next 16 = .ok (.ireturn, 1) := by decide +kernel
theorem dL_together_0 : decode cL_together 0 = .ok (.aload_n 2, 1) := by decide +kernel
theorem dL_together_1 : decode cL_together 1 = .ok (.iconst 0, 1) := by decide +kernel
theorem dL_together_2 : decode cL_together 2 = .ok (.aload_n 0, 1) := by decide +kernel
theorem dL_together_3 : decode cL_together 3 = .ok (.iload_n 1, 1) := by decide +kernel
theorem dL_together_4 : decode cL_together 4 = .ok (.invokevirtual 48, 3) := by decide +kernel
theorem dL_together_7 : decode cL_together 7 = .ok (.i2l, 1) := by decide +kernel
theorem dL_together_8 : decode cL_together 8 = .ok (.lastore, 1) := by decide +kernel
theorem dL_together_9 : decode cL_together 9 = .ok (.goto 6, 3) := by decide +kernel
theorem dL_together_12 : decode cL_together 12 = .ok (.astore_n 3, 1) := by decide +kernel
theorem dL_together_13 : decode cL_together 13 = .ok (.iconst 1, 1) := by decide +kernel
theorem dL_together_14 : decode cL_together 14 = .ok (.ireturn, 1) := by decide +kernel
theorem dL_together_15 : decode cL_together 15 = .ok (.iconst 0, 1) := by decide +kernel
theorem dL_together_16 : decode cL_together 16 = .ok (.ireturn, 1) := by decide +kernel
theorem dL_sound_0 : decode cL_sound 0 = .ok (.aload_n 3, 1) := by decide +kernel
theorem dL_sound_1 : decode cL_sound 1 = .ok (.iconst 0, 1) := by decide +kernel
theorem dL_sound_2 : decode cL_sound 2 = .ok (.aload_n 0, 1) := by decide +kernel
theorem dL_sound_3 : decode cL_sound 3 = .ok (.iload_n 1, 1) := by decide +kernel
theorem dL_sound_4 : decode cL_sound 4 = .ok (.iload_n 2, 1) := by decide +kernel
theorem dL_sound_5 : decode cL_sound 5 = .ok (.invokevirtual 51, 3) := by decide +kernel
theorem dL_sound_8 : decode cL_sound 8 = .ok (.i2l, 1) := by decide +kernel
theorem dL_sound_9 : decode cL_sound 9 = .ok (.lastore, 1) := by decide +kernel
theorem dL_sound_10 : decode cL_sound 10 = .ok (.goto 11, 3) := by decide +kernel
theorem dL_sound_13 : decode cL_sound 13 = .ok (.astore 4, 2) := by decide +kernel
theorem dL_sound_15 : decode cL_sound 15 = .ok (.iconst 1, 1) := by decide +kernel
theorem dL_sound_16 : decode cL_sound 16 = .ok (.ireturn, 1) := by decide +kernel
theorem dL_sound_17 : decode cL_sound 17 = .ok (.astore 4, 2) := by decide +kernel
theorem dL_sound_19 : decode cL_sound 19 = .ok (.iconst 2, 1) := by decide +kernel
theorem dL_sound_20 : decode cL_sound 20 = .ok (.ireturn, 1) := by decide +kernel
theorem dL_sound_21 : decode cL_sound 21 = .ok (.iconst 0, 1) := by decide +kernel
theorem dL_sound_22 : decode cL_sound 22 = .ok (.ireturn, 1) := by decide +kernel
theorem dL_fallen_0 : decode cL_fallen 0 = .ok (.aload_n 3, 1) := by decide +kernel
theorem dL_fallen_1 : decode cL_fallen 1 = .ok (.iconst 0, 1) := by decide +kernel
theorem dL_fallen_2 : decode cL_fallen 2 = .ok (.aload_n 0, 1) := by decide +kernel
theorem dL_fallen_3 : decode cL_fallen 3 = .ok (.iload_n 1, 1) := by decide +kernel
theorem dL_fallen_4 : decode cL_fallen 4 = .ok (.iload_n 2, 1) := by decide +kernel
theorem dL_fallen_5 : decode cL_fallen 5 = .ok (.invokevirtual 54, 3) := by decide +kernel
theorem dL_fallen_8 : decode cL_fallen 8 = .ok (.i2l, 1) := by decide +kernel
theorem dL_fallen_9 : decode cL_fallen 9 = .ok (.lastore, 1) := by decide +kernel
theorem dL_fallen_10 : decode cL_fallen 10 = .ok (.goto 11, 3) := by decide +kernel
theorem dL_fallen_13 : decode cL_fallen 13 = .ok (.astore 4, 2) := by decide +kernel
theorem dL_fallen_15 : decode cL_fallen 15 = .ok (.iconst 1, 1) := by decide +kernel
theorem dL_fallen_16 : decode cL_fallen 16 = .ok (.ireturn, 1) := by decide +kernel
theorem dL_fallen_17 : decode cL_fallen 17 = .ok (.astore 4, 2) := by decide +kernel
theorem dL_fallen_19 : decode cL_fallen 19 = .ok (.iconst 2, 1) := by decide +kernel
theorem dL_fallen_20 : decode cL_fallen 20 = .ok (.ireturn, 1) := by decide +kernel
theorem dL_fallen_21 : decode cL_fallen 21 = .ok (.iconst 0, 1) := by decide +kernel
theorem dL_fallen_22 : decode cL_fallen 22 = .ok (.ireturn, 1) := by decide +kernel
theorem dL_nth_0 : decode cL_nth 0 = .ok (.aload_n 3, 1) := by decide +kernel
theorem dL_nth_1 : decode cL_nth 1 = .ok (.iconst 0, 1) := by decide +kernel
theorem dL_nth_2 : decode cL_nth 2 = .ok (.aload_n 0, 1) := by decide +kernel
theorem dL_nth_3 : decode cL_nth 3 = .ok (.iload_n 1, 1) := by decide +kernel
theorem dL_nth_4 : decode cL_nth 4 = .ok (.iload_n 2, 1) := by decide +kernel
theorem dL_nth_5 : decode cL_nth 5 = .ok (.invokevirtual 57, 3) := by decide +kernel
theorem dL_nth_8 : decode cL_nth 8 = .ok (.i2l, 1) := by decide +kernel
theorem dL_nth_9 : decode cL_nth 9 = .ok (.lastore, 1) := by decide +kernel
theorem dL_nth_10 : decode cL_nth 10 = .ok (.goto 11, 3) := by decide +kernel
theorem dL_nth_13 : decode cL_nth 13 = .ok (.astore 4, 2) := by decide +kernel
theorem dL_nth_15 : decode cL_nth 15 = .ok (.iconst 1, 1) := by decide +kernel
theorem dL_nth_16 : decode cL_nth 16 = .ok (.ireturn, 1) := by decide +kernel
theorem dL_nth_17 : decode cL_nth 17 = .ok (.astore 4, 2) := by decide +kernel
theorem dL_nth_19 : decode cL_nth 19 = .ok (.iconst 2, 1) := by decide +kernel
theorem dL_nth_20 : decode cL_nth 20 = .ok (.ireturn, 1) := by decide +kernel
theorem dL_nth_21 : decode cL_nth 21 = .ok (.iconst 0, 1) := by decide +kernel
theorem dL_nth_22 : decode cL_nth 22 = .ok (.ireturn, 1) := by decide +kernel
theorem dL_meeting_0 : decode cL_meeting 0 = .ok (.aload_n 2, 1) := by decide +kernel
theorem dL_meeting_1 : decode cL_meeting 1 = .ok (.iconst 0, 1) := by decide +kernel
theorem dL_meeting_2 : decode cL_meeting 2 = .ok (.aload_n 0, 1) := by decide +kernel
theorem dL_meeting_3 : decode cL_meeting 3 = .ok (.iload_n 1, 1) := by decide +kernel
theorem dL_meeting_4 : decode cL_meeting 4 = .ok (.invokevirtual 60, 3) := by decide +kernel
theorem dL_meeting_7 : decode cL_meeting 7 = .ok (.i2l, 1) := by decide +kernel
theorem dL_meeting_8 : decode cL_meeting 8 = .ok (.lastore, 1) := by decide +kernel
theorem dL_meeting_9 : decode cL_meeting 9 = .ok (.goto 6, 3) := by decide +kernel
theorem dL_meeting_12 : decode cL_meeting 12 = .ok (.astore_n 3, 1) := by decide +kernel
theorem dL_meeting_13 : decode cL_meeting 13 = .ok (.iconst 1, 1) := by decide +kernel
theorem dL_meeting_14 : decode cL_meeting 14 = .ok (.ireturn, 1) := by decide +kernel
theorem dL_meeting_15 : decode cL_meeting 15 = .ok (.iconst 0, 1) := by decide +kernel
theorem dL_meeting_16 : decode cL_meeting 16 = .ok (.ireturn, 1) := by decide +kernel
theorem dL_flow_0 : decode cL_flow 0 = .ok (.aload_n 3, 1) := by decide +kernel
theorem dL_flow_1 : decode cL_flow 1 = .ok (.iconst 0, 1) := by decide +kernel
theorem dL_flow_2 : decode cL_flow 2 = .ok (.aload_n 0, 1) := by decide +kernel
theorem dL_flow_3 : decode cL_flow 3 = .ok (.iload_n 1, 1) := by decide +kernel
theorem dL_flow_4 : decode cL_flow 4 = .ok (.iload_n 2, 1) := by decide +kernel
theorem dL_flow_5 : decode cL_flow 5 = .ok (.invokevirtual 63, 3) := by decide +kernel
theorem dL_flow_8 : decode cL_flow 8 = .ok (.i2l, 1) := by decide +kernel
theorem dL_flow_9 : decode cL_flow 9 = .ok (.lastore, 1) := by decide +kernel
theorem dL_flow_10 : decode cL_flow 10 = .ok (.goto 11, 3) := by decide +kernel
theorem dL_flow_13 : decode cL_flow 13 = .ok (.astore 4, 2) := by decide +kernel
theorem dL_flow_15 : decode cL_flow 15 = .ok (.iconst 1, 1) := by decide +kernel
theorem dL_flow_16 : decode cL_flow 16 = .ok (.ireturn, 1) := by decide +kernel
theorem dL_flow_17 : decode cL_flow 17 = .ok (.astore 4, 2) := by decide +kernel
theorem dL_flow_19 : decode cL_flow 19 = .ok (.iconst 2, 1) := by decide +kernel
theorem dL_flow_20 : decode cL_flow 20 = .ok (.ireturn, 1) := by decide +kernel
theorem dL_flow_21 : decode cL_flow 21 = .ok (.iconst 0, 1) := by decide +kernel
theorem dL_flow_22 : decode cL_flow 22 = .ok (.ireturn, 1) := by decide +kernel
theorem dL_tier_0 : decode cL_tier 0 = .ok (.aload_n 3, 1) := by decide +kernel
theorem dL_tier_1 : decode cL_tier 1 = .ok (.iconst 0, 1) := by decide +kernel
theorem dL_tier_2 : decode cL_tier 2 = .ok (.aload_n 0, 1) := by decide +kernel
theorem dL_tier_3 : decode cL_tier 3 = .ok (.iload_n 1, 1) := by decide +kernel
theorem dL_tier_4 : decode cL_tier 4 = .ok (.iload_n 2, 1) := by decide +kernel
theorem dL_tier_5 : decode cL_tier 5 = .ok (.invokevirtual 66, 3) := by decide +kernel
theorem dL_tier_8 : decode cL_tier 8 = .ok (.i2l, 1) := by decide +kernel
theorem dL_tier_9 : decode cL_tier 9 = .ok (.lastore, 1) := by decide +kernel
theorem dL_tier_10 : decode cL_tier 10 = .ok (.goto 7, 3) := by decide +kernel
theorem dL_tier_13 : decode cL_tier 13 = .ok (.astore 4, 2) := by decide +kernel
theorem dL_tier_15 : decode cL_tier 15 = .ok (.iconst 1, 1) := by decide +kernel
theorem dL_tier_16 : decode cL_tier 16 = .ok (.ireturn, 1) := by decide +kernel
theorem dL_tier_17 : decode cL_tier 17 = .ok (.iconst 0, 1) := by decide +kernel
theorem dL_tier_18 : decode cL_tier 18 = .ok (.ireturn, 1) := by decide +kernel
theorem dL_toCrack_0 : decode cL_toCrack 0 = .ok (.aload 5, 2) := by decide +kernel
theorem dL_toCrack_2 : decode cL_toCrack 2 = .ok (.iconst 0, 1) := by decide +kernel
theorem dL_toCrack_3 : decode cL_toCrack 3 = .ok (.aload_n 0, 1) := by decide +kernel
theorem dL_toCrack_4 : decode cL_toCrack 4 = .ok (.iload_n 1, 1) := by decide +kernel
theorem dL_toCrack_5 : decode cL_toCrack 5 = .ok (.iload_n 2, 1) := by decide +kernel
theorem dL_toCrack_6 : decode cL_toCrack 6 = .ok (.iload_n 3, 1) := by decide +kernel
theorem dL_toCrack_7 : decode cL_toCrack 7 = .ok (.iload 4, 2) := by decide +kernel
theorem dL_toCrack_9 : decode cL_toCrack 9 = .ok (.invokevirtual 69, 3) := by decide +kernel
theorem dL_toCrack_12 : decode cL_toCrack 12 = .ok (.i2l, 1) := by decide +kernel
theorem dL_toCrack_13 : decode cL_toCrack 13 = .ok (.lastore, 1) := by decide +kernel
theorem dL_toCrack_14 : decode cL_toCrack 14 = .ok (.goto 11, 3) := by decide +kernel
theorem dL_toCrack_17 : decode cL_toCrack 17 = .ok (.astore 6, 2) := by decide +kernel
theorem dL_toCrack_19 : decode cL_toCrack 19 = .ok (.iconst 1, 1) := by decide +kernel
theorem dL_toCrack_20 : decode cL_toCrack 20 = .ok (.ireturn, 1) := by decide +kernel
theorem dL_toCrack_21 : decode cL_toCrack 21 = .ok (.astore 6, 2) := by decide +kernel
theorem dL_toCrack_23 : decode cL_toCrack 23 = .ok (.iconst 2, 1) := by decide +kernel
theorem dL_toCrack_24 : decode cL_toCrack 24 = .ok (.ireturn, 1) := by decide +kernel
theorem dL_toCrack_25 : decode cL_toCrack 25 = .ok (.iconst 0, 1) := by decide +kernel
theorem dL_toCrack_26 : decode cL_toCrack 26 = .ok (.ireturn, 1) := by decide +kernel
theorem dL_office_0 : decode cL_office 0 = .ok (.aload_n 3, 1) := by decide +kernel
theorem dL_office_1 : decode cL_office 1 = .ok (.iconst 0, 1) := by decide +kernel
theorem dL_office_2 : decode cL_office 2 = .ok (.aload_n 0, 1) := by decide +kernel
theorem dL_office_3 : decode cL_office 3 = .ok (.iload_n 1, 1) := by decide +kernel
theorem dL_office_4 : decode cL_office 4 = .ok (.iload_n 2, 1) := by decide +kernel
theorem dL_office_5 : decode cL_office 5 = .ok (.invokevirtual 73, 3) := by decide +kernel
theorem dL_office_8 : decode cL_office 8 = .ok (.i2l, 1) := by decide +kernel
theorem dL_office_9 : decode cL_office 9 = .ok (.lastore, 1) := by decide +kernel
theorem dL_office_10 : decode cL_office 10 = .ok (.goto 11, 3) := by decide +kernel
theorem dL_office_13 : decode cL_office 13 = .ok (.astore 4, 2) := by decide +kernel
theorem dL_office_15 : decode cL_office 15 = .ok (.iconst 1, 1) := by decide +kernel
theorem dL_office_16 : decode cL_office 16 = .ok (.ireturn, 1) := by decide +kernel
theorem dL_office_17 : decode cL_office 17 = .ok (.astore 4, 2) := by decide +kernel
theorem dL_office_19 : decode cL_office 19 = .ok (.iconst 2, 1) := by decide +kernel
theorem dL_office_20 : decode cL_office 20 = .ok (.ireturn, 1) := by decide +kernel
theorem dL_office_21 : decode cL_office 21 = .ok (.iconst 0, 1) := by decide +kernel
theorem dL_office_22 : decode cL_office 22 = .ok (.ireturn, 1) := by decide +kernel
theorem dL_hear_0 : decode cL_hear 0 = .ok (.aload 4, 2) := by decide +kernel
theorem dL_hear_2 : decode cL_hear 2 = .ok (.iconst 0, 1) := by decide +kernel
theorem dL_hear_3 : decode cL_hear 3 = .ok (.aload_n 0, 1) := by decide +kernel
theorem dL_hear_4 : decode cL_hear 4 = .ok (.iload_n 1, 1) := by decide +kernel
theorem dL_hear_5 : decode cL_hear 5 = .ok (.iload_n 2, 1) := by decide +kernel
theorem dL_hear_6 : decode cL_hear 6 = .ok (.iload_n 3, 1) := by decide +kernel
theorem dL_hear_7 : decode cL_hear 7 = .ok (.invokevirtual 76, 3) := by decide +kernel
theorem dL_hear_10 : decode cL_hear 10 = .ok (.i2l, 1) := by decide +kernel
theorem dL_hear_11 : decode cL_hear 11 = .ok (.lastore, 1) := by decide +kernel
theorem dL_hear_12 : decode cL_hear 12 = .ok (.goto 7, 3) := by decide +kernel
theorem dL_hear_15 : decode cL_hear 15 = .ok (.astore 5, 2) := by decide +kernel
theorem dL_hear_17 : decode cL_hear 17 = .ok (.iconst 1, 1) := by decide +kernel
theorem dL_hear_18 : decode cL_hear 18 = .ok (.ireturn, 1) := by decide +kernel
theorem dL_hear_19 : decode cL_hear 19 = .ok (.iconst 0, 1) := by decide +kernel
theorem dL_hear_20 : decode cL_hear 20 = .ok (.ireturn, 1) := by decide +kernel
theorem dL_led_0 : decode cL_led 0 = .ok (.aload_n 2, 1) := by decide +kernel
theorem dL_led_1 : decode cL_led 1 = .ok (.iconst 0, 1) := by decide +kernel
theorem dL_led_2 : decode cL_led 2 = .ok (.aload_n 0, 1) := by decide +kernel
theorem dL_led_3 : decode cL_led 3 = .ok (.iload_n 1, 1) := by decide +kernel
theorem dL_led_4 : decode cL_led 4 = .ok (.invokevirtual 80, 3) := by decide +kernel
theorem dL_led_7 : decode cL_led 7 = .ok (.i2l, 1) := by decide +kernel
theorem dL_led_8 : decode cL_led 8 = .ok (.lastore, 1) := by decide +kernel
theorem dL_led_9 : decode cL_led 9 = .ok (.goto 6, 3) := by decide +kernel
theorem dL_led_12 : decode cL_led 12 = .ok (.astore_n 3, 1) := by decide +kernel
theorem dL_led_13 : decode cL_led 13 = .ok (.iconst 1, 1) := by decide +kernel
theorem dL_led_14 : decode cL_led 14 = .ok (.ireturn, 1) := by decide +kernel
theorem dL_led_15 : decode cL_led 15 = .ok (.iconst 0, 1) := by decide +kernel
theorem dL_led_16 : decode cL_led 16 = .ok (.ireturn, 1) := by decide +kernel
theorem dL_listen_0 : decode cL_listen 0 = .ok (.aload_n 2, 1) := by decide +kernel
theorem dL_listen_1 : decode cL_listen 1 = .ok (.iconst 0, 1) := by decide +kernel
theorem dL_listen_2 : decode cL_listen 2 = .ok (.aload_n 0, 1) := by decide +kernel
theorem dL_listen_3 : decode cL_listen 3 = .ok (.iload_n 1, 1) := by decide +kernel
theorem dL_listen_4 : decode cL_listen 4 = .ok (.invokevirtual 83, 3) := by decide +kernel
theorem dL_listen_7 : decode cL_listen 7 = .ok (.i2l, 1) := by decide +kernel
theorem dL_listen_8 : decode cL_listen 8 = .ok (.lastore, 1) := by decide +kernel
theorem dL_listen_9 : decode cL_listen 9 = .ok (.goto 6, 3) := by decide +kernel
theorem dL_listen_12 : decode cL_listen 12 = .ok (.astore_n 3, 1) := by decide +kernel
theorem dL_listen_13 : decode cL_listen 13 = .ok (.iconst 1, 1) := by decide +kernel
theorem dL_listen_14 : decode cL_listen 14 = .ok (.ireturn, 1) := by decide +kernel
theorem dL_listen_15 : decode cL_listen 15 = .ok (.iconst 0, 1) := by decide +kernel
theorem dL_listen_16 : decode cL_listen 16 = .ok (.ireturn, 1) := by decide +kernel
theorem dL_cold_0 : decode cL_cold 0 = .ok (.aload 4, 2) := by decide +kernel
theorem dL_cold_2 : decode cL_cold 2 = .ok (.iconst 0, 1) := by decide +kernel
theorem dL_cold_3 : decode cL_cold 3 = .ok (.aload_n 0, 1) := by decide +kernel
theorem dL_cold_4 : decode cL_cold 4 = .ok (.iload_n 1, 1) := by decide +kernel
theorem dL_cold_5 : decode cL_cold 5 = .ok (.iload_n 2, 1) := by decide +kernel
theorem dL_cold_6 : decode cL_cold 6 = .ok (.iload_n 3, 1) := by decide +kernel
theorem dL_cold_7 : decode cL_cold 7 = .ok (.invokevirtual 86, 3) := by decide +kernel
theorem dL_cold_10 : decode cL_cold 10 = .ok (.i2l, 1) := by decide +kernel
theorem dL_cold_11 : decode cL_cold 11 = .ok (.lastore, 1) := by decide +kernel
theorem dL_cold_12 : decode cL_cold 12 = .ok (.goto 11, 3) := by decide +kernel
theorem dL_cold_15 : decode cL_cold 15 = .ok (.astore 5, 2) := by decide +kernel
theorem dL_cold_17 : decode cL_cold 17 = .ok (.iconst 1, 1) := by decide +kernel
theorem dL_cold_18 : decode cL_cold 18 = .ok (.ireturn, 1) := by decide +kernel
theorem dL_cold_19 : decode cL_cold 19 = .ok (.astore 5, 2) := by decide +kernel
theorem dL_cold_21 : decode cL_cold 21 = .ok (.iconst 2, 1) := by decide +kernel
theorem dL_cold_22 : decode cL_cold 22 = .ok (.ireturn, 1) := by decide +kernel
theorem dL_cold_23 : decode cL_cold 23 = .ok (.iconst 0, 1) := by decide +kernel
theorem dL_cold_24 : decode cL_cold 24 = .ok (.ireturn, 1) := by decide +kernel
theorem dL_game_0 : decode cL_game 0 = .ok (.aload 4, 2) := by decide +kernel
theorem dL_game_2 : decode cL_game 2 = .ok (.iconst 0, 1) := by decide +kernel
theorem dL_game_3 : decode cL_game 3 = .ok (.aload_n 0, 1) := by decide +kernel
theorem dL_game_4 : decode cL_game 4 = .ok (.iload_n 1, 1) := by decide +kernel
theorem dL_game_5 : decode cL_game 5 = .ok (.iload_n 2, 1) := by decide +kernel
theorem dL_game_6 : decode cL_game 6 = .ok (.iload_n 3, 1) := by decide +kernel
theorem dL_game_7 : decode cL_game 7 = .ok (.invokevirtual 89, 3) := by decide +kernel
theorem dL_game_10 : decode cL_game 10 = .ok (.i2l, 1) := by decide +kernel
theorem dL_game_11 : decode cL_game 11 = .ok (.lastore, 1) := by decide +kernel
theorem dL_game_12 : decode cL_game 12 = .ok (.goto 11, 3) := by decide +kernel
theorem dL_game_15 : decode cL_game 15 = .ok (.astore 5, 2) := by decide +kernel
theorem dL_game_17 : decode cL_game 17 = .ok (.iconst 1, 1) := by decide +kernel
theorem dL_game_18 : decode cL_game 18 = .ok (.ireturn, 1) := by decide +kernel
theorem dL_game_19 : decode cL_game 19 = .ok (.astore 5, 2) := by decide +kernel
theorem dL_game_21 : decode cL_game 21 = .ok (.iconst 2, 1) := by decide +kernel
theorem dL_game_22 : decode cL_game 22 = .ok (.ireturn, 1) := by decide +kernel
theorem dL_game_23 : decode cL_game 23 = .ok (.iconst 0, 1) := by decide +kernel
theorem dL_game_24 : decode cL_game 24 = .ok (.ireturn, 1) := by decide +kernel
theorem dL_years_0 : decode cL_years 0 = .ok (.aload 4, 2) := by decide +kernel
theorem dL_years_2 : decode cL_years 2 = .ok (.iconst 0, 1) := by decide +kernel
theorem dL_years_3 : decode cL_years 3 = .ok (.aload_n 0, 1) := by decide +kernel
theorem dL_years_4 : decode cL_years 4 = .ok (.iload_n 1, 1) := by decide +kernel
theorem dL_years_5 : decode cL_years 5 = .ok (.iload_n 2, 1) := by decide +kernel
theorem dL_years_6 : decode cL_years 6 = .ok (.iload_n 3, 1) := by decide +kernel
theorem dL_years_7 : decode cL_years 7 = .ok (.invokevirtual 92, 3) := by decide +kernel
theorem dL_years_10 : decode cL_years 10 = .ok (.i2l, 1) := by decide +kernel
theorem dL_years_11 : decode cL_years 11 = .ok (.lastore, 1) := by decide +kernel
theorem dL_years_12 : decode cL_years 12 = .ok (.goto 11, 3) := by decide +kernel
theorem dL_years_15 : decode cL_years 15 = .ok (.astore 5, 2) := by decide +kernel
theorem dL_years_17 : decode cL_years 17 = .ok (.iconst 1, 1) := by decide +kernel
theorem dL_years_18 : decode cL_years 18 = .ok (.ireturn, 1) := by decide +kernel
theorem dL_years_19 : decode cL_years 19 = .ok (.astore 5, 2) := by decide +kernel
theorem dL_years_21 : decode cL_years 21 = .ok (.iconst 2, 1) := by decide +kernel
theorem dL_years_22 : decode cL_years 22 = .ok (.ireturn, 1) := by decide +kernel
theorem dL_years_23 : decode cL_years 23 = .ok (.iconst 0, 1) := by decide +kernel
theorem dL_years_24 : decode cL_years 24 = .ok (.ireturn, 1) := by decide +kernel
theorem dL_later_0 : decode cL_later 0 = .ok (.aload_n 3, 1) := by decide +kernel
theorem dL_later_1 : decode cL_later 1 = .ok (.iconst 0, 1) := by decide +kernel
theorem dL_later_2 : decode cL_later 2 = .ok (.aload_n 0, 1) := by decide +kernel
theorem dL_later_3 : decode cL_later 3 = .ok (.iload_n 1, 1) := by decide +kernel
theorem dL_later_4 : decode cL_later 4 = .ok (.iload_n 2, 1) := by decide +kernel
theorem dL_later_5 : decode cL_later 5 = .ok (.invokevirtual 95, 3) := by decide +kernel
theorem dL_later_8 : decode cL_later 8 = .ok (.i2l, 1) := by decide +kernel
theorem dL_later_9 : decode cL_later 9 = .ok (.lastore, 1) := by decide +kernel
theorem dL_later_10 : decode cL_later 10 = .ok (.goto 11, 3) := by decide +kernel
theorem dL_later_13 : decode cL_later 13 = .ok (.astore 4, 2) := by decide +kernel
theorem dL_later_15 : decode cL_later 15 = .ok (.iconst 1, 1) := by decide +kernel
theorem dL_later_16 : decode cL_later 16 = .ok (.ireturn, 1) := by decide +kernel
theorem dL_later_17 : decode cL_later 17 = .ok (.astore 4, 2) := by decide +kernel
theorem dL_later_19 : decode cL_later 19 = .ok (.iconst 2, 1) := by decide +kernel
theorem dL_later_20 : decode cL_later 20 = .ok (.ireturn, 1) := by decide +kernel
theorem dL_later_21 : decode cL_later 21 = .ok (.iconst 0, 1) := by decide +kernel
theorem dL_later_22 : decode cL_later 22 = .ok (.ireturn, 1) := by decide +kernel
theorem dL_oftenest_0 : decode cL_oftenest 0 = .ok (.aload_n 2, 1) := by decide +kernel
theorem dL_oftenest_1 : decode cL_oftenest 1 = .ok (.iconst 0, 1) := by decide +kernel
theorem dL_oftenest_2 : decode cL_oftenest 2 = .ok (.aload_n 0, 1) := by decide +kernel
theorem dL_oftenest_3 : decode cL_oftenest 3 = .ok (.iload_n 1, 1) := by decide +kernel
theorem dL_oftenest_4 : decode cL_oftenest 4 = .ok (.invokevirtual 98, 3) := by decide +kernel
theorem dL_oftenest_7 : decode cL_oftenest 7 = .ok (.i2l, 1) := by decide +kernel
theorem dL_oftenest_8 : decode cL_oftenest 8 = .ok (.lastore, 1) := by decide +kernel
theorem dL_oftenest_9 : decode cL_oftenest 9 = .ok (.goto 6, 3) := by decide +kernel
theorem dL_oftenest_12 : decode cL_oftenest 12 = .ok (.astore_n 3, 1) := by decide +kernel
theorem dL_oftenest_13 : decode cL_oftenest 13 = .ok (.iconst 1, 1) := by decide +kernel
theorem dL_oftenest_14 : decode cL_oftenest 14 = .ok (.ireturn, 1) := by decide +kernel
theorem dL_oftenest_15 : decode cL_oftenest 15 = .ok (.iconst 0, 1) := by decide +kernel
theorem dL_oftenest_16 : decode cL_oftenest 16 = .ok (.ireturn, 1) := by decide +kernel
theorem dL_pause_0 : decode cL_pause 0 = .ok (.aload_n 2, 1) := by decide +kernel
theorem dL_pause_1 : decode cL_pause 1 = .ok (.iconst 0, 1) := by decide +kernel
theorem dL_pause_2 : decode cL_pause 2 = .ok (.aload_n 0, 1) := by decide +kernel
theorem dL_pause_3 : decode cL_pause 3 = .ok (.iload_n 1, 1) := by decide +kernel
theorem dL_pause_4 : decode cL_pause 4 = .ok (.invokevirtual 101, 3) := by decide +kernel
theorem dL_pause_7 : decode cL_pause 7 = .ok (.i2l, 1) := by decide +kernel
theorem dL_pause_8 : decode cL_pause 8 = .ok (.lastore, 1) := by decide +kernel
theorem dL_pause_9 : decode cL_pause 9 = .ok (.goto 6, 3) := by decide +kernel
theorem dL_pause_12 : decode cL_pause 12 = .ok (.astore_n 3, 1) := by decide +kernel
theorem dL_pause_13 : decode cL_pause 13 = .ok (.iconst 1, 1) := by decide +kernel
theorem dL_pause_14 : decode cL_pause 14 = .ok (.ireturn, 1) := by decide +kernel
theorem dL_pause_15 : decode cL_pause 15 = .ok (.iconst 0, 1) := by decide +kernel
theorem dL_pause_16 : decode cL_pause 16 = .ok (.ireturn, 1) := by decide +kernel
theorem dL_giver_0 : decode cL_giver 0 = .ok (.aload_n 3, 1) := by decide +kernel
theorem dL_giver_1 : decode cL_giver 1 = .ok (.iconst 0, 1) := by decide +kernel
theorem dL_giver_2 : decode cL_giver 2 = .ok (.aload_n 0, 1) := by decide +kernel
theorem dL_giver_3 : decode cL_giver 3 = .ok (.iload_n 1, 1) := by decide +kernel
theorem dL_giver_4 : decode cL_giver 4 = .ok (.iload_n 2, 1) := by decide +kernel
theorem dL_giver_5 : decode cL_giver 5 = .ok (.invokevirtual 104, 3) := by decide +kernel
theorem dL_giver_8 : decode cL_giver 8 = .ok (.i2l, 1) := by decide +kernel
theorem dL_giver_9 : decode cL_giver 9 = .ok (.lastore, 1) := by decide +kernel
theorem dL_giver_10 : decode cL_giver 10 = .ok (.goto 11, 3) := by decide +kernel
theorem dL_giver_13 : decode cL_giver 13 = .ok (.astore 4, 2) := by decide +kernel
theorem dL_giver_15 : decode cL_giver 15 = .ok (.iconst 1, 1) := by decide +kernel
theorem dL_giver_16 : decode cL_giver 16 = .ok (.ireturn, 1) := by decide +kernel
theorem dL_giver_17 : decode cL_giver 17 = .ok (.astore 4, 2) := by decide +kernel
theorem dL_giver_19 : decode cL_giver 19 = .ok (.iconst 2, 1) := by decide +kernel
theorem dL_giver_20 : decode cL_giver 20 = .ok (.ireturn, 1) := by decide +kernel
theorem dL_giver_21 : decode cL_giver 21 = .ok (.iconst 0, 1) := by decide +kernel
theorem dL_giver_22 : decode cL_giver 22 = .ok (.ireturn, 1) := by decide +kernel
theorem dL_toPour_0 : decode cL_toPour 0 = .ok (.aload_n 3, 1) := by decide +kernel
theorem dL_toPour_1 : decode cL_toPour 1 = .ok (.iconst 0, 1) := by decide +kernel
theorem dL_toPour_2 : decode cL_toPour 2 = .ok (.aload_n 0, 1) := by decide +kernel
theorem dL_toPour_3 : decode cL_toPour 3 = .ok (.iload_n 1, 1) := by decide +kernel
theorem dL_toPour_4 : decode cL_toPour 4 = .ok (.iload_n 2, 1) := by decide +kernel
theorem dL_toPour_5 : decode cL_toPour 5 = .ok (.invokevirtual 107, 3) := by decide +kernel
theorem dL_toPour_8 : decode cL_toPour 8 = .ok (.i2l, 1) := by decide +kernel
theorem dL_toPour_9 : decode cL_toPour 9 = .ok (.lastore, 1) := by decide +kernel
theorem dL_toPour_10 : decode cL_toPour 10 = .ok (.goto 11, 3) := by decide +kernel
theorem dL_toPour_13 : decode cL_toPour 13 = .ok (.astore 4, 2) := by decide +kernel
theorem dL_toPour_15 : decode cL_toPour 15 = .ok (.iconst 1, 1) := by decide +kernel
theorem dL_toPour_16 : decode cL_toPour 16 = .ok (.ireturn, 1) := by decide +kernel
theorem dL_toPour_17 : decode cL_toPour 17 = .ok (.astore 4, 2) := by decide +kernel
theorem dL_toPour_19 : decode cL_toPour 19 = .ok (.iconst 2, 1) := by decide +kernel
theorem dL_toPour_20 : decode cL_toPour 20 = .ok (.ireturn, 1) := by decide +kernel
theorem dL_toPour_21 : decode cL_toPour 21 = .ok (.iconst 0, 1) := by decide +kernel
theorem dL_toPour_22 : decode cL_toPour 22 = .ok (.ireturn, 1) := by decide +kernel
theorem dL_ways_0 : decode cL_ways 0 = .ok (.aload_n 3, 1) := by decide +kernel
theorem dL_ways_1 : decode cL_ways 1 = .ok (.iconst 0, 1) := by decide +kernel
theorem dL_ways_2 : decode cL_ways 2 = .ok (.aload_n 0, 1) := by decide +kernel
theorem dL_ways_3 : decode cL_ways 3 = .ok (.iload_n 1, 1) := by decide +kernel
theorem dL_ways_4 : decode cL_ways 4 = .ok (.iload_n 2, 1) := by decide +kernel
theorem dL_ways_5 : decode cL_ways 5 = .ok (.invokevirtual 110, 3) := by decide +kernel
theorem dL_ways_8 : decode cL_ways 8 = .ok (.i2l, 1) := by decide +kernel
theorem dL_ways_9 : decode cL_ways 9 = .ok (.lastore, 1) := by decide +kernel
theorem dL_ways_10 : decode cL_ways 10 = .ok (.goto 7, 3) := by decide +kernel
theorem dL_ways_13 : decode cL_ways 13 = .ok (.astore 4, 2) := by decide +kernel
theorem dL_ways_15 : decode cL_ways 15 = .ok (.iconst 1, 1) := by decide +kernel
theorem dL_ways_16 : decode cL_ways 16 = .ok (.ireturn, 1) := by decide +kernel
theorem dL_ways_17 : decode cL_ways 17 = .ok (.iconst 0, 1) := by decide +kernel
theorem dL_ways_18 : decode cL_ways 18 = .ok (.ireturn, 1) := by decide +kernel
theorem dL_chorus_0 : decode cL_chorus 0 = .ok (.aload_n 3, 1) := by decide +kernel
theorem dL_chorus_1 : decode cL_chorus 1 = .ok (.iconst 0, 1) := by decide +kernel
theorem dL_chorus_2 : decode cL_chorus 2 = .ok (.aload_n 0, 1) := by decide +kernel
theorem dL_chorus_3 : decode cL_chorus 3 = .ok (.iload_n 1, 1) := by decide +kernel
theorem dL_chorus_4 : decode cL_chorus 4 = .ok (.iload_n 2, 1) := by decide +kernel
theorem dL_chorus_5 : decode cL_chorus 5 = .ok (.invokevirtual 113, 3) := by decide +kernel
theorem dL_chorus_8 : decode cL_chorus 8 = .ok (.i2l, 1) := by decide +kernel
theorem dL_chorus_9 : decode cL_chorus 9 = .ok (.lastore, 1) := by decide +kernel
theorem dL_chorus_10 : decode cL_chorus 10 = .ok (.goto 7, 3) := by decide +kernel
theorem dL_chorus_13 : decode cL_chorus 13 = .ok (.astore 4, 2) := by decide +kernel
theorem dL_chorus_15 : decode cL_chorus 15 = .ok (.iconst 1, 1) := by decide +kernel
theorem dL_chorus_16 : decode cL_chorus 16 = .ok (.ireturn, 1) := by decide +kernel
theorem dL_chorus_17 : decode cL_chorus 17 = .ok (.iconst 0, 1) := by decide +kernel
theorem dL_chorus_18 : decode cL_chorus 18 = .ok (.ireturn, 1) := by decide +kernel
theorem dL_never_0 : decode cL_never 0 = .ok (.aload_n 2, 1) := by decide +kernel
theorem dL_never_1 : decode cL_never 1 = .ok (.iconst 0, 1) := by decide +kernel
theorem dL_never_2 : decode cL_never 2 = .ok (.aload_n 0, 1) := by decide +kernel
theorem dL_never_3 : decode cL_never 3 = .ok (.iload_n 1, 1) := by decide +kernel
theorem dL_never_4 : decode cL_never 4 = .ok (.invokevirtual 116, 3) := by decide +kernel
theorem dL_never_7 : decode cL_never 7 = .ok (.i2l, 1) := by decide +kernel
theorem dL_never_8 : decode cL_never 8 = .ok (.lastore, 1) := by decide +kernel
theorem dL_never_9 : decode cL_never 9 = .ok (.goto 6, 3) := by decide +kernel
theorem dL_never_12 : decode cL_never 12 = .ok (.astore_n 3, 1) := by decide +kernel
theorem dL_never_13 : decode cL_never 13 = .ok (.iconst 1, 1) := by decide +kernel
theorem dL_never_14 : decode cL_never 14 = .ok (.ireturn, 1) := by decide +kernel
theorem dL_never_15 : decode cL_never 15 = .ok (.iconst 0, 1) := by decide +kernel
theorem dL_never_16 : decode cL_never 16 = .ok (.ireturn, 1) := by decide +kernel
theorem dL_swell_0 : decode cL_swell 0 = .ok (.aload_n 3, 1) := by decide +kernel
theorem dL_swell_1 : decode cL_swell 1 = .ok (.iconst 0, 1) := by decide +kernel
theorem dL_swell_2 : decode cL_swell 2 = .ok (.aload_n 0, 1) := by decide +kernel
theorem dL_swell_3 : decode cL_swell 3 = .ok (.iload_n 1, 1) := by decide +kernel
theorem dL_swell_4 : decode cL_swell 4 = .ok (.iload_n 2, 1) := by decide +kernel
theorem dL_swell_5 : decode cL_swell 5 = .ok (.invokevirtual 119, 3) := by decide +kernel
theorem dL_swell_8 : decode cL_swell 8 = .ok (.i2l, 1) := by decide +kernel
theorem dL_swell_9 : decode cL_swell 9 = .ok (.lastore, 1) := by decide +kernel
theorem dL_swell_10 : decode cL_swell 10 = .ok (.goto 11, 3) := by decide +kernel
theorem dL_swell_13 : decode cL_swell 13 = .ok (.astore 4, 2) := by decide +kernel
theorem dL_swell_15 : decode cL_swell 15 = .ok (.iconst 1, 1) := by decide +kernel
theorem dL_swell_16 : decode cL_swell 16 = .ok (.ireturn, 1) := by decide +kernel
theorem dL_swell_17 : decode cL_swell 17 = .ok (.astore 4, 2) := by decide +kernel
theorem dL_swell_19 : decode cL_swell 19 = .ok (.iconst 2, 1) := by decide +kernel
theorem dL_swell_20 : decode cL_swell 20 = .ok (.ireturn, 1) := by decide +kernel
theorem dL_swell_21 : decode cL_swell 21 = .ok (.iconst 0, 1) := by decide +kernel
theorem dL_swell_22 : decode cL_swell 22 = .ok (.ireturn, 1) := by decide +kernel
