theorem dX7_startReading_0 : decode cX7_startReading 0 = .ok (.aload_n 0, 1) := by decide +kernel
theorem dX7_startReading_1 : decode cX7_startReading 1 = .ok (.iconst 0, 1) := by decide +kernel
theorem dX7_startReading_2 : decode cX7_startReading 2 = .ok (.putfield 37, 3) := by decide +kernel
theorem dX7_startReading_5 : decode cX7_startReading 5 = .ok (.aload_n 0, 1) := by decide +kernel
theorem dX7_startReading_6 : decode cX7_startReading 6 = .ok (.iconst (-1), 1) := by decide +kernel
theorem dX7_startReading_7 : decode cX7_startReading 7 = .ok (.putfield 15, 3) := by decide +kernel
theorem dX7_startReading_10 : decode cX7_startReading 10 = .ok (.aload_n 0, 1) := by decide +kernel
theorem dX7_startReading_11 : decode cX7_startReading 11 = .ok (.iconst 0, 1) := by decide +kernel
theorem dX7_startReading_12 : decode cX7_startReading 12 = .ok (.putfield 40, 3) := by decide +kernel
theorem dX7_startReading_15 : decode cX7_startReading 15 = .ok (.aload_n 0, 1) := by decide +kernel
theorem dX7_startReading_16 : decode cX7_startReading 16 = .ok (.iconst 0, 1) := by decide +kernel
theorem dX7_startReading_17 : decode cX7_startReading 17 = .ok (.putfield 43, 3) := by decide +kernel
theorem dX7_startReading_20 : decode cX7_startReading 20 = .ok (.aload_n 0, 1) := by decide +kernel
theorem dX7_startReading_21 : decode cX7_startReading 21 = .ok (.invokevirtual 46, 3) := by decide +kernel
theorem dX7_startReading_24 : decode cX7_startReading 24 = .ok (.return_, 1) := by decide +kernel
theorem dX7_isName_0 : decode cX7_isName 0 = .ok (.aload_n 0, 1) := by decide +kernel
theorem dX7_isName_1 : decode cX7_isName 1 = .ok (.getfield 43, 3) := by decide +kernel
theorem dX7_isName_4 : decode cX7_isName 4 = .ok (.iconst 1, 1) := by decide +kernel
theorem dX7_isName_5 : decode cX7_isName 5 = .ok (.if_icmp .ne 15, 3) := by decide +kernel
theorem dX7_isName_8 : decode cX7_isName 8 = .ok (.aload_n 0, 1) := by decide +kernel
theorem dX7_isName_9 : decode cX7_isName 9 = .ok (.getfield 55, 3) := by decide +kernel
theorem dX7_isName_12 : decode cX7_isName 12 = .ok (.iconst (-1), 1) := by decide +kernel
theorem dX7_isName_13 : decode cX7_isName 13 = .ok (.if_icmp .ne 7, 3) := by decide +kernel
theorem dX7_isName_16 : decode cX7_isName 16 = .ok (.iconst 1, 1) := by decide +kernel
theorem dX7_isName_17 : decode cX7_isName 17 = .ok (.goto 4, 3) := by decide +kernel
theorem dX7_isName_20 : decode cX7_isName 20 = .ok (.iconst 0, 1) := by decide +kernel
theorem dX7_isName_21 : decode cX7_isName 21 = .ok (.ireturn, 1) := by decide +kernel
theorem dX7_takeOwn_0 : decode cX7_takeOwn 0 = .ok (.aload_n 0, 1) := by decide +kernel
theorem dX7_takeOwn_1 : decode cX7_takeOwn 1 = .ok (.iload_n 1, 1) := by decide +kernel
theorem dX7_takeOwn_2 : decode cX7_takeOwn 2 = .ok (.invokevirtual 81, 3) := by decide +kernel
theorem dX7_takeOwn_5 : decode cX7_takeOwn 5 = .ok (.ifCond .ne 8, 3) := by decide +kernel
theorem dX7_takeOwn_8 : decode cX7_takeOwn 8 = .ok (.aload_n 0, 1) := by decide +kernel
theorem dX7_takeOwn_9 : decode cX7_takeOwn 9 = .ok (.invokevirtual 77, 3) := by decide +kernel
theorem dX7_takeOwn_12 : decode cX7_takeOwn 12 = .ok (.ireturn, 1) := by decide +kernel
theorem dX7_takeOwn_13 : decode cX7_takeOwn 13 = .ok (.aload_n 0, 1) := by decide +kernel
theorem dX7_takeOwn_14 : decode cX7_takeOwn 14 = .ok (.invokevirtual 46, 3) := by decide +kernel
theorem dX7_takeOwn_17 : decode cX7_takeOwn 17 = .ok (.iconst 1, 1) := by decide +kernel
theorem dX7_takeOwn_18 : decode cX7_takeOwn 18 = .ok (.ireturn, 1) := by decide +kernel
theorem dX8_clear_0 : decode cX8_clear 0 = .ok (.aload_n 0, 1) := by decide +kernel
theorem dX8_clear_1 : decode cX8_clear 1 = .ok (.iconst 0, 1) := by decide +kernel
theorem dX8_clear_2 : decode cX8_clear 2 = .ok (.putfield 47, 3) := by decide +kernel
theorem dX8_clear_5 : decode cX8_clear 5 = .ok (.aload_n 0, 1) := by decide +kernel
theorem dX8_clear_6 : decode cX8_clear 6 = .ok (.iconst 0, 1) := by decide +kernel
theorem dX8_clear_7 : decode cX8_clear 7 = .ok (.putfield 51, 3) := by decide +kernel
theorem dX8_clear_10 : decode cX8_clear 10 = .ok (.aload_n 0, 1) := by decide +kernel
theorem dX8_clear_11 : decode cX8_clear 11 = .ok (.iconst 0, 1) := by decide +kernel
theorem dX8_clear_12 : decode cX8_clear 12 = .ok (.putfield 54, 3) := by decide +kernel
theorem dX8_clear_15 : decode cX8_clear 15 = .ok (.aload_n 0, 1) := by decide +kernel
theorem dX8_clear_16 : decode cX8_clear 16 = .ok (.iconst 0, 1) := by decide +kernel
theorem dX8_clear_17 : decode cX8_clear 17 = .ok (.putfield 57, 3) := by decide +kernel
theorem dX8_clear_20 : decode cX8_clear 20 = .ok (.aload_n 0, 1) := by decide +kernel
theorem dX8_clear_21 : decode cX8_clear 21 = .ok (.getfield 33, 3) := by decide +kernel
theorem dX8_clear_24 : decode cX8_clear 24 = .ok (.iconst 0, 1) := by decide +kernel
theorem dX8_clear_25 : decode cX8_clear 25 = .ok (.putfield 60, 3) := by decide +kernel
theorem dX8_clear_28 : decode cX8_clear 28 = .ok (.aload_n 0, 1) := by decide +kernel
theorem dX8_clear_29 : decode cX8_clear 29 = .ok (.iconst 0, 1) := by decide +kernel
theorem dX8_clear_30 : decode cX8_clear 30 = .ok (.putfield 63, 3) := by decide +kernel
theorem dX8_clear_33 : decode cX8_clear 33 = .ok (.aload_n 0, 1) := by decide +kernel
theorem dX8_clear_34 : decode cX8_clear 34 = .ok (.getfield 40, 3) := by decide +kernel
theorem dX8_clear_37 : decode cX8_clear 37 = .ok (.iconst 0, 1) := by decide +kernel
theorem dX8_clear_38 : decode cX8_clear 38 = .ok (.putfield 66, 3) := by decide +kernel
theorem dX8_clear_41 : decode cX8_clear 41 = .ok (.aload_n 0, 1) := by decide +kernel
theorem dX8_clear_42 : decode cX8_clear 42 = .ok (.getfield 44, 3) := by decide +kernel
theorem dX8_clear_45 : decode cX8_clear 45 = .ok (.iconst 0, 1) := by decide +kernel
theorem dX8_clear_46 : decode cX8_clear 46 = .ok (.putfield 66, 3) := by decide +kernel
theorem dX8_clear_49 : decode cX8_clear 49 = .ok (.return_, 1) := by decide +kernel
theorem dX8_addPlace_0 : decode cX8_addPlace 0 = .ok (.aload_n 0, 1) := by decide +kernel
theorem dX8_addPlace_1 : decode cX8_addPlace 1 = .ok (.getfield 47, 3) := by decide +kernel
theorem dX8_addPlace_4 : decode cX8_addPlace 4 = .ok (.bipush 7, 2) := by decide +kernel
theorem dX8_addPlace_6 : decode cX8_addPlace 6 = .ok (.if_icmp .ge 38, 3) := by decide +kernel
theorem dX8_addPlace_9 : decode cX8_addPlace 9 = .ok (.aload_n 0, 1) := by decide +kernel
theorem dX8_addPlace_10 : decode cX8_addPlace 10 = .ok (.getfield 9, 3) := by decide +kernel
theorem dX8_addPlace_13 : decode cX8_addPlace 13 = .ok (.aload_n 0, 1) := by decide +kernel
theorem dX8_addPlace_14 : decode cX8_addPlace 14 = .ok (.getfield 47, 3) := by decide +kernel
theorem dX8_addPlace_17 : decode cX8_addPlace 17 = .ok (.iload_n 1, 1) := by decide +kernel
theorem dX8_addPlace_18 : decode cX8_addPlace 18 = .ok (.iastore, 1) := by decide +kernel
theorem dX8_addPlace_19 : decode cX8_addPlace 19 = .ok (.aload_n 0, 1) := by decide +kernel
theorem dX8_addPlace_20 : decode cX8_addPlace 20 = .ok (.getfield 15, 3) := by decide +kernel
theorem dX8_addPlace_23 : decode cX8_addPlace 23 = .ok (.aload_n 0, 1) := by decide +kernel
theorem dX8_addPlace_24 : decode cX8_addPlace 24 = .ok (.getfield 47, 3) := by decide +kernel
theorem dX8_addPlace_27 : decode cX8_addPlace 27 = .ok (.iconst 1, 1) := by decide +kernel
theorem dX8_addPlace_28 : decode cX8_addPlace 28 = .ok (.aload_n 0, 1) := by decide +kernel
theorem dX8_addPlace_29 : decode cX8_addPlace 29 = .ok (.getfield 47, 3) := by decide +kernel
theorem dX8_addPlace_32 : decode cX8_addPlace 32 = .ok (.ishl, 1) := by decide +kernel
theorem dX8_addPlace_33 : decode cX8_addPlace 33 = .ok (.iastore, 1) := by decide +kernel
theorem dX8_addPlace_34 : decode cX8_addPlace 34 = .ok (.aload_n 0, 1) := by decide +kernel
theorem dX8_addPlace_35 : decode cX8_addPlace 35 = .ok (.dup, 1) := by decide +kernel
theorem dX8_addPlace_36 : decode cX8_addPlace 36 = .ok (.getfield 47, 3) := by decide +kernel
theorem dX8_addPlace_39 : decode cX8_addPlace 39 = .ok (.iconst 1, 1) := by decide +kernel
theorem dX8_addPlace_40 : decode cX8_addPlace 40 = .ok (.iadd, 1) := by decide +kernel
theorem dX8_addPlace_41 : decode cX8_addPlace 41 = .ok (.putfield 47, 3) := by decide +kernel
theorem dX8_addPlace_44 : decode cX8_addPlace 44 = .ok (.return_, 1) := by decide +kernel
theorem dX8_addRoad_0 : decode cX8_addRoad 0 = .ok (.aload_n 0, 1) := by decide +kernel
theorem dX8_addRoad_1 : decode cX8_addRoad 1 = .ok (.getfield 15, 3) := by decide +kernel
theorem dX8_addRoad_4 : decode cX8_addRoad 4 = .ok (.iload_n 1, 1) := by decide +kernel
theorem dX8_addRoad_5 : decode cX8_addRoad 5 = .ok (.dup2, 1) := by decide +kernel
theorem dX8_addRoad_6 : decode cX8_addRoad 6 = .ok (.iaload, 1) := by decide +kernel
theorem dX8_addRoad_7 : decode cX8_addRoad 7 = .ok (.iconst 1, 1) := by decide +kernel
theorem dX8_addRoad_8 : decode cX8_addRoad 8 = .ok (.iload_n 2, 1) := by decide +kernel
theorem dX8_addRoad_9 : decode cX8_addRoad 9 = .ok (.ishl, 1) := by decide +kernel
theorem dX8_addRoad_10 : decode cX8_addRoad 10 = .ok (.ior, 1) := by decide +kernel
theorem dX8_addRoad_11 : decode cX8_addRoad 11 = .ok (.iastore, 1) := by decide +kernel
theorem dX8_addRoad_12 : decode cX8_addRoad 12 = .ok (.aload_n 0, 1) := by decide +kernel
theorem dX8_addRoad_13 : decode cX8_addRoad 13 = .ok (.getfield 15, 3) := by decide +kernel
theorem dX8_addRoad_16 : decode cX8_addRoad 16 = .ok (.iload_n 2, 1) := by decide +kernel
theorem dX8_addRoad_17 : decode cX8_addRoad 17 = .ok (.dup2, 1) := by decide +kernel
theorem dX8_addRoad_18 : decode cX8_addRoad 18 = .ok (.iaload, 1) := by decide +kernel
theorem dX8_addRoad_19 : decode cX8_addRoad 19 = .ok (.iconst 1, 1) := by decide +kernel
theorem dX8_addRoad_20 : decode cX8_addRoad 20 = .ok (.iload_n 1, 1) := by decide +kernel
theorem dX8_addRoad_21 : decode cX8_addRoad 21 = .ok (.ishl, 1) := by decide +kernel
theorem dX8_addRoad_22 : decode cX8_addRoad 22 = .ok (.ior, 1) := by decide +kernel
theorem dX8_addRoad_23 : decode cX8_addRoad 23 = .ok (.iastore, 1) := by decide +kernel
theorem dX8_addRoad_24 : decode cX8_addRoad 24 = .ok (.aload_n 0, 1) := by decide +kernel
theorem dX8_addRoad_25 : decode cX8_addRoad 25 = .ok (.dup, 1) := by decide +kernel
theorem dX8_addRoad_26 : decode cX8_addRoad 26 = .ok (.getfield 51, 3) := by decide +kernel
theorem dX8_addRoad_29 : decode cX8_addRoad 29 = .ok (.iconst 1, 1) := by decide +kernel
theorem dX8_addRoad_30 : decode cX8_addRoad 30 = .ok (.iadd, 1) := by decide +kernel
theorem dX8_addRoad_31 : decode cX8_addRoad 31 = .ok (.putfield 51, 3) := by decide +kernel
theorem dX8_addRoad_34 : decode cX8_addRoad 34 = .ok (.return_, 1) := by decide +kernel
theorem dX8_addPerson_0 : decode cX8_addPerson 0 = .ok (.aload_n 0, 1) := by decide +kernel
theorem dX8_addPerson_1 : decode cX8_addPerson 1 = .ok (.getfield 54, 3) := by decide +kernel
theorem dX8_addPerson_4 : decode cX8_addPerson 4 = .ok (.bipush 6, 2) := by decide +kernel
theorem dX8_addPerson_6 : decode cX8_addPerson 6 = .ok (.if_icmp .ge 43, 3) := by decide +kernel
theorem dX8_addPerson_9 : decode cX8_addPerson 9 = .ok (.aload_n 0, 1) := by decide +kernel
theorem dX8_addPerson_10 : decode cX8_addPerson 10 = .ok (.getfield 21, 3) := by decide +kernel
theorem dX8_addPerson_13 : decode cX8_addPerson 13 = .ok (.aload_n 0, 1) := by decide +kernel
theorem dX8_addPerson_14 : decode cX8_addPerson 14 = .ok (.getfield 54, 3) := by decide +kernel
theorem dX8_addPerson_17 : decode cX8_addPerson 17 = .ok (.iload_n 1, 1) := by decide +kernel
theorem dX8_addPerson_18 : decode cX8_addPerson 18 = .ok (.iastore, 1) := by decide +kernel
theorem dX8_addPerson_19 : decode cX8_addPerson 19 = .ok (.aload_n 0, 1) := by decide +kernel
theorem dX8_addPerson_20 : decode cX8_addPerson 20 = .ok (.getfield 24, 3) := by decide +kernel
theorem dX8_addPerson_23 : decode cX8_addPerson 23 = .ok (.aload_n 0, 1) := by decide +kernel
theorem dX8_addPerson_24 : decode cX8_addPerson 24 = .ok (.getfield 54, 3) := by decide +kernel
theorem dX8_addPerson_27 : decode cX8_addPerson 27 = .ok (.iload_n 2, 1) := by decide +kernel
theorem dX8_addPerson_28 : decode cX8_addPerson 28 = .ok (.iastore, 1) := by decide +kernel
theorem dX8_addPerson_29 : decode cX8_addPerson 29 = .ok (.aload_n 0, 1) := by decide +kernel
theorem dX8_addPerson_30 : decode cX8_addPerson 30 = .ok (.getfield 27, 3) := by decide +kernel
theorem dX8_addPerson_33 : decode cX8_addPerson 33 = .ok (.aload_n 0, 1) := by decide +kernel
theorem dX8_addPerson_34 : decode cX8_addPerson 34 = .ok (.getfield 54, 3) := by decide +kernel
theorem dX8_addPerson_37 : decode cX8_addPerson 37 = .ok (.iload_n 3, 1) := by decide +kernel
theorem dX8_addPerson_38 : decode cX8_addPerson 38 = .ok (.iastore, 1) := by decide +kernel
theorem dX8_addPerson_39 : decode cX8_addPerson 39 = .ok (.aload_n 0, 1) := by decide +kernel
theorem dX8_addPerson_40 : decode cX8_addPerson 40 = .ok (.dup, 1) := by decide +kernel
theorem dX8_addPerson_41 : decode cX8_addPerson 41 = .ok (.getfield 54, 3) := by decide +kernel
theorem dX8_addPerson_44 : decode cX8_addPerson 44 = .ok (.iconst 1, 1) := by decide +kernel
theorem dX8_addPerson_45 : decode cX8_addPerson 45 = .ok (.iadd, 1) := by decide +kernel
theorem dX8_addPerson_46 : decode cX8_addPerson 46 = .ok (.putfield 54, 3) := by decide +kernel
theorem dX8_addPerson_49 : decode cX8_addPerson 49 = .ok (.return_, 1) := by decide +kernel
theorem dX8_indexIn_0 : decode cX8_indexIn 0 = .ok (.iconst 0, 1) := by decide +kernel
theorem dX8_indexIn_1 : decode cX8_indexIn 1 = .ok (.istore_n 3, 1) := by decide +kernel
theorem dX8_indexIn_2 : decode cX8_indexIn 2 = .ok (.iload_n 3, 1) := by decide +kernel
theorem dX8_indexIn_3 : decode cX8_indexIn 3 = .ok (.iload_n 1, 1) := by decide +kernel
theorem dX8_indexIn_4 : decode cX8_indexIn 4 = .ok (.if_icmp .ge 18, 3) := by decide +kernel
theorem dX8_indexIn_7 : decode cX8_indexIn 7 = .ok (.aload_n 0, 1) := by decide +kernel
theorem dX8_indexIn_8 : decode cX8_indexIn 8 = .ok (.iload_n 3, 1) := by decide +kernel
theorem dX8_indexIn_9 : decode cX8_indexIn 9 = .ok (.iaload, 1) := by decide +kernel
theorem dX8_indexIn_10 : decode cX8_indexIn 10 = .ok (.iload_n 2, 1) := by decide +kernel
theorem dX8_indexIn_11 : decode cX8_indexIn 11 = .ok (.if_icmp .ne 5, 3) := by decide +kernel
theorem dX8_indexIn_14 : decode cX8_indexIn 14 = .ok (.iload_n 3, 1) := by decide +kernel
theorem dX8_indexIn_15 : decode cX8_indexIn 15 = .ok (.ireturn, 1) := by decide +kernel
theorem dX8_indexIn_16 : decode cX8_indexIn 16 = .ok (.iinc 3 1, 3) := by decide +kernel
theorem dX8_indexIn_19 : decode cX8_indexIn 19 = .ok (.goto (-17), 3) := by decide +kernel
theorem dX8_indexIn_22 : decode cX8_indexIn 22 = .ok (.iconst (-1), 1) := by decide +kernel
theorem dX8_indexIn_23 : decode cX8_indexIn 23 = .ok (.ireturn, 1) := by decide +kernel
theorem dX8_placeOf_0 : decode cX8_placeOf 0 = .ok (.aload_n 0, 1) := by decide +kernel
theorem dX8_placeOf_1 : decode cX8_placeOf 1 = .ok (.getfield 9, 3) := by decide +kernel
theorem dX8_placeOf_4 : decode cX8_placeOf 4 = .ok (.aload_n 0, 1) := by decide +kernel
theorem dX8_placeOf_5 : decode cX8_placeOf 5 = .ok (.getfield 47, 3) := by decide +kernel
theorem dX8_placeOf_8 : decode cX8_placeOf 8 = .ok (.iload_n 1, 1) := by decide +kernel
theorem dX8_placeOf_9 : decode cX8_placeOf 9 = .ok (.invokestatic 69, 3) := by decide +kernel
theorem dX8_placeOf_12 : decode cX8_placeOf 12 = .ok (.ireturn, 1) := by decide +kernel
theorem dX8_personOf_0 : decode cX8_personOf 0 = .ok (.aload_n 0, 1) := by decide +kernel
theorem dX8_personOf_1 : decode cX8_personOf 1 = .ok (.getfield 21, 3) := by decide +kernel
theorem dX8_personOf_4 : decode cX8_personOf 4 = .ok (.aload_n 0, 1) := by decide +kernel
theorem dX8_personOf_5 : decode cX8_personOf 5 = .ok (.getfield 54, 3) := by decide +kernel
theorem dX8_personOf_8 : decode cX8_personOf 8 = .ok (.iload_n 1, 1) := by decide +kernel
theorem dX8_personOf_9 : decode cX8_personOf 9 = .ok (.invokestatic 69, 3) := by decide +kernel
theorem dX8_personOf_12 : decode cX8_personOf 12 = .ok (.ireturn, 1) := by decide +kernel
theorem dX8_reaches_0 : decode cX8_reaches 0 = .ok (.aload_n 0, 1) := by decide +kernel
theorem dX8_reaches_1 : decode cX8_reaches 1 = .ok (.getfield 15, 3) := by decide +kernel
theorem dX8_reaches_4 : decode cX8_reaches 4 = .ok (.iload_n 1, 1) := by decide +kernel
theorem dX8_reaches_5 : decode cX8_reaches 5 = .ok (.iaload, 1) := by decide +kernel
theorem dX8_reaches_6 : decode cX8_reaches 6 = .ok (.iload_n 2, 1) := by decide +kernel
theorem dX8_reaches_7 : decode cX8_reaches 7 = .ok (.ishr, 1) := by decide +kernel
theorem dX8_reaches_8 : decode cX8_reaches 8 = .ok (.iconst 1, 1) := by decide +kernel
theorem dX8_reaches_9 : decode cX8_reaches 9 = .ok (.iand, 1) := by decide +kernel
theorem dX8_reaches_10 : decode cX8_reaches 10 = .ok (.iconst 1, 1) := by decide +kernel
theorem dX8_reaches_11 : decode cX8_reaches 11 = .ok (.if_icmp .ne 7, 3) := by decide +kernel
theorem dX8_reaches_14 : decode cX8_reaches 14 = .ok (.iconst 1, 1) := by decide +kernel
theorem dX8_reaches_15 : decode cX8_reaches 15 = .ok (.goto 4, 3) := by decide +kernel
theorem dX8_reaches_18 : decode cX8_reaches 18 = .ok (.iconst 0, 1) := by decide +kernel
theorem dX8_reaches_19 : decode cX8_reaches 19 = .ok (.ireturn, 1) := by decide +kernel
theorem dX8_roadsBetween_0 : decode cX8_roadsBetween 0 = .ok (.aload_n 0, 1) := by decide +kernel
theorem dX8_roadsBetween_1 : decode cX8_roadsBetween 1 = .ok (.getfield 18, 3) := by decide +kernel
theorem dX8_roadsBetween_4 : decode cX8_roadsBetween 4 = .ok (.bipush 7, 2) := by decide +kernel
theorem dX8_roadsBetween_6 : decode cX8_roadsBetween 6 = .ok (.iload_n 1, 1) := by decide +kernel
theorem dX8_roadsBetween_7 : decode cX8_roadsBetween 7 = .ok (.imul, 1) := by decide +kernel
theorem dX8_roadsBetween_8 : decode cX8_roadsBetween 8 = .ok (.iload_n 2, 1) := by decide +kernel
theorem dX8_roadsBetween_9 : decode cX8_roadsBetween 9 = .ok (.iadd, 1) := by decide +kernel
theorem dX8_roadsBetween_10 : decode cX8_roadsBetween 10 = .ok (.iaload, 1) := by decide +kernel
theorem dX8_roadsBetween_11 : decode cX8_roadsBetween 11 = .ok (.ireturn, 1) := by decide +kernel
theorem dX8_measureFrom_0 : decode cX8_measureFrom 0 = .ok (.iconst 0, 1) := by decide +kernel
theorem dX8_measureFrom_1 : decode cX8_measureFrom 1 = .ok (.istore_n 2, 1) := by decide +kernel
theorem dX8_measureFrom_2 : decode cX8_measureFrom 2 = .ok (.iconst 1, 1) := by decide +kernel
theorem dX8_measureFrom_3 : decode cX8_measureFrom 3 = .ok (.iload_n 1, 1) := by decide +kernel
theorem dX8_measureFrom_4 : decode cX8_measureFrom 4 = .ok (.ishl, 1) := by decide +kernel
theorem dX8_measureFrom_5 : decode cX8_measureFrom 5 = .ok (.istore_n 3, 1) := by decide +kernel
theorem dX8_measureFrom_6 : decode cX8_measureFrom 6 = .ok (.iconst 0, 1) := by decide +kernel
theorem dX8_measureFrom_7 : decode cX8_measureFrom 7 = .ok (.istore 4, 2) := by decide +kernel
theorem dX8_measureFrom_9 : decode cX8_measureFrom 9 = .ok (.iload 4, 2) := by decide +kernel
theorem dX8_measureFrom_11 : decode cX8_measureFrom 11 = .ok (.bipush 7, 2) := by decide +kernel
theorem dX8_measureFrom_13 : decode cX8_measureFrom 13 = .ok (.if_icmp .ge 77, 3) := by decide +kernel
theorem dX8_measureFrom_16 : decode cX8_measureFrom 16 = .ok (.iload_n 2, 1) := by decide +kernel
theorem dX8_measureFrom_17 : decode cX8_measureFrom 17 = .ok (.iload_n 3, 1) := by decide +kernel
theorem dX8_measureFrom_18 : decode cX8_measureFrom 18 = .ok (.ior, 1) := by decide +kernel
theorem dX8_measureFrom_19 : decode cX8_measureFrom 19 = .ok (.istore_n 2, 1) := by decide +kernel
theorem dX8_measureFrom_20 : decode cX8_measureFrom 20 = .ok (.iconst 0, 1) := by decide +kernel
theorem dX8_measureFrom_21 : decode cX8_measureFrom 21 = .ok (.istore 5, 2) := by decide +kernel
theorem dX8_measureFrom_23 : decode cX8_measureFrom 23 = .ok (.iconst 0, 1) := by decide +kernel
theorem dX8_measureFrom_24 : decode cX8_measureFrom 24 = .ok (.istore 6, 2) := by decide +kernel
theorem dX8_measureFrom_26 : decode cX8_measureFrom 26 = .ok (.iload 6, 2) := by decide +kernel
theorem dX8_measureFrom_28 : decode cX8_measureFrom 28 = .ok (.aload_n 0, 1) := by decide +kernel
theorem dX8_measureFrom_29 : decode cX8_measureFrom 29 = .ok (.getfield 47, 3) := by decide +kernel
theorem dX8_measureFrom_32 : decode cX8_measureFrom 32 = .ok (.if_icmp .ge 45, 3) := by decide +kernel
theorem dX8_measureFrom_35 : decode cX8_measureFrom 35 = .ok (.iload_n 3, 1) := by decide +kernel
theorem dX8_measureFrom_36 : decode cX8_measureFrom 36 = .ok (.iload 6, 2) := by decide +kernel
theorem dX8_measureFrom_38 : decode cX8_measureFrom 38 = .ok (.ishr, 1) := by decide +kernel
theorem dX8_measureFrom_39 : decode cX8_measureFrom 39 = .ok (.iconst 1, 1) := by decide +kernel
theorem dX8_measureFrom_40 : decode cX8_measureFrom 40 = .ok (.iand, 1) := by decide +kernel
theorem dX8_measureFrom_41 : decode cX8_measureFrom 41 = .ok (.iconst 1, 1) := by decide +kernel
theorem dX8_measureFrom_42 : decode cX8_measureFrom 42 = .ok (.if_icmp .ne 29, 3) := by decide +kernel
theorem dX8_measureFrom_45 : decode cX8_measureFrom 45 = .ok (.aload_n 0, 1) := by decide +kernel
theorem dX8_measureFrom_46 : decode cX8_measureFrom 46 = .ok (.getfield 18, 3) := by decide +kernel
theorem dX8_measureFrom_49 : decode cX8_measureFrom 49 = .ok (.bipush 7, 2) := by decide +kernel
theorem dX8_measureFrom_51 : decode cX8_measureFrom 51 = .ok (.iload_n 1, 1) := by decide +kernel
theorem dX8_measureFrom_52 : decode cX8_measureFrom 52 = .ok (.imul, 1) := by decide +kernel
theorem dX8_measureFrom_53 : decode cX8_measureFrom 53 = .ok (.iload 6, 2) := by decide +kernel
theorem dX8_measureFrom_55 : decode cX8_measureFrom 55 = .ok (.iadd, 1) := by decide +kernel
theorem dX8_measureFrom_56 : decode cX8_measureFrom 56 = .ok (.iload 4, 2) := by decide +kernel
theorem dX8_measureFrom_58 : decode cX8_measureFrom 58 = .ok (.iastore, 1) := by decide +kernel
theorem dX8_measureFrom_59 : decode cX8_measureFrom 59 = .ok (.iload 5, 2) := by decide +kernel
theorem dX8_measureFrom_61 : decode cX8_measureFrom 61 = .ok (.aload_n 0, 1) := by decide +kernel
theorem dX8_measureFrom_62 : decode cX8_measureFrom 62 = .ok (.getfield 15, 3) := by decide +kernel
theorem dX8_measureFrom_65 : decode cX8_measureFrom 65 = .ok (.iload 6, 2) := by decide +kernel
theorem dX8_measureFrom_67 : decode cX8_measureFrom 67 = .ok (.iaload, 1) := by decide +kernel
theorem dX8_measureFrom_68 : decode cX8_measureFrom 68 = .ok (.ior, 1) := by decide +kernel
theorem dX8_measureFrom_69 : decode cX8_measureFrom 69 = .ok (.istore 5, 2) := by decide +kernel
theorem dX8_measureFrom_71 : decode cX8_measureFrom 71 = .ok (.iinc 6 1, 3) := by decide +kernel
theorem dX8_measureFrom_74 : decode cX8_measureFrom 74 = .ok (.goto (-48), 3) := by decide +kernel
theorem dX8_measureFrom_77 : decode cX8_measureFrom 77 = .ok (.iload 5, 2) := by decide +kernel
theorem dX8_measureFrom_79 : decode cX8_measureFrom 79 = .ok (.iload_n 2, 1) := by decide +kernel
theorem dX8_measureFrom_80 : decode cX8_measureFrom 80 = .ok (.iconst (-1), 1) := by decide +kernel
theorem dX8_measureFrom_81 : decode cX8_measureFrom 81 = .ok (.ixor, 1) := by decide +kernel
theorem dX8_measureFrom_82 : decode cX8_measureFrom 82 = .ok (.iand, 1) := by decide +kernel
theorem dX8_measureFrom_83 : decode cX8_measureFrom 83 = .ok (.istore_n 3, 1) := by decide +kernel
theorem dX8_measureFrom_84 : decode cX8_measureFrom 84 = .ok (.iinc 4 1, 3) := by decide +kernel
theorem dX8_measureFrom_87 : decode cX8_measureFrom 87 = .ok (.goto (-78), 3) := by decide +kernel
theorem dX8_measureFrom_90 : decode cX8_measureFrom 90 = .ok (.return_, 1) := by decide +kernel
theorem dX8_measure_0 : decode cX8_measure 0 = .ok (.aload_n 0, 1) := by decide +kernel
theorem dX8_measure_1 : decode cX8_measure 1 = .ok (.getfield 18, 3) := by decide +kernel
theorem dX8_measure_4 : decode cX8_measure 4 = .ok (.iconst (-1), 1) := by decide +kernel
theorem dX8_measure_5 : decode cX8_measure 5 = .ok (.invokestatic 73, 3) := by decide +kernel
theorem dX8_measure_8 : decode cX8_measure 8 = .ok (.iconst 0, 1) := by decide +kernel
theorem dX8_measure_9 : decode cX8_measure 9 = .ok (.istore_n 1, 1) := by decide +kernel
theorem dX8_measure_10 : decode cX8_measure 10 = .ok (.iload_n 1, 1) := by decide +kernel
theorem dX8_measure_11 : decode cX8_measure 11 = .ok (.aload_n 0, 1) := by decide +kernel
theorem dX8_measure_12 : decode cX8_measure 12 = .ok (.getfield 47, 3) := by decide +kernel
theorem dX8_measure_15 : decode cX8_measure 15 = .ok (.if_icmp .ge 14, 3) := by decide +kernel
theorem dX8_measure_18 : decode cX8_measure 18 = .ok (.aload_n 0, 1) := by decide +kernel
theorem dX8_measure_19 : decode cX8_measure 19 = .ok (.iload_n 1, 1) := by decide +kernel
theorem dX8_measure_20 : decode cX8_measure 20 = .ok (.invokevirtual 79, 3) := by decide +kernel
theorem dX8_measure_23 : decode cX8_measure 23 = .ok (.iinc 1 1, 3) := by decide +kernel
theorem dX8_measure_26 : decode cX8_measure 26 = .ok (.goto (-16), 3) := by decide +kernel
theorem dX8_measure_29 : decode cX8_measure 29 = .ok (.return_, 1) := by decide +kernel
theorem dX9_begins_0 : decode cX9_begins 0 = .ok (.iload_n 1, 1) := by decide +kernel
theorem dX9_begins_1 : decode cX9_begins 1 = .ok (.iload_n 2, 1) := by decide +kernel
theorem dX9_begins_2 : decode cX9_begins 2 = .ok (.if_icmp .lt 13, 3) := by decide +kernel
theorem dX9_begins_5 : decode cX9_begins 5 = .ok (.aload_n 0, 1) := by decide +kernel
theorem dX9_begins_6 : decode cX9_begins 6 = .ok (.getfield 9, 3) := by decide +kernel
theorem dX9_begins_9 : decode cX9_begins 9 = .ok (.bipush 6, 2) := by decide +kernel
theorem dX9_begins_11 : decode cX9_begins 11 = .ok (.invokevirtual 53, 3) := by decide +kernel
theorem dX9_begins_14 : decode cX9_begins 14 = .ok (.ireturn, 1) := by decide +kernel
theorem dX9_begins_15 : decode cX9_begins 15 = .ok (.aload_n 0, 1) := by decide +kernel
theorem dX9_begins_16 : decode cX9_begins 16 = .ok (.getfield 9, 3) := by decide +kernel
theorem dX9_begins_19 : decode cX9_begins 19 = .ok (.invokevirtual 126, 3) := by decide +kernel
theorem dX9_begins_22 : decode cX9_begins 22 = .ok (.iconst 1, 1) := by decide +kernel
theorem dX9_begins_23 : decode cX9_begins 23 = .ok (.ireturn, 1) := by decide +kernel
theorem dX9_newName_0 : decode cX9_newName 0 = .ok (.aload_n 0, 1) := by decide +kernel
theorem dX9_newName_1 : decode cX9_newName 1 = .ok (.getfield 9, 3) := by decide +kernel
theorem dX9_newName_4 : decode cX9_newName 4 = .ok (.invokevirtual 149, 3) := by decide +kernel
theorem dX9_newName_7 : decode cX9_newName 7 = .ok (.ifCond .ne 11, 3) := by decide +kernel
theorem dX9_newName_10 : decode cX9_newName 10 = .ok (.aload_n 0, 1) := by decide +kernel
theorem dX9_newName_11 : decode cX9_newName 11 = .ok (.getfield 9, 3) := by decide +kernel
theorem dX9_newName_14 : decode cX9_newName 14 = .ok (.invokevirtual 57, 3) := by decide +kernel
theorem dX9_newName_17 : decode cX9_newName 17 = .ok (.ireturn, 1) := by decide +kernel
theorem dX9_newName_18 : decode cX9_newName 18 = .ok (.aload_n 0, 1) := by decide +kernel
theorem dX9_newName_19 : decode cX9_newName 19 = .ok (.aload_n 0, 1) := by decide +kernel
theorem dX9_newName_20 : decode cX9_newName 20 = .ok (.getfield 9, 3) := by decide +kernel
theorem dX9_newName_23 : decode cX9_newName 23 = .ok (.getfield 152, 3) := by decide +kernel
theorem dX9_newName_26 : decode cX9_newName 26 = .ok (.putfield 113, 3) := by decide +kernel
theorem dX9_newName_29 : decode cX9_newName 29 = .ok (.aload_n 0, 1) := by decide +kernel
theorem dX9_newName_30 : decode cX9_newName 30 = .ok (.getfield 24, 3) := by decide +kernel
theorem dX9_newName_33 : decode cX9_newName 33 = .ok (.aload_n 0, 1) := by decide +kernel
theorem dX9_newName_34 : decode cX9_newName 34 = .ok (.getfield 113, 3) := by decide +kernel
theorem dX9_newName_37 : decode cX9_newName 37 = .ok (.invokevirtual 180, 3) := by decide +kernel
theorem dX9_newName_40 : decode cX9_newName 40 = .ok (.iconst (-1), 1) := by decide +kernel
theorem dX9_newName_41 : decode cX9_newName 41 = .ok (.if_icmp .ne 18, 3) := by decide +kernel
theorem dX9_newName_44 : decode cX9_newName 44 = .ok (.aload_n 0, 1) := by decide +kernel
theorem dX9_newName_45 : decode cX9_newName 45 = .ok (.getfield 24, 3) := by decide +kernel
theorem dX9_newName_48 : decode cX9_newName 48 = .ok (.aload_n 0, 1) := by decide +kernel
theorem dX9_newName_49 : decode cX9_newName 49 = .ok (.getfield 113, 3) := by decide +kernel
theorem dX9_newName_52 : decode cX9_newName 52 = .ok (.invokevirtual 155, 3) := by decide +kernel
theorem dX9_newName_55 : decode cX9_newName 55 = .ok (.iconst (-1), 1) := by decide +kernel
theorem dX9_newName_56 : decode cX9_newName 56 = .ok (.if_icmp .eq 12, 3) := by decide +kernel
theorem dX9_newName_59 : decode cX9_newName 59 = .ok (.aload_n 0, 1) := by decide +kernel
theorem dX9_newName_60 : decode cX9_newName 60 = .ok (.getfield 9, 3) := by decide +kernel
theorem dX9_newName_63 : decode cX9_newName 63 = .ok (.iconst 2, 1) := by decide +kernel
theorem dX9_newName_64 : decode cX9_newName 64 = .ok (.invokevirtual 53, 3) := by decide +kernel
theorem dX9_newName_67 : decode cX9_newName 67 = .ok (.ireturn, 1) := by decide +kernel
theorem dX9_newName_68 : decode cX9_newName 68 = .ok (.aload_n 0, 1) := by decide +kernel
theorem dX9_newName_69 : decode cX9_newName 69 = .ok (.getfield 9, 3) := by decide +kernel
theorem dX9_newName_72 : decode cX9_newName 72 = .ok (.invokevirtual 126, 3) := by decide +kernel
theorem dX9_newName_75 : decode cX9_newName 75 = .ok (.iconst 1, 1) := by decide +kernel
theorem dX9_newName_76 : decode cX9_newName 76 = .ok (.ireturn, 1) := by decide +kernel
theorem dX9_place_0 : decode cX9_place 0 = .ok (.aload_n 0, 1) := by decide +kernel
theorem dX9_place_1 : decode cX9_place 1 = .ok (.aload_n 0, 1) := by decide +kernel
theorem dX9_place_2 : decode cX9_place 2 = .ok (.getfield 24, 3) := by decide +kernel
theorem dX9_place_5 : decode cX9_place 5 = .ok (.getfield 107, 3) := by decide +kernel
theorem dX9_place_8 : decode cX9_place 8 = .ok (.bipush 7, 2) := by decide +kernel
theorem dX9_place_10 : decode cX9_place 10 = .ok (.invokevirtual 91, 3) := by decide +kernel
theorem dX9_place_13 : decode cX9_place 13 = .ok (.ifCond .eq 10, 3) := by decide +kernel
theorem dX9_place_16 : decode cX9_place 16 = .ok (.aload_n 0, 1) := by decide +kernel
theorem dX9_place_17 : decode cX9_place 17 = .ok (.invokevirtual 110, 3) := by decide +kernel
theorem dX9_place_20 : decode cX9_place 20 = .ok (.ifCond .ne 5, 3) := by decide +kernel
theorem dX9_place_23 : decode cX9_place 23 = .ok (.iconst 0, 1) := by decide +kernel
theorem dX9_place_24 : decode cX9_place 24 = .ok (.ireturn, 1) := by decide +kernel
theorem dX9_place_25 : decode cX9_place 25 = .ok (.aload_n 0, 1) := by decide +kernel
theorem dX9_place_26 : decode cX9_place 26 = .ok (.getfield 24, 3) := by decide +kernel
theorem dX9_place_29 : decode cX9_place 29 = .ok (.aload_n 0, 1) := by decide +kernel
theorem dX9_place_30 : decode cX9_place 30 = .ok (.getfield 113, 3) := by decide +kernel
theorem dX9_place_33 : decode cX9_place 33 = .ok (.invokevirtual 116, 3) := by decide +kernel
theorem dX9_place_36 : decode cX9_place 36 = .ok (.iconst 1, 1) := by decide +kernel
theorem dX9_place_37 : decode cX9_place 37 = .ok (.ireturn, 1) := by decide +kernel
theorem dX9_placeName_0 : decode cX9_placeName 0 = .ok (.aload_n 0, 1) := by decide +kernel
theorem dX9_placeName_1 : decode cX9_placeName 1 = .ok (.getfield 9, 3) := by decide +kernel
theorem dX9_placeName_4 : decode cX9_placeName 4 = .ok (.invokevirtual 149, 3) := by decide +kernel
theorem dX9_placeName_7 : decode cX9_placeName 7 = .ok (.ifCond .ne 11, 3) := by decide +kernel
theorem dX9_placeName_10 : decode cX9_placeName 10 = .ok (.aload_n 0, 1) := by decide +kernel
theorem dX9_placeName_11 : decode cX9_placeName 11 = .ok (.getfield 9, 3) := by decide +kernel
theorem dX9_placeName_14 : decode cX9_placeName 14 = .ok (.invokevirtual 57, 3) := by decide +kernel
theorem dX9_placeName_17 : decode cX9_placeName 17 = .ok (.ireturn, 1) := by decide +kernel
theorem dX9_placeName_18 : decode cX9_placeName 18 = .ok (.aload_n 0, 1) := by decide +kernel
theorem dX9_placeName_19 : decode cX9_placeName 19 = .ok (.aload_n 0, 1) := by decide +kernel
theorem dX9_placeName_20 : decode cX9_placeName 20 = .ok (.getfield 24, 3) := by decide +kernel
theorem dX9_placeName_23 : decode cX9_placeName 23 = .ok (.aload_n 0, 1) := by decide +kernel
theorem dX9_placeName_24 : decode cX9_placeName 24 = .ok (.getfield 9, 3) := by decide +kernel
theorem dX9_placeName_27 : decode cX9_placeName 27 = .ok (.getfield 152, 3) := by decide +kernel
theorem dX9_placeName_30 : decode cX9_placeName 30 = .ok (.invokevirtual 180, 3) := by decide +kernel
theorem dX9_placeName_33 : decode cX9_placeName 33 = .ok (.putfield 113, 3) := by decide +kernel
theorem dX9_placeName_36 : decode cX9_placeName 36 = .ok (.aload_n 0, 1) := by decide +kernel
theorem dX9_placeName_37 : decode cX9_placeName 37 = .ok (.getfield 113, 3) := by decide +kernel
theorem dX9_placeName_40 : decode cX9_placeName 40 = .ok (.iconst (-1), 1) := by decide +kernel
theorem dX9_placeName_41 : decode cX9_placeName 41 = .ok (.if_icmp .ne 14, 3) := by decide +kernel
theorem dX9_placeName_44 : decode cX9_placeName 44 = .ok (.aload_n 0, 1) := by decide +kernel
theorem dX9_placeName_45 : decode cX9_placeName 45 = .ok (.getfield 9, 3) := by decide +kernel
theorem dX9_placeName_48 : decode cX9_placeName 48 = .ok (.iconst 3, 1) := by decide +kernel
theorem dX9_placeName_49 : decode cX9_placeName 49 = .ok (.invokevirtual 53, 3) := by decide +kernel
theorem dX9_placeName_52 : decode cX9_placeName 52 = .ok (.ifCond .eq 7, 3) := by decide +kernel
theorem dX9_placeName_55 : decode cX9_placeName 55 = .ok (.iconst 1, 1) := by decide +kernel
theorem dX9_placeName_56 : decode cX9_placeName 56 = .ok (.goto 4, 3) := by decide +kernel
theorem dX9_placeName_59 : decode cX9_placeName 59 = .ok (.iconst 0, 1) := by decide +kernel
theorem dX9_placeName_60 : decode cX9_placeName 60 = .ok (.ireturn, 1) := by decide +kernel
theorem dX9_road_0 : decode cX9_road 0 = .ok (.aload_n 0, 1) := by decide +kernel
theorem dX9_road_1 : decode cX9_road 1 = .ok (.aload_n 0, 1) := by decide +kernel
theorem dX9_road_2 : decode cX9_road 2 = .ok (.getfield 24, 3) := by decide +kernel
theorem dX9_road_5 : decode cX9_road 5 = .ok (.getfield 120, 3) := by decide +kernel
theorem dX9_road_8 : decode cX9_road 8 = .ok (.bipush 12, 2) := by decide +kernel
theorem dX9_road_10 : decode cX9_road 10 = .ok (.invokevirtual 91, 3) := by decide +kernel
theorem dX9_road_13 : decode cX9_road 13 = .ok (.ifCond .eq 10, 3) := by decide +kernel
theorem dX9_road_16 : decode cX9_road 16 = .ok (.aload_n 0, 1) := by decide +kernel
theorem dX9_road_17 : decode cX9_road 17 = .ok (.invokevirtual 123, 3) := by decide +kernel
theorem dX9_road_20 : decode cX9_road 20 = .ok (.ifCond .ne 5, 3) := by decide +kernel
theorem dX9_road_23 : decode cX9_road 23 = .ok (.iconst 0, 1) := by decide +kernel
theorem dX9_road_24 : decode cX9_road 24 = .ok (.ireturn, 1) := by decide +kernel
theorem dX9_road_25 : decode cX9_road 25 = .ok (.aload_n 0, 1) := by decide +kernel
theorem dX9_road_26 : decode cX9_road 26 = .ok (.getfield 113, 3) := by decide +kernel
theorem dX9_road_29 : decode cX9_road 29 = .ok (.istore_n 1, 1) := by decide +kernel
theorem dX9_road_30 : decode cX9_road 30 = .ok (.aload_n 0, 1) := by decide +kernel
theorem dX9_road_31 : decode cX9_road 31 = .ok (.getfield 9, 3) := by decide +kernel
theorem dX9_road_34 : decode cX9_road 34 = .ok (.invokevirtual 126, 3) := by decide +kernel
theorem dX9_road_37 : decode cX9_road 37 = .ok (.aload_n 0, 1) := by decide +kernel
theorem dX9_road_38 : decode cX9_road 38 = .ok (.getfield 9, 3) := by decide +kernel
theorem dX9_road_41 : decode cX9_road 41 = .ok (.iconst 2, 1) := by decide +kernel
theorem dX9_road_42 : decode cX9_road 42 = .ok (.invokevirtual 129, 3) := by decide +kernel
theorem dX9_road_45 : decode cX9_road 45 = .ok (.ifCond .eq 10, 3) := by decide +kernel
theorem dX9_road_48 : decode cX9_road 48 = .ok (.aload_n 0, 1) := by decide +kernel
theorem dX9_road_49 : decode cX9_road 49 = .ok (.invokevirtual 123, 3) := by decide +kernel
theorem dX9_road_52 : decode cX9_road 52 = .ok (.ifCond .ne 5, 3) := by decide +kernel
theorem dX9_road_55 : decode cX9_road 55 = .ok (.iconst 0, 1) := by decide +kernel
theorem dX9_road_56 : decode cX9_road 56 = .ok (.ireturn, 1) := by decide +kernel
theorem dX9_road_57 : decode cX9_road 57 = .ok (.aload_n 0, 1) := by decide +kernel
theorem dX9_road_58 : decode cX9_road 58 = .ok (.getfield 24, 3) := by decide +kernel
theorem dX9_road_61 : decode cX9_road 61 = .ok (.iload_n 1, 1) := by decide +kernel
theorem dX9_road_62 : decode cX9_road 62 = .ok (.aload_n 0, 1) := by decide +kernel
theorem dX9_road_63 : decode cX9_road 63 = .ok (.getfield 113, 3) := by decide +kernel
theorem dX9_road_66 : decode cX9_road 66 = .ok (.invokevirtual 132, 3) := by decide +kernel
theorem dX9_road_69 : decode cX9_road 69 = .ok (.ifCond .eq 12, 3) := by decide +kernel
theorem dX9_road_72 : decode cX9_road 72 = .ok (.aload_n 0, 1) := by decide +kernel
theorem dX9_road_73 : decode cX9_road 73 = .ok (.getfield 9, 3) := by decide +kernel
theorem dX9_road_76 : decode cX9_road 76 = .ok (.iconst 3, 1) := by decide +kernel
theorem dX9_road_77 : decode cX9_road 77 = .ok (.invokevirtual 53, 3) := by decide +kernel
theorem dX9_road_80 : decode cX9_road 80 = .ok (.ireturn, 1) := by decide +kernel
theorem dX9_road_81 : decode cX9_road 81 = .ok (.aload_n 0, 1) := by decide +kernel
theorem dX9_road_82 : decode cX9_road 82 = .ok (.getfield 24, 3) := by decide +kernel
theorem dX9_road_85 : decode cX9_road 85 = .ok (.iload_n 1, 1) := by decide +kernel
theorem dX9_road_86 : decode cX9_road 86 = .ok (.aload_n 0, 1) := by decide +kernel
theorem dX9_road_87 : decode cX9_road 87 = .ok (.getfield 113, 3) := by decide +kernel
theorem dX9_road_90 : decode cX9_road 90 = .ok (.invokevirtual 135, 3) := by decide +kernel
theorem dX9_road_93 : decode cX9_road 93 = .ok (.aload_n 0, 1) := by decide +kernel
theorem dX9_road_94 : decode cX9_road 94 = .ok (.getfield 9, 3) := by decide +kernel
theorem dX9_road_97 : decode cX9_road 97 = .ok (.invokevirtual 126, 3) := by decide +kernel
theorem dX9_road_100 : decode cX9_road 100 = .ok (.iconst 1, 1) := by decide +kernel
theorem dX9_road_101 : decode cX9_road 101 = .ok (.ireturn, 1) := by decide +kernel
theorem dX9_number_0 : decode cX9_number 0 = .ok (.aload_n 0, 1) := by decide +kernel
theorem dX9_number_1 : decode cX9_number 1 = .ok (.getfield 9, 3) := by decide +kernel
theorem dX9_number_4 : decode cX9_number 4 = .ok (.getfield 38, 3) := by decide +kernel
theorem dX9_number_7 : decode cX9_number 7 = .ok (.iconst 2, 1) := by decide +kernel
theorem dX9_number_8 : decode cX9_number 8 = .ok (.if_icmp .eq 11, 3) := by decide +kernel
theorem dX9_number_11 : decode cX9_number 11 = .ok (.aload_n 0, 1) := by decide +kernel
theorem dX9_number_12 : decode cX9_number 12 = .ok (.getfield 9, 3) := by decide +kernel
theorem dX9_number_15 : decode cX9_number 15 = .ok (.invokevirtual 57, 3) := by decide +kernel
theorem dX9_number_18 : decode cX9_number 18 = .ok (.ireturn, 1) := by decide +kernel
theorem dX9_number_19 : decode cX9_number 19 = .ok (.aload_n 0, 1) := by decide +kernel
theorem dX9_number_20 : decode cX9_number 20 = .ok (.aload_n 0, 1) := by decide +kernel
theorem dX9_number_21 : decode cX9_number 21 = .ok (.getfield 9, 3) := by decide +kernel
theorem dX9_number_24 : decode cX9_number 24 = .ok (.getfield 152, 3) := by decide +kernel
theorem dX9_number_27 : decode cX9_number 27 = .ok (.putfield 113, 3) := by decide +kernel
theorem dX9_number_30 : decode cX9_number 30 = .ok (.aload_n 0, 1) := by decide +kernel
theorem dX9_number_31 : decode cX9_number 31 = .ok (.getfield 113, 3) := by decide +kernel
theorem dX9_number_34 : decode cX9_number 34 = .ok (.iload_n 1, 1) := by decide +kernel
theorem dX9_number_35 : decode cX9_number 35 = .ok (.if_icmp .lt 11, 3) := by decide +kernel
theorem dX9_number_38 : decode cX9_number 38 = .ok (.aload_n 0, 1) := by decide +kernel
theorem dX9_number_39 : decode cX9_number 39 = .ok (.getfield 113, 3) := by decide +kernel
theorem dX9_number_42 : decode cX9_number 42 = .ok (.iload_n 2, 1) := by decide +kernel
theorem dX9_number_43 : decode cX9_number 43 = .ok (.if_icmp .le 12, 3) := by decide +kernel
theorem dX9_number_46 : decode cX9_number 46 = .ok (.aload_n 0, 1) := by decide +kernel
theorem dX9_number_47 : decode cX9_number 47 = .ok (.getfield 9, 3) := by decide +kernel
theorem dX9_number_50 : decode cX9_number 50 = .ok (.iconst 4, 1) := by decide +kernel
theorem dX9_number_51 : decode cX9_number 51 = .ok (.invokevirtual 53, 3) := by decide +kernel
theorem dX9_number_54 : decode cX9_number 54 = .ok (.ireturn, 1) := by decide +kernel
theorem dX9_number_55 : decode cX9_number 55 = .ok (.aload_n 0, 1) := by decide +kernel
theorem dX9_number_56 : decode cX9_number 56 = .ok (.getfield 9, 3) := by decide +kernel
theorem dX9_number_59 : decode cX9_number 59 = .ok (.invokevirtual 126, 3) := by decide +kernel
theorem dX9_number_62 : decode cX9_number 62 = .ok (.iconst 1, 1) := by decide +kernel
theorem dX9_number_63 : decode cX9_number 63 = .ok (.ireturn, 1) := by decide +kernel
theorem dX9_dweller_0 : decode cX9_dweller 0 = .ok (.aload_n 0, 1) := by decide +kernel
theorem dX9_dweller_1 : decode cX9_dweller 1 = .ok (.aload_n 0, 1) := by decide +kernel
theorem dX9_dweller_2 : decode cX9_dweller 2 = .ok (.getfield 24, 3) := by decide +kernel
theorem dX9_dweller_5 : decode cX9_dweller 5 = .ok (.getfield 139, 3) := by decide +kernel
theorem dX9_dweller_8 : decode cX9_dweller 8 = .ok (.bipush 6, 2) := by decide +kernel
theorem dX9_dweller_10 : decode cX9_dweller 10 = .ok (.invokevirtual 91, 3) := by decide +kernel
theorem dX9_dweller_13 : decode cX9_dweller 13 = .ok (.ifCond .eq 10, 3) := by decide +kernel
theorem dX9_dweller_16 : decode cX9_dweller 16 = .ok (.aload_n 0, 1) := by decide +kernel
theorem dX9_dweller_17 : decode cX9_dweller 17 = .ok (.invokevirtual 110, 3) := by decide +kernel
theorem dX9_dweller_20 : decode cX9_dweller 20 = .ok (.ifCond .ne 5, 3) := by decide +kernel
theorem dX9_dweller_23 : decode cX9_dweller 23 = .ok (.iconst 0, 1) := by decide +kernel
theorem dX9_dweller_24 : decode cX9_dweller 24 = .ok (.ireturn, 1) := by decide +kernel
theorem dX9_dweller_25 : decode cX9_dweller 25 = .ok (.aload_n 0, 1) := by decide +kernel
theorem dX9_dweller_26 : decode cX9_dweller 26 = .ok (.getfield 113, 3) := by decide +kernel
theorem dX9_dweller_29 : decode cX9_dweller 29 = .ok (.istore_n 1, 1) := by decide +kernel
theorem dX9_dweller_30 : decode cX9_dweller 30 = .ok (.aload_n 0, 1) := by decide +kernel
theorem dX9_dweller_31 : decode cX9_dweller 31 = .ok (.getfield 9, 3) := by decide +kernel
theorem dX9_dweller_34 : decode cX9_dweller 34 = .ok (.iconst 4, 1) := by decide +kernel
theorem dX9_dweller_35 : decode cX9_dweller 35 = .ok (.invokevirtual 129, 3) := by decide +kernel
theorem dX9_dweller_38 : decode cX9_dweller 38 = .ok (.ifCond .eq 10, 3) := by decide +kernel
theorem dX9_dweller_41 : decode cX9_dweller 41 = .ok (.aload_n 0, 1) := by decide +kernel
theorem dX9_dweller_42 : decode cX9_dweller 42 = .ok (.invokevirtual 123, 3) := by decide +kernel
theorem dX9_dweller_45 : decode cX9_dweller 45 = .ok (.ifCond .ne 5, 3) := by decide +kernel
theorem dX9_dweller_48 : decode cX9_dweller 48 = .ok (.iconst 0, 1) := by decide +kernel
theorem dX9_dweller_49 : decode cX9_dweller 49 = .ok (.ireturn, 1) := by decide +kernel
theorem dX9_dweller_50 : decode cX9_dweller 50 = .ok (.aload_n 0, 1) := by decide +kernel
theorem dX9_dweller_51 : decode cX9_dweller 51 = .ok (.getfield 113, 3) := by decide +kernel
theorem dX9_dweller_54 : decode cX9_dweller 54 = .ok (.istore_n 2, 1) := by decide +kernel
theorem dX9_dweller_55 : decode cX9_dweller 55 = .ok (.aload_n 0, 1) := by decide +kernel
theorem dX9_dweller_56 : decode cX9_dweller 56 = .ok (.getfield 9, 3) := by decide +kernel
theorem dX9_dweller_59 : decode cX9_dweller 59 = .ok (.invokevirtual 126, 3) := by decide +kernel
theorem dX9_dweller_62 : decode cX9_dweller 62 = .ok (.aload_n 0, 1) := by decide +kernel
theorem dX9_dweller_63 : decode cX9_dweller 63 = .ok (.getfield 9, 3) := by decide +kernel
theorem dX9_dweller_66 : decode cX9_dweller 66 = .ok (.iconst 5, 1) := by decide +kernel
theorem dX9_dweller_67 : decode cX9_dweller 67 = .ok (.invokevirtual 129, 3) := by decide +kernel
theorem dX9_dweller_70 : decode cX9_dweller 70 = .ok (.ifCond .eq 13, 3) := by decide +kernel
theorem dX9_dweller_73 : decode cX9_dweller 73 = .ok (.aload_n 0, 1) := by decide +kernel
theorem dX9_dweller_74 : decode cX9_dweller 74 = .ok (.iconst 0, 1) := by decide +kernel
theorem dX9_dweller_75 : decode cX9_dweller 75 = .ok (.bipush 9, 2) := by decide +kernel
theorem dX9_dweller_77 : decode cX9_dweller 77 = .ok (.invokevirtual 142, 3) := by decide +kernel
theorem dX9_dweller_80 : decode cX9_dweller 80 = .ok (.ifCond .ne 5, 3) := by decide +kernel
theorem dX9_dweller_83 : decode cX9_dweller 83 = .ok (.iconst 0, 1) := by decide +kernel
theorem dX9_dweller_84 : decode cX9_dweller 84 = .ok (.ireturn, 1) := by decide +kernel
theorem dX9_dweller_85 : decode cX9_dweller 85 = .ok (.aload_n 0, 1) := by decide +kernel
theorem dX9_dweller_86 : decode cX9_dweller 86 = .ok (.getfield 24, 3) := by decide +kernel
theorem dX9_dweller_89 : decode cX9_dweller 89 = .ok (.iload_n 1, 1) := by decide +kernel
theorem dX9_dweller_90 : decode cX9_dweller 90 = .ok (.iload_n 2, 1) := by decide +kernel
theorem dX9_dweller_91 : decode cX9_dweller 91 = .ok (.aload_n 0, 1) := by decide +kernel
theorem dX9_dweller_92 : decode cX9_dweller 92 = .ok (.getfield 113, 3) := by decide +kernel
theorem dX9_dweller_95 : decode cX9_dweller 95 = .ok (.invokevirtual 145, 3) := by decide +kernel
theorem dX9_dweller_98 : decode cX9_dweller 98 = .ok (.iconst 1, 1) := by decide +kernel
theorem dX9_dweller_99 : decode cX9_dweller 99 = .ok (.ireturn, 1) := by decide +kernel
theorem dX9_watcher_0 : decode cX9_watcher 0 = .ok (.aload_n 0, 1) := by decide +kernel
theorem dX9_watcher_1 : decode cX9_watcher 1 = .ok (.getfield 9, 3) := by decide +kernel
theorem dX9_watcher_4 : decode cX9_watcher 4 = .ok (.invokevirtual 126, 3) := by decide +kernel
theorem dX9_watcher_7 : decode cX9_watcher 7 = .ok (.aload_n 0, 1) := by decide +kernel
theorem dX9_watcher_8 : decode cX9_watcher 8 = .ok (.getfield 9, 3) := by decide +kernel
theorem dX9_watcher_11 : decode cX9_watcher 11 = .ok (.invokevirtual 149, 3) := by decide +kernel
theorem dX9_watcher_14 : decode cX9_watcher 14 = .ok (.ifCond .ne 11, 3) := by decide +kernel
theorem dX9_watcher_17 : decode cX9_watcher 17 = .ok (.aload_n 0, 1) := by decide +kernel
theorem dX9_watcher_18 : decode cX9_watcher 18 = .ok (.getfield 9, 3) := by decide +kernel
theorem dX9_watcher_21 : decode cX9_watcher 21 = .ok (.invokevirtual 57, 3) := by decide +kernel
theorem dX9_watcher_24 : decode cX9_watcher 24 = .ok (.ireturn, 1) := by decide +kernel
theorem dX9_watcher_25 : decode cX9_watcher 25 = .ok (.aload_n 0, 1) := by decide +kernel
theorem dX9_watcher_26 : decode cX9_watcher 26 = .ok (.getfield 24, 3) := by decide +kernel
theorem dX9_watcher_29 : decode cX9_watcher 29 = .ok (.aload_n 0, 1) := by decide +kernel
theorem dX9_watcher_30 : decode cX9_watcher 30 = .ok (.getfield 9, 3) := by decide +kernel
theorem dX9_watcher_33 : decode cX9_watcher 33 = .ok (.getfield 152, 3) := by decide +kernel
theorem dX9_watcher_36 : decode cX9_watcher 36 = .ok (.invokevirtual 155, 3) := by decide +kernel
theorem dX9_watcher_39 : decode cX9_watcher 39 = .ok (.istore_n 1, 1) := by decide +kernel
theorem dX9_watcher_40 : decode cX9_watcher 40 = .ok (.iload_n 1, 1) := by decide +kernel
theorem dX9_watcher_41 : decode cX9_watcher 41 = .ok (.iconst (-1), 1) := by decide +kernel
theorem dX9_watcher_42 : decode cX9_watcher 42 = .ok (.if_icmp .eq 18, 3) := by decide +kernel
theorem dX9_watcher_45 : decode cX9_watcher 45 = .ok (.aload_n 0, 1) := by decide +kernel
theorem dX9_watcher_46 : decode cX9_watcher 46 = .ok (.getfield 24, 3) := by decide +kernel
theorem dX9_watcher_49 : decode cX9_watcher 49 = .ok (.getfield 159, 3) := by decide +kernel
theorem dX9_watcher_52 : decode cX9_watcher 52 = .ok (.iload_n 1, 1) := by decide +kernel
theorem dX9_watcher_53 : decode cX9_watcher 53 = .ok (.ishr, 1) := by decide +kernel
theorem dX9_watcher_54 : decode cX9_watcher 54 = .ok (.iconst 1, 1) := by decide +kernel
theorem dX9_watcher_55 : decode cX9_watcher 55 = .ok (.iand, 1) := by decide +kernel
theorem dX9_watcher_56 : decode cX9_watcher 56 = .ok (.iconst 1, 1) := by decide +kernel
theorem dX9_watcher_57 : decode cX9_watcher 57 = .ok (.if_icmp .ne 12, 3) := by decide +kernel
theorem dX9_watcher_60 : decode cX9_watcher 60 = .ok (.aload_n 0, 1) := by decide +kernel
theorem dX9_watcher_61 : decode cX9_watcher 61 = .ok (.getfield 9, 3) := by decide +kernel
theorem dX9_watcher_64 : decode cX9_watcher 64 = .ok (.iconst 3, 1) := by decide +kernel
theorem dX9_watcher_65 : decode cX9_watcher 65 = .ok (.invokevirtual 53, 3) := by decide +kernel
theorem dX9_watcher_68 : decode cX9_watcher 68 = .ok (.ireturn, 1) := by decide +kernel
theorem dX9_watcher_69 : decode cX9_watcher 69 = .ok (.aload_n 0, 1) := by decide +kernel
theorem dX9_watcher_70 : decode cX9_watcher 70 = .ok (.getfield 24, 3) := by decide +kernel
theorem dX9_watcher_73 : decode cX9_watcher 73 = .ok (.dup, 1) := by decide +kernel
theorem dX9_watcher_74 : decode cX9_watcher 74 = .ok (.getfield 159, 3) := by decide +kernel
theorem dX9_watcher_77 : decode cX9_watcher 77 = .ok (.iconst 1, 1) := by decide +kernel
theorem dX9_watcher_78 : decode cX9_watcher 78 = .ok (.iload_n 1, 1) := by decide +kernel
theorem dX9_watcher_79 : decode cX9_watcher 79 = .ok (.ishl, 1) := by decide +kernel
theorem dX9_watcher_80 : decode cX9_watcher 80 = .ok (.ior, 1) := by decide +kernel
theorem dX9_watcher_81 : decode cX9_watcher 81 = .ok (.putfield 159, 3) := by decide +kernel
theorem dX9_watcher_84 : decode cX9_watcher 84 = .ok (.aload_n 0, 1) := by decide +kernel
theorem dX9_watcher_85 : decode cX9_watcher 85 = .ok (.getfield 9, 3) := by decide +kernel
theorem dX9_watcher_88 : decode cX9_watcher 88 = .ok (.invokevirtual 126, 3) := by decide +kernel
theorem dX9_watcher_91 : decode cX9_watcher 91 = .ok (.iconst 1, 1) := by decide +kernel
theorem dX9_watcher_92 : decode cX9_watcher 92 = .ok (.ireturn, 1) := by decide +kernel
theorem dX9_shownFrame_0 : decode cX9_shownFrame 0 = .ok (.aload_n 0, 1) := by decide +kernel
theorem dX9_shownFrame_1 : decode cX9_shownFrame 1 = .ok (.aload_n 0, 1) := by decide +kernel
theorem dX9_shownFrame_2 : decode cX9_shownFrame 2 = .ok (.getfield 24, 3) := by decide +kernel
theorem dX9_shownFrame_5 : decode cX9_shownFrame 5 = .ok (.getfield 162, 3) := by decide +kernel
theorem dX9_shownFrame_8 : decode cX9_shownFrame 8 = .ok (.getfield 166, 3) := by decide +kernel
theorem dX9_shownFrame_11 : decode cX9_shownFrame 11 = .ok (.bipush 8, 2) := by decide +kernel
theorem dX9_shownFrame_13 : decode cX9_shownFrame 13 = .ok (.invokevirtual 91, 3) := by decide +kernel
theorem dX9_shownFrame_16 : decode cX9_shownFrame 16 = .ok (.ifCond .eq 13, 3) := by decide +kernel
theorem dX9_shownFrame_19 : decode cX9_shownFrame 19 = .ok (.aload_n 0, 1) := by decide +kernel
theorem dX9_shownFrame_20 : decode cX9_shownFrame 20 = .ok (.iconst 1, 1) := by decide +kernel
theorem dX9_shownFrame_21 : decode cX9_shownFrame 21 = .ok (.bipush 8, 2) := by decide +kernel
theorem dX9_shownFrame_23 : decode cX9_shownFrame 23 = .ok (.invokevirtual 142, 3) := by decide +kernel
theorem dX9_shownFrame_26 : decode cX9_shownFrame 26 = .ok (.ifCond .ne 5, 3) := by decide +kernel
theorem dX9_shownFrame_29 : decode cX9_shownFrame 29 = .ok (.iconst 0, 1) := by decide +kernel
theorem dX9_shownFrame_30 : decode cX9_shownFrame 30 = .ok (.ireturn, 1) := by decide +kernel
theorem dX9_shownFrame_31 : decode cX9_shownFrame 31 = .ok (.aload_n 0, 1) := by decide +kernel
theorem dX9_shownFrame_32 : decode cX9_shownFrame 32 = .ok (.getfield 113, 3) := by decide +kernel
theorem dX9_shownFrame_35 : decode cX9_shownFrame 35 = .ok (.istore_n 1, 1) := by decide +kernel
theorem dX9_shownFrame_36 : decode cX9_shownFrame 36 = .ok (.aload_n 0, 1) := by decide +kernel
theorem dX9_shownFrame_37 : decode cX9_shownFrame 37 = .ok (.invokevirtual 123, 3) := by decide +kernel
theorem dX9_shownFrame_40 : decode cX9_shownFrame 40 = .ok (.ifCond .ne 5, 3) := by decide +kernel
theorem dX9_shownFrame_43 : decode cX9_shownFrame 43 = .ok (.iconst 0, 1) := by decide +kernel
theorem dX9_shownFrame_44 : decode cX9_shownFrame 44 = .ok (.ireturn, 1) := by decide +kernel
theorem dX9_shownFrame_45 : decode cX9_shownFrame 45 = .ok (.aload_n 0, 1) := by decide +kernel
theorem dX9_shownFrame_46 : decode cX9_shownFrame 46 = .ok (.getfield 113, 3) := by decide +kernel
theorem dX9_shownFrame_49 : decode cX9_shownFrame 49 = .ok (.istore_n 2, 1) := by decide +kernel
theorem dX9_shownFrame_50 : decode cX9_shownFrame 50 = .ok (.aload_n 0, 1) := by decide +kernel
theorem dX9_shownFrame_51 : decode cX9_shownFrame 51 = .ok (.getfield 24, 3) := by decide +kernel
theorem dX9_shownFrame_54 : decode cX9_shownFrame 54 = .ok (.getfield 162, 3) := by decide +kernel
theorem dX9_shownFrame_57 : decode cX9_shownFrame 57 = .ok (.iload_n 1, 1) := by decide +kernel
theorem dX9_shownFrame_58 : decode cX9_shownFrame 58 = .ok (.iload_n 2, 1) := by decide +kernel
theorem dX9_shownFrame_59 : decode cX9_shownFrame 59 = .ok (.invokevirtual 171, 3) := by decide +kernel
theorem dX9_shownFrame_62 : decode cX9_shownFrame 62 = .ok (.iconst (-1), 1) := by decide +kernel
theorem dX9_shownFrame_63 : decode cX9_shownFrame 63 = .ok (.if_icmp .eq 12, 3) := by decide +kernel
theorem dX9_shownFrame_66 : decode cX9_shownFrame 66 = .ok (.aload_n 0, 1) := by decide +kernel
theorem dX9_shownFrame_67 : decode cX9_shownFrame 67 = .ok (.getfield 9, 3) := by decide +kernel
theorem dX9_shownFrame_70 : decode cX9_shownFrame 70 = .ok (.iconst 3, 1) := by decide +kernel
theorem dX9_shownFrame_71 : decode cX9_shownFrame 71 = .ok (.invokevirtual 53, 3) := by decide +kernel
theorem dX9_shownFrame_74 : decode cX9_shownFrame 74 = .ok (.ireturn, 1) := by decide +kernel
theorem dX9_shownFrame_75 : decode cX9_shownFrame 75 = .ok (.aload_n 0, 1) := by decide +kernel
theorem dX9_shownFrame_76 : decode cX9_shownFrame 76 = .ok (.getfield 9, 3) := by decide +kernel
theorem dX9_shownFrame_79 : decode cX9_shownFrame 79 = .ok (.invokevirtual 126, 3) := by decide +kernel
theorem dX9_shownFrame_82 : decode cX9_shownFrame 82 = .ok (.aload_n 0, 1) := by decide +kernel
theorem dX9_shownFrame_83 : decode cX9_shownFrame 83 = .ok (.iconst 0, 1) := by decide +kernel
theorem dX9_shownFrame_84 : decode cX9_shownFrame 84 = .ok (.bipush 6, 2) := by decide +kernel
theorem dX9_shownFrame_86 : decode cX9_shownFrame 86 = .ok (.invokevirtual 142, 3) := by decide +kernel
theorem dX9_shownFrame_89 : decode cX9_shownFrame 89 = .ok (.ifCond .ne 5, 3) := by decide +kernel
theorem dX9_shownFrame_92 : decode cX9_shownFrame 92 = .ok (.iconst 0, 1) := by decide +kernel
theorem dX9_shownFrame_93 : decode cX9_shownFrame 93 = .ok (.ireturn, 1) := by decide +kernel
theorem dX9_shownFrame_94 : decode cX9_shownFrame 94 = .ok (.aload_n 0, 1) := by decide +kernel
theorem dX9_shownFrame_95 : decode cX9_shownFrame 95 = .ok (.getfield 24, 3) := by decide +kernel
theorem dX9_shownFrame_98 : decode cX9_shownFrame 98 = .ok (.getfield 162, 3) := by decide +kernel
theorem dX9_shownFrame_101 : decode cX9_shownFrame 101 = .ok (.iload_n 1, 1) := by decide +kernel
theorem dX9_shownFrame_102 : decode cX9_shownFrame 102 = .ok (.iload_n 2, 1) := by decide +kernel
theorem dX9_shownFrame_103 : decode cX9_shownFrame 103 = .ok (.aload_n 0, 1) := by decide +kernel
theorem dX9_shownFrame_104 : decode cX9_shownFrame 104 = .ok (.getfield 113, 3) := by decide +kernel
theorem dX9_shownFrame_107 : decode cX9_shownFrame 107 = .ok (.invokevirtual 175, 3) := by decide +kernel
theorem dX9_shownFrame_110 : decode cX9_shownFrame 110 = .ok (.iconst 1, 1) := by decide +kernel
theorem dX9_shownFrame_111 : decode cX9_shownFrame 111 = .ok (.ireturn, 1) := by decide +kernel
theorem dX9_rain_0 : decode cX9_rain 0 = .ok (.aload_n 0, 1) := by decide +kernel
theorem dX9_rain_1 : decode cX9_rain 1 = .ok (.getfield 9, 3) := by decide +kernel
theorem dX9_rain_4 : decode cX9_rain 4 = .ok (.invokevirtual 126, 3) := by decide +kernel
theorem dX9_rain_7 : decode cX9_rain 7 = .ok (.aload_n 0, 1) := by decide +kernel
theorem dX9_rain_8 : decode cX9_rain 8 = .ok (.iconst 0, 1) := by decide +kernel
theorem dX9_rain_9 : decode cX9_rain 9 = .ok (.bipush 100, 2) := by decide +kernel
theorem dX9_rain_11 : decode cX9_rain 11 = .ok (.invokevirtual 142, 3) := by decide +kernel
theorem dX9_rain_14 : decode cX9_rain 14 = .ok (.ifCond .ne 5, 3) := by decide +kernel
theorem dX9_rain_17 : decode cX9_rain 17 = .ok (.iconst 0, 1) := by decide +kernel
theorem dX9_rain_18 : decode cX9_rain 18 = .ok (.ireturn, 1) := by decide +kernel
theorem dX9_rain_19 : decode cX9_rain 19 = .ok (.aload_n 0, 1) := by decide +kernel
theorem dX9_rain_20 : decode cX9_rain 20 = .ok (.getfield 24, 3) := by decide +kernel
theorem dX9_rain_23 : decode cX9_rain 23 = .ok (.aload_n 0, 1) := by decide +kernel
theorem dX9_rain_24 : decode cX9_rain 24 = .ok (.getfield 113, 3) := by decide +kernel
theorem dX9_rain_27 : decode cX9_rain 27 = .ok (.putfield 178, 3) := by decide +kernel
theorem dX9_rain_30 : decode cX9_rain 30 = .ok (.iconst 1, 1) := by decide +kernel
theorem dX9_rain_31 : decode cX9_rain 31 = .ok (.ireturn, 1) := by decide +kernel
theorem dX9_statement_0 : decode cX9_statement 0 = .ok (.aload_n 0, 1) := by decide +kernel
theorem dX9_statement_1 : decode cX9_statement 1 = .ok (.getfield 9, 3) := by decide +kernel
theorem dX9_statement_4 : decode cX9_statement 4 = .ok (.getfield 38, 3) := by decide +kernel
theorem dX9_statement_7 : decode cX9_statement 7 = .ok (.iconst 1, 1) := by decide +kernel
theorem dX9_statement_8 : decode cX9_statement 8 = .ok (.if_icmp .eq 11, 3) := by decide +kernel
theorem dX9_statement_11 : decode cX9_statement 11 = .ok (.aload_n 0, 1) := by decide +kernel
theorem dX9_statement_12 : decode cX9_statement 12 = .ok (.getfield 9, 3) := by decide +kernel
theorem dX9_statement_15 : decode cX9_statement 15 = .ok (.invokevirtual 57, 3) := by decide +kernel
theorem dX9_statement_18 : decode cX9_statement 18 = .ok (.ireturn, 1) := by decide +kernel
theorem dX9_statement_19 : decode cX9_statement 19 = .ok (.aload_n 0, 1) := by decide +kernel
theorem dX9_statement_20 : decode cX9_statement 20 = .ok (.getfield 9, 3) := by decide +kernel
theorem dX9_statement_23 : decode cX9_statement 23 = .ok (.getfield 60, 3) := by decide +kernel
theorem dX9_statement_26 : decode cX9_statement 26 = .ok (.tableswitch 188 0 10 #[58, 63, 188, 68, 188, 188, 73, 78, 83, 133, 183], 58) := by decide +kernel
theorem dX9_statement_84 : decode cX9_statement 84 = .ok (.aload_n 0, 1) := by decide +kernel
theorem dX9_statement_85 : decode cX9_statement 85 = .ok (.invokevirtual 63, 3) := by decide +kernel
theorem dX9_statement_88 : decode cX9_statement 88 = .ok (.ireturn, 1) := by decide +kernel
theorem dX9_statement_89 : decode cX9_statement 89 = .ok (.aload_n 0, 1) := by decide +kernel
theorem dX9_statement_90 : decode cX9_statement 90 = .ok (.invokevirtual 66, 3) := by decide +kernel
theorem dX9_statement_93 : decode cX9_statement 93 = .ok (.ireturn, 1) := by decide +kernel
theorem dX9_statement_94 : decode cX9_statement 94 = .ok (.aload_n 0, 1) := by decide +kernel
theorem dX9_statement_95 : decode cX9_statement 95 = .ok (.invokevirtual 69, 3) := by decide +kernel
theorem dX9_statement_98 : decode cX9_statement 98 = .ok (.ireturn, 1) := by decide +kernel
theorem dX9_statement_99 : decode cX9_statement 99 = .ok (.aload_n 0, 1) := by decide +kernel
theorem dX9_statement_100 : decode cX9_statement 100 = .ok (.invokevirtual 72, 3) := by decide +kernel
theorem dX9_statement_103 : decode cX9_statement 103 = .ok (.ireturn, 1) := by decide +kernel
theorem dX9_statement_104 : decode cX9_statement 104 = .ok (.aload_n 0, 1) := by decide +kernel
theorem dX9_statement_105 : decode cX9_statement 105 = .ok (.invokevirtual 75, 3) := by decide +kernel
theorem dX9_statement_108 : decode cX9_statement 108 = .ok (.ireturn, 1) := by decide +kernel
theorem dX9_statement_109 : decode cX9_statement 109 = .ok (.aload_n 0, 1) := by decide +kernel
theorem dX9_statement_110 : decode cX9_statement 110 = .ok (.getfield 20, 3) := by decide +kernel
theorem dX9_statement_113 : decode cX9_statement 113 = .ok (.aload_n 0, 1) := by decide +kernel
theorem dX9_statement_114 : decode cX9_statement 114 = .ok (.getfield 24, 3) := by decide +kernel
theorem dX9_statement_117 : decode cX9_statement 117 = .ok (.getfield 78, 3) := by decide +kernel
theorem dX9_statement_120 : decode cX9_statement 120 = .ok (.iconst 0, 1) := by decide +kernel
theorem dX9_statement_121 : decode cX9_statement 121 = .ok (.invokevirtual 82, 3) := by decide +kernel
theorem dX9_statement_124 : decode cX9_statement 124 = .ok (.aload_n 0, 1) := by decide +kernel
theorem dX9_statement_125 : decode cX9_statement 125 = .ok (.aload_n 0, 1) := by decide +kernel
theorem dX9_statement_126 : decode cX9_statement 126 = .ok (.getfield 24, 3) := by decide +kernel
theorem dX9_statement_129 : decode cX9_statement 129 = .ok (.getfield 78, 3) := by decide +kernel
theorem dX9_statement_132 : decode cX9_statement 132 = .ok (.getfield 86, 3) := by decide +kernel
theorem dX9_statement_135 : decode cX9_statement 135 = .ok (.iconst 1, 1) := by decide +kernel
theorem dX9_statement_136 : decode cX9_statement 136 = .ok (.invokevirtual 91, 3) := by decide +kernel
theorem dX9_statement_139 : decode cX9_statement 139 = .ok (.ifCond .eq 18, 3) := by decide +kernel
theorem dX9_statement_142 : decode cX9_statement 142 = .ok (.aload_n 0, 1) := by decide +kernel
theorem dX9_statement_143 : decode cX9_statement 143 = .ok (.getfield 20, 3) := by decide +kernel
theorem dX9_statement_146 : decode cX9_statement 146 = .ok (.iconst 0, 1) := by decide +kernel
theorem dX9_statement_147 : decode cX9_statement 147 = .ok (.invokevirtual 95, 3) := by decide +kernel
theorem dX9_statement_150 : decode cX9_statement 150 = .ok (.ifCond .eq 7, 3) := by decide +kernel
theorem dX9_statement_153 : decode cX9_statement 153 = .ok (.iconst 1, 1) := by decide +kernel
theorem dX9_statement_154 : decode cX9_statement 154 = .ok (.goto 4, 3) := by decide +kernel
theorem dX9_statement_157 : decode cX9_statement 157 = .ok (.iconst 0, 1) := by decide +kernel
theorem dX9_statement_158 : decode cX9_statement 158 = .ok (.ireturn, 1) := by decide +kernel
theorem dX9_statement_159 : decode cX9_statement 159 = .ok (.aload_n 0, 1) := by decide +kernel
theorem dX9_statement_160 : decode cX9_statement 160 = .ok (.getfield 20, 3) := by decide +kernel
theorem dX9_statement_163 : decode cX9_statement 163 = .ok (.aload_n 0, 1) := by decide +kernel
theorem dX9_statement_164 : decode cX9_statement 164 = .ok (.getfield 24, 3) := by decide +kernel
theorem dX9_statement_167 : decode cX9_statement 167 = .ok (.getfield 98, 3) := by decide +kernel
theorem dX9_statement_170 : decode cX9_statement 170 = .ok (.iconst 1, 1) := by decide +kernel
theorem dX9_statement_171 : decode cX9_statement 171 = .ok (.invokevirtual 82, 3) := by decide +kernel
theorem dX9_statement_174 : decode cX9_statement 174 = .ok (.aload_n 0, 1) := by decide +kernel
theorem dX9_statement_175 : decode cX9_statement 175 = .ok (.aload_n 0, 1) := by decide +kernel
theorem dX9_statement_176 : decode cX9_statement 176 = .ok (.getfield 24, 3) := by decide +kernel
theorem dX9_statement_179 : decode cX9_statement 179 = .ok (.getfield 98, 3) := by decide +kernel
theorem dX9_statement_182 : decode cX9_statement 182 = .ok (.getfield 86, 3) := by decide +kernel
theorem dX9_statement_185 : decode cX9_statement 185 = .ok (.iconst 1, 1) := by decide +kernel
theorem dX9_statement_186 : decode cX9_statement 186 = .ok (.invokevirtual 91, 3) := by decide +kernel
theorem dX9_statement_189 : decode cX9_statement 189 = .ok (.ifCond .eq 18, 3) := by decide +kernel
theorem dX9_statement_192 : decode cX9_statement 192 = .ok (.aload_n 0, 1) := by decide +kernel
theorem dX9_statement_193 : decode cX9_statement 193 = .ok (.getfield 20, 3) := by decide +kernel
theorem dX9_statement_196 : decode cX9_statement 196 = .ok (.iconst 0, 1) := by decide +kernel
theorem dX9_statement_197 : decode cX9_statement 197 = .ok (.invokevirtual 101, 3) := by decide +kernel
theorem dX9_statement_200 : decode cX9_statement 200 = .ok (.ifCond .eq 7, 3) := by decide +kernel
theorem dX9_statement_203 : decode cX9_statement 203 = .ok (.iconst 1, 1) := by decide +kernel
theorem dX9_statement_204 : decode cX9_statement 204 = .ok (.goto 4, 3) := by decide +kernel
theorem dX9_statement_207 : decode cX9_statement 207 = .ok (.iconst 0, 1) := by decide +kernel
theorem dX9_statement_208 : decode cX9_statement 208 = .ok (.ireturn, 1) := by decide +kernel
theorem dX9_statement_209 : decode cX9_statement 209 = .ok (.aload_n 0, 1) := by decide +kernel
theorem dX9_statement_210 : decode cX9_statement 210 = .ok (.invokevirtual 104, 3) := by decide +kernel
theorem dX9_statement_213 : decode cX9_statement 213 = .ok (.ireturn, 1) := by decide +kernel
theorem dX9_statement_214 : decode cX9_statement 214 = .ok (.aload_n 0, 1) := by decide +kernel
theorem dX9_statement_215 : decode cX9_statement 215 = .ok (.getfield 9, 3) := by decide +kernel
theorem dX9_statement_218 : decode cX9_statement 218 = .ok (.invokevirtual 57, 3) := by decide +kernel
theorem dX9_statement_221 : decode cX9_statement 221 = .ok (.ireturn, 1) := by decide +kernel
set_option maxRecDepth 20000 in
theorem t_X7_startReading {l : Launch} {Y : YT} (hY : YOK Y) {M : Mem} {Q : Mem → Prop} (h : m_X7_startReading  M Q) : Ctr l Y yX7_startReading cX7_startReading 1 none 4 [vR Y 1] M (PQv Y Q) := by
  unfold m_X7_startReading at h
  refine ctr_ofF hY (by decide +kernel) (Nat.le_of_ble_eq_true rfl) [(0, vR Y 1)] rfl (fun X hX C hR => ?_)
  refine g_aload_n (q := 0) C dX7_startReading_0 rfl rfl ?_
  refine g_iconst C dX7_startReading_1 rfl ?_
  obtain ⟨M1, e_M1⟩ : ∃ z : Mem, z = up M 1 6 0 := ⟨_, rfl⟩
  have h := h M1 e_M1
  refine g_putI C fX7_37 pX7_37 dX7_startReading_2 kd_1 e_M1 ?_
  refine g_aload_n (q := 0) C dX7_startReading_5 rfl rfl ?_
  refine g_iconst C dX7_startReading_6 rfl ?_
  obtain ⟨M2, e_M2⟩ : ∃ z : Mem, z = up M1 1 7 (-1) := ⟨_, rfl⟩
  have h := h M2 e_M2
  refine g_putI C fX7_15 pX7_15 dX7_startReading_7 kd_1 e_M2 ?_
  refine g_aload_n (q := 0) C dX7_startReading_10 rfl rfl ?_
  refine g_iconst C dX7_startReading_11 rfl ?_
  obtain ⟨M3, e_M3⟩ : ∃ z : Mem, z = up M2 1 9 0 := ⟨_, rfl⟩
  have h := h M3 e_M3
  refine g_putI C fX7_40 pX7_40 dX7_startReading_12 kd_1 e_M3 ?_
  refine g_aload_n (q := 0) C dX7_startReading_15 rfl rfl ?_
  refine g_iconst C dX7_startReading_16 rfl ?_
  obtain ⟨M4, e_M4⟩ : ∃ z : Mem, z = up M3 1 2 0 := ⟨_, rfl⟩
  have h := h M4 e_M4
  refine g_putI C fX7_43 pX7_43 dX7_startReading_17 kd_1 e_M4 ?_
  refine g_aload_n (q := 0) C dX7_startReading_20 rfl rfl ?_
  refine g_cVv (As := []) C clX7_46 clvX7_advance dX7_startReading_21 kd_1 rfl (Nat.le_of_ble_eq_true rfl) rfl (by decide) (t_X7_advance (Cx.ok C) h) (fun M5 h => ?_)
  exact g_retv C hR dX7_startReading_24 h
set_option maxRecDepth 20000 in
theorem w_X7_isName_J21 {Y : YT} {X : CX} (C : Cx Y X cX7_isName 1 RX7 1) {Q : Int → Mem → Prop} (hR : Rt Y X (some .boolean) (PQi Y Q)) {s0 : Int}  {M : Mem}  (h : m_X7_isName_J21  Q s0 M) : G Y X 1 21 [] ((vI s0) :: []) M := by
  unfold m_X7_isName_J21 at h
  obtain ⟨g1, h⟩ := h
  exact g_retz C hR dX7_isName_21 g1 h
set_option maxRecDepth 20000 in
theorem w_X7_isName_J20 {Y : YT} {X : CX} (C : Cx Y X cX7_isName 1 RX7 1) {Q : Int → Mem → Prop} (hR : Rt Y X (some .boolean) (PQi Y Q))   {M : Mem}  (h : m_X7_isName_J20  Q  M) : G Y X 1 20 [] ([]) M := by
  unfold m_X7_isName_J20 at h
  refine g_iconst C dX7_isName_20 rfl ?_
  refine G.sub [] rfl ?_
  exact w_X7_isName_J21 C hR  h
set_option maxRecDepth 20000 in
theorem t_X7_isName {l : Launch} {Y : YT} (hY : YOK Y) {M : Mem} {Q : Int → Mem → Prop} (h : m_X7_isName  M Q) : Ctr l Y yX7_isName cX7_isName 1 (some .boolean) 1 [vR Y 1] M (PQi Y Q) := by
  unfold m_X7_isName at h
  refine ctr_ofF hY (by decide +kernel) (Nat.le_of_ble_eq_true rfl) [(0, vR Y 1)] rfl (fun X hX C hR => ?_)
  refine g_aload_n (q := 0) C dX7_isName_0 rfl rfl ?_
  refine g_getI C fX7_43 (by decide) dX7_isName_1 kd_1 ?_
  refine g_iconst C dX7_isName_4 rfl ?_
  obtain ⟨g2, h⟩ := h
  obtain ⟨ht, hf⟩ := h
  refine g_icmp_ne (tgt := 20) C dX7_isName_5 (by decide) g2 (by decide) (fun c => ?_) (fun c => ?_)
  · have h := hf c
    refine G.sub [] rfl ?_
    exact w_X7_isName_J20 C hR  h
  · have h := ht c
    refine g_aload_n (q := 0) C dX7_isName_8 rfl rfl ?_
    refine g_getI C fX7_55 (by decide) dX7_isName_9 kd_1 ?_
    refine g_iconst C dX7_isName_12 rfl ?_
    obtain ⟨g3, h⟩ := h
    obtain ⟨ht, hf⟩ := h
    refine g_icmp_ne (tgt := 20) C dX7_isName_13 (by decide) g3 (by decide) (fun c => ?_) (fun c => ?_)
    · have h := hf c
      refine G.sub [] rfl ?_
      exact w_X7_isName_J20 C hR  h
    · have h := ht c
      refine g_iconst C dX7_isName_16 rfl ?_
      refine g_goto (tgt := 21) C dX7_isName_17 (by decide) ?_
      refine G.sub [] rfl ?_
      exact w_X7_isName_J21 C hR  h
set_option maxRecDepth 20000 in
theorem t_X7_takeOwn {l : Launch} {Y : YT} (hY : YOK Y) {a0 : Int} {M : Mem} {Q : Int → Mem → Prop} (h : m_X7_takeOwn a0 M Q) : Ctr l Y yX7_takeOwn cX7_takeOwn 2 (some .boolean) 4 [vR Y 1, vI a0] M (PQi Y Q) := by
  unfold m_X7_takeOwn at h
  refine ctr_ofF hY (by decide +kernel) (Nat.le_of_ble_eq_true rfl) [(0, vR Y 1), (1, vI a0)] rfl (fun X hX C hR => ?_)
  refine g_aload_n (q := 0) C dX7_takeOwn_0 rfl rfl ?_
  refine g_iload_n (q := 1) C dX7_takeOwn_1 rfl rfl ?_
  refine g_cVi (As := [vI a0]) C clX7_81 clvX7_isOwn dX7_takeOwn_2 kd_1 rfl (Nat.le_of_ble_eq_true rfl) rfl (by decide) (t_X7_isOwn (Cx.ok C) h) (fun r2 M1 h => ?_)
  obtain ⟨g3, h⟩ := h
  obtain ⟨ht, hf⟩ := h
  refine g_if_ne (tgt := 13) C dX7_takeOwn_5 (by decide) g3 (fun c => ?_) (fun c => ?_)
  · have h := hf c
    refine g_aload_n (q := 0) C dX7_takeOwn_13 rfl rfl ?_
    refine g_cVv (As := []) C clX7_46 clvX7_advance dX7_takeOwn_14 kd_1 rfl (Nat.le_of_ble_eq_true rfl) rfl (by decide) (t_X7_advance (Cx.ok C) h) (fun M4 h => ?_)
    refine g_iconst C dX7_takeOwn_17 rfl ?_
    exact g_retz C hR dX7_takeOwn_18 (by decide) h
  · have h := ht c
    refine g_aload_n (q := 0) C dX7_takeOwn_8 rfl rfl ?_
    refine g_cVi (As := []) C clX7_77 clvX7_misplaced dX7_takeOwn_9 kd_1 rfl (Nat.le_of_ble_eq_true rfl) rfl (by decide) (t_X7_misplaced (Cx.ok C) h) (fun r6 M5 h => ?_)
    obtain ⟨g7, h⟩ := h
    exact g_retz C hR dX7_takeOwn_12 g7 h
set_option maxRecDepth 20000 in
theorem t_X8_clear {l : Launch} {Y : YT} (hY : YOK Y) {o : Int} {M : Mem} {Q : Mem → Prop} (h : m_X8_clear o M Q) : Ctr l Y yX8_clear cX8_clear 1 none 1 [vR Y o] M (PQv Y Q) := by
  unfold m_X8_clear at h
  obtain ⟨hk_o, h⟩ := h
  refine ctr_ofF hY (by decide +kernel) (Nat.le_of_ble_eq_true rfl) [(0, vR Y o)] rfl (fun X hX C hR => ?_)
  refine g_aload_n (q := 0) C dX8_clear_0 rfl rfl ?_
  refine g_iconst C dX8_clear_1 rfl ?_
  obtain ⟨M1, e_M1⟩ : ∃ z : Mem, z = up M o 0 0 := ⟨_, rfl⟩
  have h := h M1 e_M1
  refine g_putI C fX8_47 pX8_47 dX8_clear_2 hk_o e_M1 ?_
  refine g_aload_n (q := 0) C dX8_clear_5 rfl rfl ?_
  refine g_iconst C dX8_clear_6 rfl ?_
  obtain ⟨M2, e_M2⟩ : ∃ z : Mem, z = up M1 o 2 0 := ⟨_, rfl⟩
  have h := h M2 e_M2
  refine g_putI C fX8_51 pX8_51 dX8_clear_7 hk_o e_M2 ?_
  refine g_aload_n (q := 0) C dX8_clear_10 rfl rfl ?_
  refine g_iconst C dX8_clear_11 rfl ?_
  obtain ⟨M3, e_M3⟩ : ∃ z : Mem, z = up M2 o 5 0 := ⟨_, rfl⟩
  have h := h M3 e_M3
  refine g_putI C fX8_54 pX8_54 dX8_clear_12 hk_o e_M3 ?_
  refine g_aload_n (q := 0) C dX8_clear_15 rfl rfl ?_
  refine g_iconst C dX8_clear_16 rfl ?_
  obtain ⟨M4, e_M4⟩ : ∃ z : Mem, z = up M3 o 9 0 := ⟨_, rfl⟩
  have h := h M4 e_M4
  refine g_putI C fX8_57 pX8_57 dX8_clear_17 hk_o e_M4 ?_
  refine g_aload_n (q := 0) C dX8_clear_20 rfl rfl ?_
  refine g_getS (v := o + 7) C fX8_33 dX8_clear_21 hk_o rfl ?_
  refine g_iconst C dX8_clear_24 rfl ?_
  obtain ⟨M5, e_M5⟩ : ∃ z : Mem, z = up M4 (o + 7) 0 0 := ⟨_, rfl⟩
  have h := h M5 e_M5
  refine g_putI C fX8_60 pX8_60 dX8_clear_25 (sub_8_10 hk_o) e_M5 ?_
  refine g_aload_n (q := 0) C dX8_clear_28 rfl rfl ?_
  refine g_iconst C dX8_clear_29 rfl ?_
  obtain ⟨M6, e_M6⟩ : ∃ z : Mem, z = up M5 o 11 0 := ⟨_, rfl⟩
  have h := h M6 e_M6
  refine g_putI C fX8_63 pX8_63 dX8_clear_30 hk_o e_M6 ?_
  refine g_aload_n (q := 0) C dX8_clear_33 rfl rfl ?_
  refine g_getS (v := o + 11) C fX8_40 dX8_clear_34 hk_o rfl ?_
  refine g_iconst C dX8_clear_37 rfl ?_
  obtain ⟨M7, e_M7⟩ : ∃ z : Mem, z = up M6 (o + 11) 2 0 := ⟨_, rfl⟩
  have h := h M7 e_M7
  refine g_putI C fX8_66 pX8_66 dX8_clear_38 (sub_8_12 hk_o) e_M7 ?_
  refine g_aload_n (q := 0) C dX8_clear_41 rfl rfl ?_
  refine g_getS (v := o + 14) C fX8_44 dX8_clear_42 hk_o rfl ?_
  refine g_iconst C dX8_clear_45 rfl ?_
  obtain ⟨M8, e_M8⟩ : ∃ z : Mem, z = up M7 (o + 14) 2 0 := ⟨_, rfl⟩
  have h := h M8 e_M8
  refine g_putI C fX8_66 pX8_66 dX8_clear_46 (sub_8_13 hk_o) e_M8 ?_
  exact g_retv C hR dX8_clear_49 h
set_option maxRecDepth 20000 in
theorem w_X8_addPlace_J44 {Y : YT} {X : CX} (C : Cx Y X cX8_addPlace 2 RX8 1) {Q : Mem → Prop} (hR : Rt Y X none (PQv Y Q))   {M : Mem}  (h : m_X8_addPlace_J44  Q  M) : G Y X 2 44 [] ([]) M := by
  unfold m_X8_addPlace_J44 at h
  exact g_retv C hR dX8_addPlace_44 h
set_option maxRecDepth 20000 in
theorem t_X8_addPlace {l : Launch} {Y : YT} (hY : YOK Y) {o : Int} {a0 : Int} {M : Mem} {Q : Mem → Prop} (h : m_X8_addPlace o a0 M Q) : Ctr l Y yX8_addPlace cX8_addPlace 2 none 1 [vR Y o, vI a0] M (PQv Y Q) := by
  unfold m_X8_addPlace at h
  obtain ⟨hk_o, h⟩ := h
  refine ctr_ofF hY (by decide +kernel) (Nat.le_of_ble_eq_true rfl) [(0, vR Y o), (1, vI a0)] rfl (fun X hX C hR => ?_)
  refine g_aload_n (q := 0) C dX8_addPlace_0 rfl rfl ?_
  refine g_getI C fX8_47 (by decide) dX8_addPlace_1 hk_o ?_
  refine g_bipush (v := 7) C dX8_addPlace_4 (by decide +kernel) ?_
  obtain ⟨g1, h⟩ := h
  obtain ⟨ht, hf⟩ := h
  refine g_icmp_ge (tgt := 44) C dX8_addPlace_6 (by decide) g1 (by decide) (fun c => ?_) (fun c => ?_)
  · have h := ht c
    refine G.sub [] rfl ?_
    exact w_X8_addPlace_J44 C hR  h
  · have h := hf c
    refine g_aload_n (q := 0) C dX8_addPlace_9 rfl rfl ?_
    refine g_getS (v := o + 1) C fX8_9 dX8_addPlace_10 hk_o rfl ?_
    refine g_aload_n (q := 0) C dX8_addPlace_13 rfl rfl ?_
    refine g_getI C fX8_47 (by decide) dX8_addPlace_14 hk_o ?_
    refine g_iload_n (q := 1) C dX8_addPlace_17 rfl rfl ?_
    obtain ⟨g2, h⟩ := h
    obtain ⟨M3, e_M3⟩ : ∃ z : Mem, z = up M (o + 1) (M o 0) a0 := ⟨_, rfl⟩
    have h := h M3 e_M3
    refine g_iast C dX8_addPlace_18 (sub_8_1 hk_o).1 (sub_8_1 hk_o).2 g2 e_M3 ?_
    refine g_aload_n (q := 0) C dX8_addPlace_19 rfl rfl ?_
    refine g_getS (v := o + 2) C fX8_15 dX8_addPlace_20 hk_o rfl ?_
    refine g_aload_n (q := 0) C dX8_addPlace_23 rfl rfl ?_
    refine g_getI C fX8_47 (by decide) dX8_addPlace_24 hk_o ?_
    refine g_iconst C dX8_addPlace_27 rfl ?_
    refine g_aload_n (q := 0) C dX8_addPlace_28 rfl rfl ?_
    refine g_getI C fX8_47 (by decide) dX8_addPlace_29 hk_o ?_
    refine g_ishl C dX8_addPlace_32 ?_
    obtain ⟨g4, h⟩ := h
    obtain ⟨M5, e_M5⟩ : ∃ z : Mem, z = up M3 (o + 2) (M3 o 0) (zshl 1 (M3 o 0)) := ⟨_, rfl⟩
    have h := h M5 e_M5
    refine g_iast C dX8_addPlace_33 (sub_8_3 hk_o).1 (sub_8_3 hk_o).2 g4 e_M5 ?_
    refine g_aload_n (q := 0) C dX8_addPlace_34 rfl rfl ?_
    refine g_dup C dX8_addPlace_35 rfl ?_
    refine g_getI C fX8_47 (by decide) dX8_addPlace_36 hk_o ?_
    refine g_iconst C dX8_addPlace_39 rfl ?_
    refine g_iadd C dX8_addPlace_40 ?_
    obtain ⟨M6, e_M6⟩ : ∃ z : Mem, z = up M5 o 0 ((M5 o 0) + 1) := ⟨_, rfl⟩
    have h := h M6 e_M6
    refine g_putI C fX8_47 pX8_47 dX8_addPlace_41 hk_o e_M6 ?_
    refine G.sub [] rfl ?_
    exact w_X8_addPlace_J44 C hR  h
set_option maxRecDepth 20000 in
theorem t_X8_addRoad {l : Launch} {Y : YT} (hY : YOK Y) {o : Int} {a0 : Int} {a1 : Int} {M : Mem} {Q : Mem → Prop} (h : m_X8_addRoad o a0 a1 M Q) : Ctr l Y yX8_addRoad cX8_addRoad 3 none 1 [vR Y o, vI a0, vI a1] M (PQv Y Q) := by
  unfold m_X8_addRoad at h
  obtain ⟨hk_o, h⟩ := h
  refine ctr_ofF hY (by decide +kernel) (Nat.le_of_ble_eq_true rfl) [(0, vR Y o), (1, vI a0), (2, vI a1)] rfl (fun X hX C hR => ?_)
  refine g_aload_n (q := 0) C dX8_addRoad_0 rfl rfl ?_
  refine g_getS (v := o + 2) C fX8_15 dX8_addRoad_1 hk_o rfl ?_
  refine g_iload_n (q := 1) C dX8_addRoad_4 rfl rfl ?_
  refine g_dup2 C dX8_addRoad_5 rfl rfl ?_
  obtain ⟨g1, h⟩ := h
  refine g_iald C dX8_addRoad_6 (sub_8_3 hk_o).1 (sub_8_3 hk_o).2 g1 ?_
  refine g_iconst C dX8_addRoad_7 rfl ?_
  refine g_iload_n (q := 2) C dX8_addRoad_8 rfl rfl ?_
  refine g_ishl C dX8_addRoad_9 ?_
  refine g_ior C dX8_addRoad_10 ?_
  obtain ⟨g2, h⟩ := h
  obtain ⟨M3, e_M3⟩ : ∃ z : Mem, z = up M (o + 2) a0 (zor (M (o + 2) a0) (zshl 1 a1)) := ⟨_, rfl⟩
  have h := h M3 e_M3
  refine g_iast C dX8_addRoad_11 (sub_8_3 hk_o).1 (sub_8_3 hk_o).2 g2 e_M3 ?_
  refine g_aload_n (q := 0) C dX8_addRoad_12 rfl rfl ?_
  refine g_getS (v := o + 2) C fX8_15 dX8_addRoad_13 hk_o rfl ?_
  refine g_iload_n (q := 2) C dX8_addRoad_16 rfl rfl ?_
  refine g_dup2 C dX8_addRoad_17 rfl rfl ?_
  obtain ⟨g4, h⟩ := h
  refine g_iald C dX8_addRoad_18 (sub_8_3 hk_o).1 (sub_8_3 hk_o).2 g4 ?_
  refine g_iconst C dX8_addRoad_19 rfl ?_
  refine g_iload_n (q := 1) C dX8_addRoad_20 rfl rfl ?_
  refine g_ishl C dX8_addRoad_21 ?_
  refine g_ior C dX8_addRoad_22 ?_
  obtain ⟨g5, h⟩ := h
  obtain ⟨M6, e_M6⟩ : ∃ z : Mem, z = up M3 (o + 2) a1 (zor (M3 (o + 2) a1) (zshl 1 a0)) := ⟨_, rfl⟩
  have h := h M6 e_M6
  refine g_iast C dX8_addRoad_23 (sub_8_3 hk_o).1 (sub_8_3 hk_o).2 g5 e_M6 ?_
  refine g_aload_n (q := 0) C dX8_addRoad_24 rfl rfl ?_
  refine g_dup C dX8_addRoad_25 rfl ?_
  refine g_getI C fX8_51 (by decide) dX8_addRoad_26 hk_o ?_
  refine g_iconst C dX8_addRoad_29 rfl ?_
  refine g_iadd C dX8_addRoad_30 ?_
  obtain ⟨M7, e_M7⟩ : ∃ z : Mem, z = up M6 o 2 ((M6 o 2) + 1) := ⟨_, rfl⟩
  have h := h M7 e_M7
  refine g_putI C fX8_51 pX8_51 dX8_addRoad_31 hk_o e_M7 ?_
  exact g_retv C hR dX8_addRoad_34 h
set_option maxRecDepth 20000 in
theorem w_X8_addPerson_J49 {Y : YT} {X : CX} (C : Cx Y X cX8_addPerson 4 RX8 1) {Q : Mem → Prop} (hR : Rt Y X none (PQv Y Q))   {M : Mem}  (h : m_X8_addPerson_J49  Q  M) : G Y X 4 49 [] ([]) M := by
  unfold m_X8_addPerson_J49 at h
  exact g_retv C hR dX8_addPerson_49 h
set_option maxRecDepth 20000 in
theorem t_X8_addPerson {l : Launch} {Y : YT} (hY : YOK Y) {o : Int} {a0 : Int} {a1 : Int} {a2 : Int} {M : Mem} {Q : Mem → Prop} (h : m_X8_addPerson o a0 a1 a2 M Q) : Ctr l Y yX8_addPerson cX8_addPerson 4 none 1 [vR Y o, vI a0, vI a1, vI a2] M (PQv Y Q) := by
  unfold m_X8_addPerson at h
  obtain ⟨hk_o, h⟩ := h
  refine ctr_ofF hY (by decide +kernel) (Nat.le_of_ble_eq_true rfl) [(0, vR Y o), (1, vI a0), (2, vI a1), (3, vI a2)] rfl (fun X hX C hR => ?_)
  refine g_aload_n (q := 0) C dX8_addPerson_0 rfl rfl ?_
  refine g_getI C fX8_54 (by decide) dX8_addPerson_1 hk_o ?_
  refine g_bipush (v := 6) C dX8_addPerson_4 (by decide +kernel) ?_
  obtain ⟨g1, h⟩ := h
  obtain ⟨ht, hf⟩ := h
  refine g_icmp_ge (tgt := 49) C dX8_addPerson_6 (by decide) g1 (by decide) (fun c => ?_) (fun c => ?_)
  · have h := ht c
    refine G.sub [] rfl ?_
    exact w_X8_addPerson_J49 C hR  h
  · have h := hf c
    refine g_aload_n (q := 0) C dX8_addPerson_9 rfl rfl ?_
    refine g_getS (v := o + 4) C fX8_21 dX8_addPerson_10 hk_o rfl ?_
    refine g_aload_n (q := 0) C dX8_addPerson_13 rfl rfl ?_
    refine g_getI C fX8_54 (by decide) dX8_addPerson_14 hk_o ?_
    refine g_iload_n (q := 1) C dX8_addPerson_17 rfl rfl ?_
    obtain ⟨g2, h⟩ := h
    obtain ⟨M3, e_M3⟩ : ∃ z : Mem, z = up M (o + 4) (M o 5) a0 := ⟨_, rfl⟩
    have h := h M3 e_M3
    refine g_iast C dX8_addPerson_18 (sub_8_6 hk_o).1 (sub_8_6 hk_o).2 g2 e_M3 ?_
    refine g_aload_n (q := 0) C dX8_addPerson_19 rfl rfl ?_
    refine g_getS (v := o + 5) C fX8_24 dX8_addPerson_20 hk_o rfl ?_
    refine g_aload_n (q := 0) C dX8_addPerson_23 rfl rfl ?_
    refine g_getI C fX8_54 (by decide) dX8_addPerson_24 hk_o ?_
    refine g_iload_n (q := 2) C dX8_addPerson_27 rfl rfl ?_
    obtain ⟨g4, h⟩ := h
    obtain ⟨M5, e_M5⟩ : ∃ z : Mem, z = up M3 (o + 5) (M3 o 5) a1 := ⟨_, rfl⟩
    have h := h M5 e_M5
    refine g_iast C dX8_addPerson_28 (sub_8_7 hk_o).1 (sub_8_7 hk_o).2 g4 e_M5 ?_
    refine g_aload_n (q := 0) C dX8_addPerson_29 rfl rfl ?_
    refine g_getS (v := o + 6) C fX8_27 dX8_addPerson_30 hk_o rfl ?_
    refine g_aload_n (q := 0) C dX8_addPerson_33 rfl rfl ?_
    refine g_getI C fX8_54 (by decide) dX8_addPerson_34 hk_o ?_
    refine g_iload_n (q := 3) C dX8_addPerson_37 rfl rfl ?_
    obtain ⟨g6, h⟩ := h
    obtain ⟨M7, e_M7⟩ : ∃ z : Mem, z = up M5 (o + 6) (M5 o 5) a2 := ⟨_, rfl⟩
    have h := h M7 e_M7
    refine g_iast C dX8_addPerson_38 (sub_8_8 hk_o).1 (sub_8_8 hk_o).2 g6 e_M7 ?_
    refine g_aload_n (q := 0) C dX8_addPerson_39 rfl rfl ?_
    refine g_dup C dX8_addPerson_40 rfl ?_
    refine g_getI C fX8_54 (by decide) dX8_addPerson_41 hk_o ?_
    refine g_iconst C dX8_addPerson_44 rfl ?_
    refine g_iadd C dX8_addPerson_45 ?_
    obtain ⟨M8, e_M8⟩ : ∃ z : Mem, z = up M7 o 5 ((M7 o 5) + 1) := ⟨_, rfl⟩
    have h := h M8 e_M8
    refine g_putI C fX8_54 pX8_54 dX8_addPerson_46 hk_o e_M8 ?_
    refine G.sub [] rfl ?_
    exact w_X8_addPerson_J49 C hR  h
set_option maxRecDepth 20000 in
theorem w_X8_indexIn_L2 {Y : YT} {X : CX} (C : Cx Y X cX8_indexIn 4 RX8 1) {Q : Int → Mem → Prop} (hR : Rt Y X (some .int) (PQi Y Q)) {v0 : Int} {v1 : Int} {v2 : Int}  (hk_v0 : kd v0 = 20): ∀ (f : Nat) (v3 : Int) (M : Mem), m_X8_indexIn_L2  Q v0 v1 v2 f v3 M → G Y X 4 2 [(0, vR Y v0), (1, vI v1), (2, vI v2), (3, vI v3)] ([]) M := by
  intro f
  induction f with
  | zero =>
    intro v3 M h
    exact (show False from h).elim
  | succ f ih =>
    intro v3 M h
    unfold m_X8_indexIn_L2 at h
    refine g_iload_n (q := 3) C dX8_indexIn_2 rfl rfl ?_
    refine g_iload_n (q := 1) C dX8_indexIn_3 rfl rfl ?_
    obtain ⟨g1, h⟩ := h
    obtain ⟨g2, h⟩ := h
    obtain ⟨ht, hf⟩ := h
    refine g_icmp_ge (tgt := 22) C dX8_indexIn_4 (by decide) g1 g2 (fun c => ?_) (fun c => ?_)
    · have h := ht c
      refine g_iconst C dX8_indexIn_22 rfl ?_
      exact g_reti C hR dX8_indexIn_23 h
    · have h := hf c
      refine g_aload_n (q := 0) C dX8_indexIn_7 rfl rfl ?_
      refine g_iload_n (q := 3) C dX8_indexIn_8 rfl rfl ?_
      obtain ⟨g3, h⟩ := h
      refine g_iald C dX8_indexIn_9 hk_v0 rfl g3 ?_
      refine g_iload_n (q := 2) C dX8_indexIn_10 rfl rfl ?_
      obtain ⟨g4, h⟩ := h
      obtain ⟨g5, h⟩ := h
      obtain ⟨ht, hf⟩ := h
      refine g_icmp_ne (tgt := 16) C dX8_indexIn_11 (by decide) g4 g5 (fun c => ?_) (fun c => ?_)
      · have h := hf c
        refine g_iinc (q := 3) (v := v3 + 1) (lv' := [(3, vI (v3 + 1)), (0, vR Y v0), (1, vI v1), (2, vI v2)]) C dX8_indexIn_16 rfl rfl (by decide) rfl ?_
        refine g_goto (tgt := 2) C dX8_indexIn_19 (by decide) ?_
        refine G.sub [1, 2, 3, 0] rfl ?_
        exact ih _ _ h
      · have h := ht c
        refine g_iload_n (q := 3) C dX8_indexIn_14 rfl rfl ?_
        exact g_reti C hR dX8_indexIn_15 h
set_option maxRecDepth 20000 in
theorem t_X8_indexIn {l : Launch} {Y : YT} (hY : YOK Y) {a0 : Int} {a1 : Int} {a2 : Int} {M : Mem} {Q : Int → Mem → Prop} (h : m_X8_indexIn a0 a1 a2 M Q) : Ctr l Y yX8_indexIn cX8_indexIn 4 (some .int) 1 [vR Y a0, vI a1, vI a2] M (PQi Y Q) := by
  unfold m_X8_indexIn at h
  obtain ⟨hk_a0, h⟩ := h
  refine ctr_ofF hY (by decide +kernel) (Nat.le_of_ble_eq_true rfl) [(0, vR Y a0), (1, vI a1), (2, vI a2)] rfl (fun X hX C hR => ?_)
  refine g_iconst C dX8_indexIn_0 rfl ?_
  refine g_istore_n (lv' := [(3, vI 0), (0, vR Y a0), (1, vI a1), (2, vI a2)]) C dX8_indexIn_1 rfl (by decide) rfl ?_
  obtain ⟨f0, h⟩ := h
  refine G.sub [1, 2, 3, 0] rfl ?_
  exact w_X8_indexIn_L2 C hR hk_a0 f0 _ _ h
set_option maxRecDepth 20000 in
theorem t_X8_placeOf {l : Launch} {Y : YT} (hY : YOK Y) {o : Int} {a0 : Int} {M : Mem} {Q : Int → Mem → Prop} (h : m_X8_placeOf o a0 M Q) : Ctr l Y yX8_placeOf cX8_placeOf 2 (some .int) 2 [vR Y o, vI a0] M (PQi Y Q) := by
  unfold m_X8_placeOf at h
  obtain ⟨hk_o, h⟩ := h
  refine ctr_ofF hY (by decide +kernel) (Nat.le_of_ble_eq_true rfl) [(0, vR Y o), (1, vI a0)] rfl (fun X hX C hR => ?_)
  refine g_aload_n (q := 0) C dX8_placeOf_0 rfl rfl ?_
  refine g_getS (v := o + 1) C fX8_9 dX8_placeOf_1 hk_o rfl ?_
  refine g_aload_n (q := 0) C dX8_placeOf_4 rfl rfl ?_
  refine g_getI C fX8_47 (by decide) dX8_placeOf_5 hk_o ?_
  refine g_iload_n (q := 1) C dX8_placeOf_8 rfl rfl ?_
  refine g_cSi (As := [vR Y (o + 1), vI (M o 0), vI a0]) C clX8_69 clsX8_indexIn dX8_placeOf_9 rfl (Nat.le_of_ble_eq_true rfl) rfl (by decide) (t_X8_indexIn (Cx.ok C) h) (fun r2 M1 h => ?_)
  exact g_reti C hR dX8_placeOf_12 h
set_option maxRecDepth 20000 in
theorem t_X8_personOf {l : Launch} {Y : YT} (hY : YOK Y) {o : Int} {a0 : Int} {M : Mem} {Q : Int → Mem → Prop} (h : m_X8_personOf o a0 M Q) : Ctr l Y yX8_personOf cX8_personOf 2 (some .int) 2 [vR Y o, vI a0] M (PQi Y Q) := by
  unfold m_X8_personOf at h
  obtain ⟨hk_o, h⟩ := h
  refine ctr_ofF hY (by decide +kernel) (Nat.le_of_ble_eq_true rfl) [(0, vR Y o), (1, vI a0)] rfl (fun X hX C hR => ?_)
  refine g_aload_n (q := 0) C dX8_personOf_0 rfl rfl ?_
  refine g_getS (v := o + 4) C fX8_21 dX8_personOf_1 hk_o rfl ?_
  refine g_aload_n (q := 0) C dX8_personOf_4 rfl rfl ?_
  refine g_getI C fX8_54 (by decide) dX8_personOf_5 hk_o ?_
  refine g_iload_n (q := 1) C dX8_personOf_8 rfl rfl ?_
  refine g_cSi (As := [vR Y (o + 4), vI (M o 5), vI a0]) C clX8_69 clsX8_indexIn dX8_personOf_9 rfl (Nat.le_of_ble_eq_true rfl) rfl (by decide) (t_X8_indexIn (Cx.ok C) h) (fun r2 M1 h => ?_)
  exact g_reti C hR dX8_personOf_12 h
set_option maxRecDepth 20000 in
theorem w_X8_reaches_J19 {Y : YT} {X : CX} (C : Cx Y X cX8_reaches 3 RX8 1) {Q : Int → Mem → Prop} (hR : Rt Y X (some .boolean) (PQi Y Q)) {s0 : Int}  {M : Mem}  (h : m_X8_reaches_J19  Q s0 M) : G Y X 3 19 [] ((vI s0) :: []) M := by
  unfold m_X8_reaches_J19 at h
  obtain ⟨g1, h⟩ := h
  exact g_retz C hR dX8_reaches_19 g1 h
set_option maxRecDepth 20000 in
theorem t_X8_reaches {l : Launch} {Y : YT} (hY : YOK Y) {o : Int} {a0 : Int} {a1 : Int} {M : Mem} {Q : Int → Mem → Prop} (h : m_X8_reaches o a0 a1 M Q) : Ctr l Y yX8_reaches cX8_reaches 3 (some .boolean) 1 [vR Y o, vI a0, vI a1] M (PQi Y Q) := by
  unfold m_X8_reaches at h
  obtain ⟨hk_o, h⟩ := h
  refine ctr_ofF hY (by decide +kernel) (Nat.le_of_ble_eq_true rfl) [(0, vR Y o), (1, vI a0), (2, vI a1)] rfl (fun X hX C hR => ?_)
  refine g_aload_n (q := 0) C dX8_reaches_0 rfl rfl ?_
  refine g_getS (v := o + 2) C fX8_15 dX8_reaches_1 hk_o rfl ?_
  refine g_iload_n (q := 1) C dX8_reaches_4 rfl rfl ?_
  obtain ⟨g2, h⟩ := h
  refine g_iald C dX8_reaches_5 (sub_8_3 hk_o).1 (sub_8_3 hk_o).2 g2 ?_
  refine g_iload_n (q := 2) C dX8_reaches_6 rfl rfl ?_
  refine g_ishr C dX8_reaches_7 ?_
  refine g_iconst C dX8_reaches_8 rfl ?_
  refine g_iand C dX8_reaches_9 ?_
  refine g_iconst C dX8_reaches_10 rfl ?_
  obtain ⟨g3, h⟩ := h
  obtain ⟨ht, hf⟩ := h
  refine g_icmp_ne (tgt := 18) C dX8_reaches_11 (by decide) g3 (by decide) (fun c => ?_) (fun c => ?_)
  · have h := hf c
    refine g_iconst C dX8_reaches_18 rfl ?_
    refine G.sub [] rfl ?_
    exact w_X8_reaches_J19 C hR  h
  · have h := ht c
    refine g_iconst C dX8_reaches_14 rfl ?_
    refine g_goto (tgt := 19) C dX8_reaches_15 (by decide) ?_
    refine G.sub [] rfl ?_
    exact w_X8_reaches_J19 C hR  h
set_option maxRecDepth 20000 in
theorem t_X8_roadsBetween {l : Launch} {Y : YT} (hY : YOK Y) {o : Int} {a0 : Int} {a1 : Int} {M : Mem} {Q : Int → Mem → Prop} (h : m_X8_roadsBetween o a0 a1 M Q) : Ctr l Y yX8_roadsBetween cX8_roadsBetween 3 (some .int) 1 [vR Y o, vI a0, vI a1] M (PQi Y Q) := by
  unfold m_X8_roadsBetween at h
  obtain ⟨hk_o, h⟩ := h
  refine ctr_ofF hY (by decide +kernel) (Nat.le_of_ble_eq_true rfl) [(0, vR Y o), (1, vI a0), (2, vI a1)] rfl (fun X hX C hR => ?_)
  refine g_aload_n (q := 0) C dX8_roadsBetween_0 rfl rfl ?_
  refine g_getS (v := o + 3) C fX8_18 dX8_roadsBetween_1 hk_o rfl ?_
  refine g_bipush (v := 7) C dX8_roadsBetween_4 (by decide +kernel) ?_
  refine g_iload_n (q := 1) C dX8_roadsBetween_6 rfl rfl ?_
  refine g_imul C dX8_roadsBetween_7 ?_
  refine g_iload_n (q := 2) C dX8_roadsBetween_8 rfl rfl ?_
  refine g_iadd C dX8_roadsBetween_9 ?_
  obtain ⟨g1, h⟩ := h
  refine g_iald C dX8_roadsBetween_10 (sub_8_4 hk_o).1 (sub_8_4 hk_o).2 g1 ?_
  exact g_reti C hR dX8_roadsBetween_11 h
set_option maxRecDepth 20000 in
theorem w_X8_measureFrom_J71 {Y : YT} {X : CX} (C : Cx Y X cX8_measureFrom 7 RX8 1) {Q : Mem → Prop} (hR : Rt Y X none (PQv Y Q)) {v0 : Int} {v1 : Int} {v2 : Int} {v3 : Int} {v4 : Int} {v5 : Int} {v6 : Int} {k9 : Int → Int → Int → Mem → Prop} (hk9 : ∀ (v2 : Int) (v3 : Int) (v4 : Int)  (M : Mem), k9 v2 v3 v4 M → G Y X 7 9 [(0, vR Y v0), (1, vI v1), (2, vI v2), (3, vI v3), (4, vI v4)] ([]) M) {k26 : Int → Int → Mem → Prop} (hk26 : ∀ (v5 : Int) (v6 : Int)  (M : Mem), k26 v5 v6 M → G Y X 7 26 [(0, vR Y v0), (1, vI v1), (2, vI v2), (3, vI v3), (4, vI v4), (5, vI v5), (6, vI v6)] ([]) M) {M : Mem} (hk_v0 : kd v0 = 8) (h : m_X8_measureFrom_J71 k9 k26 Q v0 v1 v2 v3 v4 v5 v6 M) : G Y X 7 71 [(0, vR Y v0), (1, vI v1), (2, vI v2), (3, vI v3), (4, vI v4), (5, vI v5), (6, vI v6)] ([]) M := by
  unfold m_X8_measureFrom_J71 at h
  refine g_iinc (q := 6) (v := v6 + 1) (lv' := [(6, vI (v6 + 1)), (0, vR Y v0), (1, vI v1), (2, vI v2), (3, vI v3), (4, vI v4), (5, vI v5)]) C dX8_measureFrom_71 rfl rfl (by decide) rfl ?_
  refine g_goto (tgt := 26) C dX8_measureFrom_74 (by decide) ?_
  refine G.sub [1, 2, 3, 4, 5, 6, 0] rfl ?_
  exact hk26 _ _ _ h
set_option maxRecDepth 20000 in
theorem w_X8_measureFrom_L26 {Y : YT} {X : CX} (C : Cx Y X cX8_measureFrom 7 RX8 1) {Q : Mem → Prop} (hR : Rt Y X none (PQv Y Q)) {v0 : Int} {v1 : Int} {v2 : Int} {v3 : Int} {v4 : Int} {k9 : Int → Int → Int → Mem → Prop} (hk9 : ∀ (v2 : Int) (v3 : Int) (v4 : Int)  (M : Mem), k9 v2 v3 v4 M → G Y X 7 9 [(0, vR Y v0), (1, vI v1), (2, vI v2), (3, vI v3), (4, vI v4)] ([]) M) (hk_v0 : kd v0 = 8): ∀ (f : Nat) (v5 : Int) (v6 : Int) (M : Mem), m_X8_measureFrom_L26 k9 Q v0 v1 v2 v3 v4 f v5 v6 M → G Y X 7 26 [(0, vR Y v0), (1, vI v1), (2, vI v2), (3, vI v3), (4, vI v4), (5, vI v5), (6, vI v6)] ([]) M := by
  intro f
  induction f with
  | zero =>
    intro v5 v6 M h
    exact (show False from h).elim
  | succ f ih =>
    intro v5 v6 M h
    unfold m_X8_measureFrom_L26 at h
    refine g_iload (q := 6) C dX8_measureFrom_26 rfl ?_
    refine g_aload_n (q := 0) C dX8_measureFrom_28 rfl rfl ?_
    refine g_getI C fX8_47 (by decide) dX8_measureFrom_29 hk_v0 ?_
    obtain ⟨g1, h⟩ := h
    obtain ⟨g2, h⟩ := h
    obtain ⟨ht, hf⟩ := h
    refine g_icmp_ge (tgt := 77) C dX8_measureFrom_32 (by decide) g1 g2 (fun c => ?_) (fun c => ?_)
    · have h := ht c
      refine g_iload (q := 5) C dX8_measureFrom_77 rfl ?_
      refine g_iload_n (q := 2) C dX8_measureFrom_79 rfl rfl ?_
      refine g_iconst C dX8_measureFrom_80 rfl ?_
      refine g_ixor C dX8_measureFrom_81 ?_
      refine g_iand C dX8_measureFrom_82 ?_
      refine g_istore_n (lv' := [(3, vI (zand v5 (zxor v2 (-1)))), (0, vR Y v0), (1, vI v1), (2, vI v2), (4, vI v4), (5, vI v5), (6, vI v6)]) C dX8_measureFrom_83 rfl (by decide) rfl ?_
      refine g_iinc (q := 4) (v := v4 + 1) (lv' := [(4, vI (v4 + 1)), (3, vI (zand v5 (zxor v2 (-1)))), (0, vR Y v0), (1, vI v1), (2, vI v2), (5, vI v5), (6, vI v6)]) C dX8_measureFrom_84 rfl rfl (by decide) rfl ?_
      refine g_goto (tgt := 9) C dX8_measureFrom_87 (by decide) ?_
      refine G.sub [2, 3, 4, 1, 0] rfl ?_
      exact hk9 _ _ _ _ h
    · have h := hf c
      refine g_iload_n (q := 3) C dX8_measureFrom_35 rfl rfl ?_
      refine g_iload (q := 6) C dX8_measureFrom_36 rfl ?_
      refine g_ishr C dX8_measureFrom_38 ?_
      refine g_iconst C dX8_measureFrom_39 rfl ?_
      refine g_iand C dX8_measureFrom_40 ?_
      refine g_iconst C dX8_measureFrom_41 rfl ?_
      obtain ⟨g3, h⟩ := h
      obtain ⟨ht, hf⟩ := h
      refine g_icmp_ne (tgt := 71) C dX8_measureFrom_42 (by decide) g3 (by decide) (fun c => ?_) (fun c => ?_)
      · have h := hf c
        refine G.sub [0, 1, 2, 3, 4, 5, 6] rfl ?_
        exact w_X8_measureFrom_J71 C hR (hk9) (ih) hk_v0 h
      · have h := ht c
        refine g_aload_n (q := 0) C dX8_measureFrom_45 rfl rfl ?_
        refine g_getS (v := v0 + 3) C fX8_18 dX8_measureFrom_46 hk_v0 rfl ?_
        refine g_bipush (v := 7) C dX8_measureFrom_49 (by decide +kernel) ?_
        refine g_iload_n (q := 1) C dX8_measureFrom_51 rfl rfl ?_
        refine g_imul C dX8_measureFrom_52 ?_
        refine g_iload (q := 6) C dX8_measureFrom_53 rfl ?_
        refine g_iadd C dX8_measureFrom_55 ?_
        refine g_iload (q := 4) C dX8_measureFrom_56 rfl ?_
        obtain ⟨g4, h⟩ := h
        obtain ⟨M5, e_M5⟩ : ∃ z : Mem, z = up M (v0 + 3) ((7 * v1) + v6) v4 := ⟨_, rfl⟩
        have h := h M5 e_M5
        refine g_iast C dX8_measureFrom_58 (sub_8_4 hk_v0).1 (sub_8_4 hk_v0).2 g4 e_M5 ?_
        refine g_iload (q := 5) C dX8_measureFrom_59 rfl ?_
        refine g_aload_n (q := 0) C dX8_measureFrom_61 rfl rfl ?_
        refine g_getS (v := v0 + 2) C fX8_15 dX8_measureFrom_62 hk_v0 rfl ?_
        refine g_iload (q := 6) C dX8_measureFrom_65 rfl ?_
        obtain ⟨g6, h⟩ := h
        refine g_iald C dX8_measureFrom_67 (sub_8_3 hk_v0).1 (sub_8_3 hk_v0).2 g6 ?_
        refine g_ior C dX8_measureFrom_68 ?_
        refine g_istore (lv' := [(5, vI (zor v5 (M5 (v0 + 2) v6))), (0, vR Y v0), (1, vI v1), (2, vI v2), (3, vI v3), (4, vI v4), (6, vI v6)]) C dX8_measureFrom_69 (by decide) rfl ?_
        refine G.sub [1, 2, 3, 4, 5, 0, 6] rfl ?_
        exact w_X8_measureFrom_J71 C hR (hk9) (ih) hk_v0 h
set_option maxRecDepth 20000 in
theorem w_X8_measureFrom_L9 {Y : YT} {X : CX} (C : Cx Y X cX8_measureFrom 7 RX8 1) {Q : Mem → Prop} (hR : Rt Y X none (PQv Y Q)) {v0 : Int} {v1 : Int}  (hk_v0 : kd v0 = 8): ∀ (f : Nat) (v2 : Int) (v3 : Int) (v4 : Int) (M : Mem), m_X8_measureFrom_L9  Q v0 v1 f v2 v3 v4 M → G Y X 7 9 [(0, vR Y v0), (1, vI v1), (2, vI v2), (3, vI v3), (4, vI v4)] ([]) M := by
  intro f
  induction f with
  | zero =>
    intro v2 v3 v4 M h
    exact (show False from h).elim
  | succ f ih =>
    intro v2 v3 v4 M h
    unfold m_X8_measureFrom_L9 at h
    refine g_iload (q := 4) C dX8_measureFrom_9 rfl ?_
    refine g_bipush (v := 7) C dX8_measureFrom_11 (by decide +kernel) ?_
    obtain ⟨g7, h⟩ := h
    obtain ⟨ht, hf⟩ := h
    refine g_icmp_ge (tgt := 90) C dX8_measureFrom_13 (by decide) g7 (by decide) (fun c => ?_) (fun c => ?_)
    · have h := ht c
      exact g_retv C hR dX8_measureFrom_90 h
    · have h := hf c
      refine g_iload_n (q := 2) C dX8_measureFrom_16 rfl rfl ?_
      refine g_iload_n (q := 3) C dX8_measureFrom_17 rfl rfl ?_
      refine g_ior C dX8_measureFrom_18 ?_
      refine g_istore_n (lv' := [(2, vI (zor v2 v3)), (0, vR Y v0), (1, vI v1), (3, vI v3), (4, vI v4)]) C dX8_measureFrom_19 rfl (by decide) rfl ?_
      refine g_iconst C dX8_measureFrom_20 rfl ?_
      refine g_istore (lv' := [(5, vI 0), (2, vI (zor v2 v3)), (0, vR Y v0), (1, vI v1), (3, vI v3), (4, vI v4)]) C dX8_measureFrom_21 (by decide) rfl ?_
      refine g_iconst C dX8_measureFrom_23 rfl ?_
      refine g_istore (lv' := [(6, vI 0), (5, vI 0), (2, vI (zor v2 v3)), (0, vR Y v0), (1, vI v1), (3, vI v3), (4, vI v4)]) C dX8_measureFrom_24 (by decide) rfl ?_
      obtain ⟨f0, h⟩ := h
      refine G.sub [3, 4, 2, 5, 6, 1, 0] rfl ?_
      exact w_X8_measureFrom_L26 C hR (ih) hk_v0 f0 _ _ _ h
set_option maxRecDepth 20000 in
theorem t_X8_measureFrom {l : Launch} {Y : YT} (hY : YOK Y) {o : Int} {a0 : Int} {M : Mem} {Q : Mem → Prop} (h : m_X8_measureFrom o a0 M Q) : Ctr l Y yX8_measureFrom cX8_measureFrom 7 none 1 [vR Y o, vI a0] M (PQv Y Q) := by
  unfold m_X8_measureFrom at h
  obtain ⟨hk_o, h⟩ := h
  refine ctr_ofF hY (by decide +kernel) (Nat.le_of_ble_eq_true rfl) [(0, vR Y o), (1, vI a0)] rfl (fun X hX C hR => ?_)
  refine g_iconst C dX8_measureFrom_0 rfl ?_
  refine g_istore_n (lv' := [(2, vI 0), (0, vR Y o), (1, vI a0)]) C dX8_measureFrom_1 rfl (by decide) rfl ?_
  refine g_iconst C dX8_measureFrom_2 rfl ?_
  refine g_iload_n (q := 2) C dX8_measureFrom_3 rfl rfl ?_
  refine g_ishl C dX8_measureFrom_4 ?_
  refine g_istore_n (lv' := [(3, vI (zshl 1 a0)), (2, vI 0), (0, vR Y o), (1, vI a0)]) C dX8_measureFrom_5 rfl (by decide) rfl ?_
  refine g_iconst C dX8_measureFrom_6 rfl ?_
  refine g_istore (lv' := [(4, vI 0), (3, vI (zshl 1 a0)), (2, vI 0), (0, vR Y o), (1, vI a0)]) C dX8_measureFrom_7 (by decide) rfl ?_
  obtain ⟨f0, h⟩ := h
  refine G.sub [3, 4, 2, 1, 0] rfl ?_
  exact w_X8_measureFrom_L9 C hR hk_o f0 _ _ _ _ h
set_option maxRecDepth 20000 in
theorem w_X8_measure_L10 {Y : YT} {X : CX} (C : Cx Y X cX8_measure 2 RX8 2) {Q : Mem → Prop} (hR : Rt Y X none (PQv Y Q)) {v0 : Int}  (hk_v0 : kd v0 = 8): ∀ (f : Nat) (v1 : Int) (M : Mem), m_X8_measure_L10  Q v0 f v1 M → G Y X 2 10 [(0, vR Y v0), (1, vI v1)] ([]) M := by
  intro f
  induction f with
  | zero =>
    intro v1 M h
    exact (show False from h).elim
  | succ f ih =>
    intro v1 M h
    unfold m_X8_measure_L10 at h
    refine g_iload_n (q := 1) C dX8_measure_10 rfl rfl ?_
    refine g_aload_n (q := 0) C dX8_measure_11 rfl rfl ?_
    refine g_getI C fX8_47 (by decide) dX8_measure_12 hk_v0 ?_
    obtain ⟨g1, h⟩ := h
    obtain ⟨g2, h⟩ := h
    obtain ⟨ht, hf⟩ := h
    refine g_icmp_ge (tgt := 29) C dX8_measure_15 (by decide) g1 g2 (fun c => ?_) (fun c => ?_)
    · have h := ht c
      exact g_retv C hR dX8_measure_29 h
    · have h := hf c
      refine g_aload_n (q := 0) C dX8_measure_18 rfl rfl ?_
      refine g_iload_n (q := 1) C dX8_measure_19 rfl rfl ?_
      refine g_cVv (As := [vI v1]) C clX8_79 clvX8_measureFrom dX8_measure_20 hk_v0 rfl (Nat.le_of_ble_eq_true rfl) rfl (by decide) (t_X8_measureFrom (Cx.ok C) h) (fun M3 h => ?_)
      refine g_iinc (q := 1) (v := v1 + 1) (lv' := [(1, vI (v1 + 1)), (0, vR Y v0)]) C dX8_measure_23 rfl rfl (by decide) rfl ?_
      refine g_goto (tgt := 10) C dX8_measure_26 (by decide) ?_
      refine G.sub [1, 0] rfl ?_
      exact ih _ _ h
set_option maxRecDepth 20000 in
theorem t_X8_measure {l : Launch} {Y : YT} (hY : YOK Y) {o : Int} {M : Mem} {Q : Mem → Prop} (h : m_X8_measure o M Q) : Ctr l Y yX8_measure cX8_measure 2 none 2 [vR Y o] M (PQv Y Q) := by
  unfold m_X8_measure at h
  obtain ⟨hk_o, h⟩ := h
  refine ctr_ofF hY (by decide +kernel) (Nat.le_of_ble_eq_true rfl) [(0, vR Y o)] rfl (fun X hX C hR => ?_)
  refine g_aload_n (q := 0) C dX8_measure_0 rfl rfl ?_
  refine g_getS (v := o + 3) C fX8_18 dX8_measure_1 hk_o rfl ?_
  refine g_iconst C dX8_measure_4 rfl ?_
  refine g_cSv (As := [vR Y (o + 3), vI (-1)]) C clX8_73 clsJ7_fill_53178 dX8_measure_5 rfl (Nat.le_of_ble_eq_true rfl) rfl (by decide) (t_J7_fill_53178 (Cx.ok C) h) (fun M4 h => ?_)
  refine g_iconst C dX8_measure_8 rfl ?_
  refine g_istore_n (lv' := [(1, vI 0), (0, vR Y o)]) C dX8_measure_9 rfl (by decide) rfl ?_
  obtain ⟨f0, h⟩ := h
  refine G.sub [1, 0] rfl ?_
  exact w_X8_measure_L10 C hR hk_o f0 _ _ h
set_option maxRecDepth 20000 in
theorem t_X9_begins {l : Launch} {Y : YT} (hY : YOK Y) {a0 : Int} {a1 : Int} {M : Mem} {Q : Int → Mem → Prop} (h : m_X9_begins a0 a1 M Q) : Ctr l Y yX9_begins cX9_begins 3 (some .boolean) 4 [vR Y 4, vI a0, vI a1] M (PQi Y Q) := by
  unfold m_X9_begins at h
  refine ctr_ofF hY (by decide +kernel) (Nat.le_of_ble_eq_true rfl) [(0, vR Y 4), (1, vI a0), (2, vI a1)] rfl (fun X hX C hR => ?_)
  refine g_iload_n (q := 1) C dX9_begins_0 rfl rfl ?_
  refine g_iload_n (q := 2) C dX9_begins_1 rfl rfl ?_
  obtain ⟨g1, h⟩ := h
  obtain ⟨g2, h⟩ := h
  obtain ⟨ht, hf⟩ := h
  refine g_icmp_lt (tgt := 15) C dX9_begins_2 (by decide) g1 g2 (fun c => ?_) (fun c => ?_)
  · have h := ht c
    refine g_aload_n (q := 0) C dX9_begins_15 rfl rfl ?_
    refine g_getS (v := 1) C fX9_9 dX9_begins_16 kd_4 rfl ?_
    refine g_cVv (As := []) C clX9_126 clvX7_advance dX9_begins_19 kd_1 rfl (Nat.le_of_ble_eq_true rfl) rfl (by decide) (t_X7_advance (Cx.ok C) h) (fun M3 h => ?_)
    refine g_iconst C dX9_begins_22 rfl ?_
    exact g_retz C hR dX9_begins_23 (by decide) h
  · have h := hf c
    refine g_aload_n (q := 0) C dX9_begins_5 rfl rfl ?_
    refine g_getS (v := 1) C fX9_9 dX9_begins_6 kd_4 rfl ?_
    refine g_bipush (v := 6) C dX9_begins_9 (by decide +kernel) ?_
    refine g_cVi (As := [vI 6]) C clX9_53 clvX7_fail dX9_begins_11 kd_1 rfl (Nat.le_of_ble_eq_true rfl) rfl (by decide) (t_X7_fail (Cx.ok C) h) (fun r5 M4 h => ?_)
    obtain ⟨g6, h⟩ := h
    exact g_retz C hR dX9_begins_14 g6 h
set_option maxRecDepth 20000 in
theorem w_X9_newName_J59 {Y : YT} {X : CX} (C : Cx Y X cX9_newName 1 RX9 4) {Q : Int → Mem → Prop} (hR : Rt Y X (some .boolean) (PQi Y Q))   {M : Mem}  (h : m_X9_newName_J59  Q  M) : G Y X 1 59 [(0, vR Y 4)] ([]) M := by
  unfold m_X9_newName_J59 at h
  refine g_aload_n (q := 0) C dX9_newName_59 rfl rfl ?_
  refine g_getS (v := 1) C fX9_9 dX9_newName_60 kd_4 rfl ?_
  refine g_iconst C dX9_newName_63 rfl ?_
  refine g_cVi (As := [vI 2]) C clX9_53 clvX7_fail dX9_newName_64 kd_1 rfl (Nat.le_of_ble_eq_true rfl) rfl (by decide) (t_X7_fail (Cx.ok C) h) (fun r2 M1 h => ?_)
  obtain ⟨g3, h⟩ := h
  exact g_retz C hR dX9_newName_67 g3 h
set_option maxRecDepth 20000 in
theorem t_X9_newName {l : Launch} {Y : YT} (hY : YOK Y) {M : Mem} {Q : Int → Mem → Prop} (h : m_X9_newName  M Q) : Ctr l Y yX9_newName cX9_newName 1 (some .boolean) 4 [vR Y 4] M (PQi Y Q) := by
  unfold m_X9_newName at h
  refine ctr_ofF hY (by decide +kernel) (Nat.le_of_ble_eq_true rfl) [(0, vR Y 4)] rfl (fun X hX C hR => ?_)
  refine g_aload_n (q := 0) C dX9_newName_0 rfl rfl ?_
  refine g_getS (v := 1) C fX9_9 dX9_newName_1 kd_4 rfl ?_
  refine g_cVi (As := []) C clX9_149 clvX7_isName dX9_newName_4 kd_1 rfl (Nat.le_of_ble_eq_true rfl) rfl (by decide) (t_X7_isName (Cx.ok C) h) (fun r5 M4 h => ?_)
  obtain ⟨g6, h⟩ := h
  obtain ⟨ht, hf⟩ := h
  refine g_if_ne (tgt := 18) C dX9_newName_7 (by decide) g6 (fun c => ?_) (fun c => ?_)
  · have h := hf c
    refine g_aload_n (q := 0) C dX9_newName_18 rfl rfl ?_
    refine g_aload_n (q := 0) C dX9_newName_19 rfl rfl ?_
    refine g_getS (v := 1) C fX9_9 dX9_newName_20 kd_4 rfl ?_
    refine g_getI C fX9_152 (by decide) dX9_newName_23 kd_1 ?_
    obtain ⟨M7, e_M7⟩ : ∃ z : Mem, z = up M4 4 3 (M4 1 4) := ⟨_, rfl⟩
    have h := h M7 e_M7
    refine g_putI C fX9_113 pX9_113 dX9_newName_26 kd_4 e_M7 ?_
    refine g_aload_n (q := 0) C dX9_newName_29 rfl rfl ?_
    obtain ⟨g8, h⟩ := h
    refine g_getM C fX9_24 dX9_newName_30 kd_4 (kd_in g8 (by decide)).1 ?_
    refine g_aload_n (q := 0) C dX9_newName_33 rfl rfl ?_
    refine g_getI C fX9_113 (by decide) dX9_newName_34 kd_4 ?_
    refine g_cVi (As := [vI (M7 4 3)]) C clX9_180 clvX8_placeOf dX9_newName_37 g8 rfl (Nat.le_of_ble_eq_true rfl) rfl (by decide) (t_X8_placeOf (Cx.ok C) h) (fun r10 M9 h => ?_)
    refine g_iconst C dX9_newName_40 rfl ?_
    obtain ⟨g11, h⟩ := h
    obtain ⟨ht, hf⟩ := h
    refine g_icmp_ne (tgt := 59) C dX9_newName_41 (by decide) g11 (by decide) (fun c => ?_) (fun c => ?_)
    · have h := hf c
      refine G.sub [0] rfl ?_
      exact w_X9_newName_J59 C hR  h
    · have h := ht c
      refine g_aload_n (q := 0) C dX9_newName_44 rfl rfl ?_
      obtain ⟨g12, h⟩ := h
      refine g_getM C fX9_24 dX9_newName_45 kd_4 (kd_in g12 (by decide)).1 ?_
      refine g_aload_n (q := 0) C dX9_newName_48 rfl rfl ?_
      refine g_getI C fX9_113 (by decide) dX9_newName_49 kd_4 ?_
      refine g_cVi (As := [vI (M9 4 3)]) C clX9_155 clvX8_personOf dX9_newName_52 g12 rfl (Nat.le_of_ble_eq_true rfl) rfl (by decide) (t_X8_personOf (Cx.ok C) h) (fun r14 M13 h => ?_)
      refine g_iconst C dX9_newName_55 rfl ?_
      obtain ⟨g15, h⟩ := h
      obtain ⟨ht, hf⟩ := h
      refine g_icmp_eq (tgt := 68) C dX9_newName_56 (by decide) g15 (by decide) (fun c => ?_) (fun c => ?_)
      · have h := ht c
        refine g_aload_n (q := 0) C dX9_newName_68 rfl rfl ?_
        refine g_getS (v := 1) C fX9_9 dX9_newName_69 kd_4 rfl ?_
        refine g_cVv (As := []) C clX9_126 clvX7_advance dX9_newName_72 kd_1 rfl (Nat.le_of_ble_eq_true rfl) rfl (by decide) (t_X7_advance (Cx.ok C) h) (fun M16 h => ?_)
        refine g_iconst C dX9_newName_75 rfl ?_
        exact g_retz C hR dX9_newName_76 (by decide) h
      · have h := hf c
        refine G.sub [0] rfl ?_
        exact w_X9_newName_J59 C hR  h
  · have h := ht c
    refine g_aload_n (q := 0) C dX9_newName_10 rfl rfl ?_
    refine g_getS (v := 1) C fX9_9 dX9_newName_11 kd_4 rfl ?_
    refine g_cVi (As := []) C clX9_57 clvX7_misplaced dX9_newName_14 kd_1 rfl (Nat.le_of_ble_eq_true rfl) rfl (by decide) (t_X7_misplaced (Cx.ok C) h) (fun r18 M17 h => ?_)
    obtain ⟨g19, h⟩ := h
    exact g_retz C hR dX9_newName_17 g19 h
set_option maxRecDepth 20000 in
theorem w_X9_place_J23 {Y : YT} {X : CX} (C : Cx Y X cX9_place 1 RX9 5) {Q : Int → Mem → Prop} (hR : Rt Y X (some .boolean) (PQi Y Q))   {M : Mem}  (h : m_X9_place_J23  Q  M) : G Y X 1 23 [] ([]) M := by
  unfold m_X9_place_J23 at h
  refine g_iconst C dX9_place_23 rfl ?_
  exact g_retz C hR dX9_place_24 (by decide) h
set_option maxRecDepth 20000 in
theorem t_X9_place {l : Launch} {Y : YT} (hY : YOK Y) {M : Mem} {Q : Int → Mem → Prop} (h : m_X9_place  M Q) : Ctr l Y yX9_place cX9_place 1 (some .boolean) 5 [vR Y 4] M (PQi Y Q) := by
  unfold m_X9_place at h
  refine ctr_ofF hY (by decide +kernel) (Nat.le_of_ble_eq_true rfl) [(0, vR Y 4)] rfl (fun X hX C hR => ?_)
  refine g_aload_n (q := 0) C dX9_place_0 rfl rfl ?_
  refine g_aload_n (q := 0) C dX9_place_1 rfl rfl ?_
  obtain ⟨g1, h⟩ := h
  refine g_getM C fX9_24 dX9_place_2 kd_4 (kd_in g1 (by decide)).1 ?_
  refine g_getI C fX9_107 (by decide) dX9_place_5 g1 ?_
  refine g_bipush (v := 7) C dX9_place_8 (by decide +kernel) ?_
  refine g_cVi (As := [vI (M (M 4 2) 0), vI 7]) C clX9_91 clvX9_begins dX9_place_10 kd_4 rfl (Nat.le_of_ble_eq_true rfl) rfl (by decide) (t_X9_begins (Cx.ok C) h) (fun r3 M2 h => ?_)
  obtain ⟨g4, h⟩ := h
  obtain ⟨ht, hf⟩ := h
  refine g_if_eq (tgt := 23) C dX9_place_13 (by decide) g4 (fun c => ?_) (fun c => ?_)
  · have h := ht c
    refine G.sub [] rfl ?_
    exact w_X9_place_J23 C hR  h
  · have h := hf c
    refine g_aload_n (q := 0) C dX9_place_16 rfl rfl ?_
    refine g_cVi (As := []) C clX9_110 clvX9_newName dX9_place_17 kd_4 rfl (Nat.le_of_ble_eq_true rfl) rfl (by decide) (t_X9_newName (Cx.ok C) h) (fun r6 M5 h => ?_)
    obtain ⟨g7, h⟩ := h
    obtain ⟨ht, hf⟩ := h
    refine g_if_ne (tgt := 25) C dX9_place_20 (by decide) g7 (fun c => ?_) (fun c => ?_)
    · have h := hf c
      refine g_aload_n (q := 0) C dX9_place_25 rfl rfl ?_
      obtain ⟨g8, h⟩ := h
      refine g_getM C fX9_24 dX9_place_26 kd_4 (kd_in g8 (by decide)).1 ?_
      refine g_aload_n (q := 0) C dX9_place_29 rfl rfl ?_
      refine g_getI C fX9_113 (by decide) dX9_place_30 kd_4 ?_
      refine g_cVv (As := [vI (M5 4 3)]) C clX9_116 clvX8_addPlace dX9_place_33 g8 rfl (Nat.le_of_ble_eq_true rfl) rfl (by decide) (t_X8_addPlace (Cx.ok C) h) (fun M9 h => ?_)
      refine g_iconst C dX9_place_36 rfl ?_
      exact g_retz C hR dX9_place_37 (by decide) h
    · have h := ht c
      refine G.sub [] rfl ?_
      exact w_X9_place_J23 C hR  h
set_option maxRecDepth 20000 in
theorem w_X9_placeName_J60 {Y : YT} {X : CX} (C : Cx Y X cX9_placeName 1 RX9 3) {Q : Int → Mem → Prop} (hR : Rt Y X (some .boolean) (PQi Y Q)) {s0 : Int}  {M : Mem}  (h : m_X9_placeName_J60  Q s0 M) : G Y X 1 60 [] ((vI s0) :: []) M := by
  unfold m_X9_placeName_J60 at h
  obtain ⟨g1, h⟩ := h
  exact g_retz C hR dX9_placeName_60 g1 h
set_option maxRecDepth 20000 in
theorem w_X9_placeName_J55 {Y : YT} {X : CX} (C : Cx Y X cX9_placeName 1 RX9 3) {Q : Int → Mem → Prop} (hR : Rt Y X (some .boolean) (PQi Y Q))   {M : Mem}  (h : m_X9_placeName_J55  Q  M) : G Y X 1 55 [] ([]) M := by
  unfold m_X9_placeName_J55 at h
  refine g_iconst C dX9_placeName_55 rfl ?_
  refine g_goto (tgt := 60) C dX9_placeName_56 (by decide) ?_
  refine G.sub [] rfl ?_
  exact w_X9_placeName_J60 C hR  h
set_option maxRecDepth 20000 in
theorem t_X9_placeName {l : Launch} {Y : YT} (hY : YOK Y) {M : Mem} {Q : Int → Mem → Prop} (h : m_X9_placeName  M Q) : Ctr l Y yX9_placeName cX9_placeName 1 (some .boolean) 3 [vR Y 4] M (PQi Y Q) := by
  unfold m_X9_placeName at h
  refine ctr_ofF hY (by decide +kernel) (Nat.le_of_ble_eq_true rfl) [(0, vR Y 4)] rfl (fun X hX C hR => ?_)
  refine g_aload_n (q := 0) C dX9_placeName_0 rfl rfl ?_
  refine g_getS (v := 1) C fX9_9 dX9_placeName_1 kd_4 rfl ?_
  refine g_cVi (As := []) C clX9_149 clvX7_isName dX9_placeName_4 kd_1 rfl (Nat.le_of_ble_eq_true rfl) rfl (by decide) (t_X7_isName (Cx.ok C) h) (fun r3 M2 h => ?_)
  obtain ⟨g4, h⟩ := h
  obtain ⟨ht, hf⟩ := h
  refine g_if_ne (tgt := 18) C dX9_placeName_7 (by decide) g4 (fun c => ?_) (fun c => ?_)
  · have h := hf c
    refine g_aload_n (q := 0) C dX9_placeName_18 rfl rfl ?_
    refine g_aload_n (q := 0) C dX9_placeName_19 rfl rfl ?_
    obtain ⟨g5, h⟩ := h
    refine g_getM C fX9_24 dX9_placeName_20 kd_4 (kd_in g5 (by decide)).1 ?_
    refine g_aload_n (q := 0) C dX9_placeName_23 rfl rfl ?_
    refine g_getS (v := 1) C fX9_9 dX9_placeName_24 kd_4 rfl ?_
    refine g_getI C fX9_152 (by decide) dX9_placeName_27 kd_1 ?_
    refine g_cVi (As := [vI (M2 1 4)]) C clX9_180 clvX8_placeOf dX9_placeName_30 g5 rfl (Nat.le_of_ble_eq_true rfl) rfl (by decide) (t_X8_placeOf (Cx.ok C) h) (fun r7 M6 h => ?_)
    obtain ⟨M8, e_M8⟩ : ∃ z : Mem, z = up M6 4 3 r7 := ⟨_, rfl⟩
    have h := h M8 e_M8
    refine g_putI C fX9_113 pX9_113 dX9_placeName_33 kd_4 e_M8 ?_
    refine g_aload_n (q := 0) C dX9_placeName_36 rfl rfl ?_
    refine g_getI C fX9_113 (by decide) dX9_placeName_37 kd_4 ?_
    refine g_iconst C dX9_placeName_40 rfl ?_
    obtain ⟨g9, h⟩ := h
    obtain ⟨ht, hf⟩ := h
    refine g_icmp_ne (tgt := 55) C dX9_placeName_41 (by decide) g9 (by decide) (fun c => ?_) (fun c => ?_)
    · have h := hf c
      refine G.sub [] rfl ?_
      exact w_X9_placeName_J55 C hR  h
    · have h := ht c
      refine g_aload_n (q := 0) C dX9_placeName_44 rfl rfl ?_
      refine g_getS (v := 1) C fX9_9 dX9_placeName_45 kd_4 rfl ?_
      refine g_iconst C dX9_placeName_48 rfl ?_
      refine g_cVi (As := [vI 3]) C clX9_53 clvX7_fail dX9_placeName_49 kd_1 rfl (Nat.le_of_ble_eq_true rfl) rfl (by decide) (t_X7_fail (Cx.ok C) h) (fun r11 M10 h => ?_)
      obtain ⟨g12, h⟩ := h
      obtain ⟨ht, hf⟩ := h
      refine g_if_eq (tgt := 59) C dX9_placeName_52 (by decide) g12 (fun c => ?_) (fun c => ?_)
      · have h := ht c
        refine g_iconst C dX9_placeName_59 rfl ?_
        refine G.sub [] rfl ?_
        exact w_X9_placeName_J60 C hR  h
      · have h := hf c
        refine G.sub [] rfl ?_
        exact w_X9_placeName_J55 C hR  h
  · have h := ht c
    refine g_aload_n (q := 0) C dX9_placeName_10 rfl rfl ?_
    refine g_getS (v := 1) C fX9_9 dX9_placeName_11 kd_4 rfl ?_
    refine g_cVi (As := []) C clX9_57 clvX7_misplaced dX9_placeName_14 kd_1 rfl (Nat.le_of_ble_eq_true rfl) rfl (by decide) (t_X7_misplaced (Cx.ok C) h) (fun r14 M13 h => ?_)
    obtain ⟨g15, h⟩ := h
    exact g_retz C hR dX9_placeName_17 g15 h
set_option maxRecDepth 20000 in
theorem w_X9_road_J55 {Y : YT} {X : CX} (C : Cx Y X cX9_road 2 RX9 5) {Q : Int → Mem → Prop} (hR : Rt Y X (some .boolean) (PQi Y Q))   {M : Mem}  (h : m_X9_road_J55  Q  M) : G Y X 2 55 [] ([]) M := by
  unfold m_X9_road_J55 at h
  refine g_iconst C dX9_road_55 rfl ?_
  exact g_retz C hR dX9_road_56 (by decide) h
set_option maxRecDepth 20000 in
theorem w_X9_road_J23 {Y : YT} {X : CX} (C : Cx Y X cX9_road 2 RX9 5) {Q : Int → Mem → Prop} (hR : Rt Y X (some .boolean) (PQi Y Q))   {M : Mem}  (h : m_X9_road_J23  Q  M) : G Y X 2 23 [] ([]) M := by
  unfold m_X9_road_J23 at h
  refine g_iconst C dX9_road_23 rfl ?_
  exact g_retz C hR dX9_road_24 (by decide) h
set_option maxRecDepth 20000 in
theorem t_X9_road {l : Launch} {Y : YT} (hY : YOK Y) {M : Mem} {Q : Int → Mem → Prop} (h : m_X9_road  M Q) : Ctr l Y yX9_road cX9_road 2 (some .boolean) 5 [vR Y 4] M (PQi Y Q) := by
  unfold m_X9_road at h
  refine ctr_ofF hY (by decide +kernel) (Nat.le_of_ble_eq_true rfl) [(0, vR Y 4)] rfl (fun X hX C hR => ?_)
  refine g_aload_n (q := 0) C dX9_road_0 rfl rfl ?_
  refine g_aload_n (q := 0) C dX9_road_1 rfl rfl ?_
  obtain ⟨g1, h⟩ := h
  refine g_getM C fX9_24 dX9_road_2 kd_4 (kd_in g1 (by decide)).1 ?_
  refine g_getI C fX9_120 (by decide) dX9_road_5 g1 ?_
  refine g_bipush (v := 12) C dX9_road_8 (by decide +kernel) ?_
  refine g_cVi (As := [vI (M (M 4 2) 2), vI 12]) C clX9_91 clvX9_begins dX9_road_10 kd_4 rfl (Nat.le_of_ble_eq_true rfl) rfl (by decide) (t_X9_begins (Cx.ok C) h) (fun r3 M2 h => ?_)
  obtain ⟨g4, h⟩ := h
  obtain ⟨ht, hf⟩ := h
  refine g_if_eq (tgt := 23) C dX9_road_13 (by decide) g4 (fun c => ?_) (fun c => ?_)
  · have h := ht c
    refine G.sub [] rfl ?_
    exact w_X9_road_J23 C hR  h
  · have h := hf c
    refine g_aload_n (q := 0) C dX9_road_16 rfl rfl ?_
    refine g_cVi (As := []) C clX9_123 clvX9_placeName dX9_road_17 kd_4 rfl (Nat.le_of_ble_eq_true rfl) rfl (by decide) (t_X9_placeName (Cx.ok C) h) (fun r6 M5 h => ?_)
    obtain ⟨g7, h⟩ := h
    obtain ⟨ht, hf⟩ := h
    refine g_if_ne (tgt := 25) C dX9_road_20 (by decide) g7 (fun c => ?_) (fun c => ?_)
    · have h := hf c
      refine g_aload_n (q := 0) C dX9_road_25 rfl rfl ?_
      refine g_getI C fX9_113 (by decide) dX9_road_26 kd_4 ?_
      refine g_istore_n (lv' := [(1, vI (M5 4 3)), (0, vR Y 4)]) C dX9_road_29 rfl (by decide) rfl ?_
      refine g_aload_n (q := 1) C dX9_road_30 rfl rfl ?_
      refine g_getS (v := 1) C fX9_9 dX9_road_31 kd_4 rfl ?_
      refine g_cVv (As := []) C clX9_126 clvX7_advance dX9_road_34 kd_1 rfl (Nat.le_of_ble_eq_true rfl) rfl (by decide) (t_X7_advance (Cx.ok C) h) (fun M8 h => ?_)
      refine g_aload_n (q := 1) C dX9_road_37 rfl rfl ?_
      refine g_getS (v := 1) C fX9_9 dX9_road_38 kd_4 rfl ?_
      refine g_iconst C dX9_road_41 rfl ?_
      refine g_cVi (As := [vI 2]) C clX9_129 clvX7_takeOwn dX9_road_42 kd_1 rfl (Nat.le_of_ble_eq_true rfl) rfl (by decide) (t_X7_takeOwn (Cx.ok C) h) (fun r10 M9 h => ?_)
      obtain ⟨g11, h⟩ := h
      obtain ⟨ht, hf⟩ := h
      refine g_if_eq (tgt := 55) C dX9_road_45 (by decide) g11 (fun c => ?_) (fun c => ?_)
      · have h := ht c
        refine G.sub [] rfl ?_
        exact w_X9_road_J55 C hR  h
      · have h := hf c
        refine g_aload_n (q := 1) C dX9_road_48 rfl rfl ?_
        refine g_cVi (As := []) C clX9_123 clvX9_placeName dX9_road_49 kd_4 rfl (Nat.le_of_ble_eq_true rfl) rfl (by decide) (t_X9_placeName (Cx.ok C) h) (fun r13 M12 h => ?_)
        obtain ⟨g14, h⟩ := h
        obtain ⟨ht, hf⟩ := h
        refine g_if_ne (tgt := 57) C dX9_road_52 (by decide) g14 (fun c => ?_) (fun c => ?_)
        · have h := hf c
          refine g_aload_n (q := 1) C dX9_road_57 rfl rfl ?_
          obtain ⟨g15, h⟩ := h
          refine g_getM C fX9_24 dX9_road_58 kd_4 (kd_in g15 (by decide)).1 ?_
          refine g_iload_n (q := 0) C dX9_road_61 rfl rfl ?_
          refine g_aload_n (q := 1) C dX9_road_62 rfl rfl ?_
          refine g_getI C fX9_113 (by decide) dX9_road_63 kd_4 ?_
          refine g_cVi (As := [vI (M5 4 3), vI (M12 4 3)]) C clX9_132 clvX8_reaches dX9_road_66 g15 rfl (Nat.le_of_ble_eq_true rfl) rfl (by decide) (t_X8_reaches (Cx.ok C) h) (fun r17 M16 h => ?_)
          obtain ⟨g18, h⟩ := h
          obtain ⟨ht, hf⟩ := h
          refine g_if_eq (tgt := 81) C dX9_road_69 (by decide) g18 (fun c => ?_) (fun c => ?_)
          · have h := ht c
            refine g_aload_n (q := 1) C dX9_road_81 rfl rfl ?_
            obtain ⟨g19, h⟩ := h
            refine g_getM C fX9_24 dX9_road_82 kd_4 (kd_in g19 (by decide)).1 ?_
            refine g_iload_n (q := 0) C dX9_road_85 rfl rfl ?_
            refine g_aload_n (q := 1) C dX9_road_86 rfl rfl ?_
            refine g_getI C fX9_113 (by decide) dX9_road_87 kd_4 ?_
            refine g_cVv (As := [vI (M5 4 3), vI (M16 4 3)]) C clX9_135 clvX8_addRoad dX9_road_90 g19 rfl (Nat.le_of_ble_eq_true rfl) rfl (by decide) (t_X8_addRoad (Cx.ok C) h) (fun M20 h => ?_)
            refine g_aload_n (q := 1) C dX9_road_93 rfl rfl ?_
            refine g_getS (v := 1) C fX9_9 dX9_road_94 kd_4 rfl ?_
            refine g_cVv (As := []) C clX9_126 clvX7_advance dX9_road_97 kd_1 rfl (Nat.le_of_ble_eq_true rfl) rfl (by decide) (t_X7_advance (Cx.ok C) h) (fun M21 h => ?_)
            refine g_iconst C dX9_road_100 rfl ?_
            exact g_retz C hR dX9_road_101 (by decide) h
          · have h := hf c
            refine g_aload_n (q := 1) C dX9_road_72 rfl rfl ?_
            refine g_getS (v := 1) C fX9_9 dX9_road_73 kd_4 rfl ?_
            refine g_iconst C dX9_road_76 rfl ?_
            refine g_cVi (As := [vI 3]) C clX9_53 clvX7_fail dX9_road_77 kd_1 rfl (Nat.le_of_ble_eq_true rfl) rfl (by decide) (t_X7_fail (Cx.ok C) h) (fun r23 M22 h => ?_)
            obtain ⟨g24, h⟩ := h
            exact g_retz C hR dX9_road_80 g24 h
        · have h := ht c
          refine G.sub [] rfl ?_
          exact w_X9_road_J55 C hR  h
    · have h := ht c
      refine G.sub [] rfl ?_
      exact w_X9_road_J23 C hR  h
set_option maxRecDepth 20000 in
theorem w_X9_number_J46 {Y : YT} {X : CX} (C : Cx Y X cX9_number 3 RX9 4) {Q : Int → Mem → Prop} (hR : Rt Y X (some .boolean) (PQi Y Q))   {M : Mem}  (h : m_X9_number_J46  Q  M) : G Y X 3 46 [(0, vR Y 4)] ([]) M := by
  unfold m_X9_number_J46 at h
  refine g_aload_n (q := 0) C dX9_number_46 rfl rfl ?_
  refine g_getS (v := 1) C fX9_9 dX9_number_47 kd_4 rfl ?_
  refine g_iconst C dX9_number_50 rfl ?_
  refine g_cVi (As := [vI 4]) C clX9_53 clvX7_fail dX9_number_51 kd_1 rfl (Nat.le_of_ble_eq_true rfl) rfl (by decide) (t_X7_fail (Cx.ok C) h) (fun r2 M1 h => ?_)
  obtain ⟨g3, h⟩ := h
  exact g_retz C hR dX9_number_54 g3 h
set_option maxRecDepth 20000 in
theorem t_X9_number {l : Launch} {Y : YT} (hY : YOK Y) {a0 : Int} {a1 : Int} {M : Mem} {Q : Int → Mem → Prop} (h : m_X9_number a0 a1 M Q) : Ctr l Y yX9_number cX9_number 3 (some .boolean) 4 [vR Y 4, vI a0, vI a1] M (PQi Y Q) := by
  unfold m_X9_number at h
  refine ctr_ofF hY (by decide +kernel) (Nat.le_of_ble_eq_true rfl) [(0, vR Y 4), (1, vI a0), (2, vI a1)] rfl (fun X hX C hR => ?_)
  refine g_aload_n (q := 0) C dX9_number_0 rfl rfl ?_
  refine g_getS (v := 1) C fX9_9 dX9_number_1 kd_4 rfl ?_
  refine g_getI C fX9_38 (by decide) dX9_number_4 kd_1 ?_
  refine g_iconst C dX9_number_7 rfl ?_
  obtain ⟨g4, h⟩ := h
  obtain ⟨ht, hf⟩ := h
  refine g_icmp_eq (tgt := 19) C dX9_number_8 (by decide) g4 (by decide) (fun c => ?_) (fun c => ?_)
  · have h := ht c
    refine g_aload_n (q := 0) C dX9_number_19 rfl rfl ?_
    refine g_aload_n (q := 0) C dX9_number_20 rfl rfl ?_
    refine g_getS (v := 1) C fX9_9 dX9_number_21 kd_4 rfl ?_
    refine g_getI C fX9_152 (by decide) dX9_number_24 kd_1 ?_
    obtain ⟨M5, e_M5⟩ : ∃ z : Mem, z = up M 4 3 (M 1 4) := ⟨_, rfl⟩
    have h := h M5 e_M5
    refine g_putI C fX9_113 pX9_113 dX9_number_27 kd_4 e_M5 ?_
    refine g_aload_n (q := 0) C dX9_number_30 rfl rfl ?_
    refine g_getI C fX9_113 (by decide) dX9_number_31 kd_4 ?_
    refine g_iload_n (q := 1) C dX9_number_34 rfl rfl ?_
    obtain ⟨g6, h⟩ := h
    obtain ⟨g7, h⟩ := h
    obtain ⟨ht, hf⟩ := h
    refine g_icmp_lt (tgt := 46) C dX9_number_35 (by decide) g6 g7 (fun c => ?_) (fun c => ?_)
    · have h := ht c
      refine G.sub [0] rfl ?_
      exact w_X9_number_J46 C hR  h
    · have h := hf c
      refine g_aload_n (q := 0) C dX9_number_38 rfl rfl ?_
      refine g_getI C fX9_113 (by decide) dX9_number_39 kd_4 ?_
      refine g_iload_n (q := 2) C dX9_number_42 rfl rfl ?_
      obtain ⟨g8, h⟩ := h
      obtain ⟨g9, h⟩ := h
      obtain ⟨ht, hf⟩ := h
      refine g_icmp_le (tgt := 55) C dX9_number_43 (by decide) g8 g9 (fun c => ?_) (fun c => ?_)
      · have h := ht c
        refine g_aload_n (q := 0) C dX9_number_55 rfl rfl ?_
        refine g_getS (v := 1) C fX9_9 dX9_number_56 kd_4 rfl ?_
        refine g_cVv (As := []) C clX9_126 clvX7_advance dX9_number_59 kd_1 rfl (Nat.le_of_ble_eq_true rfl) rfl (by decide) (t_X7_advance (Cx.ok C) h) (fun M10 h => ?_)
        refine g_iconst C dX9_number_62 rfl ?_
        exact g_retz C hR dX9_number_63 (by decide) h
      · have h := hf c
        refine G.sub [0] rfl ?_
        exact w_X9_number_J46 C hR  h
  · have h := hf c
    refine g_aload_n (q := 0) C dX9_number_11 rfl rfl ?_
    refine g_getS (v := 1) C fX9_9 dX9_number_12 kd_4 rfl ?_
    refine g_cVi (As := []) C clX9_57 clvX7_misplaced dX9_number_15 kd_1 rfl (Nat.le_of_ble_eq_true rfl) rfl (by decide) (t_X7_misplaced (Cx.ok C) h) (fun r12 M11 h => ?_)
    obtain ⟨g13, h⟩ := h
    exact g_retz C hR dX9_number_18 g13 h
set_option maxRecDepth 20000 in
theorem w_X9_dweller_J83 {Y : YT} {X : CX} (C : Cx Y X cX9_dweller 3 RX9 5) {Q : Int → Mem → Prop} (hR : Rt Y X (some .boolean) (PQi Y Q))   {M : Mem}  (h : m_X9_dweller_J83  Q  M) : G Y X 3 83 [] ([]) M := by
  unfold m_X9_dweller_J83 at h
  refine g_iconst C dX9_dweller_83 rfl ?_
  exact g_retz C hR dX9_dweller_84 (by decide) h
set_option maxRecDepth 20000 in
theorem w_X9_dweller_J48 {Y : YT} {X : CX} (C : Cx Y X cX9_dweller 3 RX9 5) {Q : Int → Mem → Prop} (hR : Rt Y X (some .boolean) (PQi Y Q))   {M : Mem}  (h : m_X9_dweller_J48  Q  M) : G Y X 3 48 [] ([]) M := by
  unfold m_X9_dweller_J48 at h
  refine g_iconst C dX9_dweller_48 rfl ?_
  exact g_retz C hR dX9_dweller_49 (by decide) h
set_option maxRecDepth 20000 in
theorem w_X9_dweller_J23 {Y : YT} {X : CX} (C : Cx Y X cX9_dweller 3 RX9 5) {Q : Int → Mem → Prop} (hR : Rt Y X (some .boolean) (PQi Y Q))   {M : Mem}  (h : m_X9_dweller_J23  Q  M) : G Y X 3 23 [] ([]) M := by
  unfold m_X9_dweller_J23 at h
  refine g_iconst C dX9_dweller_23 rfl ?_
  exact g_retz C hR dX9_dweller_24 (by decide) h
set_option maxRecDepth 20000 in
theorem t_X9_dweller {l : Launch} {Y : YT} (hY : YOK Y) {M : Mem} {Q : Int → Mem → Prop} (h : m_X9_dweller  M Q) : Ctr l Y yX9_dweller cX9_dweller 3 (some .boolean) 5 [vR Y 4] M (PQi Y Q) := by
  unfold m_X9_dweller at h
  refine ctr_ofF hY (by decide +kernel) (Nat.le_of_ble_eq_true rfl) [(0, vR Y 4)] rfl (fun X hX C hR => ?_)
  refine g_aload_n (q := 0) C dX9_dweller_0 rfl rfl ?_
  refine g_aload_n (q := 0) C dX9_dweller_1 rfl rfl ?_
  obtain ⟨g1, h⟩ := h
  refine g_getM C fX9_24 dX9_dweller_2 kd_4 (kd_in g1 (by decide)).1 ?_
  refine g_getI C fX9_139 (by decide) dX9_dweller_5 g1 ?_
  refine g_bipush (v := 6) C dX9_dweller_8 (by decide +kernel) ?_
  refine g_cVi (As := [vI (M (M 4 2) 5), vI 6]) C clX9_91 clvX9_begins dX9_dweller_10 kd_4 rfl (Nat.le_of_ble_eq_true rfl) rfl (by decide) (t_X9_begins (Cx.ok C) h) (fun r3 M2 h => ?_)
  obtain ⟨g4, h⟩ := h
  obtain ⟨ht, hf⟩ := h
  refine g_if_eq (tgt := 23) C dX9_dweller_13 (by decide) g4 (fun c => ?_) (fun c => ?_)
  · have h := ht c
    refine G.sub [] rfl ?_
    exact w_X9_dweller_J23 C hR  h
  · have h := hf c
    refine g_aload_n (q := 0) C dX9_dweller_16 rfl rfl ?_
    refine g_cVi (As := []) C clX9_110 clvX9_newName dX9_dweller_17 kd_4 rfl (Nat.le_of_ble_eq_true rfl) rfl (by decide) (t_X9_newName (Cx.ok C) h) (fun r6 M5 h => ?_)
    obtain ⟨g7, h⟩ := h
    obtain ⟨ht, hf⟩ := h
    refine g_if_ne (tgt := 25) C dX9_dweller_20 (by decide) g7 (fun c => ?_) (fun c => ?_)
    · have h := hf c
      refine g_aload_n (q := 0) C dX9_dweller_25 rfl rfl ?_
      refine g_getI C fX9_113 (by decide) dX9_dweller_26 kd_4 ?_
      refine g_istore_n (lv' := [(1, vI (M5 4 3)), (0, vR Y 4)]) C dX9_dweller_29 rfl (by decide) rfl ?_
      refine g_aload_n (q := 1) C dX9_dweller_30 rfl rfl ?_
      refine g_getS (v := 1) C fX9_9 dX9_dweller_31 kd_4 rfl ?_
      refine g_iconst C dX9_dweller_34 rfl ?_
      refine g_cVi (As := [vI 4]) C clX9_129 clvX7_takeOwn dX9_dweller_35 kd_1 rfl (Nat.le_of_ble_eq_true rfl) rfl (by decide) (t_X7_takeOwn (Cx.ok C) h) (fun r9 M8 h => ?_)
      obtain ⟨g10, h⟩ := h
      obtain ⟨ht, hf⟩ := h
      refine g_if_eq (tgt := 48) C dX9_dweller_38 (by decide) g10 (fun c => ?_) (fun c => ?_)
      · have h := ht c
        refine G.sub [] rfl ?_
        exact w_X9_dweller_J48 C hR  h
      · have h := hf c
        refine g_aload_n (q := 1) C dX9_dweller_41 rfl rfl ?_
        refine g_cVi (As := []) C clX9_123 clvX9_placeName dX9_dweller_42 kd_4 rfl (Nat.le_of_ble_eq_true rfl) rfl (by decide) (t_X9_placeName (Cx.ok C) h) (fun r12 M11 h => ?_)
        obtain ⟨g13, h⟩ := h
        obtain ⟨ht, hf⟩ := h
        refine g_if_ne (tgt := 50) C dX9_dweller_45 (by decide) g13 (fun c => ?_) (fun c => ?_)
        · have h := hf c
          refine g_aload_n (q := 1) C dX9_dweller_50 rfl rfl ?_
          refine g_getI C fX9_113 (by decide) dX9_dweller_51 kd_4 ?_
          refine g_istore_n (lv' := [(2, vI (M11 4 3)), (1, vI (M5 4 3)), (0, vR Y 4)]) C dX9_dweller_54 rfl (by decide) rfl ?_
          refine g_aload_n (q := 2) C dX9_dweller_55 rfl rfl ?_
          refine g_getS (v := 1) C fX9_9 dX9_dweller_56 kd_4 rfl ?_
          refine g_cVv (As := []) C clX9_126 clvX7_advance dX9_dweller_59 kd_1 rfl (Nat.le_of_ble_eq_true rfl) rfl (by decide) (t_X7_advance (Cx.ok C) h) (fun M14 h => ?_)
          refine g_aload_n (q := 2) C dX9_dweller_62 rfl rfl ?_
          refine g_getS (v := 1) C fX9_9 dX9_dweller_63 kd_4 rfl ?_
          refine g_iconst C dX9_dweller_66 rfl ?_
          refine g_cVi (As := [vI 5]) C clX9_129 clvX7_takeOwn dX9_dweller_67 kd_1 rfl (Nat.le_of_ble_eq_true rfl) rfl (by decide) (t_X7_takeOwn (Cx.ok C) h) (fun r16 M15 h => ?_)
          obtain ⟨g17, h⟩ := h
          obtain ⟨ht, hf⟩ := h
          refine g_if_eq (tgt := 83) C dX9_dweller_70 (by decide) g17 (fun c => ?_) (fun c => ?_)
          · have h := ht c
            refine G.sub [] rfl ?_
            exact w_X9_dweller_J83 C hR  h
          · have h := hf c
            refine g_aload_n (q := 2) C dX9_dweller_73 rfl rfl ?_
            refine g_iconst C dX9_dweller_74 rfl ?_
            refine g_bipush (v := 9) C dX9_dweller_75 (by decide +kernel) ?_
            refine g_cVi (As := [vI 0, vI 9]) C clX9_142 clvX9_number dX9_dweller_77 kd_4 rfl (Nat.le_of_ble_eq_true rfl) rfl (by decide) (t_X9_number (Cx.ok C) h) (fun r19 M18 h => ?_)
            obtain ⟨g20, h⟩ := h
            obtain ⟨ht, hf⟩ := h
            refine g_if_ne (tgt := 85) C dX9_dweller_80 (by decide) g20 (fun c => ?_) (fun c => ?_)
            · have h := hf c
              refine g_aload_n (q := 2) C dX9_dweller_85 rfl rfl ?_
              obtain ⟨g21, h⟩ := h
              refine g_getM C fX9_24 dX9_dweller_86 kd_4 (kd_in g21 (by decide)).1 ?_
              refine g_iload_n (q := 1) C dX9_dweller_89 rfl rfl ?_
              refine g_iload_n (q := 0) C dX9_dweller_90 rfl rfl ?_
              refine g_aload_n (q := 2) C dX9_dweller_91 rfl rfl ?_
              refine g_getI C fX9_113 (by decide) dX9_dweller_92 kd_4 ?_
              refine g_cVv (As := [vI (M5 4 3), vI (M11 4 3), vI (M18 4 3)]) C clX9_145 clvX8_addPerson dX9_dweller_95 g21 rfl (Nat.le_of_ble_eq_true rfl) rfl (by decide) (t_X8_addPerson (Cx.ok C) h) (fun M22 h => ?_)
              refine g_iconst C dX9_dweller_98 rfl ?_
              exact g_retz C hR dX9_dweller_99 (by decide) h
            · have h := ht c
              refine G.sub [] rfl ?_
              exact w_X9_dweller_J83 C hR  h
        · have h := ht c
          refine G.sub [] rfl ?_
          exact w_X9_dweller_J48 C hR  h
    · have h := ht c
      refine G.sub [] rfl ?_
      exact w_X9_dweller_J23 C hR  h
set_option maxRecDepth 20000 in
theorem w_X9_watcher_J60 {Y : YT} {X : CX} (C : Cx Y X cX9_watcher 2 RX9 4) {Q : Int → Mem → Prop} (hR : Rt Y X (some .boolean) (PQi Y Q))   {M : Mem}  (h : m_X9_watcher_J60  Q  M) : G Y X 2 60 [(0, vR Y 4)] ([]) M := by
  unfold m_X9_watcher_J60 at h
  refine g_aload_n (q := 0) C dX9_watcher_60 rfl rfl ?_
  refine g_getS (v := 1) C fX9_9 dX9_watcher_61 kd_4 rfl ?_
  refine g_iconst C dX9_watcher_64 rfl ?_
  refine g_cVi (As := [vI 3]) C clX9_53 clvX7_fail dX9_watcher_65 kd_1 rfl (Nat.le_of_ble_eq_true rfl) rfl (by decide) (t_X7_fail (Cx.ok C) h) (fun r2 M1 h => ?_)
  obtain ⟨g3, h⟩ := h
  exact g_retz C hR dX9_watcher_68 g3 h
set_option maxRecDepth 20000 in
theorem t_X9_watcher {l : Launch} {Y : YT} (hY : YOK Y) {M : Mem} {Q : Int → Mem → Prop} (h : m_X9_watcher  M Q) : Ctr l Y yX9_watcher cX9_watcher 2 (some .boolean) 4 [vR Y 4] M (PQi Y Q) := by
  unfold m_X9_watcher at h
  refine ctr_ofF hY (by decide +kernel) (Nat.le_of_ble_eq_true rfl) [(0, vR Y 4)] rfl (fun X hX C hR => ?_)
  refine g_aload_n (q := 0) C dX9_watcher_0 rfl rfl ?_
  refine g_getS (v := 1) C fX9_9 dX9_watcher_1 kd_4 rfl ?_
  refine g_cVv (As := []) C clX9_126 clvX7_advance dX9_watcher_4 kd_1 rfl (Nat.le_of_ble_eq_true rfl) rfl (by decide) (t_X7_advance (Cx.ok C) h) (fun M4 h => ?_)
  refine g_aload_n (q := 0) C dX9_watcher_7 rfl rfl ?_
  refine g_getS (v := 1) C fX9_9 dX9_watcher_8 kd_4 rfl ?_
  refine g_cVi (As := []) C clX9_149 clvX7_isName dX9_watcher_11 kd_1 rfl (Nat.le_of_ble_eq_true rfl) rfl (by decide) (t_X7_isName (Cx.ok C) h) (fun r6 M5 h => ?_)
  obtain ⟨g7, h⟩ := h
  obtain ⟨ht, hf⟩ := h
  refine g_if_ne (tgt := 25) C dX9_watcher_14 (by decide) g7 (fun c => ?_) (fun c => ?_)
  · have h := hf c
    refine g_aload_n (q := 0) C dX9_watcher_25 rfl rfl ?_
    obtain ⟨g8, h⟩ := h
    refine g_getM C fX9_24 dX9_watcher_26 kd_4 (kd_in g8 (by decide)).1 ?_
    refine g_aload_n (q := 0) C dX9_watcher_29 rfl rfl ?_
    refine g_getS (v := 1) C fX9_9 dX9_watcher_30 kd_4 rfl ?_
    refine g_getI C fX9_152 (by decide) dX9_watcher_33 kd_1 ?_
    refine g_cVi (As := [vI (M5 1 4)]) C clX9_155 clvX8_personOf dX9_watcher_36 g8 rfl (Nat.le_of_ble_eq_true rfl) rfl (by decide) (t_X8_personOf (Cx.ok C) h) (fun r10 M9 h => ?_)
    refine g_istore_n (lv' := [(1, vI r10), (0, vR Y 4)]) C dX9_watcher_39 rfl (by decide) rfl ?_
    refine g_iload_n (q := 0) C dX9_watcher_40 rfl rfl ?_
    refine g_iconst C dX9_watcher_41 rfl ?_
    obtain ⟨g11, h⟩ := h
    obtain ⟨ht, hf⟩ := h
    refine g_icmp_eq (tgt := 60) C dX9_watcher_42 (by decide) g11 (by decide) (fun c => ?_) (fun c => ?_)
    · have h := ht c
      refine G.sub [1] rfl ?_
      exact w_X9_watcher_J60 C hR  h
    · have h := hf c
      refine g_aload_n (q := 1) C dX9_watcher_45 rfl rfl ?_
      obtain ⟨g12, h⟩ := h
      refine g_getM C fX9_24 dX9_watcher_46 kd_4 (kd_in g12 (by decide)).1 ?_
      refine g_getI C fX9_159 (by decide) dX9_watcher_49 g12 ?_
      refine g_iload_n (q := 0) C dX9_watcher_52 rfl rfl ?_
      refine g_ishr C dX9_watcher_53 ?_
      refine g_iconst C dX9_watcher_54 rfl ?_
      refine g_iand C dX9_watcher_55 ?_
      refine g_iconst C dX9_watcher_56 rfl ?_
      obtain ⟨g13, h⟩ := h
      obtain ⟨ht, hf⟩ := h
      refine g_icmp_ne (tgt := 69) C dX9_watcher_57 (by decide) g13 (by decide) (fun c => ?_) (fun c => ?_)
      · have h := hf c
        refine g_aload_n (q := 1) C dX9_watcher_69 rfl rfl ?_
        obtain ⟨g14, h⟩ := h
        refine g_getM C fX9_24 dX9_watcher_70 kd_4 (kd_in g14 (by decide)).1 ?_
        refine g_dup C dX9_watcher_73 rfl ?_
        refine g_getI C fX9_159 (by decide) dX9_watcher_74 g14 ?_
        refine g_iconst C dX9_watcher_77 rfl ?_
        refine g_iload_n (q := 0) C dX9_watcher_78 rfl rfl ?_
        refine g_ishl C dX9_watcher_79 ?_
        refine g_ior C dX9_watcher_80 ?_
        obtain ⟨M15, e_M15⟩ : ∃ z : Mem, z = up M9 (M9 4 2) 9 (zor (M9 (M9 4 2) 9) (zshl 1 r10)) := ⟨_, rfl⟩
        have h := h M15 e_M15
        refine g_putI C fX9_159 pX9_159 dX9_watcher_81 g14 e_M15 ?_
        refine g_aload_n (q := 1) C dX9_watcher_84 rfl rfl ?_
        refine g_getS (v := 1) C fX9_9 dX9_watcher_85 kd_4 rfl ?_
        refine g_cVv (As := []) C clX9_126 clvX7_advance dX9_watcher_88 kd_1 rfl (Nat.le_of_ble_eq_true rfl) rfl (by decide) (t_X7_advance (Cx.ok C) h) (fun M16 h => ?_)
        refine g_iconst C dX9_watcher_91 rfl ?_
        exact g_retz C hR dX9_watcher_92 (by decide) h
      · have h := ht c
        refine G.sub [1] rfl ?_
        exact w_X9_watcher_J60 C hR  h
  · have h := ht c
    refine g_aload_n (q := 0) C dX9_watcher_17 rfl rfl ?_
    refine g_getS (v := 1) C fX9_9 dX9_watcher_18 kd_4 rfl ?_
    refine g_cVi (As := []) C clX9_57 clvX7_misplaced dX9_watcher_21 kd_1 rfl (Nat.le_of_ble_eq_true rfl) rfl (by decide) (t_X7_misplaced (Cx.ok C) h) (fun r18 M17 h => ?_)
    obtain ⟨g19, h⟩ := h
    exact g_retz C hR dX9_watcher_24 g19 h
set_option maxRecDepth 20000 in
theorem w_X9_shownFrame_J29 {Y : YT} {X : CX} (C : Cx Y X cX9_shownFrame 3 RX9 5) {Q : Int → Mem → Prop} (hR : Rt Y X (some .boolean) (PQi Y Q))   {M : Mem}  (h : m_X9_shownFrame_J29  Q  M) : G Y X 3 29 [] ([]) M := by
  unfold m_X9_shownFrame_J29 at h
  refine g_iconst C dX9_shownFrame_29 rfl ?_
  exact g_retz C hR dX9_shownFrame_30 (by decide) h
set_option maxRecDepth 20000 in
theorem t_X9_shownFrame {l : Launch} {Y : YT} (hY : YOK Y) {M : Mem} {Q : Int → Mem → Prop} (h : m_X9_shownFrame  M Q) : Ctr l Y yX9_shownFrame cX9_shownFrame 3 (some .boolean) 5 [vR Y 4] M (PQi Y Q) := by
  unfold m_X9_shownFrame at h
  refine ctr_ofF hY (by decide +kernel) (Nat.le_of_ble_eq_true rfl) [(0, vR Y 4)] rfl (fun X hX C hR => ?_)
  refine g_aload_n (q := 0) C dX9_shownFrame_0 rfl rfl ?_
  refine g_aload_n (q := 0) C dX9_shownFrame_1 rfl rfl ?_
  obtain ⟨g1, h⟩ := h
  refine g_getM C fX9_24 dX9_shownFrame_2 kd_4 (kd_in g1 (by decide)).1 ?_
  refine g_getS (v := (M 4 2) + 7) C fX9_162 dX9_shownFrame_5 g1 rfl ?_
  refine g_getI C fX9_166 (by decide) dX9_shownFrame_8 (sub_8_10 g1) ?_
  refine g_bipush (v := 8) C dX9_shownFrame_11 (by decide +kernel) ?_
  refine g_cVi (As := [vI (M ((M 4 2) + 7) 0), vI 8]) C clX9_91 clvX9_begins dX9_shownFrame_13 kd_4 rfl (Nat.le_of_ble_eq_true rfl) rfl (by decide) (t_X9_begins (Cx.ok C) h) (fun r3 M2 h => ?_)
  obtain ⟨g4, h⟩ := h
  obtain ⟨ht, hf⟩ := h
  refine g_if_eq (tgt := 29) C dX9_shownFrame_16 (by decide) g4 (fun c => ?_) (fun c => ?_)
  · have h := ht c
    refine G.sub [] rfl ?_
    exact w_X9_shownFrame_J29 C hR  h
  · have h := hf c
    refine g_aload_n (q := 0) C dX9_shownFrame_19 rfl rfl ?_
    refine g_iconst C dX9_shownFrame_20 rfl ?_
    refine g_bipush (v := 8) C dX9_shownFrame_21 (by decide +kernel) ?_
    refine g_cVi (As := [vI 1, vI 8]) C clX9_142 clvX9_number dX9_shownFrame_23 kd_4 rfl (Nat.le_of_ble_eq_true rfl) rfl (by decide) (t_X9_number (Cx.ok C) h) (fun r6 M5 h => ?_)
    obtain ⟨g7, h⟩ := h
    obtain ⟨ht, hf⟩ := h
    refine g_if_ne (tgt := 31) C dX9_shownFrame_26 (by decide) g7 (fun c => ?_) (fun c => ?_)
    · have h := hf c
      refine g_aload_n (q := 0) C dX9_shownFrame_31 rfl rfl ?_
      refine g_getI C fX9_113 (by decide) dX9_shownFrame_32 kd_4 ?_
      refine g_istore_n (lv' := [(1, vI (M5 4 3)), (0, vR Y 4)]) C dX9_shownFrame_35 rfl (by decide) rfl ?_
      refine g_aload_n (q := 1) C dX9_shownFrame_36 rfl rfl ?_
      refine g_cVi (As := []) C clX9_123 clvX9_placeName dX9_shownFrame_37 kd_4 rfl (Nat.le_of_ble_eq_true rfl) rfl (by decide) (t_X9_placeName (Cx.ok C) h) (fun r9 M8 h => ?_)
      obtain ⟨g10, h⟩ := h
      obtain ⟨ht, hf⟩ := h
      refine g_if_ne (tgt := 45) C dX9_shownFrame_40 (by decide) g10 (fun c => ?_) (fun c => ?_)
      · have h := hf c
        refine g_aload_n (q := 1) C dX9_shownFrame_45 rfl rfl ?_
        refine g_getI C fX9_113 (by decide) dX9_shownFrame_46 kd_4 ?_
        refine g_istore_n (lv' := [(2, vI (M8 4 3)), (1, vI (M5 4 3)), (0, vR Y 4)]) C dX9_shownFrame_49 rfl (by decide) rfl ?_
        refine g_aload_n (q := 2) C dX9_shownFrame_50 rfl rfl ?_
        obtain ⟨g11, h⟩ := h
        refine g_getM C fX9_24 dX9_shownFrame_51 kd_4 (kd_in g11 (by decide)).1 ?_
        refine g_getS (v := (M8 4 2) + 7) C fX9_162 dX9_shownFrame_54 g11 rfl ?_
        refine g_iload_n (q := 1) C dX9_shownFrame_57 rfl rfl ?_
        refine g_iload_n (q := 0) C dX9_shownFrame_58 rfl rfl ?_
        refine g_cVi (As := [vI (M5 4 3), vI (M8 4 3)]) C clX9_171 clvX5_indexOf dX9_shownFrame_59 (sub_8_10 g11) rfl (Nat.le_of_ble_eq_true rfl) rfl (by decide) (t_X5_indexOf (Cx.ok C) h) (fun r13 M12 h => ?_)
        refine g_iconst C dX9_shownFrame_62 rfl ?_
        obtain ⟨g14, h⟩ := h
        obtain ⟨ht, hf⟩ := h
        refine g_icmp_eq (tgt := 75) C dX9_shownFrame_63 (by decide) g14 (by decide) (fun c => ?_) (fun c => ?_)
        · have h := ht c
          refine g_aload_n (q := 2) C dX9_shownFrame_75 rfl rfl ?_
          refine g_getS (v := 1) C fX9_9 dX9_shownFrame_76 kd_4 rfl ?_
          refine g_cVv (As := []) C clX9_126 clvX7_advance dX9_shownFrame_79 kd_1 rfl (Nat.le_of_ble_eq_true rfl) rfl (by decide) (t_X7_advance (Cx.ok C) h) (fun M15 h => ?_)
          refine g_aload_n (q := 2) C dX9_shownFrame_82 rfl rfl ?_
          refine g_iconst C dX9_shownFrame_83 rfl ?_
          refine g_bipush (v := 6) C dX9_shownFrame_84 (by decide +kernel) ?_
          refine g_cVi (As := [vI 0, vI 6]) C clX9_142 clvX9_number dX9_shownFrame_86 kd_4 rfl (Nat.le_of_ble_eq_true rfl) rfl (by decide) (t_X9_number (Cx.ok C) h) (fun r17 M16 h => ?_)
          obtain ⟨g18, h⟩ := h
          obtain ⟨ht, hf⟩ := h
          refine g_if_ne (tgt := 94) C dX9_shownFrame_89 (by decide) g18 (fun c => ?_) (fun c => ?_)
          · have h := hf c
            refine g_aload_n (q := 2) C dX9_shownFrame_94 rfl rfl ?_
            obtain ⟨g19, h⟩ := h
            refine g_getM C fX9_24 dX9_shownFrame_95 kd_4 (kd_in g19 (by decide)).1 ?_
            refine g_getS (v := (M16 4 2) + 7) C fX9_162 dX9_shownFrame_98 g19 rfl ?_
            refine g_iload_n (q := 1) C dX9_shownFrame_101 rfl rfl ?_
            refine g_iload_n (q := 0) C dX9_shownFrame_102 rfl rfl ?_
            refine g_aload_n (q := 2) C dX9_shownFrame_103 rfl rfl ?_
            refine g_getI C fX9_113 (by decide) dX9_shownFrame_104 kd_4 ?_
            refine g_cVv (As := [vI (M5 4 3), vI (M8 4 3), vI (M16 4 3)]) C clX9_175 clvX5_put dX9_shownFrame_107 (sub_8_10 g19) rfl (Nat.le_of_ble_eq_true rfl) rfl (by decide) (t_X5_put (Cx.ok C) h) (fun M20 h => ?_)
            refine g_iconst C dX9_shownFrame_110 rfl ?_
            exact g_retz C hR dX9_shownFrame_111 (by decide) h
          · have h := ht c
            refine g_iconst C dX9_shownFrame_92 rfl ?_
            exact g_retz C hR dX9_shownFrame_93 (by decide) h
        · have h := hf c
          refine g_aload_n (q := 2) C dX9_shownFrame_66 rfl rfl ?_
          refine g_getS (v := 1) C fX9_9 dX9_shownFrame_67 kd_4 rfl ?_
          refine g_iconst C dX9_shownFrame_70 rfl ?_
          refine g_cVi (As := [vI 3]) C clX9_53 clvX7_fail dX9_shownFrame_71 kd_1 rfl (Nat.le_of_ble_eq_true rfl) rfl (by decide) (t_X7_fail (Cx.ok C) h) (fun r22 M21 h => ?_)
          obtain ⟨g23, h⟩ := h
          exact g_retz C hR dX9_shownFrame_74 g23 h
      · have h := ht c
        refine g_iconst C dX9_shownFrame_43 rfl ?_
        exact g_retz C hR dX9_shownFrame_44 (by decide) h
    · have h := ht c
      refine G.sub [] rfl ?_
      exact w_X9_shownFrame_J29 C hR  h
set_option maxRecDepth 20000 in
theorem t_X9_rain {l : Launch} {Y : YT} (hY : YOK Y) {M : Mem} {Q : Int → Mem → Prop} (h : m_X9_rain  M Q) : Ctr l Y yX9_rain cX9_rain 1 (some .boolean) 5 [vR Y 4] M (PQi Y Q) := by
  unfold m_X9_rain at h
  refine ctr_ofF hY (by decide +kernel) (Nat.le_of_ble_eq_true rfl) [(0, vR Y 4)] rfl (fun X hX C hR => ?_)
  refine g_aload_n (q := 0) C dX9_rain_0 rfl rfl ?_
  refine g_getS (v := 1) C fX9_9 dX9_rain_1 kd_4 rfl ?_
  refine g_cVv (As := []) C clX9_126 clvX7_advance dX9_rain_4 kd_1 rfl (Nat.le_of_ble_eq_true rfl) rfl (by decide) (t_X7_advance (Cx.ok C) h) (fun M1 h => ?_)
  refine g_aload_n (q := 0) C dX9_rain_7 rfl rfl ?_
  refine g_iconst C dX9_rain_8 rfl ?_
  refine g_bipush (v := 100) C dX9_rain_9 (by decide +kernel) ?_
  refine g_cVi (As := [vI 0, vI 100]) C clX9_142 clvX9_number dX9_rain_11 kd_4 rfl (Nat.le_of_ble_eq_true rfl) rfl (by decide) (t_X9_number (Cx.ok C) h) (fun r3 M2 h => ?_)
  obtain ⟨g4, h⟩ := h
  obtain ⟨ht, hf⟩ := h
  refine g_if_ne (tgt := 19) C dX9_rain_14 (by decide) g4 (fun c => ?_) (fun c => ?_)
  · have h := hf c
    refine g_aload_n (q := 0) C dX9_rain_19 rfl rfl ?_
    obtain ⟨g5, h⟩ := h
    refine g_getM C fX9_24 dX9_rain_20 kd_4 (kd_in g5 (by decide)).1 ?_
    refine g_aload_n (q := 0) C dX9_rain_23 rfl rfl ?_
    refine g_getI C fX9_113 (by decide) dX9_rain_24 kd_4 ?_
    obtain ⟨M6, e_M6⟩ : ∃ z : Mem, z = up M2 (M2 4 2) 11 (M2 4 3) := ⟨_, rfl⟩
    have h := h M6 e_M6
    refine g_putI C fX9_178 pX9_178 dX9_rain_27 g5 e_M6 ?_
    refine g_iconst C dX9_rain_30 rfl ?_
    exact g_retz C hR dX9_rain_31 (by decide) h
  · have h := ht c
    refine g_iconst C dX9_rain_17 rfl ?_
    exact g_retz C hR dX9_rain_18 (by decide) h
set_option maxRecDepth 20000 in
theorem w_X9_statement_J214 {Y : YT} {X : CX} (C : Cx Y X cX9_statement 1 RX9 67) {Q : Int → Mem → Prop} (hR : Rt Y X (some .boolean) (PQi Y Q))   {M : Mem}  (h : m_X9_statement_J214  Q  M) : G Y X 1 214 [(0, vR Y 4)] ([]) M := by
  unfold m_X9_statement_J214 at h
  refine g_aload_n (q := 0) C dX9_statement_214 rfl rfl ?_
  refine g_getS (v := 1) C fX9_9 dX9_statement_215 kd_4 rfl ?_
  refine g_cVi (As := []) C clX9_57 clvX7_misplaced dX9_statement_218 kd_1 rfl (Nat.le_of_ble_eq_true rfl) rfl (by decide) (t_X7_misplaced (Cx.ok C) h) (fun r2 M1 h => ?_)
  obtain ⟨g3, h⟩ := h
  exact g_retz C hR dX9_statement_221 g3 h
set_option maxRecDepth 20000 in
theorem w_X9_statement_J208 {Y : YT} {X : CX} (C : Cx Y X cX9_statement 1 RX9 67) {Q : Int → Mem → Prop} (hR : Rt Y X (some .boolean) (PQi Y Q)) {s0 : Int}  {M : Mem}  (h : m_X9_statement_J208  Q s0 M) : G Y X 1 208 [] ((vI s0) :: []) M := by
  unfold m_X9_statement_J208 at h
  obtain ⟨g4, h⟩ := h
  exact g_retz C hR dX9_statement_208 g4 h
set_option maxRecDepth 20000 in
theorem w_X9_statement_J207 {Y : YT} {X : CX} (C : Cx Y X cX9_statement 1 RX9 67) {Q : Int → Mem → Prop} (hR : Rt Y X (some .boolean) (PQi Y Q))   {M : Mem}  (h : m_X9_statement_J207  Q  M) : G Y X 1 207 [] ([]) M := by
  unfold m_X9_statement_J207 at h
  refine g_iconst C dX9_statement_207 rfl ?_
  refine G.sub [] rfl ?_
  exact w_X9_statement_J208 C hR  h
set_option maxRecDepth 20000 in
theorem w_X9_statement_J158 {Y : YT} {X : CX} (C : Cx Y X cX9_statement 1 RX9 67) {Q : Int → Mem → Prop} (hR : Rt Y X (some .boolean) (PQi Y Q)) {s0 : Int}  {M : Mem}  (h : m_X9_statement_J158  Q s0 M) : G Y X 1 158 [] ((vI s0) :: []) M := by
  unfold m_X9_statement_J158 at h
  obtain ⟨g5, h⟩ := h
  exact g_retz C hR dX9_statement_158 g5 h
set_option maxRecDepth 20000 in
theorem w_X9_statement_J157 {Y : YT} {X : CX} (C : Cx Y X cX9_statement 1 RX9 67) {Q : Int → Mem → Prop} (hR : Rt Y X (some .boolean) (PQi Y Q))   {M : Mem}  (h : m_X9_statement_J157  Q  M) : G Y X 1 157 [] ([]) M := by
  unfold m_X9_statement_J157 at h
  refine g_iconst C dX9_statement_157 rfl ?_
  refine G.sub [] rfl ?_
  exact w_X9_statement_J158 C hR  h
set_option maxRecDepth 20000 in
theorem t_X9_statement {l : Launch} {Y : YT} (hY : YOK Y) {M : Mem} {Q : Int → Mem → Prop} (h : m_X9_statement  M Q) : Ctr l Y yX9_statement cX9_statement 1 (some .boolean) 67 [vR Y 4] M (PQi Y Q) := by
  unfold m_X9_statement at h
  refine ctr_ofF hY (by decide +kernel) (Nat.le_of_ble_eq_true rfl) [(0, vR Y 4)] rfl (fun X hX C hR => ?_)
  refine g_aload_n (q := 0) C dX9_statement_0 rfl rfl ?_
  refine g_getS (v := 1) C fX9_9 dX9_statement_1 kd_4 rfl ?_
  refine g_getI C fX9_38 (by decide) dX9_statement_4 kd_1 ?_
  refine g_iconst C dX9_statement_7 rfl ?_
  obtain ⟨g6, h⟩ := h
  obtain ⟨ht, hf⟩ := h
  refine g_icmp_eq (tgt := 19) C dX9_statement_8 (by decide) g6 (by decide) (fun c => ?_) (fun c => ?_)
  · have h := ht c
    refine g_aload_n (q := 0) C dX9_statement_19 rfl rfl ?_
    refine g_getS (v := 1) C fX9_9 dX9_statement_20 kd_4 rfl ?_
    refine g_getI C fX9_60 (by decide) dX9_statement_23 kd_1 ?_
    obtain ⟨g7, h⟩ := h
    refine G.nmI (x := M 1 5) rfl ?_
    obtain ⟨c0, c1, c2, c3, c4, c5, c6, c7, c8, c9, c10, c11⟩ := h
    rcases (show (M 1 5 = 0) ∨ (M 1 5 = 1) ∨ (M 1 5 = 2) ∨ (M 1 5 = 3) ∨ (M 1 5 = 4) ∨ (M 1 5 = 5) ∨ (M 1 5 = 6) ∨ (M 1 5 = 7) ∨ (M 1 5 = 8) ∨ (M 1 5 = 9) ∨ (M 1 5 = 10) ∨ (M 1 5 < 0 ∨ 10 < M 1 5) by omega) with q | q | q | q | q | q | q | q | q | q | q | q
    · have h := c0 q
      refine g_tswIn (off := 58) (tgt := 84) C dX9_statement_26 g7 (by omega) (by omega) (by rw [q]; rfl) (by decide) ?_
      refine g_aload_n (q := 0) C dX9_statement_84 rfl rfl ?_
      refine g_cVi (As := []) C clX9_63 clvX9_place dX9_statement_85 kd_4 rfl (Nat.le_of_ble_eq_true rfl) rfl (by decide) (t_X9_place (Cx.ok C) h) (fun r9 M8 h => ?_)
      obtain ⟨g10, h⟩ := h
      exact g_retz C hR dX9_statement_88 g10 h
    · have h := c1 q
      refine g_tswIn (off := 63) (tgt := 89) C dX9_statement_26 g7 (by omega) (by omega) (by rw [q]; rfl) (by decide) ?_
      refine g_aload_n (q := 0) C dX9_statement_89 rfl rfl ?_
      refine g_cVi (As := []) C clX9_66 clvX9_road dX9_statement_90 kd_4 rfl (Nat.le_of_ble_eq_true rfl) rfl (by decide) (t_X9_road (Cx.ok C) h) (fun r12 M11 h => ?_)
      obtain ⟨g13, h⟩ := h
      exact g_retz C hR dX9_statement_93 g13 h
    · have h := c2 q
      refine g_tswIn (off := 188) (tgt := 214) C dX9_statement_26 g7 (by omega) (by omega) (by rw [q]; rfl) (by decide) ?_
      refine G.sub [0] rfl ?_
      exact w_X9_statement_J214 C hR  h
    · have h := c3 q
      refine g_tswIn (off := 68) (tgt := 94) C dX9_statement_26 g7 (by omega) (by omega) (by rw [q]; rfl) (by decide) ?_
      refine g_aload_n (q := 0) C dX9_statement_94 rfl rfl ?_
      refine g_cVi (As := []) C clX9_69 clvX9_dweller dX9_statement_95 kd_4 rfl (Nat.le_of_ble_eq_true rfl) rfl (by decide) (t_X9_dweller (Cx.ok C) h) (fun r15 M14 h => ?_)
      obtain ⟨g16, h⟩ := h
      exact g_retz C hR dX9_statement_98 g16 h
    · have h := c4 q
      refine g_tswIn (off := 188) (tgt := 214) C dX9_statement_26 g7 (by omega) (by omega) (by rw [q]; rfl) (by decide) ?_
      refine G.sub [0] rfl ?_
      exact w_X9_statement_J214 C hR  h
    · have h := c5 q
      refine g_tswIn (off := 188) (tgt := 214) C dX9_statement_26 g7 (by omega) (by omega) (by rw [q]; rfl) (by decide) ?_
      refine G.sub [0] rfl ?_
      exact w_X9_statement_J214 C hR  h
    · have h := c6 q
      refine g_tswIn (off := 73) (tgt := 99) C dX9_statement_26 g7 (by omega) (by omega) (by rw [q]; rfl) (by decide) ?_
      refine g_aload_n (q := 0) C dX9_statement_99 rfl rfl ?_
      refine g_cVi (As := []) C clX9_72 clvX9_watcher dX9_statement_100 kd_4 rfl (Nat.le_of_ble_eq_true rfl) rfl (by decide) (t_X9_watcher (Cx.ok C) h) (fun r18 M17 h => ?_)
      obtain ⟨g19, h⟩ := h
      exact g_retz C hR dX9_statement_103 g19 h
    · have h := c7 q
      refine g_tswIn (off := 78) (tgt := 104) C dX9_statement_26 g7 (by omega) (by omega) (by rw [q]; rfl) (by decide) ?_
      refine g_aload_n (q := 0) C dX9_statement_104 rfl rfl ?_
      refine g_cVi (As := []) C clX9_75 clvX9_shownFrame dX9_statement_105 kd_4 rfl (Nat.le_of_ble_eq_true rfl) rfl (by decide) (t_X9_shownFrame (Cx.ok C) h) (fun r21 M20 h => ?_)
      obtain ⟨g22, h⟩ := h
      exact g_retz C hR dX9_statement_108 g22 h
    · have h := c8 q
      refine g_tswIn (off := 83) (tgt := 109) C dX9_statement_26 g7 (by omega) (by omega) (by rw [q]; rfl) (by decide) ?_
      refine g_aload_n (q := 0) C dX9_statement_109 rfl rfl ?_
      refine g_getS (v := 5) C fX9_20 dX9_statement_110 kd_4 rfl ?_
      refine g_aload_n (q := 0) C dX9_statement_113 rfl rfl ?_
      obtain ⟨g23, h⟩ := h
      refine g_getM C fX9_24 dX9_statement_114 kd_4 (kd_in g23 (by decide)).1 ?_
      refine g_getS (v := (M 4 2) + 11) C fX9_78 dX9_statement_117 g23 rfl ?_
      refine g_iconst C dX9_statement_120 rfl ?_
      refine g_cVv (As := [vR Y ((M 4 2) + 11), vI 0]) C clX9_82 clvX2_readInto dX9_statement_121 kd_5 rfl (Nat.le_of_ble_eq_true rfl) rfl (by decide) (t_X2_readInto (Cx.ok C) h) (fun M24 h => ?_)
      refine g_aload_n (q := 0) C dX9_statement_124 rfl rfl ?_
      refine g_aload_n (q := 0) C dX9_statement_125 rfl rfl ?_
      obtain ⟨g25, h⟩ := h
      refine g_getM C fX9_24 dX9_statement_126 kd_4 (kd_in g25 (by decide)).1 ?_
      refine g_getS (v := (M24 4 2) + 11) C fX9_78 dX9_statement_129 g25 rfl ?_
      refine g_getI C fX9_86 (by decide) dX9_statement_132 (sub_8_12 g25) ?_
      refine g_iconst C dX9_statement_135 rfl ?_
      refine g_cVi (As := [vI (M24 ((M24 4 2) + 11) 2), vI 1]) C clX9_91 clvX9_begins dX9_statement_136 kd_4 rfl (Nat.le_of_ble_eq_true rfl) rfl (by decide) (t_X9_begins (Cx.ok C) h) (fun r27 M26 h => ?_)
      obtain ⟨g28, h⟩ := h
      obtain ⟨ht, hf⟩ := h
      refine g_if_eq (tgt := 157) C dX9_statement_139 (by decide) g28 (fun c => ?_) (fun c => ?_)
      · have h := ht c
        refine G.sub [] rfl ?_
        exact w_X9_statement_J157 C hR  h
      · have h := hf c
        refine g_aload_n (q := 0) C dX9_statement_142 rfl rfl ?_
        refine g_getS (v := 5) C fX9_20 dX9_statement_143 kd_4 rfl ?_
        refine g_iconst C dX9_statement_146 rfl ?_
        refine g_cVi (As := [vI 0]) C clX9_95 clvX2_test dX9_statement_147 kd_5 rfl (Nat.le_of_ble_eq_true rfl) rfl (by decide) (t_X2_test (Cx.ok C) h) (fun r30 M29 h => ?_)
        obtain ⟨g31, h⟩ := h
        obtain ⟨ht, hf⟩ := h
        refine g_if_eq (tgt := 157) C dX9_statement_150 (by decide) g31 (fun c => ?_) (fun c => ?_)
        · have h := ht c
          refine G.sub [] rfl ?_
          exact w_X9_statement_J157 C hR  h
        · have h := hf c
          refine g_iconst C dX9_statement_153 rfl ?_
          refine g_goto (tgt := 158) C dX9_statement_154 (by decide) ?_
          refine G.sub [] rfl ?_
          exact w_X9_statement_J158 C hR  h
    · have h := c9 q
      refine g_tswIn (off := 133) (tgt := 159) C dX9_statement_26 g7 (by omega) (by omega) (by rw [q]; rfl) (by decide) ?_
      refine g_aload_n (q := 0) C dX9_statement_159 rfl rfl ?_
      refine g_getS (v := 5) C fX9_20 dX9_statement_160 kd_4 rfl ?_
      refine g_aload_n (q := 0) C dX9_statement_163 rfl rfl ?_
      obtain ⟨g32, h⟩ := h
      refine g_getM C fX9_24 dX9_statement_164 kd_4 (kd_in g32 (by decide)).1 ?_
      refine g_getS (v := (M 4 2) + 14) C fX9_98 dX9_statement_167 g32 rfl ?_
      refine g_iconst C dX9_statement_170 rfl ?_
      refine g_cVv (As := [vR Y ((M 4 2) + 14), vI 1]) C clX9_82 clvX2_readInto dX9_statement_171 kd_5 rfl (Nat.le_of_ble_eq_true rfl) rfl (by decide) (t_X2_readInto (Cx.ok C) h) (fun M33 h => ?_)
      refine g_aload_n (q := 0) C dX9_statement_174 rfl rfl ?_
      refine g_aload_n (q := 0) C dX9_statement_175 rfl rfl ?_
      obtain ⟨g34, h⟩ := h
      refine g_getM C fX9_24 dX9_statement_176 kd_4 (kd_in g34 (by decide)).1 ?_
      refine g_getS (v := (M33 4 2) + 14) C fX9_98 dX9_statement_179 g34 rfl ?_
      refine g_getI C fX9_86 (by decide) dX9_statement_182 (sub_8_13 g34) ?_
      refine g_iconst C dX9_statement_185 rfl ?_
      refine g_cVi (As := [vI (M33 ((M33 4 2) + 14) 2), vI 1]) C clX9_91 clvX9_begins dX9_statement_186 kd_4 rfl (Nat.le_of_ble_eq_true rfl) rfl (by decide) (t_X9_begins (Cx.ok C) h) (fun r36 M35 h => ?_)
      obtain ⟨g37, h⟩ := h
      obtain ⟨ht, hf⟩ := h
      refine g_if_eq (tgt := 207) C dX9_statement_189 (by decide) g37 (fun c => ?_) (fun c => ?_)
      · have h := ht c
        refine G.sub [] rfl ?_
        exact w_X9_statement_J207 C hR  h
      · have h := hf c
        refine g_aload_n (q := 0) C dX9_statement_192 rfl rfl ?_
        refine g_getS (v := 5) C fX9_20 dX9_statement_193 kd_4 rfl ?_
        refine g_iconst C dX9_statement_196 rfl ?_
        refine g_cVi (As := [vI 0]) C clX9_101 clvX2_sum dX9_statement_197 kd_5 rfl (Nat.le_of_ble_eq_true rfl) rfl (by decide) (t_X2_sum (Cx.ok C) h) (fun r39 M38 h => ?_)
        obtain ⟨g40, h⟩ := h
        obtain ⟨ht, hf⟩ := h
        refine g_if_eq (tgt := 207) C dX9_statement_200 (by decide) g40 (fun c => ?_) (fun c => ?_)
        · have h := ht c
          refine G.sub [] rfl ?_
          exact w_X9_statement_J207 C hR  h
        · have h := hf c
          refine g_iconst C dX9_statement_203 rfl ?_
          refine g_goto (tgt := 208) C dX9_statement_204 (by decide) ?_
          refine G.sub [] rfl ?_
          exact w_X9_statement_J208 C hR  h
    · have h := c10 q
      refine g_tswIn (off := 183) (tgt := 209) C dX9_statement_26 g7 (by omega) (by omega) (by rw [q]; rfl) (by decide) ?_
      refine g_aload_n (q := 0) C dX9_statement_209 rfl rfl ?_
      refine g_cVi (As := []) C clX9_104 clvX9_rain dX9_statement_210 kd_4 rfl (Nat.le_of_ble_eq_true rfl) rfl (by decide) (t_X9_rain (Cx.ok C) h) (fun r42 M41 h => ?_)
      obtain ⟨g43, h⟩ := h
      exact g_retz C hR dX9_statement_213 g43 h
    · have h := c11 q
      refine g_tswOut (tgt := 214) C dX9_statement_26 g7 q (by decide) ?_
      refine G.sub [0] rfl ?_
      exact w_X9_statement_J214 C hR  h
  · have h := hf c
    refine g_aload_n (q := 0) C dX9_statement_11 rfl rfl ?_
    refine g_getS (v := 1) C fX9_9 dX9_statement_12 kd_4 rfl ?_
    refine g_cVi (As := []) C clX9_57 clvX7_misplaced dX9_statement_15 kd_1 rfl (Nat.le_of_ble_eq_true rfl) rfl (by decide) (t_X7_misplaced (Cx.ok C) h) (fun r45 M44 h => ?_)
    obtain ⟨g46, h⟩ := h
    exact g_retz C hR dX9_statement_18 g46 h
