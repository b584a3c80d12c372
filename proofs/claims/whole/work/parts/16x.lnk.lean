/-! THE LINKS -/
theorem dsc_0 : (parseMethodDescriptor "(LMoonDials$Garden;LMoonDials$Walk;)V").map (fun q => q.parameters.length) = some 2 := by decide +kernel
theorem dsc_1 : (parseMethodDescriptor "([III)I").map (fun q => q.parameters.length) = some 3 := by decide +kernel
theorem dsc_2 : (parseMethodDescriptor "(LMoonDials$Game;I)I").map (fun q => q.parameters.length) = some 2 := by decide +kernel
theorem dsc_3 : (parseMethodDescriptor "(II)I").map (fun q => q.parameters.length) = some 2 := by decide +kernel
theorem dsc_4 : (parseMethodDescriptor "()V").map (fun q => q.parameters.length) = some 0 := by decide +kernel
theorem dsc_5 : (parseMethodDescriptor "(LMoonDials$Garden;)V").map (fun q => q.parameters.length) = some 1 := by decide +kernel
theorem dsc_6 : (parseMethodDescriptor "([I)V").map (fun q => q.parameters.length) = some 1 := by decide +kernel
theorem dsc_7 : (parseMethodDescriptor "(III)V").map (fun q => q.parameters.length) = some 3 := by decide +kernel
theorem dsc_8 : (parseMethodDescriptor "(LMoonDials$Laws;)V").map (fun q => q.parameters.length) = some 1 := by decide +kernel
theorem dsc_9 : (parseMethodDescriptor "(I)V").map (fun q => q.parameters.length) = some 1 := by decide +kernel
theorem dsc_10 : (parseMethodDescriptor "(I)Z").map (fun q => q.parameters.length) = some 1 := by decide +kernel
theorem dsc_11 : (parseMethodDescriptor "(I)I").map (fun q => q.parameters.length) = some 1 := by decide +kernel
theorem dsc_12 : (parseMethodDescriptor "([IIIII)I").map (fun q => q.parameters.length) = some 5 := by decide +kernel
theorem dsc_13 : (parseMethodDescriptor "([IIII)I").map (fun q => q.parameters.length) = some 4 := by decide +kernel
theorem dsc_14 : (parseMethodDescriptor "([IIIII)Z").map (fun q => q.parameters.length) = some 5 := by decide +kernel
theorem dsc_15 : (parseMethodDescriptor "()I").map (fun q => q.parameters.length) = some 0 := by decide +kernel
theorem dsc_16 : (parseMethodDescriptor "(LMoonDials$Tape;)I").map (fun q => q.parameters.length) = some 1 := by decide +kernel
theorem dsc_17 : (parseMethodDescriptor "()Z").map (fun q => q.parameters.length) = some 0 := by decide +kernel
theorem dsc_18 : (parseMethodDescriptor "()J").map (fun q => q.parameters.length) = some 0 := by decide +kernel
theorem dsc_19 : (parseMethodDescriptor "([JIJ)Z").map (fun q => q.parameters.length) = some 3 := by decide +kernel
theorem dsc_20 : (parseMethodDescriptor "(IIZ)V").map (fun q => q.parameters.length) = some 3 := by decide +kernel
theorem dsc_21 : (parseMethodDescriptor "(III)Z").map (fun q => q.parameters.length) = some 3 := by decide +kernel
theorem dsc_22 : (parseMethodDescriptor "(I[I)V").map (fun q => q.parameters.length) = some 2 := by decide +kernel
theorem dsc_23 : (parseMethodDescriptor "(III)I").map (fun q => q.parameters.length) = some 3 := by decide +kernel
theorem dsc_24 : (parseMethodDescriptor "(LMoonDials$Tallies;II)V").map (fun q => q.parameters.length) = some 3 := by decide +kernel
theorem dsc_25 : (parseMethodDescriptor "(I)J").map (fun q => q.parameters.length) = some 1 := by decide +kernel
theorem dsc_26 : (parseMethodDescriptor "(LMoonDials$Tape;)V").map (fun q => q.parameters.length) = some 1 := by decide +kernel
theorem dsc_27 : (parseMethodDescriptor "(LMoonDials$Tape;II)I").map (fun q => q.parameters.length) = some 3 := by decide +kernel
theorem dsc_28 : (parseMethodDescriptor "(J)I").map (fun q => q.parameters.length) = some 1 := by decide +kernel
theorem dsc_29 : (parseMethodDescriptor "(LMoonDials$Tape;I)I").map (fun q => q.parameters.length) = some 2 := by decide +kernel
theorem dsc_30 : (parseMethodDescriptor "(LMoonDials$Tape;II)J").map (fun q => q.parameters.length) = some 3 := by decide +kernel
theorem dsc_31 : (parseMethodDescriptor "(JI)J").map (fun q => q.parameters.length) = some 2 := by decide +kernel
theorem dsc_32 : (parseMethodDescriptor "(II)V").map (fun q => q.parameters.length) = some 2 := by decide +kernel
theorem dsc_33 : (parseMethodDescriptor "(II)Z").map (fun q => q.parameters.length) = some 2 := by decide +kernel
theorem dsc_34 : (parseMethodDescriptor "(IIIII)I").map (fun q => q.parameters.length) = some 5 := by decide +kernel
theorem dsc_35 : (parseMethodDescriptor "(IIII)I").map (fun q => q.parameters.length) = some 4 := by decide +kernel
theorem dsc_36 : (parseMethodDescriptor "(IIZ)I").map (fun q => q.parameters.length) = some 3 := by decide +kernel
theorem dsc_37 : (parseMethodDescriptor "(IIIIIII)J").map (fun q => q.parameters.length) = some 7 := by decide +kernel
theorem dsc_38 : (parseMethodDescriptor "(IIIJ)V").map (fun q => q.parameters.length) = some 4 := by decide +kernel
theorem dsc_39 : (parseMethodDescriptor "(Z)V").map (fun q => q.parameters.length) = some 1 := by decide +kernel
theorem dsc_40 : (parseMethodDescriptor "(IIIII)Z").map (fun q => q.parameters.length) = some 5 := by decide +kernel
theorem cls_0 : plainName "MoonDials" = true ∧ ("MoonDials" ≠ "java/lang/invoke/MethodHandle" ∧ "MoonDials" ≠ "java/lang/invoke/VarHandle") := ⟨by decide +kernel, by decide +kernel, by decide +kernel⟩
theorem cls_1 : plainName "MoonDials$Game" = true ∧ ("MoonDials$Game" ≠ "java/lang/invoke/MethodHandle" ∧ "MoonDials$Game" ≠ "java/lang/invoke/VarHandle") := ⟨by decide +kernel, by decide +kernel, by decide +kernel⟩
theorem cls_2 : plainName "MoonDials$Garden" = true ∧ ("MoonDials$Garden" ≠ "java/lang/invoke/MethodHandle" ∧ "MoonDials$Garden" ≠ "java/lang/invoke/VarHandle") := ⟨by decide +kernel, by decide +kernel, by decide +kernel⟩
theorem cls_3 : plainName "MoonDials$Laws" = true ∧ ("MoonDials$Laws" ≠ "java/lang/invoke/MethodHandle" ∧ "MoonDials$Laws" ≠ "java/lang/invoke/VarHandle") := ⟨by decide +kernel, by decide +kernel, by decide +kernel⟩
theorem cls_4 : plainName "MoonDials$Meetings" = true ∧ ("MoonDials$Meetings" ≠ "java/lang/invoke/MethodHandle" ∧ "MoonDials$Meetings" ≠ "java/lang/invoke/VarHandle") := ⟨by decide +kernel, by decide +kernel, by decide +kernel⟩
theorem cls_5 : plainName "MoonDials$Reader" = true ∧ ("MoonDials$Reader" ≠ "java/lang/invoke/MethodHandle" ∧ "MoonDials$Reader" ≠ "java/lang/invoke/VarHandle") := ⟨by decide +kernel, by decide +kernel, by decide +kernel⟩
theorem cls_6 : plainName "MoonDials$Riddle" = true ∧ ("MoonDials$Riddle" ≠ "java/lang/invoke/MethodHandle" ∧ "MoonDials$Riddle" ≠ "java/lang/invoke/VarHandle") := ⟨by decide +kernel, by decide +kernel, by decide +kernel⟩
theorem cls_7 : plainName "MoonDials$Shelf" = true ∧ ("MoonDials$Shelf" ≠ "java/lang/invoke/MethodHandle" ∧ "MoonDials$Shelf" ≠ "java/lang/invoke/VarHandle") := ⟨by decide +kernel, by decide +kernel, by decide +kernel⟩
theorem cls_8 : plainName "MoonDials$Tallies" = true ∧ ("MoonDials$Tallies" ≠ "java/lang/invoke/MethodHandle" ∧ "MoonDials$Tallies" ≠ "java/lang/invoke/VarHandle") := ⟨by decide +kernel, by decide +kernel, by decide +kernel⟩
theorem cls_9 : plainName "MoonDials$Tape" = true ∧ ("MoonDials$Tape" ≠ "java/lang/invoke/MethodHandle" ∧ "MoonDials$Tape" ≠ "java/lang/invoke/VarHandle") := ⟨by decide +kernel, by decide +kernel, by decide +kernel⟩
theorem cls_10 : plainName "MoonDials$Tokens" = true ∧ ("MoonDials$Tokens" ≠ "java/lang/invoke/MethodHandle" ∧ "MoonDials$Tokens" ≠ "java/lang/invoke/VarHandle") := ⟨by decide +kernel, by decide +kernel, by decide +kernel⟩
theorem cls_11 : plainName "MoonDials$Walk" = true ∧ ("MoonDials$Walk" ≠ "java/lang/invoke/MethodHandle" ∧ "MoonDials$Walk" ≠ "java/lang/invoke/VarHandle") := ⟨by decide +kernel, by decide +kernel, by decide +kernel⟩
theorem cls_12 : plainName "MoonDialsModel" = true ∧ ("MoonDialsModel" ≠ "java/lang/invoke/MethodHandle" ∧ "MoonDialsModel" ≠ "java/lang/invoke/VarHandle") := ⟨by decide +kernel, by decide +kernel, by decide +kernel⟩
theorem cls_13 : plainName "java/lang/Integer" = true ∧ ("java/lang/Integer" ≠ "java/lang/invoke/MethodHandle" ∧ "java/lang/Integer" ≠ "java/lang/invoke/VarHandle") := ⟨by decide +kernel, by decide +kernel, by decide +kernel⟩
theorem mok_0 : mMokP mi_0 := ⟨w_520, cls_1.1, cls_1.2, w_142, by decide, rfl, dsc_0, ⟨w_519, rfl, rfl⟩⟩
theorem mok_1 : mMokP mi_1 := ⟨w_1222, cls_1.1, cls_1.2, w_142, by decide, rfl, dsc_1, ⟨by decide, w_1220, w_1221⟩⟩
theorem mok_2 : mMokP mi_2 := ⟨w_1227, cls_1.1, cls_1.2, w_142, by decide, rfl, dsc_2, w_1226⟩
theorem mok_3 : mMokP mi_3 := ⟨w_1231, cls_1.1, cls_1.2, w_142, by decide, rfl, dsc_3, ⟨by decide, w_1230, w_37⟩⟩
theorem mok_4 : mMokP mi_4 := ⟨w_176, cls_2.1, cls_2.2, w_129, by decide, rfl, dsc_4, ⟨w_175, rfl, rfl⟩⟩
theorem mok_5 : mMokP mi_5 := ⟨w_746, cls_2.1, cls_2.2, w_129, by decide, rfl, dsc_4, ⟨by decide, w_744, w_745⟩⟩
theorem mok_6 : mMokP mi_6 := ⟨w_840, cls_2.1, cls_2.2, w_129, by decide, rfl, dsc_4, ⟨by decide, w_838, w_839⟩⟩
theorem mok_7 : mMokP mi_7 := ⟨w_851, cls_2.1, cls_2.2, w_129, by decide, rfl, dsc_5, ⟨by decide, w_849, w_850⟩⟩
theorem mok_8 : mMokP mi_8 := ⟨w_577, cls_2.1, cls_2.2, w_129, by decide, rfl, dsc_6, ⟨by decide, w_575, w_576⟩⟩
theorem mok_9 : mMokP mi_9 := ⟨w_182, cls_3.1, cls_3.2, w_130, by decide, rfl, dsc_4, ⟨w_181, rfl, rfl⟩⟩
theorem mok_10 : mMokP mi_10 := ⟨w_187, cls_3.1, cls_3.2, w_130, by decide, rfl, dsc_4, ⟨by decide, w_185, w_186⟩⟩
theorem mok_11 : mMokP mi_11 := ⟨w_191, cls_3.1, cls_3.2, w_130, by decide, rfl, dsc_7, ⟨by decide, w_190, w_0⟩⟩
theorem mok_12 : mMokP mi_12 := ⟨w_855, cls_3.1, cls_3.2, w_130, by decide, rfl, dsc_8, ⟨by decide, w_853, w_854⟩⟩
theorem mok_13 : mMokP mi_13 := ⟨w_195, cls_3.1, cls_3.2, w_130, by decide, rfl, dsc_9, ⟨by decide, w_193, w_194⟩⟩
theorem mok_14 : mMokP mi_14 := ⟨w_199, cls_3.1, cls_3.2, w_130, by decide, rfl, dsc_3, ⟨by decide, w_197, w_198⟩⟩
theorem mok_15 : mMokP mi_15 := ⟨w_836, cls_3.1, cls_3.2, w_130, by decide, rfl, dsc_9, ⟨by decide, w_834, w_835⟩⟩
theorem mok_16 : mMokP mi_16 := ⟨w_956, cls_3.1, cls_3.2, w_130, by decide, rfl, dsc_10, ⟨by decide, w_954, w_955⟩⟩
theorem mok_17 : mMokP mi_17 := ⟨w_885, cls_3.1, cls_3.2, w_130, by decide, rfl, dsc_11, ⟨by decide, w_883, w_884⟩⟩
theorem mok_18 : mMokP mi_18 := ⟨w_469, cls_4.1, cls_4.2, w_140, by decide, rfl, dsc_0, ⟨w_468, rfl, rfl⟩⟩
theorem mok_19 : mMokP mi_19 := ⟨w_1041, cls_4.1, cls_4.2, w_140, by decide, rfl, dsc_3, ⟨by decide, w_1039, w_1040⟩⟩
theorem mok_20 : mMokP mi_20 := ⟨w_1046, cls_4.1, cls_4.2, w_140, by decide, rfl, dsc_11, ⟨by decide, w_1045, w_30⟩⟩
theorem mok_21 : mMokP mi_21 := ⟨w_1108, cls_4.1, cls_4.2, w_140, by decide, rfl, dsc_12, ⟨by decide, w_1106, w_1107⟩⟩
theorem mok_22 : mMokP mi_22 := ⟨w_1131, cls_4.1, cls_4.2, w_140, by decide, rfl, dsc_13, ⟨by decide, w_1129, w_1130⟩⟩
theorem mok_23 : mMokP mi_23 := ⟨w_1113, cls_4.1, cls_4.2, w_140, by decide, rfl, dsc_14, ⟨by decide, w_1112, w_33⟩⟩
theorem mok_24 : mMokP mi_24 := ⟨w_1139, cls_4.1, cls_4.2, w_140, by decide, rfl, dsc_15, ⟨by decide, w_1137, w_1138⟩⟩
theorem mok_25 : mMokP mi_25 := ⟨w_1143, cls_4.1, cls_4.2, w_140, by decide, rfl, dsc_15, ⟨by decide, w_1142, w_34⟩⟩
theorem mok_26 : mMokP mi_26 := ⟨w_1152, cls_4.1, cls_4.2, w_140, by decide, rfl, dsc_11, ⟨by decide, w_1150, w_1151⟩⟩
theorem mok_27 : mMokP mi_27 := ⟨w_288, cls_5.1, cls_5.2, w_131, by decide, rfl, dsc_4, ⟨w_287, rfl, rfl⟩⟩
theorem mok_28 : mMokP mi_28 := ⟨w_646, cls_5.1, cls_5.2, w_131, by decide, rfl, dsc_16, ⟨by decide, w_644, w_645⟩⟩
theorem mok_29 : mMokP mi_29 := ⟨w_847, cls_5.1, cls_5.2, w_131, by decide, rfl, dsc_15, ⟨by decide, w_845, w_846⟩⟩
theorem mok_30 : mMokP mi_30 := ⟨w_755, cls_5.1, cls_5.2, w_131, by decide, rfl, dsc_4, ⟨by decide, w_754, w_3⟩⟩
theorem mok_31 : mMokP mi_31 := ⟨w_759, cls_5.1, cls_5.2, w_131, by decide, rfl, dsc_4, ⟨by decide, w_758, w_4⟩⟩
theorem mok_32 : mMokP mi_32 := ⟨w_787, cls_5.1, cls_5.2, w_131, by decide, rfl, dsc_4, ⟨by decide, w_786, w_9⟩⟩
theorem mok_33 : mMokP mi_33 := ⟨w_798, cls_5.1, cls_5.2, w_131, by decide, rfl, dsc_4, ⟨by decide, w_797, w_11⟩⟩
theorem mok_34 : mMokP mi_34 := ⟨w_806, cls_5.1, cls_5.2, w_131, by decide, rfl, dsc_9, ⟨by decide, w_805, w_13⟩⟩
theorem mok_35 : mMokP mi_35 := ⟨w_811, cls_5.1, cls_5.2, w_131, by decide, rfl, dsc_4, ⟨by decide, w_810, w_14⟩⟩
theorem mok_36 : mMokP mi_36 := ⟨w_815, cls_5.1, cls_5.2, w_131, by decide, rfl, dsc_17, ⟨by decide, w_814, w_15⟩⟩
theorem mok_37 : mMokP mi_37 := ⟨w_824, cls_5.1, cls_5.2, w_131, by decide, rfl, dsc_17, ⟨by decide, w_823, w_17⟩⟩
theorem mok_38 : mMokP mi_38 := ⟨w_819, cls_5.1, cls_5.2, w_131, by decide, rfl, dsc_9, ⟨by decide, w_818, w_16⟩⟩
theorem mok_39 : mMokP mi_39 := ⟨w_831, cls_5.1, cls_5.2, w_131, by decide, rfl, dsc_9, ⟨by decide, w_830, w_18⟩⟩
theorem mok_40 : mMokP mi_40 := ⟨w_827, cls_5.1, cls_5.2, w_131, by decide, rfl, dsc_11, w_826⟩
theorem mok_41 : mMokP mi_41 := ⟨w_763, cls_5.1, cls_5.2, w_131, by decide, rfl, dsc_10, ⟨by decide, w_762, w_5⟩⟩
theorem mok_42 : mMokP mi_42 := ⟨w_771, cls_5.1, cls_5.2, w_131, by decide, rfl, dsc_3, ⟨by decide, w_770, w_7⟩⟩
theorem mok_43 : mMokP mi_43 := ⟨w_791, cls_5.1, cls_5.2, w_131, by decide, rfl, dsc_18, ⟨by decide, w_790, w_10⟩⟩
theorem mok_44 : mMokP mi_44 := ⟨w_802, cls_5.1, cls_5.2, w_131, by decide, rfl, dsc_15, ⟨by decide, w_801, w_12⟩⟩
theorem mok_45 : mMokP mi_45 := ⟨w_794, cls_5.1, cls_5.2, w_131, by decide, rfl, dsc_19, w_793⟩
theorem mok_46 : mMokP mi_46 := ⟨w_767, cls_5.1, cls_5.2, w_131, by decide, rfl, dsc_9, ⟨by decide, w_766, w_6⟩⟩
theorem mok_47 : mMokP mi_47 := ⟨w_779, cls_5.1, cls_5.2, w_131, by decide, rfl, dsc_9, ⟨by decide, w_778, w_8⟩⟩
theorem mok_48 : mMokP mi_48 := ⟨w_548, cls_6.1, cls_6.2, w_143, by decide, rfl, dsc_0, ⟨w_547, rfl, rfl⟩⟩
theorem mok_49 : mMokP mi_49 := ⟨w_1263, cls_6.1, cls_6.2, w_143, by decide, rfl, dsc_20, ⟨by decide, w_1261, w_1262⟩⟩
theorem mok_50 : mMokP mi_50 := ⟨w_1275, cls_6.1, cls_6.2, w_143, by decide, rfl, dsc_13, ⟨by decide, w_1273, w_1274⟩⟩
theorem mok_51 : mMokP mi_51 := ⟨w_1281, cls_6.1, cls_6.2, w_143, by decide, rfl, dsc_21, ⟨by decide, w_1280, w_38⟩⟩
theorem mok_52 : mMokP mi_52 := ⟨w_1290, cls_6.1, cls_6.2, w_143, by decide, rfl, dsc_11, ⟨by decide, w_1288, w_1289⟩⟩
theorem mok_53 : mMokP mi_53 := ⟨w_1294, cls_6.1, cls_6.2, w_143, by decide, rfl, dsc_3, ⟨by decide, w_1293, w_39⟩⟩
theorem mok_54 : mMokP mi_54 := ⟨w_410, cls_7.1, cls_7.2, w_137, by decide, rfl, dsc_9, ⟨w_409, rfl, rfl⟩⟩
theorem mok_55 : mMokP mi_55 := ⟨w_984, cls_7.1, cls_7.2, w_137, by decide, rfl, dsc_22, ⟨by decide, w_982, w_983⟩⟩
theorem mok_56 : mMokP mi_56 := ⟨w_1028, cls_7.1, cls_7.2, w_137, by decide, rfl, dsc_22, ⟨by decide, w_1026, w_1027⟩⟩
theorem mok_57 : mMokP mi_57 := ⟨w_490, cls_8.1, cls_8.2, w_141, by decide, rfl, dsc_0, ⟨w_489, rfl, rfl⟩⟩
theorem mok_58 : mMokP mi_58 := ⟨w_1059, cls_8.1, cls_8.2, w_141, by decide, rfl, dsc_23, ⟨by decide, w_1057, w_1058⟩⟩
theorem mok_59 : mMokP mi_59 := ⟨w_1197, cls_8.1, cls_8.2, w_141, by decide, rfl, dsc_23, ⟨by decide, w_1195, w_1196⟩⟩
theorem mok_60 : mMokP mi_60 := ⟨w_1070, cls_8.1, cls_8.2, w_141, by decide, rfl, dsc_3, ⟨by decide, w_1068, w_1069⟩⟩
theorem mok_61 : mMokP mi_61 := ⟨w_1079, cls_8.1, cls_8.2, w_141, by decide, rfl, dsc_3, ⟨by decide, w_1077, w_1078⟩⟩
theorem mok_62 : mMokP mi_62 := ⟨w_1160, cls_8.1, cls_8.2, w_141, by decide, rfl, dsc_13, ⟨by decide, w_1158, w_1159⟩⟩
theorem mok_63 : mMokP mi_63 := ⟨w_1189, cls_8.1, cls_8.2, w_141, by decide, rfl, dsc_11, ⟨by decide, w_1187, w_1188⟩⟩
theorem mok_64 : mMokP mi_64 := ⟨w_1170, cls_8.1, cls_8.2, w_141, by decide, rfl, dsc_11, ⟨by decide, w_1168, w_1169⟩⟩
theorem mok_65 : mMokP mi_65 := ⟨w_1181, cls_8.1, cls_8.2, w_141, by decide, rfl, dsc_10, ⟨by decide, w_1180, w_36⟩⟩
theorem mok_66 : mMokP mi_66 := ⟨w_1174, cls_8.1, cls_8.2, w_141, by decide, rfl, dsc_9, ⟨by decide, w_1173, w_35⟩⟩
theorem mok_67 : mMokP mi_67 := ⟨w_1206, cls_8.1, cls_8.2, w_141, by decide, rfl, dsc_11, ⟨by decide, w_1204, w_1205⟩⟩
theorem mok_68 : mMokP mi_68 := ⟨w_1209, cls_8.1, cls_8.2, w_141, by decide, rfl, dsc_24, w_1208⟩
theorem mok_69 : mMokP mi_69 := ⟨w_1177, cls_8.1, cls_8.2, w_141, by decide, rfl, dsc_6, w_1176⟩
theorem mok_70 : mMokP mi_70 := ⟨w_160, cls_9.1, cls_9.2, w_128, by decide, rfl, dsc_4, ⟨w_159, rfl, rfl⟩⟩
theorem mok_71 : mMokP mi_71 := ⟨w_634, cls_9.1, cls_9.2, w_128, by decide, rfl, dsc_9, ⟨by decide, w_632, w_633⟩⟩
theorem mok_72 : mMokP mi_72 := ⟨w_657, cls_9.1, cls_9.2, w_128, by decide, rfl, dsc_11, ⟨by decide, w_655, w_656⟩⟩
theorem mok_73 : mMokP mi_73 := ⟨w_296, cls_10.1, cls_10.2, w_132, by decide, rfl, dsc_4, ⟨w_295, rfl, rfl⟩⟩
theorem mok_74 : mMokP mi_74 := ⟨w_751, cls_10.1, cls_10.2, w_132, by decide, rfl, dsc_11, ⟨by decide, w_749, w_750⟩⟩
theorem mok_75 : mMokP mi_75 := ⟨w_783, cls_10.1, cls_10.2, w_132, by decide, rfl, dsc_11, ⟨by decide, w_781, w_782⟩⟩
theorem mok_76 : mMokP mi_76 := ⟨w_775, cls_10.1, cls_10.2, w_132, by decide, rfl, dsc_25, ⟨by decide, w_773, w_774⟩⟩
theorem mok_77 : mMokP mi_77 := ⟨w_650, cls_10.1, cls_10.2, w_132, by decide, rfl, dsc_26, ⟨by decide, w_648, w_649⟩⟩
theorem mok_78 : mMokP mi_78 := ⟨w_673, cls_10.1, cls_10.2, w_132, by decide, rfl, dsc_27, ⟨by decide, w_672, w_1⟩⟩
theorem mok_79 : mMokP mi_79 := ⟨w_680, cls_10.1, cls_10.2, w_132, by decide, rfl, dsc_28, ⟨by decide, w_679, w_2⟩⟩
theorem mok_80 : mMokP mi_80 := ⟨w_663, cls_10.1, cls_10.2, w_132, by decide, rfl, dsc_29, w_662⟩
theorem mok_81 : mMokP mi_81 := ⟨w_653, cls_10.1, cls_10.2, w_132, by decide, rfl, dsc_29, w_652⟩
theorem mok_82 : mMokP mi_82 := ⟨w_676, cls_10.1, cls_10.2, w_132, by decide, rfl, dsc_30, w_675⟩
theorem mok_83 : mMokP mi_83 := ⟨w_741, cls_10.1, cls_10.2, w_132, by decide, rfl, dsc_30, w_740⟩
theorem mok_84 : mMokP mi_84 := ⟨w_349, cls_10.1, cls_10.2, w_132, by decide, rfl, dsc_31, w_348⟩
theorem mok_85 : mMokP mi_85 := ⟨w_666, cls_10.1, cls_10.2, w_132, by decide, rfl, dsc_10, w_665⟩
theorem mok_86 : mMokP mi_86 := ⟨w_669, cls_10.1, cls_10.2, w_132, by decide, rfl, dsc_10, w_668⟩
theorem mok_87 : mMokP mi_87 := ⟨w_660, cls_10.1, cls_10.2, w_132, by decide, rfl, dsc_10, w_659⟩
theorem mok_88 : mMokP mi_88 := ⟨w_426, cls_11.1, cls_11.2, w_139, by decide, rfl, dsc_5, ⟨w_425, rfl, rfl⟩⟩
theorem mok_89 : mMokP mi_89 := ⟨w_872, cls_11.1, cls_11.2, w_139, by decide, rfl, dsc_6, ⟨by decide, w_870, w_871⟩⟩
theorem mok_90 : mMokP mi_90 := ⟨w_952, cls_11.1, cls_11.2, w_139, by decide, rfl, dsc_9, ⟨by decide, w_950, w_951⟩⟩
theorem mok_91 : mMokP mi_91 := ⟨w_963, cls_11.1, cls_11.2, w_139, by decide, rfl, dsc_3, ⟨by decide, w_962, w_27⟩⟩
theorem mok_92 : mMokP mi_92 := ⟨w_1019, cls_11.1, cls_11.2, w_139, by decide, rfl, dsc_4, ⟨by decide, w_1017, w_1018⟩⟩
theorem mok_93 : mMokP mi_93 := ⟨w_1004, cls_11.1, cls_11.2, w_139, by decide, rfl, dsc_4, ⟨by decide, w_1002, w_1003⟩⟩
theorem mok_94 : mMokP mi_94 := ⟨w_1244, cls_11.1, cls_11.2, w_139, by decide, rfl, dsc_32, ⟨by decide, w_1242, w_1243⟩⟩
theorem mok_95 : mMokP mi_95 := ⟨w_1009, cls_11.1, cls_11.2, w_139, by decide, rfl, dsc_3, ⟨by decide, w_1007, w_1008⟩⟩
theorem mok_96 : mMokP mi_96 := ⟨w_971, cls_11.1, cls_11.2, w_139, by decide, rfl, dsc_11, ⟨by decide, w_969, w_970⟩⟩
theorem mok_97 : mMokP mi_97 := ⟨w_925, cls_11.1, cls_11.2, w_139, by decide, rfl, dsc_3, ⟨by decide, w_923, w_924⟩⟩
theorem mok_98 : mMokP mi_98 := ⟨w_877, cls_11.1, cls_11.2, w_139, by decide, rfl, dsc_11, ⟨by decide, w_875, w_876⟩⟩
theorem mok_99 : mMokP mi_99 := ⟨w_881, cls_11.1, cls_11.2, w_139, by decide, rfl, dsc_32, ⟨by decide, w_880, w_20⟩⟩
theorem mok_100 : mMokP mi_100 := ⟨w_929, cls_11.1, cls_11.2, w_139, by decide, rfl, dsc_11, ⟨by decide, w_928, w_24⟩⟩
theorem mok_101 : mMokP mi_101 := ⟨w_892, cls_11.1, cls_11.2, w_139, by decide, rfl, dsc_33, ⟨by decide, w_890, w_891⟩⟩
theorem mok_102 : mMokP mi_102 := ⟨w_896, cls_11.1, cls_11.2, w_139, by decide, rfl, dsc_11, ⟨by decide, w_895, w_21⟩⟩
theorem mok_103 : mMokP mi_103 := ⟨w_152, cls_0.1, cls_0.2, w_127, by decide, rfl, dsc_4, ⟨w_151, rfl, rfl⟩⟩
theorem mok_104 : mMokP mi_104 := ⟨w_630, cls_0.1, cls_0.2, w_127, by decide, rfl, dsc_34, ⟨by decide, w_628, w_629⟩⟩
theorem mok_105 : mMokP mi_105 := ⟨w_638, cls_0.1, cls_0.2, w_127, by decide, rfl, dsc_11, ⟨by decide, w_636, w_637⟩⟩
theorem mok_106 : mMokP mi_106 := ⟨w_642, cls_0.1, cls_0.2, w_127, by decide, rfl, dsc_15, ⟨by decide, w_640, w_641⟩⟩
theorem mok_107 : mMokP mi_107 := ⟨w_860, cls_0.1, cls_0.2, w_127, by decide, rfl, dsc_15, ⟨by decide, w_858, w_859⟩⟩
theorem mok_108 : mMokP mi_108 := ⟨w_864, cls_0.1, cls_0.2, w_127, by decide, rfl, dsc_3, ⟨by decide, w_862, w_863⟩⟩
theorem mok_109 : mMokP mi_109 := ⟨w_909, cls_0.1, cls_0.2, w_127, by decide, rfl, dsc_3, ⟨by decide, w_907, w_908⟩⟩
theorem mok_110 : mMokP mi_110 := ⟨w_917, cls_0.1, cls_0.2, w_127, by decide, rfl, dsc_3, ⟨by decide, w_915, w_916⟩⟩
theorem mok_111 : mMokP mi_111 := ⟨w_933, cls_0.1, cls_0.2, w_127, by decide, rfl, dsc_3, ⟨by decide, w_931, w_932⟩⟩
theorem mok_112 : mMokP mi_112 := ⟨w_944, cls_0.1, cls_0.2, w_127, by decide, rfl, dsc_11, ⟨by decide, w_942, w_943⟩⟩
theorem mok_113 : mMokP mi_113 := ⟨w_975, cls_0.1, cls_0.2, w_127, by decide, rfl, dsc_3, ⟨by decide, w_973, w_974⟩⟩
theorem mok_114 : mMokP mi_114 := ⟨w_989, cls_0.1, cls_0.2, w_127, by decide, rfl, dsc_33, ⟨by decide, w_987, w_988⟩⟩
theorem mok_115 : mMokP mi_115 := ⟨w_993, cls_0.1, cls_0.2, w_127, by decide, rfl, dsc_33, ⟨by decide, w_991, w_992⟩⟩
theorem mok_116 : mMokP mi_116 := ⟨w_997, cls_0.1, cls_0.2, w_127, by decide, rfl, dsc_11, ⟨by decide, w_995, w_996⟩⟩
theorem mok_117 : mMokP mi_117 := ⟨w_1024, cls_0.1, cls_0.2, w_127, by decide, rfl, dsc_17, ⟨by decide, w_1022, w_1023⟩⟩
theorem mok_118 : mMokP mi_118 := ⟨w_1032, cls_0.1, cls_0.2, w_127, by decide, rfl, dsc_3, ⟨by decide, w_1030, w_1031⟩⟩
theorem mok_119 : mMokP mi_119 := ⟨w_1055, cls_0.1, cls_0.2, w_127, by decide, rfl, dsc_23, ⟨by decide, w_1053, w_1054⟩⟩
theorem mok_120 : mMokP mi_120 := ⟨w_1066, cls_0.1, cls_0.2, w_127, by decide, rfl, dsc_3, ⟨by decide, w_1064, w_1065⟩⟩
theorem mok_121 : mMokP mi_121 := ⟨w_1075, cls_0.1, cls_0.2, w_127, by decide, rfl, dsc_3, ⟨by decide, w_1073, w_1074⟩⟩
theorem mok_122 : mMokP mi_122 := ⟨w_1084, cls_0.1, cls_0.2, w_127, by decide, rfl, dsc_11, ⟨by decide, w_1082, w_1083⟩⟩
theorem mok_123 : mMokP mi_123 := ⟨w_1092, cls_0.1, cls_0.2, w_127, by decide, rfl, dsc_3, ⟨by decide, w_1090, w_1091⟩⟩
theorem mok_124 : mMokP mi_124 := ⟨w_1096, cls_0.1, cls_0.2, w_127, by decide, rfl, dsc_15, ⟨by decide, w_1094, w_1095⟩⟩
theorem mok_125 : mMokP mi_125 := ⟨w_1104, cls_0.1, cls_0.2, w_127, by decide, rfl, dsc_23, ⟨by decide, w_1102, w_1103⟩⟩
theorem mok_126 : mMokP mi_126 := ⟨w_1119, cls_0.1, cls_0.2, w_127, by decide, rfl, dsc_23, ⟨by decide, w_1117, w_1118⟩⟩
theorem mok_127 : mMokP mi_127 := ⟨w_1123, cls_0.1, cls_0.2, w_127, by decide, rfl, dsc_35, ⟨by decide, w_1121, w_1122⟩⟩
theorem mok_128 : mMokP mi_128 := ⟨w_1127, cls_0.1, cls_0.2, w_127, by decide, rfl, dsc_23, ⟨by decide, w_1125, w_1126⟩⟩
theorem mok_129 : mMokP mi_129 := ⟨w_1135, cls_0.1, cls_0.2, w_127, by decide, rfl, dsc_11, ⟨by decide, w_1133, w_1134⟩⟩
theorem mok_130 : mMokP mi_130 := ⟨w_1148, cls_0.1, cls_0.2, w_127, by decide, rfl, dsc_11, ⟨by decide, w_1146, w_1147⟩⟩
theorem mok_131 : mMokP mi_131 := ⟨w_1156, cls_0.1, cls_0.2, w_127, by decide, rfl, dsc_35, ⟨by decide, w_1154, w_1155⟩⟩
theorem mok_132 : mMokP mi_132 := ⟨w_1166, cls_0.1, cls_0.2, w_127, by decide, rfl, dsc_3, ⟨by decide, w_1164, w_1165⟩⟩
theorem mok_133 : mMokP mi_133 := ⟨w_1185, cls_0.1, cls_0.2, w_127, by decide, rfl, dsc_3, ⟨by decide, w_1183, w_1184⟩⟩
theorem mok_134 : mMokP mi_134 := ⟨w_1193, cls_0.1, cls_0.2, w_127, by decide, rfl, dsc_23, ⟨by decide, w_1191, w_1192⟩⟩
theorem mok_135 : mMokP mi_135 := ⟨w_1202, cls_0.1, cls_0.2, w_127, by decide, rfl, dsc_3, ⟨by decide, w_1200, w_1201⟩⟩
theorem mok_136 : mMokP mi_136 := ⟨w_1214, cls_0.1, cls_0.2, w_127, by decide, rfl, dsc_11, ⟨by decide, w_1212, w_1213⟩⟩
theorem mok_137 : mMokP mi_137 := ⟨w_1218, cls_0.1, cls_0.2, w_127, by decide, rfl, dsc_23, ⟨by decide, w_1216, w_1217⟩⟩
theorem mok_138 : mMokP mi_138 := ⟨w_1240, cls_0.1, cls_0.2, w_127, by decide, rfl, dsc_3, ⟨by decide, w_1238, w_1239⟩⟩
theorem mok_139 : mMokP mi_139 := ⟨w_1250, cls_0.1, cls_0.2, w_127, by decide, rfl, dsc_3, ⟨by decide, w_1248, w_1249⟩⟩
theorem mok_140 : mMokP mi_140 := ⟨w_1254, cls_0.1, cls_0.2, w_127, by decide, rfl, dsc_35, ⟨by decide, w_1252, w_1253⟩⟩
theorem mok_141 : mMokP mi_141 := ⟨w_1259, cls_0.1, cls_0.2, w_127, by decide, rfl, dsc_36, ⟨by decide, w_1257, w_1258⟩⟩
theorem mok_142 : mMokP mi_142 := ⟨w_1267, cls_0.1, cls_0.2, w_127, by decide, rfl, dsc_15, ⟨by decide, w_1265, w_1266⟩⟩
theorem mok_143 : mMokP mi_143 := ⟨w_1271, cls_0.1, cls_0.2, w_127, by decide, rfl, dsc_23, ⟨by decide, w_1269, w_1270⟩⟩
theorem mok_144 : mMokP mi_144 := ⟨w_1286, cls_0.1, cls_0.2, w_127, by decide, rfl, dsc_23, ⟨by decide, w_1284, w_1285⟩⟩
theorem mok_145 : mMokP mi_145 := ⟨w_1300, cls_0.1, cls_0.2, w_127, by decide, rfl, dsc_10, ⟨by decide, w_1298, w_1299⟩⟩
theorem mok_146 : mMokP mi_146 := ⟨w_1304, cls_0.1, cls_0.2, w_127, by decide, rfl, dsc_10, ⟨by decide, w_1302, w_1303⟩⟩
theorem mok_147 : mMokP mi_147 := ⟨w_1308, cls_0.1, cls_0.2, w_127, by decide, rfl, dsc_11, ⟨by decide, w_1306, w_1307⟩⟩
theorem mok_148 : mMokP mi_148 := ⟨w_1332, cls_0.1, cls_0.2, w_127, by decide, rfl, dsc_11, ⟨by decide, w_1331, w_45⟩⟩
theorem mok_149 : mMokP mi_149 := ⟨w_1312, cls_0.1, cls_0.2, w_127, by decide, rfl, dsc_15, ⟨by decide, w_1311, w_40⟩⟩
theorem mok_150 : mMokP mi_150 := ⟨w_1320, cls_0.1, cls_0.2, w_127, by decide, rfl, dsc_15, ⟨by decide, w_1319, w_42⟩⟩
theorem mok_151 : mMokP mi_151 := ⟨w_1336, cls_0.1, cls_0.2, w_127, by decide, rfl, dsc_15, ⟨by decide, w_1335, w_46⟩⟩
theorem mok_152 : mMokP mi_152 := ⟨w_1341, cls_0.1, cls_0.2, w_127, by decide, rfl, dsc_15, ⟨by decide, w_1340, w_47⟩⟩
theorem mok_153 : mMokP mi_153 := ⟨w_1316, cls_0.1, cls_0.2, w_127, by decide, rfl, dsc_15, ⟨by decide, w_1315, w_41⟩⟩
theorem mok_154 : mMokP mi_154 := ⟨w_1324, cls_0.1, cls_0.2, w_127, by decide, rfl, dsc_15, ⟨by decide, w_1323, w_43⟩⟩
theorem mok_155 : mMokP mi_155 := ⟨w_1328, cls_0.1, cls_0.2, w_127, by decide, rfl, dsc_15, ⟨by decide, w_1327, w_44⟩⟩
theorem mok_156 : mMokP mi_156 := ⟨w_948, cls_0.1, cls_0.2, w_127, by decide, rfl, dsc_4, ⟨by decide, w_947, w_26⟩⟩
theorem mok_157 : mMokP mi_157 := ⟨w_979, cls_0.1, cls_0.2, w_127, by decide, rfl, dsc_4, ⟨by decide, w_978, w_28⟩⟩
theorem mok_158 : mMokP mi_158 := ⟨w_1088, cls_0.1, cls_0.2, w_127, by decide, rfl, dsc_3, ⟨by decide, w_1087, w_31⟩⟩
theorem mok_159 : mMokP mi_159 := ⟨w_1100, cls_0.1, cls_0.2, w_127, by decide, rfl, dsc_10, ⟨by decide, w_1099, w_32⟩⟩
theorem mok_160 : mMokP mi_160 := ⟨w_868, cls_0.1, cls_0.2, w_127, by decide, rfl, dsc_10, ⟨by decide, w_867, w_19⟩⟩
theorem mok_161 : mMokP mi_161 := ⟨w_921, cls_0.1, cls_0.2, w_127, by decide, rfl, dsc_10, ⟨by decide, w_920, w_23⟩⟩
theorem mok_162 : mMokP mi_162 := ⟨w_937, cls_0.1, cls_0.2, w_127, by decide, rfl, dsc_33, ⟨by decide, w_936, w_25⟩⟩
theorem mok_163 : mMokP mi_163 := ⟨w_913, cls_0.1, cls_0.2, w_127, by decide, rfl, dsc_10, ⟨by decide, w_912, w_22⟩⟩
theorem mok_164 : mMokP mi_164 := ⟨w_1036, cls_0.1, cls_0.2, w_127, by decide, rfl, dsc_10, ⟨by decide, w_1035, w_29⟩⟩
theorem mok_165 : mMokP mi_165 := ⟨w_1000, cls_0.1, cls_0.2, w_127, by decide, rfl, dsc_33, w_999⟩
theorem mok_166 : mMokP mi_166 := ⟨w_843, cls_0.1, cls_0.2, w_127, by decide, rfl, dsc_3, w_842⟩
theorem mok_167 : mMokP mi_167 := ⟨w_888, cls_0.1, cls_0.2, w_127, by decide, rfl, dsc_3, w_887⟩
theorem mok_168 : mMokP mi_168 := ⟨w_940, cls_0.1, cls_0.2, w_127, by decide, rfl, dsc_3, w_939⟩
theorem mok_169 : mMokP mi_169 := ⟨w_967, cls_0.1, cls_0.2, w_127, by decide, rfl, dsc_11, w_966⟩
theorem mok_170 : mMokP mi_170 := ⟨w_1051, cls_0.1, cls_0.2, w_127, by decide, rfl, dsc_11, w_1050⟩
theorem mok_171 : mMokP mi_171 := ⟨w_899, cls_0.1, cls_0.2, w_127, by decide, rfl, dsc_23, w_898⟩
theorem mok_172 : mMokP mi_172 := ⟨w_902, cls_0.1, cls_0.2, w_127, by decide, rfl, dsc_3, w_901⟩
theorem mok_173 : mMokP mi_173 := ⟨w_1346, cls_12.1, cls_12.2, w_145, by decide, rfl, dsc_4, ⟨w_1345, rfl, rfl⟩⟩
theorem mok_174 : mMokP mi_174 := ⟨w_1581, cls_12.1, cls_12.2, w_145, by decide, rfl, dsc_34, ⟨by decide, w_1579, w_1580⟩⟩
theorem mok_175 : mMokP mi_175 := ⟨w_1585, cls_12.1, cls_12.2, w_145, by decide, rfl, dsc_9, ⟨by decide, w_1584, w_52⟩⟩
theorem mok_176 : mMokP mi_176 := ⟨w_1589, cls_12.1, cls_12.2, w_145, by decide, rfl, dsc_11, ⟨by decide, w_1587, w_1588⟩⟩
theorem mok_177 : mMokP mi_177 := ⟨w_1601, cls_12.1, cls_12.2, w_145, by decide, rfl, dsc_11, ⟨by decide, w_1600, w_54⟩⟩
theorem mok_178 : mMokP mi_178 := ⟨w_1611, cls_12.1, cls_12.2, w_145, by decide, rfl, dsc_10, w_1610⟩
theorem mok_179 : mMokP mi_179 := ⟨w_1608, cls_12.1, cls_12.2, w_145, by decide, rfl, dsc_10, w_1607⟩
theorem mok_180 : mMokP mi_180 := ⟨w_1357, cls_12.1, cls_12.2, w_145, by decide, rfl, dsc_31, w_1356⟩
theorem mok_181 : mMokP mi_181 := ⟨w_1354, cls_12.1, cls_12.2, w_145, by decide, rfl, dsc_37, w_1353⟩
theorem mok_182 : mMokP mi_182 := ⟨w_1605, cls_12.1, cls_12.2, w_145, by decide, rfl, dsc_38, ⟨by decide, w_1604, w_55⟩⟩
theorem mok_183 : mMokP mi_183 := ⟨w_1597, cls_12.1, cls_12.2, w_145, by decide, rfl, dsc_4, ⟨by decide, w_1596, w_53⟩⟩
theorem mok_184 : mMokP mi_184 := ⟨w_1615, cls_12.1, cls_12.2, w_145, by decide, rfl, dsc_23, ⟨by decide, w_1614, w_56⟩⟩
theorem mok_185 : mMokP mi_185 := ⟨w_1619, cls_12.1, cls_12.2, w_145, by decide, rfl, dsc_10, ⟨by decide, w_1618, w_57⟩⟩
theorem mok_186 : mMokP mi_186 := ⟨w_1631, cls_12.1, cls_12.2, w_145, by decide, rfl, dsc_9, ⟨by decide, w_1630, w_60⟩⟩
theorem mok_187 : mMokP mi_187 := ⟨w_1639, cls_12.1, cls_12.2, w_145, by decide, rfl, dsc_32, ⟨by decide, w_1638, w_62⟩⟩
theorem mok_188 : mMokP mi_188 := ⟨w_1627, cls_12.1, cls_12.2, w_145, by decide, rfl, dsc_4, ⟨by decide, w_1626, w_59⟩⟩
theorem mok_189 : mMokP mi_189 := ⟨w_1643, cls_12.1, cls_12.2, w_145, by decide, rfl, dsc_9, ⟨by decide, w_1642, w_63⟩⟩
theorem mok_190 : mMokP mi_190 := ⟨w_1351, cls_12.1, cls_12.2, w_145, by decide, rfl, dsc_9, ⟨by decide, w_1350, w_48⟩⟩
theorem mok_191 : mMokP mi_191 := ⟨w_1593, cls_12.1, cls_12.2, w_145, by decide, rfl, dsc_15, ⟨by decide, w_1591, w_1592⟩⟩
theorem mok_192 : mMokP mi_192 := ⟨w_1687, cls_12.1, cls_12.2, w_145, by decide, rfl, dsc_15, ⟨by decide, w_1685, w_1686⟩⟩
theorem mok_193 : mMokP mi_193 := ⟨w_1647, cls_12.1, cls_12.2, w_145, by decide, rfl, dsc_32, ⟨by decide, w_1646, w_64⟩⟩
theorem mok_194 : mMokP mi_194 := ⟨w_1623, cls_12.1, cls_12.2, w_145, by decide, rfl, dsc_4, ⟨by decide, w_1622, w_58⟩⟩
theorem mok_195 : mMokP mi_195 := ⟨w_1651, cls_12.1, cls_12.2, w_145, by decide, rfl, dsc_15, ⟨by decide, w_1650, w_65⟩⟩
theorem mok_196 : mMokP mi_196 := ⟨w_1655, cls_12.1, cls_12.2, w_145, by decide, rfl, dsc_32, ⟨by decide, w_1654, w_66⟩⟩
theorem mok_197 : mMokP mi_197 := ⟨w_1659, cls_12.1, cls_12.2, w_145, by decide, rfl, dsc_15, ⟨by decide, w_1658, w_67⟩⟩
theorem mok_198 : mMokP mi_198 := ⟨w_1635, cls_12.1, cls_12.2, w_145, by decide, rfl, dsc_3, ⟨by decide, w_1634, w_61⟩⟩
theorem mok_199 : mMokP mi_199 := ⟨w_1663, cls_12.1, cls_12.2, w_145, by decide, rfl, dsc_9, ⟨by decide, w_1662, w_68⟩⟩
theorem mok_200 : mMokP mi_200 := ⟨w_1683, cls_12.1, cls_12.2, w_145, by decide, rfl, dsc_4, ⟨by decide, w_1682, w_73⟩⟩
theorem mok_201 : mMokP mi_201 := ⟨w_1675, cls_12.1, cls_12.2, w_145, by decide, rfl, dsc_32, ⟨by decide, w_1674, w_71⟩⟩
theorem mok_202 : mMokP mi_202 := ⟨w_1679, cls_12.1, cls_12.2, w_145, by decide, rfl, dsc_39, ⟨by decide, w_1678, w_72⟩⟩
theorem mok_203 : mMokP mi_203 := ⟨w_1667, cls_12.1, cls_12.2, w_145, by decide, rfl, dsc_4, ⟨by decide, w_1666, w_69⟩⟩
theorem mok_204 : mMokP mi_204 := ⟨w_1671, cls_12.1, cls_12.2, w_145, by decide, rfl, dsc_4, ⟨by decide, w_1670, w_70⟩⟩
theorem mok_205 : mMokP mi_205 := ⟨w_1718, cls_12.1, cls_12.2, w_145, by decide, rfl, dsc_3, ⟨by decide, w_1717, w_79⟩⟩
theorem mok_206 : mMokP mi_206 := ⟨w_1698, cls_12.1, cls_12.2, w_145, by decide, rfl, dsc_21, w_1697⟩
theorem mok_207 : mMokP mi_207 := ⟨w_1721, cls_12.1, cls_12.2, w_145, by decide, rfl, dsc_23, w_1720⟩
theorem mok_208 : mMokP mi_208 := ⟨w_1851, cls_12.1, cls_12.2, w_145, by decide, rfl, dsc_11, w_1850⟩
theorem mok_209 : mMokP mi_209 := ⟨w_1784, cls_12.1, cls_12.2, w_145, by decide, rfl, dsc_3, w_1783⟩
theorem mok_210 : mMokP mi_210 := ⟨w_1366, cls_12.1, cls_12.2, w_145, by decide, rfl, dsc_15, ⟨by decide, w_1365, w_50⟩⟩
theorem mok_211 : mMokP mi_211 := ⟨w_1741, cls_12.1, cls_12.2, w_145, by decide, rfl, dsc_10, ⟨by decide, w_1740, w_82⟩⟩
theorem mok_212 : mMokP mi_212 := ⟨w_1695, cls_12.1, cls_12.2, w_145, by decide, rfl, dsc_10, ⟨by decide, w_1694, w_74⟩⟩
theorem mok_213 : mMokP mi_213 := ⟨w_1753, cls_12.1, cls_12.2, w_145, by decide, rfl, dsc_10, ⟨by decide, w_1752, w_84⟩⟩
theorem mok_214 : mMokP mi_214 := ⟨w_1781, cls_12.1, cls_12.2, w_145, by decide, rfl, dsc_33, ⟨by decide, w_1780, w_90⟩⟩
theorem mok_215 : mMokP mi_215 := ⟨w_1757, cls_12.1, cls_12.2, w_145, by decide, rfl, dsc_11, ⟨by decide, w_1756, w_85⟩⟩
theorem mok_216 : mMokP mi_216 := ⟨w_1362, cls_12.1, cls_12.2, w_145, by decide, rfl, dsc_4, ⟨by decide, w_1361, w_49⟩⟩
theorem mok_217 : mMokP mi_217 := ⟨w_1370, cls_12.1, cls_12.2, w_145, by decide, rfl, dsc_4, ⟨by decide, w_1369, w_51⟩⟩
theorem mok_218 : mMokP mi_218 := ⟨w_1702, cls_12.1, cls_12.2, w_145, by decide, rfl, dsc_4, ⟨by decide, w_1701, w_75⟩⟩
theorem mok_219 : mMokP mi_219 := ⟨w_1792, cls_12.1, cls_12.2, w_145, by decide, rfl, dsc_4, ⟨by decide, w_1791, w_91⟩⟩
theorem mok_220 : mMokP mi_220 := ⟨w_1732, cls_12.1, cls_12.2, w_145, by decide, rfl, dsc_3, w_1731⟩
theorem mok_221 : mMokP mi_221 := ⟨w_1729, cls_12.1, cls_12.2, w_145, by decide, rfl, dsc_3, ⟨by decide, w_1728, w_81⟩⟩
theorem mok_222 : mMokP mi_222 := ⟨w_1714, cls_12.1, cls_12.2, w_145, by decide, rfl, dsc_3, ⟨by decide, w_1713, w_78⟩⟩
theorem mok_223 : mMokP mi_223 := ⟨w_1710, cls_12.1, cls_12.2, w_145, by decide, rfl, dsc_9, ⟨by decide, w_1709, w_77⟩⟩
theorem mok_224 : mMokP mi_224 := ⟨w_1765, cls_12.1, cls_12.2, w_145, by decide, rfl, dsc_9, ⟨by decide, w_1764, w_87⟩⟩
theorem mok_225 : mMokP mi_225 := ⟨w_1761, cls_12.1, cls_12.2, w_145, by decide, rfl, dsc_10, ⟨by decide, w_1760, w_86⟩⟩
theorem mok_226 : mMokP mi_226 := ⟨w_1769, cls_12.1, cls_12.2, w_145, by decide, rfl, dsc_11, ⟨by decide, w_1768, w_88⟩⟩
theorem mok_227 : mMokP mi_227 := ⟨w_1773, cls_12.1, cls_12.2, w_145, by decide, rfl, dsc_11, ⟨by decide, w_1772, w_89⟩⟩
theorem mok_228 : mMokP mi_228 := ⟨w_1706, cls_12.1, cls_12.2, w_145, by decide, rfl, dsc_11, ⟨by decide, w_1705, w_76⟩⟩
theorem mok_229 : mMokP mi_229 := ⟨w_1725, cls_12.1, cls_12.2, w_145, by decide, rfl, dsc_10, ⟨by decide, w_1724, w_80⟩⟩
theorem mok_230 : mMokP mi_230 := ⟨w_1745, cls_12.1, cls_12.2, w_145, by decide, rfl, dsc_3, ⟨by decide, w_1744, w_83⟩⟩
theorem mok_231 : mMokP mi_231 := ⟨w_1804, cls_12.1, cls_12.2, w_145, by decide, rfl, dsc_11, ⟨by decide, w_1803, w_94⟩⟩
theorem mok_232 : mMokP mi_232 := ⟨w_1800, cls_12.1, cls_12.2, w_145, by decide, rfl, dsc_11, ⟨by decide, w_1799, w_93⟩⟩
theorem mok_233 : mMokP mi_233 := ⟨w_1796, cls_12.1, cls_12.2, w_145, by decide, rfl, dsc_4, ⟨by decide, w_1795, w_92⟩⟩
theorem mok_234 : mMokP mi_234 := ⟨w_1848, cls_12.1, cls_12.2, w_145, by decide, rfl, dsc_11, ⟨by decide, w_1847, w_100⟩⟩
theorem mok_235 : mMokP mi_235 := ⟨w_1844, cls_12.1, cls_12.2, w_145, by decide, rfl, dsc_4, ⟨by decide, w_1843, w_99⟩⟩
theorem mok_236 : mMokP mi_236 := ⟨w_1840, cls_12.1, cls_12.2, w_145, by decide, rfl, dsc_9, ⟨by decide, w_1839, w_98⟩⟩
theorem mok_237 : mMokP mi_237 := ⟨w_2073, cls_12.1, cls_12.2, w_145, by decide, rfl, dsc_15, ⟨by decide, w_2072, w_123⟩⟩
theorem mok_238 : mMokP mi_238 := ⟨w_2077, cls_12.1, cls_12.2, w_145, by decide, rfl, dsc_15, ⟨by decide, w_2076, w_124⟩⟩
theorem mok_239 : mMokP mi_239 := ⟨w_1691, cls_12.1, cls_12.2, w_145, by decide, rfl, dsc_3, ⟨by decide, w_1689, w_1690⟩⟩
theorem mok_240 : mMokP mi_240 := ⟨w_1737, cls_12.1, cls_12.2, w_145, by decide, rfl, dsc_3, ⟨by decide, w_1735, w_1736⟩⟩
theorem mok_241 : mMokP mi_241 := ⟨w_1749, cls_12.1, cls_12.2, w_145, by decide, rfl, dsc_3, ⟨by decide, w_1747, w_1748⟩⟩
theorem mok_242 : mMokP mi_242 := ⟨w_1777, cls_12.1, cls_12.2, w_145, by decide, rfl, dsc_3, ⟨by decide, w_1775, w_1776⟩⟩
theorem mok_243 : mMokP mi_243 := ⟨w_1809, cls_12.1, cls_12.2, w_145, by decide, rfl, dsc_11, ⟨by decide, w_1808, w_95⟩⟩
theorem mok_244 : mMokP mi_244 := ⟨w_1788, cls_12.1, cls_12.2, w_145, by decide, rfl, dsc_11, ⟨by decide, w_1786, w_1787⟩⟩
theorem mok_245 : mMokP mi_245 := ⟨w_1821, cls_12.1, cls_12.2, w_145, by decide, rfl, dsc_4, ⟨by decide, w_1820, w_97⟩⟩
theorem mok_246 : mMokP mi_246 := ⟨w_1817, cls_12.1, cls_12.2, w_145, by decide, rfl, dsc_33, ⟨by decide, w_1816, w_96⟩⟩
theorem mok_247 : mMokP mi_247 := ⟨w_1813, cls_12.1, cls_12.2, w_145, by decide, rfl, dsc_3, ⟨by decide, w_1811, w_1812⟩⟩
theorem mok_248 : mMokP mi_248 := ⟨w_1825, cls_12.1, cls_12.2, w_145, by decide, rfl, dsc_33, ⟨by decide, w_1823, w_1824⟩⟩
theorem mok_249 : mMokP mi_249 := ⟨w_1829, cls_12.1, cls_12.2, w_145, by decide, rfl, dsc_33, ⟨by decide, w_1827, w_1828⟩⟩
theorem mok_250 : mMokP mi_250 := ⟨w_1836, cls_12.1, cls_12.2, w_145, by decide, rfl, dsc_10, w_1835⟩
theorem mok_251 : mMokP mi_251 := ⟨w_1929, cls_12.1, cls_12.2, w_145, by decide, rfl, dsc_10, w_1928⟩
theorem mok_252 : mMokP mi_252 := ⟨w_1833, cls_12.1, cls_12.2, w_145, by decide, rfl, dsc_11, ⟨by decide, w_1831, w_1832⟩⟩
theorem mok_253 : mMokP mi_253 := ⟨w_1855, cls_12.1, cls_12.2, w_145, by decide, rfl, dsc_17, ⟨by decide, w_1853, w_1854⟩⟩
theorem mok_254 : mMokP mi_254 := ⟨w_1871, cls_12.1, cls_12.2, w_145, by decide, rfl, dsc_9, ⟨by decide, w_1870, w_103⟩⟩
theorem mok_255 : mMokP mi_255 := ⟨w_1867, cls_12.1, cls_12.2, w_145, by decide, rfl, dsc_9, ⟨by decide, w_1866, w_102⟩⟩
theorem mok_256 : mMokP mi_256 := ⟨w_1879, cls_12.1, cls_12.2, w_145, by decide, rfl, dsc_3, ⟨by decide, w_1878, w_105⟩⟩
theorem mok_257 : mMokP mi_257 := ⟨w_1875, cls_12.1, cls_12.2, w_145, by decide, rfl, dsc_3, ⟨by decide, w_1874, w_104⟩⟩
theorem mok_258 : mMokP mi_258 := ⟨w_1863, cls_12.1, cls_12.2, w_145, by decide, rfl, dsc_10, ⟨by decide, w_1862, w_101⟩⟩
theorem mok_259 : mMokP mi_259 := ⟨w_1882, cls_12.1, cls_12.2, w_145, by decide, rfl, dsc_11, w_1881⟩
theorem mok_260 : mMokP mi_260 := ⟨w_1859, cls_12.1, cls_12.2, w_145, by decide, rfl, dsc_3, ⟨by decide, w_1857, w_1858⟩⟩
theorem mok_261 : mMokP mi_261 := ⟨w_1890, cls_12.1, cls_12.2, w_145, by decide, rfl, dsc_23, ⟨by decide, w_1889, w_106⟩⟩
theorem mok_262 : mMokP mi_262 := ⟨w_1886, cls_12.1, cls_12.2, w_145, by decide, rfl, dsc_23, ⟨by decide, w_1884, w_1885⟩⟩
theorem mok_263 : mMokP mi_263 := ⟨w_1898, cls_12.1, cls_12.2, w_145, by decide, rfl, dsc_3, ⟨by decide, w_1897, w_107⟩⟩
theorem mok_264 : mMokP mi_264 := ⟨w_1894, cls_12.1, cls_12.2, w_145, by decide, rfl, dsc_3, ⟨by decide, w_1892, w_1893⟩⟩
theorem mok_265 : mMokP mi_265 := ⟨w_1902, cls_12.1, cls_12.2, w_145, by decide, rfl, dsc_3, ⟨by decide, w_1900, w_1901⟩⟩
theorem mok_266 : mMokP mi_266 := ⟨w_1906, cls_12.1, cls_12.2, w_145, by decide, rfl, dsc_23, ⟨by decide, w_1904, w_1905⟩⟩
theorem mok_267 : mMokP mi_267 := ⟨w_1910, cls_12.1, cls_12.2, w_145, by decide, rfl, dsc_11, ⟨by decide, w_1908, w_1909⟩⟩
theorem mok_268 : mMokP mi_268 := ⟨w_1914, cls_12.1, cls_12.2, w_145, by decide, rfl, dsc_3, ⟨by decide, w_1912, w_1913⟩⟩
theorem mok_269 : mMokP mi_269 := ⟨w_1918, cls_12.1, cls_12.2, w_145, by decide, rfl, dsc_15, ⟨by decide, w_1916, w_1917⟩⟩
theorem mok_270 : mMokP mi_270 := ⟨w_1937, cls_12.1, cls_12.2, w_145, by decide, rfl, dsc_40, ⟨by decide, w_1936, w_110⟩⟩
theorem mok_271 : mMokP mi_271 := ⟨w_1933, cls_12.1, cls_12.2, w_145, by decide, rfl, dsc_35, ⟨by decide, w_1932, w_109⟩⟩
theorem mok_272 : mMokP mi_272 := ⟨w_1926, cls_12.1, cls_12.2, w_145, by decide, rfl, dsc_21, ⟨by decide, w_1925, w_108⟩⟩
theorem mok_273 : mMokP mi_273 := ⟨w_1922, cls_12.1, cls_12.2, w_145, by decide, rfl, dsc_23, ⟨by decide, w_1920, w_1921⟩⟩
theorem mok_274 : mMokP mi_274 := ⟨w_1941, cls_12.1, cls_12.2, w_145, by decide, rfl, dsc_23, ⟨by decide, w_1939, w_1940⟩⟩
theorem mok_275 : mMokP mi_275 := ⟨w_1945, cls_12.1, cls_12.2, w_145, by decide, rfl, dsc_35, ⟨by decide, w_1943, w_1944⟩⟩
theorem mok_276 : mMokP mi_276 := ⟨w_1949, cls_12.1, cls_12.2, w_145, by decide, rfl, dsc_23, ⟨by decide, w_1947, w_1948⟩⟩
theorem mok_277 : mMokP mi_277 := ⟨w_1953, cls_12.1, cls_12.2, w_145, by decide, rfl, dsc_11, ⟨by decide, w_1951, w_1952⟩⟩
theorem mok_278 : mMokP mi_278 := ⟨w_1957, cls_12.1, cls_12.2, w_145, by decide, rfl, dsc_11, ⟨by decide, w_1955, w_1956⟩⟩
theorem mok_279 : mMokP mi_279 := ⟨w_1961, cls_12.1, cls_12.2, w_145, by decide, rfl, dsc_35, ⟨by decide, w_1959, w_1960⟩⟩
theorem mok_280 : mMokP mi_280 := ⟨w_1969, cls_12.1, cls_12.2, w_145, by decide, rfl, dsc_33, ⟨by decide, w_1968, w_111⟩⟩
theorem mok_281 : mMokP mi_281 := ⟨w_1965, cls_12.1, cls_12.2, w_145, by decide, rfl, dsc_3, ⟨by decide, w_1963, w_1964⟩⟩
theorem mok_282 : mMokP mi_282 := ⟨w_1977, cls_12.1, cls_12.2, w_145, by decide, rfl, dsc_11, ⟨by decide, w_1976, w_112⟩⟩
theorem mok_283 : mMokP mi_283 := ⟨w_1973, cls_12.1, cls_12.2, w_145, by decide, rfl, dsc_3, ⟨by decide, w_1971, w_1972⟩⟩
theorem mok_284 : mMokP mi_284 := ⟨w_1981, cls_12.1, cls_12.2, w_145, by decide, rfl, dsc_11, ⟨by decide, w_1979, w_1980⟩⟩
theorem mok_285 : mMokP mi_285 := ⟨w_1993, cls_12.1, cls_12.2, w_145, by decide, rfl, dsc_23, ⟨by decide, w_1992, w_114⟩⟩
theorem mok_286 : mMokP mi_286 := ⟨w_1989, cls_12.1, cls_12.2, w_145, by decide, rfl, dsc_9, ⟨by decide, w_1988, w_113⟩⟩
theorem mok_287 : mMokP mi_287 := ⟨w_1997, cls_12.1, cls_12.2, w_145, by decide, rfl, dsc_11, ⟨by decide, w_1996, w_115⟩⟩
theorem mok_288 : mMokP mi_288 := ⟨w_1985, cls_12.1, cls_12.2, w_145, by decide, rfl, dsc_3, ⟨by decide, w_1983, w_1984⟩⟩
theorem mok_289 : mMokP mi_289 := ⟨w_2013, cls_12.1, cls_12.2, w_145, by decide, rfl, dsc_9, ⟨by decide, w_2012, w_118⟩⟩
theorem mok_290 : mMokP mi_290 := ⟨w_2017, cls_12.1, cls_12.2, w_145, by decide, rfl, dsc_23, ⟨by decide, w_2016, w_119⟩⟩
theorem mok_291 : mMokP mi_291 := ⟨w_2009, cls_12.1, cls_12.2, w_145, by decide, rfl, dsc_23, ⟨by decide, w_2008, w_117⟩⟩
theorem mok_292 : mMokP mi_292 := ⟨w_2005, cls_12.1, cls_12.2, w_145, by decide, rfl, dsc_7, ⟨by decide, w_2004, w_116⟩⟩
theorem mok_293 : mMokP mi_293 := ⟨w_2025, cls_12.1, cls_12.2, w_145, by decide, rfl, dsc_34, ⟨by decide, w_2024, w_121⟩⟩
theorem mok_294 : mMokP mi_294 := ⟨w_2021, cls_12.1, cls_12.2, w_145, by decide, rfl, dsc_35, ⟨by decide, w_2020, w_120⟩⟩
theorem mok_295 : mMokP mi_295 := ⟨w_2001, cls_12.1, cls_12.2, w_145, by decide, rfl, dsc_23, ⟨by decide, w_1999, w_2000⟩⟩
theorem mok_296 : mMokP mi_296 := ⟨w_2029, cls_12.1, cls_12.2, w_145, by decide, rfl, dsc_3, ⟨by decide, w_2027, w_2028⟩⟩
theorem mok_297 : mMokP mi_297 := ⟨w_2033, cls_12.1, cls_12.2, w_145, by decide, rfl, dsc_3, ⟨by decide, w_2031, w_2032⟩⟩
theorem mok_298 : mMokP mi_298 := ⟨w_2037, cls_12.1, cls_12.2, w_145, by decide, rfl, dsc_35, ⟨by decide, w_2035, w_2036⟩⟩
theorem mok_299 : mMokP mi_299 := ⟨w_2041, cls_12.1, cls_12.2, w_145, by decide, rfl, dsc_36, ⟨by decide, w_2039, w_2040⟩⟩
theorem mok_300 : mMokP mi_300 := ⟨w_2045, cls_12.1, cls_12.2, w_145, by decide, rfl, dsc_15, ⟨by decide, w_2043, w_2044⟩⟩
theorem mok_301 : mMokP mi_301 := ⟨w_2053, cls_12.1, cls_12.2, w_145, by decide, rfl, dsc_3, ⟨by decide, w_2052, w_122⟩⟩
theorem mok_302 : mMokP mi_302 := ⟨w_2049, cls_12.1, cls_12.2, w_145, by decide, rfl, dsc_23, ⟨by decide, w_2047, w_2048⟩⟩
theorem mok_303 : mMokP mi_303 := ⟨w_2057, cls_12.1, cls_12.2, w_145, by decide, rfl, dsc_23, ⟨by decide, w_2055, w_2056⟩⟩
theorem mok_304 : mMokP mi_304 := ⟨w_2061, cls_12.1, cls_12.2, w_145, by decide, rfl, dsc_10, ⟨by decide, w_2059, w_2060⟩⟩
theorem mok_305 : mMokP mi_305 := ⟨w_2065, cls_12.1, cls_12.2, w_145, by decide, rfl, dsc_10, ⟨by decide, w_2063, w_2064⟩⟩
theorem mok_306 : mMokP mi_306 := ⟨w_2069, cls_12.1, cls_12.2, w_145, by decide, rfl, dsc_11, ⟨by decide, w_2067, w_2068⟩⟩
theorem mok_307 : mMokP mi_307 := ⟨w_2081, cls_12.1, cls_12.2, w_145, by decide, rfl, dsc_15, ⟨by decide, w_2080, w_125⟩⟩
theorem mok_308 : mMokP mi_308 := ⟨w_1012, cls_13.1, cls_13.2, w_147, by decide, rfl, dsc_11, w_1011⟩
set_option maxRecDepth 100000 in
theorem lf_0 : ∀ e ∈ lk_0.1, mFl (mOn 0) e.1 e.2.1 e.2.2.1 := List.forall_mem_cons.mpr ⟨⟨by decide, by decide, w_528⟩, List.forall_mem_cons.mpr ⟨⟨by decide, by decide, w_526⟩, List.forall_mem_cons.mpr ⟨⟨by decide, by decide, w_527⟩, List.forall_mem_cons.mpr ⟨⟨by decide, by decide, w_529⟩, List.forall_mem_cons.mpr ⟨⟨by decide, by decide, w_530⟩, List.forall_mem_cons.mpr ⟨⟨by decide, by decide, w_524⟩, List.forall_mem_cons.mpr ⟨⟨by decide, by decide, w_430⟩, List.forall_mem_cons.mpr ⟨⟨by decide, by decide, w_244⟩, fun _ h => absurd h List.not_mem_nil⟩⟩⟩⟩⟩⟩⟩⟩
set_option maxRecDepth 100000 in
theorem lm_0 : ∀ e ∈ lk_0.2.1, Cond.methodLink (mOn 0) e.1 (mL.getD e.2.1 mI0).2.1 ∈ mGt := List.forall_mem_cons.mpr ⟨w_1225, List.forall_mem_cons.mpr ⟨w_1228, List.forall_mem_cons.mpr ⟨w_1232, List.forall_mem_cons.mpr ⟨w_1234, List.forall_mem_cons.mpr ⟨w_1235, List.forall_mem_cons.mpr ⟨w_1236, fun _ h => absurd h List.not_mem_nil⟩⟩⟩⟩⟩⟩
set_option maxRecDepth 100000 in
theorem ln_0 : ∀ e ∈ lk_0.2.2.1, ∃ host, (mOn 0, e.1, (mL.getD e.2 mI0).2.1, host) ∈ mNs := List.forall_mem_cons.mpr ⟨⟨"MoonDials", List.mem_of_getElem? (i := 12) rfl⟩, fun _ h => absurd h List.not_mem_nil⟩
set_option maxRecDepth 100000 in
theorem lc_0 : ∀ e ∈ lk_0.2.2.2.1, Cond.classLink (mOn 0) e.1 (if e.2.1 = 99 then "[[I" else mCn e.2.1) ∈ mGt := List.forall_mem_cons.mpr ⟨w_522, fun _ h => absurd h List.not_mem_nil⟩
set_option maxRecDepth 100000 in
theorem lq_0 : ∀ e ∈ lk_0.2.2.2.2.1, Cond.constant (mOn 0) e.1 e.2.1 ∈ mGt := fun _ h => absurd h List.not_mem_nil
set_option maxRecDepth 100000 in
theorem ll_0 : ∀ e ∈ lk_0.2.2.2.2.2.1, Cond.constantLong (mOn 0) e.1 e.2.1 ∈ mGt := fun _ h => absurd h List.not_mem_nil
set_option maxRecDepth 100000 in
theorem lp_0 : ∀ e ∈ lk_0.2.2.2.2.2.2, Cond.methodLink (mOn 0) e.1 (mPn9 e.2.1) ∈ mGt := List.forall_mem_cons.mpr ⟨w_521, List.forall_mem_cons.mpr ⟨w_1223, List.forall_mem_cons.mpr ⟨w_1224, fun _ h => absurd h List.not_mem_nil⟩⟩⟩
theorem lkp_0 : mLnkP (fun y => (mL.getD y mI0).2.1) 0 lk_0 := ⟨lf_0, lm_0, ln_0, lc_0, lq_0, ll_0, lp_0⟩
set_option maxRecDepth 100000 in
theorem lf_1 : ∀ e ∈ lk_1.1, mFl (mOn 1) e.1 e.2.1 e.2.2.1 := List.forall_mem_cons.mpr ⟨⟨by decide, by decide, w_224⟩, List.forall_mem_cons.mpr ⟨⟨by decide, by decide, w_227⟩, List.forall_mem_cons.mpr ⟨⟨by decide, by decide, w_229⟩, List.forall_mem_cons.mpr ⟨⟨by decide, by decide, w_231⟩, List.forall_mem_cons.mpr ⟨⟨by decide, by decide, w_233⟩, List.forall_mem_cons.mpr ⟨⟨by decide, by decide, w_237⟩, List.forall_mem_cons.mpr ⟨⟨by decide, by decide, w_241⟩, List.forall_mem_cons.mpr ⟨⟨by decide, by decide, w_248⟩, List.forall_mem_cons.mpr ⟨⟨by decide, by decide, w_254⟩, List.forall_mem_cons.mpr ⟨⟨by decide, by decide, w_260⟩, fun _ h => absurd h List.not_mem_nil⟩⟩⟩⟩⟩⟩⟩⟩⟩⟩
set_option maxRecDepth 100000 in
theorem lm_1 : ∀ e ∈ lk_1.2.1, Cond.methodLink (mOn 1) e.1 (mL.getD e.2.1 mI0).2.1 ∈ mGt := List.forall_mem_cons.mpr ⟨w_180, List.forall_mem_cons.mpr ⟨w_747, List.forall_mem_cons.mpr ⟨w_852, fun _ h => absurd h List.not_mem_nil⟩⟩⟩
set_option maxRecDepth 100000 in
theorem ln_1 : ∀ e ∈ lk_1.2.2.1, ∃ host, (mOn 1, e.1, (mL.getD e.2 mI0).2.1, host) ∈ mNs := List.forall_mem_cons.mpr ⟨⟨"MoonDials", List.mem_of_getElem? (i := 4) rfl⟩, fun _ h => absurd h List.not_mem_nil⟩
set_option maxRecDepth 100000 in
theorem lc_1 : ∀ e ∈ lk_1.2.2.2.1, Cond.classLink (mOn 1) e.1 (if e.2.1 = 99 then "[[I" else mCn e.2.1) ∈ mGt := List.forall_mem_cons.mpr ⟨w_178, fun _ h => absurd h List.not_mem_nil⟩
set_option maxRecDepth 100000 in
theorem lq_1 : ∀ e ∈ lk_1.2.2.2.2.1, Cond.constant (mOn 1) e.1 e.2.1 ∈ mGt := fun _ h => absurd h List.not_mem_nil
set_option maxRecDepth 100000 in
theorem ll_1 : ∀ e ∈ lk_1.2.2.2.2.2.1, Cond.constantLong (mOn 1) e.1 e.2.1 ∈ mGt := fun _ h => absurd h List.not_mem_nil
set_option maxRecDepth 100000 in
theorem lp_1 : ∀ e ∈ lk_1.2.2.2.2.2.2, Cond.methodLink (mOn 1) e.1 (mPn9 e.2.1) ∈ mGt := List.forall_mem_cons.mpr ⟨w_177, List.forall_mem_cons.mpr ⟨w_578, fun _ h => absurd h List.not_mem_nil⟩⟩
theorem lkp_1 : mLnkP (fun y => (mL.getD y mI0).2.1) 1 lk_1 := ⟨lf_1, lm_1, ln_1, lc_1, lq_1, ll_1, lp_1⟩
set_option maxRecDepth 100000 in
theorem lf_2 : ∀ e ∈ lk_2.1, mFl (mOn 2) e.1 e.2.1 e.2.2.1 := List.forall_mem_cons.mpr ⟨⟨by decide, by decide, w_200⟩, List.forall_mem_cons.mpr ⟨⟨by decide, by decide, w_202⟩, List.forall_mem_cons.mpr ⟨⟨by decide, by decide, w_203⟩, List.forall_mem_cons.mpr ⟨⟨by decide, by decide, w_204⟩, List.forall_mem_cons.mpr ⟨⟨by decide, by decide, w_205⟩, List.forall_mem_cons.mpr ⟨⟨by decide, by decide, w_206⟩, List.forall_mem_cons.mpr ⟨⟨by decide, by decide, w_207⟩, fun _ h => absurd h List.not_mem_nil⟩⟩⟩⟩⟩⟩⟩
set_option maxRecDepth 100000 in
theorem lm_2 : ∀ e ∈ lk_2.2.1, Cond.methodLink (mOn 2) e.1 (mL.getD e.2.1 mI0).2.1 ∈ mGt := List.forall_mem_cons.mpr ⟨w_184, List.forall_mem_cons.mpr ⟨w_188, List.forall_mem_cons.mpr ⟨w_192, List.forall_mem_cons.mpr ⟨w_196, fun _ h => absurd h List.not_mem_nil⟩⟩⟩⟩
set_option maxRecDepth 100000 in
theorem ln_2 : ∀ e ∈ lk_2.2.2.1, ∃ host, (mOn 2, e.1, (mL.getD e.2 mI0).2.1, host) ∈ mNs := fun _ h => absurd h List.not_mem_nil
set_option maxRecDepth 100000 in
theorem lc_2 : ∀ e ∈ lk_2.2.2.2.1, Cond.classLink (mOn 2) e.1 (if e.2.1 = 99 then "[[I" else mCn e.2.1) ∈ mGt := fun _ h => absurd h List.not_mem_nil
set_option maxRecDepth 100000 in
theorem lq_2 : ∀ e ∈ lk_2.2.2.2.2.1, Cond.constant (mOn 2) e.1 e.2.1 ∈ mGt := fun _ h => absurd h List.not_mem_nil
set_option maxRecDepth 100000 in
theorem ll_2 : ∀ e ∈ lk_2.2.2.2.2.2.1, Cond.constantLong (mOn 2) e.1 e.2.1 ∈ mGt := fun _ h => absurd h List.not_mem_nil
set_option maxRecDepth 100000 in
theorem lp_2 : ∀ e ∈ lk_2.2.2.2.2.2.2, Cond.methodLink (mOn 2) e.1 (mPn9 e.2.1) ∈ mGt := List.forall_mem_cons.mpr ⟨w_183, List.forall_mem_cons.mpr ⟨w_856, fun _ h => absurd h List.not_mem_nil⟩⟩
theorem lkp_2 : mLnkP (fun y => (mL.getD y mI0).2.1) 2 lk_2 := ⟨lf_2, lm_2, ln_2, lc_2, lq_2, ll_2, lp_2⟩
set_option maxRecDepth 100000 in
theorem lf_3 : ∀ e ∈ lk_3.1, mFl (mOn 3) e.1 e.2.1 e.2.2.1 := List.forall_mem_cons.mpr ⟨⟨by decide, by decide, w_475⟩, List.forall_mem_cons.mpr ⟨⟨by decide, by decide, w_476⟩, List.forall_mem_cons.mpr ⟨⟨by decide, by decide, w_471⟩, List.forall_mem_cons.mpr ⟨⟨by decide, by decide, w_242⟩, List.forall_mem_cons.mpr ⟨⟨by decide, by decide, w_255⟩, List.forall_mem_cons.mpr ⟨⟨by decide, by decide, w_435⟩, List.forall_mem_cons.mpr ⟨⟨by decide, by decide, w_431⟩, List.forall_mem_cons.mpr ⟨⟨by decide, by decide, w_442⟩, List.forall_mem_cons.mpr ⟨⟨by decide, by decide, w_473⟩, fun _ h => absurd h List.not_mem_nil⟩⟩⟩⟩⟩⟩⟩⟩⟩
set_option maxRecDepth 100000 in
theorem lm_3 : ∀ e ∈ lk_3.2.1, Cond.methodLink (mOn 3) e.1 (mL.getD e.2.1 mI0).2.1 ∈ mGt := List.forall_mem_cons.mpr ⟨w_1042, List.forall_mem_cons.mpr ⟨w_1043, List.forall_mem_cons.mpr ⟨w_1048, List.forall_mem_cons.mpr ⟨w_1110, List.forall_mem_cons.mpr ⟨w_1114, List.forall_mem_cons.mpr ⟨w_1115, List.forall_mem_cons.mpr ⟨w_1140, List.forall_mem_cons.mpr ⟨w_1144, fun _ h => absurd h List.not_mem_nil⟩⟩⟩⟩⟩⟩⟩⟩
set_option maxRecDepth 100000 in
theorem ln_3 : ∀ e ∈ lk_3.2.2.1, ∃ host, (mOn 3, e.1, (mL.getD e.2 mI0).2.1, host) ∈ mNs := List.forall_mem_cons.mpr ⟨⟨"MoonDials", List.mem_of_getElem? (i := 10) rfl⟩, List.forall_mem_cons.mpr ⟨⟨"MoonDials", List.mem_of_getElem? (i := 11) rfl⟩, fun _ h => absurd h List.not_mem_nil⟩⟩
set_option maxRecDepth 100000 in
theorem lc_3 : ∀ e ∈ lk_3.2.2.2.1, Cond.classLink (mOn 3) e.1 (if e.2.1 = 99 then "[[I" else mCn e.2.1) ∈ mGt := fun _ h => absurd h List.not_mem_nil
set_option maxRecDepth 100000 in
theorem lq_3 : ∀ e ∈ lk_3.2.2.2.2.1, Cond.constant (mOn 3) e.1 e.2.1 ∈ mGt := fun _ h => absurd h List.not_mem_nil
set_option maxRecDepth 100000 in
theorem ll_3 : ∀ e ∈ lk_3.2.2.2.2.2.1, Cond.constantLong (mOn 3) e.1 e.2.1 ∈ mGt := fun _ h => absurd h List.not_mem_nil
set_option maxRecDepth 100000 in
theorem lp_3 : ∀ e ∈ lk_3.2.2.2.2.2.2, Cond.methodLink (mOn 3) e.1 (mPn9 e.2.1) ∈ mGt := List.forall_mem_cons.mpr ⟨w_470, fun _ h => absurd h List.not_mem_nil⟩
theorem lkp_3 : mLnkP (fun y => (mL.getD y mI0).2.1) 3 lk_3 := ⟨lf_3, lm_3, ln_3, lc_3, lq_3, ll_3, lp_3⟩
set_option maxRecDepth 100000 in
theorem lf_4 : ∀ e ∈ lk_4.1, mFl (mOn 4) e.1 e.2.1 e.2.2.1 := List.forall_mem_cons.mpr ⟨⟨by decide, by decide, w_368⟩, List.forall_mem_cons.mpr ⟨⟨by decide, by decide, w_370⟩, List.forall_mem_cons.mpr ⟨⟨by decide, by decide, w_371⟩, List.forall_mem_cons.mpr ⟨⟨by decide, by decide, w_372⟩, List.forall_mem_cons.mpr ⟨⟨by decide, by decide, w_373⟩, List.forall_mem_cons.mpr ⟨⟨by decide, by decide, w_377⟩, List.forall_mem_cons.mpr ⟨⟨by decide, by decide, w_378⟩, List.forall_mem_cons.mpr ⟨⟨by decide, by decide, w_379⟩, List.forall_mem_cons.mpr ⟨⟨by decide, by decide, w_380⟩, List.forall_mem_cons.mpr ⟨⟨by decide, by decide, w_261⟩, List.forall_mem_cons.mpr ⟨⟨by decide, by decide, w_245⟩, List.forall_mem_cons.mpr ⟨⟨by decide, by decide, w_251⟩, List.forall_mem_cons.mpr ⟨⟨by decide, by decide, w_228⟩, List.forall_mem_cons.mpr ⟨⟨by decide, by decide, w_230⟩, List.forall_mem_cons.mpr ⟨⟨by decide, by decide, w_257⟩, List.forall_mem_cons.mpr ⟨⟨by decide, by decide, w_232⟩, List.forall_mem_cons.mpr ⟨⟨by decide, by decide, w_235⟩, List.forall_mem_cons.mpr ⟨⟨by decide, by decide, w_238⟩, List.forall_mem_cons.mpr ⟨⟨by decide, by decide, w_226⟩, List.forall_mem_cons.mpr ⟨⟨by decide, by decide, w_374⟩, List.forall_mem_cons.mpr ⟨⟨by decide, by decide, w_375⟩, List.forall_mem_cons.mpr ⟨⟨by decide, by decide, w_376⟩, fun _ h => absurd h List.not_mem_nil⟩⟩⟩⟩⟩⟩⟩⟩⟩⟩⟩⟩⟩⟩⟩⟩⟩⟩⟩⟩⟩⟩
set_option maxRecDepth 100000 in
theorem lm_4 : ∀ e ∈ lk_4.2.1, Cond.methodLink (mOn 4) e.1 (mL.getD e.2.1 mI0).2.1 ∈ mGt := List.forall_mem_cons.mpr ⟨w_294, List.forall_mem_cons.mpr ⟨w_647, List.forall_mem_cons.mpr ⟨w_743, List.forall_mem_cons.mpr ⟨w_748, List.forall_mem_cons.mpr ⟨w_752, List.forall_mem_cons.mpr ⟨w_837, List.forall_mem_cons.mpr ⟨w_780, List.forall_mem_cons.mpr ⟨w_756, List.forall_mem_cons.mpr ⟨w_784, List.forall_mem_cons.mpr ⟨w_795, List.forall_mem_cons.mpr ⟨w_760, List.forall_mem_cons.mpr ⟨w_768, List.forall_mem_cons.mpr ⟨w_803, List.forall_mem_cons.mpr ⟨w_764, List.forall_mem_cons.mpr ⟨w_788, List.forall_mem_cons.mpr ⟨w_799, List.forall_mem_cons.mpr ⟨w_807, List.forall_mem_cons.mpr ⟨w_808, List.forall_mem_cons.mpr ⟨w_820, List.forall_mem_cons.mpr ⟨w_833, List.forall_mem_cons.mpr ⟨w_812, List.forall_mem_cons.mpr ⟨w_821, List.forall_mem_cons.mpr ⟨w_816, List.forall_mem_cons.mpr ⟨w_772, List.forall_mem_cons.mpr ⟨w_825, List.forall_mem_cons.mpr ⟨w_828, List.forall_mem_cons.mpr ⟨w_776, List.forall_mem_cons.mpr ⟨w_792, fun _ h => absurd h List.not_mem_nil⟩⟩⟩⟩⟩⟩⟩⟩⟩⟩⟩⟩⟩⟩⟩⟩⟩⟩⟩⟩⟩⟩⟩⟩⟩⟩⟩⟩
set_option maxRecDepth 100000 in
theorem ln_4 : ∀ e ∈ lk_4.2.2.1, ∃ host, (mOn 4, e.1, (mL.getD e.2 mI0).2.1, host) ∈ mNs := List.forall_mem_cons.mpr ⟨⟨"MoonDials", List.mem_of_getElem? (i := 3) rfl⟩, fun _ h => absurd h List.not_mem_nil⟩
set_option maxRecDepth 100000 in
theorem lc_4 : ∀ e ∈ lk_4.2.2.2.1, Cond.classLink (mOn 4) e.1 (if e.2.1 = 99 then "[[I" else mCn e.2.1) ∈ mGt := List.forall_mem_cons.mpr ⟨w_290, List.forall_mem_cons.mpr ⟨w_292, fun _ h => absurd h List.not_mem_nil⟩⟩
set_option maxRecDepth 100000 in
theorem lq_4 : ∀ e ∈ lk_4.2.2.2.2.1, Cond.constant (mOn 4) e.1 e.2.1 ∈ mGt := fun _ h => absurd h List.not_mem_nil
set_option maxRecDepth 100000 in
theorem ll_4 : ∀ e ∈ lk_4.2.2.2.2.2.1, Cond.constantLong (mOn 4) e.1 e.2.1 ∈ mGt := fun _ h => absurd h List.not_mem_nil
set_option maxRecDepth 100000 in
theorem lp_4 : ∀ e ∈ lk_4.2.2.2.2.2.2, Cond.methodLink (mOn 4) e.1 (mPn9 e.2.1) ∈ mGt := List.forall_mem_cons.mpr ⟨w_289, List.forall_mem_cons.mpr ⟨w_832, fun _ h => absurd h List.not_mem_nil⟩⟩
theorem lkp_4 : mLnkP (fun y => (mL.getD y mI0).2.1) 4 lk_4 := ⟨lf_4, lm_4, ln_4, lc_4, lq_4, ll_4, lp_4⟩
set_option maxRecDepth 100000 in
theorem lf_5 : ∀ e ∈ lk_5.1, mFl (mOn 5) e.1 e.2.1 e.2.2.1 := List.forall_mem_cons.mpr ⟨⟨by decide, by decide, w_550⟩, List.forall_mem_cons.mpr ⟨⟨by decide, by decide, w_554⟩, List.forall_mem_cons.mpr ⟨⟨by decide, by decide, w_555⟩, List.forall_mem_cons.mpr ⟨⟨by decide, by decide, w_556⟩, List.forall_mem_cons.mpr ⟨⟨by decide, by decide, w_557⟩, List.forall_mem_cons.mpr ⟨⟨by decide, by decide, w_552⟩, List.forall_mem_cons.mpr ⟨⟨by decide, by decide, w_553⟩, List.forall_mem_cons.mpr ⟨⟨by decide, by decide, w_249⟩, List.forall_mem_cons.mpr ⟨⟨by decide, by decide, w_429⟩, List.forall_mem_cons.mpr ⟨⟨by decide, by decide, w_436⟩, fun _ h => absurd h List.not_mem_nil⟩⟩⟩⟩⟩⟩⟩⟩⟩⟩
set_option maxRecDepth 100000 in
theorem lm_5 : ∀ e ∈ lk_5.2.1, Cond.methodLink (mOn 5) e.1 (mL.getD e.2.1 mI0).2.1 ∈ mGt := List.forall_mem_cons.mpr ⟨w_1276, List.forall_mem_cons.mpr ⟨w_1277, List.forall_mem_cons.mpr ⟨w_1278, List.forall_mem_cons.mpr ⟨w_1282, List.forall_mem_cons.mpr ⟨w_1291, List.forall_mem_cons.mpr ⟨w_1295, fun _ h => absurd h List.not_mem_nil⟩⟩⟩⟩⟩⟩
set_option maxRecDepth 100000 in
theorem ln_5 : ∀ e ∈ lk_5.2.2.1, ∃ host, (mOn 5, e.1, (mL.getD e.2 mI0).2.1, host) ∈ mNs := fun _ h => absurd h List.not_mem_nil
set_option maxRecDepth 100000 in
theorem lc_5 : ∀ e ∈ lk_5.2.2.2.1, Cond.classLink (mOn 5) e.1 (if e.2.1 = 99 then "[[I" else mCn e.2.1) ∈ mGt := fun _ h => absurd h List.not_mem_nil
set_option maxRecDepth 100000 in
theorem lq_5 : ∀ e ∈ lk_5.2.2.2.2.1, Cond.constant (mOn 5) e.1 e.2.1 ∈ mGt := fun _ h => absurd h List.not_mem_nil
set_option maxRecDepth 100000 in
theorem ll_5 : ∀ e ∈ lk_5.2.2.2.2.2.1, Cond.constantLong (mOn 5) e.1 e.2.1 ∈ mGt := fun _ h => absurd h List.not_mem_nil
set_option maxRecDepth 100000 in
theorem lp_5 : ∀ e ∈ lk_5.2.2.2.2.2.2, Cond.methodLink (mOn 5) e.1 (mPn9 e.2.1) ∈ mGt := List.forall_mem_cons.mpr ⟨w_549, List.forall_mem_cons.mpr ⟨w_1296, fun _ h => absurd h List.not_mem_nil⟩⟩
theorem lkp_5 : mLnkP (fun y => (mL.getD y mI0).2.1) 5 lk_5 := ⟨lf_5, lm_5, ln_5, lc_5, lq_5, ll_5, lp_5⟩
set_option maxRecDepth 100000 in
theorem lf_6 : ∀ e ∈ lk_6.1, mFl (mOn 6) e.1 e.2.1 e.2.2.1 := List.forall_mem_cons.mpr ⟨⟨by decide, by decide, w_416⟩, List.forall_mem_cons.mpr ⟨⟨by decide, by decide, w_415⟩, fun _ h => absurd h List.not_mem_nil⟩⟩
set_option maxRecDepth 100000 in
theorem lm_6 : ∀ e ∈ lk_6.2.1, Cond.methodLink (mOn 6) e.1 (mL.getD e.2.1 mI0).2.1 ∈ mGt := fun _ h => absurd h List.not_mem_nil
set_option maxRecDepth 100000 in
theorem ln_6 : ∀ e ∈ lk_6.2.2.1, ∃ host, (mOn 6, e.1, (mL.getD e.2 mI0).2.1, host) ∈ mNs := fun _ h => absurd h List.not_mem_nil
set_option maxRecDepth 100000 in
theorem lc_6 : ∀ e ∈ lk_6.2.2.2.1, Cond.classLink (mOn 6) e.1 (if e.2.1 = 99 then "[[I" else mCn e.2.1) ∈ mGt := fun _ h => absurd h List.not_mem_nil
set_option maxRecDepth 100000 in
theorem lq_6 : ∀ e ∈ lk_6.2.2.2.2.1, Cond.constant (mOn 6) e.1 e.2.1 ∈ mGt := fun _ h => absurd h List.not_mem_nil
set_option maxRecDepth 100000 in
theorem ll_6 : ∀ e ∈ lk_6.2.2.2.2.2.1, Cond.constantLong (mOn 6) e.1 e.2.1 ∈ mGt := fun _ h => absurd h List.not_mem_nil
set_option maxRecDepth 100000 in
theorem lp_6 : ∀ e ∈ lk_6.2.2.2.2.2.2, Cond.methodLink (mOn 6) e.1 (mPn9 e.2.1) ∈ mGt := List.forall_mem_cons.mpr ⟨w_411, List.forall_mem_cons.mpr ⟨w_412, List.forall_mem_cons.mpr ⟨w_985, fun _ h => absurd h List.not_mem_nil⟩⟩⟩
theorem lkp_6 : mLnkP (fun y => (mL.getD y mI0).2.1) 6 lk_6 := ⟨lf_6, lm_6, ln_6, lc_6, lq_6, ll_6, lp_6⟩
set_option maxRecDepth 100000 in
theorem lf_7 : ∀ e ∈ lk_7.1, mFl (mOn 7) e.1 e.2.1 e.2.2.1 := List.forall_mem_cons.mpr ⟨⟨by decide, by decide, w_494⟩, List.forall_mem_cons.mpr ⟨⟨by decide, by decide, w_498⟩, List.forall_mem_cons.mpr ⟨⟨by decide, by decide, w_499⟩, List.forall_mem_cons.mpr ⟨⟨by decide, by decide, w_500⟩, List.forall_mem_cons.mpr ⟨⟨by decide, by decide, w_496⟩, List.forall_mem_cons.mpr ⟨⟨by decide, by decide, w_497⟩, List.forall_mem_cons.mpr ⟨⟨by decide, by decide, w_437⟩, List.forall_mem_cons.mpr ⟨⟨by decide, by decide, w_441⟩, List.forall_mem_cons.mpr ⟨⟨by decide, by decide, w_492⟩, List.forall_mem_cons.mpr ⟨⟨by decide, by decide, w_252⟩, List.forall_mem_cons.mpr ⟨⟨by decide, by decide, w_432⟩, List.forall_mem_cons.mpr ⟨⟨by decide, by decide, w_246⟩, List.forall_mem_cons.mpr ⟨⟨by decide, by decide, w_258⟩, fun _ h => absurd h List.not_mem_nil⟩⟩⟩⟩⟩⟩⟩⟩⟩⟩⟩⟩⟩
set_option maxRecDepth 100000 in
theorem lm_7 : ∀ e ∈ lk_7.2.1, Cond.methodLink (mOn 7) e.1 (mL.getD e.2.1 mI0).2.1 ∈ mGt := List.forall_mem_cons.mpr ⟨w_1060, List.forall_mem_cons.mpr ⟨w_1061, List.forall_mem_cons.mpr ⟨w_1062, List.forall_mem_cons.mpr ⟨w_1071, List.forall_mem_cons.mpr ⟨w_1080, List.forall_mem_cons.mpr ⟨w_1161, List.forall_mem_cons.mpr ⟨w_1162, List.forall_mem_cons.mpr ⟨w_1175, List.forall_mem_cons.mpr ⟨w_1171, List.forall_mem_cons.mpr ⟨w_1178, List.forall_mem_cons.mpr ⟨w_1207, fun _ h => absurd h List.not_mem_nil⟩⟩⟩⟩⟩⟩⟩⟩⟩⟩⟩
set_option maxRecDepth 100000 in
theorem ln_7 : ∀ e ∈ lk_7.2.2.1, ∃ host, (mOn 7, e.1, (mL.getD e.2 mI0).2.1, host) ∈ mNs := fun _ h => absurd h List.not_mem_nil
set_option maxRecDepth 100000 in
theorem lc_7 : ∀ e ∈ lk_7.2.2.2.1, Cond.classLink (mOn 7) e.1 (if e.2.1 = 99 then "[[I" else mCn e.2.1) ∈ mGt := fun _ h => absurd h List.not_mem_nil
set_option maxRecDepth 100000 in
theorem lq_7 : ∀ e ∈ lk_7.2.2.2.2.1, Cond.constant (mOn 7) e.1 e.2.1 ∈ mGt := fun _ h => absurd h List.not_mem_nil
set_option maxRecDepth 100000 in
theorem ll_7 : ∀ e ∈ lk_7.2.2.2.2.2.1, Cond.constantLong (mOn 7) e.1 e.2.1 ∈ mGt := fun _ h => absurd h List.not_mem_nil
set_option maxRecDepth 100000 in
theorem lp_7 : ∀ e ∈ lk_7.2.2.2.2.2.2, Cond.methodLink (mOn 7) e.1 (mPn9 e.2.1) ∈ mGt := List.forall_mem_cons.mpr ⟨w_491, List.forall_mem_cons.mpr ⟨w_1198, List.forall_mem_cons.mpr ⟨w_1210, fun _ h => absurd h List.not_mem_nil⟩⟩⟩
theorem lkp_7 : mLnkP (fun y => (mL.getD y mI0).2.1) 7 lk_7 := ⟨lf_7, lm_7, ln_7, lc_7, lq_7, ll_7, lp_7⟩
set_option maxRecDepth 100000 in
theorem lf_8 : ∀ e ∈ lk_8.1, mFl (mOn 8) e.1 e.2.1 e.2.2.1 := List.forall_mem_cons.mpr ⟨⟨by decide, by decide, w_162⟩, List.forall_mem_cons.mpr ⟨⟨by decide, by decide, w_163⟩, fun _ h => absurd h List.not_mem_nil⟩⟩
set_option maxRecDepth 100000 in
theorem lm_8 : ∀ e ∈ lk_8.2.1, Cond.methodLink (mOn 8) e.1 (mL.getD e.2.1 mI0).2.1 ∈ mGt := fun _ h => absurd h List.not_mem_nil
set_option maxRecDepth 100000 in
theorem ln_8 : ∀ e ∈ lk_8.2.2.1, ∃ host, (mOn 8, e.1, (mL.getD e.2 mI0).2.1, host) ∈ mNs := fun _ h => absurd h List.not_mem_nil
set_option maxRecDepth 100000 in
theorem lc_8 : ∀ e ∈ lk_8.2.2.2.1, Cond.classLink (mOn 8) e.1 (if e.2.1 = 99 then "[[I" else mCn e.2.1) ∈ mGt := fun _ h => absurd h List.not_mem_nil
set_option maxRecDepth 100000 in
theorem lq_8 : ∀ e ∈ lk_8.2.2.2.2.1, Cond.constant (mOn 8) e.1 e.2.1 ∈ mGt := fun _ h => absurd h List.not_mem_nil
set_option maxRecDepth 100000 in
theorem ll_8 : ∀ e ∈ lk_8.2.2.2.2.2.1, Cond.constantLong (mOn 8) e.1 e.2.1 ∈ mGt := fun _ h => absurd h List.not_mem_nil
set_option maxRecDepth 100000 in
theorem lp_8 : ∀ e ∈ lk_8.2.2.2.2.2.2, Cond.methodLink (mOn 8) e.1 (mPn9 e.2.1) ∈ mGt := List.forall_mem_cons.mpr ⟨w_161, fun _ h => absurd h List.not_mem_nil⟩
theorem lkp_8 : mLnkP (fun y => (mL.getD y mI0).2.1) 8 lk_8 := ⟨lf_8, lm_8, ln_8, lc_8, lq_8, ll_8, lp_8⟩
set_option maxRecDepth 100000 in
theorem lf_9 : ∀ e ∈ lk_9.1, mFl (mOn 9) e.1 e.2.1 e.2.2.1 := List.forall_mem_cons.mpr ⟨⟨by decide, by decide, w_351⟩, List.forall_mem_cons.mpr ⟨⟨by decide, by decide, w_352⟩, List.forall_mem_cons.mpr ⟨⟨by decide, by decide, w_353⟩, List.forall_mem_cons.mpr ⟨⟨by decide, by decide, w_354⟩, List.forall_mem_cons.mpr ⟨⟨by decide, by decide, w_355⟩, List.forall_mem_cons.mpr ⟨⟨by decide, by decide, w_165⟩, fun _ h => absurd h List.not_mem_nil⟩⟩⟩⟩⟩⟩
set_option maxRecDepth 100000 in
theorem lm_9 : ∀ e ∈ lk_9.2.1, Cond.methodLink (mOn 9) e.1 (mL.getD e.2.1 mI0).2.1 ∈ mGt := List.forall_mem_cons.mpr ⟨w_347, List.forall_mem_cons.mpr ⟨w_651, List.forall_mem_cons.mpr ⟨w_654, List.forall_mem_cons.mpr ⟨w_661, List.forall_mem_cons.mpr ⟨w_670, List.forall_mem_cons.mpr ⟨w_667, List.forall_mem_cons.mpr ⟨w_739, List.forall_mem_cons.mpr ⟨w_674, List.forall_mem_cons.mpr ⟨w_664, List.forall_mem_cons.mpr ⟨w_677, List.forall_mem_cons.mpr ⟨w_658, fun _ h => absurd h List.not_mem_nil⟩⟩⟩⟩⟩⟩⟩⟩⟩⟩⟩
set_option maxRecDepth 100000 in
theorem ln_9 : ∀ e ∈ lk_9.2.2.1, ∃ host, (mOn 9, e.1, (mL.getD e.2 mI0).2.1, host) ∈ mNs := fun _ h => absurd h List.not_mem_nil
set_option maxRecDepth 100000 in
theorem lc_9 : ∀ e ∈ lk_9.2.2.2.1, Cond.classLink (mOn 9) e.1 (if e.2.1 = 99 then "[[I" else mCn e.2.1) ∈ mGt := fun _ h => absurd h List.not_mem_nil
set_option maxRecDepth 100000 in
theorem lq_9 : ∀ e ∈ lk_9.2.2.2.2.1, Cond.constant (mOn 9) e.1 e.2.1 ∈ mGt := fun _ h => absurd h List.not_mem_nil
set_option maxRecDepth 100000 in
theorem ll_9 : ∀ e ∈ lk_9.2.2.2.2.2.1, Cond.constantLong (mOn 9) e.1 e.2.1 ∈ mGt := List.forall_mem_cons.mpr ⟨w_742, List.forall_mem_cons.mpr ⟨w_350, fun _ h => absurd h List.not_mem_nil⟩⟩
set_option maxRecDepth 100000 in
theorem lp_9 : ∀ e ∈ lk_9.2.2.2.2.2.2, Cond.methodLink (mOn 9) e.1 (mPn9 e.2.1) ∈ mGt := List.forall_mem_cons.mpr ⟨w_297, List.forall_mem_cons.mpr ⟨w_299, List.forall_mem_cons.mpr ⟨w_309, List.forall_mem_cons.mpr ⟨w_682, fun _ h => absurd h List.not_mem_nil⟩⟩⟩⟩
theorem lkp_9 : mLnkP (fun y => (mL.getD y mI0).2.1) 9 lk_9 := ⟨lf_9, lm_9, ln_9, lc_9, lq_9, ll_9, lp_9⟩
set_option maxRecDepth 100000 in
theorem lf_10 : ∀ e ∈ lk_10.1, mFl (mOn 10) e.1 e.2.1 e.2.2.1 := List.forall_mem_cons.mpr ⟨⟨by decide, by decide, w_428⟩, List.forall_mem_cons.mpr ⟨⟨by decide, by decide, w_434⟩, List.forall_mem_cons.mpr ⟨⟨by decide, by decide, w_445⟩, List.forall_mem_cons.mpr ⟨⟨by decide, by decide, w_446⟩, List.forall_mem_cons.mpr ⟨⟨by decide, by decide, w_444⟩, List.forall_mem_cons.mpr ⟨⟨by decide, by decide, w_447⟩, List.forall_mem_cons.mpr ⟨⟨by decide, by decide, w_225⟩, List.forall_mem_cons.mpr ⟨⟨by decide, by decide, w_438⟩, List.forall_mem_cons.mpr ⟨⟨by decide, by decide, w_440⟩, List.forall_mem_cons.mpr ⟨⟨by decide, by decide, w_250⟩, List.forall_mem_cons.mpr ⟨⟨by decide, by decide, w_243⟩, List.forall_mem_cons.mpr ⟨⟨by decide, by decide, w_256⟩, List.forall_mem_cons.mpr ⟨⟨by decide, by decide, w_234⟩, List.forall_mem_cons.mpr ⟨⟨by decide, by decide, w_201⟩, List.forall_mem_cons.mpr ⟨⟨by decide, by decide, w_240⟩, fun _ h => absurd h List.not_mem_nil⟩⟩⟩⟩⟩⟩⟩⟩⟩⟩⟩⟩⟩⟩⟩
set_option maxRecDepth 100000 in
theorem lm_10 : ∀ e ∈ lk_10.2.1, Cond.methodLink (mOn 10) e.1 (mL.getD e.2.1 mI0).2.1 ∈ mGt := List.forall_mem_cons.mpr ⟨w_953, List.forall_mem_cons.mpr ⟨w_957, List.forall_mem_cons.mpr ⟨w_893, List.forall_mem_cons.mpr ⟨w_959, List.forall_mem_cons.mpr ⟨w_926, List.forall_mem_cons.mpr ⟨w_960, List.forall_mem_cons.mpr ⟨w_1010, List.forall_mem_cons.mpr ⟨w_1006, List.forall_mem_cons.mpr ⟨w_1245, List.forall_mem_cons.mpr ⟨w_1246, List.forall_mem_cons.mpr ⟨w_878, List.forall_mem_cons.mpr ⟨w_882, List.forall_mem_cons.mpr ⟨w_905, fun _ h => absurd h List.not_mem_nil⟩⟩⟩⟩⟩⟩⟩⟩⟩⟩⟩⟩⟩
set_option maxRecDepth 100000 in
theorem ln_10 : ∀ e ∈ lk_10.2.2.1, ∃ host, (mOn 10, e.1, (mL.getD e.2 mI0).2.1, host) ∈ mNs := List.forall_mem_cons.mpr ⟨⟨"MoonDials", List.mem_of_getElem? (i := 6) rfl⟩, List.forall_mem_cons.mpr ⟨⟨"MoonDials", List.mem_of_getElem? (i := 7) rfl⟩, List.forall_mem_cons.mpr ⟨⟨"MoonDials", List.mem_of_getElem? (i := 8) rfl⟩, List.forall_mem_cons.mpr ⟨⟨"MoonDials", List.mem_of_getElem? (i := 9) rfl⟩, List.forall_mem_cons.mpr ⟨⟨"MoonDials", List.mem_of_getElem? (i := 5) rfl⟩, fun _ h => absurd h List.not_mem_nil⟩⟩⟩⟩⟩
set_option maxRecDepth 100000 in
theorem lc_10 : ∀ e ∈ lk_10.2.2.2.1, Cond.classLink (mOn 10) e.1 (if e.2.1 = 99 then "[[I" else mCn e.2.1) ∈ mGt := fun _ h => absurd h List.not_mem_nil
set_option maxRecDepth 100000 in
theorem lq_10 : ∀ e ∈ lk_10.2.2.2.2.1, Cond.constant (mOn 10) e.1 e.2.1 ∈ mGt := List.forall_mem_cons.mpr ⟨w_958, fun _ h => absurd h List.not_mem_nil⟩
set_option maxRecDepth 100000 in
theorem ll_10 : ∀ e ∈ lk_10.2.2.2.2.2.1, Cond.constantLong (mOn 10) e.1 e.2.1 ∈ mGt := fun _ h => absurd h List.not_mem_nil
set_option maxRecDepth 100000 in
theorem lp_10 : ∀ e ∈ lk_10.2.2.2.2.2.2, Cond.methodLink (mOn 10) e.1 (mPn9 e.2.1) ∈ mGt := List.forall_mem_cons.mpr ⟨w_427, List.forall_mem_cons.mpr ⟨w_873, fun _ h => absurd h List.not_mem_nil⟩⟩
theorem lkp_10 : mLnkP (fun y => (mL.getD y mI0).2.1) 10 lk_10 := ⟨lf_10, lm_10, ln_10, lc_10, lq_10, ll_10, lp_10⟩
set_option maxRecDepth 100000 in
theorem lf_11 : ∀ e ∈ lk_11.1, mFl (mOn 11) e.1 e.2.1 e.2.2.1 := List.forall_mem_cons.mpr ⟨⟨by decide, by decide, w_581⟩, List.forall_mem_cons.mpr ⟨⟨by decide, by decide, w_582⟩, List.forall_mem_cons.mpr ⟨⟨by decide, by decide, w_583⟩, List.forall_mem_cons.mpr ⟨⟨by decide, by decide, w_584⟩, List.forall_mem_cons.mpr ⟨⟨by decide, by decide, w_585⟩, List.forall_mem_cons.mpr ⟨⟨by decide, by decide, w_586⟩, List.forall_mem_cons.mpr ⟨⟨by decide, by decide, w_587⟩, List.forall_mem_cons.mpr ⟨⟨by decide, by decide, w_588⟩, List.forall_mem_cons.mpr ⟨⟨by decide, by decide, w_589⟩, List.forall_mem_cons.mpr ⟨⟨by decide, by decide, w_590⟩, List.forall_mem_cons.mpr ⟨⟨by decide, by decide, w_591⟩, List.forall_mem_cons.mpr ⟨⟨by decide, by decide, w_592⟩, List.forall_mem_cons.mpr ⟨⟨by decide, by decide, w_593⟩, List.forall_mem_cons.mpr ⟨⟨by decide, by decide, w_594⟩, List.forall_mem_cons.mpr ⟨⟨by decide, by decide, w_595⟩, List.forall_mem_cons.mpr ⟨⟨by decide, by decide, w_164⟩, List.forall_mem_cons.mpr ⟨⟨by decide, by decide, w_369⟩, List.forall_mem_cons.mpr ⟨⟨by decide, by decide, w_551⟩, List.forall_mem_cons.mpr ⟨⟨by decide, by decide, w_262⟩, List.forall_mem_cons.mpr ⟨⟨by decide, by decide, w_247⟩, List.forall_mem_cons.mpr ⟨⟨by decide, by decide, w_236⟩, List.forall_mem_cons.mpr ⟨⟨by decide, by decide, w_239⟩, List.forall_mem_cons.mpr ⟨⟨by decide, by decide, w_433⟩, List.forall_mem_cons.mpr ⟨⟨by decide, by decide, w_472⟩, List.forall_mem_cons.mpr ⟨⟨by decide, by decide, w_474⟩, List.forall_mem_cons.mpr ⟨⟨by decide, by decide, w_493⟩, List.forall_mem_cons.mpr ⟨⟨by decide, by decide, w_495⟩, List.forall_mem_cons.mpr ⟨⟨by decide, by decide, w_259⟩, List.forall_mem_cons.mpr ⟨⟨by decide, by decide, w_525⟩, List.forall_mem_cons.mpr ⟨⟨by decide, by decide, w_253⟩, List.forall_mem_cons.mpr ⟨⟨by decide, by decide, w_439⟩, List.forall_mem_cons.mpr ⟨⟨by decide, by decide, w_443⟩, fun _ h => absurd h List.not_mem_nil⟩⟩⟩⟩⟩⟩⟩⟩⟩⟩⟩⟩⟩⟩⟩⟩⟩⟩⟩⟩⟩⟩⟩⟩⟩⟩⟩⟩⟩⟩⟩⟩
set_option maxRecDepth 100000 in
theorem lm_11 : ∀ e ∈ lk_11.2.1, Cond.methodLink (mOn 11) e.1 (mL.getD e.2.1 mI0).2.1 ∈ mGt := List.forall_mem_cons.mpr ⟨w_408, List.forall_mem_cons.mpr ⟨w_424, List.forall_mem_cons.mpr ⟨w_467, List.forall_mem_cons.mpr ⟨w_488, List.forall_mem_cons.mpr ⟨w_518, List.forall_mem_cons.mpr ⟨w_546, List.forall_mem_cons.mpr ⟨w_574, List.forall_mem_cons.mpr ⟨w_631, List.forall_mem_cons.mpr ⟨w_643, List.forall_mem_cons.mpr ⟨w_844, List.forall_mem_cons.mpr ⟨w_848, List.forall_mem_cons.mpr ⟨w_865, List.forall_mem_cons.mpr ⟨w_869, List.forall_mem_cons.mpr ⟨w_874, List.forall_mem_cons.mpr ⟨w_889, List.forall_mem_cons.mpr ⟨w_910, List.forall_mem_cons.mpr ⟨w_904, List.forall_mem_cons.mpr ⟨w_918, List.forall_mem_cons.mpr ⟨w_922, List.forall_mem_cons.mpr ⟨w_934, List.forall_mem_cons.mpr ⟨w_938, List.forall_mem_cons.mpr ⟨w_945, List.forall_mem_cons.mpr ⟨w_968, List.forall_mem_cons.mpr ⟨w_976, List.forall_mem_cons.mpr ⟨w_998, List.forall_mem_cons.mpr ⟨w_949, List.forall_mem_cons.mpr ⟨w_1001, List.forall_mem_cons.mpr ⟨w_1016, List.forall_mem_cons.mpr ⟨w_1025, List.forall_mem_cons.mpr ⟨w_1033, List.forall_mem_cons.mpr ⟨w_1038, List.forall_mem_cons.mpr ⟨w_1049, List.forall_mem_cons.mpr ⟨w_1037, List.forall_mem_cons.mpr ⟨w_1056, List.forall_mem_cons.mpr ⟨w_1067, List.forall_mem_cons.mpr ⟨w_1076, List.forall_mem_cons.mpr ⟨w_1085, List.forall_mem_cons.mpr ⟨w_1097, List.forall_mem_cons.mpr ⟨w_1105, List.forall_mem_cons.mpr ⟨w_1128, List.forall_mem_cons.mpr ⟨w_1136, List.forall_mem_cons.mpr ⟨w_1149, List.forall_mem_cons.mpr ⟨w_1157, List.forall_mem_cons.mpr ⟨w_1167, List.forall_mem_cons.mpr ⟨w_1186, List.forall_mem_cons.mpr ⟨w_1194, List.forall_mem_cons.mpr ⟨w_1203, List.forall_mem_cons.mpr ⟨w_1219, List.forall_mem_cons.mpr ⟨w_1241, List.forall_mem_cons.mpr ⟨w_1255, List.forall_mem_cons.mpr ⟨w_1260, List.forall_mem_cons.mpr ⟨w_1272, List.forall_mem_cons.mpr ⟨w_1287, List.forall_mem_cons.mpr ⟨w_981, List.forall_mem_cons.mpr ⟨w_1309, List.forall_mem_cons.mpr ⟨w_1313, List.forall_mem_cons.mpr ⟨w_1317, List.forall_mem_cons.mpr ⟨w_1321, List.forall_mem_cons.mpr ⟨w_1325, List.forall_mem_cons.mpr ⟨w_1329, List.forall_mem_cons.mpr ⟨w_1333, List.forall_mem_cons.mpr ⟨w_1337, List.forall_mem_cons.mpr ⟨w_1338, List.forall_mem_cons.mpr ⟨w_900, fun _ h => absurd h List.not_mem_nil⟩⟩⟩⟩⟩⟩⟩⟩⟩⟩⟩⟩⟩⟩⟩⟩⟩⟩⟩⟩⟩⟩⟩⟩⟩⟩⟩⟩⟩⟩⟩⟩⟩⟩⟩⟩⟩⟩⟩⟩⟩⟩⟩⟩⟩⟩⟩⟩⟩⟩⟩⟩⟩⟩⟩⟩⟩⟩⟩⟩⟩⟩⟩⟩
set_option maxRecDepth 100000 in
theorem ln_11 : ∀ e ∈ lk_11.2.2.1, ∃ host, (mOn 11, e.1, (mL.getD e.2 mI0).2.1, host) ∈ mNs := List.forall_mem_cons.mpr ⟨⟨"MoonDials", List.mem_of_getElem? (i := 0) rfl⟩, List.forall_mem_cons.mpr ⟨⟨"MoonDials", List.mem_of_getElem? (i := 1) rfl⟩, List.forall_mem_cons.mpr ⟨⟨"MoonDials", List.mem_of_getElem? (i := 2) rfl⟩, fun _ h => absurd h List.not_mem_nil⟩⟩⟩
set_option maxRecDepth 100000 in
theorem lc_11 : ∀ e ∈ lk_11.2.2.2.1, Cond.classLink (mOn 11) e.1 (if e.2.1 = 99 then "[[I" else mCn e.2.1) ∈ mGt := List.forall_mem_cons.mpr ⟨w_156, List.forall_mem_cons.mpr ⟨w_172, List.forall_mem_cons.mpr ⟨w_284, List.forall_mem_cons.mpr ⟨w_406, List.forall_mem_cons.mpr ⟨w_422, List.forall_mem_cons.mpr ⟨w_465, List.forall_mem_cons.mpr ⟨w_486, List.forall_mem_cons.mpr ⟨w_516, List.forall_mem_cons.mpr ⟨w_544, fun _ h => absurd h List.not_mem_nil⟩⟩⟩⟩⟩⟩⟩⟩⟩
set_option maxRecDepth 100000 in
theorem lq_11 : ∀ e ∈ lk_11.2.2.2.2.1, Cond.constant (mOn 11) e.1 e.2.1 ∈ mGt := List.forall_mem_cons.mpr ⟨w_903, fun _ h => absurd h List.not_mem_nil⟩
set_option maxRecDepth 100000 in
theorem ll_11 : ∀ e ∈ lk_11.2.2.2.2.2.1, Cond.constantLong (mOn 11) e.1 e.2.1 ∈ mGt := fun _ h => absurd h List.not_mem_nil
set_option maxRecDepth 100000 in
theorem lp_11 : ∀ e ∈ lk_11.2.2.2.2.2.2, Cond.methodLink (mOn 11) e.1 (mPn9 e.2.1) ∈ mGt := List.forall_mem_cons.mpr ⟨w_153, List.forall_mem_cons.mpr ⟨w_1020, List.forall_mem_cons.mpr ⟨w_980, fun _ h => absurd h List.not_mem_nil⟩⟩⟩
theorem lkp_11 : mLnkP (fun y => (mL.getD y mI0).2.1) 11 lk_11 := ⟨lf_11, lm_11, ln_11, lc_11, lq_11, ll_11, lp_11⟩
set_option maxRecDepth 100000 in
theorem lf_12 : ∀ e ∈ lk_12.1, mFl (mOn 12) e.1 e.2.1 e.2.2.1 := List.forall_mem_cons.mpr ⟨⟨by decide, by decide, w_1371⟩, List.forall_mem_cons.mpr ⟨⟨by decide, by decide, w_1373⟩, List.forall_mem_cons.mpr ⟨⟨by decide, by decide, w_1375⟩, List.forall_mem_cons.mpr ⟨⟨by decide, by decide, w_1376⟩, List.forall_mem_cons.mpr ⟨⟨by decide, by decide, w_1377⟩, List.forall_mem_cons.mpr ⟨⟨by decide, by decide, w_1378⟩, List.forall_mem_cons.mpr ⟨⟨by decide, by decide, w_1379⟩, List.forall_mem_cons.mpr ⟨⟨by decide, by decide, w_1387⟩, List.forall_mem_cons.mpr ⟨⟨by decide, by decide, w_1391⟩, List.forall_mem_cons.mpr ⟨⟨by decide, by decide, w_1392⟩, List.forall_mem_cons.mpr ⟨⟨by decide, by decide, w_1393⟩, List.forall_mem_cons.mpr ⟨⟨by decide, by decide, w_1394⟩, List.forall_mem_cons.mpr ⟨⟨by decide, by decide, w_1395⟩, List.forall_mem_cons.mpr ⟨⟨by decide, by decide, w_1396⟩, List.forall_mem_cons.mpr ⟨⟨by decide, by decide, w_1397⟩, List.forall_mem_cons.mpr ⟨⟨by decide, by decide, w_1398⟩, List.forall_mem_cons.mpr ⟨⟨by decide, by decide, w_1399⟩, List.forall_mem_cons.mpr ⟨⟨by decide, by decide, w_1400⟩, List.forall_mem_cons.mpr ⟨⟨by decide, by decide, w_1401⟩, List.forall_mem_cons.mpr ⟨⟨by decide, by decide, w_1402⟩, List.forall_mem_cons.mpr ⟨⟨by decide, by decide, w_1403⟩, List.forall_mem_cons.mpr ⟨⟨by decide, by decide, w_1405⟩, List.forall_mem_cons.mpr ⟨⟨by decide, by decide, w_1406⟩, List.forall_mem_cons.mpr ⟨⟨by decide, by decide, w_1407⟩, List.forall_mem_cons.mpr ⟨⟨by decide, by decide, w_1408⟩, List.forall_mem_cons.mpr ⟨⟨by decide, by decide, w_1409⟩, List.forall_mem_cons.mpr ⟨⟨by decide, by decide, w_1411⟩, List.forall_mem_cons.mpr ⟨⟨by decide, by decide, w_1412⟩, List.forall_mem_cons.mpr ⟨⟨by decide, by decide, w_1413⟩, List.forall_mem_cons.mpr ⟨⟨by decide, by decide, w_1415⟩, List.forall_mem_cons.mpr ⟨⟨by decide, by decide, w_1416⟩, List.forall_mem_cons.mpr ⟨⟨by decide, by decide, w_1418⟩, List.forall_mem_cons.mpr ⟨⟨by decide, by decide, w_1419⟩, List.forall_mem_cons.mpr ⟨⟨by decide, by decide, w_1422⟩, List.forall_mem_cons.mpr ⟨⟨by decide, by decide, w_1424⟩, List.forall_mem_cons.mpr ⟨⟨by decide, by decide, w_1425⟩, List.forall_mem_cons.mpr ⟨⟨by decide, by decide, w_1426⟩, List.forall_mem_cons.mpr ⟨⟨by decide, by decide, w_1427⟩, List.forall_mem_cons.mpr ⟨⟨by decide, by decide, w_1429⟩, List.forall_mem_cons.mpr ⟨⟨by decide, by decide, w_1430⟩, List.forall_mem_cons.mpr ⟨⟨by decide, by decide, w_1431⟩, List.forall_mem_cons.mpr ⟨⟨by decide, by decide, w_1433⟩, List.forall_mem_cons.mpr ⟨⟨by decide, by decide, w_1434⟩, List.forall_mem_cons.mpr ⟨⟨by decide, by decide, w_1435⟩, List.forall_mem_cons.mpr ⟨⟨by decide, by decide, w_1436⟩, List.forall_mem_cons.mpr ⟨⟨by decide, by decide, w_1437⟩, List.forall_mem_cons.mpr ⟨⟨by decide, by decide, w_1438⟩, List.forall_mem_cons.mpr ⟨⟨by decide, by decide, w_1372⟩, List.forall_mem_cons.mpr ⟨⟨by decide, by decide, w_1374⟩, List.forall_mem_cons.mpr ⟨⟨by decide, by decide, w_1380⟩, List.forall_mem_cons.mpr ⟨⟨by decide, by decide, w_1383⟩, List.forall_mem_cons.mpr ⟨⟨by decide, by decide, w_1381⟩, List.forall_mem_cons.mpr ⟨⟨by decide, by decide, w_1384⟩, List.forall_mem_cons.mpr ⟨⟨by decide, by decide, w_1385⟩, List.forall_mem_cons.mpr ⟨⟨by decide, by decide, w_1386⟩, List.forall_mem_cons.mpr ⟨⟨by decide, by decide, w_1382⟩, List.forall_mem_cons.mpr ⟨⟨by decide, by decide, w_1388⟩, List.forall_mem_cons.mpr ⟨⟨by decide, by decide, w_1389⟩, List.forall_mem_cons.mpr ⟨⟨by decide, by decide, w_1390⟩, List.forall_mem_cons.mpr ⟨⟨by decide, by decide, w_1404⟩, List.forall_mem_cons.mpr ⟨⟨by decide, by decide, w_1410⟩, List.forall_mem_cons.mpr ⟨⟨by decide, by decide, w_1423⟩, List.forall_mem_cons.mpr ⟨⟨by decide, by decide, w_1432⟩, List.forall_mem_cons.mpr ⟨⟨by decide, by decide, w_1414⟩, List.forall_mem_cons.mpr ⟨⟨by decide, by decide, w_1417⟩, List.forall_mem_cons.mpr ⟨⟨by decide, by decide, w_1420⟩, List.forall_mem_cons.mpr ⟨⟨by decide, by decide, w_1421⟩, List.forall_mem_cons.mpr ⟨⟨by decide, by decide, w_1428⟩, fun _ h => absurd h List.not_mem_nil⟩⟩⟩⟩⟩⟩⟩⟩⟩⟩⟩⟩⟩⟩⟩⟩⟩⟩⟩⟩⟩⟩⟩⟩⟩⟩⟩⟩⟩⟩⟩⟩⟩⟩⟩⟩⟩⟩⟩⟩⟩⟩⟩⟩⟩⟩⟩⟩⟩⟩⟩⟩⟩⟩⟩⟩⟩⟩⟩⟩⟩⟩⟩⟩⟩⟩⟩⟩
set_option maxRecDepth 100000 in
theorem lm_12 : ∀ e ∈ lk_12.2.1, Cond.methodLink (mOn 12) e.1 (mL.getD e.2.1 mI0).2.1 ∈ mGt := List.forall_mem_cons.mpr ⟨w_1348, List.forall_mem_cons.mpr ⟨w_1352, List.forall_mem_cons.mpr ⟨w_1359, List.forall_mem_cons.mpr ⟨w_1367, List.forall_mem_cons.mpr ⟨w_1582, List.forall_mem_cons.mpr ⟨w_1355, List.forall_mem_cons.mpr ⟨w_1598, List.forall_mem_cons.mpr ⟨w_1602, List.forall_mem_cons.mpr ⟨w_1606, List.forall_mem_cons.mpr ⟨w_1609, List.forall_mem_cons.mpr ⟨w_1612, List.forall_mem_cons.mpr ⟨w_1628, List.forall_mem_cons.mpr ⟨w_1616, List.forall_mem_cons.mpr ⟨w_1624, List.forall_mem_cons.mpr ⟨w_1594, List.forall_mem_cons.mpr ⟨w_1620, List.forall_mem_cons.mpr ⟨w_1632, List.forall_mem_cons.mpr ⟨w_1640, List.forall_mem_cons.mpr ⟨w_1644, List.forall_mem_cons.mpr ⟨w_1648, List.forall_mem_cons.mpr ⟨w_1652, List.forall_mem_cons.mpr ⟨w_1656, List.forall_mem_cons.mpr ⟨w_1660, List.forall_mem_cons.mpr ⟨w_1636, List.forall_mem_cons.mpr ⟨w_1664, List.forall_mem_cons.mpr ⟨w_1680, List.forall_mem_cons.mpr ⟨w_1672, List.forall_mem_cons.mpr ⟨w_1668, List.forall_mem_cons.mpr ⟨w_1676, List.forall_mem_cons.mpr ⟨w_1363, List.forall_mem_cons.mpr ⟨w_1696, List.forall_mem_cons.mpr ⟨w_1750, List.forall_mem_cons.mpr ⟨w_1699, List.forall_mem_cons.mpr ⟨w_1730, List.forall_mem_cons.mpr ⟨w_1715, List.forall_mem_cons.mpr ⟨w_1707, List.forall_mem_cons.mpr ⟨w_1754, List.forall_mem_cons.mpr ⟨w_1762, List.forall_mem_cons.mpr ⟨w_1711, List.forall_mem_cons.mpr ⟨w_1719, List.forall_mem_cons.mpr ⟨w_1726, List.forall_mem_cons.mpr ⟨w_1703, List.forall_mem_cons.mpr ⟨w_1722, List.forall_mem_cons.mpr ⟨w_1758, List.forall_mem_cons.mpr ⟨w_1766, List.forall_mem_cons.mpr ⟨w_1801, List.forall_mem_cons.mpr ⟨w_1742, List.forall_mem_cons.mpr ⟨w_1797, List.forall_mem_cons.mpr ⟨w_1793, List.forall_mem_cons.mpr ⟨w_1845, List.forall_mem_cons.mpr ⟨w_1849, List.forall_mem_cons.mpr ⟨w_1782, List.forall_mem_cons.mpr ⟨w_1841, List.forall_mem_cons.mpr ⟨w_1692, List.forall_mem_cons.mpr ⟨w_1738, List.forall_mem_cons.mpr ⟨w_1770, List.forall_mem_cons.mpr ⟨w_1778, List.forall_mem_cons.mpr ⟨w_1789, List.forall_mem_cons.mpr ⟨w_1806, List.forall_mem_cons.mpr ⟨w_1818, List.forall_mem_cons.mpr ⟨w_1814, List.forall_mem_cons.mpr ⟨w_1834, List.forall_mem_cons.mpr ⟨w_1837, List.forall_mem_cons.mpr ⟨w_1868, List.forall_mem_cons.mpr ⟨w_1876, List.forall_mem_cons.mpr ⟨w_1860, List.forall_mem_cons.mpr ⟨w_1864, List.forall_mem_cons.mpr ⟨w_1872, List.forall_mem_cons.mpr ⟨w_1880, List.forall_mem_cons.mpr ⟨w_1887, List.forall_mem_cons.mpr ⟨w_1895, List.forall_mem_cons.mpr ⟨w_1934, List.forall_mem_cons.mpr ⟨w_1927, List.forall_mem_cons.mpr ⟨w_1923, List.forall_mem_cons.mpr ⟨w_1930, List.forall_mem_cons.mpr ⟨w_1966, List.forall_mem_cons.mpr ⟨w_1974, List.forall_mem_cons.mpr ⟨w_1990, List.forall_mem_cons.mpr ⟨w_1986, List.forall_mem_cons.mpr ⟨w_1994, List.forall_mem_cons.mpr ⟨w_2010, List.forall_mem_cons.mpr ⟨w_2006, List.forall_mem_cons.mpr ⟨w_2014, List.forall_mem_cons.mpr ⟨w_2022, List.forall_mem_cons.mpr ⟨w_2002, List.forall_mem_cons.mpr ⟨w_2018, List.forall_mem_cons.mpr ⟨w_2050, List.forall_mem_cons.mpr ⟨w_2070, List.forall_mem_cons.mpr ⟨w_2074, List.forall_mem_cons.mpr ⟨w_2078, fun _ h => absurd h List.not_mem_nil⟩⟩⟩⟩⟩⟩⟩⟩⟩⟩⟩⟩⟩⟩⟩⟩⟩⟩⟩⟩⟩⟩⟩⟩⟩⟩⟩⟩⟩⟩⟩⟩⟩⟩⟩⟩⟩⟩⟩⟩⟩⟩⟩⟩⟩⟩⟩⟩⟩⟩⟩⟩⟩⟩⟩⟩⟩⟩⟩⟩⟩⟩⟩⟩⟩⟩⟩⟩⟩⟩⟩⟩⟩⟩⟩⟩⟩⟩⟩⟩⟩⟩⟩⟩⟩⟩⟩⟩⟩⟩
set_option maxRecDepth 100000 in
theorem ln_12 : ∀ e ∈ lk_12.2.2.1, ∃ host, (mOn 12, e.1, (mL.getD e.2 mI0).2.1, host) ∈ mNs := fun _ h => absurd h List.not_mem_nil
set_option maxRecDepth 100000 in
theorem lc_12 : ∀ e ∈ lk_12.2.2.2.1, Cond.classLink (mOn 12) e.1 (if e.2.1 = 99 then "[[I" else mCn e.2.1) ∈ mGt := fun _ h => absurd h List.not_mem_nil
set_option maxRecDepth 100000 in
theorem lq_12 : ∀ e ∈ lk_12.2.2.2.2.1, Cond.constant (mOn 12) e.1 e.2.1 ∈ mGt := List.forall_mem_cons.mpr ⟨w_1733, List.forall_mem_cons.mpr ⟨w_1805, fun _ h => absurd h List.not_mem_nil⟩⟩
set_option maxRecDepth 100000 in
theorem ll_12 : ∀ e ∈ lk_12.2.2.2.2.2.1, Cond.constantLong (mOn 12) e.1 e.2.1 ∈ mGt := List.forall_mem_cons.mpr ⟨w_1358, fun _ h => absurd h List.not_mem_nil⟩
set_option maxRecDepth 100000 in
theorem lp_12 : ∀ e ∈ lk_12.2.2.2.2.2.2, Cond.methodLink (mOn 12) e.1 (mPn9 e.2.1) ∈ mGt := List.forall_mem_cons.mpr ⟨w_1347, fun _ h => absurd h List.not_mem_nil⟩
theorem lkp_12 : mLnkP (fun y => (mL.getD y mI0).2.1) 12 lk_12 := ⟨lf_12, lm_12, ln_12, lc_12, lq_12, ll_12, lp_12⟩
set_option maxRecDepth 100000 in
theorem lf_13 : ∀ e ∈ lk_13.1, mFl (mOn 13) e.1 e.2.1 e.2.2.1 := fun _ h => absurd h List.not_mem_nil
set_option maxRecDepth 100000 in
theorem lm_13 : ∀ e ∈ lk_13.2.1, Cond.methodLink (mOn 13) e.1 (mL.getD e.2.1 mI0).2.1 ∈ mGt := fun _ h => absurd h List.not_mem_nil
set_option maxRecDepth 100000 in
theorem ln_13 : ∀ e ∈ lk_13.2.2.1, ∃ host, (mOn 13, e.1, (mL.getD e.2 mI0).2.1, host) ∈ mNs := fun _ h => absurd h List.not_mem_nil
set_option maxRecDepth 100000 in
theorem lc_13 : ∀ e ∈ lk_13.2.2.2.1, Cond.classLink (mOn 13) e.1 (if e.2.1 = 99 then "[[I" else mCn e.2.1) ∈ mGt := fun _ h => absurd h List.not_mem_nil
set_option maxRecDepth 100000 in
theorem lq_13 : ∀ e ∈ lk_13.2.2.2.2.1, Cond.constant (mOn 13) e.1 e.2.1 ∈ mGt := List.forall_mem_cons.mpr ⟨w_1013, List.forall_mem_cons.mpr ⟨w_1014, List.forall_mem_cons.mpr ⟨w_1015, fun _ h => absurd h List.not_mem_nil⟩⟩⟩
set_option maxRecDepth 100000 in
theorem ll_13 : ∀ e ∈ lk_13.2.2.2.2.2.1, Cond.constantLong (mOn 13) e.1 e.2.1 ∈ mGt := fun _ h => absurd h List.not_mem_nil
set_option maxRecDepth 100000 in
theorem lp_13 : ∀ e ∈ lk_13.2.2.2.2.2.2, Cond.methodLink (mOn 13) e.1 (mPn9 e.2.1) ∈ mGt := fun _ h => absurd h List.not_mem_nil
theorem lkp_13 : mLnkP (fun y => (mL.getD y mI0).2.1) 13 lk_13 := ⟨lf_13, lm_13, ln_13, lc_13, lq_13, ll_13, lp_13⟩
set_option maxRecDepth 100000 in
theorem lf_14 : ∀ e ∈ lk_14.1, mFl (mOn 14) e.1 e.2.1 e.2.2.1 := fun _ h => absurd h List.not_mem_nil
set_option maxRecDepth 100000 in
theorem lm_14 : ∀ e ∈ lk_14.2.1, Cond.methodLink (mOn 14) e.1 (mL.getD e.2.1 mI0).2.1 ∈ mGt := List.forall_mem_cons.mpr ⟨w_150, List.forall_mem_cons.mpr ⟨w_1344, List.forall_mem_cons.mpr ⟨w_627, List.forall_mem_cons.mpr ⟨w_1578, List.forall_mem_cons.mpr ⟨w_635, List.forall_mem_cons.mpr ⟨w_1586, List.forall_mem_cons.mpr ⟨w_639, List.forall_mem_cons.mpr ⟨w_1590, List.forall_mem_cons.mpr ⟨w_857, List.forall_mem_cons.mpr ⟨w_1684, List.forall_mem_cons.mpr ⟨w_861, List.forall_mem_cons.mpr ⟨w_1688, List.forall_mem_cons.mpr ⟨w_906, List.forall_mem_cons.mpr ⟨w_1734, List.forall_mem_cons.mpr ⟨w_914, List.forall_mem_cons.mpr ⟨w_1746, List.forall_mem_cons.mpr ⟨w_930, List.forall_mem_cons.mpr ⟨w_1774, List.forall_mem_cons.mpr ⟨w_941, List.forall_mem_cons.mpr ⟨w_1785, List.forall_mem_cons.mpr ⟨w_972, List.forall_mem_cons.mpr ⟨w_1810, List.forall_mem_cons.mpr ⟨w_986, List.forall_mem_cons.mpr ⟨w_1822, List.forall_mem_cons.mpr ⟨w_990, List.forall_mem_cons.mpr ⟨w_1826, List.forall_mem_cons.mpr ⟨w_994, List.forall_mem_cons.mpr ⟨w_1830, List.forall_mem_cons.mpr ⟨w_1021, List.forall_mem_cons.mpr ⟨w_1852, List.forall_mem_cons.mpr ⟨w_1029, List.forall_mem_cons.mpr ⟨w_1856, List.forall_mem_cons.mpr ⟨w_1052, List.forall_mem_cons.mpr ⟨w_1883, List.forall_mem_cons.mpr ⟨w_1063, List.forall_mem_cons.mpr ⟨w_1891, List.forall_mem_cons.mpr ⟨w_1072, List.forall_mem_cons.mpr ⟨w_1899, List.forall_mem_cons.mpr ⟨w_1081, List.forall_mem_cons.mpr ⟨w_1907, List.forall_mem_cons.mpr ⟨w_1089, List.forall_mem_cons.mpr ⟨w_1911, List.forall_mem_cons.mpr ⟨w_1093, List.forall_mem_cons.mpr ⟨w_1915, List.forall_mem_cons.mpr ⟨w_1101, List.forall_mem_cons.mpr ⟨w_1919, List.forall_mem_cons.mpr ⟨w_1116, List.forall_mem_cons.mpr ⟨w_1938, List.forall_mem_cons.mpr ⟨w_1120, List.forall_mem_cons.mpr ⟨w_1942, List.forall_mem_cons.mpr ⟨w_1124, List.forall_mem_cons.mpr ⟨w_1946, List.forall_mem_cons.mpr ⟨w_1132, List.forall_mem_cons.mpr ⟨w_1950, List.forall_mem_cons.mpr ⟨w_1145, List.forall_mem_cons.mpr ⟨w_1954, List.forall_mem_cons.mpr ⟨w_1153, List.forall_mem_cons.mpr ⟨w_1958, List.forall_mem_cons.mpr ⟨w_1163, List.forall_mem_cons.mpr ⟨w_1962, List.forall_mem_cons.mpr ⟨w_1182, List.forall_mem_cons.mpr ⟨w_1970, List.forall_mem_cons.mpr ⟨w_1190, List.forall_mem_cons.mpr ⟨w_1903, List.forall_mem_cons.mpr ⟨w_1199, List.forall_mem_cons.mpr ⟨w_1982, List.forall_mem_cons.mpr ⟨w_1211, List.forall_mem_cons.mpr ⟨w_1978, List.forall_mem_cons.mpr ⟨w_1215, List.forall_mem_cons.mpr ⟨w_1998, List.forall_mem_cons.mpr ⟨w_1237, List.forall_mem_cons.mpr ⟨w_2026, List.forall_mem_cons.mpr ⟨w_1247, List.forall_mem_cons.mpr ⟨w_2030, List.forall_mem_cons.mpr ⟨w_1251, List.forall_mem_cons.mpr ⟨w_2034, List.forall_mem_cons.mpr ⟨w_1256, List.forall_mem_cons.mpr ⟨w_2038, List.forall_mem_cons.mpr ⟨w_1264, List.forall_mem_cons.mpr ⟨w_2042, List.forall_mem_cons.mpr ⟨w_1268, List.forall_mem_cons.mpr ⟨w_2046, List.forall_mem_cons.mpr ⟨w_1283, List.forall_mem_cons.mpr ⟨w_2054, List.forall_mem_cons.mpr ⟨w_1297, List.forall_mem_cons.mpr ⟨w_2058, List.forall_mem_cons.mpr ⟨w_1301, List.forall_mem_cons.mpr ⟨w_2062, List.forall_mem_cons.mpr ⟨w_1305, List.forall_mem_cons.mpr ⟨w_2066, fun _ h => absurd h List.not_mem_nil⟩⟩⟩⟩⟩⟩⟩⟩⟩⟩⟩⟩⟩⟩⟩⟩⟩⟩⟩⟩⟩⟩⟩⟩⟩⟩⟩⟩⟩⟩⟩⟩⟩⟩⟩⟩⟩⟩⟩⟩⟩⟩⟩⟩⟩⟩⟩⟩⟩⟩⟩⟩⟩⟩⟩⟩⟩⟩⟩⟩⟩⟩⟩⟩⟩⟩⟩⟩⟩⟩⟩⟩⟩⟩⟩⟩⟩⟩⟩⟩⟩⟩⟩⟩⟩⟩⟩⟩⟩⟩
set_option maxRecDepth 100000 in
theorem ln_14 : ∀ e ∈ lk_14.2.2.1, ∃ host, (mOn 14, e.1, (mL.getD e.2 mI0).2.1, host) ∈ mNs := fun _ h => absurd h List.not_mem_nil
set_option maxRecDepth 100000 in
theorem lc_14 : ∀ e ∈ lk_14.2.2.2.1, Cond.classLink (mOn 14) e.1 (if e.2.1 = 99 then "[[I" else mCn e.2.1) ∈ mGt := List.forall_mem_cons.mpr ⟨w_148, List.forall_mem_cons.mpr ⟨w_1342, fun _ h => absurd h List.not_mem_nil⟩⟩
set_option maxRecDepth 100000 in
theorem lq_14 : ∀ e ∈ lk_14.2.2.2.2.1, Cond.constant (mOn 14) e.1 e.2.1 ∈ mGt := fun _ h => absurd h List.not_mem_nil
set_option maxRecDepth 100000 in
theorem ll_14 : ∀ e ∈ lk_14.2.2.2.2.2.1, Cond.constantLong (mOn 14) e.1 e.2.1 ∈ mGt := fun _ h => absurd h List.not_mem_nil
set_option maxRecDepth 100000 in
theorem lp_14 : ∀ e ∈ lk_14.2.2.2.2.2.2, Cond.methodLink (mOn 14) e.1 (mPn9 e.2.1) ∈ mGt := fun _ h => absurd h List.not_mem_nil
theorem lkp_14 : mLnkP (fun y => (mL.getD y mI0).2.1) 14 lk_14 := ⟨lf_14, lm_14, ln_14, lc_14, lq_14, ll_14, lp_14⟩
set_option maxRecDepth 100000 in
theorem lay_0 : ∀ k, k < 6 → u_lay (mCn 0) (mTt 0) k ∈ mGt := lt_s (lt_s (lt_s (lt_s (lt_s (lt_s (lt_0) w_531) w_533) w_535) w_537) w_539) w_541
set_option maxRecDepth 100000 in
theorem lay_1 : ∀ k, k < 10 → u_lay (mCn 1) (mTt 1) k ∈ mGt := lt_s (lt_s (lt_s (lt_s (lt_s (lt_s (lt_s (lt_s (lt_s (lt_s (lt_0) w_263) w_265) w_267) w_269) w_271) w_273) w_275) w_277) w_279) w_281
set_option maxRecDepth 100000 in
theorem lay_2 : ∀ k, k < 7 → u_lay (mCn 2) (mTt 2) k ∈ mGt := lt_s (lt_s (lt_s (lt_s (lt_s (lt_s (lt_s (lt_0) w_208) w_210) w_212) w_214) w_216) w_218) w_220
set_option maxRecDepth 100000 in
theorem lay_3 : ∀ k, k < 4 → u_lay (mCn 3) (mTt 3) k ∈ mGt := lt_s (lt_s (lt_s (lt_s (lt_0) w_477) w_479) w_481) w_483
set_option maxRecDepth 100000 in
theorem lay_4 : ∀ k, k < 12 → u_lay (mCn 4) (mTt 4) k ∈ mGt := lt_s (lt_s (lt_s (lt_s (lt_s (lt_s (lt_s (lt_s (lt_s (lt_s (lt_s (lt_s (lt_0) w_381) w_383) w_385) w_387) w_389) w_391) w_393) w_395) w_397) w_399) w_401) w_403
set_option maxRecDepth 100000 in
theorem lay_5 : ∀ k, k < 7 → u_lay (mCn 5) (mTt 5) k ∈ mGt := lt_s (lt_s (lt_s (lt_s (lt_s (lt_s (lt_s (lt_0) w_558) w_560) w_562) w_564) w_566) w_568) w_570
set_option maxRecDepth 100000 in
theorem lay_6 : ∀ k, k < 2 → u_lay (mCn 6) (mTt 6) k ∈ mGt := lt_s (lt_s (lt_0) w_417) w_419
set_option maxRecDepth 100000 in
theorem lay_7 : ∀ k, k < 7 → u_lay (mCn 7) (mTt 7) k ∈ mGt := lt_s (lt_s (lt_s (lt_s (lt_s (lt_s (lt_s (lt_0) w_501) w_503) w_505) w_507) w_509) w_511) w_513
set_option maxRecDepth 100000 in
theorem lay_8 : ∀ k, k < 2 → u_lay (mCn 8) (mTt 8) k ∈ mGt := lt_s (lt_s (lt_0) w_166) w_168
set_option maxRecDepth 100000 in
theorem lay_9 : ∀ k, k < 5 → u_lay (mCn 9) (mTt 9) k ∈ mGt := lt_s (lt_s (lt_s (lt_s (lt_s (lt_0) w_356) w_358) w_360) w_362) w_364
set_option maxRecDepth 100000 in
theorem lay_10 : ∀ k, k < 8 → u_lay (mCn 10) (mTt 10) k ∈ mGt := lt_s (lt_s (lt_s (lt_s (lt_s (lt_s (lt_s (lt_s (lt_0) w_448) w_450) w_452) w_454) w_456) w_458) w_460) w_462
set_option maxRecDepth 100000 in
theorem lay_11 : ∀ k, k < 15 → u_lay (mCn 11) (mTt 11) k ∈ mGt := lt_s (lt_s (lt_s (lt_s (lt_s (lt_s (lt_s (lt_s (lt_s (lt_s (lt_s (lt_s (lt_s (lt_s (lt_s (lt_0) w_596) w_598) w_600) w_602) w_604) w_606) w_608) w_610) w_612) w_614) w_616) w_618) w_620) w_622) w_624
set_option maxRecDepth 100000 in
theorem lay_12 : ∀ k, k < 69 → u_lay (mCn 12) (mTt 12) k ∈ mGt := lt_s (lt_s (lt_s (lt_s (lt_s (lt_s (lt_s (lt_s (lt_s (lt_s (lt_s (lt_s (lt_s (lt_s (lt_s (lt_s (lt_s (lt_s (lt_s (lt_s (lt_s (lt_s (lt_s (lt_s (lt_s (lt_s (lt_s (lt_s (lt_s (lt_s (lt_s (lt_s (lt_s (lt_s (lt_s (lt_s (lt_s (lt_s (lt_s (lt_s (lt_s (lt_s (lt_s (lt_s (lt_s (lt_s (lt_s (lt_s (lt_s (lt_s (lt_s (lt_s (lt_s (lt_s (lt_s (lt_s (lt_s (lt_s (lt_s (lt_s (lt_s (lt_s (lt_s (lt_s (lt_s (lt_s (lt_s (lt_s (lt_s (lt_0) w_1439) w_1441) w_1443) w_1445) w_1447) w_1449) w_1451) w_1453) w_1455) w_1457) w_1459) w_1461) w_1463) w_1465) w_1467) w_1469) w_1471) w_1473) w_1475) w_1477) w_1479) w_1481) w_1483) w_1485) w_1487) w_1489) w_1491) w_1493) w_1495) w_1497) w_1499) w_1501) w_1503) w_1505) w_1507) w_1509) w_1511) w_1513) w_1515) w_1517) w_1519) w_1521) w_1523) w_1525) w_1527) w_1529) w_1531) w_1533) w_1535) w_1537) w_1539) w_1541) w_1543) w_1545) w_1547) w_1549) w_1551) w_1553) w_1555) w_1557) w_1559) w_1561) w_1563) w_1565) w_1567) w_1569) w_1571) w_1573) w_1575
set_option maxRecDepth 100000 in
theorem mBase_ok : mBase := by
  refine ⟨?_, ⟨w_223, w_171, w_573, w_367⟩, ⟨w_580, w_579, w_144⟩, ⟨w_413, w_699, w_138, w_414, w_700⟩, w_154, w_155⟩
  exact lt_s (lt_s (lt_s (lt_s (lt_s (lt_s (lt_s (lt_s (lt_s (lt_s (lt_s (lt_s (lt_s (lt_0) (⟨fun w h => by
    obtain ⟨k, hk, rfl⟩ := List.mem_map.mp h
    have hk := List.mem_range.mp hk
    exact lay_0 k hk, w_517, w_142⟩)) (⟨fun w h => by
    obtain ⟨k, hk, rfl⟩ := List.mem_map.mp h
    have hk := List.mem_range.mp hk
    exact lay_1 k hk, w_173, w_129⟩)) (⟨fun w h => by
    obtain ⟨k, hk, rfl⟩ := List.mem_map.mp h
    have hk := List.mem_range.mp hk
    exact lay_2 k hk, w_179, w_130⟩)) (⟨fun w h => by
    obtain ⟨k, hk, rfl⟩ := List.mem_map.mp h
    have hk := List.mem_range.mp hk
    exact lay_3 k hk, w_466, w_140⟩)) (⟨fun w h => by
    obtain ⟨k, hk, rfl⟩ := List.mem_map.mp h
    have hk := List.mem_range.mp hk
    exact lay_4 k hk, w_285, w_131⟩)) (⟨fun w h => by
    obtain ⟨k, hk, rfl⟩ := List.mem_map.mp h
    have hk := List.mem_range.mp hk
    exact lay_5 k hk, w_545, w_143⟩)) (⟨fun w h => by
    obtain ⟨k, hk, rfl⟩ := List.mem_map.mp h
    have hk := List.mem_range.mp hk
    exact lay_6 k hk, w_407, w_137⟩)) (⟨fun w h => by
    obtain ⟨k, hk, rfl⟩ := List.mem_map.mp h
    have hk := List.mem_range.mp hk
    exact lay_7 k hk, w_487, w_141⟩)) (⟨fun w h => by
    obtain ⟨k, hk, rfl⟩ := List.mem_map.mp h
    have hk := List.mem_range.mp hk
    exact lay_8 k hk, w_157, w_128⟩)) (⟨fun w h => by
    obtain ⟨k, hk, rfl⟩ := List.mem_map.mp h
    have hk := List.mem_range.mp hk
    exact lay_9 k hk, w_293, w_132⟩)) (⟨fun w h => by
    obtain ⟨k, hk, rfl⟩ := List.mem_map.mp h
    have hk := List.mem_range.mp hk
    exact lay_10 k hk, w_423, w_139⟩)) (⟨fun w h => by
    obtain ⟨k, hk, rfl⟩ := List.mem_map.mp h
    have hk := List.mem_range.mp hk
    exact lay_11 k hk, w_149, w_127⟩)) (⟨fun w h => by
    obtain ⟨k, hk, rfl⟩ := List.mem_map.mp h
    have hk := List.mem_range.mp hk
    exact lay_12 k hk, w_1343, w_145⟩)
