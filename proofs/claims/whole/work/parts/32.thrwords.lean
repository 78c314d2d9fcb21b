def thrN : List String := ["java/lang/Exception"]
abbrev xr_1 : ByteArray := prog_10_method_2_code
theorem xr_1_0 : decode xr_1 0 = .ok (.aload_n 0, 1) := by decide +kernel
theorem xr_1_1 : decode xr_1 1 = .ok (.aload_n 1, 1) := by decide +kernel
theorem xr_1_2 : decode xr_1 2 = .ok (.invokespecial 7, 3) := by decide +kernel
theorem xr_1_5 : decode xr_1 5 = .ok (.return_, 1) := by decide +kernel
abbrev xr_2 : ByteArray := prog_11_method_2_code
theorem xr_2_0 : decode xr_2 0 = .ok (.aload_n 0, 1) := by decide +kernel
theorem xr_2_1 : decode xr_2 1 = .ok (.aload_n 1, 1) := by decide +kernel
theorem xr_2_2 : decode xr_2 2 = .ok (.invokespecial 7, 3) := by decide +kernel
theorem xr_2_5 : decode xr_2 5 = .ok (.return_, 1) := by decide +kernel
abbrev xr_3 : ByteArray := prog_17_method_4_code
theorem xr_3_0 : decode xr_3 0 = .ok (.aload_n 0, 1) := by decide +kernel
theorem xr_3_1 : decode xr_3 1 = .ok (.aload_n 1, 1) := by decide +kernel
theorem xr_3_2 : decode xr_3 2 = .ok (.invokespecial 13, 3) := by decide +kernel
theorem xr_3_5 : decode xr_3 5 = .ok (.return_, 1) := by decide +kernel
theorem thrS_66 : (66, "no pattern, or no such queue") ∈ thrS := by decide +kernel
theorem thrS_76 : (76, "no binding is free") ∈ thrS := by decide +kernel
theorem thrS_90 : (90, "no topic") ∈ thrS := by decide +kernel
theorem thrS_114 : (114, "no more topics can be kept") ∈ thrS := by decide +kernel
theorem thrS_135 : (135, "no such kept topic, or no such binding") ∈ thrS := by decide +kernel
theorem at_137 : ∀ w ∈ xAtoms R_Desk 137 (xcls 3) 13 xr_3 "java/lang/RuntimeException" thrN, w ∈ BIG ∨ w ∈ thrB := by decide +kernel
theorem at_78 : ∀ w ∈ xAtoms R_Desk 78 (xcls 2) 7 xr_2 "java/lang/RuntimeException" thrN, w ∈ BIG ∨ w ∈ thrB := by decide +kernel
theorem at_68 : ∀ w ∈ xAtoms R_Desk 68 (xcls 1) 7 xr_1 "java/lang/RuntimeException" thrN, w ∈ BIG ∨ w ∈ thrB := by decide +kernel
