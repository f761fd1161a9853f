theorem aw1 {w : Cond} (h : w ∈ tables_1_1) (hg : goodWord w = true) : w ∈ lw_g := lw_in (List.mem_append_right _ (List.mem_append_left _ h)) hg
theorem aw2 {w : Cond} (h : w ∈ tables_1_2) (hg : goodWord w = true) : w ∈ lw_g := lw_in (List.mem_append_right _ (List.mem_append_right _ (List.mem_append_left _ h))) hg
theorem aw3 {w : Cond} (h : w ∈ tables_1_3) (hg : goodWord w = true) : w ∈ lw_g := lw_in (List.mem_append_right _ (List.mem_append_right _ (List.mem_append_right _ (List.mem_append_left _ h)))) hg
theorem aw4 {w : Cond} (h : w ∈ tables_1_4) (hg : goodWord w = true) : w ∈ lw_g := lw_in (List.mem_append_right _ (List.mem_append_right _ (List.mem_append_right _ (List.mem_append_right _ (List.mem_append_left _ h))))) hg
theorem aw5 {w : Cond} (h : w ∈ tables_1_5) (hg : goodWord w = true) : w ∈ lw_g := lw_in (List.mem_append_right _ (List.mem_append_right _ (List.mem_append_right _ (List.mem_append_right _ (List.mem_append_right _ (List.mem_append_left _ h)))))) hg
theorem aw6 {w : Cond} (h : w ∈ tables_1_6) (hg : goodWord w = true) : w ∈ lw_g := lw_in (List.mem_append_right _ (List.mem_append_right _ (List.mem_append_right _ (List.mem_append_right _ (List.mem_append_right _ (List.mem_append_right _ (List.mem_append_left _ h))))))) hg
theorem aw7 {w : Cond} (h : w ∈ tables_1_7) (hg : goodWord w = true) : w ∈ lw_g := lw_in (List.mem_append_right _ (List.mem_append_right _ (List.mem_append_right _ (List.mem_append_right _ (List.mem_append_right _ (List.mem_append_right _ (List.mem_append_right _ (List.mem_append_left _ h)))))))) hg
theorem aw8 {w : Cond} (h : w ∈ tables_1_8) (hg : goodWord w = true) : w ∈ lw_g := lw_in (List.mem_append_right _ (List.mem_append_right _ (List.mem_append_right _ (List.mem_append_right _ (List.mem_append_right _ (List.mem_append_right _ (List.mem_append_right _ (List.mem_append_right _ (h))))))))) hg
theorem aw0 {w : Cond} (h : w ∈ k2_sels lw_privs) (hg : goodWord w = true) : w ∈ lw_g := lw_in (List.mem_append_left _ h) hg
theorem lwp (i : Nat) {w : Cond} (h : lw_tbl[i]? = some w) (hg : goodWord w = true) : w ∈ lw_g := lw_in (List.mem_of_getElem? h) hg
theorem lwl (ws : List Cond) (ps : List Nat) (h : ws = ps.filterMap (fun i => lw_tbl[i]?)) (hg : ws.all goodWord = true) : ∀ w ∈ ws, w ∈ lw_g := by
  intro w hw
  have h1 := List.all_eq_true.mp hg w hw
  rw [h] at hw
  obtain ⟨i, -, hi⟩ := List.mem_filterMap.mp hw
  exact lwp i hi h1
theorem cl_0 : ∀ w ∈ u_ws RX0 TX0 3, w ∈ lw_g := lwl _ [258, 260, 262] (by decide +kernel) (by decide +kernel)
theorem dv_0 : ∀ (G : GG) (j : Nat), j < kN 0 → fV G (fT 0 j) (dV (fT 0 j)) = defaultValue (fT 0 j) := by
  intro G j hj
  have hj : j < 3 := hj
  have h : j = 0 ∨ j = 1 ∨ j = 2 := by omega
  rcases h with rfl | rfl | rfl <;> rfl
theorem in_RX0 : Cond.initialized RX0 ∈ lw_g := aw1 (List.mem_of_getElem? (i := 4) rfl) rfl
theorem ins_0 : Cond.instantiable RX0 3 ∈ lw_g := aw1 (List.mem_of_getElem? (i := 165) rfl) rfl
theorem cl_1 : ∀ w ∈ u_ws RX1 TX1 9, w ∈ lw_g := lwl _ [440, 442, 444, 446, 448, 450, 452, 454, 456] (by decide +kernel) (by decide +kernel)
theorem dv_1 : ∀ (G : GG) (j : Nat), j < kN 1 → fV G (fT 1 j) (dV (fT 1 j)) = defaultValue (fT 1 j) := by
  intro G j hj
  have hj : j < 9 := hj
  have h : j = 0 ∨ j = 1 ∨ j = 2 ∨ j = 3 ∨ j = 4 ∨ j = 5 ∨ j = 6 ∨ j = 7 ∨ j = 8 := by omega
  rcases h with rfl | rfl | rfl | rfl | rfl | rfl | rfl | rfl | rfl <;> rfl
theorem in_RX1 : Cond.initialized RX1 ∈ lw_g := aw1 (List.mem_of_getElem? (i := 10) rfl) rfl
theorem ins_1 : Cond.instantiable RX1 9 ∈ lw_g := aw2 (List.mem_of_getElem? (i := 101) rfl) rfl
theorem cl_2 : ∀ w ∈ u_ws RX3 TX3 5, w ∈ lw_g := lwl _ [369, 371, 373, 375, 377] (by decide +kernel) (by decide +kernel)
theorem dv_2 : ∀ (G : GG) (j : Nat), j < kN 2 → fV G (fT 2 j) (dV (fT 2 j)) = defaultValue (fT 2 j) := by
  intro G j hj
  have hj : j < 5 := hj
  have h : j = 0 ∨ j = 1 ∨ j = 2 ∨ j = 3 ∨ j = 4 := by omega
  rcases h with rfl | rfl | rfl | rfl | rfl <;> rfl
theorem in_RX3 : Cond.initialized RX3 ∈ lw_g := aw1 (List.mem_of_getElem? (i := 7) rfl) rfl
theorem ins_2 : Cond.instantiable RX3 5 ∈ lw_g := aw1 (List.mem_of_getElem? (i := 224) rfl) rfl
theorem cl_3 : ∀ w ∈ u_ws RX4 TX4 17, w ∈ lw_g := lwl _ [173, 175, 177, 179, 181, 183, 185, 187, 189, 191, 193, 195, 197, 199, 201, 203, 205] (by decide +kernel) (by decide +kernel)
theorem dv_3 : ∀ (G : GG) (j : Nat), j < kN 3 → fV G (fT 3 j) (dV (fT 3 j)) = defaultValue (fT 3 j) := by
  intro G j hj
  have hj : j < 17 := hj
  have h : j = 0 ∨ j = 1 ∨ j = 2 ∨ j = 3 ∨ j = 4 ∨ j = 5 ∨ j = 6 ∨ j = 7 ∨ j = 8 ∨ j = 9 ∨ j = 10 ∨ j = 11 ∨ j = 12 ∨ j = 13 ∨ j = 14 ∨ j = 15 ∨ j = 16 := by omega
  rcases h with rfl | rfl | rfl | rfl | rfl | rfl | rfl | rfl | rfl | rfl | rfl | rfl | rfl | rfl | rfl | rfl | rfl <;> rfl
theorem in_RX4 : Cond.initialized RX4 ∈ lw_g := aw1 (List.mem_of_getElem? (i := 2) rfl) rfl
theorem ins_3 : Cond.instantiable RX4 17 ∈ lw_g := aw1 (List.mem_of_getElem? (i := 31) rfl) rfl
theorem cl_4 : ∀ w ∈ u_ws RX5 TX5 4, w ∈ lw_g := lwl _ [767, 769, 771, 773] (by decide +kernel) (by decide +kernel)
theorem dv_4 : ∀ (G : GG) (j : Nat), j < kN 4 → fV G (fT 4 j) (dV (fT 4 j)) = defaultValue (fT 4 j) := by
  intro G j hj
  have hj : j < 4 := hj
  have h : j = 0 ∨ j = 1 ∨ j = 2 ∨ j = 3 := by omega
  rcases h with rfl | rfl | rfl | rfl <;> rfl
theorem in_RX5 : Cond.initialized RX5 ∈ lw_g := aw1 (List.mem_of_getElem? (i := 18) rfl) rfl
theorem ins_4 : Cond.instantiable RX5 4 ∈ lw_g := aw3 (List.mem_of_getElem? (i := 175) rfl) rfl
theorem cl_5 : ∀ w ∈ u_ws RX6 TX6 12, w ∈ lw_g := lwl _ [400, 402, 404, 406, 408, 410, 412, 414, 416, 418, 420, 422] (by decide +kernel) (by decide +kernel)
theorem dv_5 : ∀ (G : GG) (j : Nat), j < kN 5 → fV G (fT 5 j) (dV (fT 5 j)) = defaultValue (fT 5 j) := by
  intro G j hj
  have hj : j < 12 := hj
  have h : j = 0 ∨ j = 1 ∨ j = 2 ∨ j = 3 ∨ j = 4 ∨ j = 5 ∨ j = 6 ∨ j = 7 ∨ j = 8 ∨ j = 9 ∨ j = 10 ∨ j = 11 := by omega
  rcases h with rfl | rfl | rfl | rfl | rfl | rfl | rfl | rfl | rfl | rfl | rfl | rfl <;> rfl
theorem in_RX6 : Cond.initialized RX6 ∈ lw_g := aw1 (List.mem_of_getElem? (i := 9) rfl) rfl
theorem ins_5 : Cond.instantiable RX6 12 ∈ lw_g := aw2 (List.mem_of_getElem? (i := 56) rfl) rfl
theorem cl_6 : ∀ w ∈ u_ws RX7 TX7 9, w ∈ lw_g := lwl _ [230, 232, 234, 236, 238, 240, 242, 244, 246] (by decide +kernel) (by decide +kernel)
theorem dv_6 : ∀ (G : GG) (j : Nat), j < kN 6 → fV G (fT 6 j) (dV (fT 6 j)) = defaultValue (fT 6 j) := by
  intro G j hj
  have hj : j < 9 := hj
  have h : j = 0 ∨ j = 1 ∨ j = 2 ∨ j = 3 ∨ j = 4 ∨ j = 5 ∨ j = 6 ∨ j = 7 ∨ j = 8 := by omega
  rcases h with rfl | rfl | rfl | rfl | rfl | rfl | rfl | rfl | rfl <;> rfl
theorem in_RX7 : Cond.initialized RX7 ∈ lw_g := aw1 (List.mem_of_getElem? (i := 3) rfl) rfl
theorem ins_6 : Cond.instantiable RX7 9 ∈ lw_g := aw1 (List.mem_of_getElem? (i := 126) rfl) rfl
theorem cl_7 : ∀ w ∈ u_ws RX8 TX8 7, w ∈ lw_g := lwl _ [293, 295, 297, 299, 301, 303, 305] (by decide +kernel) (by decide +kernel)
theorem dv_7 : ∀ (G : GG) (j : Nat), j < kN 7 → fV G (fT 7 j) (dV (fT 7 j)) = defaultValue (fT 7 j) := by
  intro G j hj
  have hj : j < 7 := hj
  have h : j = 0 ∨ j = 1 ∨ j = 2 ∨ j = 3 ∨ j = 4 ∨ j = 5 ∨ j = 6 := by omega
  rcases h with rfl | rfl | rfl | rfl | rfl | rfl | rfl <;> rfl
theorem in_RX8 : Cond.initialized RX8 ∈ lw_g := aw1 (List.mem_of_getElem? (i := 5) rfl) rfl
theorem ins_7 : Cond.instantiable RX8 7 ∈ lw_g := aw1 (List.mem_of_getElem? (i := 182) rfl) rfl
theorem cl_8 : ∀ w ∈ u_ws RX9 TX9 12, w ∈ lw_g := lwl _ [334, 336, 338, 340, 342, 344, 346, 348, 350, 352, 354, 356] (by decide +kernel) (by decide +kernel)
theorem dv_8 : ∀ (G : GG) (j : Nat), j < kN 8 → fV G (fT 8 j) (dV (fT 8 j)) = defaultValue (fT 8 j) := by
  intro G j hj
  have hj : j < 12 := hj
  have h : j = 0 ∨ j = 1 ∨ j = 2 ∨ j = 3 ∨ j = 4 ∨ j = 5 ∨ j = 6 ∨ j = 7 ∨ j = 8 ∨ j = 9 ∨ j = 10 ∨ j = 11 := by omega
  rcases h with rfl | rfl | rfl | rfl | rfl | rfl | rfl | rfl | rfl | rfl | rfl | rfl <;> rfl
theorem in_RX9 : Cond.initialized RX9 ∈ lw_g := aw1 (List.mem_of_getElem? (i := 8) rfl) rfl
theorem ins_8 : Cond.instantiable RX9 12 ∈ lw_g := aw1 (List.mem_of_getElem? (i := 230) rfl) rfl
theorem cl_9 : ∀ w ∈ u_ws RX10 TX10 13, w ∈ lw_g := lwl _ [486, 488, 490, 492, 494, 496, 498, 500, 502, 504, 506, 508, 510] (by decide +kernel) (by decide +kernel)
theorem dv_9 : ∀ (G : GG) (j : Nat), j < kN 9 → fV G (fT 9 j) (dV (fT 9 j)) = defaultValue (fT 9 j) := by
  intro G j hj
  have hj : j < 13 := hj
  have h : j = 0 ∨ j = 1 ∨ j = 2 ∨ j = 3 ∨ j = 4 ∨ j = 5 ∨ j = 6 ∨ j = 7 ∨ j = 8 ∨ j = 9 ∨ j = 10 ∨ j = 11 ∨ j = 12 := by omega
  rcases h with rfl | rfl | rfl | rfl | rfl | rfl | rfl | rfl | rfl | rfl | rfl | rfl | rfl <;> rfl
theorem in_RX10 : Cond.initialized RX10 ∈ lw_g := aw1 (List.mem_of_getElem? (i := 11) rfl) rfl
theorem ins_9 : Cond.instantiable RX10 13 ∈ lw_g := aw2 (List.mem_of_getElem? (i := 135) rfl) rfl
theorem cl_10 : ∀ w ∈ u_ws RX11 TX11 16, w ∈ lw_g := lwl _ [529, 531, 533, 535, 537, 539, 541, 543, 545, 547, 549, 551, 553, 555, 557, 559] (by decide +kernel) (by decide +kernel)
theorem dv_10 : ∀ (G : GG) (j : Nat), j < kN 10 → fV G (fT 10 j) (dV (fT 10 j)) = defaultValue (fT 10 j) := by
  intro G j hj
  have hj : j < 16 := hj
  have h : j = 0 ∨ j = 1 ∨ j = 2 ∨ j = 3 ∨ j = 4 ∨ j = 5 ∨ j = 6 ∨ j = 7 ∨ j = 8 ∨ j = 9 ∨ j = 10 ∨ j = 11 ∨ j = 12 ∨ j = 13 ∨ j = 14 ∨ j = 15 := by omega
  rcases h with rfl | rfl | rfl | rfl | rfl | rfl | rfl | rfl | rfl | rfl | rfl | rfl | rfl | rfl | rfl | rfl <;> rfl
theorem in_RX11 : Cond.initialized RX11 ∈ lw_g := aw1 (List.mem_of_getElem? (i := 1) rfl) rfl
theorem ins_10 : Cond.instantiable RX11 16 ∈ lw_g := aw1 (List.mem_of_getElem? (i := 23) rfl) rfl
theorem cl_11 : ∀ w ∈ u_ws RX12 TX12 54, w ∈ lw_g := lwl _ [1237, 1239, 1241, 1243, 1245, 1247, 1249, 1251, 1253, 1255, 1257, 1259, 1261, 1263, 1265, 1267, 1269, 1271, 1273, 1275, 1277, 1279, 1281, 1283, 1285, 1287, 1289, 1291, 1293, 1295, 1297, 1299, 1301, 1303, 1305, 1307, 1309, 1311, 1313, 1315, 1317, 1319, 1321, 1323, 1325, 1327, 1329, 1331, 1333, 1335, 1337, 1339, 1341, 1343] (by decide +kernel) (by decide +kernel)
theorem dv_11 : ∀ (G : GG) (j : Nat), j < kN 11 → fV G (fT 11 j) (dV (fT 11 j)) = defaultValue (fT 11 j) := by
  intro G j hj
  have hj : j < 54 := hj
  have h : j = 0 ∨ j = 1 ∨ j = 2 ∨ j = 3 ∨ j = 4 ∨ j = 5 ∨ j = 6 ∨ j = 7 ∨ j = 8 ∨ j = 9 ∨ j = 10 ∨ j = 11 ∨ j = 12 ∨ j = 13 ∨ j = 14 ∨ j = 15 ∨ j = 16 ∨ j = 17 ∨ j = 18 ∨ j = 19 ∨ j = 20 ∨ j = 21 ∨ j = 22 ∨ j = 23 ∨ j = 24 ∨ j = 25 ∨ j = 26 ∨ j = 27 ∨ j = 28 ∨ j = 29 ∨ j = 30 ∨ j = 31 ∨ j = 32 ∨ j = 33 ∨ j = 34 ∨ j = 35 ∨ j = 36 ∨ j = 37 ∨ j = 38 ∨ j = 39 ∨ j = 40 ∨ j = 41 ∨ j = 42 ∨ j = 43 ∨ j = 44 ∨ j = 45 ∨ j = 46 ∨ j = 47 ∨ j = 48 ∨ j = 49 ∨ j = 50 ∨ j = 51 ∨ j = 52 ∨ j = 53 := by omega
  rcases h with rfl | rfl | rfl | rfl | rfl | rfl | rfl | rfl | rfl | rfl | rfl | rfl | rfl | rfl | rfl | rfl | rfl | rfl | rfl | rfl | rfl | rfl | rfl | rfl | rfl | rfl | rfl | rfl | rfl | rfl | rfl | rfl | rfl | rfl | rfl | rfl | rfl | rfl | rfl | rfl | rfl | rfl | rfl | rfl | rfl | rfl | rfl | rfl | rfl | rfl | rfl | rfl | rfl | rfl <;> rfl
theorem in_RX12 : Cond.initialized RX12 ∈ lw_g := aw1 (List.mem_of_getElem? (i := 12) rfl) rfl
theorem ins_11 : Cond.instantiable RX12 54 ∈ lw_g := aw5 (List.mem_of_getElem? (i := 125) rfl) rfl
theorem ac_int : Cond.arrayClass .int ∈ lw_g := aw1 (List.mem_of_getElem? (i := 123) rfl) rfl
theorem ac_long : Cond.arrayClass .long ∈ lw_g := aw1 (List.mem_of_getElem? (i := 180) rfl) rfl
theorem ac_boolean : Cond.arrayClass .boolean ∈ lw_g := aw6 (List.mem_of_getElem? (i := 61) rfl) rfl
theorem w_oi : Cond.instanceMethod Lib.objectInit ∈ lw_g := aw1 (List.mem_of_getElem? (i := 28) rfl) rfl
theorem w_oc : Cond.code Lib.objectInit ⟨#[0xb1]⟩ 1 none ∈ lw_g := aw1 (List.mem_of_getElem? (i := 29) rfl) rfl
theorem w_an : Cond.native arraycopyName ∈ lw_g := aw3 (List.mem_of_getElem? (i := 193) rfl) rfl
theorem w_as : Cond.static arraycopyName ∈ lw_g := aw3 (List.mem_of_getElem? (i := 192) rfl) rfl
theorem w_ai : Cond.initialized "java/lang/System" ∈ lw_g := aw1 (List.mem_of_getElem? (i := 20) rfl) rfl
theorem kw_RL_7 : Cond.classLink RL 7 "StayPlay" ∈ lw_g := aw1 (List.mem_of_getElem? (i := 22) rfl) rfl
theorem nw_RL_7 : nW RL 10 7 := ⟨RX11, TX11, rfl, by decide, cl_10, kw_RL_7, ins_10, in_RX11, tyX11_ok, dv_10⟩
theorem kw_RX11_9 : Cond.classLink RX11 9 "StayPlay$House" ∈ lw_g := aw1 (List.mem_of_getElem? (i := 30) rfl) rfl
theorem nw_RX11_9 : nW RX11 3 9 := ⟨RX4, TX4, rfl, by decide, cl_3, kw_RX11_9, ins_3, in_RX4, tyX4_ok, dv_3⟩
theorem kw_RX4_37 : Cond.classLink RX4 37 "StayPlay$Law" ∈ lw_g := aw1 (List.mem_of_getElem? (i := 36) rfl) rfl
theorem nw_RX4_37 : nW RX4 4 37 := ⟨RX5, TX5, rfl, by decide, cl_4, kw_RX4_37, ins_4, in_RX5, tyX5_ok, dv_4⟩
theorem fw_RX4_9 : fW RX4 3 0 9 := ⟨RX4, TX4, rfl, by decide, by decide, cl_3, aw1 (List.mem_of_getElem? (i := 38) rfl) rfl, tyX4_ok, nmX4⟩
theorem fw_RX11_108 : fW RX11 3 0 108 := ⟨RX4, TX4, rfl, by decide, by decide, cl_3, aw1 (List.mem_of_getElem? (i := 39) rfl) rfl, tyX4_ok, nmX4⟩
theorem fw_RX3_56 : fW RX3 3 0 56 := ⟨RX4, TX4, rfl, by decide, by decide, cl_3, aw1 (List.mem_of_getElem? (i := 40) rfl) rfl, tyX4_ok, nmX4⟩
theorem fw_RX9_110 : fW RX9 3 0 110 := ⟨RX4, TX4, rfl, by decide, by decide, cl_3, aw1 (List.mem_of_getElem? (i := 41) rfl) rfl, tyX4_ok, nmX4⟩
theorem fw_RX6_124 : fW RX6 3 0 124 := ⟨RX4, TX4, rfl, by decide, by decide, cl_3, aw1 (List.mem_of_getElem? (i := 42) rfl) rfl, tyX4_ok, nmX4⟩
theorem fw_RX4_15 : fW RX4 3 1 15 := ⟨RX4, TX4, rfl, by decide, by decide, cl_3, aw1 (List.mem_of_getElem? (i := 43) rfl) rfl, tyX4_ok, nmX4⟩
theorem fw_RX11_132 : fW RX11 3 1 132 := ⟨RX4, TX4, rfl, by decide, by decide, cl_3, aw1 (List.mem_of_getElem? (i := 44) rfl) rfl, tyX4_ok, nmX4⟩
theorem fw_RX10_108 : fW RX10 3 1 108 := ⟨RX4, TX4, rfl, by decide, by decide, cl_3, aw1 (List.mem_of_getElem? (i := 45) rfl) rfl, tyX4_ok, nmX4⟩
theorem fw_RX1_95 : fW RX1 3 1 95 := ⟨RX4, TX4, rfl, by decide, by decide, cl_3, aw1 (List.mem_of_getElem? (i := 46) rfl) rfl, tyX4_ok, nmX4⟩
theorem fw_RX9_173 : fW RX9 3 1 173 := ⟨RX4, TX4, rfl, by decide, by decide, cl_3, aw1 (List.mem_of_getElem? (i := 47) rfl) rfl, tyX4_ok, nmX4⟩
theorem fw_RX4_19 : fW RX4 3 2 19 := ⟨RX4, TX4, rfl, by decide, by decide, cl_3, aw1 (List.mem_of_getElem? (i := 48) rfl) rfl, tyX4_ok, nmX4⟩
theorem fw_RX11_135 : fW RX11 3 2 135 := ⟨RX4, TX4, rfl, by decide, by decide, cl_3, aw1 (List.mem_of_getElem? (i := 49) rfl) rfl, tyX4_ok, nmX4⟩
theorem fw_RX4_22 : fW RX4 3 3 22 := ⟨RX4, TX4, rfl, by decide, by decide, cl_3, aw1 (List.mem_of_getElem? (i := 50) rfl) rfl, tyX4_ok, nmX4⟩
theorem fw_RX11_138 : fW RX11 3 3 138 := ⟨RX4, TX4, rfl, by decide, by decide, cl_3, aw1 (List.mem_of_getElem? (i := 51) rfl) rfl, tyX4_ok, nmX4⟩
theorem fw_RX4_25 : fW RX4 3 4 25 := ⟨RX4, TX4, rfl, by decide, by decide, cl_3, aw1 (List.mem_of_getElem? (i := 52) rfl) rfl, tyX4_ok, nmX4⟩
theorem fw_RX10_79 : fW RX10 3 4 79 := ⟨RX4, TX4, rfl, by decide, by decide, cl_3, aw1 (List.mem_of_getElem? (i := 53) rfl) rfl, tyX4_ok, nmX4⟩
theorem fw_RX11_144 : fW RX11 3 4 144 := ⟨RX4, TX4, rfl, by decide, by decide, cl_3, aw1 (List.mem_of_getElem? (i := 54) rfl) rfl, tyX4_ok, nmX4⟩
theorem fw_RX6_79 : fW RX6 3 4 79 := ⟨RX4, TX4, rfl, by decide, by decide, cl_3, aw1 (List.mem_of_getElem? (i := 55) rfl) rfl, tyX4_ok, nmX4⟩
theorem fw_RX4_28 : fW RX4 3 5 28 := ⟨RX4, TX4, rfl, by decide, by decide, cl_3, aw1 (List.mem_of_getElem? (i := 56) rfl) rfl, tyX4_ok, nmX4⟩
theorem fw_RX11_147 : fW RX11 3 5 147 := ⟨RX4, TX4, rfl, by decide, by decide, cl_3, aw1 (List.mem_of_getElem? (i := 57) rfl) rfl, tyX4_ok, nmX4⟩
theorem fw_RX9_167 : fW RX9 3 5 167 := ⟨RX4, TX4, rfl, by decide, by decide, cl_3, aw1 (List.mem_of_getElem? (i := 58) rfl) rfl, tyX4_ok, nmX4⟩
theorem fw_RX4_31 : fW RX4 3 6 31 := ⟨RX4, TX4, rfl, by decide, by decide, cl_3, aw1 (List.mem_of_getElem? (i := 59) rfl) rfl, tyX4_ok, nmX4⟩
theorem fw_RX10_82 : fW RX10 3 6 82 := ⟨RX4, TX4, rfl, by decide, by decide, cl_3, aw1 (List.mem_of_getElem? (i := 60) rfl) rfl, tyX4_ok, nmX4⟩
theorem fw_RX11_150 : fW RX11 3 6 150 := ⟨RX4, TX4, rfl, by decide, by decide, cl_3, aw1 (List.mem_of_getElem? (i := 61) rfl) rfl, tyX4_ok, nmX4⟩
theorem fw_RX4_34 : fW RX4 3 7 34 := ⟨RX4, TX4, rfl, by decide, by decide, cl_3, aw1 (List.mem_of_getElem? (i := 62) rfl) rfl, tyX4_ok, nmX4⟩
theorem fw_RX11_156 : fW RX11 3 7 156 := ⟨RX4, TX4, rfl, by decide, by decide, cl_3, aw1 (List.mem_of_getElem? (i := 63) rfl) rfl, tyX4_ok, nmX4⟩
theorem fw_RX9_170 : fW RX9 3 7 170 := ⟨RX4, TX4, rfl, by decide, by decide, cl_3, aw1 (List.mem_of_getElem? (i := 64) rfl) rfl, tyX4_ok, nmX4⟩
theorem fw_RX4_39 : fW RX4 3 8 39 := ⟨RX4, TX4, rfl, by decide, by decide, cl_3, aw1 (List.mem_of_getElem? (i := 65) rfl) rfl, tyX4_ok, nmX4⟩
theorem fw_RX11_170 : fW RX11 3 8 170 := ⟨RX4, TX4, rfl, by decide, by decide, cl_3, aw1 (List.mem_of_getElem? (i := 66) rfl) rfl, tyX4_ok, nmX4⟩
theorem fw_RX4_43 : fW RX4 3 9 43 := ⟨RX4, TX4, rfl, by decide, by decide, cl_3, aw1 (List.mem_of_getElem? (i := 67) rfl) rfl, tyX4_ok, nmX4⟩
theorem fw_RX11_163 : fW RX11 3 9 163 := ⟨RX4, TX4, rfl, by decide, by decide, cl_3, aw1 (List.mem_of_getElem? (i := 68) rfl) rfl, tyX4_ok, nmX4⟩
theorem fw_RX4_46 : fW RX4 3 10 46 := ⟨RX4, TX4, rfl, by decide, by decide, cl_3, aw1 (List.mem_of_getElem? (i := 69) rfl) rfl, tyX4_ok, nmX4⟩
theorem fw_RX11_179 : fW RX11 3 10 179 := ⟨RX4, TX4, rfl, by decide, by decide, cl_3, aw1 (List.mem_of_getElem? (i := 70) rfl) rfl, tyX4_ok, nmX4⟩
theorem fw_RX4_49 : fW RX4 3 11 49 := ⟨RX4, TX4, rfl, by decide, by decide, cl_3, aw1 (List.mem_of_getElem? (i := 71) rfl) rfl, tyX4_ok, nmX4⟩
theorem fw_RX3_36 : fW RX3 3 11 36 := ⟨RX4, TX4, rfl, by decide, by decide, cl_3, aw1 (List.mem_of_getElem? (i := 72) rfl) rfl, tyX4_ok, nmX4⟩
theorem fw_RX11_204 : fW RX11 3 11 204 := ⟨RX4, TX4, rfl, by decide, by decide, cl_3, aw1 (List.mem_of_getElem? (i := 73) rfl) rfl, tyX4_ok, nmX4⟩
theorem fw_RX4_52 : fW RX4 3 12 52 := ⟨RX4, TX4, rfl, by decide, by decide, cl_3, aw1 (List.mem_of_getElem? (i := 74) rfl) rfl, tyX4_ok, nmX4⟩
theorem fw_RX3_41 : fW RX3 3 12 41 := ⟨RX4, TX4, rfl, by decide, by decide, cl_3, aw1 (List.mem_of_getElem? (i := 75) rfl) rfl, tyX4_ok, nmX4⟩
theorem fw_RX11_201 : fW RX11 3 12 201 := ⟨RX4, TX4, rfl, by decide, by decide, cl_3, aw1 (List.mem_of_getElem? (i := 76) rfl) rfl, tyX4_ok, nmX4⟩
theorem fw_RX4_55 : fW RX4 3 13 55 := ⟨RX4, TX4, rfl, by decide, by decide, cl_3, aw1 (List.mem_of_getElem? (i := 77) rfl) rfl, tyX4_ok, nmX4⟩
theorem fw_RX11_266 : fW RX11 3 13 266 := ⟨RX4, TX4, rfl, by decide, by decide, cl_3, aw1 (List.mem_of_getElem? (i := 78) rfl) rfl, tyX4_ok, nmX4⟩
theorem fw_RX4_59 : fW RX4 3 14 59 := ⟨RX4, TX4, rfl, by decide, by decide, cl_3, aw1 (List.mem_of_getElem? (i := 79) rfl) rfl, tyX4_ok, nmX4⟩
theorem fw_RX1_43 : fW RX1 3 14 43 := ⟨RX4, TX4, rfl, by decide, by decide, cl_3, aw1 (List.mem_of_getElem? (i := 80) rfl) rfl, tyX4_ok, nmX4⟩
theorem fw_RX11_270 : fW RX11 3 14 270 := ⟨RX4, TX4, rfl, by decide, by decide, cl_3, aw1 (List.mem_of_getElem? (i := 81) rfl) rfl, tyX4_ok, nmX4⟩
theorem fw_RX4_62 : fW RX4 3 15 62 := ⟨RX4, TX4, rfl, by decide, by decide, cl_3, aw1 (List.mem_of_getElem? (i := 82) rfl) rfl, tyX4_ok, nmX4⟩
theorem fw_RX1_92 : fW RX1 3 15 92 := ⟨RX4, TX4, rfl, by decide, by decide, cl_3, aw1 (List.mem_of_getElem? (i := 83) rfl) rfl, tyX4_ok, nmX4⟩
theorem fw_RX11_279 : fW RX11 3 15 279 := ⟨RX4, TX4, rfl, by decide, by decide, cl_3, aw1 (List.mem_of_getElem? (i := 84) rfl) rfl, tyX4_ok, nmX4⟩
theorem fw_RX4_65 : fW RX4 3 16 65 := ⟨RX4, TX4, rfl, by decide, by decide, cl_3, aw1 (List.mem_of_getElem? (i := 85) rfl) rfl, tyX4_ok, nmX4⟩
theorem fw_RX1_49 : fW RX1 3 16 49 := ⟨RX4, TX4, rfl, by decide, by decide, cl_3, aw1 (List.mem_of_getElem? (i := 86) rfl) rfl, tyX4_ok, nmX4⟩
theorem fw_RX11_273 : fW RX11 3 16 273 := ⟨RX4, TX4, rfl, by decide, by decide, cl_3, aw1 (List.mem_of_getElem? (i := 87) rfl) rfl, tyX4_ok, nmX4⟩
theorem kw_RX11_40 : Cond.classLink RX11 40 "StayPlay$Reader" ∈ lw_g := aw1 (List.mem_of_getElem? (i := 125) rfl) rfl
theorem nw_RX11_40 : nW RX11 6 40 := ⟨RX7, TX7, rfl, by decide, cl_6, kw_RX11_40, ins_6, in_RX7, tyX7_ok, dv_6⟩
theorem fw_RX7_9 : fW RX7 6 0 9 := ⟨RX7, TX7, rfl, by decide, by decide, cl_6, aw1 (List.mem_of_getElem? (i := 131) rfl) rfl, tyX7_ok, nmX7⟩
theorem fw_RX7_15 : fW RX7 6 1 15 := ⟨RX7, TX7, rfl, by decide, by decide, cl_6, aw1 (List.mem_of_getElem? (i := 132) rfl) rfl, tyX7_ok, nmX7⟩
theorem fw_RX7_31 : fW RX7 6 2 31 := ⟨RX7, TX7, rfl, by decide, by decide, cl_6, aw1 (List.mem_of_getElem? (i := 133) rfl) rfl, tyX7_ok, nmX7⟩
theorem fw_RX7_35 : fW RX7 6 3 35 := ⟨RX7, TX7, rfl, by decide, by decide, cl_6, aw1 (List.mem_of_getElem? (i := 134) rfl) rfl, tyX7_ok, nmX7⟩
theorem fw_RX5_7 : fW RX5 6 4 7 := ⟨RX7, TX7, rfl, by decide, by decide, cl_6, aw1 (List.mem_of_getElem? (i := 135) rfl) rfl, tyX7_ok, nmX7⟩
theorem fw_RX7_38 : fW RX7 6 4 38 := ⟨RX7, TX7, rfl, by decide, by decide, cl_6, aw1 (List.mem_of_getElem? (i := 136) rfl) rfl, tyX7_ok, nmX7⟩
theorem fw_RX5_16 : fW RX5 6 5 16 := ⟨RX7, TX7, rfl, by decide, by decide, cl_6, aw1 (List.mem_of_getElem? (i := 137) rfl) rfl, tyX7_ok, nmX7⟩
theorem fw_RX7_18 : fW RX7 6 5 18 := ⟨RX7, TX7, rfl, by decide, by decide, cl_6, aw1 (List.mem_of_getElem? (i := 138) rfl) rfl, tyX7_ok, nmX7⟩
theorem fw_RX5_27 : fW RX5 6 6 27 := ⟨RX7, TX7, rfl, by decide, by decide, cl_6, aw1 (List.mem_of_getElem? (i := 139) rfl) rfl, tyX7_ok, nmX7⟩
theorem fw_RX7_21 : fW RX7 6 6 21 := ⟨RX7, TX7, rfl, by decide, by decide, cl_6, aw1 (List.mem_of_getElem? (i := 140) rfl) rfl, tyX7_ok, nmX7⟩
theorem fw_RX7_24 : fW RX7 6 7 24 := ⟨RX7, TX7, rfl, by decide, by decide, cl_6, aw1 (List.mem_of_getElem? (i := 141) rfl) rfl, tyX7_ok, nmX7⟩
theorem fw_RX5_31 : fW RX5 6 7 31 := ⟨RX7, TX7, rfl, by decide, by decide, cl_6, aw1 (List.mem_of_getElem? (i := 142) rfl) rfl, tyX7_ok, nmX7⟩
theorem fw_RX5_34 : fW RX5 6 8 34 := ⟨RX7, TX7, rfl, by decide, by decide, cl_6, aw1 (List.mem_of_getElem? (i := 143) rfl) rfl, tyX7_ok, nmX7⟩
theorem fw_RX7_41 : fW RX7 6 8 41 := ⟨RX7, TX7, rfl, by decide, by decide, cl_6, aw1 (List.mem_of_getElem? (i := 144) rfl) rfl, tyX7_ok, nmX7⟩
theorem kw_RX11_47 : Cond.classLink RX11 47 "StayPlay$Asker" ∈ lw_g := aw1 (List.mem_of_getElem? (i := 164) rfl) rfl
theorem nw_RX11_47 : nW RX11 0 47 := ⟨RX0, TX0, rfl, by decide, cl_0, kw_RX11_47, ins_0, in_RX0, tyX0_ok, dv_0⟩
theorem fw_RX0_19 : fW RX0 0 0 19 := ⟨RX0, TX0, rfl, by decide, by decide, cl_0, aw1 (List.mem_of_getElem? (i := 170) rfl) rfl, tyX0_ok, nmX0⟩
theorem fw_RX0_9 : fW RX0 0 1 9 := ⟨RX0, TX0, rfl, by decide, by decide, cl_0, aw1 (List.mem_of_getElem? (i := 171) rfl) rfl, tyX0_ok, nmX0⟩
theorem fw_RX0_15 : fW RX0 0 2 15 := ⟨RX0, TX0, rfl, by decide, by decide, cl_0, aw1 (List.mem_of_getElem? (i := 172) rfl) rfl, tyX0_ok, nmX0⟩
theorem kw_RX11_56 : Cond.classLink RX11 56 "StayPlay$Steps" ∈ lw_g := aw1 (List.mem_of_getElem? (i := 181) rfl) rfl
theorem nw_RX11_56 : nW RX11 7 56 := ⟨RX8, TX8, rfl, by decide, cl_7, kw_RX11_56, ins_7, in_RX8, tyX8_ok, dv_7⟩
theorem ki_RJ6_265 : Cond.constant RJ6 265 (1431655765) ∈ lw_g := aw1 (List.mem_of_getElem? (i := 190) rfl) rfl
theorem ki_RJ6_266 : Cond.constant RJ6 266 (858993459) ∈ lw_g := aw1 (List.mem_of_getElem? (i := 191) rfl) rfl
theorem ki_RJ6_267 : Cond.constant RJ6 267 (252645135) ∈ lw_g := aw1 (List.mem_of_getElem? (i := 192) rfl) rfl
theorem sf_RX8_46 : Cond.fieldLink RX8 46 "StayPlay$Steps" "LIMBS" "[I" ∈ lw_g := aw1 (List.mem_of_getElem? (i := 196) rfl) rfl
theorem fw_RX8_28 : fW RX8 7 0 28 := ⟨RX8, TX8, rfl, by decide, by decide, cl_7, aw1 (List.mem_of_getElem? (i := 198) rfl) rfl, tyX8_ok, nmX8⟩
theorem fw_RX8_32 : fW RX8 7 1 32 := ⟨RX8, TX8, rfl, by decide, by decide, cl_7, aw1 (List.mem_of_getElem? (i := 199) rfl) rfl, tyX8_ok, nmX8⟩
theorem fw_RX8_11 : fW RX8 7 2 11 := ⟨RX8, TX8, rfl, by decide, by decide, cl_7, aw1 (List.mem_of_getElem? (i := 200) rfl) rfl, tyX8_ok, nmX8⟩
theorem fw_RX8_15 : fW RX8 7 3 15 := ⟨RX8, TX8, rfl, by decide, by decide, cl_7, aw1 (List.mem_of_getElem? (i := 201) rfl) rfl, tyX8_ok, nmX8⟩
theorem fw_RX9_86 : fW RX9 7 3 86 := ⟨RX8, TX8, rfl, by decide, by decide, cl_7, aw1 (List.mem_of_getElem? (i := 202) rfl) rfl, tyX8_ok, nmX8⟩
theorem fw_RX8_18 : fW RX8 7 4 18 := ⟨RX8, TX8, rfl, by decide, by decide, cl_7, aw1 (List.mem_of_getElem? (i := 203) rfl) rfl, tyX8_ok, nmX8⟩
theorem fw_RX9_57 : fW RX9 7 4 57 := ⟨RX8, TX8, rfl, by decide, by decide, cl_7, aw1 (List.mem_of_getElem? (i := 204) rfl) rfl, tyX8_ok, nmX8⟩
theorem fw_RX8_21 : fW RX8 7 5 21 := ⟨RX8, TX8, rfl, by decide, by decide, cl_7, aw1 (List.mem_of_getElem? (i := 205) rfl) rfl, tyX8_ok, nmX8⟩
theorem fw_RX8_24 : fW RX8 7 6 24 := ⟨RX8, TX8, rfl, by decide, by decide, cl_7, aw1 (List.mem_of_getElem? (i := 206) rfl) rfl, tyX8_ok, nmX8⟩
theorem fw_RX6_62 : fW RX6 7 6 62 := ⟨RX8, TX8, rfl, by decide, by decide, cl_7, aw1 (List.mem_of_getElem? (i := 207) rfl) rfl, tyX8_ok, nmX8⟩
theorem kw_RX11_65 : Cond.classLink RX11 65 "StayPlay$Guide" ∈ lw_g := aw1 (List.mem_of_getElem? (i := 223) rfl) rfl
theorem nw_RX11_65 : nW RX11 2 65 := ⟨RX3, TX3, rfl, by decide, cl_2, kw_RX11_65, ins_2, in_RX3, tyX3_ok, dv_2⟩
theorem kw_RX3_27 : Cond.classLink RX3 27 "StayPlay$Table" ∈ lw_g := aw1 (List.mem_of_getElem? (i := 229) rfl) rfl
theorem nw_RX3_27 : nW RX3 8 27 := ⟨RX9, TX9, rfl, by decide, cl_8, kw_RX3_27, ins_8, in_RX9, tyX9_ok, dv_8⟩
theorem fw_RX9_45 : fW RX9 8 0 45 := ⟨RX9, TX9, rfl, by decide, by decide, cl_8, aw1 (List.mem_of_getElem? (i := 235) rfl) rfl, tyX9_ok, nmX9⟩
theorem fw_RX9_49 : fW RX9 8 1 49 := ⟨RX9, TX9, rfl, by decide, by decide, cl_8, aw1 (List.mem_of_getElem? (i := 236) rfl) rfl, tyX9_ok, nmX9⟩
theorem fw_RX9_53 : fW RX9 8 2 53 := ⟨RX9, TX9, rfl, by decide, by decide, cl_8, aw1 (List.mem_of_getElem? (i := 237) rfl) rfl, tyX9_ok, nmX9⟩
theorem fw_RX9_11 : fW RX9 8 3 11 := ⟨RX9, TX9, rfl, by decide, by decide, cl_8, aw1 (List.mem_of_getElem? (i := 238) rfl) rfl, tyX9_ok, nmX9⟩
theorem fw_RX9_17 : fW RX9 8 4 17 := ⟨RX9, TX9, rfl, by decide, by decide, cl_8, aw1 (List.mem_of_getElem? (i := 239) rfl) rfl, tyX9_ok, nmX9⟩
theorem fw_RX9_23 : fW RX9 8 5 23 := ⟨RX9, TX9, rfl, by decide, by decide, cl_8, aw2 (List.mem_of_getElem? (i := 0) rfl) rfl, tyX9_ok, nmX9⟩
theorem fw_RX9_26 : fW RX9 8 6 26 := ⟨RX9, TX9, rfl, by decide, by decide, cl_8, aw2 (List.mem_of_getElem? (i := 1) rfl) rfl, tyX9_ok, nmX9⟩
theorem fw_RX9_29 : fW RX9 8 7 29 := ⟨RX9, TX9, rfl, by decide, by decide, cl_8, aw2 (List.mem_of_getElem? (i := 2) rfl) rfl, tyX9_ok, nmX9⟩
theorem fw_RX9_32 : fW RX9 8 8 32 := ⟨RX9, TX9, rfl, by decide, by decide, cl_8, aw2 (List.mem_of_getElem? (i := 3) rfl) rfl, tyX9_ok, nmX9⟩
theorem fw_RX9_35 : fW RX9 8 9 35 := ⟨RX9, TX9, rfl, by decide, by decide, cl_8, aw2 (List.mem_of_getElem? (i := 4) rfl) rfl, tyX9_ok, nmX9⟩
theorem fw_RX9_39 : fW RX9 8 10 39 := ⟨RX9, TX9, rfl, by decide, by decide, cl_8, aw2 (List.mem_of_getElem? (i := 5) rfl) rfl, tyX9_ok, nmX9⟩
theorem fw_RX6_88 : fW RX6 8 10 88 := ⟨RX9, TX9, rfl, by decide, by decide, cl_8, aw2 (List.mem_of_getElem? (i := 6) rfl) rfl, tyX9_ok, nmX9⟩
theorem fw_RX9_42 : fW RX9 8 11 42 := ⟨RX9, TX9, rfl, by decide, by decide, cl_8, aw2 (List.mem_of_getElem? (i := 7) rfl) rfl, tyX9_ok, nmX9⟩
theorem fw_RX6_91 : fW RX6 8 11 91 := ⟨RX9, TX9, rfl, by decide, by decide, cl_8, aw2 (List.mem_of_getElem? (i := 8) rfl) rfl, tyX9_ok, nmX9⟩
theorem fw_RX3_19 : fW RX3 2 0 19 := ⟨RX3, TX3, rfl, by decide, by decide, cl_2, aw2 (List.mem_of_getElem? (i := 34) rfl) rfl, tyX3_ok, nmX3⟩
theorem fw_RX3_23 : fW RX3 2 1 23 := ⟨RX3, TX3, rfl, by decide, by decide, cl_2, aw2 (List.mem_of_getElem? (i := 35) rfl) rfl, tyX3_ok, nmX3⟩
theorem fw_RX3_32 : fW RX3 2 2 32 := ⟨RX3, TX3, rfl, by decide, by decide, cl_2, aw2 (List.mem_of_getElem? (i := 36) rfl) rfl, tyX3_ok, nmX3⟩
theorem fw_RX6_70 : fW RX6 2 2 70 := ⟨RX3, TX3, rfl, by decide, by decide, cl_2, aw2 (List.mem_of_getElem? (i := 37) rfl) rfl, tyX3_ok, nmX3⟩
theorem fw_RX10_94 : fW RX10 2 2 94 := ⟨RX3, TX3, rfl, by decide, by decide, cl_2, aw2 (List.mem_of_getElem? (i := 38) rfl) rfl, tyX3_ok, nmX3⟩
theorem fw_RX11_231 : fW RX11 2 2 231 := ⟨RX3, TX3, rfl, by decide, by decide, cl_2, aw2 (List.mem_of_getElem? (i := 39) rfl) rfl, tyX3_ok, nmX3⟩
theorem fw_RX3_9 : fW RX3 2 3 9 := ⟨RX3, TX3, rfl, by decide, by decide, cl_2, aw2 (List.mem_of_getElem? (i := 40) rfl) rfl, tyX3_ok, nmX3⟩
theorem fw_RX11_253 : fW RX11 2 3 253 := ⟨RX3, TX3, rfl, by decide, by decide, cl_2, aw2 (List.mem_of_getElem? (i := 41) rfl) rfl, tyX3_ok, nmX3⟩
theorem fw_RX3_15 : fW RX3 2 4 15 := ⟨RX3, TX3, rfl, by decide, by decide, cl_2, aw2 (List.mem_of_getElem? (i := 42) rfl) rfl, tyX3_ok, nmX3⟩
theorem fw_RX11_250 : fW RX11 2 4 250 := ⟨RX3, TX3, rfl, by decide, by decide, cl_2, aw2 (List.mem_of_getElem? (i := 43) rfl) rfl, tyX3_ok, nmX3⟩
theorem kw_RX11_74 : Cond.classLink RX11 74 "StayPlay$Plan" ∈ lw_g := aw2 (List.mem_of_getElem? (i := 55) rfl) rfl
theorem nw_RX11_74 : nW RX11 5 74 := ⟨RX6, TX6, rfl, by decide, cl_5, kw_RX11_74, ins_5, in_RX6, tyX6_ok, dv_5⟩
theorem kw_RX6_53 : Cond.classLink RX6 53 "StayPlay$Table" ∈ lw_g := aw2 (List.mem_of_getElem? (i := 61) rfl) rfl
theorem nw_RX6_53 : nW RX6 8 53 := ⟨RX9, TX9, rfl, by decide, cl_8, kw_RX6_53, ins_8, in_RX9, tyX9_ok, dv_8⟩
theorem fw_RX6_41 : fW RX6 5 0 41 := ⟨RX6, TX6, rfl, by decide, by decide, cl_5, aw2 (List.mem_of_getElem? (i := 63) rfl) rfl, tyX6_ok, nmX6⟩
theorem fw_RX6_45 : fW RX6 5 1 45 := ⟨RX6, TX6, rfl, by decide, by decide, cl_5, aw2 (List.mem_of_getElem? (i := 64) rfl) rfl, tyX6_ok, nmX6⟩
theorem fw_RX6_49 : fW RX6 5 2 49 := ⟨RX6, TX6, rfl, by decide, by decide, cl_5, aw2 (List.mem_of_getElem? (i := 65) rfl) rfl, tyX6_ok, nmX6⟩
theorem fw_RX6_58 : fW RX6 5 3 58 := ⟨RX6, TX6, rfl, by decide, by decide, cl_5, aw2 (List.mem_of_getElem? (i := 66) rfl) rfl, tyX6_ok, nmX6⟩
theorem fw_RX6_9 : fW RX6 5 4 9 := ⟨RX6, TX6, rfl, by decide, by decide, cl_5, aw2 (List.mem_of_getElem? (i := 67) rfl) rfl, tyX6_ok, nmX6⟩
theorem fw_RX6_15 : fW RX6 5 5 15 := ⟨RX6, TX6, rfl, by decide, by decide, cl_5, aw2 (List.mem_of_getElem? (i := 68) rfl) rfl, tyX6_ok, nmX6⟩
theorem fw_RX6_19 : fW RX6 5 6 19 := ⟨RX6, TX6, rfl, by decide, by decide, cl_5, aw2 (List.mem_of_getElem? (i := 69) rfl) rfl, tyX6_ok, nmX6⟩
theorem fw_RX6_23 : fW RX6 5 7 23 := ⟨RX6, TX6, rfl, by decide, by decide, cl_5, aw2 (List.mem_of_getElem? (i := 70) rfl) rfl, tyX6_ok, nmX6⟩
theorem fw_RX6_26 : fW RX6 5 8 26 := ⟨RX6, TX6, rfl, by decide, by decide, cl_5, aw2 (List.mem_of_getElem? (i := 71) rfl) rfl, tyX6_ok, nmX6⟩
theorem fw_RX6_31 : fW RX6 5 9 31 := ⟨RX6, TX6, rfl, by decide, by decide, cl_5, aw2 (List.mem_of_getElem? (i := 72) rfl) rfl, tyX6_ok, nmX6⟩
theorem fw_RX6_35 : fW RX6 5 10 35 := ⟨RX6, TX6, rfl, by decide, by decide, cl_5, aw2 (List.mem_of_getElem? (i := 73) rfl) rfl, tyX6_ok, nmX6⟩
theorem fw_RX6_38 : fW RX6 5 11 38 := ⟨RX6, TX6, rfl, by decide, by decide, cl_5, aw2 (List.mem_of_getElem? (i := 74) rfl) rfl, tyX6_ok, nmX6⟩
theorem kw_RX11_83 : Cond.classLink RX11 83 "StayPlay$Counted" ∈ lw_g := aw2 (List.mem_of_getElem? (i := 100) rfl) rfl
theorem nw_RX11_83 : nW RX11 1 83 := ⟨RX1, TX1, rfl, by decide, cl_1, kw_RX11_83, ins_1, in_RX1, tyX1_ok, dv_1⟩
theorem fw_RX1_35 : fW RX1 1 0 35 := ⟨RX1, TX1, rfl, by decide, by decide, cl_1, aw2 (List.mem_of_getElem? (i := 106) rfl) rfl, tyX1_ok, nmX1⟩
theorem fw_RX1_39 : fW RX1 1 1 39 := ⟨RX1, TX1, rfl, by decide, by decide, cl_1, aw2 (List.mem_of_getElem? (i := 107) rfl) rfl, tyX1_ok, nmX1⟩
theorem fw_RX1_13 : fW RX1 1 2 13 := ⟨RX1, TX1, rfl, by decide, by decide, cl_1, aw2 (List.mem_of_getElem? (i := 108) rfl) rfl, tyX1_ok, nmX1⟩
theorem fw_RX1_17 : fW RX1 1 3 17 := ⟨RX1, TX1, rfl, by decide, by decide, cl_1, aw2 (List.mem_of_getElem? (i := 109) rfl) rfl, tyX1_ok, nmX1⟩
theorem fw_RX1_20 : fW RX1 1 4 20 := ⟨RX1, TX1, rfl, by decide, by decide, cl_1, aw2 (List.mem_of_getElem? (i := 110) rfl) rfl, tyX1_ok, nmX1⟩
theorem fw_RX1_23 : fW RX1 1 5 23 := ⟨RX1, TX1, rfl, by decide, by decide, cl_1, aw2 (List.mem_of_getElem? (i := 111) rfl) rfl, tyX1_ok, nmX1⟩
theorem fw_RX1_26 : fW RX1 1 6 26 := ⟨RX1, TX1, rfl, by decide, by decide, cl_1, aw2 (List.mem_of_getElem? (i := 112) rfl) rfl, tyX1_ok, nmX1⟩
theorem fw_RX1_29 : fW RX1 1 7 29 := ⟨RX1, TX1, rfl, by decide, by decide, cl_1, aw2 (List.mem_of_getElem? (i := 113) rfl) rfl, tyX1_ok, nmX1⟩
theorem fw_RX1_32 : fW RX1 1 8 32 := ⟨RX1, TX1, rfl, by decide, by decide, cl_1, aw2 (List.mem_of_getElem? (i := 114) rfl) rfl, tyX1_ok, nmX1⟩
theorem kw_RX11_90 : Cond.classLink RX11 90 "StayPlay$World" ∈ lw_g := aw2 (List.mem_of_getElem? (i := 134) rfl) rfl
theorem nw_RX11_90 : nW RX11 9 90 := ⟨RX10, TX10, rfl, by decide, cl_9, kw_RX11_90, ins_9, in_RX10, tyX10_ok, dv_9⟩
theorem fw_RX10_43 : fW RX10 9 0 43 := ⟨RX10, TX10, rfl, by decide, by decide, cl_9, aw2 (List.mem_of_getElem? (i := 140) rfl) rfl, tyX10_ok, nmX10⟩
theorem fw_RX10_47 : fW RX10 9 1 47 := ⟨RX10, TX10, rfl, by decide, by decide, cl_9, aw2 (List.mem_of_getElem? (i := 141) rfl) rfl, tyX10_ok, nmX10⟩
theorem fw_RX10_51 : fW RX10 9 2 51 := ⟨RX10, TX10, rfl, by decide, by decide, cl_9, aw2 (List.mem_of_getElem? (i := 142) rfl) rfl, tyX10_ok, nmX10⟩
theorem fw_RX10_9 : fW RX10 9 3 9 := ⟨RX10, TX10, rfl, by decide, by decide, cl_9, aw2 (List.mem_of_getElem? (i := 143) rfl) rfl, tyX10_ok, nmX10⟩
theorem fw_RX11_286 : fW RX11 9 3 286 := ⟨RX10, TX10, rfl, by decide, by decide, cl_9, aw2 (List.mem_of_getElem? (i := 144) rfl) rfl, tyX10_ok, nmX10⟩
theorem fw_RX10_15 : fW RX10 9 4 15 := ⟨RX10, TX10, rfl, by decide, by decide, cl_9, aw2 (List.mem_of_getElem? (i := 145) rfl) rfl, tyX10_ok, nmX10⟩
theorem fw_RX11_295 : fW RX11 9 4 295 := ⟨RX10, TX10, rfl, by decide, by decide, cl_9, aw2 (List.mem_of_getElem? (i := 146) rfl) rfl, tyX10_ok, nmX10⟩
theorem fw_RX10_19 : fW RX10 9 5 19 := ⟨RX10, TX10, rfl, by decide, by decide, cl_9, aw2 (List.mem_of_getElem? (i := 147) rfl) rfl, tyX10_ok, nmX10⟩
theorem fw_RX11_297 : fW RX11 9 5 297 := ⟨RX10, TX10, rfl, by decide, by decide, cl_9, aw2 (List.mem_of_getElem? (i := 148) rfl) rfl, tyX10_ok, nmX10⟩
theorem fw_RX10_22 : fW RX10 9 6 22 := ⟨RX10, TX10, rfl, by decide, by decide, cl_9, aw2 (List.mem_of_getElem? (i := 149) rfl) rfl, tyX10_ok, nmX10⟩
theorem fw_RX11_300 : fW RX11 9 6 300 := ⟨RX10, TX10, rfl, by decide, by decide, cl_9, aw2 (List.mem_of_getElem? (i := 150) rfl) rfl, tyX10_ok, nmX10⟩
theorem fw_RX10_25 : fW RX10 9 7 25 := ⟨RX10, TX10, rfl, by decide, by decide, cl_9, aw2 (List.mem_of_getElem? (i := 151) rfl) rfl, tyX10_ok, nmX10⟩
theorem fw_RX11_292 : fW RX11 9 7 292 := ⟨RX10, TX10, rfl, by decide, by decide, cl_9, aw2 (List.mem_of_getElem? (i := 152) rfl) rfl, tyX10_ok, nmX10⟩
theorem fw_RX10_28 : fW RX10 9 8 28 := ⟨RX10, TX10, rfl, by decide, by decide, cl_9, aw2 (List.mem_of_getElem? (i := 153) rfl) rfl, tyX10_ok, nmX10⟩
theorem fw_RX10_31 : fW RX10 9 9 31 := ⟨RX10, TX10, rfl, by decide, by decide, cl_9, aw2 (List.mem_of_getElem? (i := 154) rfl) rfl, tyX10_ok, nmX10⟩
theorem fw_RX10_34 : fW RX10 9 10 34 := ⟨RX10, TX10, rfl, by decide, by decide, cl_9, aw2 (List.mem_of_getElem? (i := 155) rfl) rfl, tyX10_ok, nmX10⟩
theorem fw_RX11_307 : fW RX11 9 10 307 := ⟨RX10, TX10, rfl, by decide, by decide, cl_9, aw2 (List.mem_of_getElem? (i := 156) rfl) rfl, tyX10_ok, nmX10⟩
theorem fw_RX10_37 : fW RX10 9 11 37 := ⟨RX10, TX10, rfl, by decide, by decide, cl_9, aw2 (List.mem_of_getElem? (i := 157) rfl) rfl, tyX10_ok, nmX10⟩
theorem fw_RX11_310 : fW RX11 9 11 310 := ⟨RX10, TX10, rfl, by decide, by decide, cl_9, aw2 (List.mem_of_getElem? (i := 158) rfl) rfl, tyX10_ok, nmX10⟩
theorem fw_RX10_40 : fW RX10 9 12 40 := ⟨RX10, TX10, rfl, by decide, by decide, cl_9, aw2 (List.mem_of_getElem? (i := 159) rfl) rfl, tyX10_ok, nmX10⟩
theorem fw_RX11_313 : fW RX11 9 12 313 := ⟨RX10, TX10, rfl, by decide, by decide, cl_9, aw2 (List.mem_of_getElem? (i := 160) rfl) rfl, tyX10_ok, nmX10⟩
theorem fw_RX11_12 : fW RX11 10 0 12 := ⟨RX11, TX11, rfl, by decide, by decide, cl_10, aw2 (List.mem_of_getElem? (i := 188) rfl) rfl, tyX11_ok, nmX11⟩
theorem fw_RX11_16 : fW RX11 10 1 16 := ⟨RX11, TX11, rfl, by decide, by decide, cl_10, aw2 (List.mem_of_getElem? (i := 189) rfl) rfl, tyX11_ok, nmX11⟩
theorem fw_RX11_20 : fW RX11 10 2 20 := ⟨RX11, TX11, rfl, by decide, by decide, cl_10, aw2 (List.mem_of_getElem? (i := 190) rfl) rfl, tyX11_ok, nmX11⟩
theorem fw_RX11_24 : fW RX11 10 3 24 := ⟨RX11, TX11, rfl, by decide, by decide, cl_10, aw2 (List.mem_of_getElem? (i := 191) rfl) rfl, tyX11_ok, nmX11⟩
theorem fw_RX11_28 : fW RX11 10 4 28 := ⟨RX11, TX11, rfl, by decide, by decide, cl_10, aw2 (List.mem_of_getElem? (i := 192) rfl) rfl, tyX11_ok, nmX11⟩
theorem fw_RX11_31 : fW RX11 10 5 31 := ⟨RX11, TX11, rfl, by decide, by decide, cl_10, aw2 (List.mem_of_getElem? (i := 193) rfl) rfl, tyX11_ok, nmX11⟩
theorem fw_RX11_34 : fW RX11 10 6 34 := ⟨RX11, TX11, rfl, by decide, by decide, cl_10, aw2 (List.mem_of_getElem? (i := 194) rfl) rfl, tyX11_ok, nmX11⟩
theorem fw_RX11_37 : fW RX11 10 7 37 := ⟨RX11, TX11, rfl, by decide, by decide, cl_10, aw2 (List.mem_of_getElem? (i := 195) rfl) rfl, tyX11_ok, nmX11⟩
theorem fw_RX11_43 : fW RX11 10 8 43 := ⟨RX11, TX11, rfl, by decide, by decide, cl_10, aw2 (List.mem_of_getElem? (i := 196) rfl) rfl, tyX11_ok, nmX11⟩
theorem fw_RX11_52 : fW RX11 10 9 52 := ⟨RX11, TX11, rfl, by decide, by decide, cl_10, aw2 (List.mem_of_getElem? (i := 197) rfl) rfl, tyX11_ok, nmX11⟩
theorem fw_RX11_61 : fW RX11 10 10 61 := ⟨RX11, TX11, rfl, by decide, by decide, cl_10, aw2 (List.mem_of_getElem? (i := 198) rfl) rfl, tyX11_ok, nmX11⟩
theorem fw_RX11_70 : fW RX11 10 11 70 := ⟨RX11, TX11, rfl, by decide, by decide, cl_10, aw2 (List.mem_of_getElem? (i := 199) rfl) rfl, tyX11_ok, nmX11⟩
theorem fw_RX11_79 : fW RX11 10 12 79 := ⟨RX11, TX11, rfl, by decide, by decide, cl_10, aw2 (List.mem_of_getElem? (i := 200) rfl) rfl, tyX11_ok, nmX11⟩
theorem fw_RX11_86 : fW RX11 10 13 86 := ⟨RX11, TX11, rfl, by decide, by decide, cl_10, aw2 (List.mem_of_getElem? (i := 201) rfl) rfl, tyX11_ok, nmX11⟩
theorem fw_RX11_93 : fW RX11 10 14 93 := ⟨RX11, TX11, rfl, by decide, by decide, cl_10, aw2 (List.mem_of_getElem? (i := 202) rfl) rfl, tyX11_ok, nmX11⟩
theorem fw_RX11_97 : fW RX11 10 15 97 := ⟨RX11, TX11, rfl, by decide, by decide, cl_10, aw2 (List.mem_of_getElem? (i := 203) rfl) rfl, tyX11_ok, nmX11⟩
theorem sf_RJ0_38 : Cond.fieldLink RJ0 38 "java/lang/String" "COMPACT_STRINGS" "Z" ∈ lw_g := aw3 (List.mem_of_getElem? (i := 107) rfl) rfl
theorem sf_RJ0_1053 : Cond.fieldLink RJ0 1053 "jdk/internal/util/Preconditions" "SIOOBE_FORMATTER" "Ljava/util/function/BiFunction;" ∈ lw_g := aw3 (List.mem_of_getElem? (i := 123) rfl) rfl
theorem sf_RJ2_44 : Cond.fieldLink RJ2 44 "java/lang/StringUTF16" "$assertionsDisabled" "Z" ∈ lw_g := aw3 (List.mem_of_getElem? (i := 141) rfl) rfl
theorem sf_RJ2_59 : Cond.fieldLink RJ2 59 "java/lang/StringUTF16" "HI_BYTE_SHIFT" "I" ∈ lw_g := aw3 (List.mem_of_getElem? (i := 143) rfl) rfl
theorem sf_RJ2_63 : Cond.fieldLink RJ2 63 "java/lang/StringUTF16" "LO_BYTE_SHIFT" "I" ∈ lw_g := aw3 (List.mem_of_getElem? (i := 145) rfl) rfl
theorem kw_RX11_174 : Cond.classLink RX11 174 "StayPlay$Law" ∈ lw_g := aw3 (List.mem_of_getElem? (i := 174) rfl) rfl
theorem nw_RX11_174 : nW RX11 4 174 := ⟨RX5, TX5, rfl, by decide, cl_4, kw_RX11_174, ins_4, in_RX5, tyX5_ok, dv_4⟩
theorem kw_RJ7_317 : Cond.classLink RJ7 317 "[I" ∈ lw_g := aw3 (List.mem_of_getElem? (i := 189) rfl) rfl
theorem fw_RX5_13 : fW RX5 4 0 13 := ⟨RX5, TX5, rfl, by decide, by decide, cl_4, aw3 (List.mem_of_getElem? (i := 194) rfl) rfl, tyX5_ok, nmX5⟩
theorem fw_RX0_29 : fW RX0 4 0 29 := ⟨RX5, TX5, rfl, by decide, by decide, cl_4, aw3 (List.mem_of_getElem? (i := 195) rfl) rfl, tyX5_ok, nmX5⟩
theorem fw_RX5_26 : fW RX5 4 1 26 := ⟨RX5, TX5, rfl, by decide, by decide, cl_4, aw3 (List.mem_of_getElem? (i := 196) rfl) rfl, tyX5_ok, nmX5⟩
theorem fw_RX0_35 : fW RX0 4 1 35 := ⟨RX5, TX5, rfl, by decide, by decide, cl_4, aw3 (List.mem_of_getElem? (i := 197) rfl) rfl, tyX5_ok, nmX5⟩
theorem fw_RX5_30 : fW RX5 4 2 30 := ⟨RX5, TX5, rfl, by decide, by decide, cl_4, aw3 (List.mem_of_getElem? (i := 198) rfl) rfl, tyX5_ok, nmX5⟩
theorem fw_RX0_41 : fW RX0 4 2 41 := ⟨RX5, TX5, rfl, by decide, by decide, cl_4, aw3 (List.mem_of_getElem? (i := 199) rfl) rfl, tyX5_ok, nmX5⟩
theorem fw_RX5_37 : fW RX5 4 3 37 := ⟨RX5, TX5, rfl, by decide, by decide, cl_4, aw3 (List.mem_of_getElem? (i := 200) rfl) rfl, tyX5_ok, nmX5⟩
theorem fw_RX0_38 : fW RX0 4 3 38 := ⟨RX5, TX5, rfl, by decide, by decide, cl_4, aw3 (List.mem_of_getElem? (i := 201) rfl) rfl, tyX5_ok, nmX5⟩
theorem kl_RX0_61 : Cond.constantLong RX0 61 (1000000000) ∈ lw_g := aw4 (List.mem_of_getElem? (i := 6) rfl) rfl
theorem kl_RX0_63 : Cond.constantLong RX0 63 (-1000000000) ∈ lw_g := aw4 (List.mem_of_getElem? (i := 7) rfl) rfl
theorem sf_RX9_77 : Cond.fieldLink RX9 77 "StayPlay$Steps" "LIMBS" "[I" ∈ lw_g := aw4 (List.mem_of_getElem? (i := 91) rfl) rfl
theorem sf_RX2_9 : Cond.fieldLink RX2 9 "StayPlay$Digits" "TENS" "[J" ∈ lw_g := aw4 (List.mem_of_getElem? (i := 109) rfl) rfl
theorem kl_RX2_15 : Cond.constantLong RX2 15 (100000000) ∈ lw_g := aw4 (List.mem_of_getElem? (i := 114) rfl) rfl
theorem ki_RX8_72 : Cond.constant RX8 72 (1073741824) ∈ lw_g := aw4 (List.mem_of_getElem? (i := 143) rfl) rfl
theorem kl_RX2_23 : Cond.constantLong RX2 23 (100) ∈ lw_g := aw4 (List.mem_of_getElem? (i := 175) rfl) rfl
theorem kl_RX2_17 : Cond.constantLong RX2 17 (10) ∈ lw_g := aw4 (List.mem_of_getElem? (i := 198) rfl) rfl
theorem kl_RX1_120 : Cond.constantLong RX1 120 (10) ∈ lw_g := aw5 (List.mem_of_getElem? (i := 65) rfl) rfl
theorem ki_RX11_285 : Cond.constant RX11 285 (1000000) ∈ lw_g := aw5 (List.mem_of_getElem? (i := 70) rfl) rfl
theorem ki_RX10_111 : Cond.constant RX10 111 (1000003) ∈ lw_g := aw5 (List.mem_of_getElem? (i := 87) rfl) rfl
theorem kw_RL_10 : Cond.classLink RL 10 "StayPlayModel" ∈ lw_g := aw5 (List.mem_of_getElem? (i := 124) rfl) rfl
theorem nw_RL_10 : nW RL 11 10 := ⟨RX12, TX12, rfl, by decide, cl_11, kw_RL_10, ins_11, in_RX12, tyX12_ok, dv_11⟩
theorem kl_RX12_45 : Cond.constantLong RX12 45 (638548) ∈ lw_g := aw5 (List.mem_of_getElem? (i := 130) rfl) rfl
theorem kl_RX12_47 : Cond.constantLong RX12 47 (20026821) ∈ lw_g := aw5 (List.mem_of_getElem? (i := 131) rfl) rfl
theorem kl_RX12_49 : Cond.constantLong RX12 49 (72564293) ∈ lw_g := aw5 (List.mem_of_getElem? (i := 132) rfl) rfl
theorem kl_RX12_51 : Cond.constantLong RX12 51 (8553619) ∈ lw_g := aw5 (List.mem_of_getElem? (i := 133) rfl) rfl
theorem kl_RX12_53 : Cond.constantLong RX12 53 (16110) ∈ lw_g := aw5 (List.mem_of_getElem? (i := 134) rfl) rfl
theorem kl_RX12_55 : Cond.constantLong RX12 55 (446125701) ∈ lw_g := aw5 (List.mem_of_getElem? (i := 135) rfl) rfl
theorem kl_RX12_57 : Cond.constantLong RX12 57 (549512356) ∈ lw_g := aw5 (List.mem_of_getElem? (i := 136) rfl) rfl
theorem ki_RX12_69 : Cond.constant RX12 69 (96768) ∈ lw_g := aw5 (List.mem_of_getElem? (i := 137) rfl) rfl
theorem fw_RX12_115 : fW RX12 11 0 115 := ⟨RX12, TX12, rfl, by decide, by decide, cl_11, aw5 (List.mem_of_getElem? (i := 138) rfl) rfl, tyX12_ok, nmX12⟩
theorem fw_RX12_118 : fW RX12 11 1 118 := ⟨RX12, TX12, rfl, by decide, by decide, cl_11, aw5 (List.mem_of_getElem? (i := 139) rfl) rfl, tyX12_ok, nmX12⟩
theorem fw_RX12_7 : fW RX12 11 2 7 := ⟨RX12, TX12, rfl, by decide, by decide, cl_11, aw5 (List.mem_of_getElem? (i := 140) rfl) rfl, tyX12_ok, nmX12⟩
theorem fw_RX12_13 : fW RX12 11 3 13 := ⟨RX12, TX12, rfl, by decide, by decide, cl_11, aw5 (List.mem_of_getElem? (i := 141) rfl) rfl, tyX12_ok, nmX12⟩
theorem fw_RX12_16 : fW RX12 11 4 16 := ⟨RX12, TX12, rfl, by decide, by decide, cl_11, aw5 (List.mem_of_getElem? (i := 142) rfl) rfl, tyX12_ok, nmX12⟩
theorem fw_RX12_19 : fW RX12 11 5 19 := ⟨RX12, TX12, rfl, by decide, by decide, cl_11, aw5 (List.mem_of_getElem? (i := 143) rfl) rfl, tyX12_ok, nmX12⟩
theorem fw_RX12_171 : fW RX12 11 6 171 := ⟨RX12, TX12, rfl, by decide, by decide, cl_11, aw5 (List.mem_of_getElem? (i := 144) rfl) rfl, tyX12_ok, nmX12⟩
theorem fw_RX12_23 : fW RX12 11 7 23 := ⟨RX12, TX12, rfl, by decide, by decide, cl_11, aw5 (List.mem_of_getElem? (i := 145) rfl) rfl, tyX12_ok, nmX12⟩
theorem fw_RX12_168 : fW RX12 11 8 168 := ⟨RX12, TX12, rfl, by decide, by decide, cl_11, aw5 (List.mem_of_getElem? (i := 146) rfl) rfl, tyX12_ok, nmX12⟩
theorem fw_RX12_188 : fW RX12 11 9 188 := ⟨RX12, TX12, rfl, by decide, by decide, cl_11, aw5 (List.mem_of_getElem? (i := 147) rfl) rfl, tyX12_ok, nmX12⟩
theorem fw_RX12_178 : fW RX12 11 10 178 := ⟨RX12, TX12, rfl, by decide, by decide, cl_11, aw5 (List.mem_of_getElem? (i := 148) rfl) rfl, tyX12_ok, nmX12⟩
theorem fw_RX12_201 : fW RX12 11 11 201 := ⟨RX12, TX12, rfl, by decide, by decide, cl_11, aw5 (List.mem_of_getElem? (i := 149) rfl) rfl, tyX12_ok, nmX12⟩
theorem fw_RX12_191 : fW RX12 11 12 191 := ⟨RX12, TX12, rfl, by decide, by decide, cl_11, aw5 (List.mem_of_getElem? (i := 150) rfl) rfl, tyX12_ok, nmX12⟩
theorem fw_RX12_26 : fW RX12 11 13 26 := ⟨RX12, TX12, rfl, by decide, by decide, cl_11, aw5 (List.mem_of_getElem? (i := 151) rfl) rfl, tyX12_ok, nmX12⟩
theorem fw_RX12_181 : fW RX12 11 14 181 := ⟨RX12, TX12, rfl, by decide, by decide, cl_11, aw5 (List.mem_of_getElem? (i := 152) rfl) rfl, tyX12_ok, nmX12⟩
theorem fw_RX12_302 : fW RX12 11 15 302 := ⟨RX12, TX12, rfl, by decide, by decide, cl_11, aw5 (List.mem_of_getElem? (i := 153) rfl) rfl, tyX12_ok, nmX12⟩
theorem fw_RX12_30 : fW RX12 11 16 30 := ⟨RX12, TX12, rfl, by decide, by decide, cl_11, aw5 (List.mem_of_getElem? (i := 154) rfl) rfl, tyX12_ok, nmX12⟩
theorem fw_RX12_220 : fW RX12 11 17 220 := ⟨RX12, TX12, rfl, by decide, by decide, cl_11, aw5 (List.mem_of_getElem? (i := 155) rfl) rfl, tyX12_ok, nmX12⟩
theorem fw_RX12_33 : fW RX12 11 18 33 := ⟨RX12, TX12, rfl, by decide, by decide, cl_11, aw5 (List.mem_of_getElem? (i := 156) rfl) rfl, tyX12_ok, nmX12⟩
theorem fw_RX12_36 : fW RX12 11 19 36 := ⟨RX12, TX12, rfl, by decide, by decide, cl_11, aw5 (List.mem_of_getElem? (i := 157) rfl) rfl, tyX12_ok, nmX12⟩
theorem fw_RX12_251 : fW RX12 11 20 251 := ⟨RX12, TX12, rfl, by decide, by decide, cl_11, aw5 (List.mem_of_getElem? (i := 158) rfl) rfl, tyX12_ok, nmX12⟩
theorem fw_RX12_39 : fW RX12 11 21 39 := ⟨RX12, TX12, rfl, by decide, by decide, cl_11, aw5 (List.mem_of_getElem? (i := 159) rfl) rfl, tyX12_ok, nmX12⟩
theorem fw_RX12_42 : fW RX12 11 22 42 := ⟨RX12, TX12, rfl, by decide, by decide, cl_11, aw5 (List.mem_of_getElem? (i := 160) rfl) rfl, tyX12_ok, nmX12⟩
theorem fw_RX12_223 : fW RX12 11 23 223 := ⟨RX12, TX12, rfl, by decide, by decide, cl_11, aw5 (List.mem_of_getElem? (i := 161) rfl) rfl, tyX12_ok, nmX12⟩
theorem fw_RX12_245 : fW RX12 11 24 245 := ⟨RX12, TX12, rfl, by decide, by decide, cl_11, aw5 (List.mem_of_getElem? (i := 162) rfl) rfl, tyX12_ok, nmX12⟩
theorem fw_RX12_59 : fW RX12 11 25 59 := ⟨RX12, TX12, rfl, by decide, by decide, cl_11, aw5 (List.mem_of_getElem? (i := 163) rfl) rfl, tyX12_ok, nmX12⟩
theorem fw_RX12_319 : fW RX12 11 26 319 := ⟨RX12, TX12, rfl, by decide, by decide, cl_11, aw5 (List.mem_of_getElem? (i := 164) rfl) rfl, tyX12_ok, nmX12⟩
theorem fw_RX12_63 : fW RX12 11 27 63 := ⟨RX12, TX12, rfl, by decide, by decide, cl_11, aw5 (List.mem_of_getElem? (i := 165) rfl) rfl, tyX12_ok, nmX12⟩
theorem fw_RX12_66 : fW RX12 11 28 66 := ⟨RX12, TX12, rfl, by decide, by decide, cl_11, aw5 (List.mem_of_getElem? (i := 166) rfl) rfl, tyX12_ok, nmX12⟩
theorem fw_RX12_316 : fW RX12 11 29 316 := ⟨RX12, TX12, rfl, by decide, by decide, cl_11, aw5 (List.mem_of_getElem? (i := 167) rfl) rfl, tyX12_ok, nmX12⟩
theorem fw_RX12_330 : fW RX12 11 30 330 := ⟨RX12, TX12, rfl, by decide, by decide, cl_11, aw5 (List.mem_of_getElem? (i := 168) rfl) rfl, tyX12_ok, nmX12⟩
theorem fw_RX12_336 : fW RX12 11 31 336 := ⟨RX12, TX12, rfl, by decide, by decide, cl_11, aw5 (List.mem_of_getElem? (i := 169) rfl) rfl, tyX12_ok, nmX12⟩
theorem fw_RX12_70 : fW RX12 11 32 70 := ⟨RX12, TX12, rfl, by decide, by decide, cl_11, aw5 (List.mem_of_getElem? (i := 170) rfl) rfl, tyX12_ok, nmX12⟩
theorem fw_RX12_73 : fW RX12 11 33 73 := ⟨RX12, TX12, rfl, by decide, by decide, cl_11, aw5 (List.mem_of_getElem? (i := 171) rfl) rfl, tyX12_ok, nmX12⟩
theorem fw_RX12_76 : fW RX12 11 34 76 := ⟨RX12, TX12, rfl, by decide, by decide, cl_11, aw5 (List.mem_of_getElem? (i := 172) rfl) rfl, tyX12_ok, nmX12⟩
theorem fw_RX12_79 : fW RX12 11 35 79 := ⟨RX12, TX12, rfl, by decide, by decide, cl_11, aw5 (List.mem_of_getElem? (i := 173) rfl) rfl, tyX12_ok, nmX12⟩
theorem fw_RX12_82 : fW RX12 11 36 82 := ⟨RX12, TX12, rfl, by decide, by decide, cl_11, aw5 (List.mem_of_getElem? (i := 174) rfl) rfl, tyX12_ok, nmX12⟩
theorem fw_RX12_85 : fW RX12 11 37 85 := ⟨RX12, TX12, rfl, by decide, by decide, cl_11, aw5 (List.mem_of_getElem? (i := 175) rfl) rfl, tyX12_ok, nmX12⟩
theorem fw_RX12_88 : fW RX12 11 38 88 := ⟨RX12, TX12, rfl, by decide, by decide, cl_11, aw5 (List.mem_of_getElem? (i := 176) rfl) rfl, tyX12_ok, nmX12⟩
theorem fw_RX12_91 : fW RX12 11 39 91 := ⟨RX12, TX12, rfl, by decide, by decide, cl_11, aw5 (List.mem_of_getElem? (i := 177) rfl) rfl, tyX12_ok, nmX12⟩
theorem fw_RX12_94 : fW RX12 11 40 94 := ⟨RX12, TX12, rfl, by decide, by decide, cl_11, aw5 (List.mem_of_getElem? (i := 178) rfl) rfl, tyX12_ok, nmX12⟩
theorem fw_RX12_424 : fW RX12 11 41 424 := ⟨RX12, TX12, rfl, by decide, by decide, cl_11, aw5 (List.mem_of_getElem? (i := 179) rfl) rfl, tyX12_ok, nmX12⟩
theorem fw_RX12_97 : fW RX12 11 42 97 := ⟨RX12, TX12, rfl, by decide, by decide, cl_11, aw5 (List.mem_of_getElem? (i := 180) rfl) rfl, tyX12_ok, nmX12⟩
theorem fw_RX12_437 : fW RX12 11 43 437 := ⟨RX12, TX12, rfl, by decide, by decide, cl_11, aw5 (List.mem_of_getElem? (i := 181) rfl) rfl, tyX12_ok, nmX12⟩
theorem fw_RX12_421 : fW RX12 11 44 421 := ⟨RX12, TX12, rfl, by decide, by decide, cl_11, aw5 (List.mem_of_getElem? (i := 182) rfl) rfl, tyX12_ok, nmX12⟩
theorem fw_RX12_100 : fW RX12 11 45 100 := ⟨RX12, TX12, rfl, by decide, by decide, cl_11, aw5 (List.mem_of_getElem? (i := 183) rfl) rfl, tyX12_ok, nmX12⟩
theorem fw_RX12_103 : fW RX12 11 46 103 := ⟨RX12, TX12, rfl, by decide, by decide, cl_11, aw5 (List.mem_of_getElem? (i := 184) rfl) rfl, tyX12_ok, nmX12⟩
theorem fw_RX12_490 : fW RX12 11 47 490 := ⟨RX12, TX12, rfl, by decide, by decide, cl_11, aw5 (List.mem_of_getElem? (i := 185) rfl) rfl, tyX12_ok, nmX12⟩
theorem fw_RX12_502 : fW RX12 11 48 502 := ⟨RX12, TX12, rfl, by decide, by decide, cl_11, aw5 (List.mem_of_getElem? (i := 186) rfl) rfl, tyX12_ok, nmX12⟩
theorem fw_RX12_106 : fW RX12 11 49 106 := ⟨RX12, TX12, rfl, by decide, by decide, cl_11, aw5 (List.mem_of_getElem? (i := 187) rfl) rfl, tyX12_ok, nmX12⟩
theorem fw_RX12_505 : fW RX12 11 50 505 := ⟨RX12, TX12, rfl, by decide, by decide, cl_11, aw5 (List.mem_of_getElem? (i := 188) rfl) rfl, tyX12_ok, nmX12⟩
theorem fw_RX12_508 : fW RX12 11 51 508 := ⟨RX12, TX12, rfl, by decide, by decide, cl_11, aw5 (List.mem_of_getElem? (i := 189) rfl) rfl, tyX12_ok, nmX12⟩
theorem fw_RX12_109 : fW RX12 11 52 109 := ⟨RX12, TX12, rfl, by decide, by decide, cl_11, aw5 (List.mem_of_getElem? (i := 190) rfl) rfl, tyX12_ok, nmX12⟩
theorem fw_RX12_112 : fW RX12 11 53 112 := ⟨RX12, TX12, rfl, by decide, by decide, cl_11, aw5 (List.mem_of_getElem? (i := 191) rfl) rfl, tyX12_ok, nmX12⟩
theorem kl_RX12_132 : Cond.constantLong RX12 132 (60) ∈ lw_g := aw6 (List.mem_of_getElem? (i := 84) rfl) rfl
theorem kl_RX12_134 : Cond.constantLong RX12 134 (31) ∈ lw_g := aw6 (List.mem_of_getElem? (i := 85) rfl) rfl
theorem kl_RX12_136 : Cond.constantLong RX12 136 (4) ∈ lw_g := aw6 (List.mem_of_getElem? (i := 86) rfl) rfl
theorem kl_RX12_158 : Cond.constantLong RX12 158 (2) ∈ lw_g := aw6 (List.mem_of_getElem? (i := 114) rfl) rfl
theorem kl_RX12_160 : Cond.constantLong RX12 160 (9) ∈ lw_g := aw6 (List.mem_of_getElem? (i := 115) rfl) rfl
theorem kl_RX12_162 : Cond.constantLong RX12 162 (5) ∈ lw_g := aw6 (List.mem_of_getElem? (i := 116) rfl) rfl
theorem kl_RX12_164 : Cond.constantLong RX12 164 (99) ∈ lw_g := aw6 (List.mem_of_getElem? (i := 121) rfl) rfl
theorem kl_RX12_166 : Cond.constantLong RX12 166 (300) ∈ lw_g := aw6 (List.mem_of_getElem? (i := 122) rfl) rfl
theorem kl_RX12_204 : Cond.constantLong RX12 204 (32) ∈ lw_g := aw6 (List.mem_of_getElem? (i := 165) rfl) rfl
theorem kl_RX12_206 : Cond.constantLong RX12 206 (96) ∈ lw_g := aw6 (List.mem_of_getElem? (i := 166) rfl) rfl
theorem kl_RX12_208 : Cond.constantLong RX12 208 (-1) ∈ lw_g := aw6 (List.mem_of_getElem? (i := 167) rfl) rfl
theorem kl_RX12_210 : Cond.constantLong RX12 210 (1000000) ∈ lw_g := aw6 (List.mem_of_getElem? (i := 168) rfl) rfl
theorem kl_RX12_212 : Cond.constantLong RX12 212 (10) ∈ lw_g := aw6 (List.mem_of_getElem? (i := 169) rfl) rfl
theorem kl_RX12_214 : Cond.constantLong RX12 214 (48) ∈ lw_g := aw6 (List.mem_of_getElem? (i := 170) rfl) rfl
theorem kl_RX12_298 : Cond.constantLong RX12 298 (20580147) ∈ lw_g := aw6 (List.mem_of_getElem? (i := 175) rfl) rfl
theorem kl_RX12_300 : Cond.constantLong RX12 300 (17376357) ∈ lw_g := aw6 (List.mem_of_getElem? (i := 180) rfl) rfl
theorem kl_RX12_270 : Cond.constantLong RX12 270 (14836) ∈ lw_g := aw6 (List.mem_of_getElem? (i := 193) rfl) rfl
theorem kl_RX12_264 : Cond.constantLong RX12 264 (1000) ∈ lw_g := aw6 (List.mem_of_getElem? (i := 214) rfl) rfl
theorem kl_RX12_233 : Cond.constantLong RX12 233 (20) ∈ lw_g := aw7 (List.mem_of_getElem? (i := 2) rfl) rfl
theorem kl_RX12_235 : Cond.constantLong RX12 235 (23) ∈ lw_g := aw7 (List.mem_of_getElem? (i := 3) rfl) rfl
theorem kl_RX12_237 : Cond.constantLong RX12 237 (24) ∈ lw_g := aw7 (List.mem_of_getElem? (i := 4) rfl) rfl
theorem kl_RX12_239 : Cond.constantLong RX12 239 (26) ∈ lw_g := aw7 (List.mem_of_getElem? (i := 5) rfl) rfl
theorem kl_RX12_284 : Cond.constantLong RX12 284 (1476) ∈ lw_g := aw7 (List.mem_of_getElem? (i := 10) rfl) rfl
theorem kl_RX12_286 : Cond.constantLong RX12 286 (498) ∈ lw_g := aw7 (List.mem_of_getElem? (i := 11) rfl) rfl
theorem kl_RX12_308 : Cond.constantLong RX12 308 (294) ∈ lw_g := aw7 (List.mem_of_getElem? (i := 12) rfl) rfl
theorem kl_RX12_326 : Cond.constantLong RX12 326 (-1000000000) ∈ lw_g := aw7 (List.mem_of_getElem? (i := 41) rfl) rfl
theorem kl_RX12_328 : Cond.constantLong RX12 328 (1000000000) ∈ lw_g := aw7 (List.mem_of_getElem? (i := 42) rfl) rfl
theorem kl_RX12_443 : Cond.constantLong RX12 443 (3) ∈ lw_g := aw7 (List.mem_of_getElem? (i := 74) rfl) rfl
theorem kl_RX12_361 : Cond.constantLong RX12 361 (10000) ∈ lw_g := aw7 (List.mem_of_getElem? (i := 123) rfl) rfl
theorem kl_RX12_359 : Cond.constantLong RX12 359 (100000000) ∈ lw_g := aw7 (List.mem_of_getElem? (i := 124) rfl) rfl
theorem kl_RX12_374 : Cond.constantLong RX12 374 (100) ∈ lw_g := aw7 (List.mem_of_getElem? (i := 143) rfl) rfl
theorem kl_RX12_467 : Cond.constantLong RX12 467 (12) ∈ lw_g := aw7 (List.mem_of_getElem? (i := 173) rfl) rfl
theorem kl_RX12_477 : Cond.constantLong RX12 477 (7) ∈ lw_g := aw7 (List.mem_of_getElem? (i := 210) rfl) rfl
theorem ki_RX12_489 : Cond.constant RX12 489 (1000000) ∈ lw_g := aw7 (List.mem_of_getElem? (i := 235) rfl) rfl
theorem kl_RX12_493 : Cond.constantLong RX12 493 (1103) ∈ lw_g := aw8 (List.mem_of_getElem? (i := 19) rfl) rfl
theorem kl_RX12_495 : Cond.constantLong RX12 495 (12345) ∈ lw_g := aw8 (List.mem_of_getElem? (i := 20) rfl) rfl
theorem kl_RX12_497 : Cond.constantLong RX12 497 (1000003) ∈ lw_g := aw8 (List.mem_of_getElem? (i := 21) rfl) rfl
theorem sf_RJ0_9 : Cond.fieldLink RJ0 9 "java/lang/String" "value" "[B" ∈ lw_g := aw8 (List.mem_of_getElem? (i := 38) rfl) rfl
theorem sf_RJ0_15 : Cond.fieldLink RJ0 15 "java/lang/String" "coder" "B" ∈ lw_g := aw8 (List.mem_of_getElem? (i := 39) rfl) rfl
theorem ml_RL_9 : Cond.methodLink RL 9 yX11_init ∈ lw_g := aw1 (List.mem_of_getElem? (i := 24) rfl) rfl
theorem cb_X11_init : cB Y_X11_init 0 := ⟨aw1 (List.mem_of_getElem? (i := 26) rfl) rfl, in_RX11, ⟨by decide +kernel, by decide +kernel, by decide +kernel⟩, by decide⟩
theorem im_X11_init : Cond.instanceMethod yX11_init ∈ lw_g := aw1 (List.mem_of_getElem? (i := 25) rfl) rfl
theorem cw_RL_9 : cI RL Y_X11_init 9 0 := ⟨cb_X11_init, ml_RL_9, im_X11_init, rfl, rfl⟩
theorem ml_RX11_3 : Cond.methodLink RX11 3 (⟨"java/lang/Object", "<init>", "()V"⟩ : MethodName) ∈ lw_g := aw1 (List.mem_of_getElem? (i := 27) rfl) rfl
theorem cb_X4_init : cB Y_X4_init 0 := ⟨aw1 (List.mem_of_getElem? (i := 34) rfl) rfl, in_RX4, ⟨by decide +kernel, by decide +kernel, by decide +kernel⟩, by decide⟩
theorem im_X4_init : Cond.instanceMethod yX4_init ∈ lw_g := aw1 (List.mem_of_getElem? (i := 33) rfl) rfl
theorem cw_RX11_11 : cIN RX11 Y_X4_init 11 0 := ⟨cb_X4_init, fun G U h => by first | exact h.1 | exact h.2.2.1, im_X4_init, rfl, rfl⟩
theorem ml_RX4_3 : Cond.methodLink RX4 3 (⟨"java/lang/Object", "<init>", "()V"⟩ : MethodName) ∈ lw_g := aw1 (List.mem_of_getElem? (i := 35) rfl) rfl
theorem cb_X7_init : cB Y_X7_init 0 := ⟨aw1 (List.mem_of_getElem? (i := 129) rfl) rfl, in_RX7, ⟨by decide +kernel, by decide +kernel, by decide +kernel⟩, by decide⟩
theorem im_X7_init : Cond.instanceMethod yX7_init ∈ lw_g := aw1 (List.mem_of_getElem? (i := 128) rfl) rfl
theorem cw_RX11_42 : cIN RX11 Y_X7_init 42 0 := ⟨cb_X7_init, fun G U h => by first | exact h.1 | exact h.2.2.1, im_X7_init, rfl, rfl⟩
theorem ml_RX7_3 : Cond.methodLink RX7 3 (⟨"java/lang/Object", "<init>", "()V"⟩ : MethodName) ∈ lw_g := aw1 (List.mem_of_getElem? (i := 130) rfl) rfl
theorem ml_RX11_49 : Cond.methodLink RX11 49 yX0_init ∈ lw_g := aw1 (List.mem_of_getElem? (i := 166) rfl) rfl
theorem cb_X0_init : cB Y_X0_init 1 := ⟨aw1 (List.mem_of_getElem? (i := 168) rfl) rfl, in_RX0, ⟨by decide +kernel, by decide +kernel, by decide +kernel⟩, by decide⟩
theorem im_X0_init : Cond.instanceMethod yX0_init ∈ lw_g := aw1 (List.mem_of_getElem? (i := 167) rfl) rfl
theorem cw_RX11_49 : cI RX11 Y_X0_init 49 1 := ⟨cb_X0_init, ml_RX11_49, im_X0_init, rfl, rfl⟩
theorem ml_RX0_3 : Cond.methodLink RX0 3 (⟨"java/lang/Object", "<init>", "()V"⟩ : MethodName) ∈ lw_g := aw1 (List.mem_of_getElem? (i := 169) rfl) rfl
theorem ml_RX11_58 : Cond.methodLink RX11 58 yX8_init ∈ lw_g := aw1 (List.mem_of_getElem? (i := 183) rfl) rfl
theorem cb_X8_init : cB Y_X8_init 2 := ⟨aw1 (List.mem_of_getElem? (i := 185) rfl) rfl, in_RX8, ⟨by decide +kernel, by decide +kernel, by decide +kernel⟩, by decide⟩
theorem im_X8_init : Cond.instanceMethod yX8_init ∈ lw_g := aw1 (List.mem_of_getElem? (i := 184) rfl) rfl
theorem cw_RX11_58 : cI RX11 Y_X8_init 58 2 := ⟨cb_X8_init, ml_RX11_58, im_X8_init, rfl, rfl⟩
theorem ml_RX8_3 : Cond.methodLink RX8 3 (⟨"java/lang/Object", "<init>", "()V"⟩ : MethodName) ∈ lw_g := aw1 (List.mem_of_getElem? (i := 186) rfl) rfl
theorem ml_RX8_36 : Cond.methodLink RX8 36 yJ6_bitCount_0f7a4 ∈ lw_g := aw1 (List.mem_of_getElem? (i := 187) rfl) rfl
theorem in_RJ6 : Cond.initialized RJ6 ∈ lw_g := aw1 (List.mem_of_getElem? (i := 6) rfl) rfl
theorem cb_J6_bitCount_0f7a4 : cB Y_J6_bitCount_0f7a4 1 := ⟨aw1 (List.mem_of_getElem? (i := 189) rfl) rfl, in_RJ6, ⟨by decide +kernel, by decide +kernel, by decide +kernel⟩, by decide⟩
theorem st_J6_bitCount_0f7a4 : Cond.static yJ6_bitCount_0f7a4 ∈ lw_g := aw1 (List.mem_of_getElem? (i := 188) rfl) rfl
theorem cw_RX8_36 : cS RX8 Y_J6_bitCount_0f7a4 36 1 := ⟨cb_J6_bitCount_0f7a4, ml_RX8_36, st_J6_bitCount_0f7a4⟩
theorem ml_RX8_42 : Cond.methodLink RX8 42 yX8_nodeOf ∈ lw_g := aw1 (List.mem_of_getElem? (i := 193) rfl) rfl
theorem cb_X8_nodeOf : cB Y_X8_nodeOf 2 := ⟨aw1 (List.mem_of_getElem? (i := 195) rfl) rfl, in_RX8, ⟨by decide +kernel, by decide +kernel, by decide +kernel⟩, by decide⟩
theorem st_X8_nodeOf : Cond.static yX8_nodeOf ∈ lw_g := aw1 (List.mem_of_getElem? (i := 194) rfl) rfl
theorem cw_RX8_42 : cS RX8 Y_X8_nodeOf 42 2 := ⟨cb_X8_nodeOf, ml_RX8_42, st_X8_nodeOf⟩
theorem ml_RX11_67 : Cond.methodLink RX11 67 yX3_init ∈ lw_g := aw1 (List.mem_of_getElem? (i := 225) rfl) rfl
theorem cb_X3_init : cB Y_X3_init 2 := ⟨aw1 (List.mem_of_getElem? (i := 227) rfl) rfl, in_RX3, ⟨by decide +kernel, by decide +kernel, by decide +kernel⟩, by decide⟩
theorem im_X3_init : Cond.instanceMethod yX3_init ∈ lw_g := aw1 (List.mem_of_getElem? (i := 226) rfl) rfl
theorem cw_RX11_67 : cI RX11 Y_X3_init 67 2 := ⟨cb_X3_init, ml_RX11_67, im_X3_init, rfl, rfl⟩
theorem ml_RX3_3 : Cond.methodLink RX3 3 (⟨"java/lang/Object", "<init>", "()V"⟩ : MethodName) ∈ lw_g := aw1 (List.mem_of_getElem? (i := 228) rfl) rfl
theorem ml_RX3_29 : Cond.methodLink RX3 29 yX9_init ∈ lw_g := aw1 (List.mem_of_getElem? (i := 231) rfl) rfl
theorem cb_X9_init : cB Y_X9_init 3 := ⟨aw1 (List.mem_of_getElem? (i := 233) rfl) rfl, in_RX9, ⟨by decide +kernel, by decide +kernel, by decide +kernel⟩, by decide⟩
theorem im_X9_init : Cond.instanceMethod yX9_init ∈ lw_g := aw1 (List.mem_of_getElem? (i := 232) rfl) rfl
theorem cw_RX3_29 : cI RX3 Y_X9_init 29 3 := ⟨cb_X9_init, ml_RX3_29, im_X9_init, rfl, rfl⟩
theorem ml_RX9_3 : Cond.methodLink RX9 3 (⟨"java/lang/Object", "<init>", "()V"⟩ : MethodName) ∈ lw_g := aw1 (List.mem_of_getElem? (i := 234) rfl) rfl
theorem ml_RX11_76 : Cond.methodLink RX11 76 yX6_init ∈ lw_g := aw2 (List.mem_of_getElem? (i := 57) rfl) rfl
theorem cb_X6_init : cB Y_X6_init 3 := ⟨aw2 (List.mem_of_getElem? (i := 59) rfl) rfl, in_RX6, ⟨by decide +kernel, by decide +kernel, by decide +kernel⟩, by decide⟩
theorem im_X6_init : Cond.instanceMethod yX6_init ∈ lw_g := aw2 (List.mem_of_getElem? (i := 58) rfl) rfl
theorem cw_RX11_76 : cI RX11 Y_X6_init 76 3 := ⟨cb_X6_init, ml_RX11_76, im_X6_init, rfl, rfl⟩
theorem ml_RX6_3 : Cond.methodLink RX6 3 (⟨"java/lang/Object", "<init>", "()V"⟩ : MethodName) ∈ lw_g := aw2 (List.mem_of_getElem? (i := 60) rfl) rfl
theorem ml_RX6_55 : Cond.methodLink RX6 55 yX9_init ∈ lw_g := aw2 (List.mem_of_getElem? (i := 62) rfl) rfl
theorem cw_RX6_55 : cI RX6 Y_X9_init 55 3 := ⟨cb_X9_init, ml_RX6_55, im_X9_init, rfl, rfl⟩
theorem ml_RX11_85 : Cond.methodLink RX11 85 yX1_init ∈ lw_g := aw2 (List.mem_of_getElem? (i := 102) rfl) rfl
theorem cb_X1_init : cB Y_X1_init 2 := ⟨aw2 (List.mem_of_getElem? (i := 104) rfl) rfl, in_RX1, ⟨by decide +kernel, by decide +kernel, by decide +kernel⟩, by decide⟩
theorem im_X1_init : Cond.instanceMethod yX1_init ∈ lw_g := aw2 (List.mem_of_getElem? (i := 103) rfl) rfl
theorem cw_RX11_85 : cI RX11 Y_X1_init 85 2 := ⟨cb_X1_init, ml_RX11_85, im_X1_init, rfl, rfl⟩
theorem ml_RX1_3 : Cond.methodLink RX1 3 (⟨"java/lang/Object", "<init>", "()V"⟩ : MethodName) ∈ lw_g := aw2 (List.mem_of_getElem? (i := 105) rfl) rfl
theorem ml_RX11_92 : Cond.methodLink RX11 92 yX10_init ∈ lw_g := aw2 (List.mem_of_getElem? (i := 136) rfl) rfl
theorem cb_X10_init : cB Y_X10_init 3 := ⟨aw2 (List.mem_of_getElem? (i := 138) rfl) rfl, in_RX10, ⟨by decide +kernel, by decide +kernel, by decide +kernel⟩, by decide⟩
theorem im_X10_init : Cond.instanceMethod yX10_init ∈ lw_g := aw2 (List.mem_of_getElem? (i := 137) rfl) rfl
theorem cw_RX11_92 : cI RX11 Y_X10_init 92 3 := ⟨cb_X10_init, ml_RX11_92, im_X10_init, rfl, rfl⟩
theorem ml_RX10_3 : Cond.methodLink RX10 3 (⟨"java/lang/Object", "<init>", "()V"⟩ : MethodName) ∈ lw_g := aw2 (List.mem_of_getElem? (i := 139) rfl) rfl
theorem ml_RL_13 : Cond.methodLink RL 13 yX11_scene ∈ lw_g := aw2 (List.mem_of_getElem? (i := 237) rfl) rfl
theorem cb_X11_scene : cB Y_X11_scene 3 := ⟨aw3 (List.mem_of_getElem? (i := 0) rfl) rfl, in_RX11, ⟨by decide +kernel, by decide +kernel, by decide +kernel⟩, by decide⟩
theorem im_X11_scene : Cond.instanceMethod yX11_scene ∈ lw_g := aw2 (List.mem_of_getElem? (i := 238) rfl) rfl
theorem se_X11_scene : Cond.selects RX11 yX11_scene yX11_scene ∈ lw_g := aw2 (List.mem_of_getElem? (i := 239) rfl) rfl
theorem cw_RL_13 : cV RL Y_X11_scene 13 3 := ⟨cb_X11_scene, ml_RL_13, im_X11_scene, se_X11_scene⟩
theorem ml_RX11_100 : Cond.methodLink RX11 100 yX4_couldBe ∈ lw_g := aw3 (List.mem_of_getElem? (i := 1) rfl) rfl
theorem cb_X4_couldBe : cB Y_X4_couldBe 3 := ⟨aw3 (List.mem_of_getElem? (i := 4) rfl) rfl, in_RX4, ⟨by decide +kernel, by decide +kernel, by decide +kernel⟩, by decide⟩
theorem im_X4_couldBe : Cond.instanceMethod yX4_couldBe ∈ lw_g := aw3 (List.mem_of_getElem? (i := 2) rfl) rfl
theorem se_X4_couldBe : Cond.selects RX4 yX4_couldBe yX4_couldBe ∈ lw_g := aw3 (List.mem_of_getElem? (i := 3) rfl) rfl
theorem cw_RX11_100 : cV RX11 Y_X4_couldBe 100 3 := ⟨cb_X4_couldBe, ml_RX11_100, im_X4_couldBe, se_X4_couldBe⟩
theorem ml_RX4_74 : Cond.methodLink RX4 74 yX4_fitsScene ∈ lw_g := aw3 (List.mem_of_getElem? (i := 5) rfl) rfl
theorem cb_X4_fitsScene : cB Y_X4_fitsScene 2 := ⟨aw3 (List.mem_of_getElem? (i := 7) rfl) rfl, in_RX4, ⟨by decide +kernel, by decide +kernel, by decide +kernel⟩, by decide⟩
theorem st_X4_fitsScene : Cond.static yX4_fitsScene ∈ lw_g := aw3 (List.mem_of_getElem? (i := 6) rfl) rfl
theorem cw_RX4_74 : cS RX4 Y_X4_fitsScene 74 2 := ⟨cb_X4_fitsScene, ml_RX4_74, st_X4_fitsScene⟩
theorem ml_RX4_78 : Cond.methodLink RX4 78 yX4_holds ∈ lw_g := aw3 (List.mem_of_getElem? (i := 8) rfl) rfl
theorem cb_X4_holds : cB Y_X4_holds 2 := ⟨aw3 (List.mem_of_getElem? (i := 10) rfl) rfl, in_RX4, ⟨by decide +kernel, by decide +kernel, by decide +kernel⟩, by decide⟩
theorem st_X4_holds : Cond.static yX4_holds ∈ lw_g := aw3 (List.mem_of_getElem? (i := 9) rfl) rfl
theorem cw_RX4_78 : cS RX4 Y_X4_holds 78 2 := ⟨cb_X4_holds, ml_RX4_78, st_X4_holds⟩
theorem ml_RX11_104 : Cond.methodLink RX11 104 yX11_refuse ∈ lw_g := aw3 (List.mem_of_getElem? (i := 11) rfl) rfl
theorem cb_X11_refuse : cB Y_X11_refuse 1 := ⟨aw3 (List.mem_of_getElem? (i := 14) rfl) rfl, in_RX11, ⟨by decide +kernel, by decide +kernel, by decide +kernel⟩, by decide⟩
theorem im_X11_refuse : Cond.instanceMethod yX11_refuse ∈ lw_g := aw3 (List.mem_of_getElem? (i := 13) rfl) rfl
theorem se_X11_refuse : Cond.selects RX11 yX11_refuse yX11_refuse ∈ lw_g := aw0 (List.mem_of_getElem? (i := 0) rfl) rfl
theorem cw_RX11_104 : cV RX11 Y_X11_refuse 104 1 := ⟨cb_X11_refuse, ml_RX11_104, im_X11_refuse, se_X11_refuse⟩
theorem ml_RX11_111 : Cond.methodLink RX11 111 yX4_addScene ∈ lw_g := aw3 (List.mem_of_getElem? (i := 15) rfl) rfl
theorem cb_X4_addScene : cB Y_X4_addScene 3 := ⟨aw3 (List.mem_of_getElem? (i := 18) rfl) rfl, in_RX4, ⟨by decide +kernel, by decide +kernel, by decide +kernel⟩, by decide⟩
theorem im_X4_addScene : Cond.instanceMethod yX4_addScene ∈ lw_g := aw3 (List.mem_of_getElem? (i := 16) rfl) rfl
theorem se_X4_addScene : Cond.selects RX4 yX4_addScene yX4_addScene ∈ lw_g := aw3 (List.mem_of_getElem? (i := 17) rfl) rfl
theorem cw_RX11_111 : cV RX11 Y_X4_addScene 111 3 := ⟨cb_X4_addScene, ml_RX11_111, im_X4_addScene, se_X4_addScene⟩
theorem ml_RX11_115 : Cond.methodLink RX11 115 yX6_lawsChanged ∈ lw_g := aw3 (List.mem_of_getElem? (i := 19) rfl) rfl
theorem cb_X6_lawsChanged : cB Y_X6_lawsChanged 0 := ⟨aw3 (List.mem_of_getElem? (i := 22) rfl) rfl, in_RX6, ⟨by decide +kernel, by decide +kernel, by decide +kernel⟩, by decide⟩
theorem im_X6_lawsChanged : Cond.instanceMethod yX6_lawsChanged ∈ lw_g := aw3 (List.mem_of_getElem? (i := 20) rfl) rfl
theorem se_X6_lawsChanged : Cond.selects RX6 yX6_lawsChanged yX6_lawsChanged ∈ lw_g := aw3 (List.mem_of_getElem? (i := 21) rfl) rfl
theorem cw_RX11_115 : cV RX11 Y_X6_lawsChanged 115 0 := ⟨cb_X6_lawsChanged, ml_RX11_115, im_X6_lawsChanged, se_X6_lawsChanged⟩
theorem ml_RX6_67 : Cond.methodLink RX6 67 yX6_valuesChanged ∈ lw_g := aw3 (List.mem_of_getElem? (i := 23) rfl) rfl
theorem cb_X6_valuesChanged : cB Y_X6_valuesChanged 0 := ⟨aw3 (List.mem_of_getElem? (i := 26) rfl) rfl, in_RX6, ⟨by decide +kernel, by decide +kernel, by decide +kernel⟩, by decide⟩
theorem im_X6_valuesChanged : Cond.instanceMethod yX6_valuesChanged ∈ lw_g := aw3 (List.mem_of_getElem? (i := 24) rfl) rfl
theorem se_X6_valuesChanged : Cond.selects RX6 yX6_valuesChanged yX6_valuesChanged ∈ lw_g := aw3 (List.mem_of_getElem? (i := 25) rfl) rfl
theorem cw_RX6_67 : cV RX6 Y_X6_valuesChanged 67 0 := ⟨cb_X6_valuesChanged, ml_RX6_67, im_X6_valuesChanged, se_X6_valuesChanged⟩
theorem ml_RX6_75 : Cond.methodLink RX6 75 yX9_begins ∈ lw_g := aw3 (List.mem_of_getElem? (i := 27) rfl) rfl
theorem cb_X9_begins : cB Y_X9_begins 2 := ⟨aw3 (List.mem_of_getElem? (i := 30) rfl) rfl, in_RX9, ⟨by decide +kernel, by decide +kernel, by decide +kernel⟩, by decide⟩
theorem im_X9_begins : Cond.instanceMethod yX9_begins ∈ lw_g := aw3 (List.mem_of_getElem? (i := 28) rfl) rfl
theorem se_X9_begins : Cond.selects RX9 yX9_begins yX9_begins ∈ lw_g := aw3 (List.mem_of_getElem? (i := 29) rfl) rfl
theorem cw_RX6_75 : cV RX6 Y_X9_begins 75 2 := ⟨cb_X9_begins, ml_RX6_75, im_X9_begins, se_X9_begins⟩
theorem ml_RX11_118 : Cond.methodLink RX11 118 yX11_accept ∈ lw_g := aw3 (List.mem_of_getElem? (i := 31) rfl) rfl
theorem cb_X11_accept : cB Y_X11_accept 1 := ⟨aw3 (List.mem_of_getElem? (i := 34) rfl) rfl, in_RX11, ⟨by decide +kernel, by decide +kernel, by decide +kernel⟩, by decide⟩
theorem im_X11_accept : Cond.instanceMethod yX11_accept ∈ lw_g := aw3 (List.mem_of_getElem? (i := 33) rfl) rfl
theorem se_X11_accept : Cond.selects RX11 yX11_accept yX11_accept ∈ lw_g := aw0 (List.mem_of_getElem? (i := 1) rfl) rfl
theorem cw_RX11_118 : cV RX11 Y_X11_accept 118 1 := ⟨cb_X11_accept, ml_RX11_118, im_X11_accept, se_X11_accept⟩
theorem ml_RL_18 : Cond.methodLink RL 18 yX11_put ∈ lw_g := aw3 (List.mem_of_getElem? (i := 35) rfl) rfl
theorem cb_X11_put : cB Y_X11_put 3 := ⟨aw3 (List.mem_of_getElem? (i := 38) rfl) rfl, in_RX11, ⟨by decide +kernel, by decide +kernel, by decide +kernel⟩, by decide⟩
theorem im_X11_put : Cond.instanceMethod yX11_put ∈ lw_g := aw3 (List.mem_of_getElem? (i := 36) rfl) rfl
theorem se_X11_put : Cond.selects RX11 yX11_put yX11_put ∈ lw_g := aw3 (List.mem_of_getElem? (i := 37) rfl) rfl
theorem cw_RL_18 : cV RL Y_X11_put 18 3 := ⟨cb_X11_put, ml_RL_18, im_X11_put, se_X11_put⟩
theorem ml_RX11_121 : Cond.methodLink RX11 121 yX4_fitsScene ∈ lw_g := aw3 (List.mem_of_getElem? (i := 39) rfl) rfl
theorem cw_RX11_121 : cS RX11 Y_X4_fitsScene 121 2 := ⟨cb_X4_fitsScene, ml_RX11_121, st_X4_fitsScene⟩
theorem ml_RX11_125 : Cond.methodLink RX11 125 yX4_holds ∈ lw_g := aw3 (List.mem_of_getElem? (i := 40) rfl) rfl
theorem cw_RX11_125 : cS RX11 Y_X4_holds 125 2 := ⟨cb_X4_holds, ml_RX11_125, st_X4_holds⟩
theorem ml_RX11_128 : Cond.methodLink RX11 128 yX4_hasScene ∈ lw_g := aw3 (List.mem_of_getElem? (i := 41) rfl) rfl
theorem cb_X4_hasScene : cB Y_X4_hasScene 1 := ⟨aw3 (List.mem_of_getElem? (i := 44) rfl) rfl, in_RX4, ⟨by decide +kernel, by decide +kernel, by decide +kernel⟩, by decide⟩
theorem im_X4_hasScene : Cond.instanceMethod yX4_hasScene ∈ lw_g := aw3 (List.mem_of_getElem? (i := 42) rfl) rfl
theorem se_X4_hasScene : Cond.selects RX4 yX4_hasScene yX4_hasScene ∈ lw_g := aw3 (List.mem_of_getElem? (i := 43) rfl) rfl
theorem cw_RX11_128 : cV RX11 Y_X4_hasScene 128 1 := ⟨cb_X4_hasScene, ml_RX11_128, im_X4_hasScene, se_X4_hasScene⟩
theorem ml_RL_22 : Cond.methodLink RL 22 yX11_sort ∈ lw_g := aw3 (List.mem_of_getElem? (i := 45) rfl) rfl
theorem cb_X11_sort : cB Y_X11_sort 3 := ⟨aw3 (List.mem_of_getElem? (i := 48) rfl) rfl, in_RX11, ⟨by decide +kernel, by decide +kernel, by decide +kernel⟩, by decide⟩
theorem im_X11_sort : Cond.instanceMethod yX11_sort ∈ lw_g := aw3 (List.mem_of_getElem? (i := 46) rfl) rfl
theorem se_X11_sort : Cond.selects RX11 yX11_sort yX11_sort ∈ lw_g := aw3 (List.mem_of_getElem? (i := 47) rfl) rfl
theorem cw_RL_22 : cV RL Y_X11_sort 22 3 := ⟨cb_X11_sort, ml_RL_22, im_X11_sort, se_X11_sort⟩
theorem ml_RX11_141 : Cond.methodLink RX11 141 yX11_isSort ∈ lw_g := aw3 (List.mem_of_getElem? (i := 49) rfl) rfl
theorem cb_X11_isSort : cB Y_X11_isSort 1 := ⟨aw3 (List.mem_of_getElem? (i := 51) rfl) rfl, in_RX11, ⟨by decide +kernel, by decide +kernel, by decide +kernel⟩, by decide⟩
theorem st_X11_isSort : Cond.static yX11_isSort ∈ lw_g := aw3 (List.mem_of_getElem? (i := 50) rfl) rfl
theorem cw_RX11_141 : cS RX11 Y_X11_isSort 141 1 := ⟨cb_X11_isSort, ml_RX11_141, st_X11_isSort⟩
theorem ml_RX11_153 : Cond.methodLink RX11 153 yX6_valuesChanged ∈ lw_g := aw3 (List.mem_of_getElem? (i := 52) rfl) rfl
theorem cw_RX11_153 : cV RX11 Y_X6_valuesChanged 153 0 := ⟨cb_X6_valuesChanged, ml_RX11_153, im_X6_valuesChanged, se_X6_valuesChanged⟩
theorem ml_RL_26 : Cond.methodLink RL 26 yX11_terms ∈ lw_g := aw3 (List.mem_of_getElem? (i := 53) rfl) rfl
theorem cb_X11_terms : cB Y_X11_terms 2 := ⟨aw3 (List.mem_of_getElem? (i := 56) rfl) rfl, in_RX11, ⟨by decide +kernel, by decide +kernel, by decide +kernel⟩, by decide⟩
theorem im_X11_terms : Cond.instanceMethod yX11_terms ∈ lw_g := aw3 (List.mem_of_getElem? (i := 54) rfl) rfl
theorem se_X11_terms : Cond.selects RX11 yX11_terms yX11_terms ∈ lw_g := aw3 (List.mem_of_getElem? (i := 55) rfl) rfl
theorem cw_RL_26 : cV RL Y_X11_terms 26 2 := ⟨cb_X11_terms, ml_RL_26, im_X11_terms, se_X11_terms⟩
theorem ml_RL_31 : Cond.methodLink RL 31 yX11_feed ∈ lw_g := aw3 (List.mem_of_getElem? (i := 57) rfl) rfl
theorem cb_X11_feed : cB Y_X11_feed 5 := ⟨aw3 (List.mem_of_getElem? (i := 60) rfl) rfl, in_RX11, ⟨by decide +kernel, by decide +kernel, by decide +kernel⟩, by decide⟩
theorem im_X11_feed : Cond.instanceMethod yX11_feed ∈ lw_g := aw3 (List.mem_of_getElem? (i := 58) rfl) rfl
theorem se_X11_feed : Cond.selects RX11 yX11_feed yX11_feed ∈ lw_g := aw3 (List.mem_of_getElem? (i := 59) rfl) rfl
theorem cw_RL_31 : cV RL Y_X11_feed 31 5 := ⟨cb_X11_feed, ml_RL_31, im_X11_feed, se_X11_feed⟩
theorem ml_RX11_159 : Cond.methodLink RX11 159 yX11_takeBytes ∈ lw_g := aw3 (List.mem_of_getElem? (i := 61) rfl) rfl
theorem cb_X11_takeBytes : cB Y_X11_takeBytes 1 := ⟨aw3 (List.mem_of_getElem? (i := 64) rfl) rfl, in_RX11, ⟨by decide +kernel, by decide +kernel, by decide +kernel⟩, by decide⟩
theorem im_X11_takeBytes : Cond.instanceMethod yX11_takeBytes ∈ lw_g := aw3 (List.mem_of_getElem? (i := 63) rfl) rfl
theorem se_X11_takeBytes : Cond.selects RX11 yX11_takeBytes yX11_takeBytes ∈ lw_g := aw0 (List.mem_of_getElem? (i := 2) rfl) rfl
theorem cw_RX11_159 : cV RX11 Y_X11_takeBytes 159 1 := ⟨cb_X11_takeBytes, ml_RX11_159, im_X11_takeBytes, se_X11_takeBytes⟩
theorem ml_RL_36 : Cond.methodLink RL 36 yX11_end ∈ lw_g := aw3 (List.mem_of_getElem? (i := 65) rfl) rfl
theorem cb_X11_end : cB Y_X11_end 1 := ⟨aw3 (List.mem_of_getElem? (i := 68) rfl) rfl, in_RX11, ⟨by decide +kernel, by decide +kernel, by decide +kernel⟩, by decide⟩
theorem im_X11_end : Cond.instanceMethod yX11_end ∈ lw_g := aw3 (List.mem_of_getElem? (i := 66) rfl) rfl
theorem se_X11_end : Cond.selects RX11 yX11_end yX11_end ∈ lw_g := aw3 (List.mem_of_getElem? (i := 67) rfl) rfl
theorem cw_RL_36 : cV RL Y_X11_end 36 1 := ⟨cb_X11_end, ml_RL_36, im_X11_end, se_X11_end⟩
theorem ml_RL_41 : Cond.methodLink RL 41 yX11_row ∈ lw_g := aw3 (List.mem_of_getElem? (i := 69) rfl) rfl
theorem cb_X11_row : cB Y_X11_row 0 := ⟨aw3 (List.mem_of_getElem? (i := 72) rfl) rfl, in_RX11, ⟨by decide +kernel, by decide +kernel, by decide +kernel⟩, by decide⟩
theorem im_X11_row : Cond.instanceMethod yX11_row ∈ lw_g := aw3 (List.mem_of_getElem? (i := 70) rfl) rfl
theorem se_X11_row : Cond.selects RX11 yX11_row yX11_row ∈ lw_g := aw3 (List.mem_of_getElem? (i := 71) rfl) rfl
theorem cw_RL_41 : cV RL Y_X11_row 41 0 := ⟨cb_X11_row, ml_RL_41, im_X11_row, se_X11_row⟩
theorem ml_RL_46 : Cond.methodLink RL 46 yX11_cut ∈ lw_g := aw3 (List.mem_of_getElem? (i := 73) rfl) rfl
theorem cb_X11_cut : cB Y_X11_cut 0 := ⟨aw3 (List.mem_of_getElem? (i := 76) rfl) rfl, in_RX11, ⟨by decide +kernel, by decide +kernel, by decide +kernel⟩, by decide⟩
theorem im_X11_cut : Cond.instanceMethod yX11_cut ∈ lw_g := aw3 (List.mem_of_getElem? (i := 74) rfl) rfl
theorem se_X11_cut : Cond.selects RX11 yX11_cut yX11_cut ∈ lw_g := aw3 (List.mem_of_getElem? (i := 75) rfl) rfl
theorem cw_RL_46 : cV RL Y_X11_cut 46 0 := ⟨cb_X11_cut, ml_RL_46, im_X11_cut, se_X11_cut⟩
theorem ml_RL_50 : Cond.methodLink RL 50 yX11_law ∈ lw_g := aw3 (List.mem_of_getElem? (i := 77) rfl) rfl
theorem cb_X11_law : cB Y_X11_law 0 := ⟨aw3 (List.mem_of_getElem? (i := 80) rfl) rfl, in_RX11, ⟨by decide +kernel, by decide +kernel, by decide +kernel⟩, by decide⟩
theorem im_X11_law : Cond.instanceMethod yX11_law ∈ lw_g := aw3 (List.mem_of_getElem? (i := 78) rfl) rfl
theorem se_X11_law : Cond.selects RX11 yX11_law yX11_law ∈ lw_g := aw3 (List.mem_of_getElem? (i := 79) rfl) rfl
theorem cw_RL_50 : cV RL Y_X11_law 50 0 := ⟨cb_X11_law, ml_RL_50, im_X11_law, se_X11_law⟩
theorem ml_RX11_166 : Cond.methodLink RX11 166 yX7_reads ∈ lw_g := aw3 (List.mem_of_getElem? (i := 81) rfl) rfl
theorem cb_X7_reads : cB Y_X7_reads 2 := ⟨aw3 (List.mem_of_getElem? (i := 84) rfl) rfl, in_RX7, ⟨by decide +kernel, by decide +kernel, by decide +kernel⟩, by decide⟩
theorem im_X7_reads : Cond.instanceMethod yX7_reads ∈ lw_g := aw3 (List.mem_of_getElem? (i := 82) rfl) rfl
theorem se_X7_reads : Cond.selects RX7 yX7_reads yX7_reads ∈ lw_g := aw3 (List.mem_of_getElem? (i := 83) rfl) rfl
theorem cw_RX11_166 : cV RX11 Y_X7_reads 166 2 := ⟨cb_X7_reads, ml_RX11_166, im_X7_reads, se_X7_reads⟩
theorem ml_RX7_27 : Cond.methodLink RX7 27 yX7_split ∈ lw_g := aw3 (List.mem_of_getElem? (i := 85) rfl) rfl
theorem cb_X7_split : cB Y_X7_split 2 := ⟨aw3 (List.mem_of_getElem? (i := 88) rfl) rfl, in_RX7, ⟨by decide +kernel, by decide +kernel, by decide +kernel⟩, by decide⟩
theorem im_X7_split : Cond.instanceMethod yX7_split ∈ lw_g := aw3 (List.mem_of_getElem? (i := 87) rfl) rfl
theorem se_X7_split : Cond.selects RX7 yX7_split yX7_split ∈ lw_g := aw0 (List.mem_of_getElem? (i := 3) rfl) rfl
theorem cw_RX7_27 : cV RX7 Y_X7_split 27 2 := ⟨cb_X7_split, ml_RX7_27, im_X7_split, se_X7_split⟩
theorem ml_RX7_48 : Cond.methodLink RX7 48 yX7_tokenEnd ∈ lw_g := aw3 (List.mem_of_getElem? (i := 89) rfl) rfl
theorem cb_X7_tokenEnd : cB Y_X7_tokenEnd 3 := ⟨aw3 (List.mem_of_getElem? (i := 91) rfl) rfl, in_RX7, ⟨by decide +kernel, by decide +kernel, by decide +kernel⟩, by decide⟩
theorem st_X7_tokenEnd : Cond.static yX7_tokenEnd ∈ lw_g := aw3 (List.mem_of_getElem? (i := 90) rfl) rfl
theorem cw_RX7_48 : cS RX7 Y_X7_tokenEnd 48 3 := ⟨cb_X7_tokenEnd, ml_RX7_48, st_X7_tokenEnd⟩
theorem ml_RX7_52 : Cond.methodLink RX7 52 yX7_kindOf ∈ lw_g := aw3 (List.mem_of_getElem? (i := 92) rfl) rfl
theorem cb_X7_kindOf : cB Y_X7_kindOf 3 := ⟨aw3 (List.mem_of_getElem? (i := 94) rfl) rfl, in_RX7, ⟨by decide +kernel, by decide +kernel, by decide +kernel⟩, by decide⟩
theorem st_X7_kindOf : Cond.static yX7_kindOf ∈ lw_g := aw3 (List.mem_of_getElem? (i := 93) rfl) rfl
theorem cw_RX7_52 : cS RX7 Y_X7_kindOf 52 3 := ⟨cb_X7_kindOf, ml_RX7_52, st_X7_kindOf⟩
theorem ml_RX7_55 : Cond.methodLink RX7 55 yX7_wordOf ∈ lw_g := aw3 (List.mem_of_getElem? (i := 95) rfl) rfl
theorem cb_X7_wordOf : cB Y_X7_wordOf 3 := ⟨aw3 (List.mem_of_getElem? (i := 97) rfl) rfl, in_RX7, ⟨by decide +kernel, by decide +kernel, by decide +kernel⟩, by decide⟩
theorem st_X7_wordOf : Cond.static yX7_wordOf ∈ lw_g := aw3 (List.mem_of_getElem? (i := 96) rfl) rfl
theorem cw_RX7_55 : cS RX7 Y_X7_wordOf 55 3 := ⟨cb_X7_wordOf, ml_RX7_55, st_X7_wordOf⟩
theorem ml_RX7_66 : Cond.methodLink RX7 66 yJ0_length_8abf5 ∈ lw_g := aw3 (List.mem_of_getElem? (i := 99) rfl) rfl
theorem in_RJ0 : Cond.initialized RJ0 ∈ lw_g := aw1 (List.mem_of_getElem? (i := 13) rfl) rfl
theorem cb_J0_length_8abf5 : cB Y_J0_length_8abf5 0 := ⟨aw3 (List.mem_of_getElem? (i := 102) rfl) rfl, in_RJ0, ⟨by decide +kernel, by decide +kernel, by decide +kernel⟩, by decide⟩
theorem im_J0_length_8abf5 : Cond.instanceMethod yJ0_length_8abf5 ∈ lw_g := aw3 (List.mem_of_getElem? (i := 100) rfl) rfl
theorem se_J0_length_8abf5 : Cond.selects RJ0 yJ0_length_8abf5 yJ0_length_8abf5 ∈ lw_g := aw3 (List.mem_of_getElem? (i := 101) rfl) rfl
theorem cw_RX7_66 : cV RX7 Y_J0_length_8abf5 66 0 := ⟨cb_J0_length_8abf5, ml_RX7_66, im_J0_length_8abf5, se_J0_length_8abf5⟩
theorem ml_RJ0_335 : Cond.methodLink RJ0 335 yJ0_coder_7d493 ∈ lw_g := aw3 (List.mem_of_getElem? (i := 103) rfl) rfl
theorem cb_J0_coder_7d493 : cB Y_J0_coder_7d493 0 := ⟨aw3 (List.mem_of_getElem? (i := 106) rfl) rfl, in_RJ0, ⟨by decide +kernel, by decide +kernel, by decide +kernel⟩, by decide⟩
theorem im_J0_coder_7d493 : Cond.instanceMethod yJ0_coder_7d493 ∈ lw_g := aw3 (List.mem_of_getElem? (i := 104) rfl) rfl
theorem se_J0_coder_7d493 : Cond.selects RJ0 yJ0_coder_7d493 yJ0_coder_7d493 ∈ lw_g := aw3 (List.mem_of_getElem? (i := 105) rfl) rfl
theorem cw_RJ0_335 : cV RJ0 Y_J0_coder_7d493 335 0 := ⟨cb_J0_coder_7d493, ml_RJ0_335, im_J0_coder_7d493, se_J0_coder_7d493⟩
theorem ml_RX7_72 : Cond.methodLink RX7 72 yJ0_charAt_5068e ∈ lw_g := aw3 (List.mem_of_getElem? (i := 109) rfl) rfl
theorem cb_J0_charAt_5068e : cB Y_J0_charAt_5068e 1 := ⟨aw3 (List.mem_of_getElem? (i := 112) rfl) rfl, in_RJ0, ⟨by decide +kernel, by decide +kernel, by decide +kernel⟩, by decide⟩
theorem im_J0_charAt_5068e : Cond.instanceMethod yJ0_charAt_5068e ∈ lw_g := aw3 (List.mem_of_getElem? (i := 110) rfl) rfl
theorem se_J0_charAt_5068e : Cond.selects RJ0 yJ0_charAt_5068e yJ0_charAt_5068e ∈ lw_g := aw3 (List.mem_of_getElem? (i := 111) rfl) rfl
theorem cw_RX7_72 : cV RX7 Y_J0_charAt_5068e 72 1 := ⟨cb_J0_charAt_5068e, ml_RX7_72, im_J0_charAt_5068e, se_J0_charAt_5068e⟩
theorem ml_RJ0_492 : Cond.methodLink RJ0 492 yJ0_isLatin1_aae02 ∈ lw_g := aw3 (List.mem_of_getElem? (i := 113) rfl) rfl
theorem cb_J0_isLatin1_aae02 : cB Y_J0_isLatin1_aae02 0 := ⟨aw3 (List.mem_of_getElem? (i := 116) rfl) rfl, in_RJ0, ⟨by decide +kernel, by decide +kernel, by decide +kernel⟩, by decide⟩
theorem im_J0_isLatin1_aae02 : Cond.instanceMethod yJ0_isLatin1_aae02 ∈ lw_g := aw3 (List.mem_of_getElem? (i := 114) rfl) rfl
theorem se_J0_isLatin1_aae02 : Cond.selects RJ0 yJ0_isLatin1_aae02 yJ0_isLatin1_aae02 ∈ lw_g := aw3 (List.mem_of_getElem? (i := 115) rfl) rfl
theorem cw_RJ0_492 : cV RJ0 Y_J0_isLatin1_aae02 492 0 := ⟨cb_J0_isLatin1_aae02, ml_RJ0_492, im_J0_isLatin1_aae02, se_J0_isLatin1_aae02⟩
theorem ml_RJ0_495 : Cond.methodLink RJ0 495 yJ1_charAt_3b067 ∈ lw_g := aw3 (List.mem_of_getElem? (i := 117) rfl) rfl
theorem in_RJ1 : Cond.initialized RJ1 ∈ lw_g := aw1 (List.mem_of_getElem? (i := 14) rfl) rfl
theorem cb_J1_charAt_3b067 : cB Y_J1_charAt_3b067 2 := ⟨aw3 (List.mem_of_getElem? (i := 119) rfl) rfl, in_RJ1, ⟨by decide +kernel, by decide +kernel, by decide +kernel⟩, by decide⟩
theorem st_J1_charAt_3b067 : Cond.static yJ1_charAt_3b067 ∈ lw_g := aw3 (List.mem_of_getElem? (i := 118) rfl) rfl
theorem cw_RJ0_495 : cS RJ0 Y_J1_charAt_3b067 495 2 := ⟨cb_J1_charAt_3b067, ml_RJ0_495, st_J1_charAt_3b067⟩
theorem ml_RJ1_9 : Cond.methodLink RJ1 9 yJ0_checkIndex_df160 ∈ lw_g := aw3 (List.mem_of_getElem? (i := 120) rfl) rfl
theorem cb_J0_checkIndex_df160 : cB Y_J0_checkIndex_df160 2 := ⟨aw3 (List.mem_of_getElem? (i := 122) rfl) rfl, in_RJ0, ⟨by decide +kernel, by decide +kernel, by decide +kernel⟩, by decide⟩
theorem st_J0_checkIndex_df160 : Cond.static yJ0_checkIndex_df160 ∈ lw_g := aw3 (List.mem_of_getElem? (i := 121) rfl) rfl
theorem cw_RJ1_9 : cS RJ1 Y_J0_checkIndex_df160 9 2 := ⟨cb_J0_checkIndex_df160, ml_RJ1_9, st_J0_checkIndex_df160⟩
theorem ml_RJ0_1059 : Cond.methodLink RJ0 1059 yJ3_checkIndex_8e157 ∈ lw_g := aw3 (List.mem_of_getElem? (i := 125) rfl) rfl
theorem in_RJ3 : Cond.initialized RJ3 ∈ lw_g := aw1 (List.mem_of_getElem? (i := 15) rfl) rfl
theorem cb_J3_checkIndex_8e157 : cB Y_J3_checkIndex_8e157 3 := ⟨aw3 (List.mem_of_getElem? (i := 127) rfl) rfl, in_RJ3, ⟨by decide +kernel, by decide +kernel, by decide +kernel⟩, by decide⟩
theorem st_J3_checkIndex_8e157 : Cond.static yJ3_checkIndex_8e157 ∈ lw_g := aw3 (List.mem_of_getElem? (i := 126) rfl) rfl
theorem cw_RJ0_1059 : cS RJ0 Y_J3_checkIndex_8e157 1059 3 := ⟨cb_J3_checkIndex_8e157, ml_RJ0_1059, st_J3_checkIndex_8e157⟩
theorem ml_RJ0_498 : Cond.methodLink RJ0 498 yJ2_charAt_3b067 ∈ lw_g := aw3 (List.mem_of_getElem? (i := 128) rfl) rfl
theorem in_RJ2 : Cond.initialized RJ2 ∈ lw_g := aw1 (List.mem_of_getElem? (i := 16) rfl) rfl
theorem cb_J2_charAt_3b067 : cB Y_J2_charAt_3b067 2 := ⟨aw3 (List.mem_of_getElem? (i := 130) rfl) rfl, in_RJ2, ⟨by decide +kernel, by decide +kernel, by decide +kernel⟩, by decide⟩
theorem st_J2_charAt_3b067 : Cond.static yJ2_charAt_3b067 ∈ lw_g := aw3 (List.mem_of_getElem? (i := 129) rfl) rfl
theorem cw_RJ0_498 : cS RJ0 Y_J2_charAt_3b067 498 2 := ⟨cb_J2_charAt_3b067, ml_RJ0_498, st_J2_charAt_3b067⟩
theorem ml_RJ2_67 : Cond.methodLink RJ2 67 yJ2_checkIndex_2214a ∈ lw_g := aw3 (List.mem_of_getElem? (i := 131) rfl) rfl
theorem cb_J2_checkIndex_2214a : cB Y_J2_checkIndex_2214a 2 := ⟨aw3 (List.mem_of_getElem? (i := 133) rfl) rfl, in_RJ2, ⟨by decide +kernel, by decide +kernel, by decide +kernel⟩, by decide⟩
theorem st_J2_checkIndex_2214a : Cond.static yJ2_checkIndex_2214a ∈ lw_g := aw3 (List.mem_of_getElem? (i := 132) rfl) rfl
theorem cw_RJ2_67 : cS RJ2 Y_J2_checkIndex_2214a 67 2 := ⟨cb_J2_checkIndex_2214a, ml_RJ2_67, st_J2_checkIndex_2214a⟩
theorem ml_RJ2_48 : Cond.methodLink RJ2 48 yJ2_length_9d52b ∈ lw_g := aw3 (List.mem_of_getElem? (i := 134) rfl) rfl
theorem cb_J2_length_9d52b : cB Y_J2_length_9d52b 1 := ⟨aw3 (List.mem_of_getElem? (i := 136) rfl) rfl, in_RJ2, ⟨by decide +kernel, by decide +kernel, by decide +kernel⟩, by decide⟩
theorem st_J2_length_9d52b : Cond.static yJ2_length_9d52b ∈ lw_g := aw3 (List.mem_of_getElem? (i := 135) rfl) rfl
theorem cw_RJ2_48 : cS RJ2 Y_J2_length_9d52b 48 1 := ⟨cb_J2_length_9d52b, ml_RJ2_48, st_J2_length_9d52b⟩
theorem ml_RJ2_414 : Cond.methodLink RJ2 414 yJ0_checkIndex_df160 ∈ lw_g := aw3 (List.mem_of_getElem? (i := 137) rfl) rfl
theorem cw_RJ2_414 : cS RJ2 Y_J0_checkIndex_df160 414 2 := ⟨cb_J0_checkIndex_df160, ml_RJ2_414, st_J0_checkIndex_df160⟩
theorem ml_RJ2_71 : Cond.methodLink RJ2 71 yJ2_getChar_3b067 ∈ lw_g := aw3 (List.mem_of_getElem? (i := 138) rfl) rfl
theorem cb_J2_getChar_3b067 : cB Y_J2_getChar_3b067 2 := ⟨aw3 (List.mem_of_getElem? (i := 140) rfl) rfl, in_RJ2, ⟨by decide +kernel, by decide +kernel, by decide +kernel⟩, by decide⟩
theorem st_J2_getChar_3b067 : Cond.static yJ2_getChar_3b067 ∈ lw_g := aw3 (List.mem_of_getElem? (i := 139) rfl) rfl
theorem cw_RJ2_71 : cS RJ2 Y_J2_getChar_3b067 71 2 := ⟨cb_J2_getChar_3b067, ml_RJ2_71, st_J2_getChar_3b067⟩
theorem ml_RX7_58 : Cond.methodLink RX7 58 yJ9_min_7cf53 ∈ lw_g := aw3 (List.mem_of_getElem? (i := 147) rfl) rfl
theorem in_RJ9 : Cond.initialized RJ9 ∈ lw_g := aw1 (List.mem_of_getElem? (i := 17) rfl) rfl
theorem cb_J9_min_7cf53 : cB Y_J9_min_7cf53 2 := ⟨aw3 (List.mem_of_getElem? (i := 149) rfl) rfl, in_RJ9, ⟨by decide +kernel, by decide +kernel, by decide +kernel⟩, by decide⟩
theorem st_J9_min_7cf53 : Cond.static yJ9_min_7cf53 ∈ lw_g := aw3 (List.mem_of_getElem? (i := 148) rfl) rfl
theorem cw_RX7_58 : cS RX7 Y_J9_min_7cf53 58 2 := ⟨cb_J9_min_7cf53, ml_RX7_58, st_J9_min_7cf53⟩
theorem ml_RX7_44 : Cond.methodLink RX7 44 yX7_clause ∈ lw_g := aw3 (List.mem_of_getElem? (i := 150) rfl) rfl
theorem cb_X7_clause : cB Y_X7_clause 0 := ⟨aw3 (List.mem_of_getElem? (i := 153) rfl) rfl, in_RX7, ⟨by decide +kernel, by decide +kernel, by decide +kernel⟩, by decide⟩
theorem im_X7_clause : Cond.instanceMethod yX7_clause ∈ lw_g := aw3 (List.mem_of_getElem? (i := 152) rfl) rfl
theorem se_X7_clause : Cond.selects RX7 yX7_clause yX7_clause ∈ lw_g := aw0 (List.mem_of_getElem? (i := 4) rfl) rfl
theorem cw_RX7_44 : cV RX7 Y_X7_clause 44 0 := ⟨cb_X7_clause, ml_RX7_44, im_X7_clause, se_X7_clause⟩
theorem ml_RX7_76 : Cond.methodLink RX7 76 yX7_sums ∈ lw_g := aw3 (List.mem_of_getElem? (i := 154) rfl) rfl
theorem cb_X7_sums : cB Y_X7_sums 2 := ⟨aw3 (List.mem_of_getElem? (i := 157) rfl) rfl, in_RX7, ⟨by decide +kernel, by decide +kernel, by decide +kernel⟩, by decide⟩
theorem im_X7_sums : Cond.instanceMethod yX7_sums ∈ lw_g := aw3 (List.mem_of_getElem? (i := 156) rfl) rfl
theorem se_X7_sums : Cond.selects RX7 yX7_sums yX7_sums ∈ lw_g := aw0 (List.mem_of_getElem? (i := 5) rfl) rfl
theorem cw_RX7_76 : cV RX7 Y_X7_sums 76 2 := ⟨cb_X7_sums, ml_RX7_76, im_X7_sums, se_X7_sums⟩
theorem ml_RX7_93 : Cond.methodLink RX7 93 yX7_part ∈ lw_g := aw3 (List.mem_of_getElem? (i := 158) rfl) rfl
theorem cb_X7_part : cB Y_X7_part 1 := ⟨aw3 (List.mem_of_getElem? (i := 161) rfl) rfl, in_RX7, ⟨by decide +kernel, by decide +kernel, by decide +kernel⟩, by decide⟩
theorem im_X7_part : Cond.instanceMethod yX7_part ∈ lw_g := aw3 (List.mem_of_getElem? (i := 160) rfl) rfl
theorem se_X7_part : Cond.selects RX7 yX7_part yX7_part ∈ lw_g := aw0 (List.mem_of_getElem? (i := 6) rfl) rfl
theorem cw_RX7_93 : cV RX7 Y_X7_part 93 1 := ⟨cb_X7_part, ml_RX7_93, im_X7_part, se_X7_part⟩
theorem ml_RX7_89 : Cond.methodLink RX7 89 yX7_emit ∈ lw_g := aw3 (List.mem_of_getElem? (i := 162) rfl) rfl
theorem cb_X7_emit : cB Y_X7_emit 2 := ⟨aw3 (List.mem_of_getElem? (i := 165) rfl) rfl, in_RX7, ⟨by decide +kernel, by decide +kernel, by decide +kernel⟩, by decide⟩
theorem im_X7_emit : Cond.instanceMethod yX7_emit ∈ lw_g := aw3 (List.mem_of_getElem? (i := 164) rfl) rfl
theorem se_X7_emit : Cond.selects RX7 yX7_emit yX7_emit ∈ lw_g := aw0 (List.mem_of_getElem? (i := 7) rfl) rfl
theorem cw_RX7_89 : cV RX7 Y_X7_emit 89 2 := ⟨cb_X7_emit, ml_RX7_89, im_X7_emit, se_X7_emit⟩
theorem ml_RX7_80 : Cond.methodLink RX7 80 yX7_tests ∈ lw_g := aw3 (List.mem_of_getElem? (i := 166) rfl) rfl
theorem cb_X7_tests : cB Y_X7_tests 2 := ⟨aw3 (List.mem_of_getElem? (i := 169) rfl) rfl, in_RX7, ⟨by decide +kernel, by decide +kernel, by decide +kernel⟩, by decide⟩
theorem im_X7_tests : Cond.instanceMethod yX7_tests ∈ lw_g := aw3 (List.mem_of_getElem? (i := 168) rfl) rfl
theorem se_X7_tests : Cond.selects RX7 yX7_tests yX7_tests ∈ lw_g := aw0 (List.mem_of_getElem? (i := 8) rfl) rfl
theorem cw_RX7_80 : cV RX7 Y_X7_tests 80 2 := ⟨cb_X7_tests, ml_RX7_80, im_X7_tests, se_X7_tests⟩
theorem ml_RX7_83 : Cond.methodLink RX7 83 yX7_plain ∈ lw_g := aw3 (List.mem_of_getElem? (i := 170) rfl) rfl
theorem cb_X7_plain : cB Y_X7_plain 1 := ⟨aw3 (List.mem_of_getElem? (i := 173) rfl) rfl, in_RX7, ⟨by decide +kernel, by decide +kernel, by decide +kernel⟩, by decide⟩
theorem im_X7_plain : Cond.instanceMethod yX7_plain ∈ lw_g := aw3 (List.mem_of_getElem? (i := 172) rfl) rfl
theorem se_X7_plain : Cond.selects RX7 yX7_plain yX7_plain ∈ lw_g := aw0 (List.mem_of_getElem? (i := 9) rfl) rfl
theorem cw_RX7_83 : cV RX7 Y_X7_plain 83 1 := ⟨cb_X7_plain, ml_RX7_83, im_X7_plain, se_X7_plain⟩
theorem ml_RX11_176 : Cond.methodLink RX11 176 yX5_init ∈ lw_g := aw3 (List.mem_of_getElem? (i := 176) rfl) rfl
theorem cb_X5_init : cB Y_X5_init 1 := ⟨aw3 (List.mem_of_getElem? (i := 178) rfl) rfl, in_RX5, ⟨by decide +kernel, by decide +kernel, by decide +kernel⟩, by decide⟩
theorem im_X5_init : Cond.instanceMethod yX5_init ∈ lw_g := aw3 (List.mem_of_getElem? (i := 177) rfl) rfl
theorem cw_RX11_176 : cI RX11 Y_X5_init 176 1 := ⟨cb_X5_init, ml_RX11_176, im_X5_init, rfl, rfl⟩
theorem ml_RX5_1 : Cond.methodLink RX5 1 (⟨"java/lang/Object", "<init>", "()V"⟩ : MethodName) ∈ lw_g := aw3 (List.mem_of_getElem? (i := 179) rfl) rfl
theorem ml_RX5_20 : Cond.methodLink RX5 20 yJ7_copyOf_59c91 ∈ lw_g := aw3 (List.mem_of_getElem? (i := 180) rfl) rfl
theorem in_RJ7 : Cond.initialized RJ7 ∈ lw_g := aw1 (List.mem_of_getElem? (i := 19) rfl) rfl
theorem cb_J7_copyOf_59c91 : cB Y_J7_copyOf_59c91 2 := ⟨aw3 (List.mem_of_getElem? (i := 182) rfl) rfl, in_RJ7, ⟨by decide +kernel, by decide +kernel, by decide +kernel⟩, by decide⟩
theorem st_J7_copyOf_59c91 : Cond.static yJ7_copyOf_59c91 ∈ lw_g := aw3 (List.mem_of_getElem? (i := 181) rfl) rfl
theorem cw_RX5_20 : cS RX5 Y_J7_copyOf_59c91 20 2 := ⟨cb_J7_copyOf_59c91, ml_RX5_20, st_J7_copyOf_59c91⟩
theorem ml_RJ7_316 : Cond.methodLink RJ7 316 (⟨"[I", "clone", "()Ljava/lang/Object;"⟩ : MethodName) ∈ lw_g := aw3 (List.mem_of_getElem? (i := 183) rfl) rfl
theorem ml_RJ7_304 : Cond.methodLink RJ7 304 yJ9_min_7cf53 ∈ lw_g := aw3 (List.mem_of_getElem? (i := 190) rfl) rfl
theorem cw_RJ7_304 : cS RJ7 Y_J9_min_7cf53 304 2 := ⟨cb_J9_min_7cf53, ml_RJ7_304, st_J9_min_7cf53⟩
theorem ml_RJ7_150 : Cond.methodLink RJ7 150 (⟨"java/lang/System", "arraycopy", "(Ljava/lang/Object;ILjava/lang/Object;II)V"⟩ : MethodName) ∈ lw_g := aw3 (List.mem_of_getElem? (i := 191) rfl) rfl
theorem ml_RL_54 : Cond.methodLink RL 54 yX11_fault ∈ lw_g := aw3 (List.mem_of_getElem? (i := 212) rfl) rfl
theorem cb_X11_fault : cB Y_X11_fault 0 := ⟨aw3 (List.mem_of_getElem? (i := 215) rfl) rfl, in_RX11, ⟨by decide +kernel, by decide +kernel, by decide +kernel⟩, by decide⟩
theorem im_X11_fault : Cond.instanceMethod yX11_fault ∈ lw_g := aw3 (List.mem_of_getElem? (i := 213) rfl) rfl
theorem se_X11_fault : Cond.selects RX11 yX11_fault yX11_fault ∈ lw_g := aw3 (List.mem_of_getElem? (i := 214) rfl) rfl
theorem cw_RL_54 : cV RL Y_X11_fault 54 0 := ⟨cb_X11_fault, ml_RL_54, im_X11_fault, se_X11_fault⟩
theorem ml_RL_58 : Cond.methodLink RL 58 yX11_force ∈ lw_g := aw3 (List.mem_of_getElem? (i := 216) rfl) rfl
theorem cb_X11_force : cB Y_X11_force 1 := ⟨aw3 (List.mem_of_getElem? (i := 219) rfl) rfl, in_RX11, ⟨by decide +kernel, by decide +kernel, by decide +kernel⟩, by decide⟩
theorem im_X11_force : Cond.instanceMethod yX11_force ∈ lw_g := aw3 (List.mem_of_getElem? (i := 217) rfl) rfl
theorem se_X11_force : Cond.selects RX11 yX11_force yX11_force ∈ lw_g := aw3 (List.mem_of_getElem? (i := 218) rfl) rfl
theorem cw_RL_58 : cV RL Y_X11_force 58 1 := ⟨cb_X11_force, ml_RL_58, im_X11_force, se_X11_force⟩
theorem ml_RL_62 : Cond.methodLink RL 62 yX11_asks ∈ lw_g := aw3 (List.mem_of_getElem? (i := 220) rfl) rfl
theorem cb_X11_asks : cB Y_X11_asks 8 := ⟨aw3 (List.mem_of_getElem? (i := 223) rfl) rfl, in_RX11, ⟨by decide +kernel, by decide +kernel, by decide +kernel⟩, by decide⟩
theorem im_X11_asks : Cond.instanceMethod yX11_asks ∈ lw_g := aw3 (List.mem_of_getElem? (i := 221) rfl) rfl
theorem se_X11_asks : Cond.selects RX11 yX11_asks yX11_asks ∈ lw_g := aw3 (List.mem_of_getElem? (i := 222) rfl) rfl
theorem cw_RL_62 : cV RL Y_X11_asks 62 8 := ⟨cb_X11_asks, ml_RL_62, im_X11_asks, se_X11_asks⟩
theorem ml_RX11_182 : Cond.methodLink RX11 182 yX11_isCrowd ∈ lw_g := aw3 (List.mem_of_getElem? (i := 224) rfl) rfl
theorem cb_X11_isCrowd : cB Y_X11_isCrowd 2 := ⟨aw3 (List.mem_of_getElem? (i := 226) rfl) rfl, in_RX11, ⟨by decide +kernel, by decide +kernel, by decide +kernel⟩, by decide⟩
theorem st_X11_isCrowd : Cond.static yX11_isCrowd ∈ lw_g := aw3 (List.mem_of_getElem? (i := 225) rfl) rfl
theorem cw_RX11_182 : cS RX11 Y_X11_isCrowd 182 2 := ⟨cb_X11_isCrowd, ml_RX11_182, st_X11_isCrowd⟩
theorem ml_RX11_185 : Cond.methodLink RX11 185 yX0_about ∈ lw_g := aw3 (List.mem_of_getElem? (i := 227) rfl) rfl
theorem cb_X0_about : cB Y_X0_about 7 := ⟨aw3 (List.mem_of_getElem? (i := 230) rfl) rfl, in_RX0, ⟨by decide +kernel, by decide +kernel, by decide +kernel⟩, by decide⟩
theorem im_X0_about : Cond.instanceMethod yX0_about ∈ lw_g := aw3 (List.mem_of_getElem? (i := 228) rfl) rfl
theorem se_X0_about : Cond.selects RX0 yX0_about yX0_about ∈ lw_g := aw3 (List.mem_of_getElem? (i := 229) rfl) rfl
theorem cw_RX11_185 : cV RX11 Y_X0_about 185 7 := ⟨cb_X0_about, ml_RX11_185, im_X0_about, se_X0_about⟩
theorem ml_RX11_189 : Cond.methodLink RX11 189 yX0_tells ∈ lw_g := aw3 (List.mem_of_getElem? (i := 231) rfl) rfl
theorem cb_X0_tells : cB Y_X0_tells 1 := ⟨aw3 (List.mem_of_getElem? (i := 234) rfl) rfl, in_RX0, ⟨by decide +kernel, by decide +kernel, by decide +kernel⟩, by decide⟩
theorem im_X0_tells : Cond.instanceMethod yX0_tells ∈ lw_g := aw3 (List.mem_of_getElem? (i := 232) rfl) rfl
theorem se_X0_tells : Cond.selects RX0 yX0_tells yX0_tells ∈ lw_g := aw3 (List.mem_of_getElem? (i := 233) rfl) rfl
theorem cw_RX11_189 : cV RX11 Y_X0_tells 189 1 := ⟨cb_X0_tells, ml_RX11_189, im_X0_tells, se_X0_tells⟩
theorem ml_RX0_23 : Cond.methodLink RX0 23 yX4_lawInForce ∈ lw_g := aw3 (List.mem_of_getElem? (i := 235) rfl) rfl
theorem cb_X4_lawInForce : cB Y_X4_lawInForce 0 := ⟨aw3 (List.mem_of_getElem? (i := 238) rfl) rfl, in_RX4, ⟨by decide +kernel, by decide +kernel, by decide +kernel⟩, by decide⟩
theorem im_X4_lawInForce : Cond.instanceMethod yX4_lawInForce ∈ lw_g := aw3 (List.mem_of_getElem? (i := 236) rfl) rfl
theorem se_X4_lawInForce : Cond.selects RX4 yX4_lawInForce yX4_lawInForce ∈ lw_g := aw3 (List.mem_of_getElem? (i := 237) rfl) rfl
theorem cw_RX0_23 : cV RX0 Y_X4_lawInForce 23 0 := ⟨cb_X4_lawInForce, ml_RX0_23, im_X4_lawInForce, se_X4_lawInForce⟩
theorem ml_RX0_44 : Cond.methodLink RX0 44 yX0_holds ∈ lw_g := aw3 (List.mem_of_getElem? (i := 239) rfl) rfl
theorem cb_X0_holds : cB Y_X0_holds 3 := ⟨aw4 (List.mem_of_getElem? (i := 2) rfl) rfl, in_RX0, ⟨by decide +kernel, by decide +kernel, by decide +kernel⟩, by decide⟩
theorem im_X0_holds : Cond.instanceMethod yX0_holds ∈ lw_g := aw4 (List.mem_of_getElem? (i := 1) rfl) rfl
theorem se_X0_holds : Cond.selects RX0 yX0_holds yX0_holds ∈ lw_g := aw0 (List.mem_of_getElem? (i := 10) rfl) rfl
theorem cw_RX0_44 : cV RX0 Y_X0_holds 44 3 := ⟨cb_X0_holds, ml_RX0_44, im_X0_holds, se_X0_holds⟩
theorem ml_RX0_57 : Cond.methodLink RX0 57 yX0_joined ∈ lw_g := aw4 (List.mem_of_getElem? (i := 3) rfl) rfl
theorem cb_X0_joined : cB Y_X0_joined 3 := ⟨aw4 (List.mem_of_getElem? (i := 5) rfl) rfl, in_RX0, ⟨by decide +kernel, by decide +kernel, by decide +kernel⟩, by decide⟩
theorem st_X0_joined : Cond.static yX0_joined ∈ lw_g := aw4 (List.mem_of_getElem? (i := 4) rfl) rfl
theorem cw_RX0_57 : cS RX0 Y_X0_joined 57 3 := ⟨cb_X0_joined, ml_RX0_57, st_X0_joined⟩
theorem ml_RX0_48 : Cond.methodLink RX0 48 yJ9_min_f86c9 ∈ lw_g := aw4 (List.mem_of_getElem? (i := 8) rfl) rfl
theorem cb_J9_min_f86c9 : cB Y_J9_min_f86c9 2 := ⟨aw4 (List.mem_of_getElem? (i := 10) rfl) rfl, in_RJ9, ⟨by decide +kernel, by decide +kernel, by decide +kernel⟩, by decide⟩
theorem st_J9_min_f86c9 : Cond.static yJ9_min_f86c9 ∈ lw_g := aw4 (List.mem_of_getElem? (i := 9) rfl) rfl
theorem cw_RX0_48 : cS RX0 Y_J9_min_f86c9 48 2 := ⟨cb_J9_min_f86c9, ml_RX0_48, st_J9_min_f86c9⟩
theorem ml_RX0_54 : Cond.methodLink RX0 54 yJ9_max_f86c9 ∈ lw_g := aw4 (List.mem_of_getElem? (i := 11) rfl) rfl
theorem cb_J9_max_f86c9 : cB Y_J9_max_f86c9 2 := ⟨aw4 (List.mem_of_getElem? (i := 13) rfl) rfl, in_RJ9, ⟨by decide +kernel, by decide +kernel, by decide +kernel⟩, by decide⟩
theorem st_J9_max_f86c9 : Cond.static yJ9_max_f86c9 ∈ lw_g := aw4 (List.mem_of_getElem? (i := 12) rfl) rfl
theorem cw_RX0_54 : cS RX0 Y_J9_max_f86c9 54 2 := ⟨cb_J9_max_f86c9, ml_RX0_54, st_J9_max_f86c9⟩
theorem ml_RL_67 : Cond.methodLink RL 67 yX11_can ∈ lw_g := aw4 (List.mem_of_getElem? (i := 14) rfl) rfl
theorem cb_X11_can : cB Y_X11_can 1 := ⟨aw4 (List.mem_of_getElem? (i := 17) rfl) rfl, in_RX11, ⟨by decide +kernel, by decide +kernel, by decide +kernel⟩, by decide⟩
theorem im_X11_can : Cond.instanceMethod yX11_can ∈ lw_g := aw4 (List.mem_of_getElem? (i := 15) rfl) rfl
theorem se_X11_can : Cond.selects RX11 yX11_can yX11_can ∈ lw_g := aw4 (List.mem_of_getElem? (i := 16) rfl) rfl
theorem cw_RL_67 : cV RL Y_X11_can 67 1 := ⟨cb_X11_can, ml_RL_67, im_X11_can, se_X11_can⟩
theorem ml_RX11_192 : Cond.methodLink RX11 192 yX4_isSet ∈ lw_g := aw4 (List.mem_of_getElem? (i := 18) rfl) rfl
theorem cb_X4_isSet : cB Y_X4_isSet 1 := ⟨aw4 (List.mem_of_getElem? (i := 21) rfl) rfl, in_RX4, ⟨by decide +kernel, by decide +kernel, by decide +kernel⟩, by decide⟩
theorem im_X4_isSet : Cond.instanceMethod yX4_isSet ∈ lw_g := aw4 (List.mem_of_getElem? (i := 19) rfl) rfl
theorem se_X4_isSet : Cond.selects RX4 yX4_isSet yX4_isSet ∈ lw_g := aw4 (List.mem_of_getElem? (i := 20) rfl) rfl
theorem cw_RX11_192 : cV RX11 Y_X4_isSet 192 1 := ⟨cb_X4_isSet, ml_RX11_192, im_X4_isSet, se_X4_isSet⟩
theorem ml_RX11_195 : Cond.methodLink RX11 195 yX4_open ∈ lw_g := aw4 (List.mem_of_getElem? (i := 22) rfl) rfl
theorem cb_X4_open : cB Y_X4_open 1 := ⟨aw4 (List.mem_of_getElem? (i := 25) rfl) rfl, in_RX4, ⟨by decide +kernel, by decide +kernel, by decide +kernel⟩, by decide⟩
theorem im_X4_open : Cond.instanceMethod yX4_open ∈ lw_g := aw4 (List.mem_of_getElem? (i := 23) rfl) rfl
theorem se_X4_open : Cond.selects RX4 yX4_open yX4_open ∈ lw_g := aw4 (List.mem_of_getElem? (i := 24) rfl) rfl
theorem cw_RX11_195 : cV RX11 Y_X4_open 195 1 := ⟨cb_X4_open, ml_RX11_195, im_X4_open, se_X4_open⟩
theorem ml_RX4_85 : Cond.methodLink RX4 85 yX4_endWithin ∈ lw_g := aw4 (List.mem_of_getElem? (i := 26) rfl) rfl
theorem cb_X4_endWithin : cB Y_X4_endWithin 1 := ⟨aw4 (List.mem_of_getElem? (i := 29) rfl) rfl, in_RX4, ⟨by decide +kernel, by decide +kernel, by decide +kernel⟩, by decide⟩
theorem im_X4_endWithin : Cond.instanceMethod yX4_endWithin ∈ lw_g := aw4 (List.mem_of_getElem? (i := 27) rfl) rfl
theorem se_X4_endWithin : Cond.selects RX4 yX4_endWithin yX4_endWithin ∈ lw_g := aw4 (List.mem_of_getElem? (i := 28) rfl) rfl
theorem cw_RX4_85 : cV RX4 Y_X4_endWithin 85 1 := ⟨cb_X4_endWithin, ml_RX4_85, im_X4_endWithin, se_X4_endWithin⟩
theorem ml_RX4_81 : Cond.methodLink RX4 81 yX4_isEnd ∈ lw_g := aw4 (List.mem_of_getElem? (i := 30) rfl) rfl
theorem cb_X4_isEnd : cB Y_X4_isEnd 1 := ⟨aw4 (List.mem_of_getElem? (i := 33) rfl) rfl, in_RX4, ⟨by decide +kernel, by decide +kernel, by decide +kernel⟩, by decide⟩
theorem im_X4_isEnd : Cond.instanceMethod yX4_isEnd ∈ lw_g := aw4 (List.mem_of_getElem? (i := 31) rfl) rfl
theorem se_X4_isEnd : Cond.selects RX4 yX4_isEnd yX4_isEnd ∈ lw_g := aw4 (List.mem_of_getElem? (i := 32) rfl) rfl
theorem cw_RX4_81 : cV RX4 Y_X4_isEnd 81 1 := ⟨cb_X4_isEnd, ml_RX4_81, im_X4_isEnd, se_X4_isEnd⟩
theorem ml_RX4_88 : Cond.methodLink RX4 88 yX4_minutesOf ∈ lw_g := aw4 (List.mem_of_getElem? (i := 34) rfl) rfl
theorem cb_X4_minutesOf : cB Y_X4_minutesOf 1 := ⟨aw4 (List.mem_of_getElem? (i := 37) rfl) rfl, in_RX4, ⟨by decide +kernel, by decide +kernel, by decide +kernel⟩, by decide⟩
theorem im_X4_minutesOf : Cond.instanceMethod yX4_minutesOf ∈ lw_g := aw4 (List.mem_of_getElem? (i := 35) rfl) rfl
theorem se_X4_minutesOf : Cond.selects RX4 yX4_minutesOf yX4_minutesOf ∈ lw_g := aw4 (List.mem_of_getElem? (i := 36) rfl) rfl
theorem cw_RX4_88 : cV RX4 Y_X4_minutesOf 88 1 := ⟨cb_X4_minutesOf, ml_RX4_88, im_X4_minutesOf, se_X4_minutesOf⟩
theorem ml_RL_71 : Cond.methodLink RL 71 yX11_book ∈ lw_g := aw4 (List.mem_of_getElem? (i := 38) rfl) rfl
theorem cb_X11_book : cB Y_X11_book 1 := ⟨aw4 (List.mem_of_getElem? (i := 41) rfl) rfl, in_RX11, ⟨by decide +kernel, by decide +kernel, by decide +kernel⟩, by decide⟩
theorem im_X11_book : Cond.instanceMethod yX11_book ∈ lw_g := aw4 (List.mem_of_getElem? (i := 39) rfl) rfl
theorem se_X11_book : Cond.selects RX11 yX11_book yX11_book ∈ lw_g := aw4 (List.mem_of_getElem? (i := 40) rfl) rfl
theorem cw_RL_71 : cV RL Y_X11_book 71 1 := ⟨cb_X11_book, ml_RL_71, im_X11_book, se_X11_book⟩
theorem ml_RX11_198 : Cond.methodLink RX11 198 yX4_booked ∈ lw_g := aw4 (List.mem_of_getElem? (i := 42) rfl) rfl
theorem cb_X4_booked : cB Y_X4_booked 1 := ⟨aw4 (List.mem_of_getElem? (i := 45) rfl) rfl, in_RX4, ⟨by decide +kernel, by decide +kernel, by decide +kernel⟩, by decide⟩
theorem im_X4_booked : Cond.instanceMethod yX4_booked ∈ lw_g := aw4 (List.mem_of_getElem? (i := 43) rfl) rfl
theorem se_X4_booked : Cond.selects RX4 yX4_booked yX4_booked ∈ lw_g := aw4 (List.mem_of_getElem? (i := 44) rfl) rfl
theorem cw_RX11_198 : cV RX11 Y_X4_booked 198 1 := ⟨cb_X4_booked, ml_RX11_198, im_X4_booked, se_X4_booked⟩
theorem ml_RX11_207 : Cond.methodLink RX11 207 yX6_bookChanged ∈ lw_g := aw4 (List.mem_of_getElem? (i := 46) rfl) rfl
theorem cb_X6_bookChanged : cB Y_X6_bookChanged 0 := ⟨aw4 (List.mem_of_getElem? (i := 49) rfl) rfl, in_RX6, ⟨by decide +kernel, by decide +kernel, by decide +kernel⟩, by decide⟩
theorem im_X6_bookChanged : Cond.instanceMethod yX6_bookChanged ∈ lw_g := aw4 (List.mem_of_getElem? (i := 47) rfl) rfl
theorem se_X6_bookChanged : Cond.selects RX6 yX6_bookChanged yX6_bookChanged ∈ lw_g := aw4 (List.mem_of_getElem? (i := 48) rfl) rfl
theorem cw_RX11_207 : cV RX11 Y_X6_bookChanged 207 0 := ⟨cb_X6_bookChanged, ml_RX11_207, im_X6_bookChanged, se_X6_bookChanged⟩
theorem ml_RL_75 : Cond.methodLink RL 75 yX11_tear ∈ lw_g := aw4 (List.mem_of_getElem? (i := 50) rfl) rfl
theorem cb_X11_tear : cB Y_X11_tear 0 := ⟨aw4 (List.mem_of_getElem? (i := 53) rfl) rfl, in_RX11, ⟨by decide +kernel, by decide +kernel, by decide +kernel⟩, by decide⟩
theorem im_X11_tear : Cond.instanceMethod yX11_tear ∈ lw_g := aw4 (List.mem_of_getElem? (i := 51) rfl) rfl
theorem se_X11_tear : Cond.selects RX11 yX11_tear yX11_tear ∈ lw_g := aw4 (List.mem_of_getElem? (i := 52) rfl) rfl
theorem cw_RL_75 : cV RL Y_X11_tear 75 0 := ⟨cb_X11_tear, ml_RL_75, im_X11_tear, se_X11_tear⟩
theorem ml_RL_79 : Cond.methodLink RL 79 yX11_worth ∈ lw_g := aw4 (List.mem_of_getElem? (i := 54) rfl) rfl
theorem cb_X11_worth : cB Y_X11_worth 1 := ⟨aw4 (List.mem_of_getElem? (i := 57) rfl) rfl, in_RX11, ⟨by decide +kernel, by decide +kernel, by decide +kernel⟩, by decide⟩
theorem im_X11_worth : Cond.instanceMethod yX11_worth ∈ lw_g := aw4 (List.mem_of_getElem? (i := 55) rfl) rfl
theorem se_X11_worth : Cond.selects RX11 yX11_worth yX11_worth ∈ lw_g := aw4 (List.mem_of_getElem? (i := 56) rfl) rfl
theorem cw_RL_79 : cV RL Y_X11_worth 79 1 := ⟨cb_X11_worth, ml_RL_79, im_X11_worth, se_X11_worth⟩
theorem ml_RX11_210 : Cond.methodLink RX11 210 yX11_isChooser ∈ lw_g := aw4 (List.mem_of_getElem? (i := 58) rfl) rfl
theorem cb_X11_isChooser : cB Y_X11_isChooser 1 := ⟨aw4 (List.mem_of_getElem? (i := 60) rfl) rfl, in_RX11, ⟨by decide +kernel, by decide +kernel, by decide +kernel⟩, by decide⟩
theorem st_X11_isChooser : Cond.static yX11_isChooser ∈ lw_g := aw4 (List.mem_of_getElem? (i := 59) rfl) rfl
theorem cw_RX11_210 : cS RX11 Y_X11_isChooser 210 1 := ⟨cb_X11_isChooser, ml_RX11_210, st_X11_isChooser⟩
theorem ml_RX11_213 : Cond.methodLink RX11 213 yX6_fix ∈ lw_g := aw4 (List.mem_of_getElem? (i := 61) rfl) rfl
theorem cb_X6_fix : cB Y_X6_fix 0 := ⟨aw4 (List.mem_of_getElem? (i := 64) rfl) rfl, in_RX6, ⟨by decide +kernel, by decide +kernel, by decide +kernel⟩, by decide⟩
theorem im_X6_fix : Cond.instanceMethod yX6_fix ∈ lw_g := aw4 (List.mem_of_getElem? (i := 62) rfl) rfl
theorem se_X6_fix : Cond.selects RX6 yX6_fix yX6_fix ∈ lw_g := aw4 (List.mem_of_getElem? (i := 63) rfl) rfl
theorem cw_RX11_213 : cV RX11 Y_X6_fix 213 0 := ⟨cb_X6_fix, ml_RX11_213, im_X6_fix, se_X6_fix⟩
theorem ml_RX6_98 : Cond.methodLink RX6 98 yX6_listed ∈ lw_g := aw4 (List.mem_of_getElem? (i := 65) rfl) rfl
theorem cb_X6_listed : cB Y_X6_listed 0 := ⟨aw4 (List.mem_of_getElem? (i := 68) rfl) rfl, in_RX6, ⟨by decide +kernel, by decide +kernel, by decide +kernel⟩, by decide⟩
theorem im_X6_listed : Cond.instanceMethod yX6_listed ∈ lw_g := aw4 (List.mem_of_getElem? (i := 66) rfl) rfl
theorem se_X6_listed : Cond.selects RX6 yX6_listed yX6_listed ∈ lw_g := aw4 (List.mem_of_getElem? (i := 67) rfl) rfl
theorem cw_RX6_98 : cV RX6 Y_X6_listed 98 0 := ⟨cb_X6_listed, ml_RX6_98, im_X6_listed, se_X6_listed⟩
theorem ml_RX6_116 : Cond.methodLink RX6 116 yX6_list ∈ lw_g := aw4 (List.mem_of_getElem? (i := 69) rfl) rfl
theorem cb_X6_list : cB Y_X6_list 3 := ⟨aw4 (List.mem_of_getElem? (i := 72) rfl) rfl, in_RX6, ⟨by decide +kernel, by decide +kernel, by decide +kernel⟩, by decide⟩
theorem im_X6_list : Cond.instanceMethod yX6_list ∈ lw_g := aw4 (List.mem_of_getElem? (i := 71) rfl) rfl
theorem se_X6_list : Cond.selects RX6 yX6_list yX6_list ∈ lw_g := aw0 (List.mem_of_getElem? (i := 11) rfl) rfl
theorem cw_RX6_116 : cV RX6 Y_X6_list 116 3 := ⟨cb_X6_list, ml_RX6_116, im_X6_list, se_X6_list⟩
theorem ml_RX6_120 : Cond.methodLink RX6 120 yX4_open ∈ lw_g := aw4 (List.mem_of_getElem? (i := 73) rfl) rfl
theorem cw_RX6_120 : cV RX6 Y_X4_open 120 1 := ⟨cb_X4_open, ml_RX6_120, im_X4_open, se_X4_open⟩
theorem ml_RX6_102 : Cond.methodLink RX6 102 yX3_takeRow ∈ lw_g := aw4 (List.mem_of_getElem? (i := 74) rfl) rfl
theorem cb_X3_takeRow : cB Y_X3_takeRow 1 := ⟨aw4 (List.mem_of_getElem? (i := 77) rfl) rfl, in_RX3, ⟨by decide +kernel, by decide +kernel, by decide +kernel⟩, by decide⟩
theorem im_X3_takeRow : Cond.instanceMethod yX3_takeRow ∈ lw_g := aw4 (List.mem_of_getElem? (i := 75) rfl) rfl
theorem se_X3_takeRow : Cond.selects RX3 yX3_takeRow yX3_takeRow ∈ lw_g := aw4 (List.mem_of_getElem? (i := 76) rfl) rfl
theorem cw_RX6_102 : cV RX6 Y_X3_takeRow 102 1 := ⟨cb_X3_takeRow, ml_RX6_102, im_X3_takeRow, se_X3_takeRow⟩
theorem ml_RX3_73 : Cond.methodLink RX3 73 yJ9_min_7cf53 ∈ lw_g := aw4 (List.mem_of_getElem? (i := 78) rfl) rfl
theorem cw_RX3_73 : cS RX3 Y_J9_min_7cf53 73 2 := ⟨cb_J9_min_7cf53, ml_RX3_73, st_J9_min_7cf53⟩
theorem cb_X9_settle : cB Y_X9_settle 5 := ⟨aw4 (List.mem_of_getElem? (i := 82) rfl) rfl, in_RX9, ⟨by decide +kernel, by decide +kernel, by decide +kernel⟩, by decide⟩
theorem im_X9_settle : Cond.instanceMethod yX9_settle ∈ lw_g := aw4 (List.mem_of_getElem? (i := 81) rfl) rfl
theorem se_X9_settle : Cond.selects RX9 yX9_settle yX9_settle ∈ lw_g := aw0 (List.mem_of_getElem? (i := 12) rfl) rfl
theorem cw_RX6_84 : cVN RX6 Y_X9_settle 84 5 := ⟨cb_X9_settle, fun G U h => by first | exact h.2.1 | exact h.2.2.2.1 | exact h.2.2.2.2.1, im_X9_settle, se_X9_settle⟩
theorem ml_RX9_60 : Cond.methodLink RX9 60 yX8_nodeOf ∈ lw_g := aw4 (List.mem_of_getElem? (i := 83) rfl) rfl
theorem cw_RX9_60 : cS RX9 Y_X8_nodeOf 60 2 := ⟨cb_X8_nodeOf, ml_RX9_60, st_X8_nodeOf⟩
theorem ml_RX9_64 : Cond.methodLink RX9 64 yX8_crowdOf ∈ lw_g := aw4 (List.mem_of_getElem? (i := 84) rfl) rfl
theorem cb_X8_crowdOf : cB Y_X8_crowdOf 2 := ⟨aw4 (List.mem_of_getElem? (i := 86) rfl) rfl, in_RX8, ⟨by decide +kernel, by decide +kernel, by decide +kernel⟩, by decide⟩
theorem st_X8_crowdOf : Cond.static yX8_crowdOf ∈ lw_g := aw4 (List.mem_of_getElem? (i := 85) rfl) rfl
theorem cw_RX9_64 : cS RX9 Y_X8_crowdOf 64 2 := ⟨cb_X8_crowdOf, ml_RX9_64, st_X8_crowdOf⟩
theorem ml_RX9_67 : Cond.methodLink RX9 67 yX9_limbAt ∈ lw_g := aw4 (List.mem_of_getElem? (i := 87) rfl) rfl
theorem cb_X9_limbAt : cB Y_X9_limbAt 4 := ⟨aw4 (List.mem_of_getElem? (i := 90) rfl) rfl, in_RX9, ⟨by decide +kernel, by decide +kernel, by decide +kernel⟩, by decide⟩
theorem im_X9_limbAt : Cond.instanceMethod yX9_limbAt ∈ lw_g := aw4 (List.mem_of_getElem? (i := 89) rfl) rfl
theorem se_X9_limbAt : Cond.selects RX9 yX9_limbAt yX9_limbAt ∈ lw_g := aw0 (List.mem_of_getElem? (i := 13) rfl) rfl
theorem cw_RX9_67 : cV RX9 Y_X9_limbAt 67 4 := ⟨cb_X9_limbAt, ml_RX9_67, im_X9_limbAt, se_X9_limbAt⟩
theorem ml_RX9_80 : Cond.methodLink RX9 80 yJ6_bitCount_0f7a4 ∈ lw_g := aw4 (List.mem_of_getElem? (i := 92) rfl) rfl
theorem cw_RX9_80 : cS RX9 Y_J6_bitCount_0f7a4 80 1 := ⟨cb_J6_bitCount_0f7a4, ml_RX9_80, st_J6_bitCount_0f7a4⟩
theorem ml_RX9_89 : Cond.methodLink RX9 89 yJ7_fill_bad5a ∈ lw_g := aw4 (List.mem_of_getElem? (i := 93) rfl) rfl
theorem cb_J7_fill_bad5a : cB Y_J7_fill_bad5a 4 := ⟨aw4 (List.mem_of_getElem? (i := 95) rfl) rfl, in_RJ7, ⟨by decide +kernel, by decide +kernel, by decide +kernel⟩, by decide⟩
theorem st_J7_fill_bad5a : Cond.static yJ7_fill_bad5a ∈ lw_g := aw4 (List.mem_of_getElem? (i := 94) rfl) rfl
theorem cw_RX9_89 : cS RX9 Y_J7_fill_bad5a 89 4 := ⟨cb_J7_fill_bad5a, ml_RX9_89, st_J7_fill_bad5a⟩
theorem ml_RJ7_13 : Cond.methodLink RJ7 13 yJ7_rangeCheck_23922 ∈ lw_g := aw4 (List.mem_of_getElem? (i := 96) rfl) rfl
theorem cb_J7_rangeCheck_23922 : cB Y_J7_rangeCheck_23922 3 := ⟨aw4 (List.mem_of_getElem? (i := 98) rfl) rfl, in_RJ7, ⟨by decide +kernel, by decide +kernel, by decide +kernel⟩, by decide⟩
theorem st_J7_rangeCheck_23922 : Cond.static yJ7_rangeCheck_23922 ∈ lw_g := aw4 (List.mem_of_getElem? (i := 97) rfl) rfl
theorem cw_RJ7_13 : cS RJ7 Y_J7_rangeCheck_23922 13 3 := ⟨cb_J7_rangeCheck_23922, ml_RJ7_13, st_J7_rangeCheck_23922⟩
theorem ml_RX9_95 : Cond.methodLink RX9 95 yX9_startSum ∈ lw_g := aw4 (List.mem_of_getElem? (i := 99) rfl) rfl
theorem cb_X9_startSum : cB Y_X9_startSum 2 := ⟨aw4 (List.mem_of_getElem? (i := 102) rfl) rfl, in_RX9, ⟨by decide +kernel, by decide +kernel, by decide +kernel⟩, by decide⟩
theorem im_X9_startSum : Cond.instanceMethod yX9_startSum ∈ lw_g := aw4 (List.mem_of_getElem? (i := 101) rfl) rfl
theorem se_X9_startSum : Cond.selects RX9 yX9_startSum yX9_startSum ∈ lw_g := aw0 (List.mem_of_getElem? (i := 14) rfl) rfl
theorem cw_RX9_95 : cV RX9 Y_X9_startSum 95 2 := ⟨cb_X9_startSum, ml_RX9_95, im_X9_startSum, se_X9_startSum⟩
theorem ml_RX9_143 : Cond.methodLink RX9 143 yJ7_fill_d0a16 ∈ lw_g := aw4 (List.mem_of_getElem? (i := 103) rfl) rfl
theorem cb_J7_fill_d0a16 : cB Y_J7_fill_d0a16 2 := ⟨aw4 (List.mem_of_getElem? (i := 105) rfl) rfl, in_RJ7, ⟨by decide +kernel, by decide +kernel, by decide +kernel⟩, by decide⟩
theorem st_J7_fill_d0a16 : Cond.static yJ7_fill_d0a16 ∈ lw_g := aw4 (List.mem_of_getElem? (i := 104) rfl) rfl
theorem cw_RX9_143 : cS RX9 Y_J7_fill_d0a16 143 2 := ⟨cb_J7_fill_d0a16, ml_RX9_143, st_J7_fill_d0a16⟩
theorem ml_RX9_146 : Cond.methodLink RX9 146 yX2_addAt ∈ lw_g := aw4 (List.mem_of_getElem? (i := 106) rfl) rfl
theorem in_RX2 : Cond.initialized RX2 ∈ lw_g := aw1 (List.mem_of_getElem? (i := 21) rfl) rfl
theorem cb_X2_addAt : cB Y_X2_addAt 3 := ⟨aw4 (List.mem_of_getElem? (i := 108) rfl) rfl, in_RX2, ⟨by decide +kernel, by decide +kernel, by decide +kernel⟩, by decide⟩
theorem st_X2_addAt : Cond.static yX2_addAt ∈ lw_g := aw4 (List.mem_of_getElem? (i := 107) rfl) rfl
theorem cw_RX9_146 : cS RX9 Y_X2_addAt 146 3 := ⟨cb_X2_addAt, ml_RX9_146, st_X2_addAt⟩
theorem ml_RX9_150 : Cond.methodLink RX9 150 yX2_carry ∈ lw_g := aw4 (List.mem_of_getElem? (i := 111) rfl) rfl
theorem cb_X2_carry : cB Y_X2_carry 1 := ⟨aw4 (List.mem_of_getElem? (i := 113) rfl) rfl, in_RX2, ⟨by decide +kernel, by decide +kernel, by decide +kernel⟩, by decide⟩
theorem st_X2_carry : Cond.static yX2_carry ∈ lw_g := aw4 (List.mem_of_getElem? (i := 112) rfl) rfl
theorem cw_RX9_150 : cS RX9 Y_X2_carry 150 1 := ⟨cb_X2_carry, ml_RX9_150, st_X2_carry⟩
theorem ml_RX9_71 : Cond.methodLink RX9 71 (⟨"java/lang/System", "arraycopy", "(Ljava/lang/Object;ILjava/lang/Object;II)V"⟩ : MethodName) ∈ lw_g := aw4 (List.mem_of_getElem? (i := 115) rfl) rfl
theorem ml_RX9_99 : Cond.methodLink RX9 99 yX3_choose ∈ lw_g := aw4 (List.mem_of_getElem? (i := 116) rfl) rfl
theorem cb_X3_choose : cB Y_X3_choose 5 := ⟨aw4 (List.mem_of_getElem? (i := 119) rfl) rfl, in_RX3, ⟨by decide +kernel, by decide +kernel, by decide +kernel⟩, by decide⟩
theorem im_X3_choose : Cond.instanceMethod yX3_choose ∈ lw_g := aw4 (List.mem_of_getElem? (i := 117) rfl) rfl
theorem se_X3_choose : Cond.selects RX3 yX3_choose yX3_choose ∈ lw_g := aw4 (List.mem_of_getElem? (i := 118) rfl) rfl
theorem cw_RX9_99 : cV RX9 Y_X3_choose 99 5 := ⟨cb_X3_choose, ml_RX9_99, im_X3_choose, se_X3_choose⟩
theorem ml_RX3_44 : Cond.methodLink RX3 44 yX3_ofRow ∈ lw_g := aw4 (List.mem_of_getElem? (i := 120) rfl) rfl
theorem cb_X3_ofRow : cB Y_X3_ofRow 3 := ⟨aw4 (List.mem_of_getElem? (i := 123) rfl) rfl, in_RX3, ⟨by decide +kernel, by decide +kernel, by decide +kernel⟩, by decide⟩
theorem im_X3_ofRow : Cond.instanceMethod yX3_ofRow ∈ lw_g := aw4 (List.mem_of_getElem? (i := 122) rfl) rfl
theorem se_X3_ofRow : Cond.selects RX3 yX3_ofRow yX3_ofRow ∈ lw_g := aw0 (List.mem_of_getElem? (i := 15) rfl) rfl
theorem cw_RX3_44 : cV RX3 Y_X3_ofRow 44 3 := ⟨cb_X3_ofRow, ml_RX3_44, im_X3_ofRow, se_X3_ofRow⟩
theorem ml_RX3_78 : Cond.methodLink RX3 78 yJ6_bitCount_0f7a4 ∈ lw_g := aw4 (List.mem_of_getElem? (i := 124) rfl) rfl
theorem cw_RX3_78 : cS RX3 Y_J6_bitCount_0f7a4 78 1 := ⟨cb_J6_bitCount_0f7a4, ml_RX3_78, st_J6_bitCount_0f7a4⟩
theorem ml_RX3_52 : Cond.methodLink RX3 52 yX4_open ∈ lw_g := aw4 (List.mem_of_getElem? (i := 125) rfl) rfl
theorem cw_RX3_52 : cV RX3 Y_X4_open 52 1 := ⟨cb_X4_open, ml_RX3_52, im_X4_open, se_X4_open⟩
theorem ml_RX3_83 : Cond.methodLink RX3 83 yX4_holds ∈ lw_g := aw4 (List.mem_of_getElem? (i := 126) rfl) rfl
theorem cw_RX3_83 : cS RX3 Y_X4_holds 83 2 := ⟨cb_X4_holds, ml_RX3_83, st_X4_holds⟩
theorem ml_RX3_48 : Cond.methodLink RX3 48 yX9_bestAt ∈ lw_g := aw4 (List.mem_of_getElem? (i := 127) rfl) rfl
theorem cb_X9_bestAt : cB Y_X9_bestAt 4 := ⟨aw4 (List.mem_of_getElem? (i := 130) rfl) rfl, in_RX9, ⟨by decide +kernel, by decide +kernel, by decide +kernel⟩, by decide⟩
theorem im_X9_bestAt : Cond.instanceMethod yX9_bestAt ∈ lw_g := aw4 (List.mem_of_getElem? (i := 128) rfl) rfl
theorem se_X9_bestAt : Cond.selects RX9 yX9_bestAt yX9_bestAt ∈ lw_g := aw4 (List.mem_of_getElem? (i := 129) rfl) rfl
theorem cw_RX3_48 : cV RX3 Y_X9_bestAt 48 4 := ⟨cb_X9_bestAt, ml_RX3_48, im_X9_bestAt, se_X9_bestAt⟩
theorem ml_RX3_59 : Cond.methodLink RX3 59 yX4_isEnd ∈ lw_g := aw4 (List.mem_of_getElem? (i := 131) rfl) rfl
theorem cw_RX3_59 : cV RX3 Y_X4_isEnd 59 1 := ⟨cb_X4_isEnd, ml_RX3_59, im_X4_isEnd, se_X4_isEnd⟩
theorem ml_RX3_63 : Cond.methodLink RX3 63 yX8_told ∈ lw_g := aw4 (List.mem_of_getElem? (i := 132) rfl) rfl
theorem cb_X8_told : cB Y_X8_told 5 := ⟨aw4 (List.mem_of_getElem? (i := 135) rfl) rfl, in_RX8, ⟨by decide +kernel, by decide +kernel, by decide +kernel⟩, by decide⟩
theorem im_X8_told : Cond.instanceMethod yX8_told ∈ lw_g := aw4 (List.mem_of_getElem? (i := 133) rfl) rfl
theorem se_X8_told : Cond.selects RX8 yX8_told yX8_told ∈ lw_g := aw4 (List.mem_of_getElem? (i := 134) rfl) rfl
theorem cw_RX3_63 : cV RX3 Y_X8_told 63 5 := ⟨cb_X8_told, ml_RX3_63, im_X8_told, se_X8_told⟩
theorem ml_RX8_49 : Cond.methodLink RX8 49 yJ7_fill_53178 ∈ lw_g := aw4 (List.mem_of_getElem? (i := 136) rfl) rfl
theorem cb_J7_fill_53178 : cB Y_J7_fill_53178 2 := ⟨aw4 (List.mem_of_getElem? (i := 138) rfl) rfl, in_RJ7, ⟨by decide +kernel, by decide +kernel, by decide +kernel⟩, by decide⟩
theorem st_J7_fill_53178 : Cond.static yJ7_fill_53178 ∈ lw_g := aw4 (List.mem_of_getElem? (i := 137) rfl) rfl
theorem cw_RX8_49 : cS RX8 Y_J7_fill_53178 49 2 := ⟨cb_J7_fill_53178, ml_RX8_49, st_J7_fill_53178⟩
theorem ml_RX8_55 : Cond.methodLink RX8 55 yX8_crowdOf ∈ lw_g := aw4 (List.mem_of_getElem? (i := 139) rfl) rfl
theorem cw_RX8_55 : cS RX8 Y_X8_crowdOf 55 2 := ⟨cb_X8_crowdOf, ml_RX8_55, st_X8_crowdOf⟩
theorem ml_RX8_58 : Cond.methodLink RX8 58 yX4_minutesOf ∈ lw_g := aw4 (List.mem_of_getElem? (i := 140) rfl) rfl
theorem cw_RX8_58 : cV RX8 Y_X4_minutesOf 58 1 := ⟨cb_X4_minutesOf, ml_RX8_58, im_X4_minutesOf, se_X4_minutesOf⟩
theorem ml_RX8_63 : Cond.methodLink RX8 63 yX0_about ∈ lw_g := aw4 (List.mem_of_getElem? (i := 141) rfl) rfl
theorem cw_RX8_63 : cV RX8 Y_X0_about 63 7 := ⟨cb_X0_about, ml_RX8_63, im_X0_about, se_X0_about⟩
theorem ml_RX8_69 : Cond.methodLink RX8 69 yX0_tells ∈ lw_g := aw4 (List.mem_of_getElem? (i := 142) rfl) rfl
theorem cw_RX8_69 : cV RX8 Y_X0_tells 69 1 := ⟨cb_X0_tells, ml_RX8_69, im_X0_tells, se_X0_tells⟩
theorem ml_RX3_69 : Cond.methodLink RX3 69 yX8_chanceOf ∈ lw_g := aw4 (List.mem_of_getElem? (i := 144) rfl) rfl
theorem cb_X8_chanceOf : cB Y_X8_chanceOf 2 := ⟨aw4 (List.mem_of_getElem? (i := 146) rfl) rfl, in_RX8, ⟨by decide +kernel, by decide +kernel, by decide +kernel⟩, by decide⟩
theorem st_X8_chanceOf : Cond.static yX8_chanceOf ∈ lw_g := aw4 (List.mem_of_getElem? (i := 145) rfl) rfl
theorem cw_RX3_69 : cS RX3 Y_X8_chanceOf 69 2 := ⟨cb_X8_chanceOf, ml_RX3_69, st_X8_chanceOf⟩
theorem ml_RX9_105 : Cond.methodLink RX9 105 yX4_open ∈ lw_g := aw4 (List.mem_of_getElem? (i := 147) rfl) rfl
theorem cw_RX9_105 : cV RX9 Y_X4_open 105 1 := ⟨cb_X4_open, ml_RX9_105, im_X4_open, se_X4_open⟩
theorem ml_RX9_113 : Cond.methodLink RX9 113 yX9_bring ∈ lw_g := aw4 (List.mem_of_getElem? (i := 148) rfl) rfl
theorem cb_X9_bring : cB Y_X9_bring 5 := ⟨aw4 (List.mem_of_getElem? (i := 151) rfl) rfl, in_RX9, ⟨by decide +kernel, by decide +kernel, by decide +kernel⟩, by decide⟩
theorem im_X9_bring : Cond.instanceMethod yX9_bring ∈ lw_g := aw4 (List.mem_of_getElem? (i := 150) rfl) rfl
theorem se_X9_bring : Cond.selects RX9 yX9_bring yX9_bring ∈ lw_g := aw0 (List.mem_of_getElem? (i := 16) rfl) rfl
theorem cw_RX9_113 : cV RX9 Y_X9_bring 113 5 := ⟨cb_X9_bring, ml_RX9_113, im_X9_bring, se_X9_bring⟩
theorem ml_RX9_121 : Cond.methodLink RX9 121 yX8_told ∈ lw_g := aw4 (List.mem_of_getElem? (i := 152) rfl) rfl
theorem cw_RX9_121 : cV RX9 Y_X8_told 121 5 := ⟨cb_X8_told, ml_RX9_121, im_X8_told, se_X8_told⟩
theorem ml_RX9_124 : Cond.methodLink RX9 124 yX4_isEnd ∈ lw_g := aw4 (List.mem_of_getElem? (i := 153) rfl) rfl
theorem cw_RX9_124 : cV RX9 Y_X4_isEnd 124 1 := ⟨cb_X4_isEnd, ml_RX9_124, im_X4_isEnd, se_X4_isEnd⟩
theorem ml_RX9_128 : Cond.methodLink RX9 128 yX9_visit ∈ lw_g := aw4 (List.mem_of_getElem? (i := 154) rfl) rfl
theorem cb_X9_visit : cB Y_X9_visit 5 := ⟨aw4 (List.mem_of_getElem? (i := 157) rfl) rfl, in_RX9, ⟨by decide +kernel, by decide +kernel, by decide +kernel⟩, by decide⟩
theorem im_X9_visit : Cond.instanceMethod yX9_visit ∈ lw_g := aw4 (List.mem_of_getElem? (i := 156) rfl) rfl
theorem se_X9_visit : Cond.selects RX9 yX9_visit yX9_visit ∈ lw_g := aw0 (List.mem_of_getElem? (i := 17) rfl) rfl
theorem cw_RX9_128 : cV RX9 Y_X9_visit 128 5 := ⟨cb_X9_visit, ml_RX9_128, im_X9_visit, se_X9_visit⟩
theorem ml_RX9_137 : Cond.methodLink RX9 137 yX8_chanceOf ∈ lw_g := aw4 (List.mem_of_getElem? (i := 158) rfl) rfl
theorem cw_RX9_137 : cS RX9 Y_X8_chanceOf 137 2 := ⟨cb_X8_chanceOf, ml_RX9_137, st_X8_chanceOf⟩
theorem ml_RX9_140 : Cond.methodLink RX9 140 yX9_settle ∈ lw_g := aw4 (List.mem_of_getElem? (i := 159) rfl) rfl
theorem cw_RX9_140 : cV RX9 Y_X9_settle 140 5 := ⟨cb_X9_settle, ml_RX9_140, im_X9_settle, se_X9_settle⟩
theorem ml_RX9_131 : Cond.methodLink RX9 131 yX9_gain ∈ lw_g := aw4 (List.mem_of_getElem? (i := 160) rfl) rfl
theorem cb_X9_gain : cB Y_X9_gain 4 := ⟨aw4 (List.mem_of_getElem? (i := 163) rfl) rfl, in_RX9, ⟨by decide +kernel, by decide +kernel, by decide +kernel⟩, by decide⟩
theorem im_X9_gain : Cond.instanceMethod yX9_gain ∈ lw_g := aw4 (List.mem_of_getElem? (i := 162) rfl) rfl
theorem se_X9_gain : Cond.selects RX9 yX9_gain yX9_gain ∈ lw_g := aw0 (List.mem_of_getElem? (i := 18) rfl) rfl
theorem cw_RX9_131 : cV RX9 Y_X9_gain 131 4 := ⟨cb_X9_gain, ml_RX9_131, im_X9_gain, se_X9_gain⟩
theorem ml_RX9_176 : Cond.methodLink RX9 176 yX8_pricesOf ∈ lw_g := aw4 (List.mem_of_getElem? (i := 164) rfl) rfl
theorem cb_X8_pricesOf : cB Y_X8_pricesOf 1 := ⟨aw4 (List.mem_of_getElem? (i := 166) rfl) rfl, in_RX8, ⟨by decide +kernel, by decide +kernel, by decide +kernel⟩, by decide⟩
theorem st_X8_pricesOf : Cond.static yX8_pricesOf ∈ lw_g := aw4 (List.mem_of_getElem? (i := 165) rfl) rfl
theorem cw_RX9_176 : cS RX9 Y_X8_pricesOf 176 1 := ⟨cb_X8_pricesOf, ml_RX9_176, st_X8_pricesOf⟩
theorem ml_RX9_134 : Cond.methodLink RX9 134 yX9_expect ∈ lw_g := aw4 (List.mem_of_getElem? (i := 167) rfl) rfl
theorem cb_X9_expect : cB Y_X9_expect 5 := ⟨aw4 (List.mem_of_getElem? (i := 170) rfl) rfl, in_RX9, ⟨by decide +kernel, by decide +kernel, by decide +kernel⟩, by decide⟩
theorem im_X9_expect : Cond.instanceMethod yX9_expect ∈ lw_g := aw4 (List.mem_of_getElem? (i := 169) rfl) rfl
theorem se_X9_expect : Cond.selects RX9 yX9_expect yX9_expect ∈ lw_g := aw0 (List.mem_of_getElem? (i := 19) rfl) rfl
theorem cw_RX9_134 : cV RX9 Y_X9_expect 134 5 := ⟨cb_X9_expect, ml_RX9_134, im_X9_expect, se_X9_expect⟩
theorem ml_RX9_154 : Cond.methodLink RX9 154 yJ9_min_7cf53 ∈ lw_g := aw4 (List.mem_of_getElem? (i := 171) rfl) rfl
theorem cw_RX9_154 : cS RX9 Y_J9_min_7cf53 154 2 := ⟨cb_J9_min_7cf53, ml_RX9_154, st_J9_min_7cf53⟩
theorem ml_RX9_159 : Cond.methodLink RX9 159 yX2_spread ∈ lw_g := aw4 (List.mem_of_getElem? (i := 172) rfl) rfl
theorem cb_X2_spread : cB Y_X2_spread 3 := ⟨aw4 (List.mem_of_getElem? (i := 174) rfl) rfl, in_RX2, ⟨by decide +kernel, by decide +kernel, by decide +kernel⟩, by decide⟩
theorem st_X2_spread : Cond.static yX2_spread ∈ lw_g := aw4 (List.mem_of_getElem? (i := 173) rfl) rfl
theorem cw_RX9_159 : cS RX9 Y_X2_spread 159 3 := ⟨cb_X2_spread, ml_RX9_159, st_X2_spread⟩
theorem ml_RX9_163 : Cond.methodLink RX9 163 yX2_addTimes ∈ lw_g := aw4 (List.mem_of_getElem? (i := 176) rfl) rfl
theorem cb_X2_addTimes : cB Y_X2_addTimes 5 := ⟨aw4 (List.mem_of_getElem? (i := 178) rfl) rfl, in_RX2, ⟨by decide +kernel, by decide +kernel, by decide +kernel⟩, by decide⟩
theorem st_X2_addTimes : Cond.static yX2_addTimes ∈ lw_g := aw4 (List.mem_of_getElem? (i := 177) rfl) rfl
theorem cw_RX9_163 : cS RX9 Y_X2_addTimes 163 5 := ⟨cb_X2_addTimes, ml_RX9_163, st_X2_addTimes⟩
theorem ml_RX9_117 : Cond.methodLink RX9 117 yX2_compare ∈ lw_g := aw4 (List.mem_of_getElem? (i := 179) rfl) rfl
theorem cb_X2_compare : cB Y_X2_compare 4 := ⟨aw4 (List.mem_of_getElem? (i := 181) rfl) rfl, in_RX2, ⟨by decide +kernel, by decide +kernel, by decide +kernel⟩, by decide⟩
theorem st_X2_compare : Cond.static yX2_compare ∈ lw_g := aw4 (List.mem_of_getElem? (i := 180) rfl) rfl
theorem cw_RX9_117 : cS RX9 Y_X2_compare 117 4 := ⟨cb_X2_compare, ml_RX9_117, st_X2_compare⟩
theorem ml_RX6_94 : Cond.methodLink RX6 94 yX9_copyRoot ∈ lw_g := aw4 (List.mem_of_getElem? (i := 182) rfl) rfl
theorem cb_X9_copyRoot : cB Y_X9_copyRoot 3 := ⟨aw4 (List.mem_of_getElem? (i := 185) rfl) rfl, in_RX9, ⟨by decide +kernel, by decide +kernel, by decide +kernel⟩, by decide⟩
theorem im_X9_copyRoot : Cond.instanceMethod yX9_copyRoot ∈ lw_g := aw4 (List.mem_of_getElem? (i := 183) rfl) rfl
theorem se_X9_copyRoot : Cond.selects RX9 yX9_copyRoot yX9_copyRoot ∈ lw_g := aw4 (List.mem_of_getElem? (i := 184) rfl) rfl
theorem cw_RX6_94 : cV RX6 Y_X9_copyRoot 94 3 := ⟨cb_X9_copyRoot, ml_RX6_94, im_X9_copyRoot, se_X9_copyRoot⟩
theorem ml_RX6_106 : Cond.methodLink RX6 106 yX2_compare ∈ lw_g := aw4 (List.mem_of_getElem? (i := 186) rfl) rfl
theorem cw_RX6_106 : cS RX6 Y_X2_compare 106 4 := ⟨cb_X2_compare, ml_RX6_106, st_X2_compare⟩
theorem ml_RX6_110 : Cond.methodLink RX6 110 (⟨"java/lang/System", "arraycopy", "(Ljava/lang/Object;ILjava/lang/Object;II)V"⟩ : MethodName) ∈ lw_g := aw4 (List.mem_of_getElem? (i := 187) rfl) rfl
theorem ml_RX11_216 : Cond.methodLink RX11 216 yX6_tells ∈ lw_g := aw4 (List.mem_of_getElem? (i := 188) rfl) rfl
theorem cb_X6_tells : cB Y_X6_tells 2 := ⟨aw4 (List.mem_of_getElem? (i := 191) rfl) rfl, in_RX6, ⟨by decide +kernel, by decide +kernel, by decide +kernel⟩, by decide⟩
theorem im_X6_tells : Cond.instanceMethod yX6_tells ∈ lw_g := aw4 (List.mem_of_getElem? (i := 189) rfl) rfl
theorem se_X6_tells : Cond.selects RX6 yX6_tells yX6_tells ∈ lw_g := aw4 (List.mem_of_getElem? (i := 190) rfl) rfl
theorem cw_RX11_216 : cV RX11 Y_X6_tells 216 2 := ⟨cb_X6_tells, ml_RX11_216, im_X6_tells, se_X6_tells⟩
theorem ml_RX11_219 : Cond.methodLink RX11 219 yX2_above ∈ lw_g := aw4 (List.mem_of_getElem? (i := 192) rfl) rfl
theorem cb_X2_above : cB Y_X2_above 2 := ⟨aw4 (List.mem_of_getElem? (i := 194) rfl) rfl, in_RX2, ⟨by decide +kernel, by decide +kernel, by decide +kernel⟩, by decide⟩
theorem st_X2_above : Cond.static yX2_above ∈ lw_g := aw4 (List.mem_of_getElem? (i := 193) rfl) rfl
theorem cw_RX11_219 : cS RX11 Y_X2_above 219 2 := ⟨cb_X2_above, ml_RX11_219, st_X2_above⟩
theorem ml_RX2_19 : Cond.methodLink RX2 19 yX2_figure ∈ lw_g := aw4 (List.mem_of_getElem? (i := 195) rfl) rfl
theorem cb_X2_figure : cB Y_X2_figure 2 := ⟨aw4 (List.mem_of_getElem? (i := 197) rfl) rfl, in_RX2, ⟨by decide +kernel, by decide +kernel, by decide +kernel⟩, by decide⟩
theorem st_X2_figure : Cond.static yX2_figure ∈ lw_g := aw4 (List.mem_of_getElem? (i := 196) rfl) rfl
theorem cw_RX2_19 : cS RX2 Y_X2_figure 19 2 := ⟨cb_X2_figure, ml_RX2_19, st_X2_figure⟩
theorem ml_RL_83 : Cond.methodLink RL 83 yX11_figures ∈ lw_g := aw4 (List.mem_of_getElem? (i := 199) rfl) rfl
theorem cb_X11_figures : cB Y_X11_figures 2 := ⟨aw4 (List.mem_of_getElem? (i := 202) rfl) rfl, in_RX11, ⟨by decide +kernel, by decide +kernel, by decide +kernel⟩, by decide⟩
theorem im_X11_figures : Cond.instanceMethod yX11_figures ∈ lw_g := aw4 (List.mem_of_getElem? (i := 200) rfl) rfl
theorem se_X11_figures : Cond.selects RX11 yX11_figures yX11_figures ∈ lw_g := aw4 (List.mem_of_getElem? (i := 201) rfl) rfl
theorem cw_RL_83 : cV RL Y_X11_figures 83 2 := ⟨cb_X11_figures, ml_RL_83, im_X11_figures, se_X11_figures⟩
theorem ml_RX11_225 : Cond.methodLink RX11 225 yX2_nine ∈ lw_g := aw4 (List.mem_of_getElem? (i := 203) rfl) rfl
theorem cb_X2_nine : cB Y_X2_nine 2 := ⟨aw4 (List.mem_of_getElem? (i := 205) rfl) rfl, in_RX2, ⟨by decide +kernel, by decide +kernel, by decide +kernel⟩, by decide⟩
theorem st_X2_nine : Cond.static yX2_nine ∈ lw_g := aw4 (List.mem_of_getElem? (i := 204) rfl) rfl
theorem cw_RX11_225 : cS RX11 Y_X2_nine 225 2 := ⟨cb_X2_nine, ml_RX11_225, st_X2_nine⟩
theorem ml_RL_87 : Cond.methodLink RL 87 yX11_next ∈ lw_g := aw4 (List.mem_of_getElem? (i := 206) rfl) rfl
theorem cb_X11_next : cB Y_X11_next 5 := ⟨aw4 (List.mem_of_getElem? (i := 209) rfl) rfl, in_RX11, ⟨by decide +kernel, by decide +kernel, by decide +kernel⟩, by decide⟩
theorem im_X11_next : Cond.instanceMethod yX11_next ∈ lw_g := aw4 (List.mem_of_getElem? (i := 207) rfl) rfl
theorem se_X11_next : Cond.selects RX11 yX11_next yX11_next ∈ lw_g := aw4 (List.mem_of_getElem? (i := 208) rfl) rfl
theorem cw_RL_87 : cV RL Y_X11_next 87 5 := ⟨cb_X11_next, ml_RL_87, im_X11_next, se_X11_next⟩
theorem ml_RX11_228 : Cond.methodLink RX11 228 yX11_isLatest ∈ lw_g := aw4 (List.mem_of_getElem? (i := 210) rfl) rfl
theorem cb_X11_isLatest : cB Y_X11_isLatest 2 := ⟨aw4 (List.mem_of_getElem? (i := 212) rfl) rfl, in_RX11, ⟨by decide +kernel, by decide +kernel, by decide +kernel⟩, by decide⟩
theorem st_X11_isLatest : Cond.static yX11_isLatest ∈ lw_g := aw4 (List.mem_of_getElem? (i := 211) rfl) rfl
theorem cw_RX11_228 : cS RX11 Y_X11_isLatest 228 2 := ⟨cb_X11_isLatest, ml_RX11_228, st_X11_isLatest⟩
theorem ml_RX11_235 : Cond.methodLink RX11 235 yJ6_bitCount_0f7a4 ∈ lw_g := aw4 (List.mem_of_getElem? (i := 213) rfl) rfl
theorem cw_RX11_235 : cS RX11 Y_J6_bitCount_0f7a4 235 1 := ⟨cb_J6_bitCount_0f7a4, ml_RX11_235, st_J6_bitCount_0f7a4⟩
theorem cw_RX11_240 : cVN RX11 Y_X9_settle 240 5 := ⟨cb_X9_settle, fun G U h => by first | exact h.2.1 | exact h.2.2.2.1 | exact h.2.2.2.2.1, im_X9_settle, se_X9_settle⟩
theorem ml_RX11_246 : Cond.methodLink RX11 246 yX3_choose ∈ lw_g := aw4 (List.mem_of_getElem? (i := 215) rfl) rfl
theorem cw_RX11_246 : cV RX11 Y_X3_choose 246 5 := ⟨cb_X3_choose, ml_RX11_246, im_X3_choose, se_X3_choose⟩
theorem ml_RL_91 : Cond.methodLink RL 91 yX11_fixed ∈ lw_g := aw4 (List.mem_of_getElem? (i := 216) rfl) rfl
theorem cb_X11_fixed : cB Y_X11_fixed 1 := ⟨aw4 (List.mem_of_getElem? (i := 219) rfl) rfl, in_RX11, ⟨by decide +kernel, by decide +kernel, by decide +kernel⟩, by decide⟩
theorem im_X11_fixed : Cond.instanceMethod yX11_fixed ∈ lw_g := aw4 (List.mem_of_getElem? (i := 217) rfl) rfl
theorem se_X11_fixed : Cond.selects RX11 yX11_fixed yX11_fixed ∈ lw_g := aw4 (List.mem_of_getElem? (i := 218) rfl) rfl
theorem cw_RL_91 : cV RL Y_X11_fixed 91 1 := ⟨cb_X11_fixed, ml_RL_91, im_X11_fixed, se_X11_fixed⟩
theorem ml_RL_95 : Cond.methodLink RL 95 yX11_rows ∈ lw_g := aw4 (List.mem_of_getElem? (i := 220) rfl) rfl
theorem cb_X11_rows : cB Y_X11_rows 0 := ⟨aw4 (List.mem_of_getElem? (i := 223) rfl) rfl, in_RX11, ⟨by decide +kernel, by decide +kernel, by decide +kernel⟩, by decide⟩
theorem im_X11_rows : Cond.instanceMethod yX11_rows ∈ lw_g := aw4 (List.mem_of_getElem? (i := 221) rfl) rfl
theorem se_X11_rows : Cond.selects RX11 yX11_rows yX11_rows ∈ lw_g := aw4 (List.mem_of_getElem? (i := 222) rfl) rfl
theorem cw_RL_95 : cV RL Y_X11_rows 95 0 := ⟨cb_X11_rows, ml_RL_95, im_X11_rows, se_X11_rows⟩
theorem ml_RX11_256 : Cond.methodLink RX11 256 yX6_listed ∈ lw_g := aw4 (List.mem_of_getElem? (i := 224) rfl) rfl
theorem cw_RX11_256 : cV RX11 Y_X6_listed 256 0 := ⟨cb_X6_listed, ml_RX11_256, im_X6_listed, se_X6_listed⟩
theorem ml_RL_99 : Cond.methodLink RL 99 yX11_seeing ∈ lw_g := aw4 (List.mem_of_getElem? (i := 225) rfl) rfl
theorem cb_X11_seeing : cB Y_X11_seeing 0 := ⟨aw4 (List.mem_of_getElem? (i := 228) rfl) rfl, in_RX11, ⟨by decide +kernel, by decide +kernel, by decide +kernel⟩, by decide⟩
theorem im_X11_seeing : Cond.instanceMethod yX11_seeing ∈ lw_g := aw4 (List.mem_of_getElem? (i := 226) rfl) rfl
theorem se_X11_seeing : Cond.selects RX11 yX11_seeing yX11_seeing ∈ lw_g := aw4 (List.mem_of_getElem? (i := 227) rfl) rfl
theorem cw_RL_99 : cV RL Y_X11_seeing 99 0 := ⟨cb_X11_seeing, ml_RL_99, im_X11_seeing, se_X11_seeing⟩
theorem ml_RX11_260 : Cond.methodLink RX11 260 yX6_seeingGap ∈ lw_g := aw4 (List.mem_of_getElem? (i := 229) rfl) rfl
theorem cb_X6_seeingGap : cB Y_X6_seeingGap 0 := ⟨aw4 (List.mem_of_getElem? (i := 232) rfl) rfl, in_RX6, ⟨by decide +kernel, by decide +kernel, by decide +kernel⟩, by decide⟩
theorem im_X6_seeingGap : Cond.instanceMethod yX6_seeingGap ∈ lw_g := aw4 (List.mem_of_getElem? (i := 230) rfl) rfl
theorem se_X6_seeingGap : Cond.selects RX6 yX6_seeingGap yX6_seeingGap ∈ lw_g := aw4 (List.mem_of_getElem? (i := 231) rfl) rfl
theorem cw_RX11_260 : cV RX11 Y_X6_seeingGap 260 0 := ⟨cb_X6_seeingGap, ml_RX11_260, im_X6_seeingGap, se_X6_seeingGap⟩
theorem ml_RX6_127 : Cond.methodLink RX6 127 yX6_gap ∈ lw_g := aw4 (List.mem_of_getElem? (i := 233) rfl) rfl
theorem cb_X6_gap : cB Y_X6_gap 0 := ⟨aw4 (List.mem_of_getElem? (i := 236) rfl) rfl, in_RX6, ⟨by decide +kernel, by decide +kernel, by decide +kernel⟩, by decide⟩
theorem im_X6_gap : Cond.instanceMethod yX6_gap ∈ lw_g := aw4 (List.mem_of_getElem? (i := 235) rfl) rfl
theorem se_X6_gap : Cond.selects RX6 yX6_gap yX6_gap ∈ lw_g := aw0 (List.mem_of_getElem? (i := 20) rfl) rfl
theorem cw_RX6_127 : cV RX6 Y_X6_gap 127 0 := ⟨cb_X6_gap, ml_RX6_127, im_X6_gap, se_X6_gap⟩
theorem ml_RX6_130 : Cond.methodLink RX6 130 yX2_subtract ∈ lw_g := aw4 (List.mem_of_getElem? (i := 237) rfl) rfl
theorem cb_X2_subtract : cB Y_X2_subtract 2 := ⟨aw4 (List.mem_of_getElem? (i := 239) rfl) rfl, in_RX2, ⟨by decide +kernel, by decide +kernel, by decide +kernel⟩, by decide⟩
theorem st_X2_subtract : Cond.static yX2_subtract ∈ lw_g := aw4 (List.mem_of_getElem? (i := 238) rfl) rfl
theorem cw_RX6_130 : cS RX6 Y_X2_subtract 130 2 := ⟨cb_X2_subtract, ml_RX6_130, st_X2_subtract⟩
theorem ml_RX6_134 : Cond.methodLink RX6 134 yX2_above ∈ lw_g := aw5 (List.mem_of_getElem? (i := 0) rfl) rfl
theorem cw_RX6_134 : cS RX6 Y_X2_above 134 2 := ⟨cb_X2_above, ml_RX6_134, st_X2_above⟩
theorem ml_RL_103 : Cond.methodLink RL 103 yX11_loss ∈ lw_g := aw5 (List.mem_of_getElem? (i := 1) rfl) rfl
theorem cb_X11_loss : cB Y_X11_loss 1 := ⟨aw5 (List.mem_of_getElem? (i := 4) rfl) rfl, in_RX11, ⟨by decide +kernel, by decide +kernel, by decide +kernel⟩, by decide⟩
theorem im_X11_loss : Cond.instanceMethod yX11_loss ∈ lw_g := aw5 (List.mem_of_getElem? (i := 2) rfl) rfl
theorem se_X11_loss : Cond.selects RX11 yX11_loss yX11_loss ∈ lw_g := aw5 (List.mem_of_getElem? (i := 3) rfl) rfl
theorem cw_RL_103 : cV RL Y_X11_loss 103 1 := ⟨cb_X11_loss, ml_RL_103, im_X11_loss, se_X11_loss⟩
theorem ml_RX11_263 : Cond.methodLink RX11 263 yX6_lossGap ∈ lw_g := aw5 (List.mem_of_getElem? (i := 5) rfl) rfl
theorem cb_X6_lossGap : cB Y_X6_lossGap 1 := ⟨aw5 (List.mem_of_getElem? (i := 8) rfl) rfl, in_RX6, ⟨by decide +kernel, by decide +kernel, by decide +kernel⟩, by decide⟩
theorem im_X6_lossGap : Cond.instanceMethod yX6_lossGap ∈ lw_g := aw5 (List.mem_of_getElem? (i := 6) rfl) rfl
theorem se_X6_lossGap : Cond.selects RX6 yX6_lossGap yX6_lossGap ∈ lw_g := aw5 (List.mem_of_getElem? (i := 7) rfl) rfl
theorem cw_RX11_263 : cV RX11 Y_X6_lossGap 263 1 := ⟨cb_X6_lossGap, ml_RX11_263, im_X6_lossGap, se_X6_lossGap⟩
theorem ml_RL_107 : Cond.methodLink RL 107 yX11_evening ∈ lw_g := aw5 (List.mem_of_getElem? (i := 9) rfl) rfl
theorem cb_X11_evening : cB Y_X11_evening 1 := ⟨aw5 (List.mem_of_getElem? (i := 12) rfl) rfl, in_RX11, ⟨by decide +kernel, by decide +kernel, by decide +kernel⟩, by decide⟩
theorem im_X11_evening : Cond.instanceMethod yX11_evening ∈ lw_g := aw5 (List.mem_of_getElem? (i := 10) rfl) rfl
theorem se_X11_evening : Cond.selects RX11 yX11_evening yX11_evening ∈ lw_g := aw5 (List.mem_of_getElem? (i := 11) rfl) rfl
theorem cw_RL_107 : cV RL Y_X11_evening 107 1 := ⟨cb_X11_evening, ml_RL_107, im_X11_evening, se_X11_evening⟩
theorem ml_RL_111 : Cond.methodLink RL 111 yX11_odds ∈ lw_g := aw5 (List.mem_of_getElem? (i := 13) rfl) rfl
theorem cb_X11_odds : cB Y_X11_odds 2 := ⟨aw5 (List.mem_of_getElem? (i := 16) rfl) rfl, in_RX11, ⟨by decide +kernel, by decide +kernel, by decide +kernel⟩, by decide⟩
theorem im_X11_odds : Cond.instanceMethod yX11_odds ∈ lw_g := aw5 (List.mem_of_getElem? (i := 14) rfl) rfl
theorem se_X11_odds : Cond.selects RX11 yX11_odds yX11_odds ∈ lw_g := aw5 (List.mem_of_getElem? (i := 15) rfl) rfl
theorem cw_RL_111 : cV RL Y_X11_odds 111 2 := ⟨cb_X11_odds, ml_RL_111, im_X11_odds, se_X11_odds⟩
theorem ml_RL_115 : Cond.methodLink RL 115 yX11_heads ∈ lw_g := aw5 (List.mem_of_getElem? (i := 17) rfl) rfl
theorem cb_X11_heads : cB Y_X11_heads 1 := ⟨aw5 (List.mem_of_getElem? (i := 20) rfl) rfl, in_RX11, ⟨by decide +kernel, by decide +kernel, by decide +kernel⟩, by decide⟩
theorem im_X11_heads : Cond.instanceMethod yX11_heads ∈ lw_g := aw5 (List.mem_of_getElem? (i := 18) rfl) rfl
theorem se_X11_heads : Cond.selects RX11 yX11_heads yX11_heads ∈ lw_g := aw5 (List.mem_of_getElem? (i := 19) rfl) rfl
theorem cw_RL_115 : cV RL Y_X11_heads 115 1 := ⟨cb_X11_heads, ml_RL_115, im_X11_heads, se_X11_heads⟩
theorem ml_RL_119 : Cond.methodLink RL 119 yX11_stayed ∈ lw_g := aw5 (List.mem_of_getElem? (i := 21) rfl) rfl
theorem cb_X11_stayed : cB Y_X11_stayed 2 := ⟨aw5 (List.mem_of_getElem? (i := 24) rfl) rfl, in_RX11, ⟨by decide +kernel, by decide +kernel, by decide +kernel⟩, by decide⟩
theorem im_X11_stayed : Cond.instanceMethod yX11_stayed ∈ lw_g := aw5 (List.mem_of_getElem? (i := 22) rfl) rfl
theorem se_X11_stayed : Cond.selects RX11 yX11_stayed yX11_stayed ∈ lw_g := aw5 (List.mem_of_getElem? (i := 23) rfl) rfl
theorem cw_RL_119 : cV RL Y_X11_stayed 119 2 := ⟨cb_X11_stayed, ml_RL_119, im_X11_stayed, se_X11_stayed⟩
theorem ml_RX11_276 : Cond.methodLink RX11 276 yX4_headsCould ∈ lw_g := aw5 (List.mem_of_getElem? (i := 25) rfl) rfl
theorem cb_X4_headsCould : cB Y_X4_headsCould 2 := ⟨aw5 (List.mem_of_getElem? (i := 28) rfl) rfl, in_RX4, ⟨by decide +kernel, by decide +kernel, by decide +kernel⟩, by decide⟩
theorem im_X4_headsCould : Cond.instanceMethod yX4_headsCould ∈ lw_g := aw5 (List.mem_of_getElem? (i := 26) rfl) rfl
theorem se_X4_headsCould : Cond.selects RX4 yX4_headsCould yX4_headsCould ∈ lw_g := aw5 (List.mem_of_getElem? (i := 27) rfl) rfl
theorem cw_RX11_276 : cV RX11 Y_X4_headsCould 276 2 := ⟨cb_X4_headsCould, ml_RX11_276, im_X4_headsCould, se_X4_headsCould⟩
theorem ml_RL_123 : Cond.methodLink RL 123 yX11_were ∈ lw_g := aw5 (List.mem_of_getElem? (i := 29) rfl) rfl
theorem cb_X11_were : cB Y_X11_were 1 := ⟨aw5 (List.mem_of_getElem? (i := 32) rfl) rfl, in_RX11, ⟨by decide +kernel, by decide +kernel, by decide +kernel⟩, by decide⟩
theorem im_X11_were : Cond.instanceMethod yX11_were ∈ lw_g := aw5 (List.mem_of_getElem? (i := 30) rfl) rfl
theorem se_X11_were : Cond.selects RX11 yX11_were yX11_were ∈ lw_g := aw5 (List.mem_of_getElem? (i := 31) rfl) rfl
theorem cw_RL_123 : cV RL Y_X11_were 123 1 := ⟨cb_X11_were, ml_RL_123, im_X11_were, se_X11_were⟩
theorem ml_RX11_282 : Cond.methodLink RX11 282 yX1_likely ∈ lw_g := aw5 (List.mem_of_getElem? (i := 33) rfl) rfl
theorem cb_X1_likely : cB Y_X1_likely 1 := ⟨aw5 (List.mem_of_getElem? (i := 36) rfl) rfl, in_RX1, ⟨by decide +kernel, by decide +kernel, by decide +kernel⟩, by decide⟩
theorem im_X1_likely : Cond.instanceMethod yX1_likely ∈ lw_g := aw5 (List.mem_of_getElem? (i := 34) rfl) rfl
theorem se_X1_likely : Cond.selects RX1 yX1_likely yX1_likely ∈ lw_g := aw5 (List.mem_of_getElem? (i := 35) rfl) rfl
theorem cw_RX11_282 : cV RX11 Y_X1_likely 282 1 := ⟨cb_X1_likely, ml_RX11_282, im_X1_likely, se_X1_likely⟩
theorem ml_RX1_53 : Cond.methodLink RX1 53 yX1_begin ∈ lw_g := aw5 (List.mem_of_getElem? (i := 37) rfl) rfl
theorem cb_X1_begin : cB Y_X1_begin 1 := ⟨aw5 (List.mem_of_getElem? (i := 40) rfl) rfl, in_RX1, ⟨by decide +kernel, by decide +kernel, by decide +kernel⟩, by decide⟩
theorem im_X1_begin : Cond.instanceMethod yX1_begin ∈ lw_g := aw5 (List.mem_of_getElem? (i := 39) rfl) rfl
theorem se_X1_begin : Cond.selects RX1 yX1_begin yX1_begin ∈ lw_g := aw0 (List.mem_of_getElem? (i := 21) rfl) rfl
theorem cw_RX1_53 : cV RX1 Y_X1_begin 53 1 := ⟨cb_X1_begin, ml_RX1_53, im_X1_begin, se_X1_begin⟩
theorem ml_RX1_66 : Cond.methodLink RX1 66 yJ7_fill_d0a16 ∈ lw_g := aw5 (List.mem_of_getElem? (i := 41) rfl) rfl
theorem cw_RX1_66 : cS RX1 Y_J7_fill_d0a16 66 2 := ⟨cb_J7_fill_d0a16, ml_RX1_66, st_J7_fill_d0a16⟩
theorem ml_RX1_88 : Cond.methodLink RX1 88 yX1_isWay ∈ lw_g := aw5 (List.mem_of_getElem? (i := 42) rfl) rfl
theorem cb_X1_isWay : cB Y_X1_isWay 2 := ⟨aw5 (List.mem_of_getElem? (i := 44) rfl) rfl, in_RX1, ⟨by decide +kernel, by decide +kernel, by decide +kernel⟩, by decide⟩
theorem st_X1_isWay : Cond.static yX1_isWay ∈ lw_g := aw5 (List.mem_of_getElem? (i := 43) rfl) rfl
theorem cw_RX1_88 : cS RX1 Y_X1_isWay 88 2 := ⟨cb_X1_isWay, ml_RX1_88, st_X1_isWay⟩
theorem ml_RX1_57 : Cond.methodLink RX1 57 (⟨"java/lang/System", "arraycopy", "(Ljava/lang/Object;ILjava/lang/Object;II)V"⟩ : MethodName) ∈ lw_g := aw5 (List.mem_of_getElem? (i := 45) rfl) rfl
theorem ml_RX1_63 : Cond.methodLink RX1 63 yX1_stepBack ∈ lw_g := aw5 (List.mem_of_getElem? (i := 46) rfl) rfl
theorem cb_X1_stepBack : cB Y_X1_stepBack 1 := ⟨aw5 (List.mem_of_getElem? (i := 49) rfl) rfl, in_RX1, ⟨by decide +kernel, by decide +kernel, by decide +kernel⟩, by decide⟩
theorem im_X1_stepBack : Cond.instanceMethod yX1_stepBack ∈ lw_g := aw5 (List.mem_of_getElem? (i := 48) rfl) rfl
theorem se_X1_stepBack : Cond.selects RX1 yX1_stepBack yX1_stepBack ∈ lw_g := aw0 (List.mem_of_getElem? (i := 22) rfl) rfl
theorem cw_RX1_63 : cV RX1 Y_X1_stepBack 63 1 := ⟨cb_X1_stepBack, ml_RX1_63, im_X1_stepBack, se_X1_stepBack⟩
theorem ml_RX1_98 : Cond.methodLink RX1 98 yX0_about ∈ lw_g := aw5 (List.mem_of_getElem? (i := 50) rfl) rfl
theorem cw_RX1_98 : cV RX1 Y_X0_about 98 7 := ⟨cb_X0_about, ml_RX1_98, im_X0_about, se_X0_about⟩
theorem ml_RX1_104 : Cond.methodLink RX1 104 yX0_tells ∈ lw_g := aw5 (List.mem_of_getElem? (i := 51) rfl) rfl
theorem cw_RX1_104 : cV RX1 Y_X0_tells 104 1 := ⟨cb_X0_tells, ml_RX1_104, im_X0_tells, se_X0_tells⟩
theorem ml_RX1_108 : Cond.methodLink RX1 108 yX2_spread ∈ lw_g := aw5 (List.mem_of_getElem? (i := 52) rfl) rfl
theorem cw_RX1_108 : cS RX1 Y_X2_spread 108 3 := ⟨cb_X2_spread, ml_RX1_108, st_X2_spread⟩
theorem ml_RX1_112 : Cond.methodLink RX1 112 yX1_addWays ∈ lw_g := aw5 (List.mem_of_getElem? (i := 53) rfl) rfl
theorem cb_X1_addWays : cB Y_X1_addWays 3 := ⟨aw5 (List.mem_of_getElem? (i := 56) rfl) rfl, in_RX1, ⟨by decide +kernel, by decide +kernel, by decide +kernel⟩, by decide⟩
theorem im_X1_addWays : Cond.instanceMethod yX1_addWays ∈ lw_g := aw5 (List.mem_of_getElem? (i := 55) rfl) rfl
theorem se_X1_addWays : Cond.selects RX1 yX1_addWays yX1_addWays ∈ lw_g := aw0 (List.mem_of_getElem? (i := 23) rfl) rfl
theorem cw_RX1_112 : cV RX1 Y_X1_addWays 112 3 := ⟨cb_X1_addWays, ml_RX1_112, im_X1_addWays, se_X1_addWays⟩
theorem ml_RX1_72 : Cond.methodLink RX1 72 yX2_addTimes ∈ lw_g := aw5 (List.mem_of_getElem? (i := 57) rfl) rfl
theorem cw_RX1_72 : cS RX1 Y_X2_addTimes 72 5 := ⟨cb_X2_addTimes, ml_RX1_72, st_X2_addTimes⟩
theorem ml_RX1_76 : Cond.methodLink RX1 76 yX2_carry ∈ lw_g := aw5 (List.mem_of_getElem? (i := 58) rfl) rfl
theorem cw_RX1_76 : cS RX1 Y_X2_carry 76 1 := ⟨cb_X2_carry, ml_RX1_76, st_X2_carry⟩
theorem ml_RX1_80 : Cond.methodLink RX1 80 yX2_compare ∈ lw_g := aw5 (List.mem_of_getElem? (i := 59) rfl) rfl
theorem cw_RX1_80 : cS RX1 Y_X2_compare 80 4 := ⟨cb_X2_compare, ml_RX1_80, st_X2_compare⟩
theorem ml_RX1_84 : Cond.methodLink RX1 84 yX1_millionths ∈ lw_g := aw5 (List.mem_of_getElem? (i := 60) rfl) rfl
theorem cb_X1_millionths : cB Y_X1_millionths 0 := ⟨aw5 (List.mem_of_getElem? (i := 63) rfl) rfl, in_RX1, ⟨by decide +kernel, by decide +kernel, by decide +kernel⟩, by decide⟩
theorem im_X1_millionths : Cond.instanceMethod yX1_millionths ∈ lw_g := aw5 (List.mem_of_getElem? (i := 62) rfl) rfl
theorem se_X1_millionths : Cond.selects RX1 yX1_millionths yX1_millionths ∈ lw_g := aw0 (List.mem_of_getElem? (i := 24) rfl) rfl
theorem cw_RX1_84 : cV RX1 Y_X1_millionths 84 0 := ⟨cb_X1_millionths, ml_RX1_84, im_X1_millionths, se_X1_millionths⟩
theorem ml_RX1_116 : Cond.methodLink RX1 116 yX2_subtract ∈ lw_g := aw5 (List.mem_of_getElem? (i := 64) rfl) rfl
theorem cw_RX1_116 : cS RX1 Y_X2_subtract 116 2 := ⟨cb_X2_subtract, ml_RX1_116, st_X2_subtract⟩
theorem ml_RL_127 : Cond.methodLink RL 127 yX11_run ∈ lw_g := aw5 (List.mem_of_getElem? (i := 66) rfl) rfl
theorem cb_X11_run : cB Y_X11_run 2 := ⟨aw5 (List.mem_of_getElem? (i := 69) rfl) rfl, in_RX11, ⟨by decide +kernel, by decide +kernel, by decide +kernel⟩, by decide⟩
theorem im_X11_run : Cond.instanceMethod yX11_run ∈ lw_g := aw5 (List.mem_of_getElem? (i := 67) rfl) rfl
theorem se_X11_run : Cond.selects RX11 yX11_run yX11_run ∈ lw_g := aw5 (List.mem_of_getElem? (i := 68) rfl) rfl
theorem cw_RL_127 : cV RL Y_X11_run 127 2 := ⟨cb_X11_run, ml_RL_127, im_X11_run, se_X11_run⟩
theorem ml_RX11_289 : Cond.methodLink RX11 289 yX10_plays ∈ lw_g := aw5 (List.mem_of_getElem? (i := 71) rfl) rfl
theorem cb_X10_plays : cB Y_X10_plays 3 := ⟨aw5 (List.mem_of_getElem? (i := 74) rfl) rfl, in_RX10, ⟨by decide +kernel, by decide +kernel, by decide +kernel⟩, by decide⟩
theorem im_X10_plays : Cond.instanceMethod yX10_plays ∈ lw_g := aw5 (List.mem_of_getElem? (i := 72) rfl) rfl
theorem se_X10_plays : Cond.selects RX10 yX10_plays yX10_plays ∈ lw_g := aw5 (List.mem_of_getElem? (i := 73) rfl) rfl
theorem cw_RX11_289 : cV RX11 Y_X10_plays 289 3 := ⟨cb_X10_plays, ml_RX11_289, im_X10_plays, se_X10_plays⟩
theorem ml_RX10_55 : Cond.methodLink RX10 55 yX3_choose ∈ lw_g := aw5 (List.mem_of_getElem? (i := 75) rfl) rfl
theorem cw_RX10_55 : cV RX10 Y_X3_choose 55 5 := ⟨cb_X3_choose, ml_RX10_55, im_X3_choose, se_X3_choose⟩
theorem ml_RX10_61 : Cond.methodLink RX10 61 yX4_isEnd ∈ lw_g := aw5 (List.mem_of_getElem? (i := 76) rfl) rfl
theorem cw_RX10_61 : cV RX10 Y_X4_isEnd 61 1 := ⟨cb_X4_isEnd, ml_RX10_61, im_X4_isEnd, se_X4_isEnd⟩
theorem ml_RX10_67 : Cond.methodLink RX10 67 yX8_told ∈ lw_g := aw5 (List.mem_of_getElem? (i := 77) rfl) rfl
theorem cw_RX10_67 : cV RX10 Y_X8_told 67 5 := ⟨cb_X8_told, ml_RX10_67, im_X8_told, se_X8_told⟩
theorem ml_RX10_72 : Cond.methodLink RX10 72 yX8_chanceOf ∈ lw_g := aw5 (List.mem_of_getElem? (i := 78) rfl) rfl
theorem cw_RX10_72 : cS RX10 Y_X8_chanceOf 72 2 := ⟨cb_X8_chanceOf, ml_RX10_72, st_X8_chanceOf⟩
theorem ml_RX10_76 : Cond.methodLink RX10 76 yX10_staying ∈ lw_g := aw5 (List.mem_of_getElem? (i := 79) rfl) rfl
theorem cb_X10_staying : cB Y_X10_staying 2 := ⟨aw5 (List.mem_of_getElem? (i := 82) rfl) rfl, in_RX10, ⟨by decide +kernel, by decide +kernel, by decide +kernel⟩, by decide⟩
theorem im_X10_staying : Cond.instanceMethod yX10_staying ∈ lw_g := aw5 (List.mem_of_getElem? (i := 81) rfl) rfl
theorem se_X10_staying : Cond.selects RX10 yX10_staying yX10_staying ∈ lw_g := aw0 (List.mem_of_getElem? (i := 25) rfl) rfl
theorem cw_RX10_76 : cV RX10 Y_X10_staying 76 2 := ⟨cb_X10_staying, ml_RX10_76, im_X10_staying, se_X10_staying⟩
theorem ml_RX10_85 : Cond.methodLink RX10 85 yX10_draw ∈ lw_g := aw5 (List.mem_of_getElem? (i := 83) rfl) rfl
theorem cb_X10_draw : cB Y_X10_draw 1 := ⟨aw5 (List.mem_of_getElem? (i := 86) rfl) rfl, in_RX10, ⟨by decide +kernel, by decide +kernel, by decide +kernel⟩, by decide⟩
theorem im_X10_draw : Cond.instanceMethod yX10_draw ∈ lw_g := aw5 (List.mem_of_getElem? (i := 85) rfl) rfl
theorem se_X10_draw : Cond.selects RX10 yX10_draw yX10_draw ∈ lw_g := aw0 (List.mem_of_getElem? (i := 26) rfl) rfl
theorem cw_RX10_85 : cV RX10 Y_X10_draw 85 1 := ⟨cb_X10_draw, ml_RX10_85, im_X10_draw, se_X10_draw⟩
theorem ml_RL_131 : Cond.methodLink RL 131 yX11_ran ∈ lw_g := aw5 (List.mem_of_getElem? (i := 88) rfl) rfl
theorem cb_X11_ran : cB Y_X11_ran 2 := ⟨aw5 (List.mem_of_getElem? (i := 91) rfl) rfl, in_RX11, ⟨by decide +kernel, by decide +kernel, by decide +kernel⟩, by decide⟩
theorem im_X11_ran : Cond.instanceMethod yX11_ran ∈ lw_g := aw5 (List.mem_of_getElem? (i := 89) rfl) rfl
theorem se_X11_ran : Cond.selects RX11 yX11_ran yX11_ran ∈ lw_g := aw5 (List.mem_of_getElem? (i := 90) rfl) rfl
theorem cw_RL_131 : cV RL Y_X11_ran 131 2 := ⟨cb_X11_ran, ml_RL_131, im_X11_ran, se_X11_ran⟩
theorem ml_RL_135 : Cond.methodLink RL 135 yX11_nights ∈ lw_g := aw5 (List.mem_of_getElem? (i := 92) rfl) rfl
theorem cb_X11_nights : cB Y_X11_nights 4 := ⟨aw5 (List.mem_of_getElem? (i := 95) rfl) rfl, in_RX11, ⟨by decide +kernel, by decide +kernel, by decide +kernel⟩, by decide⟩
theorem im_X11_nights : Cond.instanceMethod yX11_nights ∈ lw_g := aw5 (List.mem_of_getElem? (i := 93) rfl) rfl
theorem se_X11_nights : Cond.selects RX11 yX11_nights yX11_nights ∈ lw_g := aw5 (List.mem_of_getElem? (i := 94) rfl) rfl
theorem cw_RL_135 : cV RL Y_X11_nights 135 4 := ⟨cb_X11_nights, ml_RL_135, im_X11_nights, se_X11_nights⟩
theorem ml_RX11_303 : Cond.methodLink RX11 303 yX10_playsNights ∈ lw_g := aw5 (List.mem_of_getElem? (i := 96) rfl) rfl
theorem cb_X10_playsNights : cB Y_X10_playsNights 2 := ⟨aw5 (List.mem_of_getElem? (i := 99) rfl) rfl, in_RX10, ⟨by decide +kernel, by decide +kernel, by decide +kernel⟩, by decide⟩
theorem im_X10_playsNights : Cond.instanceMethod yX10_playsNights ∈ lw_g := aw5 (List.mem_of_getElem? (i := 97) rfl) rfl
theorem se_X10_playsNights : Cond.selects RX10 yX10_playsNights yX10_playsNights ∈ lw_g := aw5 (List.mem_of_getElem? (i := 98) rfl) rfl
theorem cw_RX11_303 : cV RX11 Y_X10_playsNights 303 2 := ⟨cb_X10_playsNights, ml_RX11_303, im_X10_playsNights, se_X10_playsNights⟩
theorem ml_RX10_89 : Cond.methodLink RX10 89 yJ9_min_7cf53 ∈ lw_g := aw5 (List.mem_of_getElem? (i := 100) rfl) rfl
theorem cw_RX10_89 : cS RX10 Y_J9_min_7cf53 89 2 := ⟨cb_J9_min_7cf53, ml_RX10_89, st_J9_min_7cf53⟩
theorem cw_RX10_98 : cVN RX10 Y_X9_settle 98 5 := ⟨cb_X9_settle, fun G U h => by first | exact h.2.1 | exact h.2.2.2.1 | exact h.2.2.2.2.1, im_X9_settle, se_X9_settle⟩
theorem ml_RX10_104 : Cond.methodLink RX10 104 yX10_plays ∈ lw_g := aw5 (List.mem_of_getElem? (i := 102) rfl) rfl
theorem cw_RX10_104 : cV RX10 Y_X10_plays 104 3 := ⟨cb_X10_plays, ml_RX10_104, im_X10_plays, se_X10_plays⟩
theorem ml_RL_140 : Cond.methodLink RL 140 yX11_image ∈ lw_g := aw5 (List.mem_of_getElem? (i := 103) rfl) rfl
theorem cb_X11_image : cB Y_X11_image 1 := ⟨aw5 (List.mem_of_getElem? (i := 106) rfl) rfl, in_RX11, ⟨by decide +kernel, by decide +kernel, by decide +kernel⟩, by decide⟩
theorem im_X11_image : Cond.instanceMethod yX11_image ∈ lw_g := aw5 (List.mem_of_getElem? (i := 104) rfl) rfl
theorem se_X11_image : Cond.selects RX11 yX11_image yX11_image ∈ lw_g := aw5 (List.mem_of_getElem? (i := 105) rfl) rfl
theorem cw_RL_140 : cV RL Y_X11_image 140 1 := ⟨cb_X11_image, ml_RL_140, im_X11_image, se_X11_image⟩
theorem ml_RX11_316 : Cond.methodLink RX11 316 yX4_becomes ∈ lw_g := aw5 (List.mem_of_getElem? (i := 107) rfl) rfl
theorem cb_X4_becomes : cB Y_X4_becomes 1 := ⟨aw5 (List.mem_of_getElem? (i := 110) rfl) rfl, in_RX4, ⟨by decide +kernel, by decide +kernel, by decide +kernel⟩, by decide⟩
theorem im_X4_becomes : Cond.instanceMethod yX4_becomes ∈ lw_g := aw5 (List.mem_of_getElem? (i := 108) rfl) rfl
theorem se_X4_becomes : Cond.selects RX4 yX4_becomes yX4_becomes ∈ lw_g := aw5 (List.mem_of_getElem? (i := 109) rfl) rfl
theorem cw_RX11_316 : cV RX11 Y_X4_becomes 316 1 := ⟨cb_X4_becomes, ml_RX11_316, im_X4_becomes, se_X4_becomes⟩
theorem ml_RX4_68 : Cond.methodLink RX4 68 (⟨"java/lang/System", "arraycopy", "(Ljava/lang/Object;ILjava/lang/Object;II)V"⟩ : MethodName) ∈ lw_g := aw5 (List.mem_of_getElem? (i := 111) rfl) rfl
theorem ml_RL_144 : Cond.methodLink RL 144 yX11_back ∈ lw_g := aw5 (List.mem_of_getElem? (i := 112) rfl) rfl
theorem cb_X11_back : cB Y_X11_back 1 := ⟨aw5 (List.mem_of_getElem? (i := 115) rfl) rfl, in_RX11, ⟨by decide +kernel, by decide +kernel, by decide +kernel⟩, by decide⟩
theorem im_X11_back : Cond.instanceMethod yX11_back ∈ lw_g := aw5 (List.mem_of_getElem? (i := 113) rfl) rfl
theorem se_X11_back : Cond.selects RX11 yX11_back yX11_back ∈ lw_g := aw5 (List.mem_of_getElem? (i := 114) rfl) rfl
theorem cw_RL_144 : cV RL Y_X11_back 144 1 := ⟨cb_X11_back, ml_RL_144, im_X11_back, se_X11_back⟩
theorem ml_RL_148 : Cond.methodLink RL 148 yX11_count ∈ lw_g := aw5 (List.mem_of_getElem? (i := 116) rfl) rfl
theorem cb_X11_count : cB Y_X11_count 1 := ⟨aw5 (List.mem_of_getElem? (i := 119) rfl) rfl, in_RX11, ⟨by decide +kernel, by decide +kernel, by decide +kernel⟩, by decide⟩
theorem im_X11_count : Cond.instanceMethod yX11_count ∈ lw_g := aw5 (List.mem_of_getElem? (i := 117) rfl) rfl
theorem se_X11_count : Cond.selects RX11 yX11_count yX11_count ∈ lw_g := aw5 (List.mem_of_getElem? (i := 118) rfl) rfl
theorem cw_RL_148 : cV RL Y_X11_count 148 1 := ⟨cb_X11_count, ml_RL_148, im_X11_count, se_X11_count⟩
theorem ml_RL_152 : Cond.methodLink RL 152 yX11_status ∈ lw_g := aw5 (List.mem_of_getElem? (i := 120) rfl) rfl
theorem cb_X11_status : cB Y_X11_status 0 := ⟨aw5 (List.mem_of_getElem? (i := 123) rfl) rfl, in_RX11, ⟨by decide +kernel, by decide +kernel, by decide +kernel⟩, by decide⟩
theorem im_X11_status : Cond.instanceMethod yX11_status ∈ lw_g := aw5 (List.mem_of_getElem? (i := 121) rfl) rfl
theorem se_X11_status : Cond.selects RX11 yX11_status yX11_status ∈ lw_g := aw5 (List.mem_of_getElem? (i := 122) rfl) rfl
theorem cw_RL_152 : cV RL Y_X11_status 152 0 := ⟨cb_X11_status, ml_RL_152, im_X11_status, se_X11_status⟩
theorem ml_RL_12 : Cond.methodLink RL 12 yX12_init ∈ lw_g := aw5 (List.mem_of_getElem? (i := 126) rfl) rfl
theorem cb_X12_init : cB Y_X12_init 0 := ⟨aw5 (List.mem_of_getElem? (i := 128) rfl) rfl, in_RX12, ⟨by decide +kernel, by decide +kernel, by decide +kernel⟩, by decide⟩
theorem im_X12_init : Cond.instanceMethod yX12_init ∈ lw_g := aw5 (List.mem_of_getElem? (i := 127) rfl) rfl
theorem cw_RL_12 : cI RL Y_X12_init 12 0 := ⟨cb_X12_init, ml_RL_12, im_X12_init, rfl, rfl⟩
theorem ml_RX12_1 : Cond.methodLink RX12 1 (⟨"java/lang/Object", "<init>", "()V"⟩ : MethodName) ∈ lw_g := aw5 (List.mem_of_getElem? (i := 129) rfl) rfl
theorem ml_RL_143 : Cond.methodLink RL 143 yX12_image ∈ lw_g := aw6 (List.mem_of_getElem? (i := 62) rfl) rfl
theorem cb_X12_image : cB Y_X12_image 1 := ⟨aw6 (List.mem_of_getElem? (i := 65) rfl) rfl, in_RX12, ⟨by decide +kernel, by decide +kernel, by decide +kernel⟩, by decide⟩
theorem im_X12_image : Cond.instanceMethod yX12_image ∈ lw_g := aw6 (List.mem_of_getElem? (i := 63) rfl) rfl
theorem se_X12_image : Cond.selects RX12 yX12_image yX12_image ∈ lw_g := aw6 (List.mem_of_getElem? (i := 64) rfl) rfl
theorem cw_RL_143 : cV RL Y_X12_image 143 1 := ⟨cb_X12_image, ml_RL_143, im_X12_image, se_X12_image⟩
theorem ml_RX12_125 : Cond.methodLink RX12 125 yX12_in ∈ lw_g := aw6 (List.mem_of_getElem? (i := 66) rfl) rfl
theorem cb_X12_in : cB Y_X12_in 3 := ⟨aw6 (List.mem_of_getElem? (i := 68) rfl) rfl, in_RX12, ⟨by decide +kernel, by decide +kernel, by decide +kernel⟩, by decide⟩
theorem st_X12_in : Cond.static yX12_in ∈ lw_g := aw6 (List.mem_of_getElem? (i := 67) rfl) rfl
theorem cw_RX12_125 : cS RX12 Y_X12_in 125 3 := ⟨cb_X12_in, ml_RX12_125, st_X12_in⟩
theorem ml_RX12_129 : Cond.methodLink RX12 129 yX12_tell ∈ lw_g := aw6 (List.mem_of_getElem? (i := 69) rfl) rfl
theorem cb_X12_tell : cB Y_X12_tell 1 := ⟨aw6 (List.mem_of_getElem? (i := 72) rfl) rfl, in_RX12, ⟨by decide +kernel, by decide +kernel, by decide +kernel⟩, by decide⟩
theorem im_X12_tell : Cond.instanceMethod yX12_tell ∈ lw_g := aw6 (List.mem_of_getElem? (i := 71) rfl) rfl
theorem se_X12_tell : Cond.selects RX12 yX12_tell yX12_tell ∈ lw_g := aw0 (List.mem_of_getElem? (i := 27) rfl) rfl
theorem cw_RX12_129 : cV RX12 Y_X12_tell 129 1 := ⟨cb_X12_tell, ml_RX12_129, im_X12_tell, se_X12_tell⟩
theorem ml_RL_147 : Cond.methodLink RL 147 yX12_back ∈ lw_g := aw6 (List.mem_of_getElem? (i := 73) rfl) rfl
theorem cb_X12_back : cB Y_X12_back 1 := ⟨aw6 (List.mem_of_getElem? (i := 76) rfl) rfl, in_RX12, ⟨by decide +kernel, by decide +kernel, by decide +kernel⟩, by decide⟩
theorem im_X12_back : Cond.instanceMethod yX12_back ∈ lw_g := aw6 (List.mem_of_getElem? (i := 74) rfl) rfl
theorem se_X12_back : Cond.selects RX12 yX12_back yX12_back ∈ lw_g := aw6 (List.mem_of_getElem? (i := 75) rfl) rfl
theorem cw_RL_147 : cV RL Y_X12_back 147 1 := ⟨cb_X12_back, ml_RL_147, im_X12_back, se_X12_back⟩
theorem ml_RL_17 : Cond.methodLink RL 17 yX12_scene ∈ lw_g := aw6 (List.mem_of_getElem? (i := 77) rfl) rfl
theorem cb_X12_scene : cB Y_X12_scene 3 := ⟨aw6 (List.mem_of_getElem? (i := 80) rfl) rfl, in_RX12, ⟨by decide +kernel, by decide +kernel, by decide +kernel⟩, by decide⟩
theorem im_X12_scene : Cond.instanceMethod yX12_scene ∈ lw_g := aw6 (List.mem_of_getElem? (i := 78) rfl) rfl
theorem se_X12_scene : Cond.selects RX12 yX12_scene yX12_scene ∈ lw_g := aw6 (List.mem_of_getElem? (i := 79) rfl) rfl
theorem cw_RL_17 : cV RL Y_X12_scene 17 3 := ⟨cb_X12_scene, ml_RL_17, im_X12_scene, se_X12_scene⟩
theorem ml_RX12_142 : Cond.methodLink RX12 142 yX12_fits ∈ lw_g := aw6 (List.mem_of_getElem? (i := 81) rfl) rfl
theorem cb_X12_fits : cB Y_X12_fits 3 := ⟨aw6 (List.mem_of_getElem? (i := 83) rfl) rfl, in_RX12, ⟨by decide +kernel, by decide +kernel, by decide +kernel⟩, by decide⟩
theorem st_X12_fits : Cond.static yX12_fits ∈ lw_g := aw6 (List.mem_of_getElem? (i := 82) rfl) rfl
theorem cw_RX12_142 : cS RX12 Y_X12_fits 142 3 := ⟨cb_X12_fits, ml_RX12_142, st_X12_fits⟩
theorem ml_RX12_138 : Cond.methodLink RX12 138 yX12_is ∈ lw_g := aw6 (List.mem_of_getElem? (i := 87) rfl) rfl
theorem cb_X12_is : cB Y_X12_is 2 := ⟨aw6 (List.mem_of_getElem? (i := 89) rfl) rfl, in_RX12, ⟨by decide +kernel, by decide +kernel, by decide +kernel⟩, by decide⟩
theorem st_X12_is : Cond.static yX12_is ∈ lw_g := aw6 (List.mem_of_getElem? (i := 88) rfl) rfl
theorem cw_RX12_138 : cS RX12 Y_X12_is 138 2 := ⟨cb_X12_is, ml_RX12_138, st_X12_is⟩
theorem ml_RX12_146 : Cond.methodLink RX12 146 yX12_addScene ∈ lw_g := aw6 (List.mem_of_getElem? (i := 90) rfl) rfl
theorem cb_X12_addScene : cB Y_X12_addScene 3 := ⟨aw6 (List.mem_of_getElem? (i := 93) rfl) rfl, in_RX12, ⟨by decide +kernel, by decide +kernel, by decide +kernel⟩, by decide⟩
theorem im_X12_addScene : Cond.instanceMethod yX12_addScene ∈ lw_g := aw6 (List.mem_of_getElem? (i := 92) rfl) rfl
theorem se_X12_addScene : Cond.selects RX12 yX12_addScene yX12_addScene ∈ lw_g := aw0 (List.mem_of_getElem? (i := 28) rfl) rfl
theorem cw_RX12_146 : cV RX12 Y_X12_addScene 146 3 := ⟨cb_X12_addScene, ml_RX12_146, im_X12_addScene, se_X12_addScene⟩
theorem ml_RL_21 : Cond.methodLink RL 21 yX12_put ∈ lw_g := aw6 (List.mem_of_getElem? (i := 94) rfl) rfl
theorem cb_X12_put : cB Y_X12_put 3 := ⟨aw6 (List.mem_of_getElem? (i := 97) rfl) rfl, in_RX12, ⟨by decide +kernel, by decide +kernel, by decide +kernel⟩, by decide⟩
theorem im_X12_put : Cond.instanceMethod yX12_put ∈ lw_g := aw6 (List.mem_of_getElem? (i := 95) rfl) rfl
theorem se_X12_put : Cond.selects RX12 yX12_put yX12_put ∈ lw_g := aw6 (List.mem_of_getElem? (i := 96) rfl) rfl
theorem cw_RL_21 : cV RL Y_X12_put 21 3 := ⟨cb_X12_put, ml_RL_21, im_X12_put, se_X12_put⟩
theorem ml_RX12_150 : Cond.methodLink RX12 150 yX12_isScene ∈ lw_g := aw6 (List.mem_of_getElem? (i := 98) rfl) rfl
theorem cb_X12_isScene : cB Y_X12_isScene 1 := ⟨aw6 (List.mem_of_getElem? (i := 101) rfl) rfl, in_RX12, ⟨by decide +kernel, by decide +kernel, by decide +kernel⟩, by decide⟩
theorem im_X12_isScene : Cond.instanceMethod yX12_isScene ∈ lw_g := aw6 (List.mem_of_getElem? (i := 100) rfl) rfl
theorem se_X12_isScene : Cond.selects RX12 yX12_isScene yX12_isScene ∈ lw_g := aw0 (List.mem_of_getElem? (i := 29) rfl) rfl
theorem cw_RX12_150 : cV RX12 Y_X12_isScene 150 1 := ⟨cb_X12_isScene, ml_RX12_150, im_X12_isScene, se_X12_isScene⟩
theorem ml_RX12_154 : Cond.methodLink RX12 154 yX12_change ∈ lw_g := aw6 (List.mem_of_getElem? (i := 102) rfl) rfl
theorem cb_X12_change : cB Y_X12_change 2 := ⟨aw6 (List.mem_of_getElem? (i := 105) rfl) rfl, in_RX12, ⟨by decide +kernel, by decide +kernel, by decide +kernel⟩, by decide⟩
theorem im_X12_change : Cond.instanceMethod yX12_change ∈ lw_g := aw6 (List.mem_of_getElem? (i := 104) rfl) rfl
theorem se_X12_change : Cond.selects RX12 yX12_change yX12_change ∈ lw_g := aw0 (List.mem_of_getElem? (i := 30) rfl) rfl
theorem cw_RX12_154 : cV RX12 Y_X12_change 154 2 := ⟨cb_X12_change, ml_RX12_154, im_X12_change, se_X12_change⟩
theorem ml_RX12_121 : Cond.methodLink RX12 121 yX12_was ∈ lw_g := aw6 (List.mem_of_getElem? (i := 106) rfl) rfl
theorem cb_X12_was : cB Y_X12_was 1 := ⟨aw6 (List.mem_of_getElem? (i := 109) rfl) rfl, in_RX12, ⟨by decide +kernel, by decide +kernel, by decide +kernel⟩, by decide⟩
theorem im_X12_was : Cond.instanceMethod yX12_was ∈ lw_g := aw6 (List.mem_of_getElem? (i := 108) rfl) rfl
theorem se_X12_was : Cond.selects RX12 yX12_was yX12_was ∈ lw_g := aw0 (List.mem_of_getElem? (i := 31) rfl) rfl
theorem cw_RX12_121 : cV RX12 Y_X12_was 121 1 := ⟨cb_X12_was, ml_RX12_121, im_X12_was, se_X12_was⟩
theorem ml_RL_25 : Cond.methodLink RL 25 yX12_sort ∈ lw_g := aw6 (List.mem_of_getElem? (i := 110) rfl) rfl
theorem cb_X12_sort : cB Y_X12_sort 3 := ⟨aw6 (List.mem_of_getElem? (i := 113) rfl) rfl, in_RX12, ⟨by decide +kernel, by decide +kernel, by decide +kernel⟩, by decide⟩
theorem im_X12_sort : Cond.instanceMethod yX12_sort ∈ lw_g := aw6 (List.mem_of_getElem? (i := 111) rfl) rfl
theorem se_X12_sort : Cond.selects RX12 yX12_sort yX12_sort ∈ lw_g := aw6 (List.mem_of_getElem? (i := 112) rfl) rfl
theorem cw_RL_25 : cV RL Y_X12_sort 25 3 := ⟨cb_X12_sort, ml_RL_25, im_X12_sort, se_X12_sort⟩
theorem ml_RL_30 : Cond.methodLink RL 30 yX12_terms ∈ lw_g := aw6 (List.mem_of_getElem? (i := 117) rfl) rfl
theorem cb_X12_terms : cB Y_X12_terms 2 := ⟨aw6 (List.mem_of_getElem? (i := 120) rfl) rfl, in_RX12, ⟨by decide +kernel, by decide +kernel, by decide +kernel⟩, by decide⟩
theorem im_X12_terms : Cond.instanceMethod yX12_terms ∈ lw_g := aw6 (List.mem_of_getElem? (i := 118) rfl) rfl
theorem se_X12_terms : Cond.selects RX12 yX12_terms yX12_terms ∈ lw_g := aw6 (List.mem_of_getElem? (i := 119) rfl) rfl
theorem cw_RL_30 : cV RL Y_X12_terms 30 2 := ⟨cb_X12_terms, ml_RL_30, im_X12_terms, se_X12_terms⟩
theorem ml_RL_45 : Cond.methodLink RL 45 yX12_row ∈ lw_g := aw6 (List.mem_of_getElem? (i := 123) rfl) rfl
theorem cb_X12_row : cB Y_X12_row 0 := ⟨aw6 (List.mem_of_getElem? (i := 126) rfl) rfl, in_RX12, ⟨by decide +kernel, by decide +kernel, by decide +kernel⟩, by decide⟩
theorem im_X12_row : Cond.instanceMethod yX12_row ∈ lw_g := aw6 (List.mem_of_getElem? (i := 124) rfl) rfl
theorem se_X12_row : Cond.selects RX12 yX12_row yX12_row ∈ lw_g := aw6 (List.mem_of_getElem? (i := 125) rfl) rfl
theorem cw_RL_45 : cV RL Y_X12_row 45 0 := ⟨cb_X12_row, ml_RL_45, im_X12_row, se_X12_row⟩
theorem ml_RL_49 : Cond.methodLink RL 49 yX12_cut ∈ lw_g := aw6 (List.mem_of_getElem? (i := 127) rfl) rfl
theorem cb_X12_cut : cB Y_X12_cut 0 := ⟨aw6 (List.mem_of_getElem? (i := 130) rfl) rfl, in_RX12, ⟨by decide +kernel, by decide +kernel, by decide +kernel⟩, by decide⟩
theorem im_X12_cut : Cond.instanceMethod yX12_cut ∈ lw_g := aw6 (List.mem_of_getElem? (i := 128) rfl) rfl
theorem se_X12_cut : Cond.selects RX12 yX12_cut yX12_cut ∈ lw_g := aw6 (List.mem_of_getElem? (i := 129) rfl) rfl
theorem cw_RL_49 : cV RL Y_X12_cut 49 0 := ⟨cb_X12_cut, ml_RL_49, im_X12_cut, se_X12_cut⟩
theorem ml_RL_35 : Cond.methodLink RL 35 yX12_feed ∈ lw_g := aw6 (List.mem_of_getElem? (i := 131) rfl) rfl
theorem cb_X12_feed : cB Y_X12_feed 5 := ⟨aw6 (List.mem_of_getElem? (i := 134) rfl) rfl, in_RX12, ⟨by decide +kernel, by decide +kernel, by decide +kernel⟩, by decide⟩
theorem im_X12_feed : Cond.instanceMethod yX12_feed ∈ lw_g := aw6 (List.mem_of_getElem? (i := 132) rfl) rfl
theorem se_X12_feed : Cond.selects RX12 yX12_feed yX12_feed ∈ lw_g := aw6 (List.mem_of_getElem? (i := 133) rfl) rfl
theorem cw_RL_35 : cV RL Y_X12_feed 35 5 := ⟨cb_X12_feed, ml_RL_35, im_X12_feed, se_X12_feed⟩
theorem ml_RX12_174 : Cond.methodLink RX12 174 yX12_four ∈ lw_g := aw6 (List.mem_of_getElem? (i := 135) rfl) rfl
theorem cb_X12_four : cB Y_X12_four 1 := ⟨aw6 (List.mem_of_getElem? (i := 138) rfl) rfl, in_RX12, ⟨by decide +kernel, by decide +kernel, by decide +kernel⟩, by decide⟩
theorem im_X12_four : Cond.instanceMethod yX12_four ∈ lw_g := aw6 (List.mem_of_getElem? (i := 137) rfl) rfl
theorem se_X12_four : Cond.selects RX12 yX12_four yX12_four ∈ lw_g := aw0 (List.mem_of_getElem? (i := 32) rfl) rfl
theorem cw_RX12_174 : cV RX12 Y_X12_four 174 1 := ⟨cb_X12_four, ml_RX12_174, im_X12_four, se_X12_four⟩
theorem ml_RL_40 : Cond.methodLink RL 40 yX12_end ∈ lw_g := aw6 (List.mem_of_getElem? (i := 139) rfl) rfl
theorem cb_X12_end : cB Y_X12_end 1 := ⟨aw6 (List.mem_of_getElem? (i := 142) rfl) rfl, in_RX12, ⟨by decide +kernel, by decide +kernel, by decide +kernel⟩, by decide⟩
theorem im_X12_end : Cond.instanceMethod yX12_end ∈ lw_g := aw6 (List.mem_of_getElem? (i := 140) rfl) rfl
theorem se_X12_end : Cond.selects RX12 yX12_end yX12_end ∈ lw_g := aw6 (List.mem_of_getElem? (i := 141) rfl) rfl
theorem cw_RL_40 : cV RL Y_X12_end 40 1 := ⟨cb_X12_end, ml_RL_40, im_X12_end, se_X12_end⟩
theorem ml_RL_57 : Cond.methodLink RL 57 yX12_fault ∈ lw_g := aw6 (List.mem_of_getElem? (i := 143) rfl) rfl
theorem cb_X12_fault : cB Y_X12_fault 0 := ⟨aw6 (List.mem_of_getElem? (i := 146) rfl) rfl, in_RX12, ⟨by decide +kernel, by decide +kernel, by decide +kernel⟩, by decide⟩
theorem im_X12_fault : Cond.instanceMethod yX12_fault ∈ lw_g := aw6 (List.mem_of_getElem? (i := 144) rfl) rfl
theorem se_X12_fault : Cond.selects RX12 yX12_fault yX12_fault ∈ lw_g := aw6 (List.mem_of_getElem? (i := 145) rfl) rfl
theorem cw_RL_57 : cV RL Y_X12_fault 57 0 := ⟨cb_X12_fault, ml_RL_57, im_X12_fault, se_X12_fault⟩
theorem ml_RL_53 : Cond.methodLink RL 53 yX12_law ∈ lw_g := aw6 (List.mem_of_getElem? (i := 147) rfl) rfl
theorem cb_X12_law : cB Y_X12_law 0 := ⟨aw6 (List.mem_of_getElem? (i := 150) rfl) rfl, in_RX12, ⟨by decide +kernel, by decide +kernel, by decide +kernel⟩, by decide⟩
theorem im_X12_law : Cond.instanceMethod yX12_law ∈ lw_g := aw6 (List.mem_of_getElem? (i := 148) rfl) rfl
theorem se_X12_law : Cond.selects RX12 yX12_law yX12_law ∈ lw_g := aw6 (List.mem_of_getElem? (i := 149) rfl) rfl
theorem cw_RL_53 : cV RL Y_X12_law 53 0 := ⟨cb_X12_law, ml_RL_53, im_X12_law, se_X12_law⟩
theorem ml_RX12_310 : Cond.methodLink RX12 310 yX12_begin ∈ lw_g := aw6 (List.mem_of_getElem? (i := 151) rfl) rfl
theorem cb_X12_begin : cB Y_X12_begin 0 := ⟨aw6 (List.mem_of_getElem? (i := 154) rfl) rfl, in_RX12, ⟨by decide +kernel, by decide +kernel, by decide +kernel⟩, by decide⟩
theorem im_X12_begin : Cond.instanceMethod yX12_begin ∈ lw_g := aw6 (List.mem_of_getElem? (i := 153) rfl) rfl
theorem se_X12_begin : Cond.selects RX12 yX12_begin yX12_begin ∈ lw_g := aw0 (List.mem_of_getElem? (i := 33) rfl) rfl
theorem cw_RX12_310 : cV RX12 Y_X12_begin 310 0 := ⟨cb_X12_begin, ml_RX12_310, im_X12_begin, se_X12_begin⟩
theorem ml_RX12_185 : Cond.methodLink RX12 185 yX12_goOn ∈ lw_g := aw6 (List.mem_of_getElem? (i := 155) rfl) rfl
theorem cb_X12_goOn : cB Y_X12_goOn 0 := ⟨aw6 (List.mem_of_getElem? (i := 158) rfl) rfl, in_RX12, ⟨by decide +kernel, by decide +kernel, by decide +kernel⟩, by decide⟩
theorem im_X12_goOn : Cond.instanceMethod yX12_goOn ∈ lw_g := aw6 (List.mem_of_getElem? (i := 157) rfl) rfl
theorem se_X12_goOn : Cond.selects RX12 yX12_goOn yX12_goOn ∈ lw_g := aw0 (List.mem_of_getElem? (i := 34) rfl) rfl
theorem cw_RX12_185 : cV RX12 Y_X12_goOn 185 0 := ⟨cb_X12_goOn, ml_RX12_185, im_X12_goOn, se_X12_goOn⟩
theorem ml_RX12_195 : Cond.methodLink RX12 195 yX12_isSmall ∈ lw_g := aw6 (List.mem_of_getElem? (i := 159) rfl) rfl
theorem cb_X12_isSmall : cB Y_X12_isSmall 1 := ⟨aw6 (List.mem_of_getElem? (i := 161) rfl) rfl, in_RX12, ⟨by decide +kernel, by decide +kernel, by decide +kernel⟩, by decide⟩
theorem st_X12_isSmall : Cond.static yX12_isSmall ∈ lw_g := aw6 (List.mem_of_getElem? (i := 160) rfl) rfl
theorem cw_RX12_195 : cS RX12 Y_X12_isSmall 195 1 := ⟨cb_X12_isSmall, ml_RX12_195, st_X12_isSmall⟩
theorem ml_RX12_198 : Cond.methodLink RX12 198 yX12_isDigit ∈ lw_g := aw6 (List.mem_of_getElem? (i := 162) rfl) rfl
theorem cb_X12_isDigit : cB Y_X12_isDigit 1 := ⟨aw6 (List.mem_of_getElem? (i := 164) rfl) rfl, in_RX12, ⟨by decide +kernel, by decide +kernel, by decide +kernel⟩, by decide⟩
theorem st_X12_isDigit : Cond.static yX12_isDigit ∈ lw_g := aw6 (List.mem_of_getElem? (i := 163) rfl) rfl
theorem cw_RX12_198 : cS RX12 Y_X12_isDigit 198 1 := ⟨cb_X12_isDigit, ml_RX12_198, st_X12_isDigit⟩
theorem ml_RX12_313 : Cond.methodLink RX12 313 yX12_readClause ∈ lw_g := aw6 (List.mem_of_getElem? (i := 171) rfl) rfl
theorem cb_X12_readClause : cB Y_X12_readClause 0 := ⟨aw6 (List.mem_of_getElem? (i := 174) rfl) rfl, in_RX12, ⟨by decide +kernel, by decide +kernel, by decide +kernel⟩, by decide⟩
theorem im_X12_readClause : Cond.instanceMethod yX12_readClause ∈ lw_g := aw6 (List.mem_of_getElem? (i := 173) rfl) rfl
theorem se_X12_readClause : Cond.selects RX12 yX12_readClause yX12_readClause ∈ lw_g := aw0 (List.mem_of_getElem? (i := 35) rfl) rfl
theorem cw_RX12_313 : cV RX12 Y_X12_readClause 313 0 := ⟨cb_X12_readClause, ml_RX12_313, im_X12_readClause, se_X12_readClause⟩
theorem ml_RX12_241 : Cond.methodLink RX12 241 yX12_isWord ∈ lw_g := aw6 (List.mem_of_getElem? (i := 176) rfl) rfl
theorem cb_X12_isWord : cB Y_X12_isWord 1 := ⟨aw6 (List.mem_of_getElem? (i := 179) rfl) rfl, in_RX12, ⟨by decide +kernel, by decide +kernel, by decide +kernel⟩, by decide⟩
theorem im_X12_isWord : Cond.instanceMethod yX12_isWord ∈ lw_g := aw6 (List.mem_of_getElem? (i := 178) rfl) rfl
theorem se_X12_isWord : Cond.selects RX12 yX12_isWord yX12_isWord ∈ lw_g := aw0 (List.mem_of_getElem? (i := 36) rfl) rfl
theorem cw_RX12_241 : cV RX12 Y_X12_isWord 241 1 := ⟨cb_X12_isWord, ml_RX12_241, im_X12_isWord, se_X12_isWord⟩
theorem ml_RX12_216 : Cond.methodLink RX12 216 yX12_must ∈ lw_g := aw6 (List.mem_of_getElem? (i := 181) rfl) rfl
theorem cb_X12_must : cB Y_X12_must 1 := ⟨aw6 (List.mem_of_getElem? (i := 184) rfl) rfl, in_RX12, ⟨by decide +kernel, by decide +kernel, by decide +kernel⟩, by decide⟩
theorem im_X12_must : Cond.instanceMethod yX12_must ∈ lw_g := aw6 (List.mem_of_getElem? (i := 183) rfl) rfl
theorem se_X12_must : Cond.selects RX12 yX12_must yX12_must ∈ lw_g := aw0 (List.mem_of_getElem? (i := 37) rfl) rfl
theorem cw_RX12_216 : cV RX12 Y_X12_must 216 1 := ⟨cb_X12_must, ml_RX12_216, im_X12_must, se_X12_must⟩
theorem ml_RX12_305 : Cond.methodLink RX12 305 yX12_readExpression ∈ lw_g := aw6 (List.mem_of_getElem? (i := 185) rfl) rfl
theorem cb_X12_readExpression : cB Y_X12_readExpression 1 := ⟨aw6 (List.mem_of_getElem? (i := 188) rfl) rfl, in_RX12, ⟨by decide +kernel, by decide +kernel, by decide +kernel⟩, by decide⟩
theorem im_X12_readExpression : Cond.instanceMethod yX12_readExpression ∈ lw_g := aw6 (List.mem_of_getElem? (i := 187) rfl) rfl
theorem se_X12_readExpression : Cond.selects RX12 yX12_readExpression yX12_readExpression ∈ lw_g := aw0 (List.mem_of_getElem? (i := 38) rfl) rfl
theorem cw_RX12_305 : cV RX12 Y_X12_readExpression 305 1 := ⟨cb_X12_readExpression, ml_RX12_305, im_X12_readExpression, se_X12_readExpression⟩
theorem ml_RX12_288 : Cond.methodLink RX12 288 yX12_readPlain ∈ lw_g := aw6 (List.mem_of_getElem? (i := 189) rfl) rfl
theorem cb_X12_readPlain : cB Y_X12_readPlain 0 := ⟨aw6 (List.mem_of_getElem? (i := 192) rfl) rfl, in_RX12, ⟨by decide +kernel, by decide +kernel, by decide +kernel⟩, by decide⟩
theorem im_X12_readPlain : Cond.instanceMethod yX12_readPlain ∈ lw_g := aw6 (List.mem_of_getElem? (i := 191) rfl) rfl
theorem se_X12_readPlain : Cond.selects RX12 yX12_readPlain yX12_readPlain ∈ lw_g := aw0 (List.mem_of_getElem? (i := 39) rfl) rfl
theorem cw_RX12_288 : cV RX12 Y_X12_readPlain 288 0 := ⟨cb_X12_readPlain, ml_RX12_288, im_X12_readPlain, se_X12_readPlain⟩
theorem ml_RX12_248 : Cond.methodLink RX12 248 yX12_push ∈ lw_g := aw6 (List.mem_of_getElem? (i := 194) rfl) rfl
theorem cb_X12_push : cB Y_X12_push 2 := ⟨aw6 (List.mem_of_getElem? (i := 197) rfl) rfl, in_RX12, ⟨by decide +kernel, by decide +kernel, by decide +kernel⟩, by decide⟩
theorem im_X12_push : Cond.instanceMethod yX12_push ∈ lw_g := aw6 (List.mem_of_getElem? (i := 196) rfl) rfl
theorem se_X12_push : Cond.selects RX12 yX12_push yX12_push ∈ lw_g := aw0 (List.mem_of_getElem? (i := 40) rfl) rfl
theorem cw_RX12_248 : cV RX12 Y_X12_push 248 2 := ⟨cb_X12_push, ml_RX12_248, im_X12_push, se_X12_push⟩
theorem ml_RX12_254 : Cond.methodLink RX12 254 yX12_isSign ∈ lw_g := aw6 (List.mem_of_getElem? (i := 198) rfl) rfl
theorem cb_X12_isSign : cB Y_X12_isSign 1 := ⟨aw6 (List.mem_of_getElem? (i := 201) rfl) rfl, in_RX12, ⟨by decide +kernel, by decide +kernel, by decide +kernel⟩, by decide⟩
theorem im_X12_isSign : Cond.instanceMethod yX12_isSign ∈ lw_g := aw6 (List.mem_of_getElem? (i := 200) rfl) rfl
theorem se_X12_isSign : Cond.selects RX12 yX12_isSign yX12_isSign ∈ lw_g := aw0 (List.mem_of_getElem? (i := 41) rfl) rfl
theorem cw_RX12_254 : cV RX12 Y_X12_isSign 254 1 := ⟨cb_X12_isSign, ml_RX12_254, im_X12_isSign, se_X12_isSign⟩
theorem ml_RX12_257 : Cond.methodLink RX12 257 yX12_openBracket ∈ lw_g := aw6 (List.mem_of_getElem? (i := 202) rfl) rfl
theorem cb_X12_openBracket : cB Y_X12_openBracket 1 := ⟨aw6 (List.mem_of_getElem? (i := 205) rfl) rfl, in_RX12, ⟨by decide +kernel, by decide +kernel, by decide +kernel⟩, by decide⟩
theorem im_X12_openBracket : Cond.instanceMethod yX12_openBracket ∈ lw_g := aw6 (List.mem_of_getElem? (i := 204) rfl) rfl
theorem se_X12_openBracket : Cond.selects RX12 yX12_openBracket yX12_openBracket ∈ lw_g := aw0 (List.mem_of_getElem? (i := 42) rfl) rfl
theorem cw_RX12_257 : cV RX12 Y_X12_openBracket 257 1 := ⟨cb_X12_openBracket, ml_RX12_257, im_X12_openBracket, se_X12_openBracket⟩
theorem ml_RX12_272 : Cond.methodLink RX12 272 yX12_readPart ∈ lw_g := aw6 (List.mem_of_getElem? (i := 206) rfl) rfl
theorem cb_X12_readPart : cB Y_X12_readPart 0 := ⟨aw6 (List.mem_of_getElem? (i := 209) rfl) rfl, in_RX12, ⟨by decide +kernel, by decide +kernel, by decide +kernel⟩, by decide⟩
theorem im_X12_readPart : Cond.instanceMethod yX12_readPart ∈ lw_g := aw6 (List.mem_of_getElem? (i := 208) rfl) rfl
theorem se_X12_readPart : Cond.selects RX12 yX12_readPart yX12_readPart ∈ lw_g := aw0 (List.mem_of_getElem? (i := 43) rfl) rfl
theorem cw_RX12_272 : cV RX12 Y_X12_readPart 272 0 := ⟨cb_X12_readPart, ml_RX12_272, im_X12_readPart, se_X12_readPart⟩
theorem ml_RX12_260 : Cond.methodLink RX12 260 yX12_partAt ∈ lw_g := aw6 (List.mem_of_getElem? (i := 210) rfl) rfl
theorem cb_X12_partAt : cB Y_X12_partAt 0 := ⟨aw6 (List.mem_of_getElem? (i := 213) rfl) rfl, in_RX12, ⟨by decide +kernel, by decide +kernel, by decide +kernel⟩, by decide⟩
theorem im_X12_partAt : Cond.instanceMethod yX12_partAt ∈ lw_g := aw6 (List.mem_of_getElem? (i := 212) rfl) rfl
theorem se_X12_partAt : Cond.selects RX12 yX12_partAt yX12_partAt ∈ lw_g := aw0 (List.mem_of_getElem? (i := 44) rfl) rfl
theorem cw_RX12_260 : cV RX12 Y_X12_partAt 260 0 := ⟨cb_X12_partAt, ml_RX12_260, im_X12_partAt, se_X12_partAt⟩
theorem ml_RX12_266 : Cond.methodLink RX12 266 yX12_leaf ∈ lw_g := aw6 (List.mem_of_getElem? (i := 215) rfl) rfl
theorem cb_X12_leaf : cB Y_X12_leaf 3 := ⟨aw6 (List.mem_of_getElem? (i := 218) rfl) rfl, in_RX12, ⟨by decide +kernel, by decide +kernel, by decide +kernel⟩, by decide⟩
theorem im_X12_leaf : Cond.instanceMethod yX12_leaf ∈ lw_g := aw6 (List.mem_of_getElem? (i := 217) rfl) rfl
theorem se_X12_leaf : Cond.selects RX12 yX12_leaf yX12_leaf ∈ lw_g := aw0 (List.mem_of_getElem? (i := 45) rfl) rfl
theorem cw_RX12_266 : cV RX12 Y_X12_leaf 266 3 := ⟨cb_X12_leaf, ml_RX12_266, im_X12_leaf, se_X12_leaf⟩
theorem ml_RX12_229 : Cond.methodLink RX12 229 yX12_emit ∈ lw_g := aw6 (List.mem_of_getElem? (i := 219) rfl) rfl
theorem cb_X12_emit : cB Y_X12_emit 2 := ⟨aw6 (List.mem_of_getElem? (i := 222) rfl) rfl, in_RX12, ⟨by decide +kernel, by decide +kernel, by decide +kernel⟩, by decide⟩
theorem im_X12_emit : Cond.instanceMethod yX12_emit ∈ lw_g := aw6 (List.mem_of_getElem? (i := 221) rfl) rfl
theorem se_X12_emit : Cond.selects RX12 yX12_emit yX12_emit ∈ lw_g := aw0 (List.mem_of_getElem? (i := 46) rfl) rfl
theorem cw_RX12_229 : cV RX12 Y_X12_emit 229 2 := ⟨cb_X12_emit, ml_RX12_229, im_X12_emit, se_X12_emit⟩
theorem ml_RX12_291 : Cond.methodLink RX12 291 yX12_behindSum ∈ lw_g := aw6 (List.mem_of_getElem? (i := 223) rfl) rfl
theorem cb_X12_behindSum : cB Y_X12_behindSum 1 := ⟨aw6 (List.mem_of_getElem? (i := 226) rfl) rfl, in_RX12, ⟨by decide +kernel, by decide +kernel, by decide +kernel⟩, by decide⟩
theorem im_X12_behindSum : Cond.instanceMethod yX12_behindSum ∈ lw_g := aw6 (List.mem_of_getElem? (i := 225) rfl) rfl
theorem se_X12_behindSum : Cond.selects RX12 yX12_behindSum yX12_behindSum ∈ lw_g := aw0 (List.mem_of_getElem? (i := 47) rfl) rfl
theorem cw_RX12_291 : cV RX12 Y_X12_behindSum 291 1 := ⟨cb_X12_behindSum, ml_RX12_291, im_X12_behindSum, se_X12_behindSum⟩
theorem ml_RX12_226 : Cond.methodLink RX12 226 yX12_binds ∈ lw_g := aw6 (List.mem_of_getElem? (i := 227) rfl) rfl
theorem cb_X12_binds : cB Y_X12_binds 1 := ⟨aw6 (List.mem_of_getElem? (i := 229) rfl) rfl, in_RX12, ⟨by decide +kernel, by decide +kernel, by decide +kernel⟩, by decide⟩
theorem st_X12_binds : Cond.static yX12_binds ∈ lw_g := aw6 (List.mem_of_getElem? (i := 228) rfl) rfl
theorem cw_RX12_226 : cS RX12 Y_X12_binds 226 1 := ⟨cb_X12_binds, ml_RX12_226, st_X12_binds⟩
theorem ml_RX12_275 : Cond.methodLink RX12 275 yX12_settle ∈ lw_g := aw6 (List.mem_of_getElem? (i := 230) rfl) rfl
theorem cb_X12_settle : cB Y_X12_settle 1 := ⟨aw6 (List.mem_of_getElem? (i := 233) rfl) rfl, in_RX12, ⟨by decide +kernel, by decide +kernel, by decide +kernel⟩, by decide⟩
theorem im_X12_settle : Cond.instanceMethod yX12_settle ∈ lw_g := aw6 (List.mem_of_getElem? (i := 232) rfl) rfl
theorem se_X12_settle : Cond.selects RX12 yX12_settle yX12_settle ∈ lw_g := aw0 (List.mem_of_getElem? (i := 48) rfl) rfl
theorem cw_RX12_275 : cV RX12 Y_X12_settle 275 1 := ⟨cb_X12_settle, ml_RX12_275, im_X12_settle, se_X12_settle⟩
theorem ml_RX12_278 : Cond.methodLink RX12 278 yX12_inner ∈ lw_g := aw6 (List.mem_of_getElem? (i := 234) rfl) rfl
theorem cb_X12_inner : cB Y_X12_inner 0 := ⟨aw6 (List.mem_of_getElem? (i := 237) rfl) rfl, in_RX12, ⟨by decide +kernel, by decide +kernel, by decide +kernel⟩, by decide⟩
theorem im_X12_inner : Cond.instanceMethod yX12_inner ∈ lw_g := aw6 (List.mem_of_getElem? (i := 236) rfl) rfl
theorem se_X12_inner : Cond.selects RX12 yX12_inner yX12_inner ∈ lw_g := aw0 (List.mem_of_getElem? (i := 49) rfl) rfl
theorem cw_RX12_278 : cV RX12 Y_X12_inner 278 0 := ⟨cb_X12_inner, ml_RX12_278, im_X12_inner, se_X12_inner⟩
theorem ml_RX12_280 : Cond.methodLink RX12 280 yX12_isCompared ∈ lw_g := aw6 (List.mem_of_getElem? (i := 238) rfl) rfl
theorem cb_X12_isCompared : cB Y_X12_isCompared 0 := ⟨aw7 (List.mem_of_getElem? (i := 1) rfl) rfl, in_RX12, ⟨by decide +kernel, by decide +kernel, by decide +kernel⟩, by decide⟩
theorem im_X12_isCompared : Cond.instanceMethod yX12_isCompared ∈ lw_g := aw7 (List.mem_of_getElem? (i := 0) rfl) rfl
theorem se_X12_isCompared : Cond.selects RX12 yX12_isCompared yX12_isCompared ∈ lw_g := aw0 (List.mem_of_getElem? (i := 50) rfl) rfl
theorem cw_RX12_280 : cV RX12 Y_X12_isCompared 280 0 := ⟨cb_X12_isCompared, ml_RX12_280, im_X12_isCompared, se_X12_isCompared⟩
theorem ml_RX12_295 : Cond.methodLink RX12 295 yX12_behindTest ∈ lw_g := aw7 (List.mem_of_getElem? (i := 6) rfl) rfl
theorem cb_X12_behindTest : cB Y_X12_behindTest 0 := ⟨aw7 (List.mem_of_getElem? (i := 9) rfl) rfl, in_RX12, ⟨by decide +kernel, by decide +kernel, by decide +kernel⟩, by decide⟩
theorem im_X12_behindTest : Cond.instanceMethod yX12_behindTest ∈ lw_g := aw7 (List.mem_of_getElem? (i := 8) rfl) rfl
theorem se_X12_behindTest : Cond.selects RX12 yX12_behindTest yX12_behindTest ∈ lw_g := aw0 (List.mem_of_getElem? (i := 51) rfl) rfl
theorem cw_RX12_295 : cV RX12 Y_X12_behindTest 295 0 := ⟨cb_X12_behindTest, ml_RX12_295, im_X12_behindTest, se_X12_behindTest⟩
theorem ml_RL_61 : Cond.methodLink RL 61 yX12_force ∈ lw_g := aw7 (List.mem_of_getElem? (i := 13) rfl) rfl
theorem cb_X12_force : cB Y_X12_force 1 := ⟨aw7 (List.mem_of_getElem? (i := 16) rfl) rfl, in_RX12, ⟨by decide +kernel, by decide +kernel, by decide +kernel⟩, by decide⟩
theorem im_X12_force : Cond.instanceMethod yX12_force ∈ lw_g := aw7 (List.mem_of_getElem? (i := 14) rfl) rfl
theorem se_X12_force : Cond.selects RX12 yX12_force yX12_force ∈ lw_g := aw7 (List.mem_of_getElem? (i := 15) rfl) rfl
theorem cw_RL_61 : cV RL Y_X12_force 61 1 := ⟨cb_X12_force, ml_RL_61, im_X12_force, se_X12_force⟩
theorem ml_RL_66 : Cond.methodLink RL 66 yX12_asks ∈ lw_g := aw7 (List.mem_of_getElem? (i := 17) rfl) rfl
theorem cb_X12_asks : cB Y_X12_asks 8 := ⟨aw7 (List.mem_of_getElem? (i := 20) rfl) rfl, in_RX12, ⟨by decide +kernel, by decide +kernel, by decide +kernel⟩, by decide⟩
theorem im_X12_asks : Cond.instanceMethod yX12_asks ∈ lw_g := aw7 (List.mem_of_getElem? (i := 18) rfl) rfl
theorem se_X12_asks : Cond.selects RX12 yX12_asks yX12_asks ∈ lw_g := aw7 (List.mem_of_getElem? (i := 19) rfl) rfl
theorem cw_RL_66 : cV RL Y_X12_asks 66 8 := ⟨cb_X12_asks, ml_RL_66, im_X12_asks, se_X12_asks⟩
theorem ml_RX12_346 : Cond.methodLink RX12 346 yX12_ask ∈ lw_g := aw7 (List.mem_of_getElem? (i := 21) rfl) rfl
theorem cb_X12_ask : cB Y_X12_ask 8 := ⟨aw7 (List.mem_of_getElem? (i := 24) rfl) rfl, in_RX12, ⟨by decide +kernel, by decide +kernel, by decide +kernel⟩, by decide⟩
theorem im_X12_ask : Cond.instanceMethod yX12_ask ∈ lw_g := aw7 (List.mem_of_getElem? (i := 23) rfl) rfl
theorem se_X12_ask : Cond.selects RX12 yX12_ask yX12_ask ∈ lw_g := aw0 (List.mem_of_getElem? (i := 52) rfl) rfl
theorem cw_RX12_346 : cV RX12 Y_X12_ask 346 8 := ⟨cb_X12_ask, ml_RX12_346, im_X12_ask, se_X12_ask⟩
theorem ml_RX12_342 : Cond.methodLink RX12 342 yX12_tells ∈ lw_g := aw7 (List.mem_of_getElem? (i := 25) rfl) rfl
theorem cb_X12_tells : cB Y_X12_tells 3 := ⟨aw7 (List.mem_of_getElem? (i := 28) rfl) rfl, in_RX12, ⟨by decide +kernel, by decide +kernel, by decide +kernel⟩, by decide⟩
theorem im_X12_tells : Cond.instanceMethod yX12_tells ∈ lw_g := aw7 (List.mem_of_getElem? (i := 27) rfl) rfl
theorem se_X12_tells : Cond.selects RX12 yX12_tells yX12_tells ∈ lw_g := aw0 (List.mem_of_getElem? (i := 53) rfl) rfl
theorem cw_RX12_342 : cV RX12 Y_X12_tells 342 3 := ⟨cb_X12_tells, ml_RX12_342, im_X12_tells, se_X12_tells⟩
theorem ml_RX12_339 : Cond.methodLink RX12 339 yX12_isSo ∈ lw_g := aw7 (List.mem_of_getElem? (i := 29) rfl) rfl
theorem cb_X12_isSo : cB Y_X12_isSo 1 := ⟨aw7 (List.mem_of_getElem? (i := 32) rfl) rfl, in_RX12, ⟨by decide +kernel, by decide +kernel, by decide +kernel⟩, by decide⟩
theorem im_X12_isSo : Cond.instanceMethod yX12_isSo ∈ lw_g := aw7 (List.mem_of_getElem? (i := 31) rfl) rfl
theorem se_X12_isSo : Cond.selects RX12 yX12_isSo yX12_isSo ∈ lw_g := aw0 (List.mem_of_getElem? (i := 54) rfl) rfl
theorem cw_RX12_339 : cV RX12 Y_X12_isSo 339 1 := ⟨cb_X12_isSo, ml_RX12_339, im_X12_isSo, se_X12_isSo⟩
theorem ml_RX12_333 : Cond.methodLink RX12 333 yX12_reckonAll ∈ lw_g := aw7 (List.mem_of_getElem? (i := 33) rfl) rfl
theorem cb_X12_reckonAll : cB Y_X12_reckonAll 2 := ⟨aw7 (List.mem_of_getElem? (i := 36) rfl) rfl, in_RX12, ⟨by decide +kernel, by decide +kernel, by decide +kernel⟩, by decide⟩
theorem im_X12_reckonAll : Cond.instanceMethod yX12_reckonAll ∈ lw_g := aw7 (List.mem_of_getElem? (i := 35) rfl) rfl
theorem se_X12_reckonAll : Cond.selects RX12 yX12_reckonAll yX12_reckonAll ∈ lw_g := aw0 (List.mem_of_getElem? (i := 55) rfl) rfl
theorem cw_RX12_333 : cV RX12 Y_X12_reckonAll 333 2 := ⟨cb_X12_reckonAll, ml_RX12_333, im_X12_reckonAll, se_X12_reckonAll⟩
theorem ml_RX12_322 : Cond.methodLink RX12 322 yX12_reckon ∈ lw_g := aw7 (List.mem_of_getElem? (i := 37) rfl) rfl
theorem cb_X12_reckon : cB Y_X12_reckon 3 := ⟨aw7 (List.mem_of_getElem? (i := 40) rfl) rfl, in_RX12, ⟨by decide +kernel, by decide +kernel, by decide +kernel⟩, by decide⟩
theorem im_X12_reckon : Cond.instanceMethod yX12_reckon ∈ lw_g := aw7 (List.mem_of_getElem? (i := 39) rfl) rfl
theorem se_X12_reckon : Cond.selects RX12 yX12_reckon yX12_reckon ∈ lw_g := aw0 (List.mem_of_getElem? (i := 56) rfl) rfl
theorem cw_RX12_322 : cV RX12 Y_X12_reckon 322 3 := ⟨cb_X12_reckon, ml_RX12_322, im_X12_reckon, se_X12_reckon⟩
theorem ml_RL_70 : Cond.methodLink RL 70 yX12_can ∈ lw_g := aw7 (List.mem_of_getElem? (i := 43) rfl) rfl
theorem cb_X12_can : cB Y_X12_can 1 := ⟨aw7 (List.mem_of_getElem? (i := 46) rfl) rfl, in_RX12, ⟨by decide +kernel, by decide +kernel, by decide +kernel⟩, by decide⟩
theorem im_X12_can : Cond.instanceMethod yX12_can ∈ lw_g := aw7 (List.mem_of_getElem? (i := 44) rfl) rfl
theorem se_X12_can : Cond.selects RX12 yX12_can yX12_can ∈ lw_g := aw7 (List.mem_of_getElem? (i := 45) rfl) rfl
theorem cw_RL_70 : cV RL Y_X12_can 70 1 := ⟨cb_X12_can, ml_RL_70, im_X12_can, se_X12_can⟩
theorem ml_RX12_356 : Cond.methodLink RX12 356 yX12_canBe ∈ lw_g := aw7 (List.mem_of_getElem? (i := 47) rfl) rfl
theorem cb_X12_canBe : cB Y_X12_canBe 1 := ⟨aw7 (List.mem_of_getElem? (i := 50) rfl) rfl, in_RX12, ⟨by decide +kernel, by decide +kernel, by decide +kernel⟩, by decide⟩
theorem im_X12_canBe : Cond.instanceMethod yX12_canBe ∈ lw_g := aw7 (List.mem_of_getElem? (i := 49) rfl) rfl
theorem se_X12_canBe : Cond.selects RX12 yX12_canBe yX12_canBe ∈ lw_g := aw0 (List.mem_of_getElem? (i := 57) rfl) rfl
theorem cw_RX12_356 : cV RX12 Y_X12_canBe 356 1 := ⟨cb_X12_canBe, ml_RX12_356, im_X12_canBe, se_X12_canBe⟩
theorem ml_RX12_350 : Cond.methodLink RX12 350 yX12_ofScene ∈ lw_g := aw7 (List.mem_of_getElem? (i := 51) rfl) rfl
theorem cb_X12_ofScene : cB Y_X12_ofScene 2 := ⟨aw7 (List.mem_of_getElem? (i := 54) rfl) rfl, in_RX12, ⟨by decide +kernel, by decide +kernel, by decide +kernel⟩, by decide⟩
theorem im_X12_ofScene : Cond.instanceMethod yX12_ofScene ∈ lw_g := aw7 (List.mem_of_getElem? (i := 53) rfl) rfl
theorem se_X12_ofScene : Cond.selects RX12 yX12_ofScene yX12_ofScene ∈ lw_g := aw0 (List.mem_of_getElem? (i := 58) rfl) rfl
theorem cw_RX12_350 : cV RX12 Y_X12_ofScene 350 2 := ⟨cb_X12_ofScene, ml_RX12_350, im_X12_ofScene, se_X12_ofScene⟩
theorem ml_RX12_353 : Cond.methodLink RX12 353 yX12_minutesOf ∈ lw_g := aw7 (List.mem_of_getElem? (i := 55) rfl) rfl
theorem cb_X12_minutesOf : cB Y_X12_minutesOf 1 := ⟨aw7 (List.mem_of_getElem? (i := 58) rfl) rfl, in_RX12, ⟨by decide +kernel, by decide +kernel, by decide +kernel⟩, by decide⟩
theorem im_X12_minutesOf : Cond.instanceMethod yX12_minutesOf ∈ lw_g := aw7 (List.mem_of_getElem? (i := 57) rfl) rfl
theorem se_X12_minutesOf : Cond.selects RX12 yX12_minutesOf yX12_minutesOf ∈ lw_g := aw0 (List.mem_of_getElem? (i := 59) rfl) rfl
theorem cw_RX12_353 : cV RX12 Y_X12_minutesOf 353 1 := ⟨cb_X12_minutesOf, ml_RX12_353, im_X12_minutesOf, se_X12_minutesOf⟩
theorem ml_RL_74 : Cond.methodLink RL 74 yX12_book ∈ lw_g := aw7 (List.mem_of_getElem? (i := 59) rfl) rfl
theorem cb_X12_book : cB Y_X12_book 1 := ⟨aw7 (List.mem_of_getElem? (i := 62) rfl) rfl, in_RX12, ⟨by decide +kernel, by decide +kernel, by decide +kernel⟩, by decide⟩
theorem im_X12_book : Cond.instanceMethod yX12_book ∈ lw_g := aw7 (List.mem_of_getElem? (i := 60) rfl) rfl
theorem se_X12_book : Cond.selects RX12 yX12_book yX12_book ∈ lw_g := aw7 (List.mem_of_getElem? (i := 61) rfl) rfl
theorem cw_RL_74 : cV RL Y_X12_book 74 1 := ⟨cb_X12_book, ml_RL_74, im_X12_book, se_X12_book⟩
theorem ml_RL_78 : Cond.methodLink RL 78 yX12_tear ∈ lw_g := aw7 (List.mem_of_getElem? (i := 63) rfl) rfl
theorem cb_X12_tear : cB Y_X12_tear 0 := ⟨aw7 (List.mem_of_getElem? (i := 66) rfl) rfl, in_RX12, ⟨by decide +kernel, by decide +kernel, by decide +kernel⟩, by decide⟩
theorem im_X12_tear : Cond.instanceMethod yX12_tear ∈ lw_g := aw7 (List.mem_of_getElem? (i := 64) rfl) rfl
theorem se_X12_tear : Cond.selects RX12 yX12_tear yX12_tear ∈ lw_g := aw7 (List.mem_of_getElem? (i := 65) rfl) rfl
theorem cw_RL_78 : cV RL Y_X12_tear 78 0 := ⟨cb_X12_tear, ml_RL_78, im_X12_tear, se_X12_tear⟩
theorem ml_RL_82 : Cond.methodLink RL 82 yX12_worth ∈ lw_g := aw7 (List.mem_of_getElem? (i := 67) rfl) rfl
theorem cb_X12_worth : cB Y_X12_worth 1 := ⟨aw7 (List.mem_of_getElem? (i := 70) rfl) rfl, in_RX12, ⟨by decide +kernel, by decide +kernel, by decide +kernel⟩, by decide⟩
theorem im_X12_worth : Cond.instanceMethod yX12_worth ∈ lw_g := aw7 (List.mem_of_getElem? (i := 68) rfl) rfl
theorem se_X12_worth : Cond.selects RX12 yX12_worth yX12_worth ∈ lw_g := aw7 (List.mem_of_getElem? (i := 69) rfl) rfl
theorem cw_RL_82 : cV RL Y_X12_worth 82 1 := ⟨cb_X12_worth, ml_RL_82, im_X12_worth, se_X12_worth⟩
theorem ml_RX12_457 : Cond.methodLink RX12 457 yX12_isChooser ∈ lw_g := aw7 (List.mem_of_getElem? (i := 71) rfl) rfl
theorem cb_X12_isChooser : cB Y_X12_isChooser 1 := ⟨aw7 (List.mem_of_getElem? (i := 73) rfl) rfl, in_RX12, ⟨by decide +kernel, by decide +kernel, by decide +kernel⟩, by decide⟩
theorem st_X12_isChooser : Cond.static yX12_isChooser ∈ lw_g := aw7 (List.mem_of_getElem? (i := 72) rfl) rfl
theorem cw_RX12_457 : cS RX12 Y_X12_isChooser 457 1 := ⟨cb_X12_isChooser, ml_RX12_457, st_X12_isChooser⟩
theorem ml_RX12_460 : Cond.methodLink RX12 460 yX12_findRoot ∈ lw_g := aw7 (List.mem_of_getElem? (i := 75) rfl) rfl
theorem cb_X12_findRoot : cB Y_X12_findRoot 2 := ⟨aw7 (List.mem_of_getElem? (i := 78) rfl) rfl, in_RX12, ⟨by decide +kernel, by decide +kernel, by decide +kernel⟩, by decide⟩
theorem im_X12_findRoot : Cond.instanceMethod yX12_findRoot ∈ lw_g := aw7 (List.mem_of_getElem? (i := 77) rfl) rfl
theorem se_X12_findRoot : Cond.selects RX12 yX12_findRoot yX12_findRoot ∈ lw_g := aw0 (List.mem_of_getElem? (i := 60) rfl) rfl
theorem cw_RX12_460 : cV RX12 Y_X12_findRoot 460 2 := ⟨cb_X12_findRoot, ml_RX12_460, im_X12_findRoot, se_X12_findRoot⟩
theorem ml_RX12_454 : Cond.methodLink RX12 454 yX12_choose ∈ lw_g := aw7 (List.mem_of_getElem? (i := 79) rfl) rfl
theorem cb_X12_choose : cB Y_X12_choose 1 := ⟨aw7 (List.mem_of_getElem? (i := 82) rfl) rfl, in_RX12, ⟨by decide +kernel, by decide +kernel, by decide +kernel⟩, by decide⟩
theorem im_X12_choose : Cond.instanceMethod yX12_choose ∈ lw_g := aw7 (List.mem_of_getElem? (i := 81) rfl) rfl
theorem se_X12_choose : Cond.selects RX12 yX12_choose yX12_choose ∈ lw_g := aw0 (List.mem_of_getElem? (i := 61) rfl) rfl
theorem cw_RX12_454 : cV RX12 Y_X12_choose 454 1 := ⟨cb_X12_choose, ml_RX12_454, im_X12_choose, se_X12_choose⟩
theorem ml_RX12_427 : Cond.methodLink RX12 427 yX12_chooseRow ∈ lw_g := aw7 (List.mem_of_getElem? (i := 83) rfl) rfl
theorem cb_X12_chooseRow : cB Y_X12_chooseRow 3 := ⟨aw7 (List.mem_of_getElem? (i := 86) rfl) rfl, in_RX12, ⟨by decide +kernel, by decide +kernel, by decide +kernel⟩, by decide⟩
theorem im_X12_chooseRow : Cond.instanceMethod yX12_chooseRow ∈ lw_g := aw7 (List.mem_of_getElem? (i := 85) rfl) rfl
theorem se_X12_chooseRow : Cond.selects RX12 yX12_chooseRow yX12_chooseRow ∈ lw_g := aw0 (List.mem_of_getElem? (i := 62) rfl) rfl
theorem cw_RX12_427 : cV RX12 Y_X12_chooseRow 427 3 := ⟨cb_X12_chooseRow, ml_RX12_427, im_X12_chooseRow, se_X12_chooseRow⟩
theorem ml_RX12_395 : Cond.methodLink RX12 395 yX12_stateOf ∈ lw_g := aw7 (List.mem_of_getElem? (i := 87) rfl) rfl
theorem cb_X12_stateOf : cB Y_X12_stateOf 4 := ⟨aw7 (List.mem_of_getElem? (i := 89) rfl) rfl, in_RX12, ⟨by decide +kernel, by decide +kernel, by decide +kernel⟩, by decide⟩
theorem st_X12_stateOf : Cond.static yX12_stateOf ∈ lw_g := aw7 (List.mem_of_getElem? (i := 88) rfl) rfl
theorem cw_RX12_395 : cS RX12 Y_X12_stateOf 395 4 := ⟨cb_X12_stateOf, ml_RX12_395, st_X12_stateOf⟩
theorem ml_RX12_445 : Cond.methodLink RX12 445 yX12_chooseMost ∈ lw_g := aw7 (List.mem_of_getElem? (i := 90) rfl) rfl
theorem cb_X12_chooseMost : cB Y_X12_chooseMost 0 := ⟨aw7 (List.mem_of_getElem? (i := 93) rfl) rfl, in_RX12, ⟨by decide +kernel, by decide +kernel, by decide +kernel⟩, by decide⟩
theorem im_X12_chooseMost : Cond.instanceMethod yX12_chooseMost ∈ lw_g := aw7 (List.mem_of_getElem? (i := 92) rfl) rfl
theorem se_X12_chooseMost : Cond.selects RX12 yX12_chooseMost yX12_chooseMost ∈ lw_g := aw0 (List.mem_of_getElem? (i := 63) rfl) rfl
theorem cw_RX12_445 : cV RX12 Y_X12_chooseMost 445 0 := ⟨cb_X12_chooseMost, ml_RX12_445, im_X12_chooseMost, se_X12_chooseMost⟩
theorem ml_RX12_403 : Cond.methodLink RX12 403 yX12_isState ∈ lw_g := aw7 (List.mem_of_getElem? (i := 94) rfl) rfl
theorem cb_X12_isState : cB Y_X12_isState 2 := ⟨aw7 (List.mem_of_getElem? (i := 97) rfl) rfl, in_RX12, ⟨by decide +kernel, by decide +kernel, by decide +kernel⟩, by decide⟩
theorem im_X12_isState : Cond.instanceMethod yX12_isState ∈ lw_g := aw7 (List.mem_of_getElem? (i := 96) rfl) rfl
theorem se_X12_isState : Cond.selects RX12 yX12_isState yX12_isState ∈ lw_g := aw0 (List.mem_of_getElem? (i := 64) rfl) rfl
theorem cw_RX12_403 : cV RX12 Y_X12_isState 403 2 := ⟨cb_X12_isState, ml_RX12_403, im_X12_isState, se_X12_isState⟩
theorem ml_RX12_418 : Cond.methodLink RX12 418 yX12_mostBehind ∈ lw_g := aw7 (List.mem_of_getElem? (i := 98) rfl) rfl
theorem cb_X12_mostBehind : cB Y_X12_mostBehind 4 := ⟨aw7 (List.mem_of_getElem? (i := 101) rfl) rfl, in_RX12, ⟨by decide +kernel, by decide +kernel, by decide +kernel⟩, by decide⟩
theorem im_X12_mostBehind : Cond.instanceMethod yX12_mostBehind ∈ lw_g := aw7 (List.mem_of_getElem? (i := 100) rfl) rfl
theorem se_X12_mostBehind : Cond.selects RX12 yX12_mostBehind yX12_mostBehind ∈ lw_g := aw0 (List.mem_of_getElem? (i := 65) rfl) rfl
theorem cw_RX12_418 : cV RX12 Y_X12_mostBehind 418 4 := ⟨cb_X12_mostBehind, ml_RX12_418, im_X12_mostBehind, se_X12_mostBehind⟩
theorem ml_RX12_388 : Cond.methodLink RX12 388 yX12_chance ∈ lw_g := aw7 (List.mem_of_getElem? (i := 102) rfl) rfl
theorem cb_X12_chance : cB Y_X12_chance 6 := ⟨aw7 (List.mem_of_getElem? (i := 105) rfl) rfl, in_RX12, ⟨by decide +kernel, by decide +kernel, by decide +kernel⟩, by decide⟩
theorem im_X12_chance : Cond.instanceMethod yX12_chance ∈ lw_g := aw7 (List.mem_of_getElem? (i := 104) rfl) rfl
theorem se_X12_chance : Cond.selects RX12 yX12_chance yX12_chance ∈ lw_g := aw0 (List.mem_of_getElem? (i := 66) rfl) rfl
theorem cw_RX12_388 : cV RX12 Y_X12_chance 388 6 := ⟨cb_X12_chance, ml_RX12_388, im_X12_chance, se_X12_chance⟩
theorem ml_RX12_367 : Cond.methodLink RX12 367 yX12_bits ∈ lw_g := aw7 (List.mem_of_getElem? (i := 106) rfl) rfl
theorem cb_X12_bits : cB Y_X12_bits 1 := ⟨aw7 (List.mem_of_getElem? (i := 108) rfl) rfl, in_RX12, ⟨by decide +kernel, by decide +kernel, by decide +kernel⟩, by decide⟩
theorem st_X12_bits : Cond.static yX12_bits ∈ lw_g := aw7 (List.mem_of_getElem? (i := 107) rfl) rfl
theorem cw_RX12_367 : cS RX12 Y_X12_bits 367 1 := ⟨cb_X12_bits, ml_RX12_367, st_X12_bits⟩
theorem ml_RX12_448 : Cond.methodLink RX12 448 yX12_reckon_ ∈ lw_g := aw7 (List.mem_of_getElem? (i := 109) rfl) rfl
theorem cb_X12_reckon_ : cB Y_X12_reckon_ 2 := ⟨aw7 (List.mem_of_getElem? (i := 112) rfl) rfl, in_RX12, ⟨by decide +kernel, by decide +kernel, by decide +kernel⟩, by decide⟩
theorem im_X12_reckon_ : Cond.instanceMethod yX12_reckon_ ∈ lw_g := aw7 (List.mem_of_getElem? (i := 111) rfl) rfl
theorem se_X12_reckon_ : Cond.selects RX12 yX12_reckon_ yX12_reckon_ ∈ lw_g := aw0 (List.mem_of_getElem? (i := 67) rfl) rfl
theorem cw_RX12_448 : cV RX12 Y_X12_reckon_ 448 2 := ⟨cb_X12_reckon_, ml_RX12_448, im_X12_reckon_, se_X12_reckon_⟩
theorem ml_RX12_406 : Cond.methodLink RX12 406 yX12_reckonState ∈ lw_g := aw7 (List.mem_of_getElem? (i := 113) rfl) rfl
theorem cb_X12_reckonState : cB Y_X12_reckonState 6 := ⟨aw7 (List.mem_of_getElem? (i := 116) rfl) rfl, in_RX12, ⟨by decide +kernel, by decide +kernel, by decide +kernel⟩, by decide⟩
theorem im_X12_reckonState : Cond.instanceMethod yX12_reckonState ∈ lw_g := aw7 (List.mem_of_getElem? (i := 115) rfl) rfl
theorem se_X12_reckonState : Cond.selects RX12 yX12_reckonState yX12_reckonState ∈ lw_g := aw0 (List.mem_of_getElem? (i := 68) rfl) rfl
theorem cw_RX12_406 : cV RX12 Y_X12_reckonState 406 6 := ⟨cb_X12_reckonState, ml_RX12_406, im_X12_reckonState, se_X12_reckonState⟩
theorem ml_RX12_376 : Cond.methodLink RX12 376 yX12_clear ∈ lw_g := aw7 (List.mem_of_getElem? (i := 117) rfl) rfl
theorem cb_X12_clear : cB Y_X12_clear 2 := ⟨aw7 (List.mem_of_getElem? (i := 119) rfl) rfl, in_RX12, ⟨by decide +kernel, by decide +kernel, by decide +kernel⟩, by decide⟩
theorem st_X12_clear : Cond.static yX12_clear ∈ lw_g := aw7 (List.mem_of_getElem? (i := 118) rfl) rfl
theorem cw_RX12_376 : cS RX12 Y_X12_clear 376 2 := ⟨cb_X12_clear, ml_RX12_376, st_X12_clear⟩
theorem ml_RX12_384 : Cond.methodLink RX12 384 yX12_addNumber ∈ lw_g := aw7 (List.mem_of_getElem? (i := 120) rfl) rfl
theorem cb_X12_addNumber : cB Y_X12_addNumber 3 := ⟨aw7 (List.mem_of_getElem? (i := 122) rfl) rfl, in_RX12, ⟨by decide +kernel, by decide +kernel, by decide +kernel⟩, by decide⟩
theorem st_X12_addNumber : Cond.static yX12_addNumber ∈ lw_g := aw7 (List.mem_of_getElem? (i := 121) rfl) rfl
theorem cw_RX12_384 : cS RX12 Y_X12_addNumber 384 3 := ⟨cb_X12_addNumber, ml_RX12_384, st_X12_addNumber⟩
theorem ml_RX12_399 : Cond.methodLink RX12 399 yX12_add ∈ lw_g := aw7 (List.mem_of_getElem? (i := 125) rfl) rfl
theorem cb_X12_add : cB Y_X12_add 5 := ⟨aw7 (List.mem_of_getElem? (i := 127) rfl) rfl, in_RX12, ⟨by decide +kernel, by decide +kernel, by decide +kernel⟩, by decide⟩
theorem st_X12_add : Cond.static yX12_add ∈ lw_g := aw7 (List.mem_of_getElem? (i := 126) rfl) rfl
theorem cw_RX12_399 : cS RX12 Y_X12_add 399 5 := ⟨cb_X12_add, ml_RX12_399, st_X12_add⟩
theorem ml_RX12_410 : Cond.methodLink RX12 410 yX12_reckonScene ∈ lw_g := aw7 (List.mem_of_getElem? (i := 128) rfl) rfl
theorem cb_X12_reckonScene : cB Y_X12_reckonScene 6 := ⟨aw7 (List.mem_of_getElem? (i := 131) rfl) rfl, in_RX12, ⟨by decide +kernel, by decide +kernel, by decide +kernel⟩, by decide⟩
theorem im_X12_reckonScene : Cond.instanceMethod yX12_reckonScene ∈ lw_g := aw7 (List.mem_of_getElem? (i := 130) rfl) rfl
theorem se_X12_reckonScene : Cond.selects RX12 yX12_reckonScene yX12_reckonScene ∈ lw_g := aw0 (List.mem_of_getElem? (i := 69) rfl) rfl
theorem cw_RX12_410 : cV RX12 Y_X12_reckonScene 410 6 := ⟨cb_X12_reckonScene, ml_RX12_410, im_X12_reckonScene, se_X12_reckonScene⟩
theorem ml_RX12_380 : Cond.methodLink RX12 380 yX12_brings ∈ lw_g := aw7 (List.mem_of_getElem? (i := 132) rfl) rfl
theorem cb_X12_brings : cB Y_X12_brings 6 := ⟨aw7 (List.mem_of_getElem? (i := 135) rfl) rfl, in_RX12, ⟨by decide +kernel, by decide +kernel, by decide +kernel⟩, by decide⟩
theorem im_X12_brings : Cond.instanceMethod yX12_brings ∈ lw_g := aw7 (List.mem_of_getElem? (i := 134) rfl) rfl
theorem se_X12_brings : Cond.selects RX12 yX12_brings yX12_brings ∈ lw_g := aw0 (List.mem_of_getElem? (i := 70) rfl) rfl
theorem cw_RX12_380 : cV RX12 Y_X12_brings 380 6 := ⟨cb_X12_brings, ml_RX12_380, im_X12_brings, se_X12_brings⟩
theorem ml_RX12_392 : Cond.methodLink RX12 392 yX12_findStays ∈ lw_g := aw7 (List.mem_of_getElem? (i := 136) rfl) rfl
theorem cb_X12_findStays : cB Y_X12_findStays 3 := ⟨aw7 (List.mem_of_getElem? (i := 139) rfl) rfl, in_RX12, ⟨by decide +kernel, by decide +kernel, by decide +kernel⟩, by decide⟩
theorem im_X12_findStays : Cond.instanceMethod yX12_findStays ∈ lw_g := aw7 (List.mem_of_getElem? (i := 138) rfl) rfl
theorem se_X12_findStays : Cond.selects RX12 yX12_findStays yX12_findStays ∈ lw_g := aw0 (List.mem_of_getElem? (i := 71) rfl) rfl
theorem cw_RX12_392 : cV RX12 Y_X12_findStays 392 3 := ⟨cb_X12_findStays, ml_RX12_392, im_X12_findStays, se_X12_findStays⟩
theorem ml_RX12_370 : Cond.methodLink RX12 370 yX12_over ∈ lw_g := aw7 (List.mem_of_getElem? (i := 140) rfl) rfl
theorem cb_X12_over : cB Y_X12_over 2 := ⟨aw7 (List.mem_of_getElem? (i := 142) rfl) rfl, in_RX12, ⟨by decide +kernel, by decide +kernel, by decide +kernel⟩, by decide⟩
theorem st_X12_over : Cond.static yX12_over ∈ lw_g := aw7 (List.mem_of_getElem? (i := 141) rfl) rfl
theorem cw_RX12_370 : cS RX12 Y_X12_over 370 2 := ⟨cb_X12_over, ml_RX12_370, st_X12_over⟩
theorem ml_RX12_414 : Cond.methodLink RX12 414 yX12_compare ∈ lw_g := aw7 (List.mem_of_getElem? (i := 144) rfl) rfl
theorem cb_X12_compare : cB Y_X12_compare 4 := ⟨aw7 (List.mem_of_getElem? (i := 146) rfl) rfl, in_RX12, ⟨by decide +kernel, by decide +kernel, by decide +kernel⟩, by decide⟩
theorem st_X12_compare : Cond.static yX12_compare ∈ lw_g := aw7 (List.mem_of_getElem? (i := 145) rfl) rfl
theorem cw_RX12_414 : cS RX12 Y_X12_compare 414 4 := ⟨cb_X12_compare, ml_RX12_414, st_X12_compare⟩
theorem ml_RX12_451 : Cond.methodLink RX12 451 yX12_findFixed ∈ lw_g := aw7 (List.mem_of_getElem? (i := 147) rfl) rfl
theorem cb_X12_findFixed : cB Y_X12_findFixed 0 := ⟨aw7 (List.mem_of_getElem? (i := 150) rfl) rfl, in_RX12, ⟨by decide +kernel, by decide +kernel, by decide +kernel⟩, by decide⟩
theorem im_X12_findFixed : Cond.instanceMethod yX12_findFixed ∈ lw_g := aw7 (List.mem_of_getElem? (i := 149) rfl) rfl
theorem se_X12_findFixed : Cond.selects RX12 yX12_findFixed yX12_findFixed ∈ lw_g := aw0 (List.mem_of_getElem? (i := 72) rfl) rfl
theorem cw_RX12_451 : cV RX12 Y_X12_findFixed 451 0 := ⟨cb_X12_findFixed, ml_RX12_451, im_X12_findFixed, se_X12_findFixed⟩
theorem ml_RX12_440 : Cond.methodLink RX12 440 yX12_weighRow ∈ lw_g := aw7 (List.mem_of_getElem? (i := 151) rfl) rfl
theorem cb_X12_weighRow : cB Y_X12_weighRow 0 := ⟨aw7 (List.mem_of_getElem? (i := 154) rfl) rfl, in_RX12, ⟨by decide +kernel, by decide +kernel, by decide +kernel⟩, by decide⟩
theorem im_X12_weighRow : Cond.instanceMethod yX12_weighRow ∈ lw_g := aw7 (List.mem_of_getElem? (i := 153) rfl) rfl
theorem se_X12_weighRow : Cond.selects RX12 yX12_weighRow yX12_weighRow ∈ lw_g := aw0 (List.mem_of_getElem? (i := 73) rfl) rfl
theorem cw_RX12_440 : cV RX12 Y_X12_weighRow 440 0 := ⟨cb_X12_weighRow, ml_RX12_440, im_X12_weighRow, se_X12_weighRow⟩
theorem ml_RX12_431 : Cond.methodLink RX12 431 yX12_reckonRow ∈ lw_g := aw7 (List.mem_of_getElem? (i := 155) rfl) rfl
theorem cb_X12_reckonRow : cB Y_X12_reckonRow 3 := ⟨aw7 (List.mem_of_getElem? (i := 158) rfl) rfl, in_RX12, ⟨by decide +kernel, by decide +kernel, by decide +kernel⟩, by decide⟩
theorem im_X12_reckonRow : Cond.instanceMethod yX12_reckonRow ∈ lw_g := aw7 (List.mem_of_getElem? (i := 157) rfl) rfl
theorem se_X12_reckonRow : Cond.selects RX12 yX12_reckonRow yX12_reckonRow ∈ lw_g := aw0 (List.mem_of_getElem? (i := 74) rfl) rfl
theorem cw_RX12_431 : cV RX12 Y_X12_reckonRow 431 3 := ⟨cb_X12_reckonRow, ml_RX12_431, im_X12_reckonRow, se_X12_reckonRow⟩
theorem ml_RX12_434 : Cond.methodLink RX12 434 yX12_rootAt ∈ lw_g := aw7 (List.mem_of_getElem? (i := 159) rfl) rfl
theorem cb_X12_rootAt : cB Y_X12_rootAt 0 := ⟨aw7 (List.mem_of_getElem? (i := 162) rfl) rfl, in_RX12, ⟨by decide +kernel, by decide +kernel, by decide +kernel⟩, by decide⟩
theorem im_X12_rootAt : Cond.instanceMethod yX12_rootAt ∈ lw_g := aw7 (List.mem_of_getElem? (i := 161) rfl) rfl
theorem se_X12_rootAt : Cond.selects RX12 yX12_rootAt yX12_rootAt ∈ lw_g := aw0 (List.mem_of_getElem? (i := 75) rfl) rfl
theorem cw_RX12_434 : cV RX12 Y_X12_rootAt 434 0 := ⟨cb_X12_rootAt, ml_RX12_434, im_X12_rootAt, se_X12_rootAt⟩
theorem ml_RX12_463 : Cond.methodLink RX12 463 yX12_digits ∈ lw_g := aw7 (List.mem_of_getElem? (i := 163) rfl) rfl
theorem cb_X12_digits : cB Y_X12_digits 2 := ⟨aw7 (List.mem_of_getElem? (i := 165) rfl) rfl, in_RX12, ⟨by decide +kernel, by decide +kernel, by decide +kernel⟩, by decide⟩
theorem st_X12_digits : Cond.static yX12_digits ∈ lw_g := aw7 (List.mem_of_getElem? (i := 164) rfl) rfl
theorem cw_RX12_463 : cS RX12 Y_X12_digits 463 2 := ⟨cb_X12_digits, ml_RX12_463, st_X12_digits⟩
theorem ml_RX12_363 : Cond.methodLink RX12 363 yX12_digit ∈ lw_g := aw7 (List.mem_of_getElem? (i := 166) rfl) rfl
theorem cb_X12_digit : cB Y_X12_digit 2 := ⟨aw7 (List.mem_of_getElem? (i := 168) rfl) rfl, in_RX12, ⟨by decide +kernel, by decide +kernel, by decide +kernel⟩, by decide⟩
theorem st_X12_digit : Cond.static yX12_digit ∈ lw_g := aw7 (List.mem_of_getElem? (i := 167) rfl) rfl
theorem cw_RX12_363 : cS RX12 Y_X12_digit 363 2 := ⟨cb_X12_digit, ml_RX12_363, st_X12_digit⟩
theorem ml_RL_86 : Cond.methodLink RL 86 yX12_figures ∈ lw_g := aw7 (List.mem_of_getElem? (i := 169) rfl) rfl
theorem cb_X12_figures : cB Y_X12_figures 2 := ⟨aw7 (List.mem_of_getElem? (i := 172) rfl) rfl, in_RX12, ⟨by decide +kernel, by decide +kernel, by decide +kernel⟩, by decide⟩
theorem im_X12_figures : Cond.instanceMethod yX12_figures ∈ lw_g := aw7 (List.mem_of_getElem? (i := 170) rfl) rfl
theorem se_X12_figures : Cond.selects RX12 yX12_figures yX12_figures ∈ lw_g := aw7 (List.mem_of_getElem? (i := 171) rfl) rfl
theorem cw_RL_86 : cV RL Y_X12_figures 86 2 := ⟨cb_X12_figures, ml_RL_86, im_X12_figures, se_X12_figures⟩
theorem ml_RL_90 : Cond.methodLink RL 90 yX12_next ∈ lw_g := aw7 (List.mem_of_getElem? (i := 174) rfl) rfl
theorem cb_X12_next : cB Y_X12_next 5 := ⟨aw7 (List.mem_of_getElem? (i := 177) rfl) rfl, in_RX12, ⟨by decide +kernel, by decide +kernel, by decide +kernel⟩, by decide⟩
theorem im_X12_next : Cond.instanceMethod yX12_next ∈ lw_g := aw7 (List.mem_of_getElem? (i := 175) rfl) rfl
theorem se_X12_next : Cond.selects RX12 yX12_next yX12_next ∈ lw_g := aw7 (List.mem_of_getElem? (i := 176) rfl) rfl
theorem cw_RL_90 : cV RL Y_X12_next 90 5 := ⟨cb_X12_next, ml_RL_90, im_X12_next, se_X12_next⟩
theorem ml_RX12_469 : Cond.methodLink RX12 469 yX12_nextOf ∈ lw_g := aw7 (List.mem_of_getElem? (i := 178) rfl) rfl
theorem cb_X12_nextOf : cB Y_X12_nextOf 4 := ⟨aw7 (List.mem_of_getElem? (i := 181) rfl) rfl, in_RX12, ⟨by decide +kernel, by decide +kernel, by decide +kernel⟩, by decide⟩
theorem im_X12_nextOf : Cond.instanceMethod yX12_nextOf ∈ lw_g := aw7 (List.mem_of_getElem? (i := 180) rfl) rfl
theorem se_X12_nextOf : Cond.selects RX12 yX12_nextOf yX12_nextOf ∈ lw_g := aw0 (List.mem_of_getElem? (i := 76) rfl) rfl
theorem cw_RX12_469 : cV RX12 Y_X12_nextOf 469 4 := ⟨cb_X12_nextOf, ml_RX12_469, im_X12_nextOf, se_X12_nextOf⟩
theorem ml_RL_94 : Cond.methodLink RL 94 yX12_fixed ∈ lw_g := aw7 (List.mem_of_getElem? (i := 182) rfl) rfl
theorem cb_X12_fixed : cB Y_X12_fixed 1 := ⟨aw7 (List.mem_of_getElem? (i := 185) rfl) rfl, in_RX12, ⟨by decide +kernel, by decide +kernel, by decide +kernel⟩, by decide⟩
theorem im_X12_fixed : Cond.instanceMethod yX12_fixed ∈ lw_g := aw7 (List.mem_of_getElem? (i := 183) rfl) rfl
theorem se_X12_fixed : Cond.selects RX12 yX12_fixed yX12_fixed ∈ lw_g := aw7 (List.mem_of_getElem? (i := 184) rfl) rfl
theorem cw_RL_94 : cV RL Y_X12_fixed 94 1 := ⟨cb_X12_fixed, ml_RL_94, im_X12_fixed, se_X12_fixed⟩
theorem ml_RL_98 : Cond.methodLink RL 98 yX12_rows ∈ lw_g := aw7 (List.mem_of_getElem? (i := 186) rfl) rfl
theorem cb_X12_rows : cB Y_X12_rows 0 := ⟨aw7 (List.mem_of_getElem? (i := 189) rfl) rfl, in_RX12, ⟨by decide +kernel, by decide +kernel, by decide +kernel⟩, by decide⟩
theorem im_X12_rows : Cond.instanceMethod yX12_rows ∈ lw_g := aw7 (List.mem_of_getElem? (i := 187) rfl) rfl
theorem se_X12_rows : Cond.selects RX12 yX12_rows yX12_rows ∈ lw_g := aw7 (List.mem_of_getElem? (i := 188) rfl) rfl
theorem cw_RL_98 : cV RL Y_X12_rows 98 0 := ⟨cb_X12_rows, ml_RL_98, im_X12_rows, se_X12_rows⟩
theorem ml_RL_102 : Cond.methodLink RL 102 yX12_seeing ∈ lw_g := aw7 (List.mem_of_getElem? (i := 190) rfl) rfl
theorem cb_X12_seeing : cB Y_X12_seeing 0 := ⟨aw7 (List.mem_of_getElem? (i := 193) rfl) rfl, in_RX12, ⟨by decide +kernel, by decide +kernel, by decide +kernel⟩, by decide⟩
theorem im_X12_seeing : Cond.instanceMethod yX12_seeing ∈ lw_g := aw7 (List.mem_of_getElem? (i := 191) rfl) rfl
theorem se_X12_seeing : Cond.selects RX12 yX12_seeing yX12_seeing ∈ lw_g := aw7 (List.mem_of_getElem? (i := 192) rfl) rfl
theorem cw_RL_102 : cV RL Y_X12_seeing 102 0 := ⟨cb_X12_seeing, ml_RL_102, im_X12_seeing, se_X12_seeing⟩
theorem ml_RX12_473 : Cond.methodLink RX12 473 yX12_lessOf ∈ lw_g := aw7 (List.mem_of_getElem? (i := 194) rfl) rfl
theorem cb_X12_lessOf : cB Y_X12_lessOf 3 := ⟨aw7 (List.mem_of_getElem? (i := 197) rfl) rfl, in_RX12, ⟨by decide +kernel, by decide +kernel, by decide +kernel⟩, by decide⟩
theorem im_X12_lessOf : Cond.instanceMethod yX12_lessOf ∈ lw_g := aw7 (List.mem_of_getElem? (i := 196) rfl) rfl
theorem se_X12_lessOf : Cond.selects RX12 yX12_lessOf yX12_lessOf ∈ lw_g := aw0 (List.mem_of_getElem? (i := 77) rfl) rfl
theorem cw_RX12_473 : cV RX12 Y_X12_lessOf 473 3 := ⟨cb_X12_lessOf, ml_RX12_473, im_X12_lessOf, se_X12_lessOf⟩
theorem ml_RL_106 : Cond.methodLink RL 106 yX12_loss ∈ lw_g := aw7 (List.mem_of_getElem? (i := 198) rfl) rfl
theorem cb_X12_loss : cB Y_X12_loss 1 := ⟨aw7 (List.mem_of_getElem? (i := 201) rfl) rfl, in_RX12, ⟨by decide +kernel, by decide +kernel, by decide +kernel⟩, by decide⟩
theorem im_X12_loss : Cond.instanceMethod yX12_loss ∈ lw_g := aw7 (List.mem_of_getElem? (i := 199) rfl) rfl
theorem se_X12_loss : Cond.selects RX12 yX12_loss yX12_loss ∈ lw_g := aw7 (List.mem_of_getElem? (i := 200) rfl) rfl
theorem cw_RL_106 : cV RL Y_X12_loss 106 1 := ⟨cb_X12_loss, ml_RL_106, im_X12_loss, se_X12_loss⟩
theorem ml_RL_110 : Cond.methodLink RL 110 yX12_evening ∈ lw_g := aw7 (List.mem_of_getElem? (i := 202) rfl) rfl
theorem cb_X12_evening : cB Y_X12_evening 1 := ⟨aw7 (List.mem_of_getElem? (i := 205) rfl) rfl, in_RX12, ⟨by decide +kernel, by decide +kernel, by decide +kernel⟩, by decide⟩
theorem im_X12_evening : Cond.instanceMethod yX12_evening ∈ lw_g := aw7 (List.mem_of_getElem? (i := 203) rfl) rfl
theorem se_X12_evening : Cond.selects RX12 yX12_evening yX12_evening ∈ lw_g := aw7 (List.mem_of_getElem? (i := 204) rfl) rfl
theorem cw_RL_110 : cV RL Y_X12_evening 110 1 := ⟨cb_X12_evening, ml_RL_110, im_X12_evening, se_X12_evening⟩
theorem ml_RL_114 : Cond.methodLink RL 114 yX12_odds ∈ lw_g := aw7 (List.mem_of_getElem? (i := 206) rfl) rfl
theorem cb_X12_odds : cB Y_X12_odds 2 := ⟨aw7 (List.mem_of_getElem? (i := 209) rfl) rfl, in_RX12, ⟨by decide +kernel, by decide +kernel, by decide +kernel⟩, by decide⟩
theorem im_X12_odds : Cond.instanceMethod yX12_odds ∈ lw_g := aw7 (List.mem_of_getElem? (i := 207) rfl) rfl
theorem se_X12_odds : Cond.selects RX12 yX12_odds yX12_odds ∈ lw_g := aw7 (List.mem_of_getElem? (i := 208) rfl) rfl
theorem cw_RL_114 : cV RL Y_X12_odds 114 2 := ⟨cb_X12_odds, ml_RL_114, im_X12_odds, se_X12_odds⟩
theorem ml_RL_118 : Cond.methodLink RL 118 yX12_heads ∈ lw_g := aw7 (List.mem_of_getElem? (i := 211) rfl) rfl
theorem cb_X12_heads : cB Y_X12_heads 1 := ⟨aw7 (List.mem_of_getElem? (i := 214) rfl) rfl, in_RX12, ⟨by decide +kernel, by decide +kernel, by decide +kernel⟩, by decide⟩
theorem im_X12_heads : Cond.instanceMethod yX12_heads ∈ lw_g := aw7 (List.mem_of_getElem? (i := 212) rfl) rfl
theorem se_X12_heads : Cond.selects RX12 yX12_heads yX12_heads ∈ lw_g := aw7 (List.mem_of_getElem? (i := 213) rfl) rfl
theorem cw_RL_118 : cV RL Y_X12_heads 118 1 := ⟨cb_X12_heads, ml_RL_118, im_X12_heads, se_X12_heads⟩
theorem ml_RL_122 : Cond.methodLink RL 122 yX12_stayed ∈ lw_g := aw7 (List.mem_of_getElem? (i := 215) rfl) rfl
theorem cb_X12_stayed : cB Y_X12_stayed 2 := ⟨aw7 (List.mem_of_getElem? (i := 218) rfl) rfl, in_RX12, ⟨by decide +kernel, by decide +kernel, by decide +kernel⟩, by decide⟩
theorem im_X12_stayed : Cond.instanceMethod yX12_stayed ∈ lw_g := aw7 (List.mem_of_getElem? (i := 216) rfl) rfl
theorem se_X12_stayed : Cond.selects RX12 yX12_stayed yX12_stayed ∈ lw_g := aw7 (List.mem_of_getElem? (i := 217) rfl) rfl
theorem cw_RL_122 : cV RL Y_X12_stayed 122 2 := ⟨cb_X12_stayed, ml_RL_122, im_X12_stayed, se_X12_stayed⟩
theorem ml_RL_126 : Cond.methodLink RL 126 yX12_were ∈ lw_g := aw7 (List.mem_of_getElem? (i := 219) rfl) rfl
theorem cb_X12_were : cB Y_X12_were 1 := ⟨aw7 (List.mem_of_getElem? (i := 222) rfl) rfl, in_RX12, ⟨by decide +kernel, by decide +kernel, by decide +kernel⟩, by decide⟩
theorem im_X12_were : Cond.instanceMethod yX12_were ∈ lw_g := aw7 (List.mem_of_getElem? (i := 220) rfl) rfl
theorem se_X12_were : Cond.selects RX12 yX12_were yX12_were ∈ lw_g := aw7 (List.mem_of_getElem? (i := 221) rfl) rfl
theorem cw_RL_126 : cV RL Y_X12_were 126 1 := ⟨cb_X12_were, ml_RL_126, im_X12_were, se_X12_were⟩
theorem ml_RX12_483 : Cond.methodLink RX12 483 yX12_liken ∈ lw_g := aw7 (List.mem_of_getElem? (i := 223) rfl) rfl
theorem cb_X12_liken : cB Y_X12_liken 1 := ⟨aw7 (List.mem_of_getElem? (i := 226) rfl) rfl, in_RX12, ⟨by decide +kernel, by decide +kernel, by decide +kernel⟩, by decide⟩
theorem im_X12_liken : Cond.instanceMethod yX12_liken ∈ lw_g := aw7 (List.mem_of_getElem? (i := 225) rfl) rfl
theorem se_X12_liken : Cond.selects RX12 yX12_liken yX12_liken ∈ lw_g := aw0 (List.mem_of_getElem? (i := 78) rfl) rfl
theorem cw_RX12_483 : cV RX12 Y_X12_liken 483 1 := ⟨cb_X12_liken, ml_RX12_483, im_X12_liken, se_X12_liken⟩
theorem ml_RX12_479 : Cond.methodLink RX12 479 yX12_pass ∈ lw_g := aw7 (List.mem_of_getElem? (i := 227) rfl) rfl
theorem cb_X12_pass : cB Y_X12_pass 4 := ⟨aw7 (List.mem_of_getElem? (i := 230) rfl) rfl, in_RX12, ⟨by decide +kernel, by decide +kernel, by decide +kernel⟩, by decide⟩
theorem im_X12_pass : Cond.instanceMethod yX12_pass ∈ lw_g := aw7 (List.mem_of_getElem? (i := 229) rfl) rfl
theorem se_X12_pass : Cond.selects RX12 yX12_pass yX12_pass ∈ lw_g := aw0 (List.mem_of_getElem? (i := 79) rfl) rfl
theorem cw_RX12_479 : cV RX12 Y_X12_pass 479 4 := ⟨cb_X12_pass, ml_RX12_479, im_X12_pass, se_X12_pass⟩
theorem ml_RX12_486 : Cond.methodLink RX12 486 yX12_ratio ∈ lw_g := aw7 (List.mem_of_getElem? (i := 231) rfl) rfl
theorem cb_X12_ratio : cB Y_X12_ratio 0 := ⟨aw7 (List.mem_of_getElem? (i := 234) rfl) rfl, in_RX12, ⟨by decide +kernel, by decide +kernel, by decide +kernel⟩, by decide⟩
theorem im_X12_ratio : Cond.instanceMethod yX12_ratio ∈ lw_g := aw7 (List.mem_of_getElem? (i := 233) rfl) rfl
theorem se_X12_ratio : Cond.selects RX12 yX12_ratio yX12_ratio ∈ lw_g := aw0 (List.mem_of_getElem? (i := 80) rfl) rfl
theorem cw_RX12_486 : cV RX12 Y_X12_ratio 486 0 := ⟨cb_X12_ratio, ml_RX12_486, im_X12_ratio, se_X12_ratio⟩
theorem ml_RL_130 : Cond.methodLink RL 130 yX12_run ∈ lw_g := aw7 (List.mem_of_getElem? (i := 236) rfl) rfl
theorem cb_X12_run : cB Y_X12_run 2 := ⟨aw7 (List.mem_of_getElem? (i := 239) rfl) rfl, in_RX12, ⟨by decide +kernel, by decide +kernel, by decide +kernel⟩, by decide⟩
theorem im_X12_run : Cond.instanceMethod yX12_run ∈ lw_g := aw7 (List.mem_of_getElem? (i := 237) rfl) rfl
theorem se_X12_run : Cond.selects RX12 yX12_run yX12_run ∈ lw_g := aw7 (List.mem_of_getElem? (i := 238) rfl) rfl
theorem cw_RL_130 : cV RL Y_X12_run 130 2 := ⟨cb_X12_run, ml_RL_130, im_X12_run, se_X12_run⟩
theorem ml_RX12_518 : Cond.methodLink RX12 518 yX12_isSeed ∈ lw_g := aw8 (List.mem_of_getElem? (i := 0) rfl) rfl
theorem cb_X12_isSeed : cB Y_X12_isSeed 1 := ⟨aw8 (List.mem_of_getElem? (i := 2) rfl) rfl, in_RX12, ⟨by decide +kernel, by decide +kernel, by decide +kernel⟩, by decide⟩
theorem st_X12_isSeed : Cond.static yX12_isSeed ∈ lw_g := aw8 (List.mem_of_getElem? (i := 1) rfl) rfl
theorem cw_RX12_518 : cS RX12 Y_X12_isSeed 518 1 := ⟨cb_X12_isSeed, ml_RX12_518, st_X12_isSeed⟩
theorem ml_RX12_521 : Cond.methodLink RX12 521 yX12_goThrough ∈ lw_g := aw8 (List.mem_of_getElem? (i := 3) rfl) rfl
theorem cb_X12_goThrough : cB Y_X12_goThrough 3 := ⟨aw8 (List.mem_of_getElem? (i := 6) rfl) rfl, in_RX12, ⟨by decide +kernel, by decide +kernel, by decide +kernel⟩, by decide⟩
theorem im_X12_goThrough : Cond.instanceMethod yX12_goThrough ∈ lw_g := aw8 (List.mem_of_getElem? (i := 5) rfl) rfl
theorem se_X12_goThrough : Cond.selects RX12 yX12_goThrough yX12_goThrough ∈ lw_g := aw0 (List.mem_of_getElem? (i := 81) rfl) rfl
theorem cw_RX12_521 : cV RX12 Y_X12_goThrough 521 3 := ⟨cb_X12_goThrough, ml_RX12_521, im_X12_goThrough, se_X12_goThrough⟩
theorem ml_RX12_511 : Cond.methodLink RX12 511 yX12_play ∈ lw_g := aw8 (List.mem_of_getElem? (i := 7) rfl) rfl
theorem cb_X12_play : cB Y_X12_play 5 := ⟨aw8 (List.mem_of_getElem? (i := 10) rfl) rfl, in_RX12, ⟨by decide +kernel, by decide +kernel, by decide +kernel⟩, by decide⟩
theorem im_X12_play : Cond.instanceMethod yX12_play ∈ lw_g := aw8 (List.mem_of_getElem? (i := 9) rfl) rfl
theorem se_X12_play : Cond.selects RX12 yX12_play yX12_play ∈ lw_g := aw0 (List.mem_of_getElem? (i := 82) rfl) rfl
theorem cw_RX12_511 : cV RX12 Y_X12_play 511 5 := ⟨cb_X12_play, ml_RX12_511, im_X12_play, se_X12_play⟩
theorem ml_RX12_515 : Cond.methodLink RX12 515 yX12_staying ∈ lw_g := aw8 (List.mem_of_getElem? (i := 11) rfl) rfl
theorem cb_X12_staying : cB Y_X12_staying 2 := ⟨aw8 (List.mem_of_getElem? (i := 14) rfl) rfl, in_RX12, ⟨by decide +kernel, by decide +kernel, by decide +kernel⟩, by decide⟩
theorem im_X12_staying : Cond.instanceMethod yX12_staying ∈ lw_g := aw8 (List.mem_of_getElem? (i := 13) rfl) rfl
theorem se_X12_staying : Cond.selects RX12 yX12_staying yX12_staying ∈ lw_g := aw0 (List.mem_of_getElem? (i := 83) rfl) rfl
theorem cw_RX12_515 : cV RX12 Y_X12_staying 515 2 := ⟨cb_X12_staying, ml_RX12_515, im_X12_staying, se_X12_staying⟩
theorem ml_RX12_499 : Cond.methodLink RX12 499 yX12_draw ∈ lw_g := aw8 (List.mem_of_getElem? (i := 15) rfl) rfl
theorem cb_X12_draw : cB Y_X12_draw 1 := ⟨aw8 (List.mem_of_getElem? (i := 18) rfl) rfl, in_RX12, ⟨by decide +kernel, by decide +kernel, by decide +kernel⟩, by decide⟩
theorem im_X12_draw : Cond.instanceMethod yX12_draw ∈ lw_g := aw8 (List.mem_of_getElem? (i := 17) rfl) rfl
theorem se_X12_draw : Cond.selects RX12 yX12_draw yX12_draw ∈ lw_g := aw0 (List.mem_of_getElem? (i := 84) rfl) rfl
theorem cw_RX12_499 : cV RX12 Y_X12_draw 499 1 := ⟨cb_X12_draw, ml_RX12_499, im_X12_draw, se_X12_draw⟩
theorem ml_RL_134 : Cond.methodLink RL 134 yX12_ran ∈ lw_g := aw8 (List.mem_of_getElem? (i := 22) rfl) rfl
theorem cb_X12_ran : cB Y_X12_ran 2 := ⟨aw8 (List.mem_of_getElem? (i := 25) rfl) rfl, in_RX12, ⟨by decide +kernel, by decide +kernel, by decide +kernel⟩, by decide⟩
theorem im_X12_ran : Cond.instanceMethod yX12_ran ∈ lw_g := aw8 (List.mem_of_getElem? (i := 23) rfl) rfl
theorem se_X12_ran : Cond.selects RX12 yX12_ran yX12_ran ∈ lw_g := aw8 (List.mem_of_getElem? (i := 24) rfl) rfl
theorem cw_RL_134 : cV RL Y_X12_ran 134 2 := ⟨cb_X12_ran, ml_RL_134, im_X12_ran, se_X12_ran⟩
theorem ml_RL_139 : Cond.methodLink RL 139 yX12_nights ∈ lw_g := aw8 (List.mem_of_getElem? (i := 26) rfl) rfl
theorem cb_X12_nights : cB Y_X12_nights 4 := ⟨aw8 (List.mem_of_getElem? (i := 29) rfl) rfl, in_RX12, ⟨by decide +kernel, by decide +kernel, by decide +kernel⟩, by decide⟩
theorem im_X12_nights : Cond.instanceMethod yX12_nights ∈ lw_g := aw8 (List.mem_of_getElem? (i := 27) rfl) rfl
theorem se_X12_nights : Cond.selects RX12 yX12_nights yX12_nights ∈ lw_g := aw8 (List.mem_of_getElem? (i := 28) rfl) rfl
theorem cw_RL_139 : cV RL Y_X12_nights 139 4 := ⟨cb_X12_nights, ml_RL_139, im_X12_nights, se_X12_nights⟩
theorem ml_RL_151 : Cond.methodLink RL 151 yX12_count ∈ lw_g := aw8 (List.mem_of_getElem? (i := 30) rfl) rfl
theorem cb_X12_count : cB Y_X12_count 1 := ⟨aw8 (List.mem_of_getElem? (i := 33) rfl) rfl, in_RX12, ⟨by decide +kernel, by decide +kernel, by decide +kernel⟩, by decide⟩
theorem im_X12_count : Cond.instanceMethod yX12_count ∈ lw_g := aw8 (List.mem_of_getElem? (i := 31) rfl) rfl
theorem se_X12_count : Cond.selects RX12 yX12_count yX12_count ∈ lw_g := aw8 (List.mem_of_getElem? (i := 32) rfl) rfl
theorem cw_RL_151 : cV RL Y_X12_count 151 1 := ⟨cb_X12_count, ml_RL_151, im_X12_count, se_X12_count⟩
theorem ml_RL_155 : Cond.methodLink RL 155 yX12_status ∈ lw_g := aw8 (List.mem_of_getElem? (i := 34) rfl) rfl
theorem cb_X12_status : cB Y_X12_status 0 := ⟨aw8 (List.mem_of_getElem? (i := 37) rfl) rfl, in_RX12, ⟨by decide +kernel, by decide +kernel, by decide +kernel⟩, by decide⟩
theorem im_X12_status : Cond.instanceMethod yX12_status ∈ lw_g := aw8 (List.mem_of_getElem? (i := 35) rfl) rfl
theorem se_X12_status : Cond.selects RX12 yX12_status yX12_status ∈ lw_g := aw8 (List.mem_of_getElem? (i := 36) rfl) rfl
theorem cw_RL_155 : cV RL Y_X12_status 155 0 := ⟨cb_X12_status, ml_RL_155, im_X12_status, se_X12_status⟩
