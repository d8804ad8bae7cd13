/-! the classes -/
theorem kK0 : z_K 0 RX0 TX0 5 tyX0 := ⟨rfl, z_inTb _ [291, 293, 295, 297, 299] (by decide +kernel) (by decide +kernel), tyX0_ok, nmX0, by decide⟩
theorem kK1 : z_K 1 RX1 TX1 4 tyX1 := ⟨rfl, z_inTb _ [356, 358, 360, 362] (by decide +kernel) (by decide +kernel), tyX1_ok, nmX1, by decide⟩
theorem kK2 : z_K 2 RX2 TX2 17 tyX2 := ⟨rfl, z_inTb _ [100, 102, 104, 106, 108, 110, 112, 114, 116, 118, 120, 122, 124, 126, 128, 130, 132] (by decide +kernel) (by decide +kernel), tyX2_ok, nmX2, by decide⟩
theorem kK3 : z_K 3 RX3 TX3 13 tyX3 := ⟨rfl, z_inTb _ [153, 155, 157, 159, 161, 163, 165, 167, 169, 171, 173, 175, 177] (by decide +kernel) (by decide +kernel), tyX3_ok, nmX3, by decide⟩
theorem kK4 : z_K 4 RX4 TX4 11 tyX4 := ⟨rfl, z_inTb _ [385, 387, 389, 391, 393, 395, 397, 399, 401, 403, 405] (by decide +kernel) (by decide +kernel), tyX4_ok, nmX4, by decide⟩
theorem kK5 : z_K 5 RX5 TX5 18 tyX5 := ⟨rfl, z_inTb _ [240, 242, 244, 246, 248, 250, 252, 254, 256, 258, 260, 262, 264, 266, 268, 270, 272, 274] (by decide +kernel) (by decide +kernel), tyX5_ok, nmX5, by decide⟩
theorem kK6 : z_K 6 RX6 TX6 4 tyX6 := ⟨rfl, z_inTb _ [314, 316, 318, 320] (by decide +kernel) (by decide +kernel), tyX6_ok, nmX6, by decide⟩
theorem kK7 : z_K 7 RX7 TX7 4 tyX7 := ⟨rfl, z_inTb _ [333, 335, 337, 339] (by decide +kernel) (by decide +kernel), tyX7_ok, nmX7, by decide⟩
theorem kK8 : z_K 8 RX8 TX8 18 tyX8 := ⟨rfl, z_inTb _ [442, 444, 446, 448, 450, 452, 454, 456, 458, 460, 462, 464, 466, 468, 470, 472, 474, 476] (by decide +kernel) (by decide +kernel), tyX8_ok, nmX8, by decide⟩
theorem kK9 : z_K 9 RX9 TX9 61 tyX9 := ⟨rfl, z_inTb _ [1287, 1289, 1291, 1293, 1295, 1297, 1299, 1301, 1303, 1305, 1307, 1309, 1311, 1313, 1315, 1317, 1319, 1321, 1323, 1325, 1327, 1329, 1331, 1333, 1335, 1337, 1339, 1341, 1343, 1345, 1347, 1349, 1351, 1353, 1355, 1357, 1359, 1361, 1363, 1365, 1367, 1369, 1371, 1373, 1375, 1377, 1379, 1381, 1383, 1385, 1387, 1389, 1391, 1393, 1395, 1397, 1399, 1401, 1403, 1405, 1407] (by decide +kernel) (by decide +kernel), tyX9_ok, nmX9, by decide⟩
