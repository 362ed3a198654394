/-! The law passes the checker, in pieces. -/
set_option maxRecDepth 100000 in
theorem k_LawL_0 : ((c_LawL.drop 0).take 40).all (zOkI 13 code 4 (some .boolean)) = true := by decide +kernel
set_option maxRecDepth 100000 in
theorem k_LawL_1 : ((c_LawL.drop 40).take 40).all (zOkI 13 code 4 (some .boolean)) = true := by decide +kernel
set_option maxRecDepth 100000 in
theorem k_LawL_2 : ((c_LawL.drop 80).take 40).all (zOkI 13 code 4 (some .boolean)) = true := by decide +kernel
set_option maxRecDepth 100000 in
theorem k_LawL_3 : ((c_LawL.drop 120).take 40).all (zOkI 13 code 4 (some .boolean)) = true := by decide +kernel
set_option maxRecDepth 100000 in
theorem k_LawL_4 : ((c_LawL.drop 160).take 40).all (zOkI 13 code 4 (some .boolean)) = true := by decide +kernel
set_option maxRecDepth 100000 in
theorem k_LawL_5 : ((c_LawL.drop 200).take 40).all (zOkI 13 code 4 (some .boolean)) = true := by decide +kernel
set_option maxRecDepth 100000 in
theorem k_LawL_6 : ((c_LawL.drop 240).take 40).all (zOkI 13 code 4 (some .boolean)) = true := by decide +kernel
set_option maxRecDepth 100000 in
theorem k_LawL_7 : ((c_LawL.drop 280).take 40).all (zOkI 13 code 4 (some .boolean)) = true := by decide +kernel
set_option maxRecDepth 100000 in
theorem k_LawL_8 : ((c_LawL.drop 320).take 40).all (zOkI 13 code 4 (some .boolean)) = true := by decide +kernel
set_option maxRecDepth 100000 in
theorem k_LawL_9 : ((c_LawL.drop 360).take 40).all (zOkI 13 code 4 (some .boolean)) = true := by decide +kernel
set_option maxRecDepth 100000 in
theorem k_LawL_10 : ((c_LawL.drop 400).take 40).all (zOkI 13 code 4 (some .boolean)) = true := by decide +kernel
set_option maxRecDepth 100000 in
theorem k_LawL_11 : ((c_LawL.drop 440).take 40).all (zOkI 13 code 4 (some .boolean)) = true := by decide +kernel
set_option maxRecDepth 100000 in
theorem k_LawL_12 : ((c_LawL.drop 480).take 40).all (zOkI 13 code 4 (some .boolean)) = true := by decide +kernel
set_option maxRecDepth 100000 in
theorem k_LawL_13 : ((c_LawL.drop 520).take 40).all (zOkI 13 code 4 (some .boolean)) = true := by decide +kernel
set_option maxRecDepth 100000 in
theorem k_LawL_14 : ((c_LawL.drop 560).take 40).all (zOkI 13 code 4 (some .boolean)) = true := by decide +kernel
set_option maxRecDepth 100000 in
theorem k_LawL_15 : ((c_LawL.drop 600).take 40).all (zOkI 13 code 4 (some .boolean)) = true := by decide +kernel
set_option maxRecDepth 100000 in
theorem k_LawL_16 : ((c_LawL.drop 640).take 40).all (zOkI 13 code 4 (some .boolean)) = true := by decide +kernel
