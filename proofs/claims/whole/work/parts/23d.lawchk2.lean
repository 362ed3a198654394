/-! The law passes the checker, in pieces. -/
set_option maxRecDepth 100000 in
theorem k_LawL_17 : ((c_LawL.drop 680).take 40).all (zOkI 13 code 4 (some .boolean)) = true := by decide +kernel
set_option maxRecDepth 100000 in
theorem k_LawL_18 : ((c_LawL.drop 720).take 40).all (zOkI 13 code 4 (some .boolean)) = true := by decide +kernel
set_option maxRecDepth 100000 in
theorem k_LawL_19 : ((c_LawL.drop 760).take 40).all (zOkI 13 code 4 (some .boolean)) = true := by decide +kernel
set_option maxRecDepth 100000 in
theorem k_LawL_20 : ((c_LawL.drop 800).take 40).all (zOkI 13 code 4 (some .boolean)) = true := by decide +kernel
set_option maxRecDepth 100000 in
theorem k_LawL_21 : ((c_LawL.drop 840).take 40).all (zOkI 13 code 4 (some .boolean)) = true := by decide +kernel
set_option maxRecDepth 100000 in
theorem k_LawL_22 : ((c_LawL.drop 880).take 40).all (zOkI 13 code 4 (some .boolean)) = true := by decide +kernel
set_option maxRecDepth 100000 in
theorem k_LawL_23 : ((c_LawL.drop 920).take 40).all (zOkI 13 code 4 (some .boolean)) = true := by decide +kernel
set_option maxRecDepth 100000 in
theorem k_LawL_24 : ((c_LawL.drop 960).take 40).all (zOkI 13 code 4 (some .boolean)) = true := by decide +kernel
set_option maxRecDepth 100000 in
theorem k_LawL_25 : ((c_LawL.drop 1000).take 40).all (zOkI 13 code 4 (some .boolean)) = true := by decide +kernel
set_option maxRecDepth 100000 in
theorem k_LawL_26 : ((c_LawL.drop 1040).take 40).all (zOkI 13 code 4 (some .boolean)) = true := by decide +kernel
set_option maxRecDepth 100000 in
theorem k_LawL_27 : ((c_LawL.drop 1080).take 40).all (zOkI 13 code 4 (some .boolean)) = true := by decide +kernel
set_option maxRecDepth 100000 in
theorem k_LawL_28 : ((c_LawL.drop 1120).take 40).all (zOkI 13 code 4 (some .boolean)) = true := by decide +kernel
set_option maxRecDepth 100000 in
theorem k_LawL_29 : ((c_LawL.drop 1160).take 40).all (zOkI 13 code 4 (some .boolean)) = true := by decide +kernel
set_option maxRecDepth 100000 in
theorem k_LawL_30 : ((c_LawL.drop 1200).take 40).all (zOkI 13 code 4 (some .boolean)) = true := by decide +kernel
set_option maxRecDepth 100000 in
theorem k_LawL_31 : ((c_LawL.drop 1240).take 40).all (zOkI 13 code 4 (some .boolean)) = true := by decide +kernel
set_option maxRecDepth 100000 in
theorem k_LawL_32 : ((c_LawL.drop 1280).take 40).all (zOkI 13 code 4 (some .boolean)) = true := by decide +kernel
set_option maxRecDepth 100000 in
theorem k_LawL_33 : ((c_LawL.drop 1320).take 40).all (zOkI 13 code 4 (some .boolean)) = true := by decide +kernel
set_option maxRecDepth 100000 in
theorem k_LawL_34 : ((c_LawL.drop 1360).take 40).all (zOkI 13 code 4 (some .boolean)) = true := by decide +kernel
theorem zAll_take {α : Type} {f : α → Bool} {n : Nat} : ∀ {l : List α}, (l.take n).all f = true → (l.drop n).all f = true → l.all f = true := by
  intro l h1 h2
  rw [← List.take_append_drop n l, List.all_append, h1, h2]
  rfl
theorem k_LawL : c_LawL.all (zOkI 13 code 4 (some .boolean)) = true := by
  refine zAll_take (n := 40) (by have := k_LawL_0; rwa [List.drop_zero] at this) ?_
  refine zAll_take (n := 40) (by exact k_LawL_1) ?_
  rw [List.drop_drop]
  refine zAll_take (n := 40) (by exact k_LawL_2) ?_
  rw [List.drop_drop]
  refine zAll_take (n := 40) (by exact k_LawL_3) ?_
  rw [List.drop_drop]
  refine zAll_take (n := 40) (by exact k_LawL_4) ?_
  rw [List.drop_drop]
  refine zAll_take (n := 40) (by exact k_LawL_5) ?_
  rw [List.drop_drop]
  refine zAll_take (n := 40) (by exact k_LawL_6) ?_
  rw [List.drop_drop]
  refine zAll_take (n := 40) (by exact k_LawL_7) ?_
  rw [List.drop_drop]
  refine zAll_take (n := 40) (by exact k_LawL_8) ?_
  rw [List.drop_drop]
  refine zAll_take (n := 40) (by exact k_LawL_9) ?_
  rw [List.drop_drop]
  refine zAll_take (n := 40) (by exact k_LawL_10) ?_
  rw [List.drop_drop]
  refine zAll_take (n := 40) (by exact k_LawL_11) ?_
  rw [List.drop_drop]
  refine zAll_take (n := 40) (by exact k_LawL_12) ?_
  rw [List.drop_drop]
  refine zAll_take (n := 40) (by exact k_LawL_13) ?_
  rw [List.drop_drop]
  refine zAll_take (n := 40) (by exact k_LawL_14) ?_
  rw [List.drop_drop]
  refine zAll_take (n := 40) (by exact k_LawL_15) ?_
  rw [List.drop_drop]
  refine zAll_take (n := 40) (by exact k_LawL_16) ?_
  rw [List.drop_drop]
  refine zAll_take (n := 40) (by exact k_LawL_17) ?_
  rw [List.drop_drop]
  refine zAll_take (n := 40) (by exact k_LawL_18) ?_
  rw [List.drop_drop]
  refine zAll_take (n := 40) (by exact k_LawL_19) ?_
  rw [List.drop_drop]
  refine zAll_take (n := 40) (by exact k_LawL_20) ?_
  rw [List.drop_drop]
  refine zAll_take (n := 40) (by exact k_LawL_21) ?_
  rw [List.drop_drop]
  refine zAll_take (n := 40) (by exact k_LawL_22) ?_
  rw [List.drop_drop]
  refine zAll_take (n := 40) (by exact k_LawL_23) ?_
  rw [List.drop_drop]
  refine zAll_take (n := 40) (by exact k_LawL_24) ?_
  rw [List.drop_drop]
  refine zAll_take (n := 40) (by exact k_LawL_25) ?_
  rw [List.drop_drop]
  refine zAll_take (n := 40) (by exact k_LawL_26) ?_
  rw [List.drop_drop]
  refine zAll_take (n := 40) (by exact k_LawL_27) ?_
  rw [List.drop_drop]
  refine zAll_take (n := 40) (by exact k_LawL_28) ?_
  rw [List.drop_drop]
  refine zAll_take (n := 40) (by exact k_LawL_29) ?_
  rw [List.drop_drop]
  refine zAll_take (n := 40) (by exact k_LawL_30) ?_
  rw [List.drop_drop]
  refine zAll_take (n := 40) (by exact k_LawL_31) ?_
  rw [List.drop_drop]
  refine zAll_take (n := 40) (by exact k_LawL_32) ?_
  rw [List.drop_drop]
  refine zAll_take (n := 40) (by exact k_LawL_33) ?_
  rw [List.drop_drop]
  refine zAll_take (n := 40) (by exact k_LawL_34) ?_
  decide +kernel
