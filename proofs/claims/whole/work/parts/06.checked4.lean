theorem kl_0 : (((i_L_law.zip p_L_law).drop 0).take 27).all (chk1 r_L_law) = true := by decide +kernel
theorem kl_1 : (((i_L_law.zip p_L_law).drop 27).take 27).all (chk1 r_L_law) = true := by decide +kernel
theorem kl_2 : (((i_L_law.zip p_L_law).drop 54).take 27).all (chk1 r_L_law) = true := by decide +kernel
theorem kl_3 : (((i_L_law.zip p_L_law).drop 81).take 27).all (chk1 r_L_law) = true := by decide +kernel
theorem kl_4 : (((i_L_law.zip p_L_law).drop 108).take 27).all (chk1 r_L_law) = true := by decide +kernel
theorem kl_5 : (((i_L_law.zip p_L_law).drop 135).take 27).all (chk1 r_L_law) = true := by decide +kernel
theorem kl_6 : (((i_L_law.zip p_L_law).drop 162).take 27).all (chk1 r_L_law) = true := by decide +kernel
theorem kl_7 : (((i_L_law.zip p_L_law).drop 189).take 27).all (chk1 r_L_law) = true := by decide +kernel
theorem kl_8 : (((i_L_law.zip p_L_law).drop 216).take 27).all (chk1 r_L_law) = true := by decide +kernel
theorem kl_9 : (((i_L_law.zip p_L_law).drop 243).take 27).all (chk1 r_L_law) = true := by decide +kernel
theorem kl_10 : (((i_L_law.zip p_L_law).drop 270).take 27).all (chk1 r_L_law) = true := by decide +kernel
theorem kl_11 : (((i_L_law.zip p_L_law).drop 297).take 27).all (chk1 r_L_law) = true := by decide +kernel
theorem kl_12 : (((i_L_law.zip p_L_law).drop 324).take 27).all (chk1 r_L_law) = true := by decide +kernel
theorem kl_13 : (((i_L_law.zip p_L_law).drop 351).take 27).all (chk1 r_L_law) = true := by decide +kernel
theorem kl_14 : (((i_L_law.zip p_L_law).drop 378).take 27).all (chk1 r_L_law) = true := by decide +kernel
theorem kl_15 : (((i_L_law.zip p_L_law).drop 405).take 27).all (chk1 r_L_law) = true := by decide +kernel
theorem kl_16 : (((i_L_law.zip p_L_law).drop 432).take 27).all (chk1 r_L_law) = true := by decide +kernel
theorem kl_17 : (((i_L_law.zip p_L_law).drop 459).take 27).all (chk1 r_L_law) = true := by decide +kernel
theorem kl_18 : (((i_L_law.zip p_L_law).drop 486).take 27).all (chk1 r_L_law) = true := by decide +kernel
theorem kl_19 : (((i_L_law.zip p_L_law).drop 513).take 27).all (chk1 r_L_law) = true := by decide +kernel
theorem kl_20 : (((i_L_law.zip p_L_law).drop 540).take 27).all (chk1 r_L_law) = true := by decide +kernel
theorem kl_21 : (((i_L_law.zip p_L_law).drop 567).take 27).all (chk1 r_L_law) = true := by decide +kernel
theorem kl_22 : (((i_L_law.zip p_L_law).drop 594).take 27).all (chk1 r_L_law) = true := by decide +kernel
theorem kl_23 : (((i_L_law.zip p_L_law).drop 621).take 27).all (chk1 r_L_law) = true := by decide +kernel
theorem kl_24 : (((i_L_law.zip p_L_law).drop 648).take 27).all (chk1 r_L_law) = true := by decide +kernel
theorem kl_25 : (((i_L_law.zip p_L_law).drop 675).take 27).all (chk1 r_L_law) = true := by decide +kernel
theorem kl_26 : (((i_L_law.zip p_L_law).drop 702).take 27).all (chk1 r_L_law) = true := by decide +kernel
theorem kl_27 : (((i_L_law.zip p_L_law).drop 729).take 27).all (chk1 r_L_law) = true := by decide +kernel
theorem kl_28 : (((i_L_law.zip p_L_law).drop 756).take 27).all (chk1 r_L_law) = true := by decide +kernel
theorem kl_29 : (((i_L_law.zip p_L_law).drop 783).take 27).all (chk1 r_L_law) = true := by decide +kernel
theorem kl_30 : (((i_L_law.zip p_L_law).drop 810).take 27).all (chk1 r_L_law) = true := by decide +kernel
theorem kl_31 : (((i_L_law.zip p_L_law).drop 837).take 27).all (chk1 r_L_law) = true := by decide +kernel
theorem kl_32 : (((i_L_law.zip p_L_law).drop 864).take 27).all (chk1 r_L_law) = true := by decide +kernel
theorem kl_33 : (((i_L_law.zip p_L_law).drop 891).take 27).all (chk1 r_L_law) = true := by decide +kernel
theorem kl_34 : (((i_L_law.zip p_L_law).drop 918).take 27).all (chk1 r_L_law) = true := by decide +kernel
theorem kl_35 : (((i_L_law.zip p_L_law).drop 945).take 27).all (chk1 r_L_law) = true := by decide +kernel
theorem kl_e : ((i_L_law.zip p_L_law).drop 972).all (chk1 r_L_law) = true := by decide +kernel
theorem kl_h : chkH r_L_law = true := by decide +kernel
theorem kl_z36 : ((i_L_law.zip p_L_law).drop 972).all (chk1 r_L_law) = true := kl_e
theorem kl_z35 : ((i_L_law.zip p_L_law).drop 945).all (chk1 r_L_law) = true := all_cut 27 kl_35 (by rw [List.drop_drop]; exact kl_z36)
theorem kl_z34 : ((i_L_law.zip p_L_law).drop 918).all (chk1 r_L_law) = true := all_cut 27 kl_34 (by rw [List.drop_drop]; exact kl_z35)
theorem kl_z33 : ((i_L_law.zip p_L_law).drop 891).all (chk1 r_L_law) = true := all_cut 27 kl_33 (by rw [List.drop_drop]; exact kl_z34)
theorem kl_z32 : ((i_L_law.zip p_L_law).drop 864).all (chk1 r_L_law) = true := all_cut 27 kl_32 (by rw [List.drop_drop]; exact kl_z33)
theorem kl_z31 : ((i_L_law.zip p_L_law).drop 837).all (chk1 r_L_law) = true := all_cut 27 kl_31 (by rw [List.drop_drop]; exact kl_z32)
theorem kl_z30 : ((i_L_law.zip p_L_law).drop 810).all (chk1 r_L_law) = true := all_cut 27 kl_30 (by rw [List.drop_drop]; exact kl_z31)
theorem kl_z29 : ((i_L_law.zip p_L_law).drop 783).all (chk1 r_L_law) = true := all_cut 27 kl_29 (by rw [List.drop_drop]; exact kl_z30)
theorem kl_z28 : ((i_L_law.zip p_L_law).drop 756).all (chk1 r_L_law) = true := all_cut 27 kl_28 (by rw [List.drop_drop]; exact kl_z29)
theorem kl_z27 : ((i_L_law.zip p_L_law).drop 729).all (chk1 r_L_law) = true := all_cut 27 kl_27 (by rw [List.drop_drop]; exact kl_z28)
theorem kl_z26 : ((i_L_law.zip p_L_law).drop 702).all (chk1 r_L_law) = true := all_cut 27 kl_26 (by rw [List.drop_drop]; exact kl_z27)
theorem kl_z25 : ((i_L_law.zip p_L_law).drop 675).all (chk1 r_L_law) = true := all_cut 27 kl_25 (by rw [List.drop_drop]; exact kl_z26)
theorem kl_z24 : ((i_L_law.zip p_L_law).drop 648).all (chk1 r_L_law) = true := all_cut 27 kl_24 (by rw [List.drop_drop]; exact kl_z25)
theorem kl_z23 : ((i_L_law.zip p_L_law).drop 621).all (chk1 r_L_law) = true := all_cut 27 kl_23 (by rw [List.drop_drop]; exact kl_z24)
theorem kl_z22 : ((i_L_law.zip p_L_law).drop 594).all (chk1 r_L_law) = true := all_cut 27 kl_22 (by rw [List.drop_drop]; exact kl_z23)
theorem kl_z21 : ((i_L_law.zip p_L_law).drop 567).all (chk1 r_L_law) = true := all_cut 27 kl_21 (by rw [List.drop_drop]; exact kl_z22)
theorem kl_z20 : ((i_L_law.zip p_L_law).drop 540).all (chk1 r_L_law) = true := all_cut 27 kl_20 (by rw [List.drop_drop]; exact kl_z21)
theorem kl_z19 : ((i_L_law.zip p_L_law).drop 513).all (chk1 r_L_law) = true := all_cut 27 kl_19 (by rw [List.drop_drop]; exact kl_z20)
theorem kl_z18 : ((i_L_law.zip p_L_law).drop 486).all (chk1 r_L_law) = true := all_cut 27 kl_18 (by rw [List.drop_drop]; exact kl_z19)
theorem kl_z17 : ((i_L_law.zip p_L_law).drop 459).all (chk1 r_L_law) = true := all_cut 27 kl_17 (by rw [List.drop_drop]; exact kl_z18)
theorem kl_z16 : ((i_L_law.zip p_L_law).drop 432).all (chk1 r_L_law) = true := all_cut 27 kl_16 (by rw [List.drop_drop]; exact kl_z17)
theorem kl_z15 : ((i_L_law.zip p_L_law).drop 405).all (chk1 r_L_law) = true := all_cut 27 kl_15 (by rw [List.drop_drop]; exact kl_z16)
theorem kl_z14 : ((i_L_law.zip p_L_law).drop 378).all (chk1 r_L_law) = true := all_cut 27 kl_14 (by rw [List.drop_drop]; exact kl_z15)
theorem kl_z13 : ((i_L_law.zip p_L_law).drop 351).all (chk1 r_L_law) = true := all_cut 27 kl_13 (by rw [List.drop_drop]; exact kl_z14)
theorem kl_z12 : ((i_L_law.zip p_L_law).drop 324).all (chk1 r_L_law) = true := all_cut 27 kl_12 (by rw [List.drop_drop]; exact kl_z13)
theorem kl_z11 : ((i_L_law.zip p_L_law).drop 297).all (chk1 r_L_law) = true := all_cut 27 kl_11 (by rw [List.drop_drop]; exact kl_z12)
theorem kl_z10 : ((i_L_law.zip p_L_law).drop 270).all (chk1 r_L_law) = true := all_cut 27 kl_10 (by rw [List.drop_drop]; exact kl_z11)
theorem kl_z9 : ((i_L_law.zip p_L_law).drop 243).all (chk1 r_L_law) = true := all_cut 27 kl_9 (by rw [List.drop_drop]; exact kl_z10)
theorem kl_z8 : ((i_L_law.zip p_L_law).drop 216).all (chk1 r_L_law) = true := all_cut 27 kl_8 (by rw [List.drop_drop]; exact kl_z9)
theorem kl_z7 : ((i_L_law.zip p_L_law).drop 189).all (chk1 r_L_law) = true := all_cut 27 kl_7 (by rw [List.drop_drop]; exact kl_z8)
theorem kl_z6 : ((i_L_law.zip p_L_law).drop 162).all (chk1 r_L_law) = true := all_cut 27 kl_6 (by rw [List.drop_drop]; exact kl_z7)
theorem kl_z5 : ((i_L_law.zip p_L_law).drop 135).all (chk1 r_L_law) = true := all_cut 27 kl_5 (by rw [List.drop_drop]; exact kl_z6)
theorem kl_z4 : ((i_L_law.zip p_L_law).drop 108).all (chk1 r_L_law) = true := all_cut 27 kl_4 (by rw [List.drop_drop]; exact kl_z5)
theorem kl_z3 : ((i_L_law.zip p_L_law).drop 81).all (chk1 r_L_law) = true := all_cut 27 kl_3 (by rw [List.drop_drop]; exact kl_z4)
theorem kl_z2 : ((i_L_law.zip p_L_law).drop 54).all (chk1 r_L_law) = true := all_cut 27 kl_2 (by rw [List.drop_drop]; exact kl_z3)
theorem kl_z1 : ((i_L_law.zip p_L_law).drop 27).all (chk1 r_L_law) = true := all_cut 27 kl_1 (by rw [List.drop_drop]; exact kl_z2)
theorem kl_z0 : ((i_L_law.zip p_L_law).drop 0).all (chk1 r_L_law) = true := all_cut 27 kl_0 (by rw [List.drop_drop]; exact kl_z1)
theorem k_L_law : chkR r_L_law = true := by
  unfold chkR
  rw [kl_h, Bool.true_and]
  exact kl_z0
