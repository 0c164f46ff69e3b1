def M_LW : sd_MX := (⟨RL, "law", "([I)Z"⟩, code, 4, ret, room_1)
/-- the law's own frame: the script of L ints xs at the cell b, below the cells; what its end with true comes to -/
def sd_LW (G : sd_GX) (X : sd_CX) (Q : State → Prop) (b L : Nat) (xs : Nat → Int32) : Prop :=
  va_X b L xs (sd_s X) (sd_s X).heap ∧ b < (sd_s X).heap.size ∧ G.1 = (sd_s X).heap.size ∧ L ≤ 3072 ∧ ∀ (pc : Nat) (lo : List (Nat × Value)) (h : sd_HX), decode code pc = .ok (.ireturn, 1) → sd_J G X Q M_LW pc lo [.int 1] h
section SLW
variable {G : sd_GX} {X : sd_CX} {Q : State → Prop} {b L : Nat} {xs : Nat → Int32} {M : sd_MX} {pc pc' : Nat} {lo : List (Nat × Value)} {st : List Value} {h : sd_HX}
theorem sL_nA (hE : sd_LW G X Q b L xs) : ¬ sd_A G b := by
  show ¬ G.1 ≤ b
  rw [hE.2.2.1]
  exact Nat.not_le.mpr hE.2.1
theorem sL_len (hE : sd_LW G X Q b L xs) (d : sd_d M pc .arraylength 1 pc') (kk : sd_J G X Q M pc' lo (.int (Int32.ofNat L) :: st) h) : sd_J G X Q M pc lo (.ref b :: st) h := fun hB H locs ls hH hS hl hf => by
  obtain ⟨d, rfl⟩ := d
  exact va_slen hB.1 hB.2.1 hE.1 hE.2.1 (sL_nA hE) hS d (kk hB H locs ls hH hS hl hf)
theorem sL_ld (hE : sd_LW G X Q b L xs) {i : Int32} (d : sd_d M pc .iaload 1 pc') (hi : sd_inB i L = true) (kk : sd_J G X Q M pc' lo (.int (xs i.toNatClampNeg) :: st) h) : sd_J G X Q M pc lo (.int i :: .ref b :: st) h := fun hB H locs ls hH hS hl hf => by
  obtain ⟨d, rfl⟩ := d
  exact va_sld hB.1 hB.2.1 hE.1 hE.2.1 (sL_nA hE) hS (sd_in_of hi) d (kk hB H locs ls hH hS hl hf)
end SLW
theorem ml_L_13 : Cond.methodLink RL 13 yX11_row ∈ sd_tb := sd_mem (i := 476) (by decide +kernel)
theorem mv_XT_row : sd_mV M_XT_row 3 := ⟨sd_mem (i := 477) (by decide +kernel), sd_mem (i := 478) (by decide +kernel), ⟨sd_mem (i := 479) (by decide +kernel), sd_mem (i := 108) (by decide +kernel), by decide +kernel, by decide +kernel, by decide +kernel⟩⟩
theorem ml_L_17 : Cond.methodLink RL 17 yX12_row ∈ sd_tb := sd_mem (i := 1291) (by decide +kernel)
theorem mv_YM_row : sd_mV M_YM_row 3 := ⟨sd_mem (i := 1292) (by decide +kernel), sd_mem (i := 1293) (by decide +kernel), ⟨sd_mem (i := 1294) (by decide +kernel), sd_mem (i := 119) (by decide +kernel), by decide +kernel, by decide +kernel, by decide +kernel⟩⟩
theorem ml_L_18 : Cond.methodLink RL 18 yX11_lose ∈ sd_tb := sd_mem (i := 494) (by decide +kernel)
theorem mv_XT_lose : sd_mV M_XT_lose 1 := ⟨sd_mem (i := 495) (by decide +kernel), sd_mem (i := 496) (by decide +kernel), ⟨sd_mem (i := 497) (by decide +kernel), sd_mem (i := 108) (by decide +kernel), by decide +kernel, by decide +kernel, by decide +kernel⟩⟩
theorem ml_L_22 : Cond.methodLink RL 22 yX12_lose ∈ sd_tb := sd_mem (i := 1305) (by decide +kernel)
theorem mv_YM_lose : sd_mV M_YM_lose 1 := ⟨sd_mem (i := 1306) (by decide +kernel), sd_mem (i := 1307) (by decide +kernel), ⟨sd_mem (i := 1308) (by decide +kernel), sd_mem (i := 119) (by decide +kernel), by decide +kernel, by decide +kernel, by decide +kernel⟩⟩
theorem ml_L_23 : Cond.methodLink RL 23 yX11_put ∈ sd_tb := sd_mem (i := 502) (by decide +kernel)
theorem mv_XT_put : sd_mV M_XT_put 4 := ⟨sd_mem (i := 503) (by decide +kernel), sd_mem (i := 504) (by decide +kernel), ⟨sd_mem (i := 505) (by decide +kernel), sd_mem (i := 108) (by decide +kernel), by decide +kernel, by decide +kernel, by decide +kernel⟩⟩
theorem ml_L_27 : Cond.methodLink RL 27 yX12_put ∈ sd_tb := sd_mem (i := 1309) (by decide +kernel)
theorem mv_YM_put : sd_mV M_YM_put 4 := ⟨sd_mem (i := 1310) (by decide +kernel), sd_mem (i := 1311) (by decide +kernel), ⟨sd_mem (i := 1312) (by decide +kernel), sd_mem (i := 119) (by decide +kernel), by decide +kernel, by decide +kernel, by decide +kernel⟩⟩
theorem ml_L_28 : Cond.methodLink RL 28 yX11_get ∈ sd_tb := sd_mem (i := 515) (by decide +kernel)
theorem ml_L_32 : Cond.methodLink RL 32 yX12_get ∈ sd_tb := sd_mem (i := 1315) (by decide +kernel)
theorem mv_YM_get : sd_mV M_YM_get 2 := ⟨sd_mem (i := 1316) (by decide +kernel), sd_mem (i := 1317) (by decide +kernel), ⟨sd_mem (i := 1318) (by decide +kernel), sd_mem (i := 119) (by decide +kernel), by decide +kernel, by decide +kernel, by decide +kernel⟩⟩
theorem ml_L_33 : Cond.methodLink RL 33 yX11_copy ∈ sd_tb := sd_mem (i := 535) (by decide +kernel)
theorem mv_XT_copy : sd_mV M_XT_copy 5 := ⟨sd_mem (i := 536) (by decide +kernel), sd_mem (i := 537) (by decide +kernel), ⟨sd_mem (i := 538) (by decide +kernel), sd_mem (i := 108) (by decide +kernel), by decide +kernel, by decide +kernel, by decide +kernel⟩⟩
theorem ml_L_37 : Cond.methodLink RL 37 yX12_copy ∈ sd_tb := sd_mem (i := 1336) (by decide +kernel)
theorem mv_YM_copy : sd_mV M_YM_copy 5 := ⟨sd_mem (i := 1337) (by decide +kernel), sd_mem (i := 1338) (by decide +kernel), ⟨sd_mem (i := 1339) (by decide +kernel), sd_mem (i := 119) (by decide +kernel), by decide +kernel, by decide +kernel, by decide +kernel⟩⟩
theorem ml_L_38 : Cond.methodLink RL 38 yX11_turns ∈ sd_tb := sd_mem (i := 546) (by decide +kernel)
theorem mv_XT_turns : sd_mV M_XT_turns 1 := ⟨sd_mem (i := 547) (by decide +kernel), sd_mem (i := 548) (by decide +kernel), ⟨sd_mem (i := 549) (by decide +kernel), sd_mem (i := 108) (by decide +kernel), by decide +kernel, by decide +kernel, by decide +kernel⟩⟩
theorem ml_L_41 : Cond.methodLink RL 41 yX12_turns ∈ sd_tb := sd_mem (i := 1340) (by decide +kernel)
theorem mv_YM_turns : sd_mV M_YM_turns 1 := ⟨sd_mem (i := 1341) (by decide +kernel), sd_mem (i := 1342) (by decide +kernel), ⟨sd_mem (i := 1343) (by decide +kernel), sd_mem (i := 119) (by decide +kernel), by decide +kernel, by decide +kernel, by decide +kernel⟩⟩
theorem ml_L_42 : Cond.methodLink RL 42 yX11_type ∈ sd_tb := sd_mem (i := 562) (by decide +kernel)
theorem mv_XT_type : sd_mV M_XT_type 1 := ⟨sd_mem (i := 563) (by decide +kernel), sd_mem (i := 564) (by decide +kernel), ⟨sd_mem (i := 565) (by decide +kernel), sd_mem (i := 108) (by decide +kernel), by decide +kernel, by decide +kernel, by decide +kernel⟩⟩
theorem ml_L_45 : Cond.methodLink RL 45 yX12_type ∈ sd_tb := sd_mem (i := 1348) (by decide +kernel)
theorem mv_YM_type : sd_mV M_YM_type 1 := ⟨sd_mem (i := 1349) (by decide +kernel), sd_mem (i := 1350) (by decide +kernel), ⟨sd_mem (i := 1351) (by decide +kernel), sd_mem (i := 119) (by decide +kernel), by decide +kernel, by decide +kernel, by decide +kernel⟩⟩
theorem ml_L_46 : Cond.methodLink RL 46 yX11_wipe ∈ sd_tb := sd_mem (i := 566) (by decide +kernel)
theorem mv_XT_wipe : sd_mV M_XT_wipe 0 := ⟨sd_mem (i := 567) (by decide +kernel), sd_mem (i := 568) (by decide +kernel), ⟨sd_mem (i := 569) (by decide +kernel), sd_mem (i := 108) (by decide +kernel), by decide +kernel, by decide +kernel, by decide +kernel⟩⟩
theorem ml_L_50 : Cond.methodLink RL 50 yX12_wipe ∈ sd_tb := sd_mem (i := 1352) (by decide +kernel)
theorem mv_YM_wipe : sd_mV M_YM_wipe 0 := ⟨sd_mem (i := 1353) (by decide +kernel), sd_mem (i := 1354) (by decide +kernel), ⟨sd_mem (i := 1355) (by decide +kernel), sd_mem (i := 119) (by decide +kernel), by decide +kernel, by decide +kernel, by decide +kernel⟩⟩
theorem ml_L_51 : Cond.methodLink RL 51 yX11_statement ∈ sd_tb := sd_mem (i := 570) (by decide +kernel)
theorem mv_XT_statement : sd_mV M_XT_statement 1 := ⟨sd_mem (i := 571) (by decide +kernel), sd_mem (i := 572) (by decide +kernel), ⟨sd_mem (i := 573) (by decide +kernel), sd_mem (i := 108) (by decide +kernel), by decide +kernel, by decide +kernel, by decide +kernel⟩⟩
theorem ml_L_54 : Cond.methodLink RL 54 yX12_statement ∈ sd_tb := sd_mem (i := 1356) (by decide +kernel)
theorem mv_YM_statement : sd_mV M_YM_statement 1 := ⟨sd_mem (i := 1357) (by decide +kernel), sd_mem (i := 1358) (by decide +kernel), ⟨sd_mem (i := 1359) (by decide +kernel), sd_mem (i := 119) (by decide +kernel), by decide +kernel, by decide +kernel, by decide +kernel⟩⟩
theorem ml_L_55 : Cond.methodLink RL 55 yX11_refer ∈ sd_tb := sd_mem (i := 655) (by decide +kernel)
theorem mv_XT_refer : sd_mV M_XT_refer 3 := ⟨sd_mem (i := 656) (by decide +kernel), sd_mem (i := 657) (by decide +kernel), ⟨sd_mem (i := 658) (by decide +kernel), sd_mem (i := 108) (by decide +kernel), by decide +kernel, by decide +kernel, by decide +kernel⟩⟩
theorem ml_L_58 : Cond.methodLink RL 58 yX12_refer ∈ sd_tb := sd_mem (i := 1368) (by decide +kernel)
theorem mv_YM_refer : sd_mV M_YM_refer 3 := ⟨sd_mem (i := 1369) (by decide +kernel), sd_mem (i := 1370) (by decide +kernel), ⟨sd_mem (i := 1371) (by decide +kernel), sd_mem (i := 119) (by decide +kernel), by decide +kernel, by decide +kernel, by decide +kernel⟩⟩
theorem ml_L_59 : Cond.methodLink RL 59 yX11_place ∈ sd_tb := sd_mem (i := 667) (by decide +kernel)
theorem mv_XT_place : sd_mV M_XT_place 5 := ⟨sd_mem (i := 668) (by decide +kernel), sd_mem (i := 669) (by decide +kernel), ⟨sd_mem (i := 670) (by decide +kernel), sd_mem (i := 108) (by decide +kernel), by decide +kernel, by decide +kernel, by decide +kernel⟩⟩
theorem ml_L_62 : Cond.methodLink RL 62 yX12_place ∈ sd_tb := sd_mem (i := 1376) (by decide +kernel)
theorem mv_YM_place : sd_mV M_YM_place 5 := ⟨sd_mem (i := 1377) (by decide +kernel), sd_mem (i := 1378) (by decide +kernel), ⟨sd_mem (i := 1379) (by decide +kernel), sd_mem (i := 119) (by decide +kernel), by decide +kernel, by decide +kernel, by decide +kernel⟩⟩
theorem ml_L_63 : Cond.methodLink RL 63 yX11_guard ∈ sd_tb := sd_mem (i := 672) (by decide +kernel)
theorem mv_XT_guard : sd_mV M_XT_guard 3 := ⟨sd_mem (i := 673) (by decide +kernel), sd_mem (i := 674) (by decide +kernel), ⟨sd_mem (i := 675) (by decide +kernel), sd_mem (i := 108) (by decide +kernel), by decide +kernel, by decide +kernel, by decide +kernel⟩⟩
theorem ml_L_66 : Cond.methodLink RL 66 yX12_guard ∈ sd_tb := sd_mem (i := 1380) (by decide +kernel)
theorem mv_YM_guard : sd_mV M_YM_guard 3 := ⟨sd_mem (i := 1381) (by decide +kernel), sd_mem (i := 1382) (by decide +kernel), ⟨sd_mem (i := 1383) (by decide +kernel), sd_mem (i := 119) (by decide +kernel), by decide +kernel, by decide +kernel, by decide +kernel⟩⟩
theorem ml_L_67 : Cond.methodLink RL 67 yX11_mask ∈ sd_tb := sd_mem (i := 676) (by decide +kernel)
theorem mv_XT_mask : sd_mV M_XT_mask 2 := ⟨sd_mem (i := 677) (by decide +kernel), sd_mem (i := 678) (by decide +kernel), ⟨sd_mem (i := 679) (by decide +kernel), sd_mem (i := 108) (by decide +kernel), by decide +kernel, by decide +kernel, by decide +kernel⟩⟩
theorem ml_L_71 : Cond.methodLink RL 71 yX12_mask ∈ sd_tb := sd_mem (i := 1384) (by decide +kernel)
theorem mv_YM_mask : sd_mV M_YM_mask 2 := ⟨sd_mem (i := 1385) (by decide +kernel), sd_mem (i := 1386) (by decide +kernel), ⟨sd_mem (i := 1387) (by decide +kernel), sd_mem (i := 119) (by decide +kernel), by decide +kernel, by decide +kernel, by decide +kernel⟩⟩
theorem ml_L_72 : Cond.methodLink RL 72 yX11_undo ∈ sd_tb := sd_mem (i := 680) (by decide +kernel)
theorem mv_XT_undo : sd_mV M_XT_undo 0 := ⟨sd_mem (i := 681) (by decide +kernel), sd_mem (i := 682) (by decide +kernel), ⟨sd_mem (i := 683) (by decide +kernel), sd_mem (i := 108) (by decide +kernel), by decide +kernel, by decide +kernel, by decide +kernel⟩⟩
theorem ml_L_75 : Cond.methodLink RL 75 yX12_undo ∈ sd_tb := sd_mem (i := 1388) (by decide +kernel)
theorem mv_YM_undo : sd_mV M_YM_undo 0 := ⟨sd_mem (i := 1389) (by decide +kernel), sd_mem (i := 1390) (by decide +kernel), ⟨sd_mem (i := 1391) (by decide +kernel), sd_mem (i := 119) (by decide +kernel), by decide +kernel, by decide +kernel, by decide +kernel⟩⟩
theorem ml_L_76 : Cond.methodLink RL 76 yX11_info ∈ sd_tb := sd_mem (i := 689) (by decide +kernel)
theorem ml_L_79 : Cond.methodLink RL 79 yX12_info ∈ sd_tb := sd_mem (i := 1392) (by decide +kernel)
theorem mv_YM_info : sd_mV M_YM_info 2 := ⟨sd_mem (i := 1393) (by decide +kernel), sd_mem (i := 1394) (by decide +kernel), ⟨sd_mem (i := 1395) (by decide +kernel), sd_mem (i := 119) (by decide +kernel), by decide +kernel, by decide +kernel, by decide +kernel⟩⟩
theorem ml_L_80 : Cond.methodLink RL 80 yX11_reference ∈ sd_tb := sd_mem (i := 725) (by decide +kernel)
theorem ml_L_83 : Cond.methodLink RL 83 yX12_reference ∈ sd_tb := sd_mem (i := 1419) (by decide +kernel)
theorem mv_YM_reference : sd_mV M_YM_reference 3 := ⟨sd_mem (i := 1420) (by decide +kernel), sd_mem (i := 1421) (by decide +kernel), ⟨sd_mem (i := 1422) (by decide +kernel), sd_mem (i := 119) (by decide +kernel), by decide +kernel, by decide +kernel, by decide +kernel⟩⟩
theorem ml_L_84 : Cond.methodLink RL 84 yX11_section ∈ sd_tb := sd_mem (i := 730) (by decide +kernel)
theorem ml_L_87 : Cond.methodLink RL 87 yX12_section ∈ sd_tb := sd_mem (i := 1427) (by decide +kernel)
theorem mv_YM_section : sd_mV M_YM_section 3 := ⟨sd_mem (i := 1428) (by decide +kernel), sd_mem (i := 1429) (by decide +kernel), ⟨sd_mem (i := 1430) (by decide +kernel), sd_mem (i := 119) (by decide +kernel), by decide +kernel, by decide +kernel, by decide +kernel⟩⟩
theorem ml_L_88 : Cond.methodLink RL 88 yX11_meet ∈ sd_tb := sd_mem (i := 765) (by decide +kernel)
theorem mv_XT_meet : sd_mV M_XT_meet 5 := ⟨sd_mem (i := 766) (by decide +kernel), sd_mem (i := 767) (by decide +kernel), ⟨sd_mem (i := 768) (by decide +kernel), sd_mem (i := 108) (by decide +kernel), by decide +kernel, by decide +kernel, by decide +kernel⟩⟩
theorem ml_L_91 : Cond.methodLink RL 91 yX12_meet ∈ sd_tb := sd_mem (i := 1455) (by decide +kernel)
theorem mv_YM_meet : sd_mV M_YM_meet 5 := ⟨sd_mem (i := 1456) (by decide +kernel), sd_mem (i := 1457) (by decide +kernel), ⟨sd_mem (i := 1458) (by decide +kernel), sd_mem (i := 119) (by decide +kernel), by decide +kernel, by decide +kernel, by decide +kernel⟩⟩
theorem ml_L_92 : Cond.methodLink RL 92 yX11_kinds ∈ sd_tb := sd_mem (i := 781) (by decide +kernel)
theorem ml_L_95 : Cond.methodLink RL 95 yX12_kinds ∈ sd_tb := sd_mem (i := 1467) (by decide +kernel)
theorem mv_YM_kinds : sd_mV M_YM_kinds 2 := ⟨sd_mem (i := 1468) (by decide +kernel), sd_mem (i := 1469) (by decide +kernel), ⟨sd_mem (i := 1470) (by decide +kernel), sd_mem (i := 119) (by decide +kernel), by decide +kernel, by decide +kernel, by decide +kernel⟩⟩
theorem ml_L_96 : Cond.methodLink RL 96 yX11_kind ∈ sd_tb := sd_mem (i := 812) (by decide +kernel)
theorem mv_XT_kind : sd_mV M_XT_kind 4 := ⟨sd_mem (i := 813) (by decide +kernel), sd_mem (i := 814) (by decide +kernel), ⟨sd_mem (i := 815) (by decide +kernel), sd_mem (i := 108) (by decide +kernel), by decide +kernel, by decide +kernel, by decide +kernel⟩⟩
theorem ml_L_99 : Cond.methodLink RL 99 yX12_kind ∈ sd_tb := sd_mem (i := 1487) (by decide +kernel)
theorem mv_YM_kind : sd_mV M_YM_kind 4 := ⟨sd_mem (i := 1488) (by decide +kernel), sd_mem (i := 1489) (by decide +kernel), ⟨sd_mem (i := 1490) (by decide +kernel), sd_mem (i := 119) (by decide +kernel), by decide +kernel, by decide +kernel, by decide +kernel⟩⟩
theorem ml_L_100 : Cond.methodLink RL 100 yX11_many ∈ sd_tb := sd_mem (i := 816) (by decide +kernel)
theorem ml_L_103 : Cond.methodLink RL 103 yX12_many ∈ sd_tb := sd_mem (i := 1491) (by decide +kernel)
theorem mv_YM_many : sd_mV M_YM_many 3 := ⟨sd_mem (i := 1492) (by decide +kernel), sd_mem (i := 1493) (by decide +kernel), ⟨sd_mem (i := 1494) (by decide +kernel), sd_mem (i := 119) (by decide +kernel), by decide +kernel, by decide +kernel, by decide +kernel⟩⟩
theorem ml_L_104 : Cond.methodLink RL 104 yX11_pieces ∈ sd_tb := sd_mem (i := 865) (by decide +kernel)
theorem ml_L_107 : Cond.methodLink RL 107 yX12_pieces ∈ sd_tb := sd_mem (i := 1530) (by decide +kernel)
theorem mv_YM_pieces : sd_mV M_YM_pieces 3 := ⟨sd_mem (i := 1531) (by decide +kernel), sd_mem (i := 1532) (by decide +kernel), ⟨sd_mem (i := 1533) (by decide +kernel), sd_mem (i := 119) (by decide +kernel), by decide +kernel, by decide +kernel, by decide +kernel⟩⟩
theorem ml_L_108 : Cond.methodLink RL 108 yX11_piece ∈ sd_tb := sd_mem (i := 876) (by decide +kernel)
theorem mv_XT_piece : sd_mV M_XT_piece 5 := ⟨sd_mem (i := 877) (by decide +kernel), sd_mem (i := 878) (by decide +kernel), ⟨sd_mem (i := 879) (by decide +kernel), sd_mem (i := 108) (by decide +kernel), by decide +kernel, by decide +kernel, by decide +kernel⟩⟩
theorem ml_L_111 : Cond.methodLink RL 111 yX12_piece ∈ sd_tb := sd_mem (i := 1545) (by decide +kernel)
theorem mv_YM_piece : sd_mV M_YM_piece 5 := ⟨sd_mem (i := 1546) (by decide +kernel), sd_mem (i := 1547) (by decide +kernel), ⟨sd_mem (i := 1548) (by decide +kernel), sd_mem (i := 119) (by decide +kernel), by decide +kernel, by decide +kernel, by decide +kernel⟩⟩
theorem ml_L_112 : Cond.methodLink RL 112 yX11_verdict ∈ sd_tb := sd_mem (i := 880) (by decide +kernel)
theorem ml_L_115 : Cond.methodLink RL 115 yX12_verdict ∈ sd_tb := sd_mem (i := 1553) (by decide +kernel)
theorem mv_YM_verdict : sd_mV M_YM_verdict 1 := ⟨sd_mem (i := 1554) (by decide +kernel), sd_mem (i := 1555) (by decide +kernel), ⟨sd_mem (i := 1556) (by decide +kernel), sd_mem (i := 119) (by decide +kernel), by decide +kernel, by decide +kernel, by decide +kernel⟩⟩
theorem ml_L_116 : Cond.methodLink RL 116 yX11_would ∈ sd_tb := sd_mem (i := 903) (by decide +kernel)
theorem mv_XT_would : sd_mV M_XT_would 2 := ⟨sd_mem (i := 904) (by decide +kernel), sd_mem (i := 905) (by decide +kernel), ⟨sd_mem (i := 906) (by decide +kernel), sd_mem (i := 108) (by decide +kernel), by decide +kernel, by decide +kernel, by decide +kernel⟩⟩
theorem ml_L_119 : Cond.methodLink RL 119 yX12_would ∈ sd_tb := sd_mem (i := 1585) (by decide +kernel)
theorem mv_YM_would : sd_mV M_YM_would 2 := ⟨sd_mem (i := 1586) (by decide +kernel), sd_mem (i := 1587) (by decide +kernel), ⟨sd_mem (i := 1588) (by decide +kernel), sd_mem (i := 119) (by decide +kernel), by decide +kernel, by decide +kernel, by decide +kernel⟩⟩
theorem ml_L_120 : Cond.methodLink RL 120 yX11_witness ∈ sd_tb := sd_mem (i := 907) (by decide +kernel)
theorem ml_L_123 : Cond.methodLink RL 123 yX12_witness ∈ sd_tb := sd_mem (i := 1589) (by decide +kernel)
theorem mv_YM_witness : sd_mV M_YM_witness 2 := ⟨sd_mem (i := 1590) (by decide +kernel), sd_mem (i := 1591) (by decide +kernel), ⟨sd_mem (i := 1592) (by decide +kernel), sd_mem (i := 119) (by decide +kernel), by decide +kernel, by decide +kernel, by decide +kernel⟩⟩
theorem ml_L_124 : Cond.methodLink RL 124 yX11_last ∈ sd_tb := sd_mem (i := 921) (by decide +kernel)
theorem ml_L_127 : Cond.methodLink RL 127 yX12_last ∈ sd_tb := sd_mem (i := 1597) (by decide +kernel)
theorem mv_YM_last : sd_mV M_YM_last 3 := ⟨sd_mem (i := 1598) (by decide +kernel), sd_mem (i := 1599) (by decide +kernel), ⟨sd_mem (i := 1600) (by decide +kernel), sd_mem (i := 119) (by decide +kernel), by decide +kernel, by decide +kernel, by decide +kernel⟩⟩
theorem ml_L_128 : Cond.methodLink RL 128 yX11_run ∈ sd_tb := sd_mem (i := 925) (by decide +kernel)
theorem mv_XT_run : sd_mV M_XT_run 0 := ⟨sd_mem (i := 926) (by decide +kernel), sd_mem (i := 927) (by decide +kernel), ⟨sd_mem (i := 928) (by decide +kernel), sd_mem (i := 108) (by decide +kernel), by decide +kernel, by decide +kernel, by decide +kernel⟩⟩
theorem ml_L_131 : Cond.methodLink RL 131 yX12_run ∈ sd_tb := sd_mem (i := 1605) (by decide +kernel)
theorem mv_YM_run : sd_mV M_YM_run 0 := ⟨sd_mem (i := 1606) (by decide +kernel), sd_mem (i := 1607) (by decide +kernel), ⟨sd_mem (i := 1608) (by decide +kernel), sd_mem (i := 119) (by decide +kernel), by decide +kernel, by decide +kernel, by decide +kernel⟩⟩
theorem ml_L_132 : Cond.methodLink RL 132 yX11_mixed ∈ sd_tb := sd_mem (i := 1050) (by decide +kernel)
theorem mv_XT_mixed : sd_mV M_XT_mixed 4 := ⟨sd_mem (i := 1051) (by decide +kernel), sd_mem (i := 1052) (by decide +kernel), ⟨sd_mem (i := 1053) (by decide +kernel), sd_mem (i := 108) (by decide +kernel), by decide +kernel, by decide +kernel, by decide +kernel⟩⟩
theorem ml_L_135 : Cond.methodLink RL 135 yX12_mixed ∈ sd_tb := sd_mem (i := 1678) (by decide +kernel)
theorem mv_YM_mixed : sd_mV M_YM_mixed 4 := ⟨sd_mem (i := 1679) (by decide +kernel), sd_mem (i := 1680) (by decide +kernel), ⟨sd_mem (i := 1681) (by decide +kernel), sd_mem (i := 119) (by decide +kernel), by decide +kernel, by decide +kernel, by decide +kernel⟩⟩
theorem ml_L_136 : Cond.methodLink RL 136 yX11_same ∈ sd_tb := sd_mem (i := 1068) (by decide +kernel)
theorem mv_XT_same : sd_mV M_XT_same 4 := ⟨sd_mem (i := 1069) (by decide +kernel), sd_mem (i := 1070) (by decide +kernel), ⟨sd_mem (i := 1071) (by decide +kernel), sd_mem (i := 108) (by decide +kernel), by decide +kernel, by decide +kernel, by decide +kernel⟩⟩
theorem ml_L_139 : Cond.methodLink RL 139 yX12_same ∈ sd_tb := sd_mem (i := 1706) (by decide +kernel)
theorem mv_YM_same : sd_mV M_YM_same 4 := ⟨sd_mem (i := 1707) (by decide +kernel), sd_mem (i := 1708) (by decide +kernel), ⟨sd_mem (i := 1709) (by decide +kernel), sd_mem (i := 119) (by decide +kernel), by decide +kernel, by decide +kernel, by decide +kernel⟩⟩
theorem ml_L_140 : Cond.methodLink RL 140 yX11_faults ∈ sd_tb := sd_mem (i := 1085) (by decide +kernel)
theorem ml_L_143 : Cond.methodLink RL 143 yX12_faults ∈ sd_tb := sd_mem (i := 1714) (by decide +kernel)
theorem mv_YM_faults : sd_mV M_YM_faults 1 := ⟨sd_mem (i := 1715) (by decide +kernel), sd_mem (i := 1716) (by decide +kernel), ⟨sd_mem (i := 1717) (by decide +kernel), sd_mem (i := 119) (by decide +kernel), by decide +kernel, by decide +kernel, by decide +kernel⟩⟩
theorem ml_L_144 : Cond.methodLink RL 144 yX11_ended ∈ sd_tb := sd_mem (i := 1089) (by decide +kernel)
theorem ml_L_147 : Cond.methodLink RL 147 yX12_ended ∈ sd_tb := sd_mem (i := 1718) (by decide +kernel)
theorem ml_L_148 : Cond.methodLink RL 148 yX11_writer ∈ sd_tb := sd_mem (i := 1093) (by decide +kernel)
theorem ml_L_151 : Cond.methodLink RL 151 yX12_writer ∈ sd_tb := sd_mem (i := 1722) (by decide +kernel)
theorem mv_YM_writer : sd_mV M_YM_writer 2 := ⟨sd_mem (i := 1723) (by decide +kernel), sd_mem (i := 1724) (by decide +kernel), ⟨sd_mem (i := 1725) (by decide +kernel), sd_mem (i := 119) (by decide +kernel), by decide +kernel, by decide +kernel, by decide +kernel⟩⟩
theorem ml_L_152 : Cond.methodLink RL 152 yX11_count ∈ sd_tb := sd_mem (i := 1097) (by decide +kernel)
theorem ml_L_155 : Cond.methodLink RL 155 yX12_count ∈ sd_tb := sd_mem (i := 1726) (by decide +kernel)
theorem ml_L_156 : Cond.methodLink RL 156 yX11_digest ∈ sd_tb := sd_mem (i := 1106) (by decide +kernel)
theorem mv_XT_digest : sd_mV M_XT_digest 0 := ⟨sd_mem (i := 1107) (by decide +kernel), sd_mem (i := 1108) (by decide +kernel), ⟨sd_mem (i := 1109) (by decide +kernel), sd_mem (i := 108) (by decide +kernel), by decide +kernel, by decide +kernel, by decide +kernel⟩⟩
theorem ml_L_160 : Cond.methodLink RL 160 yX12_digest ∈ sd_tb := sd_mem (i := 1734) (by decide +kernel)
theorem mv_YM_digest : sd_mV M_YM_digest 0 := ⟨sd_mem (i := 1735) (by decide +kernel), sd_mem (i := 1736) (by decide +kernel), ⟨sd_mem (i := 1737) (by decide +kernel), sd_mem (i := 119) (by decide +kernel), by decide +kernel, by decide +kernel, by decide +kernel⟩⟩
def LW_B1465 (h : sd_H) (K18 : sd_H → Int32 → Option Int32) (l3 : Int32) : Option Int32 :=
  K18 h (l3 + 6)
set_option maxHeartbeats 8000000 in
set_option maxRecDepth 100000 in
theorem J_LW_B1465 {G : sd_GX} {X : sd_CX} {Q : State → Prop} {b L : Nat} {xs : Nat → Int32} (hE : sd_LW G X Q b L xs) {h : sd_H} {K18 : sd_H → Int32 → Option Int32} (hK18 : ∀ (g : sd_H) (l3 : Int32), K18 g l3 = some 1 → sd_J G X Q M_LW 18 [(0, .ref b), (1, .ref (G.1 + 0)), (2, .ref (G.1 + 126)), (3, .int l3)] [] (sd_F g)) {l3 : Int32} (hf : LW_B1465 h K18 l3 = some 1) : sd_J G X Q M_LW 1465 [(0, .ref b), (1, .ref (G.1 + 0)), (2, .ref (G.1 + 126)), (3, .int l3)] [] (sd_F h) := by
  unfold LW_B1465 at hf
  refine sd_iinc (i := 3) (q := 3) (n := 6) (v := (l3 + 6)) (pc' := 1468) (lo' := [(3, .int (l3 + 6)), (0, .ref b), (1, .ref (G.1 + 0)), (2, .ref (G.1 + 126))]) (by decide +kernel) rfl rfl (by decide) rfl ?_
  refine sd_goto (off := -1450) (tgt := 18) (pc' := 1471) (by decide +kernel) ?_
  refine sd_J.sub (lo' := [(0, .ref b), (1, .ref (G.1 + 0)), (2, .ref (G.1 + 126)), (3, .int (l3 + 6))]) [1, 2, 3, 0] rfl ?_
  exact hK18 _ _ hf
def LW_L18 (xs : Nat → Int32) (L : Nat) : Nat → sd_H → Int32 → Option Int32
  | 0, _, _ => none
  | n + 1, h, l3 =>
  (if ((Int32.ofNat L) - 6) < l3 then some 1 else gd (sd_inB l3 L) ((if ((xs (l3 : Int32).toNatClampNeg) &&& 63) = 0 then gd (sd_inB (l3 + 1) L) (gd (sd_inB (l3 + 2) L) (gd (sd_inB (l3 + 3) L) (b2 (XT_row h (xs ((l3 + 1) : Int32).toNatClampNeg) (xs ((l3 + 2) : Int32).toNatClampNeg) (xs ((l3 + 3) : Int32).toNatClampNeg)) (fun h8 t9 => gd (sd_inB (l3 + 1) L) (gd (sd_inB (l3 + 2) L) (gd (sd_inB (l3 + 3) L) (b2 (YM_row h8 (xs ((l3 + 1) : Int32).toNatClampNeg) (xs ((l3 + 2) : Int32).toNatClampNeg) (xs ((l3 + 3) : Int32).toNatClampNeg)) (fun h14 t15 => (if t9 = t15 then LW_B1465 h14 (LW_L18 xs L n) l3 else some 0))))))))) else (if ((xs (l3 : Int32).toNatClampNeg) &&& 63) = 1 then gd (sd_inB (l3 + 1) L) (b2 (XT_lose h (xs ((l3 + 1) : Int32).toNatClampNeg)) (fun h19 t20 => gd (sd_inB (l3 + 1) L) (b2 (YM_lose h19 (xs ((l3 + 1) : Int32).toNatClampNeg)) (fun h23 t24 => (if t20 = t24 then LW_B1465 h23 (LW_L18 xs L n) l3 else some 0))))) else (if ((xs (l3 : Int32).toNatClampNeg) &&& 63) = 2 then gd (sd_inB (l3 + 1) L) (gd (sd_inB (l3 + 2) L) (gd (sd_inB (l3 + 3) L) (gd (sd_inB (l3 + 4) L) (b2 (XT_put h (xs ((l3 + 1) : Int32).toNatClampNeg) (xs ((l3 + 2) : Int32).toNatClampNeg) (xs ((l3 + 3) : Int32).toNatClampNeg) (xs ((l3 + 4) : Int32).toNatClampNeg)) (fun h31 t32 => gd (sd_inB (l3 + 1) L) (gd (sd_inB (l3 + 2) L) (gd (sd_inB (l3 + 3) L) (gd (sd_inB (l3 + 4) L) (b2 (YM_put h31 (xs ((l3 + 1) : Int32).toNatClampNeg) (xs ((l3 + 2) : Int32).toNatClampNeg) (xs ((l3 + 3) : Int32).toNatClampNeg) (xs ((l3 + 4) : Int32).toNatClampNeg)) (fun h38 t39 => (if t32 = t39 then LW_B1465 h38 (LW_L18 xs L n) l3 else some 0))))))))))) else (if ((xs (l3 : Int32).toNatClampNeg) &&& 63) = 3 then gd (sd_inB (l3 + 1) L) (gd (sd_inB (l3 + 2) L) (b2 (XT_get h (xs ((l3 + 1) : Int32).toNatClampNeg) (xs ((l3 + 2) : Int32).toNatClampNeg)) (fun h44 t45 => gd (sd_inB (l3 + 1) L) (gd (sd_inB (l3 + 2) L) (b2 (YM_get h44 (xs ((l3 + 1) : Int32).toNatClampNeg) (xs ((l3 + 2) : Int32).toNatClampNeg)) (fun h49 t50 => (if (lg_cmp t45 t50) = 0 then LW_B1465 h49 (LW_L18 xs L n) l3 else some 0))))))) else (if ((xs (l3 : Int32).toNatClampNeg) &&& 63) = 4 then gd (sd_inB (l3 + 1) L) (gd (sd_inB (l3 + 2) L) (gd (sd_inB (l3 + 3) L) (gd (sd_inB (l3 + 4) L) (gd (sd_inB (l3 + 5) L) (b2 (XT_copy h (xs ((l3 + 1) : Int32).toNatClampNeg) (xs ((l3 + 2) : Int32).toNatClampNeg) (xs ((l3 + 3) : Int32).toNatClampNeg) (xs ((l3 + 4) : Int32).toNatClampNeg) (xs ((l3 + 5) : Int32).toNatClampNeg)) (fun h58 t59 => gd (sd_inB (l3 + 1) L) (gd (sd_inB (l3 + 2) L) (gd (sd_inB (l3 + 3) L) (gd (sd_inB (l3 + 4) L) (gd (sd_inB (l3 + 5) L) (b2 (YM_copy h58 (xs ((l3 + 1) : Int32).toNatClampNeg) (xs ((l3 + 2) : Int32).toNatClampNeg) (xs ((l3 + 3) : Int32).toNatClampNeg) (xs ((l3 + 4) : Int32).toNatClampNeg) (xs ((l3 + 5) : Int32).toNatClampNeg)) (fun h66 t67 => (if t59 = t67 then LW_B1465 h66 (LW_L18 xs L n) l3 else some 0))))))))))))) else (if ((xs (l3 : Int32).toNatClampNeg) &&& 63) = 5 then gd (sd_inB (l3 + 1) L) (b2 (XT_turns h (xs ((l3 + 1) : Int32).toNatClampNeg)) (fun h71 t72 => gd (sd_inB (l3 + 1) L) (b2 (YM_turns h71 (xs ((l3 + 1) : Int32).toNatClampNeg)) (fun h75 t76 => (if t72 = t76 then LW_B1465 h75 (LW_L18 xs L n) l3 else some 0))))) else (if ((xs (l3 : Int32).toNatClampNeg) &&& 63) = 6 then gd (sd_inB (l3 + 1) L) (b2 (XT_type h (xs ((l3 + 1) : Int32).toNatClampNeg)) (fun h80 t81 => gd (sd_inB (l3 + 1) L) (b2 (YM_type h80 (xs ((l3 + 1) : Int32).toNatClampNeg)) (fun h84 t85 => (if t81 = t85 then LW_B1465 h84 (LW_L18 xs L n) l3 else some 0))))) else (if ((xs (l3 : Int32).toNatClampNeg) &&& 63) = 7 then b2 (XT_wipe h) (fun h88 t89 => b2 (YM_wipe h88) (fun h91 t92 => (if t89 = t92 then LW_B1465 h91 (LW_L18 xs L n) l3 else some 0))) else (if ((xs (l3 : Int32).toNatClampNeg) &&& 63) = 8 then gd (sd_inB (l3 + 1) L) (b2 (XT_statement h (xs ((l3 + 1) : Int32).toNatClampNeg)) (fun h96 t97 => gd (sd_inB (l3 + 1) L) (b2 (YM_statement h96 (xs ((l3 + 1) : Int32).toNatClampNeg)) (fun h100 t101 => (if t97 = t101 then LW_B1465 h100 (LW_L18 xs L n) l3 else some 0))))) else (if ((xs (l3 : Int32).toNatClampNeg) &&& 63) = 9 then gd (sd_inB (l3 + 1) L) (gd (sd_inB (l3 + 2) L) (gd (sd_inB (l3 + 3) L) (b2 (XT_refer h (xs ((l3 + 1) : Int32).toNatClampNeg) (xs ((l3 + 2) : Int32).toNatClampNeg) (xs ((l3 + 3) : Int32).toNatClampNeg)) (fun h107 t108 => gd (sd_inB (l3 + 1) L) (gd (sd_inB (l3 + 2) L) (gd (sd_inB (l3 + 3) L) (b2 (YM_refer h107 (xs ((l3 + 1) : Int32).toNatClampNeg) (xs ((l3 + 2) : Int32).toNatClampNeg) (xs ((l3 + 3) : Int32).toNatClampNeg)) (fun h113 t114 => (if t108 = t114 then LW_B1465 h113 (LW_L18 xs L n) l3 else some 0))))))))) else (if ((xs (l3 : Int32).toNatClampNeg) &&& 63) = 10 then gd (sd_inB (l3 + 1) L) (gd (sd_inB (l3 + 2) L) (gd (sd_inB (l3 + 3) L) (gd (sd_inB (l3 + 4) L) (gd (sd_inB (l3 + 5) L) (b2 (XT_place h (xs ((l3 + 1) : Int32).toNatClampNeg) (xs ((l3 + 2) : Int32).toNatClampNeg) (xs ((l3 + 3) : Int32).toNatClampNeg) (xs ((l3 + 4) : Int32).toNatClampNeg) (xs ((l3 + 5) : Int32).toNatClampNeg)) (fun h122 t123 => gd (sd_inB (l3 + 1) L) (gd (sd_inB (l3 + 2) L) (gd (sd_inB (l3 + 3) L) (gd (sd_inB (l3 + 4) L) (gd (sd_inB (l3 + 5) L) (b2 (YM_place h122 (xs ((l3 + 1) : Int32).toNatClampNeg) (xs ((l3 + 2) : Int32).toNatClampNeg) (xs ((l3 + 3) : Int32).toNatClampNeg) (xs ((l3 + 4) : Int32).toNatClampNeg) (xs ((l3 + 5) : Int32).toNatClampNeg)) (fun h130 t131 => (if t123 = t131 then LW_B1465 h130 (LW_L18 xs L n) l3 else some 0))))))))))))) else (if ((xs (l3 : Int32).toNatClampNeg) &&& 63) = 11 then gd (sd_inB (l3 + 1) L) (gd (sd_inB (l3 + 2) L) (gd (sd_inB (l3 + 3) L) (b2 (XT_guard h (xs ((l3 + 1) : Int32).toNatClampNeg) (xs ((l3 + 2) : Int32).toNatClampNeg) (xs ((l3 + 3) : Int32).toNatClampNeg)) (fun h137 t138 => gd (sd_inB (l3 + 1) L) (gd (sd_inB (l3 + 2) L) (gd (sd_inB (l3 + 3) L) (b2 (YM_guard h137 (xs ((l3 + 1) : Int32).toNatClampNeg) (xs ((l3 + 2) : Int32).toNatClampNeg) (xs ((l3 + 3) : Int32).toNatClampNeg)) (fun h143 t144 => (if t138 = t144 then LW_B1465 h143 (LW_L18 xs L n) l3 else some 0))))))))) else (if ((xs (l3 : Int32).toNatClampNeg) &&& 63) = 12 then gd (sd_inB (l3 + 1) L) (gd (sd_inB (l3 + 2) L) (b2 (XT_mask h (xs ((l3 + 1) : Int32).toNatClampNeg) (xs ((l3 + 2) : Int32).toNatClampNeg)) (fun h149 t150 => gd (sd_inB (l3 + 1) L) (gd (sd_inB (l3 + 2) L) (b2 (YM_mask h149 (xs ((l3 + 1) : Int32).toNatClampNeg) (xs ((l3 + 2) : Int32).toNatClampNeg)) (fun h154 t155 => (if t150 = t155 then LW_B1465 h154 (LW_L18 xs L n) l3 else some 0))))))) else (if ((xs (l3 : Int32).toNatClampNeg) &&& 63) = 13 then b2 (XT_undo h) (fun h158 t159 => b2 (YM_undo h158) (fun h161 t162 => (if t159 = t162 then LW_B1465 h161 (LW_L18 xs L n) l3 else some 0))) else (if ((xs (l3 : Int32).toNatClampNeg) &&& 63) = 14 then gd (sd_inB (l3 + 1) L) (gd (sd_inB (l3 + 2) L) (b1 (XT_info h (xs ((l3 + 1) : Int32).toNatClampNeg) (xs ((l3 + 2) : Int32).toNatClampNeg)) (fun t167 => gd (sd_inB (l3 + 1) L) (gd (sd_inB (l3 + 2) L) (b1 (YM_info h (xs ((l3 + 1) : Int32).toNatClampNeg) (xs ((l3 + 2) : Int32).toNatClampNeg)) (fun t171 => (if t167 = t171 then LW_B1465 h (LW_L18 xs L n) l3 else some 0))))))) else (if ((xs (l3 : Int32).toNatClampNeg) &&& 63) = 15 then gd (sd_inB (l3 + 1) L) (gd (sd_inB (l3 + 2) L) (gd (sd_inB (l3 + 3) L) (b1 (XT_reference h (xs ((l3 + 1) : Int32).toNatClampNeg) (xs ((l3 + 2) : Int32).toNatClampNeg) (xs ((l3 + 3) : Int32).toNatClampNeg)) (fun t177 => gd (sd_inB (l3 + 1) L) (gd (sd_inB (l3 + 2) L) (gd (sd_inB (l3 + 3) L) (b1 (YM_reference h (xs ((l3 + 1) : Int32).toNatClampNeg) (xs ((l3 + 2) : Int32).toNatClampNeg) (xs ((l3 + 3) : Int32).toNatClampNeg)) (fun t182 => (if t177 = t182 then LW_B1465 h (LW_L18 xs L n) l3 else some 0))))))))) else (if ((xs (l3 : Int32).toNatClampNeg) &&& 63) = 16 then gd (sd_inB (l3 + 1) L) (gd (sd_inB (l3 + 2) L) (gd (sd_inB (l3 + 3) L) (b2 (XT_section h (xs ((l3 + 1) : Int32).toNatClampNeg) (xs ((l3 + 2) : Int32).toNatClampNeg) (xs ((l3 + 3) : Int32).toNatClampNeg)) (fun h188 t189 => gd (sd_inB (l3 + 1) L) (gd (sd_inB (l3 + 2) L) (gd (sd_inB (l3 + 3) L) (b1 (YM_section h188 (xs ((l3 + 1) : Int32).toNatClampNeg) (xs ((l3 + 2) : Int32).toNatClampNeg) (xs ((l3 + 3) : Int32).toNatClampNeg)) (fun t194 => (if t189 = t194 then LW_B1465 h188 (LW_L18 xs L n) l3 else some 0))))))))) else (if ((xs (l3 : Int32).toNatClampNeg) &&& 63) = 17 then gd (sd_inB (l3 + 1) L) (gd (sd_inB (l3 + 2) L) (gd (sd_inB (l3 + 3) L) (gd (sd_inB (l3 + 4) L) (gd (sd_inB (l3 + 5) L) (b2 (XT_meet h (xs ((l3 + 1) : Int32).toNatClampNeg) (xs ((l3 + 2) : Int32).toNatClampNeg) (xs ((l3 + 3) : Int32).toNatClampNeg) (xs ((l3 + 4) : Int32).toNatClampNeg) (xs ((l3 + 5) : Int32).toNatClampNeg)) (fun h202 t203 => gd (sd_inB (l3 + 1) L) (gd (sd_inB (l3 + 2) L) (gd (sd_inB (l3 + 3) L) (gd (sd_inB (l3 + 4) L) (gd (sd_inB (l3 + 5) L) (b1 (YM_meet h202 (xs ((l3 + 1) : Int32).toNatClampNeg) (xs ((l3 + 2) : Int32).toNatClampNeg) (xs ((l3 + 3) : Int32).toNatClampNeg) (xs ((l3 + 4) : Int32).toNatClampNeg) (xs ((l3 + 5) : Int32).toNatClampNeg)) (fun t210 => (if t203 = t210 then LW_B1465 h202 (LW_L18 xs L n) l3 else some 0))))))))))))) else (if ((xs (l3 : Int32).toNatClampNeg) &&& 63) = 18 then gd (sd_inB (l3 + 1) L) (gd (sd_inB (l3 + 2) L) (b2 (XT_kinds h (xs ((l3 + 1) : Int32).toNatClampNeg) (xs ((l3 + 2) : Int32).toNatClampNeg)) (fun h215 t216 => gd (sd_inB (l3 + 1) L) (gd (sd_inB (l3 + 2) L) (b2 (YM_kinds h215 (xs ((l3 + 1) : Int32).toNatClampNeg) (xs ((l3 + 2) : Int32).toNatClampNeg)) (fun h220 t221 => (if t216 = t221 then LW_B1465 h220 (LW_L18 xs L n) l3 else some 0))))))) else (if ((xs (l3 : Int32).toNatClampNeg) &&& 63) = 19 then gd (sd_inB (l3 + 1) L) (gd (sd_inB (l3 + 2) L) (gd (sd_inB (l3 + 3) L) (gd (sd_inB (l3 + 4) L) (b2 (XT_kind h (xs ((l3 + 1) : Int32).toNatClampNeg) (xs ((l3 + 2) : Int32).toNatClampNeg) (xs ((l3 + 3) : Int32).toNatClampNeg) (xs ((l3 + 4) : Int32).toNatClampNeg)) (fun h228 t229 => gd (sd_inB (l3 + 1) L) (gd (sd_inB (l3 + 2) L) (gd (sd_inB (l3 + 3) L) (gd (sd_inB (l3 + 4) L) (b2 (YM_kind h228 (xs ((l3 + 1) : Int32).toNatClampNeg) (xs ((l3 + 2) : Int32).toNatClampNeg) (xs ((l3 + 3) : Int32).toNatClampNeg) (xs ((l3 + 4) : Int32).toNatClampNeg)) (fun h235 t236 => (if t229 = t236 then LW_B1465 h235 (LW_L18 xs L n) l3 else some 0))))))))))) else (if ((xs (l3 : Int32).toNatClampNeg) &&& 63) = 20 then gd (sd_inB (l3 + 1) L) (gd (sd_inB (l3 + 2) L) (gd (sd_inB (l3 + 3) L) (b2 (XT_many h (xs ((l3 + 1) : Int32).toNatClampNeg) (xs ((l3 + 2) : Int32).toNatClampNeg) (xs ((l3 + 3) : Int32).toNatClampNeg)) (fun h242 t243 => gd (sd_inB (l3 + 1) L) (gd (sd_inB (l3 + 2) L) (gd (sd_inB (l3 + 3) L) (b2 (YM_many h242 (xs ((l3 + 1) : Int32).toNatClampNeg) (xs ((l3 + 2) : Int32).toNatClampNeg) (xs ((l3 + 3) : Int32).toNatClampNeg)) (fun h248 t249 => (if t243 = t249 then LW_B1465 h248 (LW_L18 xs L n) l3 else some 0))))))))) else (if ((xs (l3 : Int32).toNatClampNeg) &&& 63) = 21 then gd (sd_inB (l3 + 1) L) (gd (sd_inB (l3 + 2) L) (gd (sd_inB (l3 + 3) L) (b2 (XT_pieces h (xs ((l3 + 1) : Int32).toNatClampNeg) (xs ((l3 + 2) : Int32).toNatClampNeg) (xs ((l3 + 3) : Int32).toNatClampNeg)) (fun h255 t256 => gd (sd_inB (l3 + 1) L) (gd (sd_inB (l3 + 2) L) (gd (sd_inB (l3 + 3) L) (b2 (YM_pieces h255 (xs ((l3 + 1) : Int32).toNatClampNeg) (xs ((l3 + 2) : Int32).toNatClampNeg) (xs ((l3 + 3) : Int32).toNatClampNeg)) (fun h261 t262 => (if t256 = t262 then LW_B1465 h261 (LW_L18 xs L n) l3 else some 0))))))))) else (if ((xs (l3 : Int32).toNatClampNeg) &&& 63) = 22 then gd (sd_inB (l3 + 1) L) (gd (sd_inB (l3 + 2) L) (gd (sd_inB (l3 + 3) L) (gd (sd_inB (l3 + 4) L) (gd (sd_inB (l3 + 5) L) (b2 (XT_piece h (xs ((l3 + 1) : Int32).toNatClampNeg) (xs ((l3 + 2) : Int32).toNatClampNeg) (xs ((l3 + 3) : Int32).toNatClampNeg) (xs ((l3 + 4) : Int32).toNatClampNeg) (xs ((l3 + 5) : Int32).toNatClampNeg)) (fun h270 t271 => gd (sd_inB (l3 + 1) L) (gd (sd_inB (l3 + 2) L) (gd (sd_inB (l3 + 3) L) (gd (sd_inB (l3 + 4) L) (gd (sd_inB (l3 + 5) L) (b2 (YM_piece h270 (xs ((l3 + 1) : Int32).toNatClampNeg) (xs ((l3 + 2) : Int32).toNatClampNeg) (xs ((l3 + 3) : Int32).toNatClampNeg) (xs ((l3 + 4) : Int32).toNatClampNeg) (xs ((l3 + 5) : Int32).toNatClampNeg)) (fun h278 t279 => (if t271 = t279 then LW_B1465 h278 (LW_L18 xs L n) l3 else some 0))))))))))))) else (if ((xs (l3 : Int32).toNatClampNeg) &&& 63) = 23 then gd (sd_inB (l3 + 1) L) (b2 (XT_verdict h (xs ((l3 + 1) : Int32).toNatClampNeg)) (fun h283 t284 => gd (sd_inB (l3 + 1) L) (b2 (YM_verdict h283 (xs ((l3 + 1) : Int32).toNatClampNeg)) (fun h287 t288 => (if t284 = t288 then LW_B1465 h287 (LW_L18 xs L n) l3 else some 0))))) else (if ((xs (l3 : Int32).toNatClampNeg) &&& 63) = 24 then gd (sd_inB (l3 + 1) L) (gd (sd_inB (l3 + 2) L) (b2 (XT_would h (xs ((l3 + 1) : Int32).toNatClampNeg) (xs ((l3 + 2) : Int32).toNatClampNeg)) (fun h293 t294 => gd (sd_inB (l3 + 1) L) (gd (sd_inB (l3 + 2) L) (b2 (YM_would h293 (xs ((l3 + 1) : Int32).toNatClampNeg) (xs ((l3 + 2) : Int32).toNatClampNeg)) (fun h298 t299 => (if t294 = t299 then LW_B1465 h298 (LW_L18 xs L n) l3 else some 0))))))) else (if ((xs (l3 : Int32).toNatClampNeg) &&& 63) = 25 then gd (sd_inB (l3 + 1) L) (gd (sd_inB (l3 + 2) L) (b2 (XT_witness h (xs ((l3 + 1) : Int32).toNatClampNeg) (xs ((l3 + 2) : Int32).toNatClampNeg)) (fun h304 t305 => gd (sd_inB (l3 + 1) L) (gd (sd_inB (l3 + 2) L) (b2 (YM_witness h304 (xs ((l3 + 1) : Int32).toNatClampNeg) (xs ((l3 + 2) : Int32).toNatClampNeg)) (fun h309 t310 => (if t305 = t310 then LW_B1465 h309 (LW_L18 xs L n) l3 else some 0))))))) else (if ((xs (l3 : Int32).toNatClampNeg) &&& 63) = 26 then gd (sd_inB (l3 + 1) L) (gd (sd_inB (l3 + 2) L) (gd (sd_inB (l3 + 3) L) (b2 (XT_last h (xs ((l3 + 1) : Int32).toNatClampNeg) (xs ((l3 + 2) : Int32).toNatClampNeg) (xs ((l3 + 3) : Int32).toNatClampNeg)) (fun h316 t317 => gd (sd_inB (l3 + 1) L) (gd (sd_inB (l3 + 2) L) (gd (sd_inB (l3 + 3) L) (b2 (YM_last h316 (xs ((l3 + 1) : Int32).toNatClampNeg) (xs ((l3 + 2) : Int32).toNatClampNeg) (xs ((l3 + 3) : Int32).toNatClampNeg)) (fun h322 t323 => (if t317 = t323 then LW_B1465 h322 (LW_L18 xs L n) l3 else some 0))))))))) else (if ((xs (l3 : Int32).toNatClampNeg) &&& 63) = 27 then b2 (XT_run h) (fun h326 t327 => b2 (YM_run h326) (fun h329 t330 => (if t327 = t330 then LW_B1465 h329 (LW_L18 xs L n) l3 else some 0))) else (if ((xs (l3 : Int32).toNatClampNeg) &&& 63) = 28 then gd (sd_inB (l3 + 1) L) (gd (sd_inB (l3 + 2) L) (gd (sd_inB (l3 + 3) L) (gd (sd_inB (l3 + 4) L) (b2 (XT_mixed h (xs ((l3 + 1) : Int32).toNatClampNeg) (xs ((l3 + 2) : Int32).toNatClampNeg) (xs ((l3 + 3) : Int32).toNatClampNeg) (xs ((l3 + 4) : Int32).toNatClampNeg)) (fun h337 t338 => gd (sd_inB (l3 + 1) L) (gd (sd_inB (l3 + 2) L) (gd (sd_inB (l3 + 3) L) (gd (sd_inB (l3 + 4) L) (b2 (YM_mixed h337 (xs ((l3 + 1) : Int32).toNatClampNeg) (xs ((l3 + 2) : Int32).toNatClampNeg) (xs ((l3 + 3) : Int32).toNatClampNeg) (xs ((l3 + 4) : Int32).toNatClampNeg)) (fun h344 t345 => (if t338 = t345 then LW_B1465 h344 (LW_L18 xs L n) l3 else some 0))))))))))) else (if ((xs (l3 : Int32).toNatClampNeg) &&& 63) = 29 then gd (sd_inB (l3 + 1) L) (gd (sd_inB (l3 + 2) L) (gd (sd_inB (l3 + 3) L) (gd (sd_inB (l3 + 4) L) (b2 (XT_same h (xs ((l3 + 1) : Int32).toNatClampNeg) (xs ((l3 + 2) : Int32).toNatClampNeg) (xs ((l3 + 3) : Int32).toNatClampNeg) (xs ((l3 + 4) : Int32).toNatClampNeg)) (fun h352 t353 => gd (sd_inB (l3 + 1) L) (gd (sd_inB (l3 + 2) L) (gd (sd_inB (l3 + 3) L) (gd (sd_inB (l3 + 4) L) (b2 (YM_same h352 (xs ((l3 + 1) : Int32).toNatClampNeg) (xs ((l3 + 2) : Int32).toNatClampNeg) (xs ((l3 + 3) : Int32).toNatClampNeg) (xs ((l3 + 4) : Int32).toNatClampNeg)) (fun h359 t360 => (if t353 = t360 then LW_B1465 h359 (LW_L18 xs L n) l3 else some 0))))))))))) else (if ((xs (l3 : Int32).toNatClampNeg) &&& 63) = 30 then gd (sd_inB (l3 + 1) L) (b1 (XT_faults h (xs ((l3 + 1) : Int32).toNatClampNeg)) (fun t364 => gd (sd_inB (l3 + 1) L) (b1 (YM_faults h (xs ((l3 + 1) : Int32).toNatClampNeg)) (fun t367 => (if t364 = t367 then LW_B1465 h (LW_L18 xs L n) l3 else some 0))))) else (if ((xs (l3 : Int32).toNatClampNeg) &&& 63) = 31 then gd (sd_inB (l3 + 1) L) (b1 (XT_ended h (xs ((l3 + 1) : Int32).toNatClampNeg)) (fun t371 => gd (sd_inB (l3 + 1) L) (b1 (YM_ended h (xs ((l3 + 1) : Int32).toNatClampNeg)) (fun t374 => (if t371 = t374 then LW_B1465 h (LW_L18 xs L n) l3 else some 0))))) else (if ((xs (l3 : Int32).toNatClampNeg) &&& 63) = 32 then gd (sd_inB (l3 + 1) L) (gd (sd_inB (l3 + 2) L) (b2 (XT_writer h (xs ((l3 + 1) : Int32).toNatClampNeg) (xs ((l3 + 2) : Int32).toNatClampNeg)) (fun h379 t380 => gd (sd_inB (l3 + 1) L) (gd (sd_inB (l3 + 2) L) (b2 (YM_writer h379 (xs ((l3 + 1) : Int32).toNatClampNeg) (xs ((l3 + 2) : Int32).toNatClampNeg)) (fun h384 t385 => (if t380 = t385 then LW_B1465 h384 (LW_L18 xs L n) l3 else some 0))))))) else (if ((xs (l3 : Int32).toNatClampNeg) &&& 63) = 33 then gd (sd_inB (l3 + 1) L) (b2 (XT_count h (xs ((l3 + 1) : Int32).toNatClampNeg)) (fun h389 t390 => gd (sd_inB (l3 + 1) L) (b2 (YM_count h389 (xs ((l3 + 1) : Int32).toNatClampNeg)) (fun h393 t394 => (if t390 = t394 then LW_B1465 h393 (LW_L18 xs L n) l3 else some 0))))) else (if ((xs (l3 : Int32).toNatClampNeg) &&& 63) = 34 then b2 (XT_digest h) (fun h397 t398 => b2 (YM_digest h397) (fun h400 t401 => (if (lg_cmp t398 t401) = 0 then LW_B1465 h400 (LW_L18 xs L n) l3 else some 0))) else (LW_B1465 h (LW_L18 xs L n) l3))))))))))))))))))))))))))))))))))))))
set_option maxHeartbeats 8000000 in
set_option maxRecDepth 100000 in
theorem J_LW_L18 {G : sd_GX} {X : sd_CX} {Q : State → Prop} {b L : Nat} {xs : Nat → Int32} (hE : sd_LW G X Q b L xs)  : ∀ (n : Nat) (h : sd_H) (l3 : Int32), LW_L18 xs L n h l3 = some 1 → sd_J G X Q M_LW 18 [(0, .ref b), (1, .ref (G.1 + 0)), (2, .ref (G.1 + 126)), (3, .int l3)] [] (sd_F h) := by
  intro n
  induction n with
  | zero =>
    intro h l3 hf
    rw [LW_L18] at hf
    cases hf
  | succ n ih =>
    intro h l3 hf
    rw [LW_L18] at hf
    refine sd_iload_n (k := 3) (i := 3) (q := 3) (pc' := 19) (by decide +kernel) rfl rfl ?_
    refine sd_aload_n (k := 0) (i := 0) (q := 0) (pc' := 20) (by decide +kernel) rfl rfl ?_
    refine sL_len hE (pc' := 21) (by decide +kernel) ?_
    refine sd_bipush (n := 6) (v := 6) (pc' := 23) (by decide +kernel) (by decide) ?_
    refine sd_isub (pc' := 24) (by decide +kernel) ?_
    refine sd_icmp_gt (off := 1447) (tgt := 1471) (pc' := 27) (by decide +kernel) (fun c1 => ?_) (fun c1 => ?_)
    · replace hf := ite_p c1 hf
      refine sd_iconst (n := 1) (v := 1) (pc' := 1472) (by decide +kernel) (by decide) ?_
      have hf := Option.some.inj hf
      exact hE.2.2.2.2 _ _ _ (by decide +kernel)
    · replace hf := ite_n c1 hf
      refine sd_aload_n (k := 0) (i := 0) (q := 0) (pc' := 28) (by decide +kernel) rfl rfl ?_
      refine sd_iload_n (k := 3) (i := 3) (q := 3) (pc' := 29) (by decide +kernel) rfl rfl ?_
      obtain ⟨g2, hf⟩ := gd_some hf
      refine sL_ld hE (pc' := 30) (by decide +kernel) g2 ?_
      refine sd_bipush (n := 63) (v := 63) (pc' := 32) (by decide +kernel) (by decide) ?_
      refine sd_iand (pc' := 33) (by decide +kernel) ?_
      by_cases c3_0 : ((xs (l3 : Int32).toNatClampNeg) &&& 63) = 0
      · replace hf := ite_p c3_0 hf
        refine sd_tswIn (dflt := 1432) (lo0 := 0) (hi0 := 34) (offs := #[155, 198, 221, 274, 308, 371, 394, 417, 430, 453, 496, 559, 602, 635, 648, 681, 724, 767, 830, 863, 916, 959, 1002, 1065, 1088, 1121, 1154, 1197, 1210, 1263, 1316, 1339, 1362, 1395, 1418]) (len := 155) (off := 155) (tgt := 188) (pc' := 188) (by decide +kernel) (by rw [c3_0]; decide) (by rw [c3_0]; decide) (by rw [c3_0]; decide) ?_
        refine sd_aload_n (k := 1) (i := 1) (q := 1) (pc' := 189) (by decide +kernel) rfl rfl ?_
        refine sd_aload_n (k := 0) (i := 0) (q := 0) (pc' := 190) (by decide +kernel) rfl rfl ?_
        refine sd_iload_n (k := 3) (i := 3) (q := 3) (pc' := 191) (by decide +kernel) rfl rfl ?_
        refine sd_iconst (n := 1) (v := 1) (pc' := 192) (by decide +kernel) (by decide) ?_
        refine sd_iadd (pc' := 193) (by decide +kernel) ?_
        obtain ⟨g4, hf⟩ := gd_some hf
        refine sL_ld hE (pc' := 194) (by decide +kernel) g4 ?_
        refine sd_aload_n (k := 0) (i := 0) (q := 0) (pc' := 195) (by decide +kernel) rfl rfl ?_
        refine sd_iload_n (k := 3) (i := 3) (q := 3) (pc' := 196) (by decide +kernel) rfl rfl ?_
        refine sd_iconst (n := 2) (v := 2) (pc' := 197) (by decide +kernel) (by decide) ?_
        refine sd_iadd (pc' := 198) (by decide +kernel) ?_
        obtain ⟨g5, hf⟩ := gd_some hf
        refine sL_ld hE (pc' := 199) (by decide +kernel) g5 ?_
        refine sd_aload_n (k := 0) (i := 0) (q := 0) (pc' := 200) (by decide +kernel) rfl rfl ?_
        refine sd_iload_n (k := 3) (i := 3) (q := 3) (pc' := 201) (by decide +kernel) rfl rfl ?_
        refine sd_iconst (n := 3) (v := 3) (pc' := 202) (by decide +kernel) (by decide) ?_
        refine sd_iadd (pc' := 203) (by decide +kernel) ?_
        obtain ⟨g6, hf⟩ := gd_some hf
        refine sL_ld hE (pc' := 204) (by decide +kernel) g6 ?_
        obtain ⟨h8, t9, q7, hf⟩ := b2_some hf
        refine sF_callV (idx := 13) (b := 0) (As := [.int (xs ((l3 + 1) : Int32).toNatClampNeg), .int (xs ((l3 + 2) : Int32).toNatClampNeg), .int (xs ((l3 + 3) : Int32).toNatClampNeg)]) (ci := 11) (nn := 17) (pc' := 207) 3 (T_XT_row (G := G) (h := h)  q7) (by decide +kernel) mv_XT_row ml_L_13 (by decide +kernel) rfl rfl (Nat.le_of_ble_eq_true rfl) SH_0 rfl (by decide) rfl rfl ?_
        refine sd_aload_n (k := 2) (i := 2) (q := 2) (pc' := 208) (by decide +kernel) rfl rfl ?_
        refine sd_aload_n (k := 0) (i := 0) (q := 0) (pc' := 209) (by decide +kernel) rfl rfl ?_
        refine sd_iload_n (k := 3) (i := 3) (q := 3) (pc' := 210) (by decide +kernel) rfl rfl ?_
        refine sd_iconst (n := 1) (v := 1) (pc' := 211) (by decide +kernel) (by decide) ?_
        refine sd_iadd (pc' := 212) (by decide +kernel) ?_
        obtain ⟨g10, hf⟩ := gd_some hf
        refine sL_ld hE (pc' := 213) (by decide +kernel) g10 ?_
        refine sd_aload_n (k := 0) (i := 0) (q := 0) (pc' := 214) (by decide +kernel) rfl rfl ?_
        refine sd_iload_n (k := 3) (i := 3) (q := 3) (pc' := 215) (by decide +kernel) rfl rfl ?_
        refine sd_iconst (n := 2) (v := 2) (pc' := 216) (by decide +kernel) (by decide) ?_
        refine sd_iadd (pc' := 217) (by decide +kernel) ?_
        obtain ⟨g11, hf⟩ := gd_some hf
        refine sL_ld hE (pc' := 218) (by decide +kernel) g11 ?_
        refine sd_aload_n (k := 0) (i := 0) (q := 0) (pc' := 219) (by decide +kernel) rfl rfl ?_
        refine sd_iload_n (k := 3) (i := 3) (q := 3) (pc' := 220) (by decide +kernel) rfl rfl ?_
        refine sd_iconst (n := 3) (v := 3) (pc' := 221) (by decide +kernel) (by decide) ?_
        refine sd_iadd (pc' := 222) (by decide +kernel) ?_
        obtain ⟨g12, hf⟩ := gd_some hf
        refine sL_ld hE (pc' := 223) (by decide +kernel) g12 ?_
        obtain ⟨h14, t15, q13, hf⟩ := b2_some hf
        refine sF_callV (idx := 17) (b := 126) (As := [.int (xs ((l3 + 1) : Int32).toNatClampNeg), .int (xs ((l3 + 2) : Int32).toNatClampNeg), .int (xs ((l3 + 3) : Int32).toNatClampNeg)]) (ci := 12) (nn := 47) (pc' := 226) 3 (T_YM_row (G := G) (h := h8)  q13) (by decide +kernel) mv_YM_row ml_L_17 (by decide +kernel) rfl rfl (Nat.le_of_ble_eq_true rfl) SH_126 rfl (by decide) rfl rfl ?_
        refine sd_icmp_eq (off := 1239) (tgt := 1465) (pc' := 229) (by decide +kernel) (fun c16 => ?_) (fun c16 => ?_)
        · replace hf := ite_p c16 hf
          refine sd_J.sub (lo' := [(0, .ref b), (1, .ref (G.1 + 0)), (2, .ref (G.1 + 126)), (3, .int l3)]) [0, 1, 2, 3] rfl ?_
          exact J_LW_B1465 hE ih hf
        · replace hf := ite_n c16 hf
          refine sd_iconst (n := 0) (v := 0) (pc' := 230) (by decide +kernel) (by decide) ?_
          have hf := Option.some.inj hf
          exact absurd hf (by decide)
      · replace hf := ite_n c3_0 hf
        by_cases c3_1 : ((xs (l3 : Int32).toNatClampNeg) &&& 63) = 1
        · replace hf := ite_p c3_1 hf
          refine sd_tswIn (dflt := 1432) (lo0 := 0) (hi0 := 34) (offs := #[155, 198, 221, 274, 308, 371, 394, 417, 430, 453, 496, 559, 602, 635, 648, 681, 724, 767, 830, 863, 916, 959, 1002, 1065, 1088, 1121, 1154, 1197, 1210, 1263, 1316, 1339, 1362, 1395, 1418]) (len := 155) (off := 198) (tgt := 231) (pc' := 188) (by decide +kernel) (by rw [c3_1]; decide) (by rw [c3_1]; decide) (by rw [c3_1]; decide) ?_
          refine sd_aload_n (k := 1) (i := 1) (q := 1) (pc' := 232) (by decide +kernel) rfl rfl ?_
          refine sd_aload_n (k := 0) (i := 0) (q := 0) (pc' := 233) (by decide +kernel) rfl rfl ?_
          refine sd_iload_n (k := 3) (i := 3) (q := 3) (pc' := 234) (by decide +kernel) rfl rfl ?_
          refine sd_iconst (n := 1) (v := 1) (pc' := 235) (by decide +kernel) (by decide) ?_
          refine sd_iadd (pc' := 236) (by decide +kernel) ?_
          obtain ⟨g17, hf⟩ := gd_some hf
          refine sL_ld hE (pc' := 237) (by decide +kernel) g17 ?_
          obtain ⟨h19, t20, q18, hf⟩ := b2_some hf
          refine sF_callV (idx := 18) (b := 0) (As := [.int (xs ((l3 + 1) : Int32).toNatClampNeg)]) (ci := 11) (nn := 17) (pc' := 240) 1 (T_XT_lose (G := G) (h := h)  q18) (by decide +kernel) mv_XT_lose ml_L_18 (by decide +kernel) rfl rfl (Nat.le_of_ble_eq_true rfl) SH_0 rfl (by decide) rfl rfl ?_
          refine sd_aload_n (k := 2) (i := 2) (q := 2) (pc' := 241) (by decide +kernel) rfl rfl ?_
          refine sd_aload_n (k := 0) (i := 0) (q := 0) (pc' := 242) (by decide +kernel) rfl rfl ?_
          refine sd_iload_n (k := 3) (i := 3) (q := 3) (pc' := 243) (by decide +kernel) rfl rfl ?_
          refine sd_iconst (n := 1) (v := 1) (pc' := 244) (by decide +kernel) (by decide) ?_
          refine sd_iadd (pc' := 245) (by decide +kernel) ?_
          obtain ⟨g21, hf⟩ := gd_some hf
          refine sL_ld hE (pc' := 246) (by decide +kernel) g21 ?_
          obtain ⟨h23, t24, q22, hf⟩ := b2_some hf
          refine sF_callV (idx := 22) (b := 126) (As := [.int (xs ((l3 + 1) : Int32).toNatClampNeg)]) (ci := 12) (nn := 47) (pc' := 249) 1 (T_YM_lose (G := G) (h := h19)  q22) (by decide +kernel) mv_YM_lose ml_L_22 (by decide +kernel) rfl rfl (Nat.le_of_ble_eq_true rfl) SH_126 rfl (by decide) rfl rfl ?_
          refine sd_icmp_eq (off := 1216) (tgt := 1465) (pc' := 252) (by decide +kernel) (fun c25 => ?_) (fun c25 => ?_)
          · replace hf := ite_p c25 hf
            refine sd_J.sub (lo' := [(0, .ref b), (1, .ref (G.1 + 0)), (2, .ref (G.1 + 126)), (3, .int l3)]) [0, 1, 2, 3] rfl ?_
            exact J_LW_B1465 hE ih hf
          · replace hf := ite_n c25 hf
            refine sd_iconst (n := 0) (v := 0) (pc' := 253) (by decide +kernel) (by decide) ?_
            have hf := Option.some.inj hf
            exact absurd hf (by decide)
        · replace hf := ite_n c3_1 hf
          by_cases c3_2 : ((xs (l3 : Int32).toNatClampNeg) &&& 63) = 2
          · replace hf := ite_p c3_2 hf
            refine sd_tswIn (dflt := 1432) (lo0 := 0) (hi0 := 34) (offs := #[155, 198, 221, 274, 308, 371, 394, 417, 430, 453, 496, 559, 602, 635, 648, 681, 724, 767, 830, 863, 916, 959, 1002, 1065, 1088, 1121, 1154, 1197, 1210, 1263, 1316, 1339, 1362, 1395, 1418]) (len := 155) (off := 221) (tgt := 254) (pc' := 188) (by decide +kernel) (by rw [c3_2]; decide) (by rw [c3_2]; decide) (by rw [c3_2]; decide) ?_
            refine sd_aload_n (k := 1) (i := 1) (q := 1) (pc' := 255) (by decide +kernel) rfl rfl ?_
            refine sd_aload_n (k := 0) (i := 0) (q := 0) (pc' := 256) (by decide +kernel) rfl rfl ?_
            refine sd_iload_n (k := 3) (i := 3) (q := 3) (pc' := 257) (by decide +kernel) rfl rfl ?_
            refine sd_iconst (n := 1) (v := 1) (pc' := 258) (by decide +kernel) (by decide) ?_
            refine sd_iadd (pc' := 259) (by decide +kernel) ?_
            obtain ⟨g26, hf⟩ := gd_some hf
            refine sL_ld hE (pc' := 260) (by decide +kernel) g26 ?_
            refine sd_aload_n (k := 0) (i := 0) (q := 0) (pc' := 261) (by decide +kernel) rfl rfl ?_
            refine sd_iload_n (k := 3) (i := 3) (q := 3) (pc' := 262) (by decide +kernel) rfl rfl ?_
            refine sd_iconst (n := 2) (v := 2) (pc' := 263) (by decide +kernel) (by decide) ?_
            refine sd_iadd (pc' := 264) (by decide +kernel) ?_
            obtain ⟨g27, hf⟩ := gd_some hf
            refine sL_ld hE (pc' := 265) (by decide +kernel) g27 ?_
            refine sd_aload_n (k := 0) (i := 0) (q := 0) (pc' := 266) (by decide +kernel) rfl rfl ?_
            refine sd_iload_n (k := 3) (i := 3) (q := 3) (pc' := 267) (by decide +kernel) rfl rfl ?_
            refine sd_iconst (n := 3) (v := 3) (pc' := 268) (by decide +kernel) (by decide) ?_
            refine sd_iadd (pc' := 269) (by decide +kernel) ?_
            obtain ⟨g28, hf⟩ := gd_some hf
            refine sL_ld hE (pc' := 270) (by decide +kernel) g28 ?_
            refine sd_aload_n (k := 0) (i := 0) (q := 0) (pc' := 271) (by decide +kernel) rfl rfl ?_
            refine sd_iload_n (k := 3) (i := 3) (q := 3) (pc' := 272) (by decide +kernel) rfl rfl ?_
            refine sd_iconst (n := 4) (v := 4) (pc' := 273) (by decide +kernel) (by decide) ?_
            refine sd_iadd (pc' := 274) (by decide +kernel) ?_
            obtain ⟨g29, hf⟩ := gd_some hf
            refine sL_ld hE (pc' := 275) (by decide +kernel) g29 ?_
            obtain ⟨h31, t32, q30, hf⟩ := b2_some hf
            refine sF_callV (idx := 23) (b := 0) (As := [.int (xs ((l3 + 1) : Int32).toNatClampNeg), .int (xs ((l3 + 2) : Int32).toNatClampNeg), .int (xs ((l3 + 3) : Int32).toNatClampNeg), .int (xs ((l3 + 4) : Int32).toNatClampNeg)]) (ci := 11) (nn := 17) (pc' := 278) 4 (T_XT_put (G := G) (h := h)  q30) (by decide +kernel) mv_XT_put ml_L_23 (by decide +kernel) rfl rfl (Nat.le_of_ble_eq_true rfl) SH_0 rfl (by decide) rfl rfl ?_
            refine sd_aload_n (k := 2) (i := 2) (q := 2) (pc' := 279) (by decide +kernel) rfl rfl ?_
            refine sd_aload_n (k := 0) (i := 0) (q := 0) (pc' := 280) (by decide +kernel) rfl rfl ?_
            refine sd_iload_n (k := 3) (i := 3) (q := 3) (pc' := 281) (by decide +kernel) rfl rfl ?_
            refine sd_iconst (n := 1) (v := 1) (pc' := 282) (by decide +kernel) (by decide) ?_
            refine sd_iadd (pc' := 283) (by decide +kernel) ?_
            obtain ⟨g33, hf⟩ := gd_some hf
            refine sL_ld hE (pc' := 284) (by decide +kernel) g33 ?_
            refine sd_aload_n (k := 0) (i := 0) (q := 0) (pc' := 285) (by decide +kernel) rfl rfl ?_
            refine sd_iload_n (k := 3) (i := 3) (q := 3) (pc' := 286) (by decide +kernel) rfl rfl ?_
            refine sd_iconst (n := 2) (v := 2) (pc' := 287) (by decide +kernel) (by decide) ?_
            refine sd_iadd (pc' := 288) (by decide +kernel) ?_
            obtain ⟨g34, hf⟩ := gd_some hf
            refine sL_ld hE (pc' := 289) (by decide +kernel) g34 ?_
            refine sd_aload_n (k := 0) (i := 0) (q := 0) (pc' := 290) (by decide +kernel) rfl rfl ?_
            refine sd_iload_n (k := 3) (i := 3) (q := 3) (pc' := 291) (by decide +kernel) rfl rfl ?_
            refine sd_iconst (n := 3) (v := 3) (pc' := 292) (by decide +kernel) (by decide) ?_
            refine sd_iadd (pc' := 293) (by decide +kernel) ?_
            obtain ⟨g35, hf⟩ := gd_some hf
            refine sL_ld hE (pc' := 294) (by decide +kernel) g35 ?_
            refine sd_aload_n (k := 0) (i := 0) (q := 0) (pc' := 295) (by decide +kernel) rfl rfl ?_
            refine sd_iload_n (k := 3) (i := 3) (q := 3) (pc' := 296) (by decide +kernel) rfl rfl ?_
            refine sd_iconst (n := 4) (v := 4) (pc' := 297) (by decide +kernel) (by decide) ?_
            refine sd_iadd (pc' := 298) (by decide +kernel) ?_
            obtain ⟨g36, hf⟩ := gd_some hf
            refine sL_ld hE (pc' := 299) (by decide +kernel) g36 ?_
            obtain ⟨h38, t39, q37, hf⟩ := b2_some hf
            refine sF_callV (idx := 27) (b := 126) (As := [.int (xs ((l3 + 1) : Int32).toNatClampNeg), .int (xs ((l3 + 2) : Int32).toNatClampNeg), .int (xs ((l3 + 3) : Int32).toNatClampNeg), .int (xs ((l3 + 4) : Int32).toNatClampNeg)]) (ci := 12) (nn := 47) (pc' := 302) 4 (T_YM_put (G := G) (h := h31)  q37) (by decide +kernel) mv_YM_put ml_L_27 (by decide +kernel) rfl rfl (Nat.le_of_ble_eq_true rfl) SH_126 rfl (by decide) rfl rfl ?_
            refine sd_icmp_eq (off := 1163) (tgt := 1465) (pc' := 305) (by decide +kernel) (fun c40 => ?_) (fun c40 => ?_)
            · replace hf := ite_p c40 hf
              refine sd_J.sub (lo' := [(0, .ref b), (1, .ref (G.1 + 0)), (2, .ref (G.1 + 126)), (3, .int l3)]) [0, 1, 2, 3] rfl ?_
              exact J_LW_B1465 hE ih hf
            · replace hf := ite_n c40 hf
              refine sd_iconst (n := 0) (v := 0) (pc' := 306) (by decide +kernel) (by decide) ?_
              have hf := Option.some.inj hf
              exact absurd hf (by decide)
          · replace hf := ite_n c3_2 hf
            by_cases c3_3 : ((xs (l3 : Int32).toNatClampNeg) &&& 63) = 3
            · replace hf := ite_p c3_3 hf
              refine sd_tswIn (dflt := 1432) (lo0 := 0) (hi0 := 34) (offs := #[155, 198, 221, 274, 308, 371, 394, 417, 430, 453, 496, 559, 602, 635, 648, 681, 724, 767, 830, 863, 916, 959, 1002, 1065, 1088, 1121, 1154, 1197, 1210, 1263, 1316, 1339, 1362, 1395, 1418]) (len := 155) (off := 274) (tgt := 307) (pc' := 188) (by decide +kernel) (by rw [c3_3]; decide) (by rw [c3_3]; decide) (by rw [c3_3]; decide) ?_
              refine sd_aload_n (k := 1) (i := 1) (q := 1) (pc' := 308) (by decide +kernel) rfl rfl ?_
              refine sd_aload_n (k := 0) (i := 0) (q := 0) (pc' := 309) (by decide +kernel) rfl rfl ?_
              refine sd_iload_n (k := 3) (i := 3) (q := 3) (pc' := 310) (by decide +kernel) rfl rfl ?_
              refine sd_iconst (n := 1) (v := 1) (pc' := 311) (by decide +kernel) (by decide) ?_
              refine sd_iadd (pc' := 312) (by decide +kernel) ?_
              obtain ⟨g41, hf⟩ := gd_some hf
              refine sL_ld hE (pc' := 313) (by decide +kernel) g41 ?_
              refine sd_aload_n (k := 0) (i := 0) (q := 0) (pc' := 314) (by decide +kernel) rfl rfl ?_
              refine sd_iload_n (k := 3) (i := 3) (q := 3) (pc' := 315) (by decide +kernel) rfl rfl ?_
              refine sd_iconst (n := 2) (v := 2) (pc' := 316) (by decide +kernel) (by decide) ?_
              refine sd_iadd (pc' := 317) (by decide +kernel) ?_
              obtain ⟨g42, hf⟩ := gd_some hf
              refine sL_ld hE (pc' := 318) (by decide +kernel) g42 ?_
              obtain ⟨h44, t45, q43, hf⟩ := b2_some hf
              refine sF_callV (idx := 28) (b := 0) (As := [.int (xs ((l3 + 1) : Int32).toNatClampNeg), .int (xs ((l3 + 2) : Int32).toNatClampNeg)]) (ci := 11) (nn := 17) (pc' := 321) 2 (T_XT_get (G := G) (h := h)  q43) (by decide +kernel) mv_XT_get ml_L_28 (by decide +kernel) rfl rfl (Nat.le_of_ble_eq_true rfl) SH_0 rfl (by decide) rfl rfl ?_
              refine sd_aload_n (k := 2) (i := 2) (q := 2) (pc' := 322) (by decide +kernel) rfl rfl ?_
              refine sd_aload_n (k := 0) (i := 0) (q := 0) (pc' := 323) (by decide +kernel) rfl rfl ?_
              refine sd_iload_n (k := 3) (i := 3) (q := 3) (pc' := 324) (by decide +kernel) rfl rfl ?_
              refine sd_iconst (n := 1) (v := 1) (pc' := 325) (by decide +kernel) (by decide) ?_
              refine sd_iadd (pc' := 326) (by decide +kernel) ?_
              obtain ⟨g46, hf⟩ := gd_some hf
              refine sL_ld hE (pc' := 327) (by decide +kernel) g46 ?_
              refine sd_aload_n (k := 0) (i := 0) (q := 0) (pc' := 328) (by decide +kernel) rfl rfl ?_
              refine sd_iload_n (k := 3) (i := 3) (q := 3) (pc' := 329) (by decide +kernel) rfl rfl ?_
              refine sd_iconst (n := 2) (v := 2) (pc' := 330) (by decide +kernel) (by decide) ?_
              refine sd_iadd (pc' := 331) (by decide +kernel) ?_
              obtain ⟨g47, hf⟩ := gd_some hf
              refine sL_ld hE (pc' := 332) (by decide +kernel) g47 ?_
              obtain ⟨h49, t50, q48, hf⟩ := b2_some hf
              refine sF_callV (idx := 32) (b := 126) (As := [.int (xs ((l3 + 1) : Int32).toNatClampNeg), .int (xs ((l3 + 2) : Int32).toNatClampNeg)]) (ci := 12) (nn := 47) (pc' := 335) 2 (T_YM_get (G := G) (h := h44)  q48) (by decide +kernel) mv_YM_get ml_L_32 (by decide +kernel) rfl rfl (Nat.le_of_ble_eq_true rfl) SH_126 rfl (by decide) rfl rfl ?_
              refine sd_lcmp (pc' := 336) (by decide +kernel) ?_
              refine sd_if_eq (off := 1129) (tgt := 1465) (pc' := 339) (by decide +kernel) (fun c51 => ?_) (fun c51 => ?_)
              · replace hf := ite_p c51 hf
                refine sd_J.sub (lo' := [(0, .ref b), (1, .ref (G.1 + 0)), (2, .ref (G.1 + 126)), (3, .int l3)]) [0, 1, 2, 3] rfl ?_
                exact J_LW_B1465 hE ih hf
              · replace hf := ite_n c51 hf
                refine sd_iconst (n := 0) (v := 0) (pc' := 340) (by decide +kernel) (by decide) ?_
                have hf := Option.some.inj hf
                exact absurd hf (by decide)
            · replace hf := ite_n c3_3 hf
              by_cases c3_4 : ((xs (l3 : Int32).toNatClampNeg) &&& 63) = 4
              · replace hf := ite_p c3_4 hf
                refine sd_tswIn (dflt := 1432) (lo0 := 0) (hi0 := 34) (offs := #[155, 198, 221, 274, 308, 371, 394, 417, 430, 453, 496, 559, 602, 635, 648, 681, 724, 767, 830, 863, 916, 959, 1002, 1065, 1088, 1121, 1154, 1197, 1210, 1263, 1316, 1339, 1362, 1395, 1418]) (len := 155) (off := 308) (tgt := 341) (pc' := 188) (by decide +kernel) (by rw [c3_4]; decide) (by rw [c3_4]; decide) (by rw [c3_4]; decide) ?_
                refine sd_aload_n (k := 1) (i := 1) (q := 1) (pc' := 342) (by decide +kernel) rfl rfl ?_
                refine sd_aload_n (k := 0) (i := 0) (q := 0) (pc' := 343) (by decide +kernel) rfl rfl ?_
                refine sd_iload_n (k := 3) (i := 3) (q := 3) (pc' := 344) (by decide +kernel) rfl rfl ?_
                refine sd_iconst (n := 1) (v := 1) (pc' := 345) (by decide +kernel) (by decide) ?_
                refine sd_iadd (pc' := 346) (by decide +kernel) ?_
                obtain ⟨g52, hf⟩ := gd_some hf
                refine sL_ld hE (pc' := 347) (by decide +kernel) g52 ?_
                refine sd_aload_n (k := 0) (i := 0) (q := 0) (pc' := 348) (by decide +kernel) rfl rfl ?_
                refine sd_iload_n (k := 3) (i := 3) (q := 3) (pc' := 349) (by decide +kernel) rfl rfl ?_
                refine sd_iconst (n := 2) (v := 2) (pc' := 350) (by decide +kernel) (by decide) ?_
                refine sd_iadd (pc' := 351) (by decide +kernel) ?_
                obtain ⟨g53, hf⟩ := gd_some hf
                refine sL_ld hE (pc' := 352) (by decide +kernel) g53 ?_
                refine sd_aload_n (k := 0) (i := 0) (q := 0) (pc' := 353) (by decide +kernel) rfl rfl ?_
                refine sd_iload_n (k := 3) (i := 3) (q := 3) (pc' := 354) (by decide +kernel) rfl rfl ?_
                refine sd_iconst (n := 3) (v := 3) (pc' := 355) (by decide +kernel) (by decide) ?_
                refine sd_iadd (pc' := 356) (by decide +kernel) ?_
                obtain ⟨g54, hf⟩ := gd_some hf
                refine sL_ld hE (pc' := 357) (by decide +kernel) g54 ?_
                refine sd_aload_n (k := 0) (i := 0) (q := 0) (pc' := 358) (by decide +kernel) rfl rfl ?_
                refine sd_iload_n (k := 3) (i := 3) (q := 3) (pc' := 359) (by decide +kernel) rfl rfl ?_
                refine sd_iconst (n := 4) (v := 4) (pc' := 360) (by decide +kernel) (by decide) ?_
                refine sd_iadd (pc' := 361) (by decide +kernel) ?_
                obtain ⟨g55, hf⟩ := gd_some hf
                refine sL_ld hE (pc' := 362) (by decide +kernel) g55 ?_
                refine sd_aload_n (k := 0) (i := 0) (q := 0) (pc' := 363) (by decide +kernel) rfl rfl ?_
                refine sd_iload_n (k := 3) (i := 3) (q := 3) (pc' := 364) (by decide +kernel) rfl rfl ?_
                refine sd_iconst (n := 5) (v := 5) (pc' := 365) (by decide +kernel) (by decide) ?_
                refine sd_iadd (pc' := 366) (by decide +kernel) ?_
                obtain ⟨g56, hf⟩ := gd_some hf
                refine sL_ld hE (pc' := 367) (by decide +kernel) g56 ?_
                obtain ⟨h58, t59, q57, hf⟩ := b2_some hf
                refine sF_callV (idx := 33) (b := 0) (As := [.int (xs ((l3 + 1) : Int32).toNatClampNeg), .int (xs ((l3 + 2) : Int32).toNatClampNeg), .int (xs ((l3 + 3) : Int32).toNatClampNeg), .int (xs ((l3 + 4) : Int32).toNatClampNeg), .int (xs ((l3 + 5) : Int32).toNatClampNeg)]) (ci := 11) (nn := 17) (pc' := 370) 5 (T_XT_copy (G := G) (h := h)  q57) (by decide +kernel) mv_XT_copy ml_L_33 (by decide +kernel) rfl rfl (Nat.le_of_ble_eq_true rfl) SH_0 rfl (by decide) rfl rfl ?_
                refine sd_aload_n (k := 2) (i := 2) (q := 2) (pc' := 371) (by decide +kernel) rfl rfl ?_
                refine sd_aload_n (k := 0) (i := 0) (q := 0) (pc' := 372) (by decide +kernel) rfl rfl ?_
                refine sd_iload_n (k := 3) (i := 3) (q := 3) (pc' := 373) (by decide +kernel) rfl rfl ?_
                refine sd_iconst (n := 1) (v := 1) (pc' := 374) (by decide +kernel) (by decide) ?_
                refine sd_iadd (pc' := 375) (by decide +kernel) ?_
                obtain ⟨g60, hf⟩ := gd_some hf
                refine sL_ld hE (pc' := 376) (by decide +kernel) g60 ?_
                refine sd_aload_n (k := 0) (i := 0) (q := 0) (pc' := 377) (by decide +kernel) rfl rfl ?_
                refine sd_iload_n (k := 3) (i := 3) (q := 3) (pc' := 378) (by decide +kernel) rfl rfl ?_
                refine sd_iconst (n := 2) (v := 2) (pc' := 379) (by decide +kernel) (by decide) ?_
                refine sd_iadd (pc' := 380) (by decide +kernel) ?_
                obtain ⟨g61, hf⟩ := gd_some hf
                refine sL_ld hE (pc' := 381) (by decide +kernel) g61 ?_
                refine sd_aload_n (k := 0) (i := 0) (q := 0) (pc' := 382) (by decide +kernel) rfl rfl ?_
                refine sd_iload_n (k := 3) (i := 3) (q := 3) (pc' := 383) (by decide +kernel) rfl rfl ?_
                refine sd_iconst (n := 3) (v := 3) (pc' := 384) (by decide +kernel) (by decide) ?_
                refine sd_iadd (pc' := 385) (by decide +kernel) ?_
                obtain ⟨g62, hf⟩ := gd_some hf
                refine sL_ld hE (pc' := 386) (by decide +kernel) g62 ?_
                refine sd_aload_n (k := 0) (i := 0) (q := 0) (pc' := 387) (by decide +kernel) rfl rfl ?_
                refine sd_iload_n (k := 3) (i := 3) (q := 3) (pc' := 388) (by decide +kernel) rfl rfl ?_
                refine sd_iconst (n := 4) (v := 4) (pc' := 389) (by decide +kernel) (by decide) ?_
                refine sd_iadd (pc' := 390) (by decide +kernel) ?_
                obtain ⟨g63, hf⟩ := gd_some hf
                refine sL_ld hE (pc' := 391) (by decide +kernel) g63 ?_
                refine sd_aload_n (k := 0) (i := 0) (q := 0) (pc' := 392) (by decide +kernel) rfl rfl ?_
                refine sd_iload_n (k := 3) (i := 3) (q := 3) (pc' := 393) (by decide +kernel) rfl rfl ?_
                refine sd_iconst (n := 5) (v := 5) (pc' := 394) (by decide +kernel) (by decide) ?_
                refine sd_iadd (pc' := 395) (by decide +kernel) ?_
                obtain ⟨g64, hf⟩ := gd_some hf
                refine sL_ld hE (pc' := 396) (by decide +kernel) g64 ?_
                obtain ⟨h66, t67, q65, hf⟩ := b2_some hf
                refine sF_callV (idx := 37) (b := 126) (As := [.int (xs ((l3 + 1) : Int32).toNatClampNeg), .int (xs ((l3 + 2) : Int32).toNatClampNeg), .int (xs ((l3 + 3) : Int32).toNatClampNeg), .int (xs ((l3 + 4) : Int32).toNatClampNeg), .int (xs ((l3 + 5) : Int32).toNatClampNeg)]) (ci := 12) (nn := 47) (pc' := 399) 5 (T_YM_copy (G := G) (h := h58)  q65) (by decide +kernel) mv_YM_copy ml_L_37 (by decide +kernel) rfl rfl (Nat.le_of_ble_eq_true rfl) SH_126 rfl (by decide) rfl rfl ?_
                refine sd_icmp_eq (off := 1066) (tgt := 1465) (pc' := 402) (by decide +kernel) (fun c68 => ?_) (fun c68 => ?_)
                · replace hf := ite_p c68 hf
                  refine sd_J.sub (lo' := [(0, .ref b), (1, .ref (G.1 + 0)), (2, .ref (G.1 + 126)), (3, .int l3)]) [0, 1, 2, 3] rfl ?_
                  exact J_LW_B1465 hE ih hf
                · replace hf := ite_n c68 hf
                  refine sd_iconst (n := 0) (v := 0) (pc' := 403) (by decide +kernel) (by decide) ?_
                  have hf := Option.some.inj hf
                  exact absurd hf (by decide)
              · replace hf := ite_n c3_4 hf
                by_cases c3_5 : ((xs (l3 : Int32).toNatClampNeg) &&& 63) = 5
                · replace hf := ite_p c3_5 hf
                  refine sd_tswIn (dflt := 1432) (lo0 := 0) (hi0 := 34) (offs := #[155, 198, 221, 274, 308, 371, 394, 417, 430, 453, 496, 559, 602, 635, 648, 681, 724, 767, 830, 863, 916, 959, 1002, 1065, 1088, 1121, 1154, 1197, 1210, 1263, 1316, 1339, 1362, 1395, 1418]) (len := 155) (off := 371) (tgt := 404) (pc' := 188) (by decide +kernel) (by rw [c3_5]; decide) (by rw [c3_5]; decide) (by rw [c3_5]; decide) ?_
                  refine sd_aload_n (k := 1) (i := 1) (q := 1) (pc' := 405) (by decide +kernel) rfl rfl ?_
                  refine sd_aload_n (k := 0) (i := 0) (q := 0) (pc' := 406) (by decide +kernel) rfl rfl ?_
                  refine sd_iload_n (k := 3) (i := 3) (q := 3) (pc' := 407) (by decide +kernel) rfl rfl ?_
                  refine sd_iconst (n := 1) (v := 1) (pc' := 408) (by decide +kernel) (by decide) ?_
                  refine sd_iadd (pc' := 409) (by decide +kernel) ?_
                  obtain ⟨g69, hf⟩ := gd_some hf
                  refine sL_ld hE (pc' := 410) (by decide +kernel) g69 ?_
                  obtain ⟨h71, t72, q70, hf⟩ := b2_some hf
                  refine sF_callV (idx := 38) (b := 0) (As := [.int (xs ((l3 + 1) : Int32).toNatClampNeg)]) (ci := 11) (nn := 17) (pc' := 413) 1 (T_XT_turns (G := G) (h := h)  q70) (by decide +kernel) mv_XT_turns ml_L_38 (by decide +kernel) rfl rfl (Nat.le_of_ble_eq_true rfl) SH_0 rfl (by decide) rfl rfl ?_
                  refine sd_aload_n (k := 2) (i := 2) (q := 2) (pc' := 414) (by decide +kernel) rfl rfl ?_
                  refine sd_aload_n (k := 0) (i := 0) (q := 0) (pc' := 415) (by decide +kernel) rfl rfl ?_
                  refine sd_iload_n (k := 3) (i := 3) (q := 3) (pc' := 416) (by decide +kernel) rfl rfl ?_
                  refine sd_iconst (n := 1) (v := 1) (pc' := 417) (by decide +kernel) (by decide) ?_
                  refine sd_iadd (pc' := 418) (by decide +kernel) ?_
                  obtain ⟨g73, hf⟩ := gd_some hf
                  refine sL_ld hE (pc' := 419) (by decide +kernel) g73 ?_
                  obtain ⟨h75, t76, q74, hf⟩ := b2_some hf
                  refine sF_callV (idx := 41) (b := 126) (As := [.int (xs ((l3 + 1) : Int32).toNatClampNeg)]) (ci := 12) (nn := 47) (pc' := 422) 1 (T_YM_turns (G := G) (h := h71)  q74) (by decide +kernel) mv_YM_turns ml_L_41 (by decide +kernel) rfl rfl (Nat.le_of_ble_eq_true rfl) SH_126 rfl (by decide) rfl rfl ?_
                  refine sd_icmp_eq (off := 1043) (tgt := 1465) (pc' := 425) (by decide +kernel) (fun c77 => ?_) (fun c77 => ?_)
                  · replace hf := ite_p c77 hf
                    refine sd_J.sub (lo' := [(0, .ref b), (1, .ref (G.1 + 0)), (2, .ref (G.1 + 126)), (3, .int l3)]) [0, 1, 2, 3] rfl ?_
                    exact J_LW_B1465 hE ih hf
                  · replace hf := ite_n c77 hf
                    refine sd_iconst (n := 0) (v := 0) (pc' := 426) (by decide +kernel) (by decide) ?_
                    have hf := Option.some.inj hf
                    exact absurd hf (by decide)
                · replace hf := ite_n c3_5 hf
                  by_cases c3_6 : ((xs (l3 : Int32).toNatClampNeg) &&& 63) = 6
                  · replace hf := ite_p c3_6 hf
                    refine sd_tswIn (dflt := 1432) (lo0 := 0) (hi0 := 34) (offs := #[155, 198, 221, 274, 308, 371, 394, 417, 430, 453, 496, 559, 602, 635, 648, 681, 724, 767, 830, 863, 916, 959, 1002, 1065, 1088, 1121, 1154, 1197, 1210, 1263, 1316, 1339, 1362, 1395, 1418]) (len := 155) (off := 394) (tgt := 427) (pc' := 188) (by decide +kernel) (by rw [c3_6]; decide) (by rw [c3_6]; decide) (by rw [c3_6]; decide) ?_
                    refine sd_aload_n (k := 1) (i := 1) (q := 1) (pc' := 428) (by decide +kernel) rfl rfl ?_
                    refine sd_aload_n (k := 0) (i := 0) (q := 0) (pc' := 429) (by decide +kernel) rfl rfl ?_
                    refine sd_iload_n (k := 3) (i := 3) (q := 3) (pc' := 430) (by decide +kernel) rfl rfl ?_
                    refine sd_iconst (n := 1) (v := 1) (pc' := 431) (by decide +kernel) (by decide) ?_
                    refine sd_iadd (pc' := 432) (by decide +kernel) ?_
                    obtain ⟨g78, hf⟩ := gd_some hf
                    refine sL_ld hE (pc' := 433) (by decide +kernel) g78 ?_
                    obtain ⟨h80, t81, q79, hf⟩ := b2_some hf
                    refine sF_callV (idx := 42) (b := 0) (As := [.int (xs ((l3 + 1) : Int32).toNatClampNeg)]) (ci := 11) (nn := 17) (pc' := 436) 1 (T_XT_type (G := G) (h := h)  q79) (by decide +kernel) mv_XT_type ml_L_42 (by decide +kernel) rfl rfl (Nat.le_of_ble_eq_true rfl) SH_0 rfl (by decide) rfl rfl ?_
                    refine sd_aload_n (k := 2) (i := 2) (q := 2) (pc' := 437) (by decide +kernel) rfl rfl ?_
                    refine sd_aload_n (k := 0) (i := 0) (q := 0) (pc' := 438) (by decide +kernel) rfl rfl ?_
                    refine sd_iload_n (k := 3) (i := 3) (q := 3) (pc' := 439) (by decide +kernel) rfl rfl ?_
                    refine sd_iconst (n := 1) (v := 1) (pc' := 440) (by decide +kernel) (by decide) ?_
                    refine sd_iadd (pc' := 441) (by decide +kernel) ?_
                    obtain ⟨g82, hf⟩ := gd_some hf
                    refine sL_ld hE (pc' := 442) (by decide +kernel) g82 ?_
                    obtain ⟨h84, t85, q83, hf⟩ := b2_some hf
                    refine sF_callV (idx := 45) (b := 126) (As := [.int (xs ((l3 + 1) : Int32).toNatClampNeg)]) (ci := 12) (nn := 47) (pc' := 445) 1 (T_YM_type (G := G) (h := h80)  q83) (by decide +kernel) mv_YM_type ml_L_45 (by decide +kernel) rfl rfl (Nat.le_of_ble_eq_true rfl) SH_126 rfl (by decide) rfl rfl ?_
                    refine sd_icmp_eq (off := 1020) (tgt := 1465) (pc' := 448) (by decide +kernel) (fun c86 => ?_) (fun c86 => ?_)
                    · replace hf := ite_p c86 hf
                      refine sd_J.sub (lo' := [(0, .ref b), (1, .ref (G.1 + 0)), (2, .ref (G.1 + 126)), (3, .int l3)]) [0, 1, 2, 3] rfl ?_
                      exact J_LW_B1465 hE ih hf
                    · replace hf := ite_n c86 hf
                      refine sd_iconst (n := 0) (v := 0) (pc' := 449) (by decide +kernel) (by decide) ?_
                      have hf := Option.some.inj hf
                      exact absurd hf (by decide)
                  · replace hf := ite_n c3_6 hf
                    by_cases c3_7 : ((xs (l3 : Int32).toNatClampNeg) &&& 63) = 7
                    · replace hf := ite_p c3_7 hf
                      refine sd_tswIn (dflt := 1432) (lo0 := 0) (hi0 := 34) (offs := #[155, 198, 221, 274, 308, 371, 394, 417, 430, 453, 496, 559, 602, 635, 648, 681, 724, 767, 830, 863, 916, 959, 1002, 1065, 1088, 1121, 1154, 1197, 1210, 1263, 1316, 1339, 1362, 1395, 1418]) (len := 155) (off := 417) (tgt := 450) (pc' := 188) (by decide +kernel) (by rw [c3_7]; decide) (by rw [c3_7]; decide) (by rw [c3_7]; decide) ?_
                      refine sd_aload_n (k := 1) (i := 1) (q := 1) (pc' := 451) (by decide +kernel) rfl rfl ?_
                      obtain ⟨h88, t89, q87, hf⟩ := b2_some hf
                      refine sF_callV (idx := 46) (b := 0) (As := []) (ci := 11) (nn := 17) (pc' := 454) 0 (T_XT_wipe (G := G) (h := h)  q87) (by decide +kernel) mv_XT_wipe ml_L_46 (by decide +kernel) rfl rfl (Nat.le_of_ble_eq_true rfl) SH_0 rfl (by decide) rfl rfl ?_
                      refine sd_aload_n (k := 2) (i := 2) (q := 2) (pc' := 455) (by decide +kernel) rfl rfl ?_
                      obtain ⟨h91, t92, q90, hf⟩ := b2_some hf
                      refine sF_callV (idx := 50) (b := 126) (As := []) (ci := 12) (nn := 47) (pc' := 458) 0 (T_YM_wipe (G := G) (h := h88)  q90) (by decide +kernel) mv_YM_wipe ml_L_50 (by decide +kernel) rfl rfl (Nat.le_of_ble_eq_true rfl) SH_126 rfl (by decide) rfl rfl ?_
                      refine sd_icmp_eq (off := 1007) (tgt := 1465) (pc' := 461) (by decide +kernel) (fun c93 => ?_) (fun c93 => ?_)
                      · replace hf := ite_p c93 hf
                        refine sd_J.sub (lo' := [(0, .ref b), (1, .ref (G.1 + 0)), (2, .ref (G.1 + 126)), (3, .int l3)]) [0, 1, 2, 3] rfl ?_
                        exact J_LW_B1465 hE ih hf
                      · replace hf := ite_n c93 hf
                        refine sd_iconst (n := 0) (v := 0) (pc' := 462) (by decide +kernel) (by decide) ?_
                        have hf := Option.some.inj hf
                        exact absurd hf (by decide)
                    · replace hf := ite_n c3_7 hf
                      by_cases c3_8 : ((xs (l3 : Int32).toNatClampNeg) &&& 63) = 8
                      · replace hf := ite_p c3_8 hf
                        refine sd_tswIn (dflt := 1432) (lo0 := 0) (hi0 := 34) (offs := #[155, 198, 221, 274, 308, 371, 394, 417, 430, 453, 496, 559, 602, 635, 648, 681, 724, 767, 830, 863, 916, 959, 1002, 1065, 1088, 1121, 1154, 1197, 1210, 1263, 1316, 1339, 1362, 1395, 1418]) (len := 155) (off := 430) (tgt := 463) (pc' := 188) (by decide +kernel) (by rw [c3_8]; decide) (by rw [c3_8]; decide) (by rw [c3_8]; decide) ?_
                        refine sd_aload_n (k := 1) (i := 1) (q := 1) (pc' := 464) (by decide +kernel) rfl rfl ?_
                        refine sd_aload_n (k := 0) (i := 0) (q := 0) (pc' := 465) (by decide +kernel) rfl rfl ?_
                        refine sd_iload_n (k := 3) (i := 3) (q := 3) (pc' := 466) (by decide +kernel) rfl rfl ?_
                        refine sd_iconst (n := 1) (v := 1) (pc' := 467) (by decide +kernel) (by decide) ?_
                        refine sd_iadd (pc' := 468) (by decide +kernel) ?_
                        obtain ⟨g94, hf⟩ := gd_some hf
                        refine sL_ld hE (pc' := 469) (by decide +kernel) g94 ?_
                        obtain ⟨h96, t97, q95, hf⟩ := b2_some hf
                        refine sF_callV (idx := 51) (b := 0) (As := [.int (xs ((l3 + 1) : Int32).toNatClampNeg)]) (ci := 11) (nn := 17) (pc' := 472) 1 (T_XT_statement (G := G) (h := h)  q95) (by decide +kernel) mv_XT_statement ml_L_51 (by decide +kernel) rfl rfl (Nat.le_of_ble_eq_true rfl) SH_0 rfl (by decide) rfl rfl ?_
                        refine sd_aload_n (k := 2) (i := 2) (q := 2) (pc' := 473) (by decide +kernel) rfl rfl ?_
                        refine sd_aload_n (k := 0) (i := 0) (q := 0) (pc' := 474) (by decide +kernel) rfl rfl ?_
                        refine sd_iload_n (k := 3) (i := 3) (q := 3) (pc' := 475) (by decide +kernel) rfl rfl ?_
                        refine sd_iconst (n := 1) (v := 1) (pc' := 476) (by decide +kernel) (by decide) ?_
                        refine sd_iadd (pc' := 477) (by decide +kernel) ?_
                        obtain ⟨g98, hf⟩ := gd_some hf
                        refine sL_ld hE (pc' := 478) (by decide +kernel) g98 ?_
                        obtain ⟨h100, t101, q99, hf⟩ := b2_some hf
                        refine sF_callV (idx := 54) (b := 126) (As := [.int (xs ((l3 + 1) : Int32).toNatClampNeg)]) (ci := 12) (nn := 47) (pc' := 481) 1 (T_YM_statement (G := G) (h := h96)  q99) (by decide +kernel) mv_YM_statement ml_L_54 (by decide +kernel) rfl rfl (Nat.le_of_ble_eq_true rfl) SH_126 rfl (by decide) rfl rfl ?_
                        refine sd_icmp_eq (off := 984) (tgt := 1465) (pc' := 484) (by decide +kernel) (fun c102 => ?_) (fun c102 => ?_)
                        · replace hf := ite_p c102 hf
                          refine sd_J.sub (lo' := [(0, .ref b), (1, .ref (G.1 + 0)), (2, .ref (G.1 + 126)), (3, .int l3)]) [0, 1, 2, 3] rfl ?_
                          exact J_LW_B1465 hE ih hf
                        · replace hf := ite_n c102 hf
                          refine sd_iconst (n := 0) (v := 0) (pc' := 485) (by decide +kernel) (by decide) ?_
                          have hf := Option.some.inj hf
                          exact absurd hf (by decide)
                      · replace hf := ite_n c3_8 hf
                        by_cases c3_9 : ((xs (l3 : Int32).toNatClampNeg) &&& 63) = 9
                        · replace hf := ite_p c3_9 hf
                          refine sd_tswIn (dflt := 1432) (lo0 := 0) (hi0 := 34) (offs := #[155, 198, 221, 274, 308, 371, 394, 417, 430, 453, 496, 559, 602, 635, 648, 681, 724, 767, 830, 863, 916, 959, 1002, 1065, 1088, 1121, 1154, 1197, 1210, 1263, 1316, 1339, 1362, 1395, 1418]) (len := 155) (off := 453) (tgt := 486) (pc' := 188) (by decide +kernel) (by rw [c3_9]; decide) (by rw [c3_9]; decide) (by rw [c3_9]; decide) ?_
                          refine sd_aload_n (k := 1) (i := 1) (q := 1) (pc' := 487) (by decide +kernel) rfl rfl ?_
                          refine sd_aload_n (k := 0) (i := 0) (q := 0) (pc' := 488) (by decide +kernel) rfl rfl ?_
                          refine sd_iload_n (k := 3) (i := 3) (q := 3) (pc' := 489) (by decide +kernel) rfl rfl ?_
                          refine sd_iconst (n := 1) (v := 1) (pc' := 490) (by decide +kernel) (by decide) ?_
                          refine sd_iadd (pc' := 491) (by decide +kernel) ?_
                          obtain ⟨g103, hf⟩ := gd_some hf
                          refine sL_ld hE (pc' := 492) (by decide +kernel) g103 ?_
                          refine sd_aload_n (k := 0) (i := 0) (q := 0) (pc' := 493) (by decide +kernel) rfl rfl ?_
                          refine sd_iload_n (k := 3) (i := 3) (q := 3) (pc' := 494) (by decide +kernel) rfl rfl ?_
                          refine sd_iconst (n := 2) (v := 2) (pc' := 495) (by decide +kernel) (by decide) ?_
                          refine sd_iadd (pc' := 496) (by decide +kernel) ?_
                          obtain ⟨g104, hf⟩ := gd_some hf
                          refine sL_ld hE (pc' := 497) (by decide +kernel) g104 ?_
                          refine sd_aload_n (k := 0) (i := 0) (q := 0) (pc' := 498) (by decide +kernel) rfl rfl ?_
                          refine sd_iload_n (k := 3) (i := 3) (q := 3) (pc' := 499) (by decide +kernel) rfl rfl ?_
                          refine sd_iconst (n := 3) (v := 3) (pc' := 500) (by decide +kernel) (by decide) ?_
                          refine sd_iadd (pc' := 501) (by decide +kernel) ?_
                          obtain ⟨g105, hf⟩ := gd_some hf
                          refine sL_ld hE (pc' := 502) (by decide +kernel) g105 ?_
                          obtain ⟨h107, t108, q106, hf⟩ := b2_some hf
                          refine sF_callV (idx := 55) (b := 0) (As := [.int (xs ((l3 + 1) : Int32).toNatClampNeg), .int (xs ((l3 + 2) : Int32).toNatClampNeg), .int (xs ((l3 + 3) : Int32).toNatClampNeg)]) (ci := 11) (nn := 17) (pc' := 505) 3 (T_XT_refer (G := G) (h := h)  q106) (by decide +kernel) mv_XT_refer ml_L_55 (by decide +kernel) rfl rfl (Nat.le_of_ble_eq_true rfl) SH_0 rfl (by decide) rfl rfl ?_
                          refine sd_aload_n (k := 2) (i := 2) (q := 2) (pc' := 506) (by decide +kernel) rfl rfl ?_
                          refine sd_aload_n (k := 0) (i := 0) (q := 0) (pc' := 507) (by decide +kernel) rfl rfl ?_
                          refine sd_iload_n (k := 3) (i := 3) (q := 3) (pc' := 508) (by decide +kernel) rfl rfl ?_
                          refine sd_iconst (n := 1) (v := 1) (pc' := 509) (by decide +kernel) (by decide) ?_
                          refine sd_iadd (pc' := 510) (by decide +kernel) ?_
                          obtain ⟨g109, hf⟩ := gd_some hf
                          refine sL_ld hE (pc' := 511) (by decide +kernel) g109 ?_
                          refine sd_aload_n (k := 0) (i := 0) (q := 0) (pc' := 512) (by decide +kernel) rfl rfl ?_
                          refine sd_iload_n (k := 3) (i := 3) (q := 3) (pc' := 513) (by decide +kernel) rfl rfl ?_
                          refine sd_iconst (n := 2) (v := 2) (pc' := 514) (by decide +kernel) (by decide) ?_
                          refine sd_iadd (pc' := 515) (by decide +kernel) ?_
                          obtain ⟨g110, hf⟩ := gd_some hf
                          refine sL_ld hE (pc' := 516) (by decide +kernel) g110 ?_
                          refine sd_aload_n (k := 0) (i := 0) (q := 0) (pc' := 517) (by decide +kernel) rfl rfl ?_
                          refine sd_iload_n (k := 3) (i := 3) (q := 3) (pc' := 518) (by decide +kernel) rfl rfl ?_
                          refine sd_iconst (n := 3) (v := 3) (pc' := 519) (by decide +kernel) (by decide) ?_
                          refine sd_iadd (pc' := 520) (by decide +kernel) ?_
                          obtain ⟨g111, hf⟩ := gd_some hf
                          refine sL_ld hE (pc' := 521) (by decide +kernel) g111 ?_
                          obtain ⟨h113, t114, q112, hf⟩ := b2_some hf
                          refine sF_callV (idx := 58) (b := 126) (As := [.int (xs ((l3 + 1) : Int32).toNatClampNeg), .int (xs ((l3 + 2) : Int32).toNatClampNeg), .int (xs ((l3 + 3) : Int32).toNatClampNeg)]) (ci := 12) (nn := 47) (pc' := 524) 3 (T_YM_refer (G := G) (h := h107)  q112) (by decide +kernel) mv_YM_refer ml_L_58 (by decide +kernel) rfl rfl (Nat.le_of_ble_eq_true rfl) SH_126 rfl (by decide) rfl rfl ?_
                          refine sd_icmp_eq (off := 941) (tgt := 1465) (pc' := 527) (by decide +kernel) (fun c115 => ?_) (fun c115 => ?_)
                          · replace hf := ite_p c115 hf
                            refine sd_J.sub (lo' := [(0, .ref b), (1, .ref (G.1 + 0)), (2, .ref (G.1 + 126)), (3, .int l3)]) [0, 1, 2, 3] rfl ?_
                            exact J_LW_B1465 hE ih hf
                          · replace hf := ite_n c115 hf
                            refine sd_iconst (n := 0) (v := 0) (pc' := 528) (by decide +kernel) (by decide) ?_
                            have hf := Option.some.inj hf
                            exact absurd hf (by decide)
                        · replace hf := ite_n c3_9 hf
                          by_cases c3_10 : ((xs (l3 : Int32).toNatClampNeg) &&& 63) = 10
                          · replace hf := ite_p c3_10 hf
                            refine sd_tswIn (dflt := 1432) (lo0 := 0) (hi0 := 34) (offs := #[155, 198, 221, 274, 308, 371, 394, 417, 430, 453, 496, 559, 602, 635, 648, 681, 724, 767, 830, 863, 916, 959, 1002, 1065, 1088, 1121, 1154, 1197, 1210, 1263, 1316, 1339, 1362, 1395, 1418]) (len := 155) (off := 496) (tgt := 529) (pc' := 188) (by decide +kernel) (by rw [c3_10]; decide) (by rw [c3_10]; decide) (by rw [c3_10]; decide) ?_
                            refine sd_aload_n (k := 1) (i := 1) (q := 1) (pc' := 530) (by decide +kernel) rfl rfl ?_
                            refine sd_aload_n (k := 0) (i := 0) (q := 0) (pc' := 531) (by decide +kernel) rfl rfl ?_
                            refine sd_iload_n (k := 3) (i := 3) (q := 3) (pc' := 532) (by decide +kernel) rfl rfl ?_
                            refine sd_iconst (n := 1) (v := 1) (pc' := 533) (by decide +kernel) (by decide) ?_
                            refine sd_iadd (pc' := 534) (by decide +kernel) ?_
                            obtain ⟨g116, hf⟩ := gd_some hf
                            refine sL_ld hE (pc' := 535) (by decide +kernel) g116 ?_
                            refine sd_aload_n (k := 0) (i := 0) (q := 0) (pc' := 536) (by decide +kernel) rfl rfl ?_
                            refine sd_iload_n (k := 3) (i := 3) (q := 3) (pc' := 537) (by decide +kernel) rfl rfl ?_
                            refine sd_iconst (n := 2) (v := 2) (pc' := 538) (by decide +kernel) (by decide) ?_
                            refine sd_iadd (pc' := 539) (by decide +kernel) ?_
                            obtain ⟨g117, hf⟩ := gd_some hf
                            refine sL_ld hE (pc' := 540) (by decide +kernel) g117 ?_
                            refine sd_aload_n (k := 0) (i := 0) (q := 0) (pc' := 541) (by decide +kernel) rfl rfl ?_
                            refine sd_iload_n (k := 3) (i := 3) (q := 3) (pc' := 542) (by decide +kernel) rfl rfl ?_
                            refine sd_iconst (n := 3) (v := 3) (pc' := 543) (by decide +kernel) (by decide) ?_
                            refine sd_iadd (pc' := 544) (by decide +kernel) ?_
                            obtain ⟨g118, hf⟩ := gd_some hf
                            refine sL_ld hE (pc' := 545) (by decide +kernel) g118 ?_
                            refine sd_aload_n (k := 0) (i := 0) (q := 0) (pc' := 546) (by decide +kernel) rfl rfl ?_
                            refine sd_iload_n (k := 3) (i := 3) (q := 3) (pc' := 547) (by decide +kernel) rfl rfl ?_
                            refine sd_iconst (n := 4) (v := 4) (pc' := 548) (by decide +kernel) (by decide) ?_
                            refine sd_iadd (pc' := 549) (by decide +kernel) ?_
                            obtain ⟨g119, hf⟩ := gd_some hf
                            refine sL_ld hE (pc' := 550) (by decide +kernel) g119 ?_
                            refine sd_aload_n (k := 0) (i := 0) (q := 0) (pc' := 551) (by decide +kernel) rfl rfl ?_
                            refine sd_iload_n (k := 3) (i := 3) (q := 3) (pc' := 552) (by decide +kernel) rfl rfl ?_
                            refine sd_iconst (n := 5) (v := 5) (pc' := 553) (by decide +kernel) (by decide) ?_
                            refine sd_iadd (pc' := 554) (by decide +kernel) ?_
                            obtain ⟨g120, hf⟩ := gd_some hf
                            refine sL_ld hE (pc' := 555) (by decide +kernel) g120 ?_
                            obtain ⟨h122, t123, q121, hf⟩ := b2_some hf
                            refine sF_callV (idx := 59) (b := 0) (As := [.int (xs ((l3 + 1) : Int32).toNatClampNeg), .int (xs ((l3 + 2) : Int32).toNatClampNeg), .int (xs ((l3 + 3) : Int32).toNatClampNeg), .int (xs ((l3 + 4) : Int32).toNatClampNeg), .int (xs ((l3 + 5) : Int32).toNatClampNeg)]) (ci := 11) (nn := 17) (pc' := 558) 5 (T_XT_place (G := G) (h := h)  q121) (by decide +kernel) mv_XT_place ml_L_59 (by decide +kernel) rfl rfl (Nat.le_of_ble_eq_true rfl) SH_0 rfl (by decide) rfl rfl ?_
                            refine sd_aload_n (k := 2) (i := 2) (q := 2) (pc' := 559) (by decide +kernel) rfl rfl ?_
                            refine sd_aload_n (k := 0) (i := 0) (q := 0) (pc' := 560) (by decide +kernel) rfl rfl ?_
                            refine sd_iload_n (k := 3) (i := 3) (q := 3) (pc' := 561) (by decide +kernel) rfl rfl ?_
                            refine sd_iconst (n := 1) (v := 1) (pc' := 562) (by decide +kernel) (by decide) ?_
                            refine sd_iadd (pc' := 563) (by decide +kernel) ?_
                            obtain ⟨g124, hf⟩ := gd_some hf
                            refine sL_ld hE (pc' := 564) (by decide +kernel) g124 ?_
                            refine sd_aload_n (k := 0) (i := 0) (q := 0) (pc' := 565) (by decide +kernel) rfl rfl ?_
                            refine sd_iload_n (k := 3) (i := 3) (q := 3) (pc' := 566) (by decide +kernel) rfl rfl ?_
                            refine sd_iconst (n := 2) (v := 2) (pc' := 567) (by decide +kernel) (by decide) ?_
                            refine sd_iadd (pc' := 568) (by decide +kernel) ?_
                            obtain ⟨g125, hf⟩ := gd_some hf
                            refine sL_ld hE (pc' := 569) (by decide +kernel) g125 ?_
                            refine sd_aload_n (k := 0) (i := 0) (q := 0) (pc' := 570) (by decide +kernel) rfl rfl ?_
                            refine sd_iload_n (k := 3) (i := 3) (q := 3) (pc' := 571) (by decide +kernel) rfl rfl ?_
                            refine sd_iconst (n := 3) (v := 3) (pc' := 572) (by decide +kernel) (by decide) ?_
                            refine sd_iadd (pc' := 573) (by decide +kernel) ?_
                            obtain ⟨g126, hf⟩ := gd_some hf
                            refine sL_ld hE (pc' := 574) (by decide +kernel) g126 ?_
                            refine sd_aload_n (k := 0) (i := 0) (q := 0) (pc' := 575) (by decide +kernel) rfl rfl ?_
                            refine sd_iload_n (k := 3) (i := 3) (q := 3) (pc' := 576) (by decide +kernel) rfl rfl ?_
                            refine sd_iconst (n := 4) (v := 4) (pc' := 577) (by decide +kernel) (by decide) ?_
                            refine sd_iadd (pc' := 578) (by decide +kernel) ?_
                            obtain ⟨g127, hf⟩ := gd_some hf
                            refine sL_ld hE (pc' := 579) (by decide +kernel) g127 ?_
                            refine sd_aload_n (k := 0) (i := 0) (q := 0) (pc' := 580) (by decide +kernel) rfl rfl ?_
                            refine sd_iload_n (k := 3) (i := 3) (q := 3) (pc' := 581) (by decide +kernel) rfl rfl ?_
                            refine sd_iconst (n := 5) (v := 5) (pc' := 582) (by decide +kernel) (by decide) ?_
                            refine sd_iadd (pc' := 583) (by decide +kernel) ?_
                            obtain ⟨g128, hf⟩ := gd_some hf
                            refine sL_ld hE (pc' := 584) (by decide +kernel) g128 ?_
                            obtain ⟨h130, t131, q129, hf⟩ := b2_some hf
                            refine sF_callV (idx := 62) (b := 126) (As := [.int (xs ((l3 + 1) : Int32).toNatClampNeg), .int (xs ((l3 + 2) : Int32).toNatClampNeg), .int (xs ((l3 + 3) : Int32).toNatClampNeg), .int (xs ((l3 + 4) : Int32).toNatClampNeg), .int (xs ((l3 + 5) : Int32).toNatClampNeg)]) (ci := 12) (nn := 47) (pc' := 587) 5 (T_YM_place (G := G) (h := h122)  q129) (by decide +kernel) mv_YM_place ml_L_62 (by decide +kernel) rfl rfl (Nat.le_of_ble_eq_true rfl) SH_126 rfl (by decide) rfl rfl ?_
                            refine sd_icmp_eq (off := 878) (tgt := 1465) (pc' := 590) (by decide +kernel) (fun c132 => ?_) (fun c132 => ?_)
                            · replace hf := ite_p c132 hf
                              refine sd_J.sub (lo' := [(0, .ref b), (1, .ref (G.1 + 0)), (2, .ref (G.1 + 126)), (3, .int l3)]) [0, 1, 2, 3] rfl ?_
                              exact J_LW_B1465 hE ih hf
                            · replace hf := ite_n c132 hf
                              refine sd_iconst (n := 0) (v := 0) (pc' := 591) (by decide +kernel) (by decide) ?_
                              have hf := Option.some.inj hf
                              exact absurd hf (by decide)
                          · replace hf := ite_n c3_10 hf
                            by_cases c3_11 : ((xs (l3 : Int32).toNatClampNeg) &&& 63) = 11
                            · replace hf := ite_p c3_11 hf
                              refine sd_tswIn (dflt := 1432) (lo0 := 0) (hi0 := 34) (offs := #[155, 198, 221, 274, 308, 371, 394, 417, 430, 453, 496, 559, 602, 635, 648, 681, 724, 767, 830, 863, 916, 959, 1002, 1065, 1088, 1121, 1154, 1197, 1210, 1263, 1316, 1339, 1362, 1395, 1418]) (len := 155) (off := 559) (tgt := 592) (pc' := 188) (by decide +kernel) (by rw [c3_11]; decide) (by rw [c3_11]; decide) (by rw [c3_11]; decide) ?_
                              refine sd_aload_n (k := 1) (i := 1) (q := 1) (pc' := 593) (by decide +kernel) rfl rfl ?_
                              refine sd_aload_n (k := 0) (i := 0) (q := 0) (pc' := 594) (by decide +kernel) rfl rfl ?_
                              refine sd_iload_n (k := 3) (i := 3) (q := 3) (pc' := 595) (by decide +kernel) rfl rfl ?_
                              refine sd_iconst (n := 1) (v := 1) (pc' := 596) (by decide +kernel) (by decide) ?_
                              refine sd_iadd (pc' := 597) (by decide +kernel) ?_
                              obtain ⟨g133, hf⟩ := gd_some hf
                              refine sL_ld hE (pc' := 598) (by decide +kernel) g133 ?_
                              refine sd_aload_n (k := 0) (i := 0) (q := 0) (pc' := 599) (by decide +kernel) rfl rfl ?_
                              refine sd_iload_n (k := 3) (i := 3) (q := 3) (pc' := 600) (by decide +kernel) rfl rfl ?_
                              refine sd_iconst (n := 2) (v := 2) (pc' := 601) (by decide +kernel) (by decide) ?_
                              refine sd_iadd (pc' := 602) (by decide +kernel) ?_
                              obtain ⟨g134, hf⟩ := gd_some hf
                              refine sL_ld hE (pc' := 603) (by decide +kernel) g134 ?_
                              refine sd_aload_n (k := 0) (i := 0) (q := 0) (pc' := 604) (by decide +kernel) rfl rfl ?_
                              refine sd_iload_n (k := 3) (i := 3) (q := 3) (pc' := 605) (by decide +kernel) rfl rfl ?_
                              refine sd_iconst (n := 3) (v := 3) (pc' := 606) (by decide +kernel) (by decide) ?_
                              refine sd_iadd (pc' := 607) (by decide +kernel) ?_
                              obtain ⟨g135, hf⟩ := gd_some hf
                              refine sL_ld hE (pc' := 608) (by decide +kernel) g135 ?_
                              obtain ⟨h137, t138, q136, hf⟩ := b2_some hf
                              refine sF_callV (idx := 63) (b := 0) (As := [.int (xs ((l3 + 1) : Int32).toNatClampNeg), .int (xs ((l3 + 2) : Int32).toNatClampNeg), .int (xs ((l3 + 3) : Int32).toNatClampNeg)]) (ci := 11) (nn := 17) (pc' := 611) 3 (T_XT_guard (G := G) (h := h)  q136) (by decide +kernel) mv_XT_guard ml_L_63 (by decide +kernel) rfl rfl (Nat.le_of_ble_eq_true rfl) SH_0 rfl (by decide) rfl rfl ?_
                              refine sd_aload_n (k := 2) (i := 2) (q := 2) (pc' := 612) (by decide +kernel) rfl rfl ?_
                              refine sd_aload_n (k := 0) (i := 0) (q := 0) (pc' := 613) (by decide +kernel) rfl rfl ?_
                              refine sd_iload_n (k := 3) (i := 3) (q := 3) (pc' := 614) (by decide +kernel) rfl rfl ?_
                              refine sd_iconst (n := 1) (v := 1) (pc' := 615) (by decide +kernel) (by decide) ?_
                              refine sd_iadd (pc' := 616) (by decide +kernel) ?_
                              obtain ⟨g139, hf⟩ := gd_some hf
                              refine sL_ld hE (pc' := 617) (by decide +kernel) g139 ?_
                              refine sd_aload_n (k := 0) (i := 0) (q := 0) (pc' := 618) (by decide +kernel) rfl rfl ?_
                              refine sd_iload_n (k := 3) (i := 3) (q := 3) (pc' := 619) (by decide +kernel) rfl rfl ?_
                              refine sd_iconst (n := 2) (v := 2) (pc' := 620) (by decide +kernel) (by decide) ?_
                              refine sd_iadd (pc' := 621) (by decide +kernel) ?_
                              obtain ⟨g140, hf⟩ := gd_some hf
                              refine sL_ld hE (pc' := 622) (by decide +kernel) g140 ?_
                              refine sd_aload_n (k := 0) (i := 0) (q := 0) (pc' := 623) (by decide +kernel) rfl rfl ?_
                              refine sd_iload_n (k := 3) (i := 3) (q := 3) (pc' := 624) (by decide +kernel) rfl rfl ?_
                              refine sd_iconst (n := 3) (v := 3) (pc' := 625) (by decide +kernel) (by decide) ?_
                              refine sd_iadd (pc' := 626) (by decide +kernel) ?_
                              obtain ⟨g141, hf⟩ := gd_some hf
                              refine sL_ld hE (pc' := 627) (by decide +kernel) g141 ?_
                              obtain ⟨h143, t144, q142, hf⟩ := b2_some hf
                              refine sF_callV (idx := 66) (b := 126) (As := [.int (xs ((l3 + 1) : Int32).toNatClampNeg), .int (xs ((l3 + 2) : Int32).toNatClampNeg), .int (xs ((l3 + 3) : Int32).toNatClampNeg)]) (ci := 12) (nn := 47) (pc' := 630) 3 (T_YM_guard (G := G) (h := h137)  q142) (by decide +kernel) mv_YM_guard ml_L_66 (by decide +kernel) rfl rfl (Nat.le_of_ble_eq_true rfl) SH_126 rfl (by decide) rfl rfl ?_
                              refine sd_icmp_eq (off := 835) (tgt := 1465) (pc' := 633) (by decide +kernel) (fun c145 => ?_) (fun c145 => ?_)
                              · replace hf := ite_p c145 hf
                                refine sd_J.sub (lo' := [(0, .ref b), (1, .ref (G.1 + 0)), (2, .ref (G.1 + 126)), (3, .int l3)]) [0, 1, 2, 3] rfl ?_
                                exact J_LW_B1465 hE ih hf
                              · replace hf := ite_n c145 hf
                                refine sd_iconst (n := 0) (v := 0) (pc' := 634) (by decide +kernel) (by decide) ?_
                                have hf := Option.some.inj hf
                                exact absurd hf (by decide)
                            · replace hf := ite_n c3_11 hf
                              by_cases c3_12 : ((xs (l3 : Int32).toNatClampNeg) &&& 63) = 12
                              · replace hf := ite_p c3_12 hf
                                refine sd_tswIn (dflt := 1432) (lo0 := 0) (hi0 := 34) (offs := #[155, 198, 221, 274, 308, 371, 394, 417, 430, 453, 496, 559, 602, 635, 648, 681, 724, 767, 830, 863, 916, 959, 1002, 1065, 1088, 1121, 1154, 1197, 1210, 1263, 1316, 1339, 1362, 1395, 1418]) (len := 155) (off := 602) (tgt := 635) (pc' := 188) (by decide +kernel) (by rw [c3_12]; decide) (by rw [c3_12]; decide) (by rw [c3_12]; decide) ?_
                                refine sd_aload_n (k := 1) (i := 1) (q := 1) (pc' := 636) (by decide +kernel) rfl rfl ?_
                                refine sd_aload_n (k := 0) (i := 0) (q := 0) (pc' := 637) (by decide +kernel) rfl rfl ?_
                                refine sd_iload_n (k := 3) (i := 3) (q := 3) (pc' := 638) (by decide +kernel) rfl rfl ?_
                                refine sd_iconst (n := 1) (v := 1) (pc' := 639) (by decide +kernel) (by decide) ?_
                                refine sd_iadd (pc' := 640) (by decide +kernel) ?_
                                obtain ⟨g146, hf⟩ := gd_some hf
                                refine sL_ld hE (pc' := 641) (by decide +kernel) g146 ?_
                                refine sd_aload_n (k := 0) (i := 0) (q := 0) (pc' := 642) (by decide +kernel) rfl rfl ?_
                                refine sd_iload_n (k := 3) (i := 3) (q := 3) (pc' := 643) (by decide +kernel) rfl rfl ?_
                                refine sd_iconst (n := 2) (v := 2) (pc' := 644) (by decide +kernel) (by decide) ?_
                                refine sd_iadd (pc' := 645) (by decide +kernel) ?_
                                obtain ⟨g147, hf⟩ := gd_some hf
                                refine sL_ld hE (pc' := 646) (by decide +kernel) g147 ?_
                                obtain ⟨h149, t150, q148, hf⟩ := b2_some hf
                                refine sF_callV (idx := 67) (b := 0) (As := [.int (xs ((l3 + 1) : Int32).toNatClampNeg), .int (xs ((l3 + 2) : Int32).toNatClampNeg)]) (ci := 11) (nn := 17) (pc' := 649) 2 (T_XT_mask (G := G) (h := h)  q148) (by decide +kernel) mv_XT_mask ml_L_67 (by decide +kernel) rfl rfl (Nat.le_of_ble_eq_true rfl) SH_0 rfl (by decide) rfl rfl ?_
                                refine sd_aload_n (k := 2) (i := 2) (q := 2) (pc' := 650) (by decide +kernel) rfl rfl ?_
                                refine sd_aload_n (k := 0) (i := 0) (q := 0) (pc' := 651) (by decide +kernel) rfl rfl ?_
                                refine sd_iload_n (k := 3) (i := 3) (q := 3) (pc' := 652) (by decide +kernel) rfl rfl ?_
                                refine sd_iconst (n := 1) (v := 1) (pc' := 653) (by decide +kernel) (by decide) ?_
                                refine sd_iadd (pc' := 654) (by decide +kernel) ?_
                                obtain ⟨g151, hf⟩ := gd_some hf
                                refine sL_ld hE (pc' := 655) (by decide +kernel) g151 ?_
                                refine sd_aload_n (k := 0) (i := 0) (q := 0) (pc' := 656) (by decide +kernel) rfl rfl ?_
                                refine sd_iload_n (k := 3) (i := 3) (q := 3) (pc' := 657) (by decide +kernel) rfl rfl ?_
                                refine sd_iconst (n := 2) (v := 2) (pc' := 658) (by decide +kernel) (by decide) ?_
                                refine sd_iadd (pc' := 659) (by decide +kernel) ?_
                                obtain ⟨g152, hf⟩ := gd_some hf
                                refine sL_ld hE (pc' := 660) (by decide +kernel) g152 ?_
                                obtain ⟨h154, t155, q153, hf⟩ := b2_some hf
                                refine sF_callV (idx := 71) (b := 126) (As := [.int (xs ((l3 + 1) : Int32).toNatClampNeg), .int (xs ((l3 + 2) : Int32).toNatClampNeg)]) (ci := 12) (nn := 47) (pc' := 663) 2 (T_YM_mask (G := G) (h := h149)  q153) (by decide +kernel) mv_YM_mask ml_L_71 (by decide +kernel) rfl rfl (Nat.le_of_ble_eq_true rfl) SH_126 rfl (by decide) rfl rfl ?_
                                refine sd_icmp_eq (off := 802) (tgt := 1465) (pc' := 666) (by decide +kernel) (fun c156 => ?_) (fun c156 => ?_)
                                · replace hf := ite_p c156 hf
                                  refine sd_J.sub (lo' := [(0, .ref b), (1, .ref (G.1 + 0)), (2, .ref (G.1 + 126)), (3, .int l3)]) [0, 1, 2, 3] rfl ?_
                                  exact J_LW_B1465 hE ih hf
                                · replace hf := ite_n c156 hf
                                  refine sd_iconst (n := 0) (v := 0) (pc' := 667) (by decide +kernel) (by decide) ?_
                                  have hf := Option.some.inj hf
                                  exact absurd hf (by decide)
                              · replace hf := ite_n c3_12 hf
                                by_cases c3_13 : ((xs (l3 : Int32).toNatClampNeg) &&& 63) = 13
                                · replace hf := ite_p c3_13 hf
                                  refine sd_tswIn (dflt := 1432) (lo0 := 0) (hi0 := 34) (offs := #[155, 198, 221, 274, 308, 371, 394, 417, 430, 453, 496, 559, 602, 635, 648, 681, 724, 767, 830, 863, 916, 959, 1002, 1065, 1088, 1121, 1154, 1197, 1210, 1263, 1316, 1339, 1362, 1395, 1418]) (len := 155) (off := 635) (tgt := 668) (pc' := 188) (by decide +kernel) (by rw [c3_13]; decide) (by rw [c3_13]; decide) (by rw [c3_13]; decide) ?_
                                  refine sd_aload_n (k := 1) (i := 1) (q := 1) (pc' := 669) (by decide +kernel) rfl rfl ?_
                                  obtain ⟨h158, t159, q157, hf⟩ := b2_some hf
                                  refine sF_callV (idx := 72) (b := 0) (As := []) (ci := 11) (nn := 17) (pc' := 672) 0 (T_XT_undo (G := G) (h := h)  q157) (by decide +kernel) mv_XT_undo ml_L_72 (by decide +kernel) rfl rfl (Nat.le_of_ble_eq_true rfl) SH_0 rfl (by decide) rfl rfl ?_
                                  refine sd_aload_n (k := 2) (i := 2) (q := 2) (pc' := 673) (by decide +kernel) rfl rfl ?_
                                  obtain ⟨h161, t162, q160, hf⟩ := b2_some hf
                                  refine sF_callV (idx := 75) (b := 126) (As := []) (ci := 12) (nn := 47) (pc' := 676) 0 (T_YM_undo (G := G) (h := h158)  q160) (by decide +kernel) mv_YM_undo ml_L_75 (by decide +kernel) rfl rfl (Nat.le_of_ble_eq_true rfl) SH_126 rfl (by decide) rfl rfl ?_
                                  refine sd_icmp_eq (off := 789) (tgt := 1465) (pc' := 679) (by decide +kernel) (fun c163 => ?_) (fun c163 => ?_)
                                  · replace hf := ite_p c163 hf
                                    refine sd_J.sub (lo' := [(0, .ref b), (1, .ref (G.1 + 0)), (2, .ref (G.1 + 126)), (3, .int l3)]) [0, 1, 2, 3] rfl ?_
                                    exact J_LW_B1465 hE ih hf
                                  · replace hf := ite_n c163 hf
                                    refine sd_iconst (n := 0) (v := 0) (pc' := 680) (by decide +kernel) (by decide) ?_
                                    have hf := Option.some.inj hf
                                    exact absurd hf (by decide)
                                · replace hf := ite_n c3_13 hf
                                  by_cases c3_14 : ((xs (l3 : Int32).toNatClampNeg) &&& 63) = 14
                                  · replace hf := ite_p c3_14 hf
                                    refine sd_tswIn (dflt := 1432) (lo0 := 0) (hi0 := 34) (offs := #[155, 198, 221, 274, 308, 371, 394, 417, 430, 453, 496, 559, 602, 635, 648, 681, 724, 767, 830, 863, 916, 959, 1002, 1065, 1088, 1121, 1154, 1197, 1210, 1263, 1316, 1339, 1362, 1395, 1418]) (len := 155) (off := 648) (tgt := 681) (pc' := 188) (by decide +kernel) (by rw [c3_14]; decide) (by rw [c3_14]; decide) (by rw [c3_14]; decide) ?_
                                    refine sd_aload_n (k := 1) (i := 1) (q := 1) (pc' := 682) (by decide +kernel) rfl rfl ?_
                                    refine sd_aload_n (k := 0) (i := 0) (q := 0) (pc' := 683) (by decide +kernel) rfl rfl ?_
                                    refine sd_iload_n (k := 3) (i := 3) (q := 3) (pc' := 684) (by decide +kernel) rfl rfl ?_
                                    refine sd_iconst (n := 1) (v := 1) (pc' := 685) (by decide +kernel) (by decide) ?_
                                    refine sd_iadd (pc' := 686) (by decide +kernel) ?_
                                    obtain ⟨g164, hf⟩ := gd_some hf
                                    refine sL_ld hE (pc' := 687) (by decide +kernel) g164 ?_
                                    refine sd_aload_n (k := 0) (i := 0) (q := 0) (pc' := 688) (by decide +kernel) rfl rfl ?_
                                    refine sd_iload_n (k := 3) (i := 3) (q := 3) (pc' := 689) (by decide +kernel) rfl rfl ?_
                                    refine sd_iconst (n := 2) (v := 2) (pc' := 690) (by decide +kernel) (by decide) ?_
                                    refine sd_iadd (pc' := 691) (by decide +kernel) ?_
                                    obtain ⟨g165, hf⟩ := gd_some hf
                                    refine sL_ld hE (pc' := 692) (by decide +kernel) g165 ?_
                                    obtain ⟨t167, q166, hf⟩ := b1_some hf
                                    refine sF_callV (idx := 76) (b := 0) (As := [.int (xs ((l3 + 1) : Int32).toNatClampNeg), .int (xs ((l3 + 2) : Int32).toNatClampNeg)]) (ci := 11) (nn := 17) (pc' := 695) 2 (T_XT_info (G := G) (h := h)  q166) (by decide +kernel) mv_XT_info ml_L_76 (by decide +kernel) rfl rfl (Nat.le_of_ble_eq_true rfl) SH_0 rfl (by decide) rfl rfl ?_
                                    refine sd_aload_n (k := 2) (i := 2) (q := 2) (pc' := 696) (by decide +kernel) rfl rfl ?_
                                    refine sd_aload_n (k := 0) (i := 0) (q := 0) (pc' := 697) (by decide +kernel) rfl rfl ?_
                                    refine sd_iload_n (k := 3) (i := 3) (q := 3) (pc' := 698) (by decide +kernel) rfl rfl ?_
                                    refine sd_iconst (n := 1) (v := 1) (pc' := 699) (by decide +kernel) (by decide) ?_
                                    refine sd_iadd (pc' := 700) (by decide +kernel) ?_
                                    obtain ⟨g168, hf⟩ := gd_some hf
                                    refine sL_ld hE (pc' := 701) (by decide +kernel) g168 ?_
                                    refine sd_aload_n (k := 0) (i := 0) (q := 0) (pc' := 702) (by decide +kernel) rfl rfl ?_
                                    refine sd_iload_n (k := 3) (i := 3) (q := 3) (pc' := 703) (by decide +kernel) rfl rfl ?_
                                    refine sd_iconst (n := 2) (v := 2) (pc' := 704) (by decide +kernel) (by decide) ?_
                                    refine sd_iadd (pc' := 705) (by decide +kernel) ?_
                                    obtain ⟨g169, hf⟩ := gd_some hf
                                    refine sL_ld hE (pc' := 706) (by decide +kernel) g169 ?_
                                    obtain ⟨t171, q170, hf⟩ := b1_some hf
                                    refine sF_callV (idx := 79) (b := 126) (As := [.int (xs ((l3 + 1) : Int32).toNatClampNeg), .int (xs ((l3 + 2) : Int32).toNatClampNeg)]) (ci := 12) (nn := 47) (pc' := 709) 2 (T_YM_info (G := G) (h := h)  q170) (by decide +kernel) mv_YM_info ml_L_79 (by decide +kernel) rfl rfl (Nat.le_of_ble_eq_true rfl) SH_126 rfl (by decide) rfl rfl ?_
                                    refine sd_icmp_eq (off := 756) (tgt := 1465) (pc' := 712) (by decide +kernel) (fun c172 => ?_) (fun c172 => ?_)
                                    · replace hf := ite_p c172 hf
                                      refine sd_J.sub (lo' := [(0, .ref b), (1, .ref (G.1 + 0)), (2, .ref (G.1 + 126)), (3, .int l3)]) [0, 1, 2, 3] rfl ?_
                                      exact J_LW_B1465 hE ih hf
                                    · replace hf := ite_n c172 hf
                                      refine sd_iconst (n := 0) (v := 0) (pc' := 713) (by decide +kernel) (by decide) ?_
                                      have hf := Option.some.inj hf
                                      exact absurd hf (by decide)
                                  · replace hf := ite_n c3_14 hf
                                    by_cases c3_15 : ((xs (l3 : Int32).toNatClampNeg) &&& 63) = 15
                                    · replace hf := ite_p c3_15 hf
                                      refine sd_tswIn (dflt := 1432) (lo0 := 0) (hi0 := 34) (offs := #[155, 198, 221, 274, 308, 371, 394, 417, 430, 453, 496, 559, 602, 635, 648, 681, 724, 767, 830, 863, 916, 959, 1002, 1065, 1088, 1121, 1154, 1197, 1210, 1263, 1316, 1339, 1362, 1395, 1418]) (len := 155) (off := 681) (tgt := 714) (pc' := 188) (by decide +kernel) (by rw [c3_15]; decide) (by rw [c3_15]; decide) (by rw [c3_15]; decide) ?_
                                      refine sd_aload_n (k := 1) (i := 1) (q := 1) (pc' := 715) (by decide +kernel) rfl rfl ?_
                                      refine sd_aload_n (k := 0) (i := 0) (q := 0) (pc' := 716) (by decide +kernel) rfl rfl ?_
                                      refine sd_iload_n (k := 3) (i := 3) (q := 3) (pc' := 717) (by decide +kernel) rfl rfl ?_
                                      refine sd_iconst (n := 1) (v := 1) (pc' := 718) (by decide +kernel) (by decide) ?_
                                      refine sd_iadd (pc' := 719) (by decide +kernel) ?_
                                      obtain ⟨g173, hf⟩ := gd_some hf
                                      refine sL_ld hE (pc' := 720) (by decide +kernel) g173 ?_
                                      refine sd_aload_n (k := 0) (i := 0) (q := 0) (pc' := 721) (by decide +kernel) rfl rfl ?_
                                      refine sd_iload_n (k := 3) (i := 3) (q := 3) (pc' := 722) (by decide +kernel) rfl rfl ?_
                                      refine sd_iconst (n := 2) (v := 2) (pc' := 723) (by decide +kernel) (by decide) ?_
                                      refine sd_iadd (pc' := 724) (by decide +kernel) ?_
                                      obtain ⟨g174, hf⟩ := gd_some hf
                                      refine sL_ld hE (pc' := 725) (by decide +kernel) g174 ?_
                                      refine sd_aload_n (k := 0) (i := 0) (q := 0) (pc' := 726) (by decide +kernel) rfl rfl ?_
                                      refine sd_iload_n (k := 3) (i := 3) (q := 3) (pc' := 727) (by decide +kernel) rfl rfl ?_
                                      refine sd_iconst (n := 3) (v := 3) (pc' := 728) (by decide +kernel) (by decide) ?_
                                      refine sd_iadd (pc' := 729) (by decide +kernel) ?_
                                      obtain ⟨g175, hf⟩ := gd_some hf
                                      refine sL_ld hE (pc' := 730) (by decide +kernel) g175 ?_
                                      obtain ⟨t177, q176, hf⟩ := b1_some hf
                                      refine sF_callV (idx := 80) (b := 0) (As := [.int (xs ((l3 + 1) : Int32).toNatClampNeg), .int (xs ((l3 + 2) : Int32).toNatClampNeg), .int (xs ((l3 + 3) : Int32).toNatClampNeg)]) (ci := 11) (nn := 17) (pc' := 733) 3 (T_XT_reference (G := G) (h := h)  q176) (by decide +kernel) mv_XT_reference ml_L_80 (by decide +kernel) rfl rfl (Nat.le_of_ble_eq_true rfl) SH_0 rfl (by decide) rfl rfl ?_
                                      refine sd_aload_n (k := 2) (i := 2) (q := 2) (pc' := 734) (by decide +kernel) rfl rfl ?_
                                      refine sd_aload_n (k := 0) (i := 0) (q := 0) (pc' := 735) (by decide +kernel) rfl rfl ?_
                                      refine sd_iload_n (k := 3) (i := 3) (q := 3) (pc' := 736) (by decide +kernel) rfl rfl ?_
                                      refine sd_iconst (n := 1) (v := 1) (pc' := 737) (by decide +kernel) (by decide) ?_
                                      refine sd_iadd (pc' := 738) (by decide +kernel) ?_
                                      obtain ⟨g178, hf⟩ := gd_some hf
                                      refine sL_ld hE (pc' := 739) (by decide +kernel) g178 ?_
                                      refine sd_aload_n (k := 0) (i := 0) (q := 0) (pc' := 740) (by decide +kernel) rfl rfl ?_
                                      refine sd_iload_n (k := 3) (i := 3) (q := 3) (pc' := 741) (by decide +kernel) rfl rfl ?_
                                      refine sd_iconst (n := 2) (v := 2) (pc' := 742) (by decide +kernel) (by decide) ?_
                                      refine sd_iadd (pc' := 743) (by decide +kernel) ?_
                                      obtain ⟨g179, hf⟩ := gd_some hf
                                      refine sL_ld hE (pc' := 744) (by decide +kernel) g179 ?_
                                      refine sd_aload_n (k := 0) (i := 0) (q := 0) (pc' := 745) (by decide +kernel) rfl rfl ?_
                                      refine sd_iload_n (k := 3) (i := 3) (q := 3) (pc' := 746) (by decide +kernel) rfl rfl ?_
                                      refine sd_iconst (n := 3) (v := 3) (pc' := 747) (by decide +kernel) (by decide) ?_
                                      refine sd_iadd (pc' := 748) (by decide +kernel) ?_
                                      obtain ⟨g180, hf⟩ := gd_some hf
                                      refine sL_ld hE (pc' := 749) (by decide +kernel) g180 ?_
                                      obtain ⟨t182, q181, hf⟩ := b1_some hf
                                      refine sF_callV (idx := 83) (b := 126) (As := [.int (xs ((l3 + 1) : Int32).toNatClampNeg), .int (xs ((l3 + 2) : Int32).toNatClampNeg), .int (xs ((l3 + 3) : Int32).toNatClampNeg)]) (ci := 12) (nn := 47) (pc' := 752) 3 (T_YM_reference (G := G) (h := h)  q181) (by decide +kernel) mv_YM_reference ml_L_83 (by decide +kernel) rfl rfl (Nat.le_of_ble_eq_true rfl) SH_126 rfl (by decide) rfl rfl ?_
                                      refine sd_icmp_eq (off := 713) (tgt := 1465) (pc' := 755) (by decide +kernel) (fun c183 => ?_) (fun c183 => ?_)
                                      · replace hf := ite_p c183 hf
                                        refine sd_J.sub (lo' := [(0, .ref b), (1, .ref (G.1 + 0)), (2, .ref (G.1 + 126)), (3, .int l3)]) [0, 1, 2, 3] rfl ?_
                                        exact J_LW_B1465 hE ih hf
                                      · replace hf := ite_n c183 hf
                                        refine sd_iconst (n := 0) (v := 0) (pc' := 756) (by decide +kernel) (by decide) ?_
                                        have hf := Option.some.inj hf
                                        exact absurd hf (by decide)
                                    · replace hf := ite_n c3_15 hf
                                      by_cases c3_16 : ((xs (l3 : Int32).toNatClampNeg) &&& 63) = 16
                                      · replace hf := ite_p c3_16 hf
                                        refine sd_tswIn (dflt := 1432) (lo0 := 0) (hi0 := 34) (offs := #[155, 198, 221, 274, 308, 371, 394, 417, 430, 453, 496, 559, 602, 635, 648, 681, 724, 767, 830, 863, 916, 959, 1002, 1065, 1088, 1121, 1154, 1197, 1210, 1263, 1316, 1339, 1362, 1395, 1418]) (len := 155) (off := 724) (tgt := 757) (pc' := 188) (by decide +kernel) (by rw [c3_16]; decide) (by rw [c3_16]; decide) (by rw [c3_16]; decide) ?_
                                        refine sd_aload_n (k := 1) (i := 1) (q := 1) (pc' := 758) (by decide +kernel) rfl rfl ?_
                                        refine sd_aload_n (k := 0) (i := 0) (q := 0) (pc' := 759) (by decide +kernel) rfl rfl ?_
                                        refine sd_iload_n (k := 3) (i := 3) (q := 3) (pc' := 760) (by decide +kernel) rfl rfl ?_
                                        refine sd_iconst (n := 1) (v := 1) (pc' := 761) (by decide +kernel) (by decide) ?_
                                        refine sd_iadd (pc' := 762) (by decide +kernel) ?_
                                        obtain ⟨g184, hf⟩ := gd_some hf
                                        refine sL_ld hE (pc' := 763) (by decide +kernel) g184 ?_
                                        refine sd_aload_n (k := 0) (i := 0) (q := 0) (pc' := 764) (by decide +kernel) rfl rfl ?_
                                        refine sd_iload_n (k := 3) (i := 3) (q := 3) (pc' := 765) (by decide +kernel) rfl rfl ?_
                                        refine sd_iconst (n := 2) (v := 2) (pc' := 766) (by decide +kernel) (by decide) ?_
                                        refine sd_iadd (pc' := 767) (by decide +kernel) ?_
                                        obtain ⟨g185, hf⟩ := gd_some hf
                                        refine sL_ld hE (pc' := 768) (by decide +kernel) g185 ?_
                                        refine sd_aload_n (k := 0) (i := 0) (q := 0) (pc' := 769) (by decide +kernel) rfl rfl ?_
                                        refine sd_iload_n (k := 3) (i := 3) (q := 3) (pc' := 770) (by decide +kernel) rfl rfl ?_
                                        refine sd_iconst (n := 3) (v := 3) (pc' := 771) (by decide +kernel) (by decide) ?_
                                        refine sd_iadd (pc' := 772) (by decide +kernel) ?_
                                        obtain ⟨g186, hf⟩ := gd_some hf
                                        refine sL_ld hE (pc' := 773) (by decide +kernel) g186 ?_
                                        obtain ⟨h188, t189, q187, hf⟩ := b2_some hf
                                        refine sF_callV (idx := 84) (b := 0) (As := [.int (xs ((l3 + 1) : Int32).toNatClampNeg), .int (xs ((l3 + 2) : Int32).toNatClampNeg), .int (xs ((l3 + 3) : Int32).toNatClampNeg)]) (ci := 11) (nn := 17) (pc' := 776) 3 (T_XT_section (G := G) (h := h)  q187) (by decide +kernel) mv_XT_section ml_L_84 (by decide +kernel) rfl rfl (Nat.le_of_ble_eq_true rfl) SH_0 rfl (by decide) rfl rfl ?_
                                        refine sd_aload_n (k := 2) (i := 2) (q := 2) (pc' := 777) (by decide +kernel) rfl rfl ?_
                                        refine sd_aload_n (k := 0) (i := 0) (q := 0) (pc' := 778) (by decide +kernel) rfl rfl ?_
                                        refine sd_iload_n (k := 3) (i := 3) (q := 3) (pc' := 779) (by decide +kernel) rfl rfl ?_
                                        refine sd_iconst (n := 1) (v := 1) (pc' := 780) (by decide +kernel) (by decide) ?_
                                        refine sd_iadd (pc' := 781) (by decide +kernel) ?_
                                        obtain ⟨g190, hf⟩ := gd_some hf
                                        refine sL_ld hE (pc' := 782) (by decide +kernel) g190 ?_
                                        refine sd_aload_n (k := 0) (i := 0) (q := 0) (pc' := 783) (by decide +kernel) rfl rfl ?_
                                        refine sd_iload_n (k := 3) (i := 3) (q := 3) (pc' := 784) (by decide +kernel) rfl rfl ?_
                                        refine sd_iconst (n := 2) (v := 2) (pc' := 785) (by decide +kernel) (by decide) ?_
                                        refine sd_iadd (pc' := 786) (by decide +kernel) ?_
                                        obtain ⟨g191, hf⟩ := gd_some hf
                                        refine sL_ld hE (pc' := 787) (by decide +kernel) g191 ?_
                                        refine sd_aload_n (k := 0) (i := 0) (q := 0) (pc' := 788) (by decide +kernel) rfl rfl ?_
                                        refine sd_iload_n (k := 3) (i := 3) (q := 3) (pc' := 789) (by decide +kernel) rfl rfl ?_
                                        refine sd_iconst (n := 3) (v := 3) (pc' := 790) (by decide +kernel) (by decide) ?_
                                        refine sd_iadd (pc' := 791) (by decide +kernel) ?_
                                        obtain ⟨g192, hf⟩ := gd_some hf
                                        refine sL_ld hE (pc' := 792) (by decide +kernel) g192 ?_
                                        obtain ⟨t194, q193, hf⟩ := b1_some hf
                                        refine sF_callV (idx := 87) (b := 126) (As := [.int (xs ((l3 + 1) : Int32).toNatClampNeg), .int (xs ((l3 + 2) : Int32).toNatClampNeg), .int (xs ((l3 + 3) : Int32).toNatClampNeg)]) (ci := 12) (nn := 47) (pc' := 795) 3 (T_YM_section (G := G) (h := h188)  q193) (by decide +kernel) mv_YM_section ml_L_87 (by decide +kernel) rfl rfl (Nat.le_of_ble_eq_true rfl) SH_126 rfl (by decide) rfl rfl ?_
                                        refine sd_icmp_eq (off := 670) (tgt := 1465) (pc' := 798) (by decide +kernel) (fun c195 => ?_) (fun c195 => ?_)
                                        · replace hf := ite_p c195 hf
                                          refine sd_J.sub (lo' := [(0, .ref b), (1, .ref (G.1 + 0)), (2, .ref (G.1 + 126)), (3, .int l3)]) [0, 1, 2, 3] rfl ?_
                                          exact J_LW_B1465 hE ih hf
                                        · replace hf := ite_n c195 hf
                                          refine sd_iconst (n := 0) (v := 0) (pc' := 799) (by decide +kernel) (by decide) ?_
                                          have hf := Option.some.inj hf
                                          exact absurd hf (by decide)
                                      · replace hf := ite_n c3_16 hf
                                        by_cases c3_17 : ((xs (l3 : Int32).toNatClampNeg) &&& 63) = 17
                                        · replace hf := ite_p c3_17 hf
                                          refine sd_tswIn (dflt := 1432) (lo0 := 0) (hi0 := 34) (offs := #[155, 198, 221, 274, 308, 371, 394, 417, 430, 453, 496, 559, 602, 635, 648, 681, 724, 767, 830, 863, 916, 959, 1002, 1065, 1088, 1121, 1154, 1197, 1210, 1263, 1316, 1339, 1362, 1395, 1418]) (len := 155) (off := 767) (tgt := 800) (pc' := 188) (by decide +kernel) (by rw [c3_17]; decide) (by rw [c3_17]; decide) (by rw [c3_17]; decide) ?_
                                          refine sd_aload_n (k := 1) (i := 1) (q := 1) (pc' := 801) (by decide +kernel) rfl rfl ?_
                                          refine sd_aload_n (k := 0) (i := 0) (q := 0) (pc' := 802) (by decide +kernel) rfl rfl ?_
                                          refine sd_iload_n (k := 3) (i := 3) (q := 3) (pc' := 803) (by decide +kernel) rfl rfl ?_
                                          refine sd_iconst (n := 1) (v := 1) (pc' := 804) (by decide +kernel) (by decide) ?_
                                          refine sd_iadd (pc' := 805) (by decide +kernel) ?_
                                          obtain ⟨g196, hf⟩ := gd_some hf
                                          refine sL_ld hE (pc' := 806) (by decide +kernel) g196 ?_
                                          refine sd_aload_n (k := 0) (i := 0) (q := 0) (pc' := 807) (by decide +kernel) rfl rfl ?_
                                          refine sd_iload_n (k := 3) (i := 3) (q := 3) (pc' := 808) (by decide +kernel) rfl rfl ?_
                                          refine sd_iconst (n := 2) (v := 2) (pc' := 809) (by decide +kernel) (by decide) ?_
                                          refine sd_iadd (pc' := 810) (by decide +kernel) ?_
                                          obtain ⟨g197, hf⟩ := gd_some hf
                                          refine sL_ld hE (pc' := 811) (by decide +kernel) g197 ?_
                                          refine sd_aload_n (k := 0) (i := 0) (q := 0) (pc' := 812) (by decide +kernel) rfl rfl ?_
                                          refine sd_iload_n (k := 3) (i := 3) (q := 3) (pc' := 813) (by decide +kernel) rfl rfl ?_
                                          refine sd_iconst (n := 3) (v := 3) (pc' := 814) (by decide +kernel) (by decide) ?_
                                          refine sd_iadd (pc' := 815) (by decide +kernel) ?_
                                          obtain ⟨g198, hf⟩ := gd_some hf
                                          refine sL_ld hE (pc' := 816) (by decide +kernel) g198 ?_
                                          refine sd_aload_n (k := 0) (i := 0) (q := 0) (pc' := 817) (by decide +kernel) rfl rfl ?_
                                          refine sd_iload_n (k := 3) (i := 3) (q := 3) (pc' := 818) (by decide +kernel) rfl rfl ?_
                                          refine sd_iconst (n := 4) (v := 4) (pc' := 819) (by decide +kernel) (by decide) ?_
                                          refine sd_iadd (pc' := 820) (by decide +kernel) ?_
                                          obtain ⟨g199, hf⟩ := gd_some hf
                                          refine sL_ld hE (pc' := 821) (by decide +kernel) g199 ?_
                                          refine sd_aload_n (k := 0) (i := 0) (q := 0) (pc' := 822) (by decide +kernel) rfl rfl ?_
                                          refine sd_iload_n (k := 3) (i := 3) (q := 3) (pc' := 823) (by decide +kernel) rfl rfl ?_
                                          refine sd_iconst (n := 5) (v := 5) (pc' := 824) (by decide +kernel) (by decide) ?_
                                          refine sd_iadd (pc' := 825) (by decide +kernel) ?_
                                          obtain ⟨g200, hf⟩ := gd_some hf
                                          refine sL_ld hE (pc' := 826) (by decide +kernel) g200 ?_
                                          obtain ⟨h202, t203, q201, hf⟩ := b2_some hf
                                          refine sF_callV (idx := 88) (b := 0) (As := [.int (xs ((l3 + 1) : Int32).toNatClampNeg), .int (xs ((l3 + 2) : Int32).toNatClampNeg), .int (xs ((l3 + 3) : Int32).toNatClampNeg), .int (xs ((l3 + 4) : Int32).toNatClampNeg), .int (xs ((l3 + 5) : Int32).toNatClampNeg)]) (ci := 11) (nn := 17) (pc' := 829) 5 (T_XT_meet (G := G) (h := h)  q201) (by decide +kernel) mv_XT_meet ml_L_88 (by decide +kernel) rfl rfl (Nat.le_of_ble_eq_true rfl) SH_0 rfl (by decide) rfl rfl ?_
                                          refine sd_aload_n (k := 2) (i := 2) (q := 2) (pc' := 830) (by decide +kernel) rfl rfl ?_
                                          refine sd_aload_n (k := 0) (i := 0) (q := 0) (pc' := 831) (by decide +kernel) rfl rfl ?_
                                          refine sd_iload_n (k := 3) (i := 3) (q := 3) (pc' := 832) (by decide +kernel) rfl rfl ?_
                                          refine sd_iconst (n := 1) (v := 1) (pc' := 833) (by decide +kernel) (by decide) ?_
                                          refine sd_iadd (pc' := 834) (by decide +kernel) ?_
                                          obtain ⟨g204, hf⟩ := gd_some hf
                                          refine sL_ld hE (pc' := 835) (by decide +kernel) g204 ?_
                                          refine sd_aload_n (k := 0) (i := 0) (q := 0) (pc' := 836) (by decide +kernel) rfl rfl ?_
                                          refine sd_iload_n (k := 3) (i := 3) (q := 3) (pc' := 837) (by decide +kernel) rfl rfl ?_
                                          refine sd_iconst (n := 2) (v := 2) (pc' := 838) (by decide +kernel) (by decide) ?_
                                          refine sd_iadd (pc' := 839) (by decide +kernel) ?_
                                          obtain ⟨g205, hf⟩ := gd_some hf
                                          refine sL_ld hE (pc' := 840) (by decide +kernel) g205 ?_
                                          refine sd_aload_n (k := 0) (i := 0) (q := 0) (pc' := 841) (by decide +kernel) rfl rfl ?_
                                          refine sd_iload_n (k := 3) (i := 3) (q := 3) (pc' := 842) (by decide +kernel) rfl rfl ?_
                                          refine sd_iconst (n := 3) (v := 3) (pc' := 843) (by decide +kernel) (by decide) ?_
                                          refine sd_iadd (pc' := 844) (by decide +kernel) ?_
                                          obtain ⟨g206, hf⟩ := gd_some hf
                                          refine sL_ld hE (pc' := 845) (by decide +kernel) g206 ?_
                                          refine sd_aload_n (k := 0) (i := 0) (q := 0) (pc' := 846) (by decide +kernel) rfl rfl ?_
                                          refine sd_iload_n (k := 3) (i := 3) (q := 3) (pc' := 847) (by decide +kernel) rfl rfl ?_
                                          refine sd_iconst (n := 4) (v := 4) (pc' := 848) (by decide +kernel) (by decide) ?_
                                          refine sd_iadd (pc' := 849) (by decide +kernel) ?_
                                          obtain ⟨g207, hf⟩ := gd_some hf
                                          refine sL_ld hE (pc' := 850) (by decide +kernel) g207 ?_
                                          refine sd_aload_n (k := 0) (i := 0) (q := 0) (pc' := 851) (by decide +kernel) rfl rfl ?_
                                          refine sd_iload_n (k := 3) (i := 3) (q := 3) (pc' := 852) (by decide +kernel) rfl rfl ?_
                                          refine sd_iconst (n := 5) (v := 5) (pc' := 853) (by decide +kernel) (by decide) ?_
                                          refine sd_iadd (pc' := 854) (by decide +kernel) ?_
                                          obtain ⟨g208, hf⟩ := gd_some hf
                                          refine sL_ld hE (pc' := 855) (by decide +kernel) g208 ?_
                                          obtain ⟨t210, q209, hf⟩ := b1_some hf
                                          refine sF_callV (idx := 91) (b := 126) (As := [.int (xs ((l3 + 1) : Int32).toNatClampNeg), .int (xs ((l3 + 2) : Int32).toNatClampNeg), .int (xs ((l3 + 3) : Int32).toNatClampNeg), .int (xs ((l3 + 4) : Int32).toNatClampNeg), .int (xs ((l3 + 5) : Int32).toNatClampNeg)]) (ci := 12) (nn := 47) (pc' := 858) 5 (T_YM_meet (G := G) (h := h202)  q209) (by decide +kernel) mv_YM_meet ml_L_91 (by decide +kernel) rfl rfl (Nat.le_of_ble_eq_true rfl) SH_126 rfl (by decide) rfl rfl ?_
                                          refine sd_icmp_eq (off := 607) (tgt := 1465) (pc' := 861) (by decide +kernel) (fun c211 => ?_) (fun c211 => ?_)
                                          · replace hf := ite_p c211 hf
                                            refine sd_J.sub (lo' := [(0, .ref b), (1, .ref (G.1 + 0)), (2, .ref (G.1 + 126)), (3, .int l3)]) [0, 1, 2, 3] rfl ?_
                                            exact J_LW_B1465 hE ih hf
                                          · replace hf := ite_n c211 hf
                                            refine sd_iconst (n := 0) (v := 0) (pc' := 862) (by decide +kernel) (by decide) ?_
                                            have hf := Option.some.inj hf
                                            exact absurd hf (by decide)
                                        · replace hf := ite_n c3_17 hf
                                          by_cases c3_18 : ((xs (l3 : Int32).toNatClampNeg) &&& 63) = 18
                                          · replace hf := ite_p c3_18 hf
                                            refine sd_tswIn (dflt := 1432) (lo0 := 0) (hi0 := 34) (offs := #[155, 198, 221, 274, 308, 371, 394, 417, 430, 453, 496, 559, 602, 635, 648, 681, 724, 767, 830, 863, 916, 959, 1002, 1065, 1088, 1121, 1154, 1197, 1210, 1263, 1316, 1339, 1362, 1395, 1418]) (len := 155) (off := 830) (tgt := 863) (pc' := 188) (by decide +kernel) (by rw [c3_18]; decide) (by rw [c3_18]; decide) (by rw [c3_18]; decide) ?_
                                            refine sd_aload_n (k := 1) (i := 1) (q := 1) (pc' := 864) (by decide +kernel) rfl rfl ?_
                                            refine sd_aload_n (k := 0) (i := 0) (q := 0) (pc' := 865) (by decide +kernel) rfl rfl ?_
                                            refine sd_iload_n (k := 3) (i := 3) (q := 3) (pc' := 866) (by decide +kernel) rfl rfl ?_
                                            refine sd_iconst (n := 1) (v := 1) (pc' := 867) (by decide +kernel) (by decide) ?_
                                            refine sd_iadd (pc' := 868) (by decide +kernel) ?_
                                            obtain ⟨g212, hf⟩ := gd_some hf
                                            refine sL_ld hE (pc' := 869) (by decide +kernel) g212 ?_
                                            refine sd_aload_n (k := 0) (i := 0) (q := 0) (pc' := 870) (by decide +kernel) rfl rfl ?_
                                            refine sd_iload_n (k := 3) (i := 3) (q := 3) (pc' := 871) (by decide +kernel) rfl rfl ?_
                                            refine sd_iconst (n := 2) (v := 2) (pc' := 872) (by decide +kernel) (by decide) ?_
                                            refine sd_iadd (pc' := 873) (by decide +kernel) ?_
                                            obtain ⟨g213, hf⟩ := gd_some hf
                                            refine sL_ld hE (pc' := 874) (by decide +kernel) g213 ?_
                                            obtain ⟨h215, t216, q214, hf⟩ := b2_some hf
                                            refine sF_callV (idx := 92) (b := 0) (As := [.int (xs ((l3 + 1) : Int32).toNatClampNeg), .int (xs ((l3 + 2) : Int32).toNatClampNeg)]) (ci := 11) (nn := 17) (pc' := 877) 2 (T_XT_kinds (G := G) (h := h)  q214) (by decide +kernel) mv_XT_kinds ml_L_92 (by decide +kernel) rfl rfl (Nat.le_of_ble_eq_true rfl) SH_0 rfl (by decide) rfl rfl ?_
                                            refine sd_aload_n (k := 2) (i := 2) (q := 2) (pc' := 878) (by decide +kernel) rfl rfl ?_
                                            refine sd_aload_n (k := 0) (i := 0) (q := 0) (pc' := 879) (by decide +kernel) rfl rfl ?_
                                            refine sd_iload_n (k := 3) (i := 3) (q := 3) (pc' := 880) (by decide +kernel) rfl rfl ?_
                                            refine sd_iconst (n := 1) (v := 1) (pc' := 881) (by decide +kernel) (by decide) ?_
                                            refine sd_iadd (pc' := 882) (by decide +kernel) ?_
                                            obtain ⟨g217, hf⟩ := gd_some hf
                                            refine sL_ld hE (pc' := 883) (by decide +kernel) g217 ?_
                                            refine sd_aload_n (k := 0) (i := 0) (q := 0) (pc' := 884) (by decide +kernel) rfl rfl ?_
                                            refine sd_iload_n (k := 3) (i := 3) (q := 3) (pc' := 885) (by decide +kernel) rfl rfl ?_
                                            refine sd_iconst (n := 2) (v := 2) (pc' := 886) (by decide +kernel) (by decide) ?_
                                            refine sd_iadd (pc' := 887) (by decide +kernel) ?_
                                            obtain ⟨g218, hf⟩ := gd_some hf
                                            refine sL_ld hE (pc' := 888) (by decide +kernel) g218 ?_
                                            obtain ⟨h220, t221, q219, hf⟩ := b2_some hf
                                            refine sF_callV (idx := 95) (b := 126) (As := [.int (xs ((l3 + 1) : Int32).toNatClampNeg), .int (xs ((l3 + 2) : Int32).toNatClampNeg)]) (ci := 12) (nn := 47) (pc' := 891) 2 (T_YM_kinds (G := G) (h := h215)  q219) (by decide +kernel) mv_YM_kinds ml_L_95 (by decide +kernel) rfl rfl (Nat.le_of_ble_eq_true rfl) SH_126 rfl (by decide) rfl rfl ?_
                                            refine sd_icmp_eq (off := 574) (tgt := 1465) (pc' := 894) (by decide +kernel) (fun c222 => ?_) (fun c222 => ?_)
                                            · replace hf := ite_p c222 hf
                                              refine sd_J.sub (lo' := [(0, .ref b), (1, .ref (G.1 + 0)), (2, .ref (G.1 + 126)), (3, .int l3)]) [0, 1, 2, 3] rfl ?_
                                              exact J_LW_B1465 hE ih hf
                                            · replace hf := ite_n c222 hf
                                              refine sd_iconst (n := 0) (v := 0) (pc' := 895) (by decide +kernel) (by decide) ?_
                                              have hf := Option.some.inj hf
                                              exact absurd hf (by decide)
                                          · replace hf := ite_n c3_18 hf
                                            by_cases c3_19 : ((xs (l3 : Int32).toNatClampNeg) &&& 63) = 19
                                            · replace hf := ite_p c3_19 hf
                                              refine sd_tswIn (dflt := 1432) (lo0 := 0) (hi0 := 34) (offs := #[155, 198, 221, 274, 308, 371, 394, 417, 430, 453, 496, 559, 602, 635, 648, 681, 724, 767, 830, 863, 916, 959, 1002, 1065, 1088, 1121, 1154, 1197, 1210, 1263, 1316, 1339, 1362, 1395, 1418]) (len := 155) (off := 863) (tgt := 896) (pc' := 188) (by decide +kernel) (by rw [c3_19]; decide) (by rw [c3_19]; decide) (by rw [c3_19]; decide) ?_
                                              refine sd_aload_n (k := 1) (i := 1) (q := 1) (pc' := 897) (by decide +kernel) rfl rfl ?_
                                              refine sd_aload_n (k := 0) (i := 0) (q := 0) (pc' := 898) (by decide +kernel) rfl rfl ?_
                                              refine sd_iload_n (k := 3) (i := 3) (q := 3) (pc' := 899) (by decide +kernel) rfl rfl ?_
                                              refine sd_iconst (n := 1) (v := 1) (pc' := 900) (by decide +kernel) (by decide) ?_
                                              refine sd_iadd (pc' := 901) (by decide +kernel) ?_
                                              obtain ⟨g223, hf⟩ := gd_some hf
                                              refine sL_ld hE (pc' := 902) (by decide +kernel) g223 ?_
                                              refine sd_aload_n (k := 0) (i := 0) (q := 0) (pc' := 903) (by decide +kernel) rfl rfl ?_
                                              refine sd_iload_n (k := 3) (i := 3) (q := 3) (pc' := 904) (by decide +kernel) rfl rfl ?_
                                              refine sd_iconst (n := 2) (v := 2) (pc' := 905) (by decide +kernel) (by decide) ?_
                                              refine sd_iadd (pc' := 906) (by decide +kernel) ?_
                                              obtain ⟨g224, hf⟩ := gd_some hf
                                              refine sL_ld hE (pc' := 907) (by decide +kernel) g224 ?_
                                              refine sd_aload_n (k := 0) (i := 0) (q := 0) (pc' := 908) (by decide +kernel) rfl rfl ?_
                                              refine sd_iload_n (k := 3) (i := 3) (q := 3) (pc' := 909) (by decide +kernel) rfl rfl ?_
                                              refine sd_iconst (n := 3) (v := 3) (pc' := 910) (by decide +kernel) (by decide) ?_
                                              refine sd_iadd (pc' := 911) (by decide +kernel) ?_
                                              obtain ⟨g225, hf⟩ := gd_some hf
                                              refine sL_ld hE (pc' := 912) (by decide +kernel) g225 ?_
                                              refine sd_aload_n (k := 0) (i := 0) (q := 0) (pc' := 913) (by decide +kernel) rfl rfl ?_
                                              refine sd_iload_n (k := 3) (i := 3) (q := 3) (pc' := 914) (by decide +kernel) rfl rfl ?_
                                              refine sd_iconst (n := 4) (v := 4) (pc' := 915) (by decide +kernel) (by decide) ?_
                                              refine sd_iadd (pc' := 916) (by decide +kernel) ?_
                                              obtain ⟨g226, hf⟩ := gd_some hf
                                              refine sL_ld hE (pc' := 917) (by decide +kernel) g226 ?_
                                              obtain ⟨h228, t229, q227, hf⟩ := b2_some hf
                                              refine sF_callV (idx := 96) (b := 0) (As := [.int (xs ((l3 + 1) : Int32).toNatClampNeg), .int (xs ((l3 + 2) : Int32).toNatClampNeg), .int (xs ((l3 + 3) : Int32).toNatClampNeg), .int (xs ((l3 + 4) : Int32).toNatClampNeg)]) (ci := 11) (nn := 17) (pc' := 920) 4 (T_XT_kind (G := G) (h := h)  q227) (by decide +kernel) mv_XT_kind ml_L_96 (by decide +kernel) rfl rfl (Nat.le_of_ble_eq_true rfl) SH_0 rfl (by decide) rfl rfl ?_
                                              refine sd_aload_n (k := 2) (i := 2) (q := 2) (pc' := 921) (by decide +kernel) rfl rfl ?_
                                              refine sd_aload_n (k := 0) (i := 0) (q := 0) (pc' := 922) (by decide +kernel) rfl rfl ?_
                                              refine sd_iload_n (k := 3) (i := 3) (q := 3) (pc' := 923) (by decide +kernel) rfl rfl ?_
                                              refine sd_iconst (n := 1) (v := 1) (pc' := 924) (by decide +kernel) (by decide) ?_
                                              refine sd_iadd (pc' := 925) (by decide +kernel) ?_
                                              obtain ⟨g230, hf⟩ := gd_some hf
                                              refine sL_ld hE (pc' := 926) (by decide +kernel) g230 ?_
                                              refine sd_aload_n (k := 0) (i := 0) (q := 0) (pc' := 927) (by decide +kernel) rfl rfl ?_
                                              refine sd_iload_n (k := 3) (i := 3) (q := 3) (pc' := 928) (by decide +kernel) rfl rfl ?_
                                              refine sd_iconst (n := 2) (v := 2) (pc' := 929) (by decide +kernel) (by decide) ?_
                                              refine sd_iadd (pc' := 930) (by decide +kernel) ?_
                                              obtain ⟨g231, hf⟩ := gd_some hf
                                              refine sL_ld hE (pc' := 931) (by decide +kernel) g231 ?_
                                              refine sd_aload_n (k := 0) (i := 0) (q := 0) (pc' := 932) (by decide +kernel) rfl rfl ?_
                                              refine sd_iload_n (k := 3) (i := 3) (q := 3) (pc' := 933) (by decide +kernel) rfl rfl ?_
                                              refine sd_iconst (n := 3) (v := 3) (pc' := 934) (by decide +kernel) (by decide) ?_
                                              refine sd_iadd (pc' := 935) (by decide +kernel) ?_
                                              obtain ⟨g232, hf⟩ := gd_some hf
                                              refine sL_ld hE (pc' := 936) (by decide +kernel) g232 ?_
                                              refine sd_aload_n (k := 0) (i := 0) (q := 0) (pc' := 937) (by decide +kernel) rfl rfl ?_
                                              refine sd_iload_n (k := 3) (i := 3) (q := 3) (pc' := 938) (by decide +kernel) rfl rfl ?_
                                              refine sd_iconst (n := 4) (v := 4) (pc' := 939) (by decide +kernel) (by decide) ?_
                                              refine sd_iadd (pc' := 940) (by decide +kernel) ?_
                                              obtain ⟨g233, hf⟩ := gd_some hf
                                              refine sL_ld hE (pc' := 941) (by decide +kernel) g233 ?_
                                              obtain ⟨h235, t236, q234, hf⟩ := b2_some hf
                                              refine sF_callV (idx := 99) (b := 126) (As := [.int (xs ((l3 + 1) : Int32).toNatClampNeg), .int (xs ((l3 + 2) : Int32).toNatClampNeg), .int (xs ((l3 + 3) : Int32).toNatClampNeg), .int (xs ((l3 + 4) : Int32).toNatClampNeg)]) (ci := 12) (nn := 47) (pc' := 944) 4 (T_YM_kind (G := G) (h := h228)  q234) (by decide +kernel) mv_YM_kind ml_L_99 (by decide +kernel) rfl rfl (Nat.le_of_ble_eq_true rfl) SH_126 rfl (by decide) rfl rfl ?_
                                              refine sd_icmp_eq (off := 521) (tgt := 1465) (pc' := 947) (by decide +kernel) (fun c237 => ?_) (fun c237 => ?_)
                                              · replace hf := ite_p c237 hf
                                                refine sd_J.sub (lo' := [(0, .ref b), (1, .ref (G.1 + 0)), (2, .ref (G.1 + 126)), (3, .int l3)]) [0, 1, 2, 3] rfl ?_
                                                exact J_LW_B1465 hE ih hf
                                              · replace hf := ite_n c237 hf
                                                refine sd_iconst (n := 0) (v := 0) (pc' := 948) (by decide +kernel) (by decide) ?_
                                                have hf := Option.some.inj hf
                                                exact absurd hf (by decide)
                                            · replace hf := ite_n c3_19 hf
                                              by_cases c3_20 : ((xs (l3 : Int32).toNatClampNeg) &&& 63) = 20
                                              · replace hf := ite_p c3_20 hf
                                                refine sd_tswIn (dflt := 1432) (lo0 := 0) (hi0 := 34) (offs := #[155, 198, 221, 274, 308, 371, 394, 417, 430, 453, 496, 559, 602, 635, 648, 681, 724, 767, 830, 863, 916, 959, 1002, 1065, 1088, 1121, 1154, 1197, 1210, 1263, 1316, 1339, 1362, 1395, 1418]) (len := 155) (off := 916) (tgt := 949) (pc' := 188) (by decide +kernel) (by rw [c3_20]; decide) (by rw [c3_20]; decide) (by rw [c3_20]; decide) ?_
                                                refine sd_aload_n (k := 1) (i := 1) (q := 1) (pc' := 950) (by decide +kernel) rfl rfl ?_
                                                refine sd_aload_n (k := 0) (i := 0) (q := 0) (pc' := 951) (by decide +kernel) rfl rfl ?_
                                                refine sd_iload_n (k := 3) (i := 3) (q := 3) (pc' := 952) (by decide +kernel) rfl rfl ?_
                                                refine sd_iconst (n := 1) (v := 1) (pc' := 953) (by decide +kernel) (by decide) ?_
                                                refine sd_iadd (pc' := 954) (by decide +kernel) ?_
                                                obtain ⟨g238, hf⟩ := gd_some hf
                                                refine sL_ld hE (pc' := 955) (by decide +kernel) g238 ?_
                                                refine sd_aload_n (k := 0) (i := 0) (q := 0) (pc' := 956) (by decide +kernel) rfl rfl ?_
                                                refine sd_iload_n (k := 3) (i := 3) (q := 3) (pc' := 957) (by decide +kernel) rfl rfl ?_
                                                refine sd_iconst (n := 2) (v := 2) (pc' := 958) (by decide +kernel) (by decide) ?_
                                                refine sd_iadd (pc' := 959) (by decide +kernel) ?_
                                                obtain ⟨g239, hf⟩ := gd_some hf
                                                refine sL_ld hE (pc' := 960) (by decide +kernel) g239 ?_
                                                refine sd_aload_n (k := 0) (i := 0) (q := 0) (pc' := 961) (by decide +kernel) rfl rfl ?_
                                                refine sd_iload_n (k := 3) (i := 3) (q := 3) (pc' := 962) (by decide +kernel) rfl rfl ?_
                                                refine sd_iconst (n := 3) (v := 3) (pc' := 963) (by decide +kernel) (by decide) ?_
                                                refine sd_iadd (pc' := 964) (by decide +kernel) ?_
                                                obtain ⟨g240, hf⟩ := gd_some hf
                                                refine sL_ld hE (pc' := 965) (by decide +kernel) g240 ?_
                                                obtain ⟨h242, t243, q241, hf⟩ := b2_some hf
                                                refine sF_callV (idx := 100) (b := 0) (As := [.int (xs ((l3 + 1) : Int32).toNatClampNeg), .int (xs ((l3 + 2) : Int32).toNatClampNeg), .int (xs ((l3 + 3) : Int32).toNatClampNeg)]) (ci := 11) (nn := 17) (pc' := 968) 3 (T_XT_many (G := G) (h := h)  q241) (by decide +kernel) mv_XT_many ml_L_100 (by decide +kernel) rfl rfl (Nat.le_of_ble_eq_true rfl) SH_0 rfl (by decide) rfl rfl ?_
                                                refine sd_aload_n (k := 2) (i := 2) (q := 2) (pc' := 969) (by decide +kernel) rfl rfl ?_
                                                refine sd_aload_n (k := 0) (i := 0) (q := 0) (pc' := 970) (by decide +kernel) rfl rfl ?_
                                                refine sd_iload_n (k := 3) (i := 3) (q := 3) (pc' := 971) (by decide +kernel) rfl rfl ?_
                                                refine sd_iconst (n := 1) (v := 1) (pc' := 972) (by decide +kernel) (by decide) ?_
                                                refine sd_iadd (pc' := 973) (by decide +kernel) ?_
                                                obtain ⟨g244, hf⟩ := gd_some hf
                                                refine sL_ld hE (pc' := 974) (by decide +kernel) g244 ?_
                                                refine sd_aload_n (k := 0) (i := 0) (q := 0) (pc' := 975) (by decide +kernel) rfl rfl ?_
                                                refine sd_iload_n (k := 3) (i := 3) (q := 3) (pc' := 976) (by decide +kernel) rfl rfl ?_
                                                refine sd_iconst (n := 2) (v := 2) (pc' := 977) (by decide +kernel) (by decide) ?_
                                                refine sd_iadd (pc' := 978) (by decide +kernel) ?_
                                                obtain ⟨g245, hf⟩ := gd_some hf
                                                refine sL_ld hE (pc' := 979) (by decide +kernel) g245 ?_
                                                refine sd_aload_n (k := 0) (i := 0) (q := 0) (pc' := 980) (by decide +kernel) rfl rfl ?_
                                                refine sd_iload_n (k := 3) (i := 3) (q := 3) (pc' := 981) (by decide +kernel) rfl rfl ?_
                                                refine sd_iconst (n := 3) (v := 3) (pc' := 982) (by decide +kernel) (by decide) ?_
                                                refine sd_iadd (pc' := 983) (by decide +kernel) ?_
                                                obtain ⟨g246, hf⟩ := gd_some hf
                                                refine sL_ld hE (pc' := 984) (by decide +kernel) g246 ?_
                                                obtain ⟨h248, t249, q247, hf⟩ := b2_some hf
                                                refine sF_callV (idx := 103) (b := 126) (As := [.int (xs ((l3 + 1) : Int32).toNatClampNeg), .int (xs ((l3 + 2) : Int32).toNatClampNeg), .int (xs ((l3 + 3) : Int32).toNatClampNeg)]) (ci := 12) (nn := 47) (pc' := 987) 3 (T_YM_many (G := G) (h := h242)  q247) (by decide +kernel) mv_YM_many ml_L_103 (by decide +kernel) rfl rfl (Nat.le_of_ble_eq_true rfl) SH_126 rfl (by decide) rfl rfl ?_
                                                refine sd_icmp_eq (off := 478) (tgt := 1465) (pc' := 990) (by decide +kernel) (fun c250 => ?_) (fun c250 => ?_)
                                                · replace hf := ite_p c250 hf
                                                  refine sd_J.sub (lo' := [(0, .ref b), (1, .ref (G.1 + 0)), (2, .ref (G.1 + 126)), (3, .int l3)]) [0, 1, 2, 3] rfl ?_
                                                  exact J_LW_B1465 hE ih hf
                                                · replace hf := ite_n c250 hf
                                                  refine sd_iconst (n := 0) (v := 0) (pc' := 991) (by decide +kernel) (by decide) ?_
                                                  have hf := Option.some.inj hf
                                                  exact absurd hf (by decide)
                                              · replace hf := ite_n c3_20 hf
                                                by_cases c3_21 : ((xs (l3 : Int32).toNatClampNeg) &&& 63) = 21
                                                · replace hf := ite_p c3_21 hf
                                                  refine sd_tswIn (dflt := 1432) (lo0 := 0) (hi0 := 34) (offs := #[155, 198, 221, 274, 308, 371, 394, 417, 430, 453, 496, 559, 602, 635, 648, 681, 724, 767, 830, 863, 916, 959, 1002, 1065, 1088, 1121, 1154, 1197, 1210, 1263, 1316, 1339, 1362, 1395, 1418]) (len := 155) (off := 959) (tgt := 992) (pc' := 188) (by decide +kernel) (by rw [c3_21]; decide) (by rw [c3_21]; decide) (by rw [c3_21]; decide) ?_
                                                  refine sd_aload_n (k := 1) (i := 1) (q := 1) (pc' := 993) (by decide +kernel) rfl rfl ?_
                                                  refine sd_aload_n (k := 0) (i := 0) (q := 0) (pc' := 994) (by decide +kernel) rfl rfl ?_
                                                  refine sd_iload_n (k := 3) (i := 3) (q := 3) (pc' := 995) (by decide +kernel) rfl rfl ?_
                                                  refine sd_iconst (n := 1) (v := 1) (pc' := 996) (by decide +kernel) (by decide) ?_
                                                  refine sd_iadd (pc' := 997) (by decide +kernel) ?_
                                                  obtain ⟨g251, hf⟩ := gd_some hf
                                                  refine sL_ld hE (pc' := 998) (by decide +kernel) g251 ?_
                                                  refine sd_aload_n (k := 0) (i := 0) (q := 0) (pc' := 999) (by decide +kernel) rfl rfl ?_
                                                  refine sd_iload_n (k := 3) (i := 3) (q := 3) (pc' := 1000) (by decide +kernel) rfl rfl ?_
                                                  refine sd_iconst (n := 2) (v := 2) (pc' := 1001) (by decide +kernel) (by decide) ?_
                                                  refine sd_iadd (pc' := 1002) (by decide +kernel) ?_
                                                  obtain ⟨g252, hf⟩ := gd_some hf
                                                  refine sL_ld hE (pc' := 1003) (by decide +kernel) g252 ?_
                                                  refine sd_aload_n (k := 0) (i := 0) (q := 0) (pc' := 1004) (by decide +kernel) rfl rfl ?_
                                                  refine sd_iload_n (k := 3) (i := 3) (q := 3) (pc' := 1005) (by decide +kernel) rfl rfl ?_
                                                  refine sd_iconst (n := 3) (v := 3) (pc' := 1006) (by decide +kernel) (by decide) ?_
                                                  refine sd_iadd (pc' := 1007) (by decide +kernel) ?_
                                                  obtain ⟨g253, hf⟩ := gd_some hf
                                                  refine sL_ld hE (pc' := 1008) (by decide +kernel) g253 ?_
                                                  obtain ⟨h255, t256, q254, hf⟩ := b2_some hf
                                                  refine sF_callV (idx := 104) (b := 0) (As := [.int (xs ((l3 + 1) : Int32).toNatClampNeg), .int (xs ((l3 + 2) : Int32).toNatClampNeg), .int (xs ((l3 + 3) : Int32).toNatClampNeg)]) (ci := 11) (nn := 17) (pc' := 1011) 3 (T_XT_pieces (G := G) (h := h)  q254) (by decide +kernel) mv_XT_pieces ml_L_104 (by decide +kernel) rfl rfl (Nat.le_of_ble_eq_true rfl) SH_0 rfl (by decide) rfl rfl ?_
                                                  refine sd_aload_n (k := 2) (i := 2) (q := 2) (pc' := 1012) (by decide +kernel) rfl rfl ?_
                                                  refine sd_aload_n (k := 0) (i := 0) (q := 0) (pc' := 1013) (by decide +kernel) rfl rfl ?_
                                                  refine sd_iload_n (k := 3) (i := 3) (q := 3) (pc' := 1014) (by decide +kernel) rfl rfl ?_
                                                  refine sd_iconst (n := 1) (v := 1) (pc' := 1015) (by decide +kernel) (by decide) ?_
                                                  refine sd_iadd (pc' := 1016) (by decide +kernel) ?_
                                                  obtain ⟨g257, hf⟩ := gd_some hf
                                                  refine sL_ld hE (pc' := 1017) (by decide +kernel) g257 ?_
                                                  refine sd_aload_n (k := 0) (i := 0) (q := 0) (pc' := 1018) (by decide +kernel) rfl rfl ?_
                                                  refine sd_iload_n (k := 3) (i := 3) (q := 3) (pc' := 1019) (by decide +kernel) rfl rfl ?_
                                                  refine sd_iconst (n := 2) (v := 2) (pc' := 1020) (by decide +kernel) (by decide) ?_
                                                  refine sd_iadd (pc' := 1021) (by decide +kernel) ?_
                                                  obtain ⟨g258, hf⟩ := gd_some hf
                                                  refine sL_ld hE (pc' := 1022) (by decide +kernel) g258 ?_
                                                  refine sd_aload_n (k := 0) (i := 0) (q := 0) (pc' := 1023) (by decide +kernel) rfl rfl ?_
                                                  refine sd_iload_n (k := 3) (i := 3) (q := 3) (pc' := 1024) (by decide +kernel) rfl rfl ?_
                                                  refine sd_iconst (n := 3) (v := 3) (pc' := 1025) (by decide +kernel) (by decide) ?_
                                                  refine sd_iadd (pc' := 1026) (by decide +kernel) ?_
                                                  obtain ⟨g259, hf⟩ := gd_some hf
                                                  refine sL_ld hE (pc' := 1027) (by decide +kernel) g259 ?_
                                                  obtain ⟨h261, t262, q260, hf⟩ := b2_some hf
                                                  refine sF_callV (idx := 107) (b := 126) (As := [.int (xs ((l3 + 1) : Int32).toNatClampNeg), .int (xs ((l3 + 2) : Int32).toNatClampNeg), .int (xs ((l3 + 3) : Int32).toNatClampNeg)]) (ci := 12) (nn := 47) (pc' := 1030) 3 (T_YM_pieces (G := G) (h := h255)  q260) (by decide +kernel) mv_YM_pieces ml_L_107 (by decide +kernel) rfl rfl (Nat.le_of_ble_eq_true rfl) SH_126 rfl (by decide) rfl rfl ?_
                                                  refine sd_icmp_eq (off := 435) (tgt := 1465) (pc' := 1033) (by decide +kernel) (fun c263 => ?_) (fun c263 => ?_)
                                                  · replace hf := ite_p c263 hf
                                                    refine sd_J.sub (lo' := [(0, .ref b), (1, .ref (G.1 + 0)), (2, .ref (G.1 + 126)), (3, .int l3)]) [0, 1, 2, 3] rfl ?_
                                                    exact J_LW_B1465 hE ih hf
                                                  · replace hf := ite_n c263 hf
                                                    refine sd_iconst (n := 0) (v := 0) (pc' := 1034) (by decide +kernel) (by decide) ?_
                                                    have hf := Option.some.inj hf
                                                    exact absurd hf (by decide)
                                                · replace hf := ite_n c3_21 hf
                                                  by_cases c3_22 : ((xs (l3 : Int32).toNatClampNeg) &&& 63) = 22
                                                  · replace hf := ite_p c3_22 hf
                                                    refine sd_tswIn (dflt := 1432) (lo0 := 0) (hi0 := 34) (offs := #[155, 198, 221, 274, 308, 371, 394, 417, 430, 453, 496, 559, 602, 635, 648, 681, 724, 767, 830, 863, 916, 959, 1002, 1065, 1088, 1121, 1154, 1197, 1210, 1263, 1316, 1339, 1362, 1395, 1418]) (len := 155) (off := 1002) (tgt := 1035) (pc' := 188) (by decide +kernel) (by rw [c3_22]; decide) (by rw [c3_22]; decide) (by rw [c3_22]; decide) ?_
                                                    refine sd_aload_n (k := 1) (i := 1) (q := 1) (pc' := 1036) (by decide +kernel) rfl rfl ?_
                                                    refine sd_aload_n (k := 0) (i := 0) (q := 0) (pc' := 1037) (by decide +kernel) rfl rfl ?_
                                                    refine sd_iload_n (k := 3) (i := 3) (q := 3) (pc' := 1038) (by decide +kernel) rfl rfl ?_
                                                    refine sd_iconst (n := 1) (v := 1) (pc' := 1039) (by decide +kernel) (by decide) ?_
                                                    refine sd_iadd (pc' := 1040) (by decide +kernel) ?_
                                                    obtain ⟨g264, hf⟩ := gd_some hf
                                                    refine sL_ld hE (pc' := 1041) (by decide +kernel) g264 ?_
                                                    refine sd_aload_n (k := 0) (i := 0) (q := 0) (pc' := 1042) (by decide +kernel) rfl rfl ?_
                                                    refine sd_iload_n (k := 3) (i := 3) (q := 3) (pc' := 1043) (by decide +kernel) rfl rfl ?_
                                                    refine sd_iconst (n := 2) (v := 2) (pc' := 1044) (by decide +kernel) (by decide) ?_
                                                    refine sd_iadd (pc' := 1045) (by decide +kernel) ?_
                                                    obtain ⟨g265, hf⟩ := gd_some hf
                                                    refine sL_ld hE (pc' := 1046) (by decide +kernel) g265 ?_
                                                    refine sd_aload_n (k := 0) (i := 0) (q := 0) (pc' := 1047) (by decide +kernel) rfl rfl ?_
                                                    refine sd_iload_n (k := 3) (i := 3) (q := 3) (pc' := 1048) (by decide +kernel) rfl rfl ?_
                                                    refine sd_iconst (n := 3) (v := 3) (pc' := 1049) (by decide +kernel) (by decide) ?_
                                                    refine sd_iadd (pc' := 1050) (by decide +kernel) ?_
                                                    obtain ⟨g266, hf⟩ := gd_some hf
                                                    refine sL_ld hE (pc' := 1051) (by decide +kernel) g266 ?_
                                                    refine sd_aload_n (k := 0) (i := 0) (q := 0) (pc' := 1052) (by decide +kernel) rfl rfl ?_
                                                    refine sd_iload_n (k := 3) (i := 3) (q := 3) (pc' := 1053) (by decide +kernel) rfl rfl ?_
                                                    refine sd_iconst (n := 4) (v := 4) (pc' := 1054) (by decide +kernel) (by decide) ?_
                                                    refine sd_iadd (pc' := 1055) (by decide +kernel) ?_
                                                    obtain ⟨g267, hf⟩ := gd_some hf
                                                    refine sL_ld hE (pc' := 1056) (by decide +kernel) g267 ?_
                                                    refine sd_aload_n (k := 0) (i := 0) (q := 0) (pc' := 1057) (by decide +kernel) rfl rfl ?_
                                                    refine sd_iload_n (k := 3) (i := 3) (q := 3) (pc' := 1058) (by decide +kernel) rfl rfl ?_
                                                    refine sd_iconst (n := 5) (v := 5) (pc' := 1059) (by decide +kernel) (by decide) ?_
                                                    refine sd_iadd (pc' := 1060) (by decide +kernel) ?_
                                                    obtain ⟨g268, hf⟩ := gd_some hf
                                                    refine sL_ld hE (pc' := 1061) (by decide +kernel) g268 ?_
                                                    obtain ⟨h270, t271, q269, hf⟩ := b2_some hf
                                                    refine sF_callV (idx := 108) (b := 0) (As := [.int (xs ((l3 + 1) : Int32).toNatClampNeg), .int (xs ((l3 + 2) : Int32).toNatClampNeg), .int (xs ((l3 + 3) : Int32).toNatClampNeg), .int (xs ((l3 + 4) : Int32).toNatClampNeg), .int (xs ((l3 + 5) : Int32).toNatClampNeg)]) (ci := 11) (nn := 17) (pc' := 1064) 5 (T_XT_piece (G := G) (h := h)  q269) (by decide +kernel) mv_XT_piece ml_L_108 (by decide +kernel) rfl rfl (Nat.le_of_ble_eq_true rfl) SH_0 rfl (by decide) rfl rfl ?_
                                                    refine sd_aload_n (k := 2) (i := 2) (q := 2) (pc' := 1065) (by decide +kernel) rfl rfl ?_
                                                    refine sd_aload_n (k := 0) (i := 0) (q := 0) (pc' := 1066) (by decide +kernel) rfl rfl ?_
                                                    refine sd_iload_n (k := 3) (i := 3) (q := 3) (pc' := 1067) (by decide +kernel) rfl rfl ?_
                                                    refine sd_iconst (n := 1) (v := 1) (pc' := 1068) (by decide +kernel) (by decide) ?_
                                                    refine sd_iadd (pc' := 1069) (by decide +kernel) ?_
                                                    obtain ⟨g272, hf⟩ := gd_some hf
                                                    refine sL_ld hE (pc' := 1070) (by decide +kernel) g272 ?_
                                                    refine sd_aload_n (k := 0) (i := 0) (q := 0) (pc' := 1071) (by decide +kernel) rfl rfl ?_
                                                    refine sd_iload_n (k := 3) (i := 3) (q := 3) (pc' := 1072) (by decide +kernel) rfl rfl ?_
                                                    refine sd_iconst (n := 2) (v := 2) (pc' := 1073) (by decide +kernel) (by decide) ?_
                                                    refine sd_iadd (pc' := 1074) (by decide +kernel) ?_
                                                    obtain ⟨g273, hf⟩ := gd_some hf
                                                    refine sL_ld hE (pc' := 1075) (by decide +kernel) g273 ?_
                                                    refine sd_aload_n (k := 0) (i := 0) (q := 0) (pc' := 1076) (by decide +kernel) rfl rfl ?_
                                                    refine sd_iload_n (k := 3) (i := 3) (q := 3) (pc' := 1077) (by decide +kernel) rfl rfl ?_
                                                    refine sd_iconst (n := 3) (v := 3) (pc' := 1078) (by decide +kernel) (by decide) ?_
                                                    refine sd_iadd (pc' := 1079) (by decide +kernel) ?_
                                                    obtain ⟨g274, hf⟩ := gd_some hf
                                                    refine sL_ld hE (pc' := 1080) (by decide +kernel) g274 ?_
                                                    refine sd_aload_n (k := 0) (i := 0) (q := 0) (pc' := 1081) (by decide +kernel) rfl rfl ?_
                                                    refine sd_iload_n (k := 3) (i := 3) (q := 3) (pc' := 1082) (by decide +kernel) rfl rfl ?_
                                                    refine sd_iconst (n := 4) (v := 4) (pc' := 1083) (by decide +kernel) (by decide) ?_
                                                    refine sd_iadd (pc' := 1084) (by decide +kernel) ?_
                                                    obtain ⟨g275, hf⟩ := gd_some hf
                                                    refine sL_ld hE (pc' := 1085) (by decide +kernel) g275 ?_
                                                    refine sd_aload_n (k := 0) (i := 0) (q := 0) (pc' := 1086) (by decide +kernel) rfl rfl ?_
                                                    refine sd_iload_n (k := 3) (i := 3) (q := 3) (pc' := 1087) (by decide +kernel) rfl rfl ?_
                                                    refine sd_iconst (n := 5) (v := 5) (pc' := 1088) (by decide +kernel) (by decide) ?_
                                                    refine sd_iadd (pc' := 1089) (by decide +kernel) ?_
                                                    obtain ⟨g276, hf⟩ := gd_some hf
                                                    refine sL_ld hE (pc' := 1090) (by decide +kernel) g276 ?_
                                                    obtain ⟨h278, t279, q277, hf⟩ := b2_some hf
                                                    refine sF_callV (idx := 111) (b := 126) (As := [.int (xs ((l3 + 1) : Int32).toNatClampNeg), .int (xs ((l3 + 2) : Int32).toNatClampNeg), .int (xs ((l3 + 3) : Int32).toNatClampNeg), .int (xs ((l3 + 4) : Int32).toNatClampNeg), .int (xs ((l3 + 5) : Int32).toNatClampNeg)]) (ci := 12) (nn := 47) (pc' := 1093) 5 (T_YM_piece (G := G) (h := h270)  q277) (by decide +kernel) mv_YM_piece ml_L_111 (by decide +kernel) rfl rfl (Nat.le_of_ble_eq_true rfl) SH_126 rfl (by decide) rfl rfl ?_
                                                    refine sd_icmp_eq (off := 372) (tgt := 1465) (pc' := 1096) (by decide +kernel) (fun c280 => ?_) (fun c280 => ?_)
                                                    · replace hf := ite_p c280 hf
                                                      refine sd_J.sub (lo' := [(0, .ref b), (1, .ref (G.1 + 0)), (2, .ref (G.1 + 126)), (3, .int l3)]) [0, 1, 2, 3] rfl ?_
                                                      exact J_LW_B1465 hE ih hf
                                                    · replace hf := ite_n c280 hf
                                                      refine sd_iconst (n := 0) (v := 0) (pc' := 1097) (by decide +kernel) (by decide) ?_
                                                      have hf := Option.some.inj hf
                                                      exact absurd hf (by decide)
                                                  · replace hf := ite_n c3_22 hf
                                                    by_cases c3_23 : ((xs (l3 : Int32).toNatClampNeg) &&& 63) = 23
                                                    · replace hf := ite_p c3_23 hf
                                                      refine sd_tswIn (dflt := 1432) (lo0 := 0) (hi0 := 34) (offs := #[155, 198, 221, 274, 308, 371, 394, 417, 430, 453, 496, 559, 602, 635, 648, 681, 724, 767, 830, 863, 916, 959, 1002, 1065, 1088, 1121, 1154, 1197, 1210, 1263, 1316, 1339, 1362, 1395, 1418]) (len := 155) (off := 1065) (tgt := 1098) (pc' := 188) (by decide +kernel) (by rw [c3_23]; decide) (by rw [c3_23]; decide) (by rw [c3_23]; decide) ?_
                                                      refine sd_aload_n (k := 1) (i := 1) (q := 1) (pc' := 1099) (by decide +kernel) rfl rfl ?_
                                                      refine sd_aload_n (k := 0) (i := 0) (q := 0) (pc' := 1100) (by decide +kernel) rfl rfl ?_
                                                      refine sd_iload_n (k := 3) (i := 3) (q := 3) (pc' := 1101) (by decide +kernel) rfl rfl ?_
                                                      refine sd_iconst (n := 1) (v := 1) (pc' := 1102) (by decide +kernel) (by decide) ?_
                                                      refine sd_iadd (pc' := 1103) (by decide +kernel) ?_
                                                      obtain ⟨g281, hf⟩ := gd_some hf
                                                      refine sL_ld hE (pc' := 1104) (by decide +kernel) g281 ?_
                                                      obtain ⟨h283, t284, q282, hf⟩ := b2_some hf
                                                      refine sF_callV (idx := 112) (b := 0) (As := [.int (xs ((l3 + 1) : Int32).toNatClampNeg)]) (ci := 11) (nn := 17) (pc' := 1107) 1 (T_XT_verdict (G := G) (h := h)  q282) (by decide +kernel) mv_XT_verdict ml_L_112 (by decide +kernel) rfl rfl (Nat.le_of_ble_eq_true rfl) SH_0 rfl (by decide) rfl rfl ?_
                                                      refine sd_aload_n (k := 2) (i := 2) (q := 2) (pc' := 1108) (by decide +kernel) rfl rfl ?_
                                                      refine sd_aload_n (k := 0) (i := 0) (q := 0) (pc' := 1109) (by decide +kernel) rfl rfl ?_
                                                      refine sd_iload_n (k := 3) (i := 3) (q := 3) (pc' := 1110) (by decide +kernel) rfl rfl ?_
                                                      refine sd_iconst (n := 1) (v := 1) (pc' := 1111) (by decide +kernel) (by decide) ?_
                                                      refine sd_iadd (pc' := 1112) (by decide +kernel) ?_
                                                      obtain ⟨g285, hf⟩ := gd_some hf
                                                      refine sL_ld hE (pc' := 1113) (by decide +kernel) g285 ?_
                                                      obtain ⟨h287, t288, q286, hf⟩ := b2_some hf
                                                      refine sF_callV (idx := 115) (b := 126) (As := [.int (xs ((l3 + 1) : Int32).toNatClampNeg)]) (ci := 12) (nn := 47) (pc' := 1116) 1 (T_YM_verdict (G := G) (h := h283)  q286) (by decide +kernel) mv_YM_verdict ml_L_115 (by decide +kernel) rfl rfl (Nat.le_of_ble_eq_true rfl) SH_126 rfl (by decide) rfl rfl ?_
                                                      refine sd_icmp_eq (off := 349) (tgt := 1465) (pc' := 1119) (by decide +kernel) (fun c289 => ?_) (fun c289 => ?_)
                                                      · replace hf := ite_p c289 hf
                                                        refine sd_J.sub (lo' := [(0, .ref b), (1, .ref (G.1 + 0)), (2, .ref (G.1 + 126)), (3, .int l3)]) [0, 1, 2, 3] rfl ?_
                                                        exact J_LW_B1465 hE ih hf
                                                      · replace hf := ite_n c289 hf
                                                        refine sd_iconst (n := 0) (v := 0) (pc' := 1120) (by decide +kernel) (by decide) ?_
                                                        have hf := Option.some.inj hf
                                                        exact absurd hf (by decide)
                                                    · replace hf := ite_n c3_23 hf
                                                      by_cases c3_24 : ((xs (l3 : Int32).toNatClampNeg) &&& 63) = 24
                                                      · replace hf := ite_p c3_24 hf
                                                        refine sd_tswIn (dflt := 1432) (lo0 := 0) (hi0 := 34) (offs := #[155, 198, 221, 274, 308, 371, 394, 417, 430, 453, 496, 559, 602, 635, 648, 681, 724, 767, 830, 863, 916, 959, 1002, 1065, 1088, 1121, 1154, 1197, 1210, 1263, 1316, 1339, 1362, 1395, 1418]) (len := 155) (off := 1088) (tgt := 1121) (pc' := 188) (by decide +kernel) (by rw [c3_24]; decide) (by rw [c3_24]; decide) (by rw [c3_24]; decide) ?_
                                                        refine sd_aload_n (k := 1) (i := 1) (q := 1) (pc' := 1122) (by decide +kernel) rfl rfl ?_
                                                        refine sd_aload_n (k := 0) (i := 0) (q := 0) (pc' := 1123) (by decide +kernel) rfl rfl ?_
                                                        refine sd_iload_n (k := 3) (i := 3) (q := 3) (pc' := 1124) (by decide +kernel) rfl rfl ?_
                                                        refine sd_iconst (n := 1) (v := 1) (pc' := 1125) (by decide +kernel) (by decide) ?_
                                                        refine sd_iadd (pc' := 1126) (by decide +kernel) ?_
                                                        obtain ⟨g290, hf⟩ := gd_some hf
                                                        refine sL_ld hE (pc' := 1127) (by decide +kernel) g290 ?_
                                                        refine sd_aload_n (k := 0) (i := 0) (q := 0) (pc' := 1128) (by decide +kernel) rfl rfl ?_
                                                        refine sd_iload_n (k := 3) (i := 3) (q := 3) (pc' := 1129) (by decide +kernel) rfl rfl ?_
                                                        refine sd_iconst (n := 2) (v := 2) (pc' := 1130) (by decide +kernel) (by decide) ?_
                                                        refine sd_iadd (pc' := 1131) (by decide +kernel) ?_
                                                        obtain ⟨g291, hf⟩ := gd_some hf
                                                        refine sL_ld hE (pc' := 1132) (by decide +kernel) g291 ?_
                                                        obtain ⟨h293, t294, q292, hf⟩ := b2_some hf
                                                        refine sF_callV (idx := 116) (b := 0) (As := [.int (xs ((l3 + 1) : Int32).toNatClampNeg), .int (xs ((l3 + 2) : Int32).toNatClampNeg)]) (ci := 11) (nn := 17) (pc' := 1135) 2 (T_XT_would (G := G) (h := h)  q292) (by decide +kernel) mv_XT_would ml_L_116 (by decide +kernel) rfl rfl (Nat.le_of_ble_eq_true rfl) SH_0 rfl (by decide) rfl rfl ?_
                                                        refine sd_aload_n (k := 2) (i := 2) (q := 2) (pc' := 1136) (by decide +kernel) rfl rfl ?_
                                                        refine sd_aload_n (k := 0) (i := 0) (q := 0) (pc' := 1137) (by decide +kernel) rfl rfl ?_
                                                        refine sd_iload_n (k := 3) (i := 3) (q := 3) (pc' := 1138) (by decide +kernel) rfl rfl ?_
                                                        refine sd_iconst (n := 1) (v := 1) (pc' := 1139) (by decide +kernel) (by decide) ?_
                                                        refine sd_iadd (pc' := 1140) (by decide +kernel) ?_
                                                        obtain ⟨g295, hf⟩ := gd_some hf
                                                        refine sL_ld hE (pc' := 1141) (by decide +kernel) g295 ?_
                                                        refine sd_aload_n (k := 0) (i := 0) (q := 0) (pc' := 1142) (by decide +kernel) rfl rfl ?_
                                                        refine sd_iload_n (k := 3) (i := 3) (q := 3) (pc' := 1143) (by decide +kernel) rfl rfl ?_
                                                        refine sd_iconst (n := 2) (v := 2) (pc' := 1144) (by decide +kernel) (by decide) ?_
                                                        refine sd_iadd (pc' := 1145) (by decide +kernel) ?_
                                                        obtain ⟨g296, hf⟩ := gd_some hf
                                                        refine sL_ld hE (pc' := 1146) (by decide +kernel) g296 ?_
                                                        obtain ⟨h298, t299, q297, hf⟩ := b2_some hf
                                                        refine sF_callV (idx := 119) (b := 126) (As := [.int (xs ((l3 + 1) : Int32).toNatClampNeg), .int (xs ((l3 + 2) : Int32).toNatClampNeg)]) (ci := 12) (nn := 47) (pc' := 1149) 2 (T_YM_would (G := G) (h := h293)  q297) (by decide +kernel) mv_YM_would ml_L_119 (by decide +kernel) rfl rfl (Nat.le_of_ble_eq_true rfl) SH_126 rfl (by decide) rfl rfl ?_
                                                        refine sd_icmp_eq (off := 316) (tgt := 1465) (pc' := 1152) (by decide +kernel) (fun c300 => ?_) (fun c300 => ?_)
                                                        · replace hf := ite_p c300 hf
                                                          refine sd_J.sub (lo' := [(0, .ref b), (1, .ref (G.1 + 0)), (2, .ref (G.1 + 126)), (3, .int l3)]) [0, 1, 2, 3] rfl ?_
                                                          exact J_LW_B1465 hE ih hf
                                                        · replace hf := ite_n c300 hf
                                                          refine sd_iconst (n := 0) (v := 0) (pc' := 1153) (by decide +kernel) (by decide) ?_
                                                          have hf := Option.some.inj hf
                                                          exact absurd hf (by decide)
                                                      · replace hf := ite_n c3_24 hf
                                                        by_cases c3_25 : ((xs (l3 : Int32).toNatClampNeg) &&& 63) = 25
                                                        · replace hf := ite_p c3_25 hf
                                                          refine sd_tswIn (dflt := 1432) (lo0 := 0) (hi0 := 34) (offs := #[155, 198, 221, 274, 308, 371, 394, 417, 430, 453, 496, 559, 602, 635, 648, 681, 724, 767, 830, 863, 916, 959, 1002, 1065, 1088, 1121, 1154, 1197, 1210, 1263, 1316, 1339, 1362, 1395, 1418]) (len := 155) (off := 1121) (tgt := 1154) (pc' := 188) (by decide +kernel) (by rw [c3_25]; decide) (by rw [c3_25]; decide) (by rw [c3_25]; decide) ?_
                                                          refine sd_aload_n (k := 1) (i := 1) (q := 1) (pc' := 1155) (by decide +kernel) rfl rfl ?_
                                                          refine sd_aload_n (k := 0) (i := 0) (q := 0) (pc' := 1156) (by decide +kernel) rfl rfl ?_
                                                          refine sd_iload_n (k := 3) (i := 3) (q := 3) (pc' := 1157) (by decide +kernel) rfl rfl ?_
                                                          refine sd_iconst (n := 1) (v := 1) (pc' := 1158) (by decide +kernel) (by decide) ?_
                                                          refine sd_iadd (pc' := 1159) (by decide +kernel) ?_
                                                          obtain ⟨g301, hf⟩ := gd_some hf
                                                          refine sL_ld hE (pc' := 1160) (by decide +kernel) g301 ?_
                                                          refine sd_aload_n (k := 0) (i := 0) (q := 0) (pc' := 1161) (by decide +kernel) rfl rfl ?_
                                                          refine sd_iload_n (k := 3) (i := 3) (q := 3) (pc' := 1162) (by decide +kernel) rfl rfl ?_
                                                          refine sd_iconst (n := 2) (v := 2) (pc' := 1163) (by decide +kernel) (by decide) ?_
                                                          refine sd_iadd (pc' := 1164) (by decide +kernel) ?_
                                                          obtain ⟨g302, hf⟩ := gd_some hf
                                                          refine sL_ld hE (pc' := 1165) (by decide +kernel) g302 ?_
                                                          obtain ⟨h304, t305, q303, hf⟩ := b2_some hf
                                                          refine sF_callV (idx := 120) (b := 0) (As := [.int (xs ((l3 + 1) : Int32).toNatClampNeg), .int (xs ((l3 + 2) : Int32).toNatClampNeg)]) (ci := 11) (nn := 17) (pc' := 1168) 2 (T_XT_witness (G := G) (h := h)  q303) (by decide +kernel) mv_XT_witness ml_L_120 (by decide +kernel) rfl rfl (Nat.le_of_ble_eq_true rfl) SH_0 rfl (by decide) rfl rfl ?_
                                                          refine sd_aload_n (k := 2) (i := 2) (q := 2) (pc' := 1169) (by decide +kernel) rfl rfl ?_
                                                          refine sd_aload_n (k := 0) (i := 0) (q := 0) (pc' := 1170) (by decide +kernel) rfl rfl ?_
                                                          refine sd_iload_n (k := 3) (i := 3) (q := 3) (pc' := 1171) (by decide +kernel) rfl rfl ?_
                                                          refine sd_iconst (n := 1) (v := 1) (pc' := 1172) (by decide +kernel) (by decide) ?_
                                                          refine sd_iadd (pc' := 1173) (by decide +kernel) ?_
                                                          obtain ⟨g306, hf⟩ := gd_some hf
                                                          refine sL_ld hE (pc' := 1174) (by decide +kernel) g306 ?_
                                                          refine sd_aload_n (k := 0) (i := 0) (q := 0) (pc' := 1175) (by decide +kernel) rfl rfl ?_
                                                          refine sd_iload_n (k := 3) (i := 3) (q := 3) (pc' := 1176) (by decide +kernel) rfl rfl ?_
                                                          refine sd_iconst (n := 2) (v := 2) (pc' := 1177) (by decide +kernel) (by decide) ?_
                                                          refine sd_iadd (pc' := 1178) (by decide +kernel) ?_
                                                          obtain ⟨g307, hf⟩ := gd_some hf
                                                          refine sL_ld hE (pc' := 1179) (by decide +kernel) g307 ?_
                                                          obtain ⟨h309, t310, q308, hf⟩ := b2_some hf
                                                          refine sF_callV (idx := 123) (b := 126) (As := [.int (xs ((l3 + 1) : Int32).toNatClampNeg), .int (xs ((l3 + 2) : Int32).toNatClampNeg)]) (ci := 12) (nn := 47) (pc' := 1182) 2 (T_YM_witness (G := G) (h := h304)  q308) (by decide +kernel) mv_YM_witness ml_L_123 (by decide +kernel) rfl rfl (Nat.le_of_ble_eq_true rfl) SH_126 rfl (by decide) rfl rfl ?_
                                                          refine sd_icmp_eq (off := 283) (tgt := 1465) (pc' := 1185) (by decide +kernel) (fun c311 => ?_) (fun c311 => ?_)
                                                          · replace hf := ite_p c311 hf
                                                            refine sd_J.sub (lo' := [(0, .ref b), (1, .ref (G.1 + 0)), (2, .ref (G.1 + 126)), (3, .int l3)]) [0, 1, 2, 3] rfl ?_
                                                            exact J_LW_B1465 hE ih hf
                                                          · replace hf := ite_n c311 hf
                                                            refine sd_iconst (n := 0) (v := 0) (pc' := 1186) (by decide +kernel) (by decide) ?_
                                                            have hf := Option.some.inj hf
                                                            exact absurd hf (by decide)
                                                        · replace hf := ite_n c3_25 hf
                                                          by_cases c3_26 : ((xs (l3 : Int32).toNatClampNeg) &&& 63) = 26
                                                          · replace hf := ite_p c3_26 hf
                                                            refine sd_tswIn (dflt := 1432) (lo0 := 0) (hi0 := 34) (offs := #[155, 198, 221, 274, 308, 371, 394, 417, 430, 453, 496, 559, 602, 635, 648, 681, 724, 767, 830, 863, 916, 959, 1002, 1065, 1088, 1121, 1154, 1197, 1210, 1263, 1316, 1339, 1362, 1395, 1418]) (len := 155) (off := 1154) (tgt := 1187) (pc' := 188) (by decide +kernel) (by rw [c3_26]; decide) (by rw [c3_26]; decide) (by rw [c3_26]; decide) ?_
                                                            refine sd_aload_n (k := 1) (i := 1) (q := 1) (pc' := 1188) (by decide +kernel) rfl rfl ?_
                                                            refine sd_aload_n (k := 0) (i := 0) (q := 0) (pc' := 1189) (by decide +kernel) rfl rfl ?_
                                                            refine sd_iload_n (k := 3) (i := 3) (q := 3) (pc' := 1190) (by decide +kernel) rfl rfl ?_
                                                            refine sd_iconst (n := 1) (v := 1) (pc' := 1191) (by decide +kernel) (by decide) ?_
                                                            refine sd_iadd (pc' := 1192) (by decide +kernel) ?_
                                                            obtain ⟨g312, hf⟩ := gd_some hf
                                                            refine sL_ld hE (pc' := 1193) (by decide +kernel) g312 ?_
                                                            refine sd_aload_n (k := 0) (i := 0) (q := 0) (pc' := 1194) (by decide +kernel) rfl rfl ?_
                                                            refine sd_iload_n (k := 3) (i := 3) (q := 3) (pc' := 1195) (by decide +kernel) rfl rfl ?_
                                                            refine sd_iconst (n := 2) (v := 2) (pc' := 1196) (by decide +kernel) (by decide) ?_
                                                            refine sd_iadd (pc' := 1197) (by decide +kernel) ?_
                                                            obtain ⟨g313, hf⟩ := gd_some hf
                                                            refine sL_ld hE (pc' := 1198) (by decide +kernel) g313 ?_
                                                            refine sd_aload_n (k := 0) (i := 0) (q := 0) (pc' := 1199) (by decide +kernel) rfl rfl ?_
                                                            refine sd_iload_n (k := 3) (i := 3) (q := 3) (pc' := 1200) (by decide +kernel) rfl rfl ?_
                                                            refine sd_iconst (n := 3) (v := 3) (pc' := 1201) (by decide +kernel) (by decide) ?_
                                                            refine sd_iadd (pc' := 1202) (by decide +kernel) ?_
                                                            obtain ⟨g314, hf⟩ := gd_some hf
                                                            refine sL_ld hE (pc' := 1203) (by decide +kernel) g314 ?_
                                                            obtain ⟨h316, t317, q315, hf⟩ := b2_some hf
                                                            refine sF_callV (idx := 124) (b := 0) (As := [.int (xs ((l3 + 1) : Int32).toNatClampNeg), .int (xs ((l3 + 2) : Int32).toNatClampNeg), .int (xs ((l3 + 3) : Int32).toNatClampNeg)]) (ci := 11) (nn := 17) (pc' := 1206) 3 (T_XT_last (G := G) (h := h)  q315) (by decide +kernel) mv_XT_last ml_L_124 (by decide +kernel) rfl rfl (Nat.le_of_ble_eq_true rfl) SH_0 rfl (by decide) rfl rfl ?_
                                                            refine sd_aload_n (k := 2) (i := 2) (q := 2) (pc' := 1207) (by decide +kernel) rfl rfl ?_
                                                            refine sd_aload_n (k := 0) (i := 0) (q := 0) (pc' := 1208) (by decide +kernel) rfl rfl ?_
                                                            refine sd_iload_n (k := 3) (i := 3) (q := 3) (pc' := 1209) (by decide +kernel) rfl rfl ?_
                                                            refine sd_iconst (n := 1) (v := 1) (pc' := 1210) (by decide +kernel) (by decide) ?_
                                                            refine sd_iadd (pc' := 1211) (by decide +kernel) ?_
                                                            obtain ⟨g318, hf⟩ := gd_some hf
                                                            refine sL_ld hE (pc' := 1212) (by decide +kernel) g318 ?_
                                                            refine sd_aload_n (k := 0) (i := 0) (q := 0) (pc' := 1213) (by decide +kernel) rfl rfl ?_
                                                            refine sd_iload_n (k := 3) (i := 3) (q := 3) (pc' := 1214) (by decide +kernel) rfl rfl ?_
                                                            refine sd_iconst (n := 2) (v := 2) (pc' := 1215) (by decide +kernel) (by decide) ?_
                                                            refine sd_iadd (pc' := 1216) (by decide +kernel) ?_
                                                            obtain ⟨g319, hf⟩ := gd_some hf
                                                            refine sL_ld hE (pc' := 1217) (by decide +kernel) g319 ?_
                                                            refine sd_aload_n (k := 0) (i := 0) (q := 0) (pc' := 1218) (by decide +kernel) rfl rfl ?_
                                                            refine sd_iload_n (k := 3) (i := 3) (q := 3) (pc' := 1219) (by decide +kernel) rfl rfl ?_
                                                            refine sd_iconst (n := 3) (v := 3) (pc' := 1220) (by decide +kernel) (by decide) ?_
                                                            refine sd_iadd (pc' := 1221) (by decide +kernel) ?_
                                                            obtain ⟨g320, hf⟩ := gd_some hf
                                                            refine sL_ld hE (pc' := 1222) (by decide +kernel) g320 ?_
                                                            obtain ⟨h322, t323, q321, hf⟩ := b2_some hf
                                                            refine sF_callV (idx := 127) (b := 126) (As := [.int (xs ((l3 + 1) : Int32).toNatClampNeg), .int (xs ((l3 + 2) : Int32).toNatClampNeg), .int (xs ((l3 + 3) : Int32).toNatClampNeg)]) (ci := 12) (nn := 47) (pc' := 1225) 3 (T_YM_last (G := G) (h := h316)  q321) (by decide +kernel) mv_YM_last ml_L_127 (by decide +kernel) rfl rfl (Nat.le_of_ble_eq_true rfl) SH_126 rfl (by decide) rfl rfl ?_
                                                            refine sd_icmp_eq (off := 240) (tgt := 1465) (pc' := 1228) (by decide +kernel) (fun c324 => ?_) (fun c324 => ?_)
                                                            · replace hf := ite_p c324 hf
                                                              refine sd_J.sub (lo' := [(0, .ref b), (1, .ref (G.1 + 0)), (2, .ref (G.1 + 126)), (3, .int l3)]) [0, 1, 2, 3] rfl ?_
                                                              exact J_LW_B1465 hE ih hf
                                                            · replace hf := ite_n c324 hf
                                                              refine sd_iconst (n := 0) (v := 0) (pc' := 1229) (by decide +kernel) (by decide) ?_
                                                              have hf := Option.some.inj hf
                                                              exact absurd hf (by decide)
                                                          · replace hf := ite_n c3_26 hf
                                                            by_cases c3_27 : ((xs (l3 : Int32).toNatClampNeg) &&& 63) = 27
                                                            · replace hf := ite_p c3_27 hf
                                                              refine sd_tswIn (dflt := 1432) (lo0 := 0) (hi0 := 34) (offs := #[155, 198, 221, 274, 308, 371, 394, 417, 430, 453, 496, 559, 602, 635, 648, 681, 724, 767, 830, 863, 916, 959, 1002, 1065, 1088, 1121, 1154, 1197, 1210, 1263, 1316, 1339, 1362, 1395, 1418]) (len := 155) (off := 1197) (tgt := 1230) (pc' := 188) (by decide +kernel) (by rw [c3_27]; decide) (by rw [c3_27]; decide) (by rw [c3_27]; decide) ?_
                                                              refine sd_aload_n (k := 1) (i := 1) (q := 1) (pc' := 1231) (by decide +kernel) rfl rfl ?_
                                                              obtain ⟨h326, t327, q325, hf⟩ := b2_some hf
                                                              refine sF_callV (idx := 128) (b := 0) (As := []) (ci := 11) (nn := 17) (pc' := 1234) 0 (T_XT_run (G := G) (h := h)  q325) (by decide +kernel) mv_XT_run ml_L_128 (by decide +kernel) rfl rfl (Nat.le_of_ble_eq_true rfl) SH_0 rfl (by decide) rfl rfl ?_
                                                              refine sd_aload_n (k := 2) (i := 2) (q := 2) (pc' := 1235) (by decide +kernel) rfl rfl ?_
                                                              obtain ⟨h329, t330, q328, hf⟩ := b2_some hf
                                                              refine sF_callV (idx := 131) (b := 126) (As := []) (ci := 12) (nn := 47) (pc' := 1238) 0 (T_YM_run (G := G) (h := h326)  q328) (by decide +kernel) mv_YM_run ml_L_131 (by decide +kernel) rfl rfl (Nat.le_of_ble_eq_true rfl) SH_126 rfl (by decide) rfl rfl ?_
                                                              refine sd_icmp_eq (off := 227) (tgt := 1465) (pc' := 1241) (by decide +kernel) (fun c331 => ?_) (fun c331 => ?_)
                                                              · replace hf := ite_p c331 hf
                                                                refine sd_J.sub (lo' := [(0, .ref b), (1, .ref (G.1 + 0)), (2, .ref (G.1 + 126)), (3, .int l3)]) [0, 1, 2, 3] rfl ?_
                                                                exact J_LW_B1465 hE ih hf
                                                              · replace hf := ite_n c331 hf
                                                                refine sd_iconst (n := 0) (v := 0) (pc' := 1242) (by decide +kernel) (by decide) ?_
                                                                have hf := Option.some.inj hf
                                                                exact absurd hf (by decide)
                                                            · replace hf := ite_n c3_27 hf
                                                              by_cases c3_28 : ((xs (l3 : Int32).toNatClampNeg) &&& 63) = 28
                                                              · replace hf := ite_p c3_28 hf
                                                                refine sd_tswIn (dflt := 1432) (lo0 := 0) (hi0 := 34) (offs := #[155, 198, 221, 274, 308, 371, 394, 417, 430, 453, 496, 559, 602, 635, 648, 681, 724, 767, 830, 863, 916, 959, 1002, 1065, 1088, 1121, 1154, 1197, 1210, 1263, 1316, 1339, 1362, 1395, 1418]) (len := 155) (off := 1210) (tgt := 1243) (pc' := 188) (by decide +kernel) (by rw [c3_28]; decide) (by rw [c3_28]; decide) (by rw [c3_28]; decide) ?_
                                                                refine sd_aload_n (k := 1) (i := 1) (q := 1) (pc' := 1244) (by decide +kernel) rfl rfl ?_
                                                                refine sd_aload_n (k := 0) (i := 0) (q := 0) (pc' := 1245) (by decide +kernel) rfl rfl ?_
                                                                refine sd_iload_n (k := 3) (i := 3) (q := 3) (pc' := 1246) (by decide +kernel) rfl rfl ?_
                                                                refine sd_iconst (n := 1) (v := 1) (pc' := 1247) (by decide +kernel) (by decide) ?_
                                                                refine sd_iadd (pc' := 1248) (by decide +kernel) ?_
                                                                obtain ⟨g332, hf⟩ := gd_some hf
                                                                refine sL_ld hE (pc' := 1249) (by decide +kernel) g332 ?_
                                                                refine sd_aload_n (k := 0) (i := 0) (q := 0) (pc' := 1250) (by decide +kernel) rfl rfl ?_
                                                                refine sd_iload_n (k := 3) (i := 3) (q := 3) (pc' := 1251) (by decide +kernel) rfl rfl ?_
                                                                refine sd_iconst (n := 2) (v := 2) (pc' := 1252) (by decide +kernel) (by decide) ?_
                                                                refine sd_iadd (pc' := 1253) (by decide +kernel) ?_
                                                                obtain ⟨g333, hf⟩ := gd_some hf
                                                                refine sL_ld hE (pc' := 1254) (by decide +kernel) g333 ?_
                                                                refine sd_aload_n (k := 0) (i := 0) (q := 0) (pc' := 1255) (by decide +kernel) rfl rfl ?_
                                                                refine sd_iload_n (k := 3) (i := 3) (q := 3) (pc' := 1256) (by decide +kernel) rfl rfl ?_
                                                                refine sd_iconst (n := 3) (v := 3) (pc' := 1257) (by decide +kernel) (by decide) ?_
                                                                refine sd_iadd (pc' := 1258) (by decide +kernel) ?_
                                                                obtain ⟨g334, hf⟩ := gd_some hf
                                                                refine sL_ld hE (pc' := 1259) (by decide +kernel) g334 ?_
                                                                refine sd_aload_n (k := 0) (i := 0) (q := 0) (pc' := 1260) (by decide +kernel) rfl rfl ?_
                                                                refine sd_iload_n (k := 3) (i := 3) (q := 3) (pc' := 1261) (by decide +kernel) rfl rfl ?_
                                                                refine sd_iconst (n := 4) (v := 4) (pc' := 1262) (by decide +kernel) (by decide) ?_
                                                                refine sd_iadd (pc' := 1263) (by decide +kernel) ?_
                                                                obtain ⟨g335, hf⟩ := gd_some hf
                                                                refine sL_ld hE (pc' := 1264) (by decide +kernel) g335 ?_
                                                                obtain ⟨h337, t338, q336, hf⟩ := b2_some hf
                                                                refine sF_callV (idx := 132) (b := 0) (As := [.int (xs ((l3 + 1) : Int32).toNatClampNeg), .int (xs ((l3 + 2) : Int32).toNatClampNeg), .int (xs ((l3 + 3) : Int32).toNatClampNeg), .int (xs ((l3 + 4) : Int32).toNatClampNeg)]) (ci := 11) (nn := 17) (pc' := 1267) 4 (T_XT_mixed (G := G) (h := h)  q336) (by decide +kernel) mv_XT_mixed ml_L_132 (by decide +kernel) rfl rfl (Nat.le_of_ble_eq_true rfl) SH_0 rfl (by decide) rfl rfl ?_
                                                                refine sd_aload_n (k := 2) (i := 2) (q := 2) (pc' := 1268) (by decide +kernel) rfl rfl ?_
                                                                refine sd_aload_n (k := 0) (i := 0) (q := 0) (pc' := 1269) (by decide +kernel) rfl rfl ?_
                                                                refine sd_iload_n (k := 3) (i := 3) (q := 3) (pc' := 1270) (by decide +kernel) rfl rfl ?_
                                                                refine sd_iconst (n := 1) (v := 1) (pc' := 1271) (by decide +kernel) (by decide) ?_
                                                                refine sd_iadd (pc' := 1272) (by decide +kernel) ?_
                                                                obtain ⟨g339, hf⟩ := gd_some hf
                                                                refine sL_ld hE (pc' := 1273) (by decide +kernel) g339 ?_
                                                                refine sd_aload_n (k := 0) (i := 0) (q := 0) (pc' := 1274) (by decide +kernel) rfl rfl ?_
                                                                refine sd_iload_n (k := 3) (i := 3) (q := 3) (pc' := 1275) (by decide +kernel) rfl rfl ?_
                                                                refine sd_iconst (n := 2) (v := 2) (pc' := 1276) (by decide +kernel) (by decide) ?_
                                                                refine sd_iadd (pc' := 1277) (by decide +kernel) ?_
                                                                obtain ⟨g340, hf⟩ := gd_some hf
                                                                refine sL_ld hE (pc' := 1278) (by decide +kernel) g340 ?_
                                                                refine sd_aload_n (k := 0) (i := 0) (q := 0) (pc' := 1279) (by decide +kernel) rfl rfl ?_
                                                                refine sd_iload_n (k := 3) (i := 3) (q := 3) (pc' := 1280) (by decide +kernel) rfl rfl ?_
                                                                refine sd_iconst (n := 3) (v := 3) (pc' := 1281) (by decide +kernel) (by decide) ?_
                                                                refine sd_iadd (pc' := 1282) (by decide +kernel) ?_
                                                                obtain ⟨g341, hf⟩ := gd_some hf
                                                                refine sL_ld hE (pc' := 1283) (by decide +kernel) g341 ?_
                                                                refine sd_aload_n (k := 0) (i := 0) (q := 0) (pc' := 1284) (by decide +kernel) rfl rfl ?_
                                                                refine sd_iload_n (k := 3) (i := 3) (q := 3) (pc' := 1285) (by decide +kernel) rfl rfl ?_
                                                                refine sd_iconst (n := 4) (v := 4) (pc' := 1286) (by decide +kernel) (by decide) ?_
                                                                refine sd_iadd (pc' := 1287) (by decide +kernel) ?_
                                                                obtain ⟨g342, hf⟩ := gd_some hf
                                                                refine sL_ld hE (pc' := 1288) (by decide +kernel) g342 ?_
                                                                obtain ⟨h344, t345, q343, hf⟩ := b2_some hf
                                                                refine sF_callV (idx := 135) (b := 126) (As := [.int (xs ((l3 + 1) : Int32).toNatClampNeg), .int (xs ((l3 + 2) : Int32).toNatClampNeg), .int (xs ((l3 + 3) : Int32).toNatClampNeg), .int (xs ((l3 + 4) : Int32).toNatClampNeg)]) (ci := 12) (nn := 47) (pc' := 1291) 4 (T_YM_mixed (G := G) (h := h337)  q343) (by decide +kernel) mv_YM_mixed ml_L_135 (by decide +kernel) rfl rfl (Nat.le_of_ble_eq_true rfl) SH_126 rfl (by decide) rfl rfl ?_
                                                                refine sd_icmp_eq (off := 174) (tgt := 1465) (pc' := 1294) (by decide +kernel) (fun c346 => ?_) (fun c346 => ?_)
                                                                · replace hf := ite_p c346 hf
                                                                  refine sd_J.sub (lo' := [(0, .ref b), (1, .ref (G.1 + 0)), (2, .ref (G.1 + 126)), (3, .int l3)]) [0, 1, 2, 3] rfl ?_
                                                                  exact J_LW_B1465 hE ih hf
                                                                · replace hf := ite_n c346 hf
                                                                  refine sd_iconst (n := 0) (v := 0) (pc' := 1295) (by decide +kernel) (by decide) ?_
                                                                  have hf := Option.some.inj hf
                                                                  exact absurd hf (by decide)
                                                              · replace hf := ite_n c3_28 hf
                                                                by_cases c3_29 : ((xs (l3 : Int32).toNatClampNeg) &&& 63) = 29
                                                                · replace hf := ite_p c3_29 hf
                                                                  refine sd_tswIn (dflt := 1432) (lo0 := 0) (hi0 := 34) (offs := #[155, 198, 221, 274, 308, 371, 394, 417, 430, 453, 496, 559, 602, 635, 648, 681, 724, 767, 830, 863, 916, 959, 1002, 1065, 1088, 1121, 1154, 1197, 1210, 1263, 1316, 1339, 1362, 1395, 1418]) (len := 155) (off := 1263) (tgt := 1296) (pc' := 188) (by decide +kernel) (by rw [c3_29]; decide) (by rw [c3_29]; decide) (by rw [c3_29]; decide) ?_
                                                                  refine sd_aload_n (k := 1) (i := 1) (q := 1) (pc' := 1297) (by decide +kernel) rfl rfl ?_
                                                                  refine sd_aload_n (k := 0) (i := 0) (q := 0) (pc' := 1298) (by decide +kernel) rfl rfl ?_
                                                                  refine sd_iload_n (k := 3) (i := 3) (q := 3) (pc' := 1299) (by decide +kernel) rfl rfl ?_
                                                                  refine sd_iconst (n := 1) (v := 1) (pc' := 1300) (by decide +kernel) (by decide) ?_
                                                                  refine sd_iadd (pc' := 1301) (by decide +kernel) ?_
                                                                  obtain ⟨g347, hf⟩ := gd_some hf
                                                                  refine sL_ld hE (pc' := 1302) (by decide +kernel) g347 ?_
                                                                  refine sd_aload_n (k := 0) (i := 0) (q := 0) (pc' := 1303) (by decide +kernel) rfl rfl ?_
                                                                  refine sd_iload_n (k := 3) (i := 3) (q := 3) (pc' := 1304) (by decide +kernel) rfl rfl ?_
                                                                  refine sd_iconst (n := 2) (v := 2) (pc' := 1305) (by decide +kernel) (by decide) ?_
                                                                  refine sd_iadd (pc' := 1306) (by decide +kernel) ?_
                                                                  obtain ⟨g348, hf⟩ := gd_some hf
                                                                  refine sL_ld hE (pc' := 1307) (by decide +kernel) g348 ?_
                                                                  refine sd_aload_n (k := 0) (i := 0) (q := 0) (pc' := 1308) (by decide +kernel) rfl rfl ?_
                                                                  refine sd_iload_n (k := 3) (i := 3) (q := 3) (pc' := 1309) (by decide +kernel) rfl rfl ?_
                                                                  refine sd_iconst (n := 3) (v := 3) (pc' := 1310) (by decide +kernel) (by decide) ?_
                                                                  refine sd_iadd (pc' := 1311) (by decide +kernel) ?_
                                                                  obtain ⟨g349, hf⟩ := gd_some hf
                                                                  refine sL_ld hE (pc' := 1312) (by decide +kernel) g349 ?_
                                                                  refine sd_aload_n (k := 0) (i := 0) (q := 0) (pc' := 1313) (by decide +kernel) rfl rfl ?_
                                                                  refine sd_iload_n (k := 3) (i := 3) (q := 3) (pc' := 1314) (by decide +kernel) rfl rfl ?_
                                                                  refine sd_iconst (n := 4) (v := 4) (pc' := 1315) (by decide +kernel) (by decide) ?_
                                                                  refine sd_iadd (pc' := 1316) (by decide +kernel) ?_
                                                                  obtain ⟨g350, hf⟩ := gd_some hf
                                                                  refine sL_ld hE (pc' := 1317) (by decide +kernel) g350 ?_
                                                                  obtain ⟨h352, t353, q351, hf⟩ := b2_some hf
                                                                  refine sF_callV (idx := 136) (b := 0) (As := [.int (xs ((l3 + 1) : Int32).toNatClampNeg), .int (xs ((l3 + 2) : Int32).toNatClampNeg), .int (xs ((l3 + 3) : Int32).toNatClampNeg), .int (xs ((l3 + 4) : Int32).toNatClampNeg)]) (ci := 11) (nn := 17) (pc' := 1320) 4 (T_XT_same (G := G) (h := h)  q351) (by decide +kernel) mv_XT_same ml_L_136 (by decide +kernel) rfl rfl (Nat.le_of_ble_eq_true rfl) SH_0 rfl (by decide) rfl rfl ?_
                                                                  refine sd_aload_n (k := 2) (i := 2) (q := 2) (pc' := 1321) (by decide +kernel) rfl rfl ?_
                                                                  refine sd_aload_n (k := 0) (i := 0) (q := 0) (pc' := 1322) (by decide +kernel) rfl rfl ?_
                                                                  refine sd_iload_n (k := 3) (i := 3) (q := 3) (pc' := 1323) (by decide +kernel) rfl rfl ?_
                                                                  refine sd_iconst (n := 1) (v := 1) (pc' := 1324) (by decide +kernel) (by decide) ?_
                                                                  refine sd_iadd (pc' := 1325) (by decide +kernel) ?_
                                                                  obtain ⟨g354, hf⟩ := gd_some hf
                                                                  refine sL_ld hE (pc' := 1326) (by decide +kernel) g354 ?_
                                                                  refine sd_aload_n (k := 0) (i := 0) (q := 0) (pc' := 1327) (by decide +kernel) rfl rfl ?_
                                                                  refine sd_iload_n (k := 3) (i := 3) (q := 3) (pc' := 1328) (by decide +kernel) rfl rfl ?_
                                                                  refine sd_iconst (n := 2) (v := 2) (pc' := 1329) (by decide +kernel) (by decide) ?_
                                                                  refine sd_iadd (pc' := 1330) (by decide +kernel) ?_
                                                                  obtain ⟨g355, hf⟩ := gd_some hf
                                                                  refine sL_ld hE (pc' := 1331) (by decide +kernel) g355 ?_
                                                                  refine sd_aload_n (k := 0) (i := 0) (q := 0) (pc' := 1332) (by decide +kernel) rfl rfl ?_
                                                                  refine sd_iload_n (k := 3) (i := 3) (q := 3) (pc' := 1333) (by decide +kernel) rfl rfl ?_
                                                                  refine sd_iconst (n := 3) (v := 3) (pc' := 1334) (by decide +kernel) (by decide) ?_
                                                                  refine sd_iadd (pc' := 1335) (by decide +kernel) ?_
                                                                  obtain ⟨g356, hf⟩ := gd_some hf
                                                                  refine sL_ld hE (pc' := 1336) (by decide +kernel) g356 ?_
                                                                  refine sd_aload_n (k := 0) (i := 0) (q := 0) (pc' := 1337) (by decide +kernel) rfl rfl ?_
                                                                  refine sd_iload_n (k := 3) (i := 3) (q := 3) (pc' := 1338) (by decide +kernel) rfl rfl ?_
                                                                  refine sd_iconst (n := 4) (v := 4) (pc' := 1339) (by decide +kernel) (by decide) ?_
                                                                  refine sd_iadd (pc' := 1340) (by decide +kernel) ?_
                                                                  obtain ⟨g357, hf⟩ := gd_some hf
                                                                  refine sL_ld hE (pc' := 1341) (by decide +kernel) g357 ?_
                                                                  obtain ⟨h359, t360, q358, hf⟩ := b2_some hf
                                                                  refine sF_callV (idx := 139) (b := 126) (As := [.int (xs ((l3 + 1) : Int32).toNatClampNeg), .int (xs ((l3 + 2) : Int32).toNatClampNeg), .int (xs ((l3 + 3) : Int32).toNatClampNeg), .int (xs ((l3 + 4) : Int32).toNatClampNeg)]) (ci := 12) (nn := 47) (pc' := 1344) 4 (T_YM_same (G := G) (h := h352)  q358) (by decide +kernel) mv_YM_same ml_L_139 (by decide +kernel) rfl rfl (Nat.le_of_ble_eq_true rfl) SH_126 rfl (by decide) rfl rfl ?_
                                                                  refine sd_icmp_eq (off := 121) (tgt := 1465) (pc' := 1347) (by decide +kernel) (fun c361 => ?_) (fun c361 => ?_)
                                                                  · replace hf := ite_p c361 hf
                                                                    refine sd_J.sub (lo' := [(0, .ref b), (1, .ref (G.1 + 0)), (2, .ref (G.1 + 126)), (3, .int l3)]) [0, 1, 2, 3] rfl ?_
                                                                    exact J_LW_B1465 hE ih hf
                                                                  · replace hf := ite_n c361 hf
                                                                    refine sd_iconst (n := 0) (v := 0) (pc' := 1348) (by decide +kernel) (by decide) ?_
                                                                    have hf := Option.some.inj hf
                                                                    exact absurd hf (by decide)
                                                                · replace hf := ite_n c3_29 hf
                                                                  by_cases c3_30 : ((xs (l3 : Int32).toNatClampNeg) &&& 63) = 30
                                                                  · replace hf := ite_p c3_30 hf
                                                                    refine sd_tswIn (dflt := 1432) (lo0 := 0) (hi0 := 34) (offs := #[155, 198, 221, 274, 308, 371, 394, 417, 430, 453, 496, 559, 602, 635, 648, 681, 724, 767, 830, 863, 916, 959, 1002, 1065, 1088, 1121, 1154, 1197, 1210, 1263, 1316, 1339, 1362, 1395, 1418]) (len := 155) (off := 1316) (tgt := 1349) (pc' := 188) (by decide +kernel) (by rw [c3_30]; decide) (by rw [c3_30]; decide) (by rw [c3_30]; decide) ?_
                                                                    refine sd_aload_n (k := 1) (i := 1) (q := 1) (pc' := 1350) (by decide +kernel) rfl rfl ?_
                                                                    refine sd_aload_n (k := 0) (i := 0) (q := 0) (pc' := 1351) (by decide +kernel) rfl rfl ?_
                                                                    refine sd_iload_n (k := 3) (i := 3) (q := 3) (pc' := 1352) (by decide +kernel) rfl rfl ?_
                                                                    refine sd_iconst (n := 1) (v := 1) (pc' := 1353) (by decide +kernel) (by decide) ?_
                                                                    refine sd_iadd (pc' := 1354) (by decide +kernel) ?_
                                                                    obtain ⟨g362, hf⟩ := gd_some hf
                                                                    refine sL_ld hE (pc' := 1355) (by decide +kernel) g362 ?_
                                                                    obtain ⟨t364, q363, hf⟩ := b1_some hf
                                                                    refine sF_callV (idx := 140) (b := 0) (As := [.int (xs ((l3 + 1) : Int32).toNatClampNeg)]) (ci := 11) (nn := 17) (pc' := 1358) 1 (T_XT_faults (G := G) (h := h)  q363) (by decide +kernel) mv_XT_faults ml_L_140 (by decide +kernel) rfl rfl (Nat.le_of_ble_eq_true rfl) SH_0 rfl (by decide) rfl rfl ?_
                                                                    refine sd_aload_n (k := 2) (i := 2) (q := 2) (pc' := 1359) (by decide +kernel) rfl rfl ?_
                                                                    refine sd_aload_n (k := 0) (i := 0) (q := 0) (pc' := 1360) (by decide +kernel) rfl rfl ?_
                                                                    refine sd_iload_n (k := 3) (i := 3) (q := 3) (pc' := 1361) (by decide +kernel) rfl rfl ?_
                                                                    refine sd_iconst (n := 1) (v := 1) (pc' := 1362) (by decide +kernel) (by decide) ?_
                                                                    refine sd_iadd (pc' := 1363) (by decide +kernel) ?_
                                                                    obtain ⟨g365, hf⟩ := gd_some hf
                                                                    refine sL_ld hE (pc' := 1364) (by decide +kernel) g365 ?_
                                                                    obtain ⟨t367, q366, hf⟩ := b1_some hf
                                                                    refine sF_callV (idx := 143) (b := 126) (As := [.int (xs ((l3 + 1) : Int32).toNatClampNeg)]) (ci := 12) (nn := 47) (pc' := 1367) 1 (T_YM_faults (G := G) (h := h)  q366) (by decide +kernel) mv_YM_faults ml_L_143 (by decide +kernel) rfl rfl (Nat.le_of_ble_eq_true rfl) SH_126 rfl (by decide) rfl rfl ?_
                                                                    refine sd_icmp_eq (off := 98) (tgt := 1465) (pc' := 1370) (by decide +kernel) (fun c368 => ?_) (fun c368 => ?_)
                                                                    · replace hf := ite_p c368 hf
                                                                      refine sd_J.sub (lo' := [(0, .ref b), (1, .ref (G.1 + 0)), (2, .ref (G.1 + 126)), (3, .int l3)]) [0, 1, 2, 3] rfl ?_
                                                                      exact J_LW_B1465 hE ih hf
                                                                    · replace hf := ite_n c368 hf
                                                                      refine sd_iconst (n := 0) (v := 0) (pc' := 1371) (by decide +kernel) (by decide) ?_
                                                                      have hf := Option.some.inj hf
                                                                      exact absurd hf (by decide)
                                                                  · replace hf := ite_n c3_30 hf
                                                                    by_cases c3_31 : ((xs (l3 : Int32).toNatClampNeg) &&& 63) = 31
                                                                    · replace hf := ite_p c3_31 hf
                                                                      refine sd_tswIn (dflt := 1432) (lo0 := 0) (hi0 := 34) (offs := #[155, 198, 221, 274, 308, 371, 394, 417, 430, 453, 496, 559, 602, 635, 648, 681, 724, 767, 830, 863, 916, 959, 1002, 1065, 1088, 1121, 1154, 1197, 1210, 1263, 1316, 1339, 1362, 1395, 1418]) (len := 155) (off := 1339) (tgt := 1372) (pc' := 188) (by decide +kernel) (by rw [c3_31]; decide) (by rw [c3_31]; decide) (by rw [c3_31]; decide) ?_
                                                                      refine sd_aload_n (k := 1) (i := 1) (q := 1) (pc' := 1373) (by decide +kernel) rfl rfl ?_
                                                                      refine sd_aload_n (k := 0) (i := 0) (q := 0) (pc' := 1374) (by decide +kernel) rfl rfl ?_
                                                                      refine sd_iload_n (k := 3) (i := 3) (q := 3) (pc' := 1375) (by decide +kernel) rfl rfl ?_
                                                                      refine sd_iconst (n := 1) (v := 1) (pc' := 1376) (by decide +kernel) (by decide) ?_
                                                                      refine sd_iadd (pc' := 1377) (by decide +kernel) ?_
                                                                      obtain ⟨g369, hf⟩ := gd_some hf
                                                                      refine sL_ld hE (pc' := 1378) (by decide +kernel) g369 ?_
                                                                      obtain ⟨t371, q370, hf⟩ := b1_some hf
                                                                      refine sF_callV (idx := 144) (b := 0) (As := [.int (xs ((l3 + 1) : Int32).toNatClampNeg)]) (ci := 11) (nn := 17) (pc' := 1381) 1 (T_XT_ended (G := G) (h := h)  q370) (by decide +kernel) mv_XT_ended ml_L_144 (by decide +kernel) rfl rfl (Nat.le_of_ble_eq_true rfl) SH_0 rfl (by decide) rfl rfl ?_
                                                                      refine sd_aload_n (k := 2) (i := 2) (q := 2) (pc' := 1382) (by decide +kernel) rfl rfl ?_
                                                                      refine sd_aload_n (k := 0) (i := 0) (q := 0) (pc' := 1383) (by decide +kernel) rfl rfl ?_
                                                                      refine sd_iload_n (k := 3) (i := 3) (q := 3) (pc' := 1384) (by decide +kernel) rfl rfl ?_
                                                                      refine sd_iconst (n := 1) (v := 1) (pc' := 1385) (by decide +kernel) (by decide) ?_
                                                                      refine sd_iadd (pc' := 1386) (by decide +kernel) ?_
                                                                      obtain ⟨g372, hf⟩ := gd_some hf
                                                                      refine sL_ld hE (pc' := 1387) (by decide +kernel) g372 ?_
                                                                      obtain ⟨t374, q373, hf⟩ := b1_some hf
                                                                      refine sF_callV (idx := 147) (b := 126) (As := [.int (xs ((l3 + 1) : Int32).toNatClampNeg)]) (ci := 12) (nn := 47) (pc' := 1390) 1 (T_YM_ended (G := G) (h := h)  q373) (by decide +kernel) mv_YM_ended ml_L_147 (by decide +kernel) rfl rfl (Nat.le_of_ble_eq_true rfl) SH_126 rfl (by decide) rfl rfl ?_
                                                                      refine sd_icmp_eq (off := 75) (tgt := 1465) (pc' := 1393) (by decide +kernel) (fun c375 => ?_) (fun c375 => ?_)
                                                                      · replace hf := ite_p c375 hf
                                                                        refine sd_J.sub (lo' := [(0, .ref b), (1, .ref (G.1 + 0)), (2, .ref (G.1 + 126)), (3, .int l3)]) [0, 1, 2, 3] rfl ?_
                                                                        exact J_LW_B1465 hE ih hf
                                                                      · replace hf := ite_n c375 hf
                                                                        refine sd_iconst (n := 0) (v := 0) (pc' := 1394) (by decide +kernel) (by decide) ?_
                                                                        have hf := Option.some.inj hf
                                                                        exact absurd hf (by decide)
                                                                    · replace hf := ite_n c3_31 hf
                                                                      by_cases c3_32 : ((xs (l3 : Int32).toNatClampNeg) &&& 63) = 32
                                                                      · replace hf := ite_p c3_32 hf
                                                                        refine sd_tswIn (dflt := 1432) (lo0 := 0) (hi0 := 34) (offs := #[155, 198, 221, 274, 308, 371, 394, 417, 430, 453, 496, 559, 602, 635, 648, 681, 724, 767, 830, 863, 916, 959, 1002, 1065, 1088, 1121, 1154, 1197, 1210, 1263, 1316, 1339, 1362, 1395, 1418]) (len := 155) (off := 1362) (tgt := 1395) (pc' := 188) (by decide +kernel) (by rw [c3_32]; decide) (by rw [c3_32]; decide) (by rw [c3_32]; decide) ?_
                                                                        refine sd_aload_n (k := 1) (i := 1) (q := 1) (pc' := 1396) (by decide +kernel) rfl rfl ?_
                                                                        refine sd_aload_n (k := 0) (i := 0) (q := 0) (pc' := 1397) (by decide +kernel) rfl rfl ?_
                                                                        refine sd_iload_n (k := 3) (i := 3) (q := 3) (pc' := 1398) (by decide +kernel) rfl rfl ?_
                                                                        refine sd_iconst (n := 1) (v := 1) (pc' := 1399) (by decide +kernel) (by decide) ?_
                                                                        refine sd_iadd (pc' := 1400) (by decide +kernel) ?_
                                                                        obtain ⟨g376, hf⟩ := gd_some hf
                                                                        refine sL_ld hE (pc' := 1401) (by decide +kernel) g376 ?_
                                                                        refine sd_aload_n (k := 0) (i := 0) (q := 0) (pc' := 1402) (by decide +kernel) rfl rfl ?_
                                                                        refine sd_iload_n (k := 3) (i := 3) (q := 3) (pc' := 1403) (by decide +kernel) rfl rfl ?_
                                                                        refine sd_iconst (n := 2) (v := 2) (pc' := 1404) (by decide +kernel) (by decide) ?_
                                                                        refine sd_iadd (pc' := 1405) (by decide +kernel) ?_
                                                                        obtain ⟨g377, hf⟩ := gd_some hf
                                                                        refine sL_ld hE (pc' := 1406) (by decide +kernel) g377 ?_
                                                                        obtain ⟨h379, t380, q378, hf⟩ := b2_some hf
                                                                        refine sF_callV (idx := 148) (b := 0) (As := [.int (xs ((l3 + 1) : Int32).toNatClampNeg), .int (xs ((l3 + 2) : Int32).toNatClampNeg)]) (ci := 11) (nn := 17) (pc' := 1409) 2 (T_XT_writer (G := G) (h := h)  q378) (by decide +kernel) mv_XT_writer ml_L_148 (by decide +kernel) rfl rfl (Nat.le_of_ble_eq_true rfl) SH_0 rfl (by decide) rfl rfl ?_
                                                                        refine sd_aload_n (k := 2) (i := 2) (q := 2) (pc' := 1410) (by decide +kernel) rfl rfl ?_
                                                                        refine sd_aload_n (k := 0) (i := 0) (q := 0) (pc' := 1411) (by decide +kernel) rfl rfl ?_
                                                                        refine sd_iload_n (k := 3) (i := 3) (q := 3) (pc' := 1412) (by decide +kernel) rfl rfl ?_
                                                                        refine sd_iconst (n := 1) (v := 1) (pc' := 1413) (by decide +kernel) (by decide) ?_
                                                                        refine sd_iadd (pc' := 1414) (by decide +kernel) ?_
                                                                        obtain ⟨g381, hf⟩ := gd_some hf
                                                                        refine sL_ld hE (pc' := 1415) (by decide +kernel) g381 ?_
                                                                        refine sd_aload_n (k := 0) (i := 0) (q := 0) (pc' := 1416) (by decide +kernel) rfl rfl ?_
                                                                        refine sd_iload_n (k := 3) (i := 3) (q := 3) (pc' := 1417) (by decide +kernel) rfl rfl ?_
                                                                        refine sd_iconst (n := 2) (v := 2) (pc' := 1418) (by decide +kernel) (by decide) ?_
                                                                        refine sd_iadd (pc' := 1419) (by decide +kernel) ?_
                                                                        obtain ⟨g382, hf⟩ := gd_some hf
                                                                        refine sL_ld hE (pc' := 1420) (by decide +kernel) g382 ?_
                                                                        obtain ⟨h384, t385, q383, hf⟩ := b2_some hf
                                                                        refine sF_callV (idx := 151) (b := 126) (As := [.int (xs ((l3 + 1) : Int32).toNatClampNeg), .int (xs ((l3 + 2) : Int32).toNatClampNeg)]) (ci := 12) (nn := 47) (pc' := 1423) 2 (T_YM_writer (G := G) (h := h379)  q383) (by decide +kernel) mv_YM_writer ml_L_151 (by decide +kernel) rfl rfl (Nat.le_of_ble_eq_true rfl) SH_126 rfl (by decide) rfl rfl ?_
                                                                        refine sd_icmp_eq (off := 42) (tgt := 1465) (pc' := 1426) (by decide +kernel) (fun c386 => ?_) (fun c386 => ?_)
                                                                        · replace hf := ite_p c386 hf
                                                                          refine sd_J.sub (lo' := [(0, .ref b), (1, .ref (G.1 + 0)), (2, .ref (G.1 + 126)), (3, .int l3)]) [0, 1, 2, 3] rfl ?_
                                                                          exact J_LW_B1465 hE ih hf
                                                                        · replace hf := ite_n c386 hf
                                                                          refine sd_iconst (n := 0) (v := 0) (pc' := 1427) (by decide +kernel) (by decide) ?_
                                                                          have hf := Option.some.inj hf
                                                                          exact absurd hf (by decide)
                                                                      · replace hf := ite_n c3_32 hf
                                                                        by_cases c3_33 : ((xs (l3 : Int32).toNatClampNeg) &&& 63) = 33
                                                                        · replace hf := ite_p c3_33 hf
                                                                          refine sd_tswIn (dflt := 1432) (lo0 := 0) (hi0 := 34) (offs := #[155, 198, 221, 274, 308, 371, 394, 417, 430, 453, 496, 559, 602, 635, 648, 681, 724, 767, 830, 863, 916, 959, 1002, 1065, 1088, 1121, 1154, 1197, 1210, 1263, 1316, 1339, 1362, 1395, 1418]) (len := 155) (off := 1395) (tgt := 1428) (pc' := 188) (by decide +kernel) (by rw [c3_33]; decide) (by rw [c3_33]; decide) (by rw [c3_33]; decide) ?_
                                                                          refine sd_aload_n (k := 1) (i := 1) (q := 1) (pc' := 1429) (by decide +kernel) rfl rfl ?_
                                                                          refine sd_aload_n (k := 0) (i := 0) (q := 0) (pc' := 1430) (by decide +kernel) rfl rfl ?_
                                                                          refine sd_iload_n (k := 3) (i := 3) (q := 3) (pc' := 1431) (by decide +kernel) rfl rfl ?_
                                                                          refine sd_iconst (n := 1) (v := 1) (pc' := 1432) (by decide +kernel) (by decide) ?_
                                                                          refine sd_iadd (pc' := 1433) (by decide +kernel) ?_
                                                                          obtain ⟨g387, hf⟩ := gd_some hf
                                                                          refine sL_ld hE (pc' := 1434) (by decide +kernel) g387 ?_
                                                                          obtain ⟨h389, t390, q388, hf⟩ := b2_some hf
                                                                          refine sF_callV (idx := 152) (b := 0) (As := [.int (xs ((l3 + 1) : Int32).toNatClampNeg)]) (ci := 11) (nn := 17) (pc' := 1437) 1 (T_XT_count (G := G) (h := h)  q388) (by decide +kernel) mv_XT_count ml_L_152 (by decide +kernel) rfl rfl (Nat.le_of_ble_eq_true rfl) SH_0 rfl (by decide) rfl rfl ?_
                                                                          refine sd_aload_n (k := 2) (i := 2) (q := 2) (pc' := 1438) (by decide +kernel) rfl rfl ?_
                                                                          refine sd_aload_n (k := 0) (i := 0) (q := 0) (pc' := 1439) (by decide +kernel) rfl rfl ?_
                                                                          refine sd_iload_n (k := 3) (i := 3) (q := 3) (pc' := 1440) (by decide +kernel) rfl rfl ?_
                                                                          refine sd_iconst (n := 1) (v := 1) (pc' := 1441) (by decide +kernel) (by decide) ?_
                                                                          refine sd_iadd (pc' := 1442) (by decide +kernel) ?_
                                                                          obtain ⟨g391, hf⟩ := gd_some hf
                                                                          refine sL_ld hE (pc' := 1443) (by decide +kernel) g391 ?_
                                                                          obtain ⟨h393, t394, q392, hf⟩ := b2_some hf
                                                                          refine sF_callV (idx := 155) (b := 126) (As := [.int (xs ((l3 + 1) : Int32).toNatClampNeg)]) (ci := 12) (nn := 47) (pc' := 1446) 1 (T_YM_count (G := G) (h := h389)  q392) (by decide +kernel) mv_YM_count ml_L_155 (by decide +kernel) rfl rfl (Nat.le_of_ble_eq_true rfl) SH_126 rfl (by decide) rfl rfl ?_
                                                                          refine sd_icmp_eq (off := 19) (tgt := 1465) (pc' := 1449) (by decide +kernel) (fun c395 => ?_) (fun c395 => ?_)
                                                                          · replace hf := ite_p c395 hf
                                                                            refine sd_J.sub (lo' := [(0, .ref b), (1, .ref (G.1 + 0)), (2, .ref (G.1 + 126)), (3, .int l3)]) [0, 1, 2, 3] rfl ?_
                                                                            exact J_LW_B1465 hE ih hf
                                                                          · replace hf := ite_n c395 hf
                                                                            refine sd_iconst (n := 0) (v := 0) (pc' := 1450) (by decide +kernel) (by decide) ?_
                                                                            have hf := Option.some.inj hf
                                                                            exact absurd hf (by decide)
                                                                        · replace hf := ite_n c3_33 hf
                                                                          by_cases c3_34 : ((xs (l3 : Int32).toNatClampNeg) &&& 63) = 34
                                                                          · replace hf := ite_p c3_34 hf
                                                                            refine sd_tswIn (dflt := 1432) (lo0 := 0) (hi0 := 34) (offs := #[155, 198, 221, 274, 308, 371, 394, 417, 430, 453, 496, 559, 602, 635, 648, 681, 724, 767, 830, 863, 916, 959, 1002, 1065, 1088, 1121, 1154, 1197, 1210, 1263, 1316, 1339, 1362, 1395, 1418]) (len := 155) (off := 1418) (tgt := 1451) (pc' := 188) (by decide +kernel) (by rw [c3_34]; decide) (by rw [c3_34]; decide) (by rw [c3_34]; decide) ?_
                                                                            refine sd_aload_n (k := 1) (i := 1) (q := 1) (pc' := 1452) (by decide +kernel) rfl rfl ?_
                                                                            obtain ⟨h397, t398, q396, hf⟩ := b2_some hf
                                                                            refine sF_callV (idx := 156) (b := 0) (As := []) (ci := 11) (nn := 17) (pc' := 1455) 0 (T_XT_digest (G := G) (h := h)  q396) (by decide +kernel) mv_XT_digest ml_L_156 (by decide +kernel) rfl rfl (Nat.le_of_ble_eq_true rfl) SH_0 rfl (by decide) rfl rfl ?_
                                                                            refine sd_aload_n (k := 2) (i := 2) (q := 2) (pc' := 1456) (by decide +kernel) rfl rfl ?_
                                                                            obtain ⟨h400, t401, q399, hf⟩ := b2_some hf
                                                                            refine sF_callV (idx := 160) (b := 126) (As := []) (ci := 12) (nn := 47) (pc' := 1459) 0 (T_YM_digest (G := G) (h := h397)  q399) (by decide +kernel) mv_YM_digest ml_L_160 (by decide +kernel) rfl rfl (Nat.le_of_ble_eq_true rfl) SH_126 rfl (by decide) rfl rfl ?_
                                                                            refine sd_lcmp (pc' := 1460) (by decide +kernel) ?_
                                                                            refine sd_if_eq (off := 5) (tgt := 1465) (pc' := 1463) (by decide +kernel) (fun c402 => ?_) (fun c402 => ?_)
                                                                            · replace hf := ite_p c402 hf
                                                                              refine sd_J.sub (lo' := [(0, .ref b), (1, .ref (G.1 + 0)), (2, .ref (G.1 + 126)), (3, .int l3)]) [0, 1, 2, 3] rfl ?_
                                                                              exact J_LW_B1465 hE ih hf
                                                                            · replace hf := ite_n c402 hf
                                                                              refine sd_iconst (n := 0) (v := 0) (pc' := 1464) (by decide +kernel) (by decide) ?_
                                                                              have hf := Option.some.inj hf
                                                                              exact absurd hf (by decide)
                                                                          · replace hf := ite_n c3_34 hf
                                                                            have nc3_0 := ne_ti c3_0 (n := 0) (by decide)
                                                                            have nc3_1 := ne_ti c3_1 (n := 1) (by decide)
                                                                            have nc3_2 := ne_ti c3_2 (n := 2) (by decide)
                                                                            have nc3_3 := ne_ti c3_3 (n := 3) (by decide)
                                                                            have nc3_4 := ne_ti c3_4 (n := 4) (by decide)
                                                                            have nc3_5 := ne_ti c3_5 (n := 5) (by decide)
                                                                            have nc3_6 := ne_ti c3_6 (n := 6) (by decide)
                                                                            have nc3_7 := ne_ti c3_7 (n := 7) (by decide)
                                                                            have nc3_8 := ne_ti c3_8 (n := 8) (by decide)
                                                                            have nc3_9 := ne_ti c3_9 (n := 9) (by decide)
                                                                            have nc3_10 := ne_ti c3_10 (n := 10) (by decide)
                                                                            have nc3_11 := ne_ti c3_11 (n := 11) (by decide)
                                                                            have nc3_12 := ne_ti c3_12 (n := 12) (by decide)
                                                                            have nc3_13 := ne_ti c3_13 (n := 13) (by decide)
                                                                            have nc3_14 := ne_ti c3_14 (n := 14) (by decide)
                                                                            have nc3_15 := ne_ti c3_15 (n := 15) (by decide)
                                                                            have nc3_16 := ne_ti c3_16 (n := 16) (by decide)
                                                                            have nc3_17 := ne_ti c3_17 (n := 17) (by decide)
                                                                            have nc3_18 := ne_ti c3_18 (n := 18) (by decide)
                                                                            have nc3_19 := ne_ti c3_19 (n := 19) (by decide)
                                                                            have nc3_20 := ne_ti c3_20 (n := 20) (by decide)
                                                                            have nc3_21 := ne_ti c3_21 (n := 21) (by decide)
                                                                            have nc3_22 := ne_ti c3_22 (n := 22) (by decide)
                                                                            have nc3_23 := ne_ti c3_23 (n := 23) (by decide)
                                                                            have nc3_24 := ne_ti c3_24 (n := 24) (by decide)
                                                                            have nc3_25 := ne_ti c3_25 (n := 25) (by decide)
                                                                            have nc3_26 := ne_ti c3_26 (n := 26) (by decide)
                                                                            have nc3_27 := ne_ti c3_27 (n := 27) (by decide)
                                                                            have nc3_28 := ne_ti c3_28 (n := 28) (by decide)
                                                                            have nc3_29 := ne_ti c3_29 (n := 29) (by decide)
                                                                            have nc3_30 := ne_ti c3_30 (n := 30) (by decide)
                                                                            have nc3_31 := ne_ti c3_31 (n := 31) (by decide)
                                                                            have nc3_32 := ne_ti c3_32 (n := 32) (by decide)
                                                                            have nc3_33 := ne_ti c3_33 (n := 33) (by decide)
                                                                            have nc3_34 := ne_ti c3_34 (n := 34) (by decide)
                                                                            refine sd_tswOut (dflt := 1432) (lo0 := 0) (hi0 := 34) (offs := #[155, 198, 221, 274, 308, 371, 394, 417, 430, 453, 496, 559, 602, 635, 648, 681, 724, 767, 830, 863, 916, 959, 1002, 1065, 1088, 1121, 1154, 1197, 1210, 1263, 1316, 1339, 1362, 1395, 1418]) (len := 155) (tgt := 1465) (pc' := 188) (by decide +kernel) (by omega) ?_
                                                                            refine sd_J.sub (lo' := [(0, .ref b), (1, .ref (G.1 + 0)), (2, .ref (G.1 + 126)), (3, .int l3)]) [0, 1, 2, 3] rfl ?_
                                                                            exact J_LW_B1465 hE ih hf
