/-! the law: links, the script's places, the thirty cases -/
theorem mlL_9 : ja_LS RL 9 mL_cell 2 := ⟨(ja_of_lw (List.mem_append_right _ (List.mem_of_getElem? (i := 1117) (by decide +kernel))) (by decide +kernel)), (ja_of_lw (List.mem_append_right _ (List.mem_of_getElem? (i := 1118) (by decide +kernel))) (by decide +kernel)), (ja_of_lw (List.mem_append_right _ (List.mem_of_getElem? (i := 0) (by decide +kernel))) (by decide +kernel)), (ja_of_lw (List.mem_append_right _ (List.mem_of_getElem? (i := 1119) (by decide +kernel))) (by decide +kernel)), ⟨⟨by decide +kernel, by decide +kernel, by decide +kernel⟩, by decide⟩⟩
theorem mlL_21 : ja_LV RL 21 11 mX11_light 4 := ⟨(ja_of_lw (List.mem_append_right _ (List.mem_of_getElem? (i := 414) (by decide +kernel))) (by decide +kernel)), (ja_of_lw (List.mem_append_right _ (List.mem_of_getElem? (i := 415) (by decide +kernel))) (by decide +kernel)), (ja_of_lw (List.mem_append_right _ (List.mem_of_getElem? (i := 416) (by decide +kernel))) (by decide +kernel)), (ja_of_lw (List.mem_append_right _ (List.mem_of_getElem? (i := 1) (by decide +kernel))) (by decide +kernel)), (ja_of_lw (List.mem_append_right _ (List.mem_of_getElem? (i := 417) (by decide +kernel))) (by decide +kernel)), ⟨⟨by decide +kernel, by decide +kernel, by decide +kernel⟩, by decide⟩, ⟨TX11, rfl⟩⟩
theorem mlL_25 : ja_LV RL 25 12 mX12_light 4 := ⟨(ja_of_lw (List.mem_append_right _ (List.mem_of_getElem? (i := 1261) (by decide +kernel))) (by decide +kernel)), (ja_of_lw (List.mem_append_right _ (List.mem_of_getElem? (i := 1262) (by decide +kernel))) (by decide +kernel)), (ja_of_lw (List.mem_append_right _ (List.mem_of_getElem? (i := 1263) (by decide +kernel))) (by decide +kernel)), (ja_of_lw (List.mem_append_right _ (List.mem_of_getElem? (i := 14) (by decide +kernel))) (by decide +kernel)), (ja_of_lw (List.mem_append_right _ (List.mem_of_getElem? (i := 1264) (by decide +kernel))) (by decide +kernel)), ⟨⟨by decide +kernel, by decide +kernel, by decide +kernel⟩, by decide⟩, ⟨TX12, rfl⟩⟩
theorem mlL_28 : ja_LV RL 28 11 mX11_row 4 := ⟨(ja_of_lw (List.mem_append_right _ (List.mem_of_getElem? (i := 432) (by decide +kernel))) (by decide +kernel)), (ja_of_lw (List.mem_append_right _ (List.mem_of_getElem? (i := 433) (by decide +kernel))) (by decide +kernel)), (ja_of_lw (List.mem_append_right _ (List.mem_of_getElem? (i := 434) (by decide +kernel))) (by decide +kernel)), (ja_of_lw (List.mem_append_right _ (List.mem_of_getElem? (i := 1) (by decide +kernel))) (by decide +kernel)), (ja_of_lw (List.mem_append_right _ (List.mem_of_getElem? (i := 435) (by decide +kernel))) (by decide +kernel)), ⟨⟨by decide +kernel, by decide +kernel, by decide +kernel⟩, by decide⟩, ⟨TX11, rfl⟩⟩
theorem mlL_32 : ja_LV RL 32 12 mX12_row 4 := ⟨(ja_of_lw (List.mem_append_right _ (List.mem_of_getElem? (i := 1278) (by decide +kernel))) (by decide +kernel)), (ja_of_lw (List.mem_append_right _ (List.mem_of_getElem? (i := 1279) (by decide +kernel))) (by decide +kernel)), (ja_of_lw (List.mem_append_right _ (List.mem_of_getElem? (i := 1280) (by decide +kernel))) (by decide +kernel)), (ja_of_lw (List.mem_append_right _ (List.mem_of_getElem? (i := 14) (by decide +kernel))) (by decide +kernel)), (ja_of_lw (List.mem_append_right _ (List.mem_of_getElem? (i := 1281) (by decide +kernel))) (by decide +kernel)), ⟨⟨by decide +kernel, by decide +kernel, by decide +kernel⟩, by decide⟩, ⟨TX12, rfl⟩⟩
theorem mlL_33 : ja_LV RL 33 11 mX11_at 3 := ⟨(ja_of_lw (List.mem_append_right _ (List.mem_of_getElem? (i := 438) (by decide +kernel))) (by decide +kernel)), (ja_of_lw (List.mem_append_right _ (List.mem_of_getElem? (i := 439) (by decide +kernel))) (by decide +kernel)), (ja_of_lw (List.mem_append_right _ (List.mem_of_getElem? (i := 440) (by decide +kernel))) (by decide +kernel)), (ja_of_lw (List.mem_append_right _ (List.mem_of_getElem? (i := 1) (by decide +kernel))) (by decide +kernel)), (ja_of_lw (List.mem_append_right _ (List.mem_of_getElem? (i := 441) (by decide +kernel))) (by decide +kernel)), ⟨⟨by decide +kernel, by decide +kernel, by decide +kernel⟩, by decide⟩, ⟨TX11, rfl⟩⟩
theorem mlL_37 : ja_LV RL 37 12 mX12_at 3 := ⟨(ja_of_lw (List.mem_append_right _ (List.mem_of_getElem? (i := 1284) (by decide +kernel))) (by decide +kernel)), (ja_of_lw (List.mem_append_right _ (List.mem_of_getElem? (i := 1285) (by decide +kernel))) (by decide +kernel)), (ja_of_lw (List.mem_append_right _ (List.mem_of_getElem? (i := 1286) (by decide +kernel))) (by decide +kernel)), (ja_of_lw (List.mem_append_right _ (List.mem_of_getElem? (i := 14) (by decide +kernel))) (by decide +kernel)), (ja_of_lw (List.mem_append_right _ (List.mem_of_getElem? (i := 1287) (by decide +kernel))) (by decide +kernel)), ⟨⟨by decide +kernel, by decide +kernel, by decide +kernel⟩, by decide⟩, ⟨TX12, rfl⟩⟩
theorem mlL_38 : ja_LV RL 38 11 mX11_copy 2 := ⟨(ja_of_lw (List.mem_append_right _ (List.mem_of_getElem? (i := 446) (by decide +kernel))) (by decide +kernel)), (ja_of_lw (List.mem_append_right _ (List.mem_of_getElem? (i := 447) (by decide +kernel))) (by decide +kernel)), (ja_of_lw (List.mem_append_right _ (List.mem_of_getElem? (i := 448) (by decide +kernel))) (by decide +kernel)), (ja_of_lw (List.mem_append_right _ (List.mem_of_getElem? (i := 1) (by decide +kernel))) (by decide +kernel)), (ja_of_lw (List.mem_append_right _ (List.mem_of_getElem? (i := 449) (by decide +kernel))) (by decide +kernel)), ⟨⟨by decide +kernel, by decide +kernel, by decide +kernel⟩, by decide⟩, ⟨TX11, rfl⟩⟩
theorem mlL_42 : ja_LV RL 42 12 mX12_copy 2 := ⟨(ja_of_lw (List.mem_append_right _ (List.mem_of_getElem? (i := 1292) (by decide +kernel))) (by decide +kernel)), (ja_of_lw (List.mem_append_right _ (List.mem_of_getElem? (i := 1293) (by decide +kernel))) (by decide +kernel)), (ja_of_lw (List.mem_append_right _ (List.mem_of_getElem? (i := 1294) (by decide +kernel))) (by decide +kernel)), (ja_of_lw (List.mem_append_right _ (List.mem_of_getElem? (i := 14) (by decide +kernel))) (by decide +kernel)), (ja_of_lw (List.mem_append_right _ (List.mem_of_getElem? (i := 1295) (by decide +kernel))) (by decide +kernel)), ⟨⟨by decide +kernel, by decide +kernel, by decide +kernel⟩, by decide⟩, ⟨TX12, rfl⟩⟩
theorem mlL_43 : ja_LV RL 43 11 mX11_shadow 6 := ⟨(ja_of_lw (List.mem_append_right _ (List.mem_of_getElem? (i := 458) (by decide +kernel))) (by decide +kernel)), (ja_of_lw (List.mem_append_right _ (List.mem_of_getElem? (i := 459) (by decide +kernel))) (by decide +kernel)), (ja_of_lw (List.mem_append_right _ (List.mem_of_getElem? (i := 460) (by decide +kernel))) (by decide +kernel)), (ja_of_lw (List.mem_append_right _ (List.mem_of_getElem? (i := 1) (by decide +kernel))) (by decide +kernel)), (ja_of_lw (List.mem_append_right _ (List.mem_of_getElem? (i := 461) (by decide +kernel))) (by decide +kernel)), ⟨⟨by decide +kernel, by decide +kernel, by decide +kernel⟩, by decide⟩, ⟨TX11, rfl⟩⟩
theorem mlL_47 : ja_LV RL 47 12 mX12_shadow 6 := ⟨(ja_of_lw (List.mem_append_right _ (List.mem_of_getElem? (i := 1296) (by decide +kernel))) (by decide +kernel)), (ja_of_lw (List.mem_append_right _ (List.mem_of_getElem? (i := 1297) (by decide +kernel))) (by decide +kernel)), (ja_of_lw (List.mem_append_right _ (List.mem_of_getElem? (i := 1298) (by decide +kernel))) (by decide +kernel)), (ja_of_lw (List.mem_append_right _ (List.mem_of_getElem? (i := 14) (by decide +kernel))) (by decide +kernel)), (ja_of_lw (List.mem_append_right _ (List.mem_of_getElem? (i := 1299) (by decide +kernel))) (by decide +kernel)), ⟨⟨by decide +kernel, by decide +kernel, by decide +kernel⟩, by decide⟩, ⟨TX12, rfl⟩⟩
theorem mlL_48 : ja_LV RL 48 11 mX11_shine 1 := ⟨(ja_of_lw (List.mem_append_right _ (List.mem_of_getElem? (i := 498) (by decide +kernel))) (by decide +kernel)), (ja_of_lw (List.mem_append_right _ (List.mem_of_getElem? (i := 499) (by decide +kernel))) (by decide +kernel)), (ja_of_lw (List.mem_append_right _ (List.mem_of_getElem? (i := 500) (by decide +kernel))) (by decide +kernel)), (ja_of_lw (List.mem_append_right _ (List.mem_of_getElem? (i := 1) (by decide +kernel))) (by decide +kernel)), (ja_of_lw (List.mem_append_right _ (List.mem_of_getElem? (i := 501) (by decide +kernel))) (by decide +kernel)), ⟨⟨by decide +kernel, by decide +kernel, by decide +kernel⟩, by decide⟩, ⟨TX11, rfl⟩⟩
theorem mlL_52 : ja_LV RL 52 12 mX12_shine 1 := ⟨(ja_of_lw (List.mem_append_right _ (List.mem_of_getElem? (i := 1300) (by decide +kernel))) (by decide +kernel)), (ja_of_lw (List.mem_append_right _ (List.mem_of_getElem? (i := 1301) (by decide +kernel))) (by decide +kernel)), (ja_of_lw (List.mem_append_right _ (List.mem_of_getElem? (i := 1302) (by decide +kernel))) (by decide +kernel)), (ja_of_lw (List.mem_append_right _ (List.mem_of_getElem? (i := 14) (by decide +kernel))) (by decide +kernel)), (ja_of_lw (List.mem_append_right _ (List.mem_of_getElem? (i := 1303) (by decide +kernel))) (by decide +kernel)), ⟨⟨by decide +kernel, by decide +kernel, by decide +kernel⟩, by decide⟩, ⟨TX12, rfl⟩⟩
theorem mlL_53 : ja_LV RL 53 11 mX11_lamps 2 := ⟨(ja_of_lw (List.mem_append_right _ (List.mem_of_getElem? (i := 513) (by decide +kernel))) (by decide +kernel)), (ja_of_lw (List.mem_append_right _ (List.mem_of_getElem? (i := 514) (by decide +kernel))) (by decide +kernel)), (ja_of_lw (List.mem_append_right _ (List.mem_of_getElem? (i := 515) (by decide +kernel))) (by decide +kernel)), (ja_of_lw (List.mem_append_right _ (List.mem_of_getElem? (i := 1) (by decide +kernel))) (by decide +kernel)), (ja_of_lw (List.mem_append_right _ (List.mem_of_getElem? (i := 516) (by decide +kernel))) (by decide +kernel)), ⟨⟨by decide +kernel, by decide +kernel, by decide +kernel⟩, by decide⟩, ⟨TX11, rfl⟩⟩
theorem mlL_57 : ja_LV RL 57 12 mX12_lamps 2 := ⟨(ja_of_lw (List.mem_append_right _ (List.mem_of_getElem? (i := 1304) (by decide +kernel))) (by decide +kernel)), (ja_of_lw (List.mem_append_right _ (List.mem_of_getElem? (i := 1305) (by decide +kernel))) (by decide +kernel)), (ja_of_lw (List.mem_append_right _ (List.mem_of_getElem? (i := 1306) (by decide +kernel))) (by decide +kernel)), (ja_of_lw (List.mem_append_right _ (List.mem_of_getElem? (i := 14) (by decide +kernel))) (by decide +kernel)), (ja_of_lw (List.mem_append_right _ (List.mem_of_getElem? (i := 1307) (by decide +kernel))) (by decide +kernel)), ⟨⟨by decide +kernel, by decide +kernel, by decide +kernel⟩, by decide⟩, ⟨TX12, rfl⟩⟩
theorem mlL_58 : ja_LV RL 58 11 mX11_fight 2 := ⟨(ja_of_lw (List.mem_append_right _ (List.mem_of_getElem? (i := 533) (by decide +kernel))) (by decide +kernel)), (ja_of_lw (List.mem_append_right _ (List.mem_of_getElem? (i := 534) (by decide +kernel))) (by decide +kernel)), (ja_of_lw (List.mem_append_right _ (List.mem_of_getElem? (i := 535) (by decide +kernel))) (by decide +kernel)), (ja_of_lw (List.mem_append_right _ (List.mem_of_getElem? (i := 1) (by decide +kernel))) (by decide +kernel)), (ja_of_lw (List.mem_append_right _ (List.mem_of_getElem? (i := 536) (by decide +kernel))) (by decide +kernel)), ⟨⟨by decide +kernel, by decide +kernel, by decide +kernel⟩, by decide⟩, ⟨TX11, rfl⟩⟩
theorem mlL_61 : ja_LV RL 61 12 mX12_fight 2 := ⟨(ja_of_lw (List.mem_append_right _ (List.mem_of_getElem? (i := 1342) (by decide +kernel))) (by decide +kernel)), (ja_of_lw (List.mem_append_right _ (List.mem_of_getElem? (i := 1343) (by decide +kernel))) (by decide +kernel)), (ja_of_lw (List.mem_append_right _ (List.mem_of_getElem? (i := 1344) (by decide +kernel))) (by decide +kernel)), (ja_of_lw (List.mem_append_right _ (List.mem_of_getElem? (i := 14) (by decide +kernel))) (by decide +kernel)), (ja_of_lw (List.mem_append_right _ (List.mem_of_getElem? (i := 1345) (by decide +kernel))) (by decide +kernel)), ⟨⟨by decide +kernel, by decide +kernel, by decide +kernel⟩, by decide⟩, ⟨TX12, rfl⟩⟩
theorem mlL_62 : ja_LV RL 62 11 mX11_suns 2 := ⟨(ja_of_lw (List.mem_append_right _ (List.mem_of_getElem? (i := 552) (by decide +kernel))) (by decide +kernel)), (ja_of_lw (List.mem_append_right _ (List.mem_of_getElem? (i := 553) (by decide +kernel))) (by decide +kernel)), (ja_of_lw (List.mem_append_right _ (List.mem_of_getElem? (i := 554) (by decide +kernel))) (by decide +kernel)), (ja_of_lw (List.mem_append_right _ (List.mem_of_getElem? (i := 1) (by decide +kernel))) (by decide +kernel)), (ja_of_lw (List.mem_append_right _ (List.mem_of_getElem? (i := 555) (by decide +kernel))) (by decide +kernel)), ⟨⟨by decide +kernel, by decide +kernel, by decide +kernel⟩, by decide⟩, ⟨TX11, rfl⟩⟩
theorem mlL_65 : ja_LV RL 65 12 mX12_suns 2 := ⟨(ja_of_lw (List.mem_append_right _ (List.mem_of_getElem? (i := 1349) (by decide +kernel))) (by decide +kernel)), (ja_of_lw (List.mem_append_right _ (List.mem_of_getElem? (i := 1350) (by decide +kernel))) (by decide +kernel)), (ja_of_lw (List.mem_append_right _ (List.mem_of_getElem? (i := 1351) (by decide +kernel))) (by decide +kernel)), (ja_of_lw (List.mem_append_right _ (List.mem_of_getElem? (i := 14) (by decide +kernel))) (by decide +kernel)), (ja_of_lw (List.mem_append_right _ (List.mem_of_getElem? (i := 1352) (by decide +kernel))) (by decide +kernel)), ⟨⟨by decide +kernel, by decide +kernel, by decide +kernel⟩, by decide⟩, ⟨TX12, rfl⟩⟩
theorem mlL_66 : ja_LV RL 66 11 mX11_line 4 := ⟨(ja_of_lw (List.mem_append_right _ (List.mem_of_getElem? (i := 584) (by decide +kernel))) (by decide +kernel)), (ja_of_lw (List.mem_append_right _ (List.mem_of_getElem? (i := 585) (by decide +kernel))) (by decide +kernel)), (ja_of_lw (List.mem_append_right _ (List.mem_of_getElem? (i := 586) (by decide +kernel))) (by decide +kernel)), (ja_of_lw (List.mem_append_right _ (List.mem_of_getElem? (i := 1) (by decide +kernel))) (by decide +kernel)), (ja_of_lw (List.mem_append_right _ (List.mem_of_getElem? (i := 587) (by decide +kernel))) (by decide +kernel)), ⟨⟨by decide +kernel, by decide +kernel, by decide +kernel⟩, by decide⟩, ⟨TX11, rfl⟩⟩
theorem mlL_70 : ja_LV RL 70 12 mX12_line 4 := ⟨(ja_of_lw (List.mem_append_right _ (List.mem_of_getElem? (i := 1357) (by decide +kernel))) (by decide +kernel)), (ja_of_lw (List.mem_append_right _ (List.mem_of_getElem? (i := 1358) (by decide +kernel))) (by decide +kernel)), (ja_of_lw (List.mem_append_right _ (List.mem_of_getElem? (i := 1359) (by decide +kernel))) (by decide +kernel)), (ja_of_lw (List.mem_append_right _ (List.mem_of_getElem? (i := 14) (by decide +kernel))) (by decide +kernel)), (ja_of_lw (List.mem_append_right _ (List.mem_of_getElem? (i := 1360) (by decide +kernel))) (by decide +kernel)), ⟨⟨by decide +kernel, by decide +kernel, by decide +kernel⟩, by decide⟩, ⟨TX12, rfl⟩⟩
theorem mlL_71 : ja_LV RL 71 11 mX11_meet 2 := ⟨(ja_of_lw (List.mem_append_right _ (List.mem_of_getElem? (i := 593) (by decide +kernel))) (by decide +kernel)), (ja_of_lw (List.mem_append_right _ (List.mem_of_getElem? (i := 594) (by decide +kernel))) (by decide +kernel)), (ja_of_lw (List.mem_append_right _ (List.mem_of_getElem? (i := 595) (by decide +kernel))) (by decide +kernel)), (ja_of_lw (List.mem_append_right _ (List.mem_of_getElem? (i := 1) (by decide +kernel))) (by decide +kernel)), (ja_of_lw (List.mem_append_right _ (List.mem_of_getElem? (i := 596) (by decide +kernel))) (by decide +kernel)), ⟨⟨by decide +kernel, by decide +kernel, by decide +kernel⟩, by decide⟩, ⟨TX11, rfl⟩⟩
theorem mlL_74 : ja_LV RL 74 12 mX12_meet 2 := ⟨(ja_of_lw (List.mem_append_right _ (List.mem_of_getElem? (i := 1364) (by decide +kernel))) (by decide +kernel)), (ja_of_lw (List.mem_append_right _ (List.mem_of_getElem? (i := 1365) (by decide +kernel))) (by decide +kernel)), (ja_of_lw (List.mem_append_right _ (List.mem_of_getElem? (i := 1366) (by decide +kernel))) (by decide +kernel)), (ja_of_lw (List.mem_append_right _ (List.mem_of_getElem? (i := 14) (by decide +kernel))) (by decide +kernel)), (ja_of_lw (List.mem_append_right _ (List.mem_of_getElem? (i := 1367) (by decide +kernel))) (by decide +kernel)), ⟨⟨by decide +kernel, by decide +kernel, by decide +kernel⟩, by decide⟩, ⟨TX12, rfl⟩⟩
theorem mlL_75 : ja_LV RL 75 11 mX11_rough 5 := ⟨(ja_of_lw (List.mem_append_right _ (List.mem_of_getElem? (i := 618) (by decide +kernel))) (by decide +kernel)), (ja_of_lw (List.mem_append_right _ (List.mem_of_getElem? (i := 619) (by decide +kernel))) (by decide +kernel)), (ja_of_lw (List.mem_append_right _ (List.mem_of_getElem? (i := 620) (by decide +kernel))) (by decide +kernel)), (ja_of_lw (List.mem_append_right _ (List.mem_of_getElem? (i := 1) (by decide +kernel))) (by decide +kernel)), (ja_of_lw (List.mem_append_right _ (List.mem_of_getElem? (i := 621) (by decide +kernel))) (by decide +kernel)), ⟨⟨by decide +kernel, by decide +kernel, by decide +kernel⟩, by decide⟩, ⟨TX11, rfl⟩⟩
theorem mlL_79 : ja_LV RL 79 12 mX12_rough 5 := ⟨(ja_of_lw (List.mem_append_right _ (List.mem_of_getElem? (i := 1372) (by decide +kernel))) (by decide +kernel)), (ja_of_lw (List.mem_append_right _ (List.mem_of_getElem? (i := 1373) (by decide +kernel))) (by decide +kernel)), (ja_of_lw (List.mem_append_right _ (List.mem_of_getElem? (i := 1374) (by decide +kernel))) (by decide +kernel)), (ja_of_lw (List.mem_append_right _ (List.mem_of_getElem? (i := 14) (by decide +kernel))) (by decide +kernel)), (ja_of_lw (List.mem_append_right _ (List.mem_of_getElem? (i := 1375) (by decide +kernel))) (by decide +kernel)), ⟨⟨by decide +kernel, by decide +kernel, by decide +kernel⟩, by decide⟩, ⟨TX12, rfl⟩⟩
theorem mlL_80 : ja_LV RL 80 11 mX11_grain 3 := ⟨(ja_of_lw (List.mem_append_right _ (List.mem_of_getElem? (i := 633) (by decide +kernel))) (by decide +kernel)), (ja_of_lw (List.mem_append_right _ (List.mem_of_getElem? (i := 634) (by decide +kernel))) (by decide +kernel)), (ja_of_lw (List.mem_append_right _ (List.mem_of_getElem? (i := 635) (by decide +kernel))) (by decide +kernel)), (ja_of_lw (List.mem_append_right _ (List.mem_of_getElem? (i := 1) (by decide +kernel))) (by decide +kernel)), (ja_of_lw (List.mem_append_right _ (List.mem_of_getElem? (i := 636) (by decide +kernel))) (by decide +kernel)), ⟨⟨by decide +kernel, by decide +kernel, by decide +kernel⟩, by decide⟩, ⟨TX11, rfl⟩⟩
theorem mlL_83 : ja_LV RL 83 12 mX12_grain 3 := ⟨(ja_of_lw (List.mem_append_right _ (List.mem_of_getElem? (i := 1384) (by decide +kernel))) (by decide +kernel)), (ja_of_lw (List.mem_append_right _ (List.mem_of_getElem? (i := 1385) (by decide +kernel))) (by decide +kernel)), (ja_of_lw (List.mem_append_right _ (List.mem_of_getElem? (i := 1386) (by decide +kernel))) (by decide +kernel)), (ja_of_lw (List.mem_append_right _ (List.mem_of_getElem? (i := 14) (by decide +kernel))) (by decide +kernel)), (ja_of_lw (List.mem_append_right _ (List.mem_of_getElem? (i := 1387) (by decide +kernel))) (by decide +kernel)), ⟨⟨by decide +kernel, by decide +kernel, by decide +kernel⟩, by decide⟩, ⟨TX12, rfl⟩⟩
theorem mlL_84 : ja_LV RL 84 11 mX11_squares 6 := ⟨(ja_of_lw (List.mem_append_right _ (List.mem_of_getElem? (i := 669) (by decide +kernel))) (by decide +kernel)), (ja_of_lw (List.mem_append_right _ (List.mem_of_getElem? (i := 670) (by decide +kernel))) (by decide +kernel)), (ja_of_lw (List.mem_append_right _ (List.mem_of_getElem? (i := 671) (by decide +kernel))) (by decide +kernel)), (ja_of_lw (List.mem_append_right _ (List.mem_of_getElem? (i := 1) (by decide +kernel))) (by decide +kernel)), (ja_of_lw (List.mem_append_right _ (List.mem_of_getElem? (i := 672) (by decide +kernel))) (by decide +kernel)), ⟨⟨by decide +kernel, by decide +kernel, by decide +kernel⟩, by decide⟩, ⟨TX11, rfl⟩⟩
theorem mlL_88 : ja_LV RL 88 12 mX12_squares 6 := ⟨(ja_of_lw (List.mem_append_right _ (List.mem_of_getElem? (i := 1404) (by decide +kernel))) (by decide +kernel)), (ja_of_lw (List.mem_append_right _ (List.mem_of_getElem? (i := 1405) (by decide +kernel))) (by decide +kernel)), (ja_of_lw (List.mem_append_right _ (List.mem_of_getElem? (i := 1406) (by decide +kernel))) (by decide +kernel)), (ja_of_lw (List.mem_append_right _ (List.mem_of_getElem? (i := 14) (by decide +kernel))) (by decide +kernel)), (ja_of_lw (List.mem_append_right _ (List.mem_of_getElem? (i := 1407) (by decide +kernel))) (by decide +kernel)), ⟨⟨by decide +kernel, by decide +kernel, by decide +kernel⟩, by decide⟩, ⟨TX12, rfl⟩⟩
theorem mlL_89 : ja_LV RL 89 11 mX11_twice 4 := ⟨(ja_of_lw (List.mem_append_right _ (List.mem_of_getElem? (i := 688) (by decide +kernel))) (by decide +kernel)), (ja_of_lw (List.mem_append_right _ (List.mem_of_getElem? (i := 689) (by decide +kernel))) (by decide +kernel)), (ja_of_lw (List.mem_append_right _ (List.mem_of_getElem? (i := 690) (by decide +kernel))) (by decide +kernel)), (ja_of_lw (List.mem_append_right _ (List.mem_of_getElem? (i := 1) (by decide +kernel))) (by decide +kernel)), (ja_of_lw (List.mem_append_right _ (List.mem_of_getElem? (i := 691) (by decide +kernel))) (by decide +kernel)), ⟨⟨by decide +kernel, by decide +kernel, by decide +kernel⟩, by decide⟩, ⟨TX11, rfl⟩⟩
theorem mlL_92 : ja_LV RL 92 12 mX12_twice 4 := ⟨(ja_of_lw (List.mem_append_right _ (List.mem_of_getElem? (i := 1408) (by decide +kernel))) (by decide +kernel)), (ja_of_lw (List.mem_append_right _ (List.mem_of_getElem? (i := 1409) (by decide +kernel))) (by decide +kernel)), (ja_of_lw (List.mem_append_right _ (List.mem_of_getElem? (i := 1410) (by decide +kernel))) (by decide +kernel)), (ja_of_lw (List.mem_append_right _ (List.mem_of_getElem? (i := 14) (by decide +kernel))) (by decide +kernel)), (ja_of_lw (List.mem_append_right _ (List.mem_of_getElem? (i := 1411) (by decide +kernel))) (by decide +kernel)), ⟨⟨by decide +kernel, by decide +kernel, by decide +kernel⟩, by decide⟩, ⟨TX12, rfl⟩⟩
theorem mlL_93 : ja_LV RL 93 11 mX11_two 3 := ⟨(ja_of_lw (List.mem_append_right _ (List.mem_of_getElem? (i := 726) (by decide +kernel))) (by decide +kernel)), (ja_of_lw (List.mem_append_right _ (List.mem_of_getElem? (i := 727) (by decide +kernel))) (by decide +kernel)), (ja_of_lw (List.mem_append_right _ (List.mem_of_getElem? (i := 728) (by decide +kernel))) (by decide +kernel)), (ja_of_lw (List.mem_append_right _ (List.mem_of_getElem? (i := 1) (by decide +kernel))) (by decide +kernel)), (ja_of_lw (List.mem_append_right _ (List.mem_of_getElem? (i := 729) (by decide +kernel))) (by decide +kernel)), ⟨⟨by decide +kernel, by decide +kernel, by decide +kernel⟩, by decide⟩, ⟨TX11, rfl⟩⟩
theorem mlL_96 : ja_LV RL 96 12 mX12_two 3 := ⟨(ja_of_lw (List.mem_append_right _ (List.mem_of_getElem? (i := 1430) (by decide +kernel))) (by decide +kernel)), (ja_of_lw (List.mem_append_right _ (List.mem_of_getElem? (i := 1431) (by decide +kernel))) (by decide +kernel)), (ja_of_lw (List.mem_append_right _ (List.mem_of_getElem? (i := 1432) (by decide +kernel))) (by decide +kernel)), (ja_of_lw (List.mem_append_right _ (List.mem_of_getElem? (i := 14) (by decide +kernel))) (by decide +kernel)), (ja_of_lw (List.mem_append_right _ (List.mem_of_getElem? (i := 1433) (by decide +kernel))) (by decide +kernel)), ⟨⟨by decide +kernel, by decide +kernel, by decide +kernel⟩, by decide⟩, ⟨TX12, rfl⟩⟩
theorem mlL_97 : ja_LV RL 97 11 mX11_feed 5 := ⟨(ja_of_lw (List.mem_append_right _ (List.mem_of_getElem? (i := 750) (by decide +kernel))) (by decide +kernel)), (ja_of_lw (List.mem_append_right _ (List.mem_of_getElem? (i := 751) (by decide +kernel))) (by decide +kernel)), (ja_of_lw (List.mem_append_right _ (List.mem_of_getElem? (i := 752) (by decide +kernel))) (by decide +kernel)), (ja_of_lw (List.mem_append_right _ (List.mem_of_getElem? (i := 1) (by decide +kernel))) (by decide +kernel)), (ja_of_lw (List.mem_append_right _ (List.mem_of_getElem? (i := 753) (by decide +kernel))) (by decide +kernel)), ⟨⟨by decide +kernel, by decide +kernel, by decide +kernel⟩, by decide⟩, ⟨TX11, rfl⟩⟩
theorem mlL_100 : ja_LV RL 100 12 mX12_feed 5 := ⟨(ja_of_lw (List.mem_append_right _ (List.mem_of_getElem? (i := 1438) (by decide +kernel))) (by decide +kernel)), (ja_of_lw (List.mem_append_right _ (List.mem_of_getElem? (i := 1439) (by decide +kernel))) (by decide +kernel)), (ja_of_lw (List.mem_append_right _ (List.mem_of_getElem? (i := 1440) (by decide +kernel))) (by decide +kernel)), (ja_of_lw (List.mem_append_right _ (List.mem_of_getElem? (i := 14) (by decide +kernel))) (by decide +kernel)), (ja_of_lw (List.mem_append_right _ (List.mem_of_getElem? (i := 1441) (by decide +kernel))) (by decide +kernel)), ⟨⟨by decide +kernel, by decide +kernel, by decide +kernel⟩, by decide⟩, ⟨TX12, rfl⟩⟩
theorem mlL_101 : ja_LV RL 101 11 mX11_end 1 := ⟨(ja_of_lw (List.mem_append_right _ (List.mem_of_getElem? (i := 759) (by decide +kernel))) (by decide +kernel)), (ja_of_lw (List.mem_append_right _ (List.mem_of_getElem? (i := 760) (by decide +kernel))) (by decide +kernel)), (ja_of_lw (List.mem_append_right _ (List.mem_of_getElem? (i := 761) (by decide +kernel))) (by decide +kernel)), (ja_of_lw (List.mem_append_right _ (List.mem_of_getElem? (i := 1) (by decide +kernel))) (by decide +kernel)), (ja_of_lw (List.mem_append_right _ (List.mem_of_getElem? (i := 762) (by decide +kernel))) (by decide +kernel)), ⟨⟨by decide +kernel, by decide +kernel, by decide +kernel⟩, by decide⟩, ⟨TX11, rfl⟩⟩
theorem mlL_104 : ja_LV RL 104 12 mX12_end 1 := ⟨(ja_of_lw (List.mem_append_right _ (List.mem_of_getElem? (i := 1446) (by decide +kernel))) (by decide +kernel)), (ja_of_lw (List.mem_append_right _ (List.mem_of_getElem? (i := 1447) (by decide +kernel))) (by decide +kernel)), (ja_of_lw (List.mem_append_right _ (List.mem_of_getElem? (i := 1448) (by decide +kernel))) (by decide +kernel)), (ja_of_lw (List.mem_append_right _ (List.mem_of_getElem? (i := 14) (by decide +kernel))) (by decide +kernel)), (ja_of_lw (List.mem_append_right _ (List.mem_of_getElem? (i := 1449) (by decide +kernel))) (by decide +kernel)), ⟨⟨by decide +kernel, by decide +kernel, by decide +kernel⟩, by decide⟩, ⟨TX12, rfl⟩⟩
theorem mlL_105 : ja_LV RL 105 11 mX11_text 0 := ⟨(ja_of_lw (List.mem_append_right _ (List.mem_of_getElem? (i := 763) (by decide +kernel))) (by decide +kernel)), (ja_of_lw (List.mem_append_right _ (List.mem_of_getElem? (i := 764) (by decide +kernel))) (by decide +kernel)), (ja_of_lw (List.mem_append_right _ (List.mem_of_getElem? (i := 765) (by decide +kernel))) (by decide +kernel)), (ja_of_lw (List.mem_append_right _ (List.mem_of_getElem? (i := 1) (by decide +kernel))) (by decide +kernel)), (ja_of_lw (List.mem_append_right _ (List.mem_of_getElem? (i := 766) (by decide +kernel))) (by decide +kernel)), ⟨⟨by decide +kernel, by decide +kernel, by decide +kernel⟩, by decide⟩, ⟨TX11, rfl⟩⟩
theorem mlL_109 : ja_LV RL 109 12 mX12_text 0 := ⟨(ja_of_lw (List.mem_append_right _ (List.mem_of_getElem? (i := 1450) (by decide +kernel))) (by decide +kernel)), (ja_of_lw (List.mem_append_right _ (List.mem_of_getElem? (i := 1451) (by decide +kernel))) (by decide +kernel)), (ja_of_lw (List.mem_append_right _ (List.mem_of_getElem? (i := 1452) (by decide +kernel))) (by decide +kernel)), (ja_of_lw (List.mem_append_right _ (List.mem_of_getElem? (i := 14) (by decide +kernel))) (by decide +kernel)), (ja_of_lw (List.mem_append_right _ (List.mem_of_getElem? (i := 1453) (by decide +kernel))) (by decide +kernel)), ⟨⟨by decide +kernel, by decide +kernel, by decide +kernel⟩, by decide⟩, ⟨TX12, rfl⟩⟩
theorem mlL_110 : ja_LV RL 110 11 mX11_fault 1 := ⟨(ja_of_lw (List.mem_append_right _ (List.mem_of_getElem? (i := 950) (by decide +kernel))) (by decide +kernel)), (ja_of_lw (List.mem_append_right _ (List.mem_of_getElem? (i := 951) (by decide +kernel))) (by decide +kernel)), (ja_of_lw (List.mem_append_right _ (List.mem_of_getElem? (i := 952) (by decide +kernel))) (by decide +kernel)), (ja_of_lw (List.mem_append_right _ (List.mem_of_getElem? (i := 1) (by decide +kernel))) (by decide +kernel)), (ja_of_lw (List.mem_append_right _ (List.mem_of_getElem? (i := 953) (by decide +kernel))) (by decide +kernel)), ⟨⟨by decide +kernel, by decide +kernel, by decide +kernel⟩, by decide⟩, ⟨TX11, rfl⟩⟩
theorem mlL_113 : ja_LV RL 113 12 mX12_fault 1 := ⟨(ja_of_lw (List.mem_append_right _ (List.mem_of_getElem? (i := 1565) (by decide +kernel))) (by decide +kernel)), (ja_of_lw (List.mem_append_right _ (List.mem_of_getElem? (i := 1566) (by decide +kernel))) (by decide +kernel)), (ja_of_lw (List.mem_append_right _ (List.mem_of_getElem? (i := 1567) (by decide +kernel))) (by decide +kernel)), (ja_of_lw (List.mem_append_right _ (List.mem_of_getElem? (i := 14) (by decide +kernel))) (by decide +kernel)), (ja_of_lw (List.mem_append_right _ (List.mem_of_getElem? (i := 1568) (by decide +kernel))) (by decide +kernel)), ⟨⟨by decide +kernel, by decide +kernel, by decide +kernel⟩, by decide⟩, ⟨TX12, rfl⟩⟩
theorem mlL_114 : ja_LV RL 114 11 mX11_act 2 := ⟨(ja_of_lw (List.mem_append_right _ (List.mem_of_getElem? (i := 954) (by decide +kernel))) (by decide +kernel)), (ja_of_lw (List.mem_append_right _ (List.mem_of_getElem? (i := 955) (by decide +kernel))) (by decide +kernel)), (ja_of_lw (List.mem_append_right _ (List.mem_of_getElem? (i := 956) (by decide +kernel))) (by decide +kernel)), (ja_of_lw (List.mem_append_right _ (List.mem_of_getElem? (i := 1) (by decide +kernel))) (by decide +kernel)), (ja_of_lw (List.mem_append_right _ (List.mem_of_getElem? (i := 957) (by decide +kernel))) (by decide +kernel)), ⟨⟨by decide +kernel, by decide +kernel, by decide +kernel⟩, by decide⟩, ⟨TX11, rfl⟩⟩
theorem mlL_117 : ja_LV RL 117 12 mX12_act 2 := ⟨(ja_of_lw (List.mem_append_right _ (List.mem_of_getElem? (i := 1569) (by decide +kernel))) (by decide +kernel)), (ja_of_lw (List.mem_append_right _ (List.mem_of_getElem? (i := 1570) (by decide +kernel))) (by decide +kernel)), (ja_of_lw (List.mem_append_right _ (List.mem_of_getElem? (i := 1571) (by decide +kernel))) (by decide +kernel)), (ja_of_lw (List.mem_append_right _ (List.mem_of_getElem? (i := 14) (by decide +kernel))) (by decide +kernel)), (ja_of_lw (List.mem_append_right _ (List.mem_of_getElem? (i := 1572) (by decide +kernel))) (by decide +kernel)), ⟨⟨by decide +kernel, by decide +kernel, by decide +kernel⟩, by decide⟩, ⟨TX12, rfl⟩⟩
theorem mlL_118 : ja_LV RL 118 11 mX11_story 3 := ⟨(ja_of_lw (List.mem_append_right _ (List.mem_of_getElem? (i := 1024) (by decide +kernel))) (by decide +kernel)), (ja_of_lw (List.mem_append_right _ (List.mem_of_getElem? (i := 1025) (by decide +kernel))) (by decide +kernel)), (ja_of_lw (List.mem_append_right _ (List.mem_of_getElem? (i := 1026) (by decide +kernel))) (by decide +kernel)), (ja_of_lw (List.mem_append_right _ (List.mem_of_getElem? (i := 1) (by decide +kernel))) (by decide +kernel)), (ja_of_lw (List.mem_append_right _ (List.mem_of_getElem? (i := 1027) (by decide +kernel))) (by decide +kernel)), ⟨⟨by decide +kernel, by decide +kernel, by decide +kernel⟩, by decide⟩, ⟨TX11, rfl⟩⟩
theorem mlL_121 : ja_LV RL 121 12 mX12_story 3 := ⟨(ja_of_lw (List.mem_append_right _ (List.mem_of_getElem? (i := 1609) (by decide +kernel))) (by decide +kernel)), (ja_of_lw (List.mem_append_right _ (List.mem_of_getElem? (i := 1610) (by decide +kernel))) (by decide +kernel)), (ja_of_lw (List.mem_append_right _ (List.mem_of_getElem? (i := 1611) (by decide +kernel))) (by decide +kernel)), (ja_of_lw (List.mem_append_right _ (List.mem_of_getElem? (i := 14) (by decide +kernel))) (by decide +kernel)), (ja_of_lw (List.mem_append_right _ (List.mem_of_getElem? (i := 1612) (by decide +kernel))) (by decide +kernel)), ⟨⟨by decide +kernel, by decide +kernel, by decide +kernel⟩, by decide⟩, ⟨TX12, rfl⟩⟩
theorem mlL_122 : ja_LV RL 122 11 mX11_maker 2 := ⟨(ja_of_lw (List.mem_append_right _ (List.mem_of_getElem? (i := 1057) (by decide +kernel))) (by decide +kernel)), (ja_of_lw (List.mem_append_right _ (List.mem_of_getElem? (i := 1058) (by decide +kernel))) (by decide +kernel)), (ja_of_lw (List.mem_append_right _ (List.mem_of_getElem? (i := 1059) (by decide +kernel))) (by decide +kernel)), (ja_of_lw (List.mem_append_right _ (List.mem_of_getElem? (i := 1) (by decide +kernel))) (by decide +kernel)), (ja_of_lw (List.mem_append_right _ (List.mem_of_getElem? (i := 1060) (by decide +kernel))) (by decide +kernel)), ⟨⟨by decide +kernel, by decide +kernel, by decide +kernel⟩, by decide⟩, ⟨TX11, rfl⟩⟩
theorem mlL_125 : ja_LV RL 125 12 mX12_maker 2 := ⟨(ja_of_lw (List.mem_append_right _ (List.mem_of_getElem? (i := 1617) (by decide +kernel))) (by decide +kernel)), (ja_of_lw (List.mem_append_right _ (List.mem_of_getElem? (i := 1618) (by decide +kernel))) (by decide +kernel)), (ja_of_lw (List.mem_append_right _ (List.mem_of_getElem? (i := 1619) (by decide +kernel))) (by decide +kernel)), (ja_of_lw (List.mem_append_right _ (List.mem_of_getElem? (i := 14) (by decide +kernel))) (by decide +kernel)), (ja_of_lw (List.mem_append_right _ (List.mem_of_getElem? (i := 1620) (by decide +kernel))) (by decide +kernel)), ⟨⟨by decide +kernel, by decide +kernel, by decide +kernel⟩, by decide⟩, ⟨TX12, rfl⟩⟩
theorem mlL_126 : ja_LV RL 126 11 mX11_habit 3 := ⟨(ja_of_lw (List.mem_append_right _ (List.mem_of_getElem? (i := 1064) (by decide +kernel))) (by decide +kernel)), (ja_of_lw (List.mem_append_right _ (List.mem_of_getElem? (i := 1065) (by decide +kernel))) (by decide +kernel)), (ja_of_lw (List.mem_append_right _ (List.mem_of_getElem? (i := 1066) (by decide +kernel))) (by decide +kernel)), (ja_of_lw (List.mem_append_right _ (List.mem_of_getElem? (i := 1) (by decide +kernel))) (by decide +kernel)), (ja_of_lw (List.mem_append_right _ (List.mem_of_getElem? (i := 1067) (by decide +kernel))) (by decide +kernel)), ⟨⟨by decide +kernel, by decide +kernel, by decide +kernel⟩, by decide⟩, ⟨TX11, rfl⟩⟩
theorem mlL_130 : ja_LV RL 130 12 mX12_habit 3 := ⟨(ja_of_lw (List.mem_append_right _ (List.mem_of_getElem? (i := 1624) (by decide +kernel))) (by decide +kernel)), (ja_of_lw (List.mem_append_right _ (List.mem_of_getElem? (i := 1625) (by decide +kernel))) (by decide +kernel)), (ja_of_lw (List.mem_append_right _ (List.mem_of_getElem? (i := 1626) (by decide +kernel))) (by decide +kernel)), (ja_of_lw (List.mem_append_right _ (List.mem_of_getElem? (i := 14) (by decide +kernel))) (by decide +kernel)), (ja_of_lw (List.mem_append_right _ (List.mem_of_getElem? (i := 1627) (by decide +kernel))) (by decide +kernel)), ⟨⟨by decide +kernel, by decide +kernel, by decide +kernel⟩, by decide⟩, ⟨TX12, rfl⟩⟩
theorem mlL_131 : ja_LV RL 131 11 mX11_wane 1 := ⟨(ja_of_lw (List.mem_append_right _ (List.mem_of_getElem? (i := 1068) (by decide +kernel))) (by decide +kernel)), (ja_of_lw (List.mem_append_right _ (List.mem_of_getElem? (i := 1069) (by decide +kernel))) (by decide +kernel)), (ja_of_lw (List.mem_append_right _ (List.mem_of_getElem? (i := 1070) (by decide +kernel))) (by decide +kernel)), (ja_of_lw (List.mem_append_right _ (List.mem_of_getElem? (i := 1) (by decide +kernel))) (by decide +kernel)), (ja_of_lw (List.mem_append_right _ (List.mem_of_getElem? (i := 1071) (by decide +kernel))) (by decide +kernel)), ⟨⟨by decide +kernel, by decide +kernel, by decide +kernel⟩, by decide⟩, ⟨TX11, rfl⟩⟩
theorem mlL_135 : ja_LV RL 135 12 mX12_wane 1 := ⟨(ja_of_lw (List.mem_append_right _ (List.mem_of_getElem? (i := 1628) (by decide +kernel))) (by decide +kernel)), (ja_of_lw (List.mem_append_right _ (List.mem_of_getElem? (i := 1629) (by decide +kernel))) (by decide +kernel)), (ja_of_lw (List.mem_append_right _ (List.mem_of_getElem? (i := 1630) (by decide +kernel))) (by decide +kernel)), (ja_of_lw (List.mem_append_right _ (List.mem_of_getElem? (i := 14) (by decide +kernel))) (by decide +kernel)), (ja_of_lw (List.mem_append_right _ (List.mem_of_getElem? (i := 1631) (by decide +kernel))) (by decide +kernel)), ⟨⟨by decide +kernel, by decide +kernel, by decide +kernel⟩, by decide⟩, ⟨TX12, rfl⟩⟩
theorem mlL_136 : ja_LV RL 136 11 mX11_odds 3 := ⟨(ja_of_lw (List.mem_append_right _ (List.mem_of_getElem? (i := 1072) (by decide +kernel))) (by decide +kernel)), (ja_of_lw (List.mem_append_right _ (List.mem_of_getElem? (i := 1073) (by decide +kernel))) (by decide +kernel)), (ja_of_lw (List.mem_append_right _ (List.mem_of_getElem? (i := 1074) (by decide +kernel))) (by decide +kernel)), (ja_of_lw (List.mem_append_right _ (List.mem_of_getElem? (i := 1) (by decide +kernel))) (by decide +kernel)), (ja_of_lw (List.mem_append_right _ (List.mem_of_getElem? (i := 1075) (by decide +kernel))) (by decide +kernel)), ⟨⟨by decide +kernel, by decide +kernel, by decide +kernel⟩, by decide⟩, ⟨TX11, rfl⟩⟩
theorem mlL_139 : ja_LV RL 139 12 mX12_odds 3 := ⟨(ja_of_lw (List.mem_append_right _ (List.mem_of_getElem? (i := 1632) (by decide +kernel))) (by decide +kernel)), (ja_of_lw (List.mem_append_right _ (List.mem_of_getElem? (i := 1633) (by decide +kernel))) (by decide +kernel)), (ja_of_lw (List.mem_append_right _ (List.mem_of_getElem? (i := 1634) (by decide +kernel))) (by decide +kernel)), (ja_of_lw (List.mem_append_right _ (List.mem_of_getElem? (i := 14) (by decide +kernel))) (by decide +kernel)), (ja_of_lw (List.mem_append_right _ (List.mem_of_getElem? (i := 1635) (by decide +kernel))) (by decide +kernel)), ⟨⟨by decide +kernel, by decide +kernel, by decide +kernel⟩, by decide⟩, ⟨TX12, rfl⟩⟩
theorem mlL_140 : ja_LV RL 140 11 mX11_say 4 := ⟨(ja_of_lw (List.mem_append_right _ (List.mem_of_getElem? (i := 1086) (by decide +kernel))) (by decide +kernel)), (ja_of_lw (List.mem_append_right _ (List.mem_of_getElem? (i := 1087) (by decide +kernel))) (by decide +kernel)), (ja_of_lw (List.mem_append_right _ (List.mem_of_getElem? (i := 1088) (by decide +kernel))) (by decide +kernel)), (ja_of_lw (List.mem_append_right _ (List.mem_of_getElem? (i := 1) (by decide +kernel))) (by decide +kernel)), (ja_of_lw (List.mem_append_right _ (List.mem_of_getElem? (i := 1089) (by decide +kernel))) (by decide +kernel)), ⟨⟨by decide +kernel, by decide +kernel, by decide +kernel⟩, by decide⟩, ⟨TX11, rfl⟩⟩
theorem mlL_143 : ja_LV RL 143 12 mX12_say 4 := ⟨(ja_of_lw (List.mem_append_right _ (List.mem_of_getElem? (i := 1641) (by decide +kernel))) (by decide +kernel)), (ja_of_lw (List.mem_append_right _ (List.mem_of_getElem? (i := 1642) (by decide +kernel))) (by decide +kernel)), (ja_of_lw (List.mem_append_right _ (List.mem_of_getElem? (i := 1643) (by decide +kernel))) (by decide +kernel)), (ja_of_lw (List.mem_append_right _ (List.mem_of_getElem? (i := 14) (by decide +kernel))) (by decide +kernel)), (ja_of_lw (List.mem_append_right _ (List.mem_of_getElem? (i := 1644) (by decide +kernel))) (by decide +kernel)), ⟨⟨by decide +kernel, by decide +kernel, by decide +kernel⟩, by decide⟩, ⟨TX12, rfl⟩⟩
theorem mlL_144 : ja_LV RL 144 11 mX11_image 0 := ⟨(ja_of_lw (List.mem_append_right _ (List.mem_of_getElem? (i := 1098) (by decide +kernel))) (by decide +kernel)), (ja_of_lw (List.mem_append_right _ (List.mem_of_getElem? (i := 1099) (by decide +kernel))) (by decide +kernel)), (ja_of_lw (List.mem_append_right _ (List.mem_of_getElem? (i := 1100) (by decide +kernel))) (by decide +kernel)), (ja_of_lw (List.mem_append_right _ (List.mem_of_getElem? (i := 1) (by decide +kernel))) (by decide +kernel)), (ja_of_lw (List.mem_append_right _ (List.mem_of_getElem? (i := 1101) (by decide +kernel))) (by decide +kernel)), ⟨⟨by decide +kernel, by decide +kernel, by decide +kernel⟩, by decide⟩, ⟨TX11, rfl⟩⟩
theorem mlL_147 : ja_LV RL 147 12 mX12_image 0 := ⟨(ja_of_lw (List.mem_append_right _ (List.mem_of_getElem? (i := 1645) (by decide +kernel))) (by decide +kernel)), (ja_of_lw (List.mem_append_right _ (List.mem_of_getElem? (i := 1646) (by decide +kernel))) (by decide +kernel)), (ja_of_lw (List.mem_append_right _ (List.mem_of_getElem? (i := 1647) (by decide +kernel))) (by decide +kernel)), (ja_of_lw (List.mem_append_right _ (List.mem_of_getElem? (i := 14) (by decide +kernel))) (by decide +kernel)), (ja_of_lw (List.mem_append_right _ (List.mem_of_getElem? (i := 1648) (by decide +kernel))) (by decide +kernel)), ⟨⟨by decide +kernel, by decide +kernel, by decide +kernel⟩, by decide⟩, ⟨TX12, rfl⟩⟩
theorem mlL_148 : ja_LV RL 148 11 mX11_back 0 := ⟨(ja_of_lw (List.mem_append_right _ (List.mem_of_getElem? (i := 1109) (by decide +kernel))) (by decide +kernel)), (ja_of_lw (List.mem_append_right _ (List.mem_of_getElem? (i := 1110) (by decide +kernel))) (by decide +kernel)), (ja_of_lw (List.mem_append_right _ (List.mem_of_getElem? (i := 1111) (by decide +kernel))) (by decide +kernel)), (ja_of_lw (List.mem_append_right _ (List.mem_of_getElem? (i := 1) (by decide +kernel))) (by decide +kernel)), (ja_of_lw (List.mem_append_right _ (List.mem_of_getElem? (i := 1112) (by decide +kernel))) (by decide +kernel)), ⟨⟨by decide +kernel, by decide +kernel, by decide +kernel⟩, by decide⟩, ⟨TX11, rfl⟩⟩
theorem mlL_151 : ja_LV RL 151 12 mX12_back 0 := ⟨(ja_of_lw (List.mem_append_right _ (List.mem_of_getElem? (i := 1649) (by decide +kernel))) (by decide +kernel)), (ja_of_lw (List.mem_append_right _ (List.mem_of_getElem? (i := 1650) (by decide +kernel))) (by decide +kernel)), (ja_of_lw (List.mem_append_right _ (List.mem_of_getElem? (i := 1651) (by decide +kernel))) (by decide +kernel)), (ja_of_lw (List.mem_append_right _ (List.mem_of_getElem? (i := 14) (by decide +kernel))) (by decide +kernel)), (ja_of_lw (List.mem_append_right _ (List.mem_of_getElem? (i := 1652) (by decide +kernel))) (by decide +kernel)), ⟨⟨by decide +kernel, by decide +kernel, by decide +kernel⟩, by decide⟩, ⟨TX12, rfl⟩⟩
theorem mlL_152 : ja_LV RL 152 11 mX11_about 1 := ⟨(ja_of_lw (List.mem_append_right _ (List.mem_of_getElem? (i := 1113) (by decide +kernel))) (by decide +kernel)), (ja_of_lw (List.mem_append_right _ (List.mem_of_getElem? (i := 1114) (by decide +kernel))) (by decide +kernel)), (ja_of_lw (List.mem_append_right _ (List.mem_of_getElem? (i := 1115) (by decide +kernel))) (by decide +kernel)), (ja_of_lw (List.mem_append_right _ (List.mem_of_getElem? (i := 1) (by decide +kernel))) (by decide +kernel)), (ja_of_lw (List.mem_append_right _ (List.mem_of_getElem? (i := 1116) (by decide +kernel))) (by decide +kernel)), ⟨⟨by decide +kernel, by decide +kernel, by decide +kernel⟩, by decide⟩, ⟨TX11, rfl⟩⟩
theorem mlL_155 : ja_LV RL 155 12 mX12_about 1 := ⟨(ja_of_lw (List.mem_append_right _ (List.mem_of_getElem? (i := 1653) (by decide +kernel))) (by decide +kernel)), (ja_of_lw (List.mem_append_right _ (List.mem_of_getElem? (i := 1654) (by decide +kernel))) (by decide +kernel)), (ja_of_lw (List.mem_append_right _ (List.mem_of_getElem? (i := 1655) (by decide +kernel))) (by decide +kernel)), (ja_of_lw (List.mem_append_right _ (List.mem_of_getElem? (i := 14) (by decide +kernel))) (by decide +kernel)), (ja_of_lw (List.mem_append_right _ (List.mem_of_getElem? (i := 1656) (by decide +kernel))) (by decide +kernel)), ⟨⟨by decide +kernel, by decide +kernel, by decide +kernel⟩, by decide⟩, ⟨TX12, rfl⟩⟩
theorem cwL_26 : Cond.constantLong RL 26 (Int64.ofInt 4294967295) ∈ ja_tbl := (ja_of_lw (List.mem_append_right _ (List.mem_of_getElem? (i := 1657) (by decide +kernel))) (by decide +kernel))
theorem kL_cell {l : Launch} {d k L : Nat} {xs : Nat → Int32} {sh : ja_S} {h : ja_H} {Q : ja_Q} (hk : k < 100) (hL : L < 2147483648) (q : Q (some (.inl (if k < L then (xs k).toInt else 0))) h) : ja_CS l (d + 1) mL_cell sh [.inr (.inr (some 3000000)), .inl (k : Int)] h L xs Q := by
  refine ja_metS (by decide +kernel) (Nat.le_of_ble_eq_true rfl) rfl ?_
  intro X ok sc hnl ret
  refine ja_s_iload_n ok dL_cell_0 rfl rfl (ja_s_aload_n ok dL_cell_1 rfl rfl (jz_slen ok sc hL dL_cell_2 (ja_s_icmp_ge ok dL_cell_3 rfl (fun y => ?_) fun y => ?_)))
  · refine ja_s_iconst ok dL_cell_12 (v := 0) (by decide) (ret _ _ _ dL_cell_13 ?_)
    rw [if_neg (by omega)] at q
    exact q
  · refine ja_s_aload_n ok dL_cell_6 rfl rfl (ja_s_iload_n ok dL_cell_7 rfl rfl (jz_sld ok sc dL_cell_8 (by omega) (by omega) (ja_s_goto ok dL_cell_9 rfl (ret _ _ _ dL_cell_13 ?_))))
    rw [if_pos (by omega)] at q
    exact q
abbrev lwL (i : Nat) : ja_L := [some (.inr (.inr (some 3000000))), some (.inr (.inr (some 0))), some (.inr (.inr (some 90))), some (.inl (i : Int))]
section JLW
variable {X : ja_X} {L i n w g : Nat} {xs : Nat → Int32} {st : List ja_W} {h : ja_H}
theorem jz_arg {pc j : Nat} (ok : ja_Ok X cL_law RL 60) (sc : ja_Sc X L xs) (hL : i + 7 ≤ L) (hi : i ≤ 4000) (hj : j < 7) (d0 : decode cL_law pc = .ok (.aload_n 0, 1)) (d1 : decode cL_law (pc + 1) = .ok (.iload_n 3, 1)) (d2 : decode cL_law (pc + 2) = .ok (.iconst (j : Int), 1)) (hv : (Int32.ofInt (j : Int)).toInt = (j : Int)) (d3 : decode cL_law (pc + 3) = .ok (.iadd, 1)) (d4 : decode cL_law (pc + 4) = .ok (.iaload, 1)) (kk : ja_At X (pc + 5) (lwL i) (.inl (xs (i + j)).toInt :: st) h) : ja_At X pc (lwL i) st h := by
  refine ja_s_aload_n ok d0 rfl rfl (ja_s_iload_n ok d1 rfl rfl (ja_s_iconst ok d2 hv (ja_s_iadd ok d3 ?_)))
  have e : ja_w ((i : Int) + (j : Int)) = ((i + j : Nat) : Int) := by rw [ja_w_id (by unfold ja_r; omega)]; omega
  rw [e]
  refine jz_sld ok sc d4 (by omega) (by omega) ?_
  rw [Int.toNat_natCast]
  exact kk
theorem jz_arg6 {pc j : Nat} (ok : ja_Ok X cL_law RL 60) (sc : ja_Sc X L xs) (hL : i + 7 ≤ L) (hi : i ≤ 4000) (hj : j < 7) (d0 : decode cL_law pc = .ok (.aload_n 0, 1)) (d1 : decode cL_law (pc + 1) = .ok (.iload_n 3, 1)) (d2 : decode cL_law (pc + 2) = .ok (.bipush (j : Int), 2)) (hv : ((Int8.ofInt (j : Int)).toInt32).toInt = (j : Int)) (d3 : decode cL_law (pc + 4) = .ok (.iadd, 1)) (d4 : decode cL_law (pc + 5) = .ok (.iaload, 1)) (kk : ja_At X (pc + 6) (lwL i) (.inl (xs (i + j)).toInt :: st) h) : ja_At X pc (lwL i) st h := by
  refine ja_s_aload_n ok d0 rfl rfl (ja_s_iload_n ok d1 rfl rfl (ja_s_bipush ok d2 hv (ja_s_iadd ok d3 ?_)))
  have e : ja_w ((i : Int) + (j : Int)) = ((i + j : Nat) : Int) := by rw [ja_w_id (by unfold ja_r; omega)]; omega
  rw [e]
  refine jz_sld ok sc d4 (by omega) (by omega) ?_
  rw [Int.toNat_natCast]
  exact kk
theorem law_c0 (ok : ja_Ok X cL_law RL 60) (sc : ja_Sc X L xs) (hsh : ja_sh X = js_sh n) (hL : i + 7 ≤ L) (hi : i ≤ 4000) (hI : INV w g n h) (kk : ∀ h', INV w g n h' → ja_At X 1418 (lwL i) [] h') : ja_At X 188 (lwL i) [] h := by
  refine ja_s_aload_n ok dL_law_188 rfl rfl ?_
  refine jz_arg (j := 1) ok sc hL hi (by decide) dL_law_189 dL_law_190 dL_law_191 (by decide) dL_law_192 dL_law_193 ?_
  refine jz_arg (j := 2) ok sc hL hi (by decide) dL_law_194 dL_law_195 dL_law_196 (by decide) dL_law_197 dL_law_198 ?_
  refine jz_arg (j := 3) ok sc hL hi (by decide) dL_law_199 dL_law_200 dL_law_201 (by decide) dL_law_202 dL_law_203 ?_
  refine jz_arg (j := 4) ok sc hL hi (by decide) dL_law_204 dL_law_205 dL_law_206 (by decide) dL_law_207 dL_law_208 ?_
  refine ja_s_callV (ci := 11) (k := 0) (as := [.inl (xs (i + 1)).toInt, .inl (xs (i + 2)).toInt, .inl (xs (i + 3)).toInt, .inl (xs (i + 4)).toInt]) (st := []) (d' := 59) ok mlL_21 dL_law_209 (by decide) rfl (Nat.le_of_ble_eq_true rfl) (by rw [hsh]; rfl) (by rw [hsh]; exact (vv_light (d := 12) hI)) fun r h1 hq => ?_
  obtain ⟨z, rfl, hC⟩ := hq
  change ja_At X 212 (lwL i) [.inl z] h1
  refine ja_s_aload_n ok dL_law_212 rfl rfl ?_
  refine jz_arg (j := 1) ok sc hL hi (by decide) dL_law_213 dL_law_214 dL_law_215 (by decide) dL_law_216 dL_law_217 ?_
  refine jz_arg (j := 2) ok sc hL hi (by decide) dL_law_218 dL_law_219 dL_law_220 (by decide) dL_law_221 dL_law_222 ?_
  refine jz_arg (j := 3) ok sc hL hi (by decide) dL_law_223 dL_law_224 dL_law_225 (by decide) dL_law_226 dL_law_227 ?_
  refine jz_arg (j := 4) ok sc hL hi (by decide) dL_law_228 dL_law_229 dL_law_230 (by decide) dL_law_231 dL_law_232 ?_
  refine ja_s_callV (ci := 12) (k := 90) (as := [.inl (xs (i + 1)).toInt, .inl (xs (i + 2)).toInt, .inl (xs (i + 3)).toInt, .inl (xs (i + 4)).toInt]) (st := [.inl z]) (d' := 59) ok mlL_25 dL_law_233 (by decide) rfl (Nat.le_of_ble_eq_true rfl) (by rw [hsh]; rfl) (by rw [hsh]; exact hC) fun r h2 hq => ?_
  obtain ⟨rfl, hI2⟩ := hq
  change ja_At X 236 (lwL i) [.inl z, .inl z] h2
  exact ja_s_icmp_eq ok dL_law_236 rfl (fun _ => kk h2 hI2) (fun y => absurd rfl y)
theorem law_c1 (ok : ja_Ok X cL_law RL 60) (sc : ja_Sc X L xs) (hsh : ja_sh X = js_sh n) (hL : i + 7 ≤ L) (hi : i ≤ 4000) (hI : INV w g n h) (kk : ∀ h', INV w g n h' → ja_At X 1418 (lwL i) [] h') : ja_At X 241 (lwL i) [] h := by
  refine ja_s_aload_n ok dL_law_241 rfl rfl ?_
  refine jz_arg (j := 1) ok sc hL hi (by decide) dL_law_242 dL_law_243 dL_law_244 (by decide) dL_law_245 dL_law_246 ?_
  refine jz_arg (j := 2) ok sc hL hi (by decide) dL_law_247 dL_law_248 dL_law_249 (by decide) dL_law_250 dL_law_251 ?_
  refine jz_arg (j := 3) ok sc hL hi (by decide) dL_law_252 dL_law_253 dL_law_254 (by decide) dL_law_255 dL_law_256 ?_
  refine jz_arg (j := 4) ok sc hL hi (by decide) dL_law_257 dL_law_258 dL_law_259 (by decide) dL_law_260 dL_law_261 ?_
  refine ja_s_i2l ok dL_law_262 ?_
  refine ja_s_bipush ok dL_law_263 (v := 32) (by decide) ?_
  refine ja_s_lshl ok dL_law_265 ?_
  refine jz_arg (j := 5) ok sc hL hi (by decide) dL_law_266 dL_law_267 dL_law_268 (by decide) dL_law_269 dL_law_270 ?_
  refine ja_s_i2l ok dL_law_271 ?_
  refine ja_s_ldc2 (v := 4294967295) ok cwL_26 (by unfold ja_rl; omega) dL_law_272 ?_
  refine ja_s_land ok dL_law_275 ?_
  refine ja_s_lor ok dL_law_276 ?_
  refine ja_s_callV (ci := 11) (k := 0) (as := [.inl (xs (i + 1)).toInt, .inl (xs (i + 2)).toInt, .inl (xs (i + 3)).toInt, .inr (.inl (ja_orL (ja_shlL (xs (i + 4)).toInt 32) (ja_andL (xs (i + 5)).toInt 4294967295)))]) (st := []) (d' := 59) ok mlL_28 dL_law_277 (by decide) rfl (Nat.le_of_ble_eq_true rfl) (by rw [hsh]; rfl) (by rw [hsh]; exact (vv_row (d := 12) hI)) fun r h1 hq => ?_
  obtain ⟨z, rfl, hC⟩ := hq
  change ja_At X 280 (lwL i) [.inl z] h1
  refine ja_s_aload_n ok dL_law_280 rfl rfl ?_
  refine jz_arg (j := 1) ok sc hL hi (by decide) dL_law_281 dL_law_282 dL_law_283 (by decide) dL_law_284 dL_law_285 ?_
  refine jz_arg (j := 2) ok sc hL hi (by decide) dL_law_286 dL_law_287 dL_law_288 (by decide) dL_law_289 dL_law_290 ?_
  refine jz_arg (j := 3) ok sc hL hi (by decide) dL_law_291 dL_law_292 dL_law_293 (by decide) dL_law_294 dL_law_295 ?_
  refine jz_arg (j := 4) ok sc hL hi (by decide) dL_law_296 dL_law_297 dL_law_298 (by decide) dL_law_299 dL_law_300 ?_
  refine ja_s_i2l ok dL_law_301 ?_
  refine ja_s_bipush ok dL_law_302 (v := 32) (by decide) ?_
  refine ja_s_lshl ok dL_law_304 ?_
  refine jz_arg (j := 5) ok sc hL hi (by decide) dL_law_305 dL_law_306 dL_law_307 (by decide) dL_law_308 dL_law_309 ?_
  refine ja_s_i2l ok dL_law_310 ?_
  refine ja_s_ldc2 (v := 4294967295) ok cwL_26 (by unfold ja_rl; omega) dL_law_311 ?_
  refine ja_s_land ok dL_law_314 ?_
  refine ja_s_lor ok dL_law_315 ?_
  refine ja_s_callV (ci := 12) (k := 90) (as := [.inl (xs (i + 1)).toInt, .inl (xs (i + 2)).toInt, .inl (xs (i + 3)).toInt, .inr (.inl (ja_orL (ja_shlL (xs (i + 4)).toInt 32) (ja_andL (xs (i + 5)).toInt 4294967295)))]) (st := [.inl z]) (d' := 59) ok mlL_32 dL_law_316 (by decide) rfl (Nat.le_of_ble_eq_true rfl) (by rw [hsh]; rfl) (by rw [hsh]; exact hC) fun r h2 hq => ?_
  obtain ⟨rfl, hI2⟩ := hq
  change ja_At X 319 (lwL i) [.inl z, .inl z] h2
  exact ja_s_icmp_eq ok dL_law_319 rfl (fun _ => kk h2 hI2) (fun y => absurd rfl y)
theorem law_c2 (ok : ja_Ok X cL_law RL 60) (sc : ja_Sc X L xs) (hsh : ja_sh X = js_sh n) (hL : i + 7 ≤ L) (hi : i ≤ 4000) (hI : INV w g n h) (kk : ∀ h', INV w g n h' → ja_At X 1418 (lwL i) [] h') : ja_At X 324 (lwL i) [] h := by
  refine ja_s_aload_n ok dL_law_324 rfl rfl ?_
  refine jz_arg (j := 1) ok sc hL hi (by decide) dL_law_325 dL_law_326 dL_law_327 (by decide) dL_law_328 dL_law_329 ?_
  refine jz_arg (j := 2) ok sc hL hi (by decide) dL_law_330 dL_law_331 dL_law_332 (by decide) dL_law_333 dL_law_334 ?_
  refine jz_arg (j := 3) ok sc hL hi (by decide) dL_law_335 dL_law_336 dL_law_337 (by decide) dL_law_338 dL_law_339 ?_
  refine ja_s_callV (ci := 11) (k := 0) (as := [.inl (xs (i + 1)).toInt, .inl (xs (i + 2)).toInt, .inl (xs (i + 3)).toInt]) (st := []) (d' := 59) ok mlL_33 dL_law_340 (by decide) rfl (Nat.le_of_ble_eq_true rfl) (by rw [hsh]; rfl) (by rw [hsh]; exact (vv_at (d := 12) hI)) fun r h1 hq => ?_
  obtain ⟨z, rfl, hC⟩ := hq
  change ja_At X 343 (lwL i) [.inl z] h1
  refine ja_s_aload_n ok dL_law_343 rfl rfl ?_
  refine jz_arg (j := 1) ok sc hL hi (by decide) dL_law_344 dL_law_345 dL_law_346 (by decide) dL_law_347 dL_law_348 ?_
  refine jz_arg (j := 2) ok sc hL hi (by decide) dL_law_349 dL_law_350 dL_law_351 (by decide) dL_law_352 dL_law_353 ?_
  refine jz_arg (j := 3) ok sc hL hi (by decide) dL_law_354 dL_law_355 dL_law_356 (by decide) dL_law_357 dL_law_358 ?_
  refine ja_s_callV (ci := 12) (k := 90) (as := [.inl (xs (i + 1)).toInt, .inl (xs (i + 2)).toInt, .inl (xs (i + 3)).toInt]) (st := [.inl z]) (d' := 59) ok mlL_37 dL_law_359 (by decide) rfl (Nat.le_of_ble_eq_true rfl) (by rw [hsh]; rfl) (by rw [hsh]; exact hC) fun r h2 hq => ?_
  obtain ⟨rfl, hI2⟩ := hq
  change ja_At X 362 (lwL i) [.inl z, .inl z] h2
  exact ja_s_icmp_eq ok dL_law_362 rfl (fun _ => kk h2 hI2) (fun y => absurd rfl y)
theorem law_c3 (ok : ja_Ok X cL_law RL 60) (sc : ja_Sc X L xs) (hsh : ja_sh X = js_sh n) (hL : i + 7 ≤ L) (hi : i ≤ 4000) (hI : INV w g n h) (kk : ∀ h', INV w g n h' → ja_At X 1418 (lwL i) [] h') : ja_At X 367 (lwL i) [] h := by
  refine ja_s_aload_n ok dL_law_367 rfl rfl ?_
  refine jz_arg (j := 1) ok sc hL hi (by decide) dL_law_368 dL_law_369 dL_law_370 (by decide) dL_law_371 dL_law_372 ?_
  refine jz_arg (j := 2) ok sc hL hi (by decide) dL_law_373 dL_law_374 dL_law_375 (by decide) dL_law_376 dL_law_377 ?_
  refine ja_s_callV (ci := 11) (k := 0) (as := [.inl (xs (i + 1)).toInt, .inl (xs (i + 2)).toInt]) (st := []) (d' := 59) ok mlL_38 dL_law_378 (by decide) rfl (Nat.le_of_ble_eq_true rfl) (by rw [hsh]; rfl) (by rw [hsh]; exact (vv_copy (d := 12) hI)) fun r h1 hq => ?_
  obtain ⟨z, rfl, hC⟩ := hq
  change ja_At X 381 (lwL i) [.inl z] h1
  refine ja_s_aload_n ok dL_law_381 rfl rfl ?_
  refine jz_arg (j := 1) ok sc hL hi (by decide) dL_law_382 dL_law_383 dL_law_384 (by decide) dL_law_385 dL_law_386 ?_
  refine jz_arg (j := 2) ok sc hL hi (by decide) dL_law_387 dL_law_388 dL_law_389 (by decide) dL_law_390 dL_law_391 ?_
  refine ja_s_callV (ci := 12) (k := 90) (as := [.inl (xs (i + 1)).toInt, .inl (xs (i + 2)).toInt]) (st := [.inl z]) (d' := 59) ok mlL_42 dL_law_392 (by decide) rfl (Nat.le_of_ble_eq_true rfl) (by rw [hsh]; rfl) (by rw [hsh]; exact hC) fun r h2 hq => ?_
  obtain ⟨rfl, hI2⟩ := hq
  change ja_At X 395 (lwL i) [.inl z, .inl z] h2
  exact ja_s_icmp_eq ok dL_law_395 rfl (fun _ => kk h2 hI2) (fun y => absurd rfl y)
theorem law_c4 (ok : ja_Ok X cL_law RL 60) (sc : ja_Sc X L xs) (hsh : ja_sh X = js_sh n) (hL : i + 7 ≤ L) (hi : i ≤ 4000) (hI : INV w g n h) (kk : ∀ h', INV w g n h' → ja_At X 1418 (lwL i) [] h') : ja_At X 400 (lwL i) [] h := by
  refine ja_s_aload_n ok dL_law_400 rfl rfl ?_
  refine jz_arg (j := 1) ok sc hL hi (by decide) dL_law_401 dL_law_402 dL_law_403 (by decide) dL_law_404 dL_law_405 ?_
  refine jz_arg (j := 2) ok sc hL hi (by decide) dL_law_406 dL_law_407 dL_law_408 (by decide) dL_law_409 dL_law_410 ?_
  refine jz_arg (j := 3) ok sc hL hi (by decide) dL_law_411 dL_law_412 dL_law_413 (by decide) dL_law_414 dL_law_415 ?_
  refine jz_arg (j := 4) ok sc hL hi (by decide) dL_law_416 dL_law_417 dL_law_418 (by decide) dL_law_419 dL_law_420 ?_
  refine jz_arg (j := 5) ok sc hL hi (by decide) dL_law_421 dL_law_422 dL_law_423 (by decide) dL_law_424 dL_law_425 ?_
  refine jz_arg6 (j := 6) ok sc hL hi (by decide) dL_law_426 dL_law_427 dL_law_428 (by decide) dL_law_430 dL_law_431 ?_
  refine ja_s_callV (ci := 11) (k := 0) (as := [.inl (xs (i + 1)).toInt, .inl (xs (i + 2)).toInt, .inl (xs (i + 3)).toInt, .inl (xs (i + 4)).toInt, .inl (xs (i + 5)).toInt, .inl (xs (i + 6)).toInt]) (st := []) (d' := 59) ok mlL_43 dL_law_432 (by decide) rfl (Nat.le_of_ble_eq_true rfl) (by rw [hsh]; rfl) (by rw [hsh]; exact (vv_shadow (d := 12) hI)) fun r h1 hq => ?_
  obtain ⟨z, rfl, hC⟩ := hq
  change ja_At X 435 (lwL i) [.inl z] h1
  refine ja_s_aload_n ok dL_law_435 rfl rfl ?_
  refine jz_arg (j := 1) ok sc hL hi (by decide) dL_law_436 dL_law_437 dL_law_438 (by decide) dL_law_439 dL_law_440 ?_
  refine jz_arg (j := 2) ok sc hL hi (by decide) dL_law_441 dL_law_442 dL_law_443 (by decide) dL_law_444 dL_law_445 ?_
  refine jz_arg (j := 3) ok sc hL hi (by decide) dL_law_446 dL_law_447 dL_law_448 (by decide) dL_law_449 dL_law_450 ?_
  refine jz_arg (j := 4) ok sc hL hi (by decide) dL_law_451 dL_law_452 dL_law_453 (by decide) dL_law_454 dL_law_455 ?_
  refine jz_arg (j := 5) ok sc hL hi (by decide) dL_law_456 dL_law_457 dL_law_458 (by decide) dL_law_459 dL_law_460 ?_
  refine jz_arg6 (j := 6) ok sc hL hi (by decide) dL_law_461 dL_law_462 dL_law_463 (by decide) dL_law_465 dL_law_466 ?_
  refine ja_s_callV (ci := 12) (k := 90) (as := [.inl (xs (i + 1)).toInt, .inl (xs (i + 2)).toInt, .inl (xs (i + 3)).toInt, .inl (xs (i + 4)).toInt, .inl (xs (i + 5)).toInt, .inl (xs (i + 6)).toInt]) (st := [.inl z]) (d' := 59) ok mlL_47 dL_law_467 (by decide) rfl (Nat.le_of_ble_eq_true rfl) (by rw [hsh]; rfl) (by rw [hsh]; exact hC) fun r h2 hq => ?_
  obtain ⟨rfl, hI2⟩ := hq
  change ja_At X 470 (lwL i) [.inl z, .inl z] h2
  exact ja_s_icmp_eq ok dL_law_470 rfl (fun _ => kk h2 hI2) (fun y => absurd rfl y)
theorem law_c5 (ok : ja_Ok X cL_law RL 60) (sc : ja_Sc X L xs) (hsh : ja_sh X = js_sh n) (hL : i + 7 ≤ L) (hi : i ≤ 4000) (hI : INV w g n h) (kk : ∀ h', INV w g n h' → ja_At X 1418 (lwL i) [] h') : ja_At X 475 (lwL i) [] h := by
  refine ja_s_aload_n ok dL_law_475 rfl rfl ?_
  refine jz_arg (j := 1) ok sc hL hi (by decide) dL_law_476 dL_law_477 dL_law_478 (by decide) dL_law_479 dL_law_480 ?_
  refine ja_s_callV (ci := 11) (k := 0) (as := [.inl (xs (i + 1)).toInt]) (st := []) (d' := 59) ok mlL_48 dL_law_481 (by decide) rfl (Nat.le_of_ble_eq_true rfl) (by rw [hsh]; rfl) (by rw [hsh]; exact (vv_shine (d := 12) hI)) fun r h1 hq => ?_
  obtain ⟨z, rfl, hC⟩ := hq
  change ja_At X 484 (lwL i) [.inl z] h1
  refine ja_s_aload_n ok dL_law_484 rfl rfl ?_
  refine jz_arg (j := 1) ok sc hL hi (by decide) dL_law_485 dL_law_486 dL_law_487 (by decide) dL_law_488 dL_law_489 ?_
  refine ja_s_callV (ci := 12) (k := 90) (as := [.inl (xs (i + 1)).toInt]) (st := [.inl z]) (d' := 59) ok mlL_52 dL_law_490 (by decide) rfl (Nat.le_of_ble_eq_true rfl) (by rw [hsh]; rfl) (by rw [hsh]; exact hC) fun r h2 hq => ?_
  obtain ⟨rfl, hI2⟩ := hq
  change ja_At X 493 (lwL i) [.inl z, .inl z] h2
  exact ja_s_icmp_eq ok dL_law_493 rfl (fun _ => kk h2 hI2) (fun y => absurd rfl y)
theorem law_c6 (ok : ja_Ok X cL_law RL 60) (sc : ja_Sc X L xs) (hsh : ja_sh X = js_sh n) (hL : i + 7 ≤ L) (hi : i ≤ 4000) (hI : INV w g n h) (kk : ∀ h', INV w g n h' → ja_At X 1418 (lwL i) [] h') : ja_At X 498 (lwL i) [] h := by
  refine ja_s_aload_n ok dL_law_498 rfl rfl ?_
  refine jz_arg (j := 1) ok sc hL hi (by decide) dL_law_499 dL_law_500 dL_law_501 (by decide) dL_law_502 dL_law_503 ?_
  refine jz_arg (j := 2) ok sc hL hi (by decide) dL_law_504 dL_law_505 dL_law_506 (by decide) dL_law_507 dL_law_508 ?_
  refine ja_s_callV (ci := 11) (k := 0) (as := [.inl (xs (i + 1)).toInt, .inl (xs (i + 2)).toInt]) (st := []) (d' := 59) ok mlL_53 dL_law_509 (by decide) rfl (Nat.le_of_ble_eq_true rfl) (by rw [hsh]; rfl) (by rw [hsh]; exact (vv_lamps (d := 12) hI)) fun r h1 hq => ?_
  obtain ⟨z, rfl, hC⟩ := hq
  change ja_At X 512 (lwL i) [.inl z] h1
  refine ja_s_aload_n ok dL_law_512 rfl rfl ?_
  refine jz_arg (j := 1) ok sc hL hi (by decide) dL_law_513 dL_law_514 dL_law_515 (by decide) dL_law_516 dL_law_517 ?_
  refine jz_arg (j := 2) ok sc hL hi (by decide) dL_law_518 dL_law_519 dL_law_520 (by decide) dL_law_521 dL_law_522 ?_
  refine ja_s_callV (ci := 12) (k := 90) (as := [.inl (xs (i + 1)).toInt, .inl (xs (i + 2)).toInt]) (st := [.inl z]) (d' := 59) ok mlL_57 dL_law_523 (by decide) rfl (Nat.le_of_ble_eq_true rfl) (by rw [hsh]; rfl) (by rw [hsh]; exact hC) fun r h2 hq => ?_
  obtain ⟨rfl, hI2⟩ := hq
  change ja_At X 526 (lwL i) [.inl z, .inl z] h2
  exact ja_s_icmp_eq ok dL_law_526 rfl (fun _ => kk h2 hI2) (fun y => absurd rfl y)
theorem law_c7 (ok : ja_Ok X cL_law RL 60) (sc : ja_Sc X L xs) (hsh : ja_sh X = js_sh n) (hL : i + 7 ≤ L) (hi : i ≤ 4000) (hI : INV w g n h) (kk : ∀ h', INV w g n h' → ja_At X 1418 (lwL i) [] h') : ja_At X 531 (lwL i) [] h := by
  refine ja_s_aload_n ok dL_law_531 rfl rfl ?_
  refine jz_arg (j := 1) ok sc hL hi (by decide) dL_law_532 dL_law_533 dL_law_534 (by decide) dL_law_535 dL_law_536 ?_
  refine jz_arg (j := 2) ok sc hL hi (by decide) dL_law_537 dL_law_538 dL_law_539 (by decide) dL_law_540 dL_law_541 ?_
  refine ja_s_callV (ci := 11) (k := 0) (as := [.inl (xs (i + 1)).toInt, .inl (xs (i + 2)).toInt]) (st := []) (d' := 59) ok mlL_58 dL_law_542 (by decide) rfl (Nat.le_of_ble_eq_true rfl) (by rw [hsh]; rfl) (by rw [hsh]; exact (vv_fight (d := 12) hI)) fun r h1 hq => ?_
  obtain ⟨z, rfl, hC⟩ := hq
  change ja_At X 545 (lwL i) [.inl z] h1
  refine ja_s_aload_n ok dL_law_545 rfl rfl ?_
  refine jz_arg (j := 1) ok sc hL hi (by decide) dL_law_546 dL_law_547 dL_law_548 (by decide) dL_law_549 dL_law_550 ?_
  refine jz_arg (j := 2) ok sc hL hi (by decide) dL_law_551 dL_law_552 dL_law_553 (by decide) dL_law_554 dL_law_555 ?_
  refine ja_s_callV (ci := 12) (k := 90) (as := [.inl (xs (i + 1)).toInt, .inl (xs (i + 2)).toInt]) (st := [.inl z]) (d' := 59) ok mlL_61 dL_law_556 (by decide) rfl (Nat.le_of_ble_eq_true rfl) (by rw [hsh]; rfl) (by rw [hsh]; exact hC) fun r h2 hq => ?_
  obtain ⟨rfl, hI2⟩ := hq
  change ja_At X 559 (lwL i) [.inl z, .inl z] h2
  exact ja_s_icmp_eq ok dL_law_559 rfl (fun _ => kk h2 hI2) (fun y => absurd rfl y)
theorem law_c8 (ok : ja_Ok X cL_law RL 60) (sc : ja_Sc X L xs) (hsh : ja_sh X = js_sh n) (hL : i + 7 ≤ L) (hi : i ≤ 4000) (hI : INV w g n h) (kk : ∀ h', INV w g n h' → ja_At X 1418 (lwL i) [] h') : ja_At X 564 (lwL i) [] h := by
  refine ja_s_aload_n ok dL_law_564 rfl rfl ?_
  refine jz_arg (j := 1) ok sc hL hi (by decide) dL_law_565 dL_law_566 dL_law_567 (by decide) dL_law_568 dL_law_569 ?_
  refine jz_arg (j := 2) ok sc hL hi (by decide) dL_law_570 dL_law_571 dL_law_572 (by decide) dL_law_573 dL_law_574 ?_
  refine ja_s_callV (ci := 11) (k := 0) (as := [.inl (xs (i + 1)).toInt, .inl (xs (i + 2)).toInt]) (st := []) (d' := 59) ok mlL_62 dL_law_575 (by decide) rfl (Nat.le_of_ble_eq_true rfl) (by rw [hsh]; rfl) (by rw [hsh]; exact (vv_suns (d := 12) hI)) fun r h1 hq => ?_
  obtain ⟨z, rfl, hC⟩ := hq
  change ja_At X 578 (lwL i) [.inl z] h1
  refine ja_s_aload_n ok dL_law_578 rfl rfl ?_
  refine jz_arg (j := 1) ok sc hL hi (by decide) dL_law_579 dL_law_580 dL_law_581 (by decide) dL_law_582 dL_law_583 ?_
  refine jz_arg (j := 2) ok sc hL hi (by decide) dL_law_584 dL_law_585 dL_law_586 (by decide) dL_law_587 dL_law_588 ?_
  refine ja_s_callV (ci := 12) (k := 90) (as := [.inl (xs (i + 1)).toInt, .inl (xs (i + 2)).toInt]) (st := [.inl z]) (d' := 59) ok mlL_65 dL_law_589 (by decide) rfl (Nat.le_of_ble_eq_true rfl) (by rw [hsh]; rfl) (by rw [hsh]; exact hC) fun r h2 hq => ?_
  obtain ⟨rfl, hI2⟩ := hq
  change ja_At X 592 (lwL i) [.inl z, .inl z] h2
  exact ja_s_icmp_eq ok dL_law_592 rfl (fun _ => kk h2 hI2) (fun y => absurd rfl y)
theorem law_c9 (ok : ja_Ok X cL_law RL 60) (sc : ja_Sc X L xs) (hsh : ja_sh X = js_sh n) (hL : i + 7 ≤ L) (hi : i ≤ 4000) (hI : INV w g n h) (kk : ∀ h', INV w g n h' → ja_At X 1418 (lwL i) [] h') : ja_At X 597 (lwL i) [] h := by
  refine ja_s_aload_n ok dL_law_597 rfl rfl ?_
  refine jz_arg (j := 1) ok sc hL hi (by decide) dL_law_598 dL_law_599 dL_law_600 (by decide) dL_law_601 dL_law_602 ?_
  refine jz_arg (j := 2) ok sc hL hi (by decide) dL_law_603 dL_law_604 dL_law_605 (by decide) dL_law_606 dL_law_607 ?_
  refine jz_arg (j := 3) ok sc hL hi (by decide) dL_law_608 dL_law_609 dL_law_610 (by decide) dL_law_611 dL_law_612 ?_
  refine jz_arg (j := 4) ok sc hL hi (by decide) dL_law_613 dL_law_614 dL_law_615 (by decide) dL_law_616 dL_law_617 ?_
  refine ja_s_callV (ci := 11) (k := 0) (as := [.inl (xs (i + 1)).toInt, .inl (xs (i + 2)).toInt, .inl (xs (i + 3)).toInt, .inl (xs (i + 4)).toInt]) (st := []) (d' := 59) ok mlL_66 dL_law_618 (by decide) rfl (Nat.le_of_ble_eq_true rfl) (by rw [hsh]; rfl) (by rw [hsh]; exact (vv_line (d := 12) hI)) fun r h1 hq => ?_
  obtain ⟨z, rfl, hC⟩ := hq
  change ja_At X 621 (lwL i) [.inl z] h1
  refine ja_s_aload_n ok dL_law_621 rfl rfl ?_
  refine jz_arg (j := 1) ok sc hL hi (by decide) dL_law_622 dL_law_623 dL_law_624 (by decide) dL_law_625 dL_law_626 ?_
  refine jz_arg (j := 2) ok sc hL hi (by decide) dL_law_627 dL_law_628 dL_law_629 (by decide) dL_law_630 dL_law_631 ?_
  refine jz_arg (j := 3) ok sc hL hi (by decide) dL_law_632 dL_law_633 dL_law_634 (by decide) dL_law_635 dL_law_636 ?_
  refine jz_arg (j := 4) ok sc hL hi (by decide) dL_law_637 dL_law_638 dL_law_639 (by decide) dL_law_640 dL_law_641 ?_
  refine ja_s_callV (ci := 12) (k := 90) (as := [.inl (xs (i + 1)).toInt, .inl (xs (i + 2)).toInt, .inl (xs (i + 3)).toInt, .inl (xs (i + 4)).toInt]) (st := [.inl z]) (d' := 59) ok mlL_70 dL_law_642 (by decide) rfl (Nat.le_of_ble_eq_true rfl) (by rw [hsh]; rfl) (by rw [hsh]; exact hC) fun r h2 hq => ?_
  obtain ⟨rfl, hI2⟩ := hq
  change ja_At X 645 (lwL i) [.inl z, .inl z] h2
  exact ja_s_icmp_eq ok dL_law_645 rfl (fun _ => kk h2 hI2) (fun y => absurd rfl y)
theorem law_c10 (ok : ja_Ok X cL_law RL 60) (sc : ja_Sc X L xs) (hsh : ja_sh X = js_sh n) (hL : i + 7 ≤ L) (hi : i ≤ 4000) (hI : INV w g n h) (kk : ∀ h', INV w g n h' → ja_At X 1418 (lwL i) [] h') : ja_At X 650 (lwL i) [] h := by
  refine ja_s_aload_n ok dL_law_650 rfl rfl ?_
  refine jz_arg (j := 1) ok sc hL hi (by decide) dL_law_651 dL_law_652 dL_law_653 (by decide) dL_law_654 dL_law_655 ?_
  refine jz_arg (j := 2) ok sc hL hi (by decide) dL_law_656 dL_law_657 dL_law_658 (by decide) dL_law_659 dL_law_660 ?_
  refine ja_s_callV (ci := 11) (k := 0) (as := [.inl (xs (i + 1)).toInt, .inl (xs (i + 2)).toInt]) (st := []) (d' := 59) ok mlL_71 dL_law_661 (by decide) rfl (Nat.le_of_ble_eq_true rfl) (by rw [hsh]; rfl) (by rw [hsh]; exact (vv_meet (d := 12) hI)) fun r h1 hq => ?_
  obtain ⟨z, rfl, hC⟩ := hq
  change ja_At X 664 (lwL i) [.inl z] h1
  refine ja_s_aload_n ok dL_law_664 rfl rfl ?_
  refine jz_arg (j := 1) ok sc hL hi (by decide) dL_law_665 dL_law_666 dL_law_667 (by decide) dL_law_668 dL_law_669 ?_
  refine jz_arg (j := 2) ok sc hL hi (by decide) dL_law_670 dL_law_671 dL_law_672 (by decide) dL_law_673 dL_law_674 ?_
  refine ja_s_callV (ci := 12) (k := 90) (as := [.inl (xs (i + 1)).toInt, .inl (xs (i + 2)).toInt]) (st := [.inl z]) (d' := 59) ok mlL_74 dL_law_675 (by decide) rfl (Nat.le_of_ble_eq_true rfl) (by rw [hsh]; rfl) (by rw [hsh]; exact hC) fun r h2 hq => ?_
  obtain ⟨rfl, hI2⟩ := hq
  change ja_At X 678 (lwL i) [.inl z, .inl z] h2
  exact ja_s_icmp_eq ok dL_law_678 rfl (fun _ => kk h2 hI2) (fun y => absurd rfl y)
theorem law_c11 (ok : ja_Ok X cL_law RL 60) (sc : ja_Sc X L xs) (hsh : ja_sh X = js_sh n) (hL : i + 7 ≤ L) (hi : i ≤ 4000) (hI : INV w g n h) (kk : ∀ h', INV w g n h' → ja_At X 1418 (lwL i) [] h') : ja_At X 683 (lwL i) [] h := by
  refine ja_s_aload_n ok dL_law_683 rfl rfl ?_
  refine jz_arg (j := 1) ok sc hL hi (by decide) dL_law_684 dL_law_685 dL_law_686 (by decide) dL_law_687 dL_law_688 ?_
  refine jz_arg (j := 2) ok sc hL hi (by decide) dL_law_689 dL_law_690 dL_law_691 (by decide) dL_law_692 dL_law_693 ?_
  refine jz_arg (j := 3) ok sc hL hi (by decide) dL_law_694 dL_law_695 dL_law_696 (by decide) dL_law_697 dL_law_698 ?_
  refine jz_arg (j := 4) ok sc hL hi (by decide) dL_law_699 dL_law_700 dL_law_701 (by decide) dL_law_702 dL_law_703 ?_
  refine jz_arg (j := 5) ok sc hL hi (by decide) dL_law_704 dL_law_705 dL_law_706 (by decide) dL_law_707 dL_law_708 ?_
  refine ja_s_callV (ci := 11) (k := 0) (as := [.inl (xs (i + 1)).toInt, .inl (xs (i + 2)).toInt, .inl (xs (i + 3)).toInt, .inl (xs (i + 4)).toInt, .inl (xs (i + 5)).toInt]) (st := []) (d' := 59) ok mlL_75 dL_law_709 (by decide) rfl (Nat.le_of_ble_eq_true rfl) (by rw [hsh]; rfl) (by rw [hsh]; exact (vv_rough (d := 12) hI)) fun r h1 hq => ?_
  obtain ⟨z, rfl, hC⟩ := hq
  change ja_At X 712 (lwL i) [.inl z] h1
  refine ja_s_aload_n ok dL_law_712 rfl rfl ?_
  refine jz_arg (j := 1) ok sc hL hi (by decide) dL_law_713 dL_law_714 dL_law_715 (by decide) dL_law_716 dL_law_717 ?_
  refine jz_arg (j := 2) ok sc hL hi (by decide) dL_law_718 dL_law_719 dL_law_720 (by decide) dL_law_721 dL_law_722 ?_
  refine jz_arg (j := 3) ok sc hL hi (by decide) dL_law_723 dL_law_724 dL_law_725 (by decide) dL_law_726 dL_law_727 ?_
  refine jz_arg (j := 4) ok sc hL hi (by decide) dL_law_728 dL_law_729 dL_law_730 (by decide) dL_law_731 dL_law_732 ?_
  refine jz_arg (j := 5) ok sc hL hi (by decide) dL_law_733 dL_law_734 dL_law_735 (by decide) dL_law_736 dL_law_737 ?_
  refine ja_s_callV (ci := 12) (k := 90) (as := [.inl (xs (i + 1)).toInt, .inl (xs (i + 2)).toInt, .inl (xs (i + 3)).toInt, .inl (xs (i + 4)).toInt, .inl (xs (i + 5)).toInt]) (st := [.inl z]) (d' := 59) ok mlL_79 dL_law_738 (by decide) rfl (Nat.le_of_ble_eq_true rfl) (by rw [hsh]; rfl) (by rw [hsh]; exact hC) fun r h2 hq => ?_
  obtain ⟨rfl, hI2⟩ := hq
  change ja_At X 741 (lwL i) [.inl z, .inl z] h2
  exact ja_s_icmp_eq ok dL_law_741 rfl (fun _ => kk h2 hI2) (fun y => absurd rfl y)
theorem law_c12 (ok : ja_Ok X cL_law RL 60) (sc : ja_Sc X L xs) (hsh : ja_sh X = js_sh n) (hL : i + 7 ≤ L) (hi : i ≤ 4000) (hI : INV w g n h) (kk : ∀ h', INV w g n h' → ja_At X 1418 (lwL i) [] h') : ja_At X 746 (lwL i) [] h := by
  refine ja_s_aload_n ok dL_law_746 rfl rfl ?_
  refine jz_arg (j := 1) ok sc hL hi (by decide) dL_law_747 dL_law_748 dL_law_749 (by decide) dL_law_750 dL_law_751 ?_
  refine jz_arg (j := 2) ok sc hL hi (by decide) dL_law_752 dL_law_753 dL_law_754 (by decide) dL_law_755 dL_law_756 ?_
  refine jz_arg (j := 3) ok sc hL hi (by decide) dL_law_757 dL_law_758 dL_law_759 (by decide) dL_law_760 dL_law_761 ?_
  refine ja_s_callV (ci := 11) (k := 0) (as := [.inl (xs (i + 1)).toInt, .inl (xs (i + 2)).toInt, .inl (xs (i + 3)).toInt]) (st := []) (d' := 59) ok mlL_80 dL_law_762 (by decide) rfl (Nat.le_of_ble_eq_true rfl) (by rw [hsh]; rfl) (by rw [hsh]; exact (vv_grain (d := 12) hI)) fun r h1 hq => ?_
  obtain ⟨z, rfl, hC⟩ := hq
  change ja_At X 765 (lwL i) [.inl z] h1
  refine ja_s_aload_n ok dL_law_765 rfl rfl ?_
  refine jz_arg (j := 1) ok sc hL hi (by decide) dL_law_766 dL_law_767 dL_law_768 (by decide) dL_law_769 dL_law_770 ?_
  refine jz_arg (j := 2) ok sc hL hi (by decide) dL_law_771 dL_law_772 dL_law_773 (by decide) dL_law_774 dL_law_775 ?_
  refine jz_arg (j := 3) ok sc hL hi (by decide) dL_law_776 dL_law_777 dL_law_778 (by decide) dL_law_779 dL_law_780 ?_
  refine ja_s_callV (ci := 12) (k := 90) (as := [.inl (xs (i + 1)).toInt, .inl (xs (i + 2)).toInt, .inl (xs (i + 3)).toInt]) (st := [.inl z]) (d' := 59) ok mlL_83 dL_law_781 (by decide) rfl (Nat.le_of_ble_eq_true rfl) (by rw [hsh]; rfl) (by rw [hsh]; exact hC) fun r h2 hq => ?_
  obtain ⟨rfl, hI2⟩ := hq
  change ja_At X 784 (lwL i) [.inl z, .inl z] h2
  exact ja_s_icmp_eq ok dL_law_784 rfl (fun _ => kk h2 hI2) (fun y => absurd rfl y)
theorem law_c13 (ok : ja_Ok X cL_law RL 60) (sc : ja_Sc X L xs) (hsh : ja_sh X = js_sh n) (hL : i + 7 ≤ L) (hi : i ≤ 4000) (hI : INV w g n h) (kk : ∀ h', INV w g n h' → ja_At X 1418 (lwL i) [] h') : ja_At X 789 (lwL i) [] h := by
  by_cases y0 : (xs (i + 6)).toInt = 0
  · refine ja_s_aload_n ok dL_law_789 rfl rfl ?_
    refine jz_arg (j := 1) ok sc hL hi (by decide) dL_law_790 dL_law_791 dL_law_792 (by decide) dL_law_793 dL_law_794 ?_
    refine jz_arg (j := 2) ok sc hL hi (by decide) dL_law_795 dL_law_796 dL_law_797 (by decide) dL_law_798 dL_law_799 ?_
    refine jz_arg (j := 3) ok sc hL hi (by decide) dL_law_800 dL_law_801 dL_law_802 (by decide) dL_law_803 dL_law_804 ?_
    refine jz_arg (j := 4) ok sc hL hi (by decide) dL_law_805 dL_law_806 dL_law_807 (by decide) dL_law_808 dL_law_809 ?_
    refine jz_arg (j := 5) ok sc hL hi (by decide) dL_law_810 dL_law_811 dL_law_812 (by decide) dL_law_813 dL_law_814 ?_
    refine jz_arg6 (j := 6) ok sc hL hi (by decide) dL_law_815 dL_law_816 dL_law_817 (by decide) dL_law_819 dL_law_820 ?_
    refine ja_s_if_eq ok dL_law_821 rfl (fun _ => ?_) (fun y => absurd y0 y)
    refine ja_s_iconst ok dL_law_828 (v := 0) (by decide) ?_
    refine ja_s_callV (ci := 11) (k := 0) (as := [.inl (xs (i + 1)).toInt, .inl (xs (i + 2)).toInt, .inl (xs (i + 3)).toInt, .inl (xs (i + 4)).toInt, .inl (xs (i + 5)).toInt, .inl 0]) (st := []) (d' := 59) ok mlL_84 dL_law_829 (by decide) rfl (Nat.le_of_ble_eq_true rfl) (by rw [hsh]; rfl) (by rw [hsh]; exact (vv_squares (d := 12) hI (Or.inl rfl))) fun r h1 hq => ?_
    obtain ⟨z, rfl, hC⟩ := hq
    change ja_At X 832 (lwL i) [.inl z] h1
    refine ja_s_aload_n ok dL_law_832 rfl rfl ?_
    refine jz_arg (j := 1) ok sc hL hi (by decide) dL_law_833 dL_law_834 dL_law_835 (by decide) dL_law_836 dL_law_837 ?_
    refine jz_arg (j := 2) ok sc hL hi (by decide) dL_law_838 dL_law_839 dL_law_840 (by decide) dL_law_841 dL_law_842 ?_
    refine jz_arg (j := 3) ok sc hL hi (by decide) dL_law_843 dL_law_844 dL_law_845 (by decide) dL_law_846 dL_law_847 ?_
    refine jz_arg (j := 4) ok sc hL hi (by decide) dL_law_848 dL_law_849 dL_law_850 (by decide) dL_law_851 dL_law_852 ?_
    refine jz_arg (j := 5) ok sc hL hi (by decide) dL_law_853 dL_law_854 dL_law_855 (by decide) dL_law_856 dL_law_857 ?_
    refine jz_arg6 (j := 6) ok sc hL hi (by decide) dL_law_858 dL_law_859 dL_law_860 (by decide) dL_law_862 dL_law_863 ?_
    refine ja_s_if_eq ok dL_law_864 rfl (fun _ => ?_) (fun y => absurd y0 y)
    refine ja_s_iconst ok dL_law_871 (v := 0) (by decide) ?_
    refine ja_s_callV (ci := 12) (k := 90) (as := [.inl (xs (i + 1)).toInt, .inl (xs (i + 2)).toInt, .inl (xs (i + 3)).toInt, .inl (xs (i + 4)).toInt, .inl (xs (i + 5)).toInt, .inl 0]) (st := [.inl z]) (d' := 59) ok mlL_88 dL_law_872 (by decide) rfl (Nat.le_of_ble_eq_true rfl) (by rw [hsh]; rfl) (by rw [hsh]; exact hC) fun r h2 hq => ?_
    obtain ⟨rfl, hI2⟩ := hq
    change ja_At X 875 (lwL i) [.inl z, .inl z] h2
    exact ja_s_icmp_eq ok dL_law_875 rfl (fun _ => kk h2 hI2) (fun y => absurd rfl y)
  · refine ja_s_aload_n ok dL_law_789 rfl rfl ?_
    refine jz_arg (j := 1) ok sc hL hi (by decide) dL_law_790 dL_law_791 dL_law_792 (by decide) dL_law_793 dL_law_794 ?_
    refine jz_arg (j := 2) ok sc hL hi (by decide) dL_law_795 dL_law_796 dL_law_797 (by decide) dL_law_798 dL_law_799 ?_
    refine jz_arg (j := 3) ok sc hL hi (by decide) dL_law_800 dL_law_801 dL_law_802 (by decide) dL_law_803 dL_law_804 ?_
    refine jz_arg (j := 4) ok sc hL hi (by decide) dL_law_805 dL_law_806 dL_law_807 (by decide) dL_law_808 dL_law_809 ?_
    refine jz_arg (j := 5) ok sc hL hi (by decide) dL_law_810 dL_law_811 dL_law_812 (by decide) dL_law_813 dL_law_814 ?_
    refine jz_arg6 (j := 6) ok sc hL hi (by decide) dL_law_815 dL_law_816 dL_law_817 (by decide) dL_law_819 dL_law_820 ?_
    refine ja_s_if_eq ok dL_law_821 rfl (fun y => absurd y y0) (fun _ => ?_)
    refine ja_s_iconst ok dL_law_824 (v := 1) (by decide) (ja_s_goto ok dL_law_825 rfl ?_)
    refine ja_s_callV (ci := 11) (k := 0) (as := [.inl (xs (i + 1)).toInt, .inl (xs (i + 2)).toInt, .inl (xs (i + 3)).toInt, .inl (xs (i + 4)).toInt, .inl (xs (i + 5)).toInt, .inl 1]) (st := []) (d' := 59) ok mlL_84 dL_law_829 (by decide) rfl (Nat.le_of_ble_eq_true rfl) (by rw [hsh]; rfl) (by rw [hsh]; exact (vv_squares (d := 12) hI (Or.inr rfl))) fun r h1 hq => ?_
    obtain ⟨z, rfl, hC⟩ := hq
    change ja_At X 832 (lwL i) [.inl z] h1
    refine ja_s_aload_n ok dL_law_832 rfl rfl ?_
    refine jz_arg (j := 1) ok sc hL hi (by decide) dL_law_833 dL_law_834 dL_law_835 (by decide) dL_law_836 dL_law_837 ?_
    refine jz_arg (j := 2) ok sc hL hi (by decide) dL_law_838 dL_law_839 dL_law_840 (by decide) dL_law_841 dL_law_842 ?_
    refine jz_arg (j := 3) ok sc hL hi (by decide) dL_law_843 dL_law_844 dL_law_845 (by decide) dL_law_846 dL_law_847 ?_
    refine jz_arg (j := 4) ok sc hL hi (by decide) dL_law_848 dL_law_849 dL_law_850 (by decide) dL_law_851 dL_law_852 ?_
    refine jz_arg (j := 5) ok sc hL hi (by decide) dL_law_853 dL_law_854 dL_law_855 (by decide) dL_law_856 dL_law_857 ?_
    refine jz_arg6 (j := 6) ok sc hL hi (by decide) dL_law_858 dL_law_859 dL_law_860 (by decide) dL_law_862 dL_law_863 ?_
    refine ja_s_if_eq ok dL_law_864 rfl (fun y => absurd y y0) (fun _ => ?_)
    refine ja_s_iconst ok dL_law_867 (v := 1) (by decide) (ja_s_goto ok dL_law_868 rfl ?_)
    refine ja_s_callV (ci := 12) (k := 90) (as := [.inl (xs (i + 1)).toInt, .inl (xs (i + 2)).toInt, .inl (xs (i + 3)).toInt, .inl (xs (i + 4)).toInt, .inl (xs (i + 5)).toInt, .inl 1]) (st := [.inl z]) (d' := 59) ok mlL_88 dL_law_872 (by decide) rfl (Nat.le_of_ble_eq_true rfl) (by rw [hsh]; rfl) (by rw [hsh]; exact hC) fun r h2 hq => ?_
    obtain ⟨rfl, hI2⟩ := hq
    change ja_At X 875 (lwL i) [.inl z, .inl z] h2
    exact ja_s_icmp_eq ok dL_law_875 rfl (fun _ => kk h2 hI2) (fun y => absurd rfl y)
theorem law_c14 (ok : ja_Ok X cL_law RL 60) (sc : ja_Sc X L xs) (hsh : ja_sh X = js_sh n) (hL : i + 7 ≤ L) (hi : i ≤ 4000) (hI : INV w g n h) (kk : ∀ h', INV w g n h' → ja_At X 1418 (lwL i) [] h') : ja_At X 880 (lwL i) [] h := by
  refine ja_s_aload_n ok dL_law_880 rfl rfl ?_
  refine jz_arg (j := 1) ok sc hL hi (by decide) dL_law_881 dL_law_882 dL_law_883 (by decide) dL_law_884 dL_law_885 ?_
  refine jz_arg (j := 2) ok sc hL hi (by decide) dL_law_886 dL_law_887 dL_law_888 (by decide) dL_law_889 dL_law_890 ?_
  refine jz_arg (j := 3) ok sc hL hi (by decide) dL_law_891 dL_law_892 dL_law_893 (by decide) dL_law_894 dL_law_895 ?_
  refine jz_arg (j := 4) ok sc hL hi (by decide) dL_law_896 dL_law_897 dL_law_898 (by decide) dL_law_899 dL_law_900 ?_
  refine ja_s_callV (ci := 11) (k := 0) (as := [.inl (xs (i + 1)).toInt, .inl (xs (i + 2)).toInt, .inl (xs (i + 3)).toInt, .inl (xs (i + 4)).toInt]) (st := []) (d' := 59) ok mlL_89 dL_law_901 (by decide) rfl (Nat.le_of_ble_eq_true rfl) (by rw [hsh]; rfl) (by rw [hsh]; exact (vv_twice (d := 12) hI)) fun r h1 hq => ?_
  obtain ⟨z, rfl, hC⟩ := hq
  change ja_At X 904 (lwL i) [.inl z] h1
  refine ja_s_aload_n ok dL_law_904 rfl rfl ?_
  refine jz_arg (j := 1) ok sc hL hi (by decide) dL_law_905 dL_law_906 dL_law_907 (by decide) dL_law_908 dL_law_909 ?_
  refine jz_arg (j := 2) ok sc hL hi (by decide) dL_law_910 dL_law_911 dL_law_912 (by decide) dL_law_913 dL_law_914 ?_
  refine jz_arg (j := 3) ok sc hL hi (by decide) dL_law_915 dL_law_916 dL_law_917 (by decide) dL_law_918 dL_law_919 ?_
  refine jz_arg (j := 4) ok sc hL hi (by decide) dL_law_920 dL_law_921 dL_law_922 (by decide) dL_law_923 dL_law_924 ?_
  refine ja_s_callV (ci := 12) (k := 90) (as := [.inl (xs (i + 1)).toInt, .inl (xs (i + 2)).toInt, .inl (xs (i + 3)).toInt, .inl (xs (i + 4)).toInt]) (st := [.inl z]) (d' := 59) ok mlL_92 dL_law_925 (by decide) rfl (Nat.le_of_ble_eq_true rfl) (by rw [hsh]; rfl) (by rw [hsh]; exact hC) fun r h2 hq => ?_
  obtain ⟨rfl, hI2⟩ := hq
  change ja_At X 928 (lwL i) [.inl z, .inl z] h2
  exact ja_s_icmp_eq ok dL_law_928 rfl (fun _ => kk h2 hI2) (fun y => absurd rfl y)
theorem law_c15 (ok : ja_Ok X cL_law RL 60) (sc : ja_Sc X L xs) (hsh : ja_sh X = js_sh n) (hL : i + 7 ≤ L) (hi : i ≤ 4000) (hI : INV w g n h) (kk : ∀ h', INV w g n h' → ja_At X 1418 (lwL i) [] h') : ja_At X 933 (lwL i) [] h := by
  refine ja_s_aload_n ok dL_law_933 rfl rfl ?_
  refine jz_arg (j := 1) ok sc hL hi (by decide) dL_law_934 dL_law_935 dL_law_936 (by decide) dL_law_937 dL_law_938 ?_
  refine jz_arg (j := 2) ok sc hL hi (by decide) dL_law_939 dL_law_940 dL_law_941 (by decide) dL_law_942 dL_law_943 ?_
  refine jz_arg (j := 3) ok sc hL hi (by decide) dL_law_944 dL_law_945 dL_law_946 (by decide) dL_law_947 dL_law_948 ?_
  refine ja_s_callV (ci := 11) (k := 0) (as := [.inl (xs (i + 1)).toInt, .inl (xs (i + 2)).toInt, .inl (xs (i + 3)).toInt]) (st := []) (d' := 59) ok mlL_93 dL_law_949 (by decide) rfl (Nat.le_of_ble_eq_true rfl) (by rw [hsh]; rfl) (by rw [hsh]; exact (vv_two (d := 12) hI)) fun r h1 hq => ?_
  obtain ⟨z, rfl, hC⟩ := hq
  change ja_At X 952 (lwL i) [.inl z] h1
  refine ja_s_aload_n ok dL_law_952 rfl rfl ?_
  refine jz_arg (j := 1) ok sc hL hi (by decide) dL_law_953 dL_law_954 dL_law_955 (by decide) dL_law_956 dL_law_957 ?_
  refine jz_arg (j := 2) ok sc hL hi (by decide) dL_law_958 dL_law_959 dL_law_960 (by decide) dL_law_961 dL_law_962 ?_
  refine jz_arg (j := 3) ok sc hL hi (by decide) dL_law_963 dL_law_964 dL_law_965 (by decide) dL_law_966 dL_law_967 ?_
  refine ja_s_callV (ci := 12) (k := 90) (as := [.inl (xs (i + 1)).toInt, .inl (xs (i + 2)).toInt, .inl (xs (i + 3)).toInt]) (st := [.inl z]) (d' := 59) ok mlL_96 dL_law_968 (by decide) rfl (Nat.le_of_ble_eq_true rfl) (by rw [hsh]; rfl) (by rw [hsh]; exact hC) fun r h2 hq => ?_
  obtain ⟨rfl, hI2⟩ := hq
  change ja_At X 971 (lwL i) [.inl z, .inl z] h2
  exact ja_s_icmp_eq ok dL_law_971 rfl (fun _ => kk h2 hI2) (fun y => absurd rfl y)
theorem law_c16 (ok : ja_Ok X cL_law RL 60) (sc : ja_Sc X L xs) (hsh : ja_sh X = js_sh n) (hL : i + 7 ≤ L) (hi : i ≤ 4000) (hI : INV w g n h) (kk : ∀ h', INV w g n h' → ja_At X 1418 (lwL i) [] h') : ja_At X 976 (lwL i) [] h := by
  refine ja_s_aload_n ok dL_law_976 rfl rfl ?_
  refine jz_arg (j := 1) ok sc hL hi (by decide) dL_law_977 dL_law_978 dL_law_979 (by decide) dL_law_980 dL_law_981 ?_
  refine jz_arg (j := 2) ok sc hL hi (by decide) dL_law_982 dL_law_983 dL_law_984 (by decide) dL_law_985 dL_law_986 ?_
  refine jz_arg (j := 3) ok sc hL hi (by decide) dL_law_987 dL_law_988 dL_law_989 (by decide) dL_law_990 dL_law_991 ?_
  refine jz_arg (j := 4) ok sc hL hi (by decide) dL_law_992 dL_law_993 dL_law_994 (by decide) dL_law_995 dL_law_996 ?_
  refine jz_arg (j := 5) ok sc hL hi (by decide) dL_law_997 dL_law_998 dL_law_999 (by decide) dL_law_1000 dL_law_1001 ?_
  refine ja_s_callV (ci := 11) (k := 0) (as := [.inl (xs (i + 1)).toInt, .inl (xs (i + 2)).toInt, .inl (xs (i + 3)).toInt, .inl (xs (i + 4)).toInt, .inl (xs (i + 5)).toInt]) (st := []) (d' := 59) ok mlL_97 dL_law_1002 (by decide) rfl (Nat.le_of_ble_eq_true rfl) (by rw [hsh]; rfl) (by rw [hsh]; exact (vv_feed (d := 12) hI)) fun r h1 hq => ?_
  obtain ⟨z, rfl, hC⟩ := hq
  change ja_At X 1005 (lwL i) [.inl z] h1
  refine ja_s_aload_n ok dL_law_1005 rfl rfl ?_
  refine jz_arg (j := 1) ok sc hL hi (by decide) dL_law_1006 dL_law_1007 dL_law_1008 (by decide) dL_law_1009 dL_law_1010 ?_
  refine jz_arg (j := 2) ok sc hL hi (by decide) dL_law_1011 dL_law_1012 dL_law_1013 (by decide) dL_law_1014 dL_law_1015 ?_
  refine jz_arg (j := 3) ok sc hL hi (by decide) dL_law_1016 dL_law_1017 dL_law_1018 (by decide) dL_law_1019 dL_law_1020 ?_
  refine jz_arg (j := 4) ok sc hL hi (by decide) dL_law_1021 dL_law_1022 dL_law_1023 (by decide) dL_law_1024 dL_law_1025 ?_
  refine jz_arg (j := 5) ok sc hL hi (by decide) dL_law_1026 dL_law_1027 dL_law_1028 (by decide) dL_law_1029 dL_law_1030 ?_
  refine ja_s_callV (ci := 12) (k := 90) (as := [.inl (xs (i + 1)).toInt, .inl (xs (i + 2)).toInt, .inl (xs (i + 3)).toInt, .inl (xs (i + 4)).toInt, .inl (xs (i + 5)).toInt]) (st := [.inl z]) (d' := 59) ok mlL_100 dL_law_1031 (by decide) rfl (Nat.le_of_ble_eq_true rfl) (by rw [hsh]; rfl) (by rw [hsh]; exact hC) fun r h2 hq => ?_
  obtain ⟨rfl, hI2⟩ := hq
  change ja_At X 1034 (lwL i) [.inl z, .inl z] h2
  exact ja_s_icmp_eq ok dL_law_1034 rfl (fun _ => kk h2 hI2) (fun y => absurd rfl y)
theorem law_c17 (ok : ja_Ok X cL_law RL 60) (sc : ja_Sc X L xs) (hsh : ja_sh X = js_sh n) (hL : i + 7 ≤ L) (hi : i ≤ 4000) (hI : INV w g n h) (kk : ∀ h', INV w g n h' → ja_At X 1418 (lwL i) [] h') : ja_At X 1039 (lwL i) [] h := by
  refine ja_s_aload_n ok dL_law_1039 rfl rfl ?_
  refine jz_arg (j := 1) ok sc hL hi (by decide) dL_law_1040 dL_law_1041 dL_law_1042 (by decide) dL_law_1043 dL_law_1044 ?_
  refine ja_s_callV (ci := 11) (k := 0) (as := [.inl (xs (i + 1)).toInt]) (st := []) (d' := 59) ok mlL_101 dL_law_1045 (by decide) rfl (Nat.le_of_ble_eq_true rfl) (by rw [hsh]; rfl) (by rw [hsh]; exact (vv_end (d := 12) hI)) fun r h1 hq => ?_
  obtain ⟨z, rfl, hC⟩ := hq
  change ja_At X 1048 (lwL i) [.inl z] h1
  refine ja_s_aload_n ok dL_law_1048 rfl rfl ?_
  refine jz_arg (j := 1) ok sc hL hi (by decide) dL_law_1049 dL_law_1050 dL_law_1051 (by decide) dL_law_1052 dL_law_1053 ?_
  refine ja_s_callV (ci := 12) (k := 90) (as := [.inl (xs (i + 1)).toInt]) (st := [.inl z]) (d' := 59) ok mlL_104 dL_law_1054 (by decide) rfl (Nat.le_of_ble_eq_true rfl) (by rw [hsh]; rfl) (by rw [hsh]; exact hC) fun r h2 hq => ?_
  obtain ⟨rfl, hI2⟩ := hq
  change ja_At X 1057 (lwL i) [.inl z, .inl z] h2
  exact ja_s_icmp_eq ok dL_law_1057 rfl (fun _ => kk h2 hI2) (fun y => absurd rfl y)
theorem law_c18 (ok : ja_Ok X cL_law RL 60) (sc : ja_Sc X L xs) (hsh : ja_sh X = js_sh n) (hL : i + 7 ≤ L) (hi : i ≤ 4000) (hI : INV w g n h) (kk : ∀ h', INV w g n h' → ja_At X 1418 (lwL i) [] h') : ja_At X 1062 (lwL i) [] h := by
  refine ja_s_aload_n ok dL_law_1062 rfl rfl ?_
  refine ja_s_callV (ci := 11) (k := 0) (as := []) (st := []) (d' := 59) ok mlL_105 dL_law_1063 (by decide) rfl (Nat.le_of_ble_eq_true rfl) (by rw [hsh]; rfl) (by rw [hsh]; exact (vv_text (d := 12) hI)) fun r h1 hq => ?_
  obtain ⟨z, rfl, hC⟩ := hq
  change ja_At X 1066 (lwL i) [.inl z] h1
  refine ja_s_aload_n ok dL_law_1066 rfl rfl ?_
  refine ja_s_callV (ci := 12) (k := 90) (as := []) (st := [.inl z]) (d' := 59) ok mlL_109 dL_law_1067 (by decide) rfl (Nat.le_of_ble_eq_true rfl) (by rw [hsh]; rfl) (by rw [hsh]; exact hC) fun r h2 hq => ?_
  obtain ⟨rfl, hI2⟩ := hq
  change ja_At X 1070 (lwL i) [.inl z, .inl z] h2
  exact ja_s_icmp_eq ok dL_law_1070 rfl (fun _ => kk h2 hI2) (fun y => absurd rfl y)
theorem law_c19 (ok : ja_Ok X cL_law RL 60) (sc : ja_Sc X L xs) (hsh : ja_sh X = js_sh n) (hL : i + 7 ≤ L) (hi : i ≤ 4000) (hI : INV w g n h) (kk : ∀ h', INV w g n h' → ja_At X 1418 (lwL i) [] h') : ja_At X 1075 (lwL i) [] h := by
  refine ja_s_aload_n ok dL_law_1075 rfl rfl ?_
  refine jz_arg (j := 1) ok sc hL hi (by decide) dL_law_1076 dL_law_1077 dL_law_1078 (by decide) dL_law_1079 dL_law_1080 ?_
  refine ja_s_callV (ci := 11) (k := 0) (as := [.inl (xs (i + 1)).toInt]) (st := []) (d' := 59) ok mlL_110 dL_law_1081 (by decide) rfl (Nat.le_of_ble_eq_true rfl) (by rw [hsh]; rfl) (by rw [hsh]; exact (vv_fault (d := 12) hI)) fun r h1 hq => ?_
  obtain ⟨z, rfl, hC⟩ := hq
  change ja_At X 1084 (lwL i) [.inl z] h1
  refine ja_s_aload_n ok dL_law_1084 rfl rfl ?_
  refine jz_arg (j := 1) ok sc hL hi (by decide) dL_law_1085 dL_law_1086 dL_law_1087 (by decide) dL_law_1088 dL_law_1089 ?_
  refine ja_s_callV (ci := 12) (k := 90) (as := [.inl (xs (i + 1)).toInt]) (st := [.inl z]) (d' := 59) ok mlL_113 dL_law_1090 (by decide) rfl (Nat.le_of_ble_eq_true rfl) (by rw [hsh]; rfl) (by rw [hsh]; exact hC) fun r h2 hq => ?_
  obtain ⟨rfl, hI2⟩ := hq
  change ja_At X 1093 (lwL i) [.inl z, .inl z] h2
  exact ja_s_icmp_eq ok dL_law_1093 rfl (fun _ => kk h2 hI2) (fun y => absurd rfl y)
theorem law_c20 (ok : ja_Ok X cL_law RL 60) (sc : ja_Sc X L xs) (hsh : ja_sh X = js_sh n) (hL : i + 7 ≤ L) (hi : i ≤ 4000) (hI : INV w g n h) (kk : ∀ h', INV w g n h' → ja_At X 1418 (lwL i) [] h') : ja_At X 1098 (lwL i) [] h := by
  refine ja_s_aload_n ok dL_law_1098 rfl rfl ?_
  refine jz_arg (j := 1) ok sc hL hi (by decide) dL_law_1099 dL_law_1100 dL_law_1101 (by decide) dL_law_1102 dL_law_1103 ?_
  refine jz_arg (j := 2) ok sc hL hi (by decide) dL_law_1104 dL_law_1105 dL_law_1106 (by decide) dL_law_1107 dL_law_1108 ?_
  refine ja_s_callV (ci := 11) (k := 0) (as := [.inl (xs (i + 1)).toInt, .inl (xs (i + 2)).toInt]) (st := []) (d' := 59) ok mlL_114 dL_law_1109 (by decide) rfl (Nat.le_of_ble_eq_true rfl) (by rw [hsh]; rfl) (by rw [hsh]; exact (vv_act (d := 12) hI)) fun r h1 hq => ?_
  obtain ⟨z, rfl, hC⟩ := hq
  change ja_At X 1112 (lwL i) [.inl z] h1
  refine ja_s_aload_n ok dL_law_1112 rfl rfl ?_
  refine jz_arg (j := 1) ok sc hL hi (by decide) dL_law_1113 dL_law_1114 dL_law_1115 (by decide) dL_law_1116 dL_law_1117 ?_
  refine jz_arg (j := 2) ok sc hL hi (by decide) dL_law_1118 dL_law_1119 dL_law_1120 (by decide) dL_law_1121 dL_law_1122 ?_
  refine ja_s_callV (ci := 12) (k := 90) (as := [.inl (xs (i + 1)).toInt, .inl (xs (i + 2)).toInt]) (st := [.inl z]) (d' := 59) ok mlL_117 dL_law_1123 (by decide) rfl (Nat.le_of_ble_eq_true rfl) (by rw [hsh]; rfl) (by rw [hsh]; exact hC) fun r h2 hq => ?_
  obtain ⟨rfl, hI2⟩ := hq
  change ja_At X 1126 (lwL i) [.inl z, .inl z] h2
  exact ja_s_icmp_eq ok dL_law_1126 rfl (fun _ => kk h2 hI2) (fun y => absurd rfl y)
theorem law_c21 (ok : ja_Ok X cL_law RL 60) (sc : ja_Sc X L xs) (hsh : ja_sh X = js_sh n) (hL : i + 7 ≤ L) (hi : i ≤ 4000) (hI : INV w g n h) (kk : ∀ h', INV w g n h' → ja_At X 1418 (lwL i) [] h') : ja_At X 1131 (lwL i) [] h := by
  refine ja_s_aload_n ok dL_law_1131 rfl rfl ?_
  refine jz_arg (j := 1) ok sc hL hi (by decide) dL_law_1132 dL_law_1133 dL_law_1134 (by decide) dL_law_1135 dL_law_1136 ?_
  refine jz_arg (j := 2) ok sc hL hi (by decide) dL_law_1137 dL_law_1138 dL_law_1139 (by decide) dL_law_1140 dL_law_1141 ?_
  refine jz_arg (j := 3) ok sc hL hi (by decide) dL_law_1142 dL_law_1143 dL_law_1144 (by decide) dL_law_1145 dL_law_1146 ?_
  refine ja_s_callV (ci := 11) (k := 0) (as := [.inl (xs (i + 1)).toInt, .inl (xs (i + 2)).toInt, .inl (xs (i + 3)).toInt]) (st := []) (d' := 59) ok mlL_118 dL_law_1147 (by decide) rfl (Nat.le_of_ble_eq_true rfl) (by rw [hsh]; rfl) (by rw [hsh]; exact (vv_story (d := 12) hI)) fun r h1 hq => ?_
  obtain ⟨z, rfl, hC⟩ := hq
  change ja_At X 1150 (lwL i) [.inl z] h1
  refine ja_s_aload_n ok dL_law_1150 rfl rfl ?_
  refine jz_arg (j := 1) ok sc hL hi (by decide) dL_law_1151 dL_law_1152 dL_law_1153 (by decide) dL_law_1154 dL_law_1155 ?_
  refine jz_arg (j := 2) ok sc hL hi (by decide) dL_law_1156 dL_law_1157 dL_law_1158 (by decide) dL_law_1159 dL_law_1160 ?_
  refine jz_arg (j := 3) ok sc hL hi (by decide) dL_law_1161 dL_law_1162 dL_law_1163 (by decide) dL_law_1164 dL_law_1165 ?_
  refine ja_s_callV (ci := 12) (k := 90) (as := [.inl (xs (i + 1)).toInt, .inl (xs (i + 2)).toInt, .inl (xs (i + 3)).toInt]) (st := [.inl z]) (d' := 59) ok mlL_121 dL_law_1166 (by decide) rfl (Nat.le_of_ble_eq_true rfl) (by rw [hsh]; rfl) (by rw [hsh]; exact hC) fun r h2 hq => ?_
  obtain ⟨rfl, hI2⟩ := hq
  change ja_At X 1169 (lwL i) [.inl z, .inl z] h2
  exact ja_s_icmp_eq ok dL_law_1169 rfl (fun _ => kk h2 hI2) (fun y => absurd rfl y)
theorem law_c22 (ok : ja_Ok X cL_law RL 60) (sc : ja_Sc X L xs) (hsh : ja_sh X = js_sh n) (hL : i + 7 ≤ L) (hi : i ≤ 4000) (hI : INV w g n h) (kk : ∀ h', INV w g n h' → ja_At X 1418 (lwL i) [] h') : ja_At X 1174 (lwL i) [] h := by
  refine ja_s_aload_n ok dL_law_1174 rfl rfl ?_
  refine jz_arg (j := 1) ok sc hL hi (by decide) dL_law_1175 dL_law_1176 dL_law_1177 (by decide) dL_law_1178 dL_law_1179 ?_
  refine jz_arg (j := 2) ok sc hL hi (by decide) dL_law_1180 dL_law_1181 dL_law_1182 (by decide) dL_law_1183 dL_law_1184 ?_
  refine ja_s_callV (ci := 11) (k := 0) (as := [.inl (xs (i + 1)).toInt, .inl (xs (i + 2)).toInt]) (st := []) (d' := 59) ok mlL_122 dL_law_1185 (by decide) rfl (Nat.le_of_ble_eq_true rfl) (by rw [hsh]; rfl) (by rw [hsh]; exact (vv_maker (d := 12) hI)) fun r h1 hq => ?_
  obtain ⟨z, rfl, hC⟩ := hq
  change ja_At X 1188 (lwL i) [.inl z] h1
  refine ja_s_aload_n ok dL_law_1188 rfl rfl ?_
  refine jz_arg (j := 1) ok sc hL hi (by decide) dL_law_1189 dL_law_1190 dL_law_1191 (by decide) dL_law_1192 dL_law_1193 ?_
  refine jz_arg (j := 2) ok sc hL hi (by decide) dL_law_1194 dL_law_1195 dL_law_1196 (by decide) dL_law_1197 dL_law_1198 ?_
  refine ja_s_callV (ci := 12) (k := 90) (as := [.inl (xs (i + 1)).toInt, .inl (xs (i + 2)).toInt]) (st := [.inl z]) (d' := 59) ok mlL_125 dL_law_1199 (by decide) rfl (Nat.le_of_ble_eq_true rfl) (by rw [hsh]; rfl) (by rw [hsh]; exact hC) fun r h2 hq => ?_
  obtain ⟨rfl, hI2⟩ := hq
  change ja_At X 1202 (lwL i) [.inl z, .inl z] h2
  exact ja_s_icmp_eq ok dL_law_1202 rfl (fun _ => kk h2 hI2) (fun y => absurd rfl y)
theorem law_c23 (ok : ja_Ok X cL_law RL 60) (sc : ja_Sc X L xs) (hsh : ja_sh X = js_sh n) (hL : i + 7 ≤ L) (hi : i ≤ 4000) (hI : INV w g n h) (kk : ∀ h', INV w g n h' → ja_At X 1418 (lwL i) [] h') : ja_At X 1207 (lwL i) [] h := by
  refine ja_s_aload_n ok dL_law_1207 rfl rfl ?_
  refine jz_arg (j := 1) ok sc hL hi (by decide) dL_law_1208 dL_law_1209 dL_law_1210 (by decide) dL_law_1211 dL_law_1212 ?_
  refine jz_arg (j := 2) ok sc hL hi (by decide) dL_law_1213 dL_law_1214 dL_law_1215 (by decide) dL_law_1216 dL_law_1217 ?_
  refine jz_arg (j := 3) ok sc hL hi (by decide) dL_law_1218 dL_law_1219 dL_law_1220 (by decide) dL_law_1221 dL_law_1222 ?_
  refine ja_s_callV (ci := 11) (k := 0) (as := [.inl (xs (i + 1)).toInt, .inl (xs (i + 2)).toInt, .inl (xs (i + 3)).toInt]) (st := []) (d' := 59) ok mlL_126 dL_law_1223 (by decide) rfl (Nat.le_of_ble_eq_true rfl) (by rw [hsh]; rfl) (by rw [hsh]; exact (vv_habit (d := 12) hI)) fun r h1 hq => ?_
  obtain ⟨z, rfl, hC⟩ := hq
  change ja_At X 1226 (lwL i) [.inl z] h1
  refine ja_s_aload_n ok dL_law_1226 rfl rfl ?_
  refine jz_arg (j := 1) ok sc hL hi (by decide) dL_law_1227 dL_law_1228 dL_law_1229 (by decide) dL_law_1230 dL_law_1231 ?_
  refine jz_arg (j := 2) ok sc hL hi (by decide) dL_law_1232 dL_law_1233 dL_law_1234 (by decide) dL_law_1235 dL_law_1236 ?_
  refine jz_arg (j := 3) ok sc hL hi (by decide) dL_law_1237 dL_law_1238 dL_law_1239 (by decide) dL_law_1240 dL_law_1241 ?_
  refine ja_s_callV (ci := 12) (k := 90) (as := [.inl (xs (i + 1)).toInt, .inl (xs (i + 2)).toInt, .inl (xs (i + 3)).toInt]) (st := [.inl z]) (d' := 59) ok mlL_130 dL_law_1242 (by decide) rfl (Nat.le_of_ble_eq_true rfl) (by rw [hsh]; rfl) (by rw [hsh]; exact hC) fun r h2 hq => ?_
  obtain ⟨rfl, hI2⟩ := hq
  change ja_At X 1245 (lwL i) [.inl z, .inl z] h2
  exact ja_s_icmp_eq ok dL_law_1245 rfl (fun _ => kk h2 hI2) (fun y => absurd rfl y)
theorem law_c24 (ok : ja_Ok X cL_law RL 60) (sc : ja_Sc X L xs) (hsh : ja_sh X = js_sh n) (hL : i + 7 ≤ L) (hi : i ≤ 4000) (hI : INV w g n h) (kk : ∀ h', INV w g n h' → ja_At X 1418 (lwL i) [] h') : ja_At X 1250 (lwL i) [] h := by
  refine ja_s_aload_n ok dL_law_1250 rfl rfl ?_
  refine jz_arg (j := 1) ok sc hL hi (by decide) dL_law_1251 dL_law_1252 dL_law_1253 (by decide) dL_law_1254 dL_law_1255 ?_
  refine ja_s_callV (ci := 11) (k := 0) (as := [.inl (xs (i + 1)).toInt]) (st := []) (d' := 59) ok mlL_131 dL_law_1256 (by decide) rfl (Nat.le_of_ble_eq_true rfl) (by rw [hsh]; rfl) (by rw [hsh]; exact (vv_wane (d := 12) hI)) fun r h1 hq => ?_
  obtain ⟨z, rfl, hC⟩ := hq
  change ja_At X 1259 (lwL i) [.inl z] h1
  refine ja_s_aload_n ok dL_law_1259 rfl rfl ?_
  refine jz_arg (j := 1) ok sc hL hi (by decide) dL_law_1260 dL_law_1261 dL_law_1262 (by decide) dL_law_1263 dL_law_1264 ?_
  refine ja_s_callV (ci := 12) (k := 90) (as := [.inl (xs (i + 1)).toInt]) (st := [.inl z]) (d' := 59) ok mlL_135 dL_law_1265 (by decide) rfl (Nat.le_of_ble_eq_true rfl) (by rw [hsh]; rfl) (by rw [hsh]; exact hC) fun r h2 hq => ?_
  obtain ⟨rfl, hI2⟩ := hq
  change ja_At X 1268 (lwL i) [.inl z, .inl z] h2
  exact ja_s_icmp_eq ok dL_law_1268 rfl (fun _ => kk h2 hI2) (fun y => absurd rfl y)
theorem law_c25 (ok : ja_Ok X cL_law RL 60) (sc : ja_Sc X L xs) (hsh : ja_sh X = js_sh n) (hL : i + 7 ≤ L) (hi : i ≤ 4000) (hI : INV w g n h) (kk : ∀ h', INV w g n h' → ja_At X 1418 (lwL i) [] h') : ja_At X 1273 (lwL i) [] h := by
  refine ja_s_aload_n ok dL_law_1273 rfl rfl ?_
  refine jz_arg (j := 1) ok sc hL hi (by decide) dL_law_1274 dL_law_1275 dL_law_1276 (by decide) dL_law_1277 dL_law_1278 ?_
  refine jz_arg (j := 2) ok sc hL hi (by decide) dL_law_1279 dL_law_1280 dL_law_1281 (by decide) dL_law_1282 dL_law_1283 ?_
  refine jz_arg (j := 3) ok sc hL hi (by decide) dL_law_1284 dL_law_1285 dL_law_1286 (by decide) dL_law_1287 dL_law_1288 ?_
  refine ja_s_callV (ci := 11) (k := 0) (as := [.inl (xs (i + 1)).toInt, .inl (xs (i + 2)).toInt, .inl (xs (i + 3)).toInt]) (st := []) (d' := 59) ok mlL_136 dL_law_1289 (by decide) rfl (Nat.le_of_ble_eq_true rfl) (by rw [hsh]; rfl) (by rw [hsh]; exact (vv_odds (d := 12) hI)) fun r h1 hq => ?_
  obtain ⟨z, rfl, hC⟩ := hq
  change ja_At X 1292 (lwL i) [.inl z] h1
  refine ja_s_aload_n ok dL_law_1292 rfl rfl ?_
  refine jz_arg (j := 1) ok sc hL hi (by decide) dL_law_1293 dL_law_1294 dL_law_1295 (by decide) dL_law_1296 dL_law_1297 ?_
  refine jz_arg (j := 2) ok sc hL hi (by decide) dL_law_1298 dL_law_1299 dL_law_1300 (by decide) dL_law_1301 dL_law_1302 ?_
  refine jz_arg (j := 3) ok sc hL hi (by decide) dL_law_1303 dL_law_1304 dL_law_1305 (by decide) dL_law_1306 dL_law_1307 ?_
  refine ja_s_callV (ci := 12) (k := 90) (as := [.inl (xs (i + 1)).toInt, .inl (xs (i + 2)).toInt, .inl (xs (i + 3)).toInt]) (st := [.inl z]) (d' := 59) ok mlL_139 dL_law_1308 (by decide) rfl (Nat.le_of_ble_eq_true rfl) (by rw [hsh]; rfl) (by rw [hsh]; exact hC) fun r h2 hq => ?_
  obtain ⟨rfl, hI2⟩ := hq
  change ja_At X 1311 (lwL i) [.inl z, .inl z] h2
  exact ja_s_icmp_eq ok dL_law_1311 rfl (fun _ => kk h2 hI2) (fun y => absurd rfl y)
theorem law_c26 (ok : ja_Ok X cL_law RL 60) (sc : ja_Sc X L xs) (hsh : ja_sh X = js_sh n) (hL : i + 7 ≤ L) (hi : i ≤ 4000) (hI : INV w g n h) (kk : ∀ h', INV w g n h' → ja_At X 1418 (lwL i) [] h') : ja_At X 1316 (lwL i) [] h := by
  refine ja_s_aload_n ok dL_law_1316 rfl rfl ?_
  refine jz_arg (j := 1) ok sc hL hi (by decide) dL_law_1317 dL_law_1318 dL_law_1319 (by decide) dL_law_1320 dL_law_1321 ?_
  refine jz_arg (j := 2) ok sc hL hi (by decide) dL_law_1322 dL_law_1323 dL_law_1324 (by decide) dL_law_1325 dL_law_1326 ?_
  refine jz_arg (j := 3) ok sc hL hi (by decide) dL_law_1327 dL_law_1328 dL_law_1329 (by decide) dL_law_1330 dL_law_1331 ?_
  refine jz_arg (j := 4) ok sc hL hi (by decide) dL_law_1332 dL_law_1333 dL_law_1334 (by decide) dL_law_1335 dL_law_1336 ?_
  refine ja_s_callV (ci := 11) (k := 0) (as := [.inl (xs (i + 1)).toInt, .inl (xs (i + 2)).toInt, .inl (xs (i + 3)).toInt, .inl (xs (i + 4)).toInt]) (st := []) (d' := 59) ok mlL_140 dL_law_1337 (by decide) rfl (Nat.le_of_ble_eq_true rfl) (by rw [hsh]; rfl) (by rw [hsh]; exact (vv_say (d := 12) hI)) fun r h1 hq => ?_
  obtain ⟨z, rfl, hC⟩ := hq
  change ja_At X 1340 (lwL i) [.inl z] h1
  refine ja_s_aload_n ok dL_law_1340 rfl rfl ?_
  refine jz_arg (j := 1) ok sc hL hi (by decide) dL_law_1341 dL_law_1342 dL_law_1343 (by decide) dL_law_1344 dL_law_1345 ?_
  refine jz_arg (j := 2) ok sc hL hi (by decide) dL_law_1346 dL_law_1347 dL_law_1348 (by decide) dL_law_1349 dL_law_1350 ?_
  refine jz_arg (j := 3) ok sc hL hi (by decide) dL_law_1351 dL_law_1352 dL_law_1353 (by decide) dL_law_1354 dL_law_1355 ?_
  refine jz_arg (j := 4) ok sc hL hi (by decide) dL_law_1356 dL_law_1357 dL_law_1358 (by decide) dL_law_1359 dL_law_1360 ?_
  refine ja_s_callV (ci := 12) (k := 90) (as := [.inl (xs (i + 1)).toInt, .inl (xs (i + 2)).toInt, .inl (xs (i + 3)).toInt, .inl (xs (i + 4)).toInt]) (st := [.inl z]) (d' := 59) ok mlL_143 dL_law_1361 (by decide) rfl (Nat.le_of_ble_eq_true rfl) (by rw [hsh]; rfl) (by rw [hsh]; exact hC) fun r h2 hq => ?_
  obtain ⟨rfl, hI2⟩ := hq
  change ja_At X 1364 (lwL i) [.inl z, .inl z] h2
  exact ja_s_icmp_eq ok dL_law_1364 rfl (fun _ => kk h2 hI2) (fun y => absurd rfl y)
theorem law_c27 (ok : ja_Ok X cL_law RL 60) (sc : ja_Sc X L xs) (hsh : ja_sh X = js_sh n) (hL : i + 7 ≤ L) (hi : i ≤ 4000) (hI : INV w g n h) (kk : ∀ h', INV w g n h' → ja_At X 1418 (lwL i) [] h') : ja_At X 1369 (lwL i) [] h := by
  refine ja_s_aload_n ok dL_law_1369 rfl rfl ?_
  refine ja_s_callV (ci := 11) (k := 0) (as := []) (st := []) (d' := 59) ok mlL_144 dL_law_1370 (by decide) rfl (Nat.le_of_ble_eq_true rfl) (by rw [hsh]; rfl) (by rw [hsh]; exact (vv_image (d := 12) hI)) fun r h1 hq => ?_
  obtain ⟨z, rfl, hC⟩ := hq
  change ja_At X 1373 (lwL i) [.inl z] h1
  refine ja_s_aload_n ok dL_law_1373 rfl rfl ?_
  refine ja_s_callV (ci := 12) (k := 90) (as := []) (st := [.inl z]) (d' := 59) ok mlL_147 dL_law_1374 (by decide) rfl (Nat.le_of_ble_eq_true rfl) (by rw [hsh]; rfl) (by rw [hsh]; exact hC) fun r h2 hq => ?_
  obtain ⟨rfl, hI2⟩ := hq
  change ja_At X 1377 (lwL i) [.inl z, .inl z] h2
  exact ja_s_icmp_eq ok dL_law_1377 rfl (fun _ => kk h2 hI2) (fun y => absurd rfl y)
theorem law_c28 (ok : ja_Ok X cL_law RL 60) (sc : ja_Sc X L xs) (hsh : ja_sh X = js_sh n) (hL : i + 7 ≤ L) (hi : i ≤ 4000) (hI : INV w g n h) (kk : ∀ h', INV w g n h' → ja_At X 1418 (lwL i) [] h') : ja_At X 1382 (lwL i) [] h := by
  refine ja_s_aload_n ok dL_law_1382 rfl rfl ?_
  refine ja_s_callV (ci := 11) (k := 0) (as := []) (st := []) (d' := 59) ok mlL_148 dL_law_1383 (by decide) rfl (Nat.le_of_ble_eq_true rfl) (by rw [hsh]; rfl) (by rw [hsh]; exact (vv_back (d := 12) hI)) fun r h1 hq => ?_
  obtain ⟨z, rfl, hC⟩ := hq
  change ja_At X 1386 (lwL i) [.inl z] h1
  refine ja_s_aload_n ok dL_law_1386 rfl rfl ?_
  refine ja_s_callV (ci := 12) (k := 90) (as := []) (st := [.inl z]) (d' := 59) ok mlL_151 dL_law_1387 (by decide) rfl (Nat.le_of_ble_eq_true rfl) (by rw [hsh]; rfl) (by rw [hsh]; exact hC) fun r h2 hq => ?_
  obtain ⟨rfl, hI2⟩ := hq
  change ja_At X 1390 (lwL i) [.inl z, .inl z] h2
  exact ja_s_icmp_eq ok dL_law_1390 rfl (fun _ => kk h2 hI2) (fun y => absurd rfl y)
theorem law_c29 (ok : ja_Ok X cL_law RL 60) (sc : ja_Sc X L xs) (hsh : ja_sh X = js_sh n) (hL : i + 7 ≤ L) (hi : i ≤ 4000) (hI : INV w g n h) (kk : ∀ h', INV w g n h' → ja_At X 1418 (lwL i) [] h') : ja_At X 1395 (lwL i) [] h := by
  refine ja_s_aload_n ok dL_law_1395 rfl rfl ?_
  refine jz_arg (j := 1) ok sc hL hi (by decide) dL_law_1396 dL_law_1397 dL_law_1398 (by decide) dL_law_1399 dL_law_1400 ?_
  refine ja_s_callV (ci := 11) (k := 0) (as := [.inl (xs (i + 1)).toInt]) (st := []) (d' := 59) ok mlL_152 dL_law_1401 (by decide) rfl (Nat.le_of_ble_eq_true rfl) (by rw [hsh]; rfl) (by rw [hsh]; exact (vv_about (d := 12) hI)) fun r h1 hq => ?_
  obtain ⟨z, rfl, hC⟩ := hq
  change ja_At X 1404 (lwL i) [.inl z] h1
  refine ja_s_aload_n ok dL_law_1404 rfl rfl ?_
  refine jz_arg (j := 1) ok sc hL hi (by decide) dL_law_1405 dL_law_1406 dL_law_1407 (by decide) dL_law_1408 dL_law_1409 ?_
  refine ja_s_callV (ci := 12) (k := 90) (as := [.inl (xs (i + 1)).toInt]) (st := [.inl z]) (d' := 59) ok mlL_155 dL_law_1410 (by decide) rfl (Nat.le_of_ble_eq_true rfl) (by rw [hsh]; rfl) (by rw [hsh]; exact hC) fun r h2 hq => ?_
  obtain ⟨rfl, hI2⟩ := hq
  change ja_At X 1413 (lwL i) [.inl z, .inl z] h2
  exact ja_s_icmp_eq ok dL_law_1413 rfl (fun _ => kk h2 hI2) (fun y => absurd rfl y)
end JLW
