theorem wd_1_0 : (.classLink RL 7 RX5 : Cond) ∈ wsL_law := mr_1 _ (List.mem_of_getElem? (i := 0) rfl)
theorem wd_1_1 : (.instantiable RX5 6 : Cond) ∈ wsL_law := mr_1 _ (List.mem_of_getElem? (i := 1) rfl)
theorem wd_1_3 : (.classLink RL 10 RX6 : Cond) ∈ wsL_law := mr_1 _ (List.mem_of_getElem? (i := 3) rfl)
theorem wd_1_4 : (.instantiable RX6 30 : Cond) ∈ wsL_law := mr_1 _ (List.mem_of_getElem? (i := 4) rfl)
theorem wd_1_6 : (.methodLink RL 9 yX5_init : Cond) ∈ wsL_law := mr_1 _ (List.mem_of_getElem? (i := 6) rfl)
theorem wd_1_7 : (.instanceMethod yX5_init : Cond) ∈ wsL_law := mr_1 _ (List.mem_of_getElem? (i := 7) rfl)
theorem wd_1_8 : (.code yX5_init cX5_init 1 none : Cond) ∈ wsL_law := mr_1 _ (List.mem_of_getElem? (i := 8) rfl)
theorem wd_7_19 : (.methodLink RL 12 yX6_init : Cond) ∈ wsL_law := mr_7 _ (List.mem_of_getElem? (i := 19) rfl)
theorem wd_7_20 : (.instanceMethod yX6_init : Cond) ∈ wsL_law := mr_7 _ (List.mem_of_getElem? (i := 20) rfl)
theorem wd_7_21 : (.code yX6_init cX6_init 1 none : Cond) ∈ wsL_law := mr_7 _ (List.mem_of_getElem? (i := 21) rfl)
theorem wd_8_19 : (.methodLink RL 13 yX5_nodes : Cond) ∈ wsL_law := mr_8 _ (List.mem_of_getElem? (i := 19) rfl)
theorem wd_8_20 : (.instanceMethod yX5_nodes : Cond) ∈ wsL_law := mr_8 _ (List.mem_of_getElem? (i := 20) rfl)
theorem wd_8_21 : (.selects RX5 yX5_nodes yX5_nodes : Cond) ∈ wsL_law := mr_8 _ (List.mem_of_getElem? (i := 21) rfl)
theorem wd_8_22 : (.code yX5_nodes cX5_nodes 2 (some .boolean) : Cond) ∈ wsL_law := mr_8 _ (List.mem_of_getElem? (i := 22) rfl)
theorem wd_8_23 : (.methodLink RL 17 yX6_nodes : Cond) ∈ wsL_law := mr_8 _ (List.mem_of_getElem? (i := 23) rfl)
theorem wd_9_0 : (.instanceMethod yX6_nodes : Cond) ∈ wsL_law := mr_9 _ (List.mem_of_getElem? (i := 0) rfl)
theorem wd_9_1 : (.selects RX6 yX6_nodes yX6_nodes : Cond) ∈ wsL_law := mr_9 _ (List.mem_of_getElem? (i := 1) rfl)
theorem wd_9_2 : (.code yX6_nodes cX6_nodes 2 (some .boolean) : Cond) ∈ wsL_law := mr_9 _ (List.mem_of_getElem? (i := 2) rfl)
theorem wd_9_11 : (.methodLink RL 18 yX5_link : Cond) ∈ wsL_law := mr_9 _ (List.mem_of_getElem? (i := 11) rfl)
theorem wd_9_12 : (.instanceMethod yX5_link : Cond) ∈ wsL_law := mr_9 _ (List.mem_of_getElem? (i := 12) rfl)
theorem wd_9_13 : (.selects RX5 yX5_link yX5_link : Cond) ∈ wsL_law := mr_9 _ (List.mem_of_getElem? (i := 13) rfl)
theorem wd_9_14 : (.code yX5_link cX5_link 4 (some .int) : Cond) ∈ wsL_law := mr_9 _ (List.mem_of_getElem? (i := 14) rfl)
theorem wd_12_2 : (.methodLink RL 22 yX6_link : Cond) ∈ wsL_law := mr_12 _ (List.mem_of_getElem? (i := 2) rfl)
theorem wd_12_3 : (.instanceMethod yX6_link : Cond) ∈ wsL_law := mr_12 _ (List.mem_of_getElem? (i := 3) rfl)
theorem wd_12_4 : (.selects RX6 yX6_link yX6_link : Cond) ∈ wsL_law := mr_12 _ (List.mem_of_getElem? (i := 4) rfl)
theorem wd_12_5 : (.code yX6_link cX6_link 4 (some .int) : Cond) ∈ wsL_law := mr_12 _ (List.mem_of_getElem? (i := 5) rfl)
theorem wd_15_14 : (.methodLink RL 23 yX5_undo : Cond) ∈ wsL_law := mr_15 _ (List.mem_of_getElem? (i := 14) rfl)
theorem wd_15_15 : (.instanceMethod yX5_undo : Cond) ∈ wsL_law := mr_15 _ (List.mem_of_getElem? (i := 15) rfl)
theorem wd_15_16 : (.selects RX5 yX5_undo yX5_undo : Cond) ∈ wsL_law := mr_15 _ (List.mem_of_getElem? (i := 16) rfl)
theorem wd_15_17 : (.code yX5_undo cX5_undo 2 (some .int) : Cond) ∈ wsL_law := mr_15 _ (List.mem_of_getElem? (i := 17) rfl)
theorem wd_16_0 : (.methodLink RL 27 yX6_undo : Cond) ∈ wsL_law := mr_16 _ (List.mem_of_getElem? (i := 0) rfl)
theorem wd_16_1 : (.instanceMethod yX6_undo : Cond) ∈ wsL_law := mr_16 _ (List.mem_of_getElem? (i := 1) rfl)
theorem wd_16_2 : (.selects RX6 yX6_undo yX6_undo : Cond) ∈ wsL_law := mr_16 _ (List.mem_of_getElem? (i := 2) rfl)
theorem wd_16_3 : (.code yX6_undo cX6_undo 2 (some .int) : Cond) ∈ wsL_law := mr_16 _ (List.mem_of_getElem? (i := 3) rfl)
theorem wd_16_4 : (.methodLink RL 28 yX5_rain : Cond) ∈ wsL_law := mr_16 _ (List.mem_of_getElem? (i := 4) rfl)
theorem wd_16_5 : (.instanceMethod yX5_rain : Cond) ∈ wsL_law := mr_16 _ (List.mem_of_getElem? (i := 5) rfl)
theorem wd_16_6 : (.selects RX5 yX5_rain yX5_rain : Cond) ∈ wsL_law := mr_16 _ (List.mem_of_getElem? (i := 6) rfl)
theorem wd_16_7 : (.code yX5_rain cX5_rain 5 (some .int) : Cond) ∈ wsL_law := mr_16 _ (List.mem_of_getElem? (i := 7) rfl)
theorem wd_16_14 : (.methodLink RL 31 yX6_rain : Cond) ∈ wsL_law := mr_16 _ (List.mem_of_getElem? (i := 14) rfl)
theorem wd_16_15 : (.instanceMethod yX6_rain : Cond) ∈ wsL_law := mr_16 _ (List.mem_of_getElem? (i := 15) rfl)
theorem wd_16_16 : (.selects RX6 yX6_rain yX6_rain : Cond) ∈ wsL_law := mr_16 _ (List.mem_of_getElem? (i := 16) rfl)
theorem wd_16_17 : (.code yX6_rain cX6_rain 5 (some .int) : Cond) ∈ wsL_law := mr_16 _ (List.mem_of_getElem? (i := 17) rfl)
theorem wd_17_2 : (.methodLink RL 32 yX5_state : Cond) ∈ wsL_law := mr_17 _ (List.mem_of_getElem? (i := 2) rfl)
theorem wd_17_3 : (.instanceMethod yX5_state : Cond) ∈ wsL_law := mr_17 _ (List.mem_of_getElem? (i := 3) rfl)
theorem wd_17_4 : (.selects RX5 yX5_state yX5_state : Cond) ∈ wsL_law := mr_17 _ (List.mem_of_getElem? (i := 4) rfl)
theorem wd_17_5 : (.code yX5_state cX5_state 3 (some .int) : Cond) ∈ wsL_law := mr_17 _ (List.mem_of_getElem? (i := 5) rfl)
theorem wd_17_6 : (.methodLink RL 35 yX6_state : Cond) ∈ wsL_law := mr_17 _ (List.mem_of_getElem? (i := 6) rfl)
theorem wd_17_7 : (.instanceMethod yX6_state : Cond) ∈ wsL_law := mr_17 _ (List.mem_of_getElem? (i := 7) rfl)
theorem wd_17_8 : (.selects RX6 yX6_state yX6_state : Cond) ∈ wsL_law := mr_17 _ (List.mem_of_getElem? (i := 8) rfl)
theorem wd_17_9 : (.code yX6_state cX6_state 3 (some .int) : Cond) ∈ wsL_law := mr_17 _ (List.mem_of_getElem? (i := 9) rfl)
theorem wd_17_10 : (.methodLink RL 36 yX5_linkOf : Cond) ∈ wsL_law := mr_17 _ (List.mem_of_getElem? (i := 10) rfl)
theorem wd_17_11 : (.instanceMethod yX5_linkOf : Cond) ∈ wsL_law := mr_17 _ (List.mem_of_getElem? (i := 11) rfl)
theorem wd_17_12 : (.selects RX5 yX5_linkOf yX5_linkOf : Cond) ∈ wsL_law := mr_17 _ (List.mem_of_getElem? (i := 12) rfl)
theorem wd_17_13 : (.code yX5_linkOf cX5_linkOf 3 (some .int) : Cond) ∈ wsL_law := mr_17 _ (List.mem_of_getElem? (i := 13) rfl)
theorem wd_18_10 : (.methodLink RL 39 yX6_linkOf : Cond) ∈ wsL_law := mr_18 _ (List.mem_of_getElem? (i := 10) rfl)
theorem wd_18_11 : (.instanceMethod yX6_linkOf : Cond) ∈ wsL_law := mr_18 _ (List.mem_of_getElem? (i := 11) rfl)
theorem wd_18_12 : (.selects RX6 yX6_linkOf yX6_linkOf : Cond) ∈ wsL_law := mr_18 _ (List.mem_of_getElem? (i := 12) rfl)
theorem wd_18_13 : (.code yX6_linkOf cX6_linkOf 3 (some .int) : Cond) ∈ wsL_law := mr_18 _ (List.mem_of_getElem? (i := 13) rfl)
theorem wd_21_2 : (.methodLink RL 40 yX5_bridge : Cond) ∈ wsL_law := mr_21 _ (List.mem_of_getElem? (i := 2) rfl)
theorem wd_21_3 : (.instanceMethod yX5_bridge : Cond) ∈ wsL_law := mr_21 _ (List.mem_of_getElem? (i := 3) rfl)
theorem wd_21_4 : (.selects RX5 yX5_bridge yX5_bridge : Cond) ∈ wsL_law := mr_21 _ (List.mem_of_getElem? (i := 4) rfl)
theorem wd_21_5 : (.code yX5_bridge cX5_bridge 4 (some .int) : Cond) ∈ wsL_law := mr_21 _ (List.mem_of_getElem? (i := 5) rfl)
theorem wd_21_6 : (.methodLink RL 43 yX6_bridge : Cond) ∈ wsL_law := mr_21 _ (List.mem_of_getElem? (i := 6) rfl)
theorem wd_21_7 : (.instanceMethod yX6_bridge : Cond) ∈ wsL_law := mr_21 _ (List.mem_of_getElem? (i := 7) rfl)
theorem wd_21_8 : (.selects RX6 yX6_bridge yX6_bridge : Cond) ∈ wsL_law := mr_21 _ (List.mem_of_getElem? (i := 8) rfl)
theorem wd_21_9 : (.code yX6_bridge cX6_bridge 4 (some .int) : Cond) ∈ wsL_law := mr_21 _ (List.mem_of_getElem? (i := 9) rfl)
theorem wd_21_10 : (.methodLink RL 44 yX5_node : Cond) ∈ wsL_law := mr_21 _ (List.mem_of_getElem? (i := 10) rfl)
theorem wd_21_11 : (.instanceMethod yX5_node : Cond) ∈ wsL_law := mr_21 _ (List.mem_of_getElem? (i := 11) rfl)
theorem wd_21_12 : (.selects RX5 yX5_node yX5_node : Cond) ∈ wsL_law := mr_21 _ (List.mem_of_getElem? (i := 12) rfl)
theorem wd_21_13 : (.code yX5_node cX5_node 3 (some .int) : Cond) ∈ wsL_law := mr_21 _ (List.mem_of_getElem? (i := 13) rfl)
theorem wd_22_16 : (.methodLink RL 47 yX6_node : Cond) ∈ wsL_law := mr_22 _ (List.mem_of_getElem? (i := 16) rfl)
theorem wd_22_17 : (.instanceMethod yX6_node : Cond) ∈ wsL_law := mr_22 _ (List.mem_of_getElem? (i := 17) rfl)
theorem wd_22_18 : (.selects RX6 yX6_node yX6_node : Cond) ∈ wsL_law := mr_22 _ (List.mem_of_getElem? (i := 18) rfl)
theorem wd_22_19 : (.code yX6_node cX6_node 3 (some .int) : Cond) ∈ wsL_law := mr_22 _ (List.mem_of_getElem? (i := 19) rfl)
theorem wd_23_8 : (.methodLink RL 48 yX5_block : Cond) ∈ wsL_law := mr_23 _ (List.mem_of_getElem? (i := 8) rfl)
theorem wd_23_9 : (.instanceMethod yX5_block : Cond) ∈ wsL_law := mr_23 _ (List.mem_of_getElem? (i := 9) rfl)
theorem wd_23_10 : (.selects RX5 yX5_block yX5_block : Cond) ∈ wsL_law := mr_23 _ (List.mem_of_getElem? (i := 10) rfl)
theorem wd_23_11 : (.code yX5_block cX5_block 3 (some .int) : Cond) ∈ wsL_law := mr_23 _ (List.mem_of_getElem? (i := 11) rfl)
theorem wd_24_10 : (.methodLink RL 51 yX6_block : Cond) ∈ wsL_law := mr_24 _ (List.mem_of_getElem? (i := 10) rfl)
theorem wd_24_11 : (.instanceMethod yX6_block : Cond) ∈ wsL_law := mr_24 _ (List.mem_of_getElem? (i := 11) rfl)
theorem wd_24_12 : (.selects RX6 yX6_block yX6_block : Cond) ∈ wsL_law := mr_24 _ (List.mem_of_getElem? (i := 12) rfl)
theorem wd_24_13 : (.code yX6_block cX6_block 3 (some .int) : Cond) ∈ wsL_law := mr_24 _ (List.mem_of_getElem? (i := 13) rfl)
theorem wd_26_2 : (.methodLink RL 52 yX5_member : Cond) ∈ wsL_law := mr_26 _ (List.mem_of_getElem? (i := 2) rfl)
theorem wd_26_3 : (.methodLink RL 55 yX6_member : Cond) ∈ wsL_law := mr_26 _ (List.mem_of_getElem? (i := 3) rfl)
theorem wd_26_4 : (.instanceMethod yX6_member : Cond) ∈ wsL_law := mr_26 _ (List.mem_of_getElem? (i := 4) rfl)
theorem wd_26_5 : (.selects RX6 yX6_member yX6_member : Cond) ∈ wsL_law := mr_26 _ (List.mem_of_getElem? (i := 5) rfl)
theorem wd_26_6 : (.code yX6_member cX6_member 5 (some .int) : Cond) ∈ wsL_law := mr_26 _ (List.mem_of_getElem? (i := 6) rfl)
theorem wd_26_7 : (.methodLink RL 56 yX5_child : Cond) ∈ wsL_law := mr_26 _ (List.mem_of_getElem? (i := 7) rfl)
theorem wd_26_8 : (.instanceMethod yX5_child : Cond) ∈ wsL_law := mr_26 _ (List.mem_of_getElem? (i := 8) rfl)
theorem wd_26_9 : (.selects RX5 yX5_child yX5_child : Cond) ∈ wsL_law := mr_26 _ (List.mem_of_getElem? (i := 9) rfl)
theorem wd_26_10 : (.code yX5_child cX5_child 5 (some .int) : Cond) ∈ wsL_law := mr_26 _ (List.mem_of_getElem? (i := 10) rfl)
theorem wd_26_11 : (.methodLink RL 59 yX6_child : Cond) ∈ wsL_law := mr_26 _ (List.mem_of_getElem? (i := 11) rfl)
theorem wd_26_12 : (.instanceMethod yX6_child : Cond) ∈ wsL_law := mr_26 _ (List.mem_of_getElem? (i := 12) rfl)
theorem wd_26_13 : (.selects RX6 yX6_child yX6_child : Cond) ∈ wsL_law := mr_26 _ (List.mem_of_getElem? (i := 13) rfl)
theorem wd_26_14 : (.code yX6_child cX6_child 3 (some .int) : Cond) ∈ wsL_law := mr_26 _ (List.mem_of_getElem? (i := 14) rfl)
theorem wd_26_19 : (.methodLink RL 60 yX5_land : Cond) ∈ wsL_law := mr_26 _ (List.mem_of_getElem? (i := 19) rfl)
theorem wd_26_20 : (.instanceMethod yX5_land : Cond) ∈ wsL_law := mr_26 _ (List.mem_of_getElem? (i := 20) rfl)
theorem wd_26_21 : (.selects RX5 yX5_land yX5_land : Cond) ∈ wsL_law := mr_26 _ (List.mem_of_getElem? (i := 21) rfl)
theorem wd_26_22 : (.code yX5_land cX5_land 3 (some .int) : Cond) ∈ wsL_law := mr_26 _ (List.mem_of_getElem? (i := 22) rfl)
theorem wd_29_8 : (.methodLink RL 63 yX6_land : Cond) ∈ wsL_law := mr_29 _ (List.mem_of_getElem? (i := 8) rfl)
theorem wd_29_9 : (.instanceMethod yX6_land : Cond) ∈ wsL_law := mr_29 _ (List.mem_of_getElem? (i := 9) rfl)
theorem wd_29_10 : (.selects RX6 yX6_land yX6_land : Cond) ∈ wsL_law := mr_29 _ (List.mem_of_getElem? (i := 10) rfl)
theorem wd_29_11 : (.code yX6_land cX6_land 3 (some .int) : Cond) ∈ wsL_law := mr_29 _ (List.mem_of_getElem? (i := 11) rfl)
theorem wd_31_4 : (.methodLink RL 64 yX5_story : Cond) ∈ wsL_law := mr_31 _ (List.mem_of_getElem? (i := 4) rfl)
theorem wd_31_5 : (.instanceMethod yX5_story : Cond) ∈ wsL_law := mr_31 _ (List.mem_of_getElem? (i := 5) rfl)
theorem wd_31_6 : (.selects RX5 yX5_story yX5_story : Cond) ∈ wsL_law := mr_31 _ (List.mem_of_getElem? (i := 6) rfl)
theorem wd_31_7 : (.code yX5_story cX5_story 5 (some .int) : Cond) ∈ wsL_law := mr_31 _ (List.mem_of_getElem? (i := 7) rfl)
theorem wd_31_19 : (.methodLink RL 68 yX6_story : Cond) ∈ wsL_law := mr_31 _ (List.mem_of_getElem? (i := 19) rfl)
theorem wd_31_20 : (.instanceMethod yX6_story : Cond) ∈ wsL_law := mr_31 _ (List.mem_of_getElem? (i := 20) rfl)
theorem wd_31_21 : (.selects RX6 yX6_story yX6_story : Cond) ∈ wsL_law := mr_31 _ (List.mem_of_getElem? (i := 21) rfl)
theorem wd_31_22 : (.code yX6_story cX6_story 6 (some .int) : Cond) ∈ wsL_law := mr_31 _ (List.mem_of_getElem? (i := 22) rfl)
theorem wd_32_3 : (.methodLink RL 69 yX5_latest : Cond) ∈ wsL_law := mr_32 _ (List.mem_of_getElem? (i := 3) rfl)
theorem wd_32_4 : (.instanceMethod yX5_latest : Cond) ∈ wsL_law := mr_32 _ (List.mem_of_getElem? (i := 4) rfl)
theorem wd_32_5 : (.selects RX5 yX5_latest yX5_latest : Cond) ∈ wsL_law := mr_32 _ (List.mem_of_getElem? (i := 5) rfl)
theorem wd_32_6 : (.code yX5_latest cX5_latest 2 (some .int) : Cond) ∈ wsL_law := mr_32 _ (List.mem_of_getElem? (i := 6) rfl)
theorem wd_32_11 : (.methodLink RL 72 yX6_latest : Cond) ∈ wsL_law := mr_32 _ (List.mem_of_getElem? (i := 11) rfl)
theorem wd_32_12 : (.instanceMethod yX6_latest : Cond) ∈ wsL_law := mr_32 _ (List.mem_of_getElem? (i := 12) rfl)
theorem wd_32_13 : (.selects RX6 yX6_latest yX6_latest : Cond) ∈ wsL_law := mr_32 _ (List.mem_of_getElem? (i := 13) rfl)
theorem wd_32_14 : (.code yX6_latest cX6_latest 2 (some .int) : Cond) ∈ wsL_law := mr_32 _ (List.mem_of_getElem? (i := 14) rfl)
theorem wd_32_15 : (.methodLink RL 73 yX5_doubleSafe : Cond) ∈ wsL_law := mr_32 _ (List.mem_of_getElem? (i := 15) rfl)
theorem wd_32_16 : (.instanceMethod yX5_doubleSafe : Cond) ∈ wsL_law := mr_32 _ (List.mem_of_getElem? (i := 16) rfl)
theorem wd_32_17 : (.selects RX5 yX5_doubleSafe yX5_doubleSafe : Cond) ∈ wsL_law := mr_32 _ (List.mem_of_getElem? (i := 17) rfl)
theorem wd_32_18 : (.code yX5_doubleSafe cX5_doubleSafe 3 (some .int) : Cond) ∈ wsL_law := mr_32 _ (List.mem_of_getElem? (i := 18) rfl)
theorem wd_32_23 : (.methodLink RL 76 yX6_doubleSafe : Cond) ∈ wsL_law := mr_32 _ (List.mem_of_getElem? (i := 23) rfl)
theorem wd_33_0 : (.instanceMethod yX6_doubleSafe : Cond) ∈ wsL_law := mr_33 _ (List.mem_of_getElem? (i := 0) rfl)
theorem wd_33_1 : (.selects RX6 yX6_doubleSafe yX6_doubleSafe : Cond) ∈ wsL_law := mr_33 _ (List.mem_of_getElem? (i := 1) rfl)
theorem wd_33_2 : (.code yX6_doubleSafe cX6_doubleSafe 3 (some .int) : Cond) ∈ wsL_law := mr_33 _ (List.mem_of_getElem? (i := 2) rfl)
theorem wd_33_11 : (.methodLink RL 77 yX5_way : Cond) ∈ wsL_law := mr_33 _ (List.mem_of_getElem? (i := 11) rfl)
theorem wd_33_12 : (.instanceMethod yX5_way : Cond) ∈ wsL_law := mr_33 _ (List.mem_of_getElem? (i := 12) rfl)
theorem wd_33_13 : (.selects RX5 yX5_way yX5_way : Cond) ∈ wsL_law := mr_33 _ (List.mem_of_getElem? (i := 13) rfl)
theorem wd_33_14 : (.code yX5_way cX5_way 7 (some .int) : Cond) ∈ wsL_law := mr_33 _ (List.mem_of_getElem? (i := 14) rfl)
theorem wd_33_17 : (.methodLink RL 80 yX6_way : Cond) ∈ wsL_law := mr_33 _ (List.mem_of_getElem? (i := 17) rfl)
theorem wd_33_18 : (.instanceMethod yX6_way : Cond) ∈ wsL_law := mr_33 _ (List.mem_of_getElem? (i := 18) rfl)
theorem wd_33_19 : (.selects RX6 yX6_way yX6_way : Cond) ∈ wsL_law := mr_33 _ (List.mem_of_getElem? (i := 19) rfl)
theorem wd_33_20 : (.code yX6_way cX6_way 6 (some .int) : Cond) ∈ wsL_law := mr_33 _ (List.mem_of_getElem? (i := 20) rfl)
theorem wd_34_6 : (.methodLink RL 81 yX5_since : Cond) ∈ wsL_law := mr_34 _ (List.mem_of_getElem? (i := 6) rfl)
theorem wd_34_7 : (.instanceMethod yX5_since : Cond) ∈ wsL_law := mr_34 _ (List.mem_of_getElem? (i := 7) rfl)
theorem wd_34_8 : (.selects RX5 yX5_since yX5_since : Cond) ∈ wsL_law := mr_34 _ (List.mem_of_getElem? (i := 8) rfl)
theorem wd_34_9 : (.code yX5_since cX5_since 5 (some .int) : Cond) ∈ wsL_law := mr_34 _ (List.mem_of_getElem? (i := 9) rfl)
theorem wd_35_8 : (.methodLink RL 84 yX6_since : Cond) ∈ wsL_law := mr_35 _ (List.mem_of_getElem? (i := 8) rfl)
theorem wd_35_9 : (.instanceMethod yX6_since : Cond) ∈ wsL_law := mr_35 _ (List.mem_of_getElem? (i := 9) rfl)
theorem wd_35_10 : (.selects RX6 yX6_since yX6_since : Cond) ∈ wsL_law := mr_35 _ (List.mem_of_getElem? (i := 10) rfl)
theorem wd_35_11 : (.code yX6_since cX6_since 5 (some .int) : Cond) ∈ wsL_law := mr_35 _ (List.mem_of_getElem? (i := 11) rfl)
theorem wd_35_16 : (.methodLink RL 85 yX5_would : Cond) ∈ wsL_law := mr_35 _ (List.mem_of_getElem? (i := 16) rfl)
theorem wd_35_17 : (.instanceMethod yX5_would : Cond) ∈ wsL_law := mr_35 _ (List.mem_of_getElem? (i := 17) rfl)
theorem wd_35_18 : (.selects RX5 yX5_would yX5_would : Cond) ∈ wsL_law := mr_35 _ (List.mem_of_getElem? (i := 18) rfl)
theorem wd_35_19 : (.code yX5_would cX5_would 5 (some .int) : Cond) ∈ wsL_law := mr_35 _ (List.mem_of_getElem? (i := 19) rfl)
theorem wd_36_10 : (.methodLink RL 88 yX6_would : Cond) ∈ wsL_law := mr_36 _ (List.mem_of_getElem? (i := 10) rfl)
theorem wd_36_11 : (.instanceMethod yX6_would : Cond) ∈ wsL_law := mr_36 _ (List.mem_of_getElem? (i := 11) rfl)
theorem wd_36_12 : (.selects RX6 yX6_would yX6_would : Cond) ∈ wsL_law := mr_36 _ (List.mem_of_getElem? (i := 12) rfl)
theorem wd_36_13 : (.code yX6_would cX6_would 6 (some .int) : Cond) ∈ wsL_law := mr_36 _ (List.mem_of_getElem? (i := 13) rfl)
theorem wd_36_22 : (.methodLink RL 89 yX5_best : Cond) ∈ wsL_law := mr_36 _ (List.mem_of_getElem? (i := 22) rfl)
theorem wd_36_23 : (.instanceMethod yX5_best : Cond) ∈ wsL_law := mr_36 _ (List.mem_of_getElem? (i := 23) rfl)
theorem wd_37_0 : (.selects RX5 yX5_best yX5_best : Cond) ∈ wsL_law := mr_37 _ (List.mem_of_getElem? (i := 0) rfl)
theorem wd_37_1 : (.code yX5_best cX5_best 8 (some .int) : Cond) ∈ wsL_law := mr_37 _ (List.mem_of_getElem? (i := 1) rfl)
theorem wd_37_4 : (.methodLink RL 92 yX6_best : Cond) ∈ wsL_law := mr_37 _ (List.mem_of_getElem? (i := 4) rfl)
theorem wd_37_5 : (.instanceMethod yX6_best : Cond) ∈ wsL_law := mr_37 _ (List.mem_of_getElem? (i := 5) rfl)
theorem wd_37_6 : (.selects RX6 yX6_best yX6_best : Cond) ∈ wsL_law := mr_37 _ (List.mem_of_getElem? (i := 6) rfl)
theorem wd_37_7 : (.code yX6_best cX6_best 7 (some .int) : Cond) ∈ wsL_law := mr_37 _ (List.mem_of_getElem? (i := 7) rfl)
theorem wd_37_8 : (.methodLink RL 93 yX5_worst : Cond) ∈ wsL_law := mr_37 _ (List.mem_of_getElem? (i := 8) rfl)
theorem wd_37_9 : (.instanceMethod yX5_worst : Cond) ∈ wsL_law := mr_37 _ (List.mem_of_getElem? (i := 9) rfl)
theorem wd_37_10 : (.selects RX5 yX5_worst yX5_worst : Cond) ∈ wsL_law := mr_37 _ (List.mem_of_getElem? (i := 10) rfl)
theorem wd_37_11 : (.code yX5_worst cX5_worst 6 (some .int) : Cond) ∈ wsL_law := mr_37 _ (List.mem_of_getElem? (i := 11) rfl)
theorem wd_37_16 : (.methodLink RL 96 yX6_worst : Cond) ∈ wsL_law := mr_37 _ (List.mem_of_getElem? (i := 16) rfl)
theorem wd_37_17 : (.instanceMethod yX6_worst : Cond) ∈ wsL_law := mr_37 _ (List.mem_of_getElem? (i := 17) rfl)
theorem wd_37_18 : (.selects RX6 yX6_worst yX6_worst : Cond) ∈ wsL_law := mr_37 _ (List.mem_of_getElem? (i := 18) rfl)
theorem wd_37_19 : (.code yX6_worst cX6_worst 6 (some .int) : Cond) ∈ wsL_law := mr_37 _ (List.mem_of_getElem? (i := 19) rfl)
theorem wd_37_20 : (.methodLink RL 97 yX5_part : Cond) ∈ wsL_law := mr_37 _ (List.mem_of_getElem? (i := 20) rfl)
theorem wd_37_21 : (.instanceMethod yX5_part : Cond) ∈ wsL_law := mr_37 _ (List.mem_of_getElem? (i := 21) rfl)
theorem wd_37_22 : (.selects RX5 yX5_part yX5_part : Cond) ∈ wsL_law := mr_37 _ (List.mem_of_getElem? (i := 22) rfl)
theorem wd_37_23 : (.code yX5_part cX5_part 3 (some .int) : Cond) ∈ wsL_law := mr_37 _ (List.mem_of_getElem? (i := 23) rfl)
theorem wd_38_7 : (.methodLink RL 100 yX6_part : Cond) ∈ wsL_law := mr_38 _ (List.mem_of_getElem? (i := 7) rfl)
theorem wd_38_8 : (.instanceMethod yX6_part : Cond) ∈ wsL_law := mr_38 _ (List.mem_of_getElem? (i := 8) rfl)
theorem wd_38_9 : (.selects RX6 yX6_part yX6_part : Cond) ∈ wsL_law := mr_38 _ (List.mem_of_getElem? (i := 9) rfl)
theorem wd_38_10 : (.code yX6_part cX6_part 6 (some .int) : Cond) ∈ wsL_law := mr_38 _ (List.mem_of_getElem? (i := 10) rfl)
theorem wd_38_11 : (.methodLink RL 101 yX5_centre : Cond) ∈ wsL_law := mr_38 _ (List.mem_of_getElem? (i := 11) rfl)
theorem wd_38_12 : (.instanceMethod yX5_centre : Cond) ∈ wsL_law := mr_38 _ (List.mem_of_getElem? (i := 12) rfl)
theorem wd_38_13 : (.selects RX5 yX5_centre yX5_centre : Cond) ∈ wsL_law := mr_38 _ (List.mem_of_getElem? (i := 13) rfl)
theorem wd_38_14 : (.code yX5_centre cX5_centre 2 (some .int) : Cond) ∈ wsL_law := mr_38 _ (List.mem_of_getElem? (i := 14) rfl)
theorem wd_38_19 : (.methodLink RL 104 yX6_centre : Cond) ∈ wsL_law := mr_38 _ (List.mem_of_getElem? (i := 19) rfl)
theorem wd_38_20 : (.instanceMethod yX6_centre : Cond) ∈ wsL_law := mr_38 _ (List.mem_of_getElem? (i := 20) rfl)
theorem wd_38_21 : (.selects RX6 yX6_centre yX6_centre : Cond) ∈ wsL_law := mr_38 _ (List.mem_of_getElem? (i := 21) rfl)
theorem wd_38_22 : (.code yX6_centre cX6_centre 7 (some .int) : Cond) ∈ wsL_law := mr_38 _ (List.mem_of_getElem? (i := 22) rfl)
theorem wd_38_23 : (.methodLink RL 105 yX5_between : Cond) ∈ wsL_law := mr_38 _ (List.mem_of_getElem? (i := 23) rfl)
theorem wd_39_0 : (.instanceMethod yX5_between : Cond) ∈ wsL_law := mr_39 _ (List.mem_of_getElem? (i := 0) rfl)
theorem wd_39_1 : (.selects RX5 yX5_between yX5_between : Cond) ∈ wsL_law := mr_39 _ (List.mem_of_getElem? (i := 1) rfl)
theorem wd_39_2 : (.code yX5_between cX5_between 7 (some .int) : Cond) ∈ wsL_law := mr_39 _ (List.mem_of_getElem? (i := 2) rfl)
theorem wd_39_8 : (.methodLink RL 108 yX6_between : Cond) ∈ wsL_law := mr_39 _ (List.mem_of_getElem? (i := 8) rfl)
theorem wd_39_9 : (.instanceMethod yX6_between : Cond) ∈ wsL_law := mr_39 _ (List.mem_of_getElem? (i := 9) rfl)
theorem wd_39_10 : (.selects RX6 yX6_between yX6_between : Cond) ∈ wsL_law := mr_39 _ (List.mem_of_getElem? (i := 10) rfl)
theorem wd_39_11 : (.code yX6_between cX6_between 6 (some .int) : Cond) ∈ wsL_law := mr_39 _ (List.mem_of_getElem? (i := 11) rfl)
theorem wd_39_12 : (.methodLink RL 109 yX5_mending : Cond) ∈ wsL_law := mr_39 _ (List.mem_of_getElem? (i := 12) rfl)
theorem wd_39_13 : (.instanceMethod yX5_mending : Cond) ∈ wsL_law := mr_39 _ (List.mem_of_getElem? (i := 13) rfl)
theorem wd_39_14 : (.selects RX5 yX5_mending yX5_mending : Cond) ∈ wsL_law := mr_39 _ (List.mem_of_getElem? (i := 14) rfl)
theorem wd_39_15 : (.code yX5_mending cX5_mending 5 (some .int) : Cond) ∈ wsL_law := mr_39 _ (List.mem_of_getElem? (i := 15) rfl)
theorem wd_39_20 : (.methodLink RL 112 yX6_mending : Cond) ∈ wsL_law := mr_39 _ (List.mem_of_getElem? (i := 20) rfl)
theorem wd_39_21 : (.instanceMethod yX6_mending : Cond) ∈ wsL_law := mr_39 _ (List.mem_of_getElem? (i := 21) rfl)
theorem wd_39_22 : (.selects RX6 yX6_mending yX6_mending : Cond) ∈ wsL_law := mr_39 _ (List.mem_of_getElem? (i := 22) rfl)
theorem wd_39_23 : (.code yX6_mending cX6_mending 4 (some .int) : Cond) ∈ wsL_law := mr_39 _ (List.mem_of_getElem? (i := 23) rfl)
theorem wd_40_5 : (.methodLink RL 113 yX5_without : Cond) ∈ wsL_law := mr_40 _ (List.mem_of_getElem? (i := 5) rfl)
theorem wd_40_6 : (.instanceMethod yX5_without : Cond) ∈ wsL_law := mr_40 _ (List.mem_of_getElem? (i := 6) rfl)
theorem wd_40_7 : (.selects RX5 yX5_without yX5_without : Cond) ∈ wsL_law := mr_40 _ (List.mem_of_getElem? (i := 7) rfl)
theorem wd_40_8 : (.code yX5_without cX5_without 7 (some .int) : Cond) ∈ wsL_law := mr_40 _ (List.mem_of_getElem? (i := 8) rfl)
theorem wd_40_15 : (.methodLink RL 116 yX6_without : Cond) ∈ wsL_law := mr_40 _ (List.mem_of_getElem? (i := 15) rfl)
theorem wd_40_16 : (.instanceMethod yX6_without : Cond) ∈ wsL_law := mr_40 _ (List.mem_of_getElem? (i := 16) rfl)
theorem wd_40_17 : (.selects RX6 yX6_without yX6_without : Cond) ∈ wsL_law := mr_40 _ (List.mem_of_getElem? (i := 17) rfl)
theorem wd_40_18 : (.code yX6_without cX6_without 6 (some .int) : Cond) ∈ wsL_law := mr_40 _ (List.mem_of_getElem? (i := 18) rfl)
theorem wd_41_8 : (.methodLink RL 117 yX5_ring : Cond) ∈ wsL_law := mr_41 _ (List.mem_of_getElem? (i := 8) rfl)
theorem wd_41_9 : (.instanceMethod yX5_ring : Cond) ∈ wsL_law := mr_41 _ (List.mem_of_getElem? (i := 9) rfl)
theorem wd_41_10 : (.selects RX5 yX5_ring yX5_ring : Cond) ∈ wsL_law := mr_41 _ (List.mem_of_getElem? (i := 10) rfl)
theorem wd_41_11 : (.code yX5_ring cX5_ring 4 (some .int) : Cond) ∈ wsL_law := mr_41 _ (List.mem_of_getElem? (i := 11) rfl)
theorem wd_42_11 : (.methodLink RL 120 yX6_ring : Cond) ∈ wsL_law := mr_42 _ (List.mem_of_getElem? (i := 11) rfl)
theorem wd_42_12 : (.instanceMethod yX6_ring : Cond) ∈ wsL_law := mr_42 _ (List.mem_of_getElem? (i := 12) rfl)
theorem wd_42_13 : (.selects RX6 yX6_ring yX6_ring : Cond) ∈ wsL_law := mr_42 _ (List.mem_of_getElem? (i := 13) rfl)
theorem wd_42_14 : (.code yX6_ring cX6_ring 3 (some .int) : Cond) ∈ wsL_law := mr_42 _ (List.mem_of_getElem? (i := 14) rfl)
theorem wd_42_15 : (.methodLink RL 121 yX5_wouldName : Cond) ∈ wsL_law := mr_42 _ (List.mem_of_getElem? (i := 15) rfl)
theorem wd_42_16 : (.instanceMethod yX5_wouldName : Cond) ∈ wsL_law := mr_42 _ (List.mem_of_getElem? (i := 16) rfl)
theorem wd_42_17 : (.selects RX5 yX5_wouldName yX5_wouldName : Cond) ∈ wsL_law := mr_42 _ (List.mem_of_getElem? (i := 17) rfl)
theorem wd_42_18 : (.code yX5_wouldName cX5_wouldName 4 (some .int) : Cond) ∈ wsL_law := mr_42 _ (List.mem_of_getElem? (i := 18) rfl)
theorem wd_42_20 : (.methodLink RL 124 yX6_wouldName : Cond) ∈ wsL_law := mr_42 _ (List.mem_of_getElem? (i := 20) rfl)
theorem wd_42_21 : (.instanceMethod yX6_wouldName : Cond) ∈ wsL_law := mr_42 _ (List.mem_of_getElem? (i := 21) rfl)
theorem wd_42_22 : (.selects RX6 yX6_wouldName yX6_wouldName : Cond) ∈ wsL_law := mr_42 _ (List.mem_of_getElem? (i := 22) rfl)
theorem wd_42_23 : (.code yX6_wouldName cX6_wouldName 4 (some .int) : Cond) ∈ wsL_law := mr_42 _ (List.mem_of_getElem? (i := 23) rfl)
theorem wd_43_4 : (.methodLink RL 125 yX5_bridgesBy : Cond) ∈ wsL_law := mr_43 _ (List.mem_of_getElem? (i := 4) rfl)
theorem wd_43_5 : (.instanceMethod yX5_bridgesBy : Cond) ∈ wsL_law := mr_43 _ (List.mem_of_getElem? (i := 5) rfl)
theorem wd_43_6 : (.selects RX5 yX5_bridgesBy yX5_bridgesBy : Cond) ∈ wsL_law := mr_43 _ (List.mem_of_getElem? (i := 6) rfl)
theorem wd_43_7 : (.code yX5_bridgesBy cX5_bridgesBy 2 (some .int) : Cond) ∈ wsL_law := mr_43 _ (List.mem_of_getElem? (i := 7) rfl)
theorem wd_43_8 : (.methodLink RL 128 yX6_bridgesBy : Cond) ∈ wsL_law := mr_43 _ (List.mem_of_getElem? (i := 8) rfl)
theorem wd_43_9 : (.instanceMethod yX6_bridgesBy : Cond) ∈ wsL_law := mr_43 _ (List.mem_of_getElem? (i := 9) rfl)
theorem wd_43_10 : (.selects RX6 yX6_bridgesBy yX6_bridgesBy : Cond) ∈ wsL_law := mr_43 _ (List.mem_of_getElem? (i := 10) rfl)
theorem wd_43_11 : (.code yX6_bridgesBy cX6_bridgesBy 2 (some .int) : Cond) ∈ wsL_law := mr_43 _ (List.mem_of_getElem? (i := 11) rfl)
theorem wd_43_12 : (.methodLink RL 129 yX5_look : Cond) ∈ wsL_law := mr_43 _ (List.mem_of_getElem? (i := 12) rfl)
theorem wd_43_13 : (.instanceMethod yX5_look : Cond) ∈ wsL_law := mr_43 _ (List.mem_of_getElem? (i := 13) rfl)
theorem wd_43_14 : (.selects RX5 yX5_look yX5_look : Cond) ∈ wsL_law := mr_43 _ (List.mem_of_getElem? (i := 14) rfl)
theorem wd_43_15 : (.code yX5_look cX5_look 2 (some .int) : Cond) ∈ wsL_law := mr_43 _ (List.mem_of_getElem? (i := 15) rfl)
theorem wd_44_14 : (.methodLink RL 132 yX6_look : Cond) ∈ wsL_law := mr_44 _ (List.mem_of_getElem? (i := 14) rfl)
theorem wd_44_15 : (.instanceMethod yX6_look : Cond) ∈ wsL_law := mr_44 _ (List.mem_of_getElem? (i := 15) rfl)
theorem wd_44_16 : (.selects RX6 yX6_look yX6_look : Cond) ∈ wsL_law := mr_44 _ (List.mem_of_getElem? (i := 16) rfl)
theorem wd_44_17 : (.code yX6_look cX6_look 2 (some .int) : Cond) ∈ wsL_law := mr_44 _ (List.mem_of_getElem? (i := 17) rfl)
/-! THE CLAIM OUT OF ONE WALK OF THE LAW'S BODY. Your part is whole_start (and what it stands on); all else here is the same for every law, but numbers. -/
def R_law : String := "SafeBlocksLaw"
def lw_P (b : Addr) (xs : List Int32) (args : Array Value) (s : State) : Prop := args = #[.ref b] ∧ s.IntsAt b xs ∧ xs.length ≤ 2048 ∧ (Jvm.Cond.and given_1 narrow_1).before args s = true
def lw_Q (_ : Array Value) (s : State) (o : Outcome) (t : State) : Prop := o = .returned (some (.int 1)) ∧ Framed s o t [] 600000 7302250
def lw_Z (below : List Frame) (a : Array Value) (s : State) : State → Prop := fun t => ∃ o, t.status = .running ∧ Ended t below o ∧ lw_Q a s o t
/-- the law's own end, with 1 on the stack, nothing written that was there before, its room as the claim has it -/
theorem lw_ret {p : Program} {l : Launch} {e : Env} {s : State} {m : MethodId} {below : List Frame} {meth : Method} {c : Code} {b : Nat} (hx : p.tables.exec = Jvm.exec) (hb : c.code = code) (hr : meth.sig.returnType = ret) (hlocks : meth.locks = false) {pc : Nat} {H : Heap} {ls : Array Slot} (hdg : decode code pc = .ok (.ireturn, 1)) : W p l e room_1 s m #[Value.ref b] below meth c H [] 600000 7302250 (lw_Z below #[Value.ref b] s) (F0 m pc ls [.int 1]) := by
  intro T hT X
  obtain ⟨fs, hret, hrun, hended, hW, hframe⟩ := X.leave (v := some (.int 1)) (hlocks := hlocks) (fun h => by rw [hr] at h; cases h)
  have hmeth' : T.vm.method? m = some meth := X.method'
  refine ⟨T.setFrames fs, ?_, .returned (some (.int 1)), hrun, hended, rfl, ⟨_, rfl⟩, hW, hframe⟩
  jvm_step X.here [X.here.top, hx, hb, hdg, hmeth', hr, ret, narrow_b1]
  (try refine ⟨rfl, ?_⟩); (try refine ⟨rfl, ?_⟩)
  first | (intro acts; rw [hret _ acts rfl rfl rfl]) | rw [hret _ _ rfl rfl rfl]
  exact Steps.refl _
/-- what holds at the law's entry: the machine, the code, the tables' words (any of lw_tbl by 'hts w (by decide +kernel)'), the script of L ints xs at the cell b, what the Statement gives of the start (any of its parts by flat_of_before) -/
def lw_At (p : Program) (s : State) (m : MethodId) (meth : Method) (c : Code) (b L : Nat) (xs : Nat → Int32) : Prop :=
  p.tables.exec = Jvm.exec ∧ c.code = code ∧ meth.sig.returnType = ret ∧ c.maxLocals = 4 ∧ s.vm.findClass R_law = some m.cls ∧ (∀ w ∈ lw_tbl, w.before #[Value.ref b] s = true) ∧ va_X b L xs s s.heap ∧ b < s.heap.size ∧ meth.locks = false ∧ (Jvm.Cond.and given_1 narrow_1).before #[Value.ref b] s = true
def PC_nodes (Inv : SBS → MdS → Prop) : Prop := ∀ (X : SBS) (M : MdS), Inv X M → ∀ (v1 : Int32), ∃ (r : Bool) (X2 : SBS) (M2 : MdS), SB_m_nodes X v1 = some (r, X2) ∧ Md_m_nodes M v1 = some (r, M2) ∧ Inv X2 M2
def PC_link (Inv : SBS → MdS → Prop) : Prop := ∀ (X : SBS) (M : MdS), Inv X M → ∀ (v1 v2 : Int32), ∃ (r : Int32) (X2 : SBS) (M2 : MdS), SB_m_link X v1 v2 = some (r, X2) ∧ Md_m_link M v1 v2 = some (r, M2) ∧ Inv X2 M2
def PC_undo (Inv : SBS → MdS → Prop) : Prop := ∀ (X : SBS) (M : MdS), Inv X M → ∀ (v1 : Int32), ∃ (r : Int32) (X2 : SBS) (M2 : MdS), SB_m_undo X v1 = some (r, X2) ∧ Md_m_undo M v1 = some (r, M2) ∧ Inv X2 M2
def PC_rain (Inv : SBS → MdS → Prop) : Prop := ∀ (X : SBS) (M : MdS), Inv X M → ∀ (v1 : Int32), ∃ (r : Int32) (X2 : SBS) (M2 : MdS), SB_m_rain X v1 = some (r, X2) ∧ Md_m_rain M v1 = some (r, M2) ∧ Inv X2 M2
def PC_state (Inv : SBS → MdS → Prop) : Prop := ∀ (X : SBS) (M : MdS), Inv X M → ∀ (v1 : Int32), ∃ (r : Int32) (X2 : SBS) (M2 : MdS), SB_m_state X v1 = some (r, X2) ∧ Md_m_state M v1 = some (r, M2) ∧ Inv X2 M2
def PC_linkOf (Inv : SBS → MdS → Prop) : Prop := ∀ (X : SBS) (M : MdS), Inv X M → ∀ (v1 v2 : Int32), ∃ (r : Int32) (M2 : MdS), SB_m_linkOf X v1 v2 = some r ∧ Md_m_linkOf M v1 v2 = some (r, M2) ∧ Inv X M2
def PC_bridge (Inv : SBS → MdS → Prop) : Prop := ∀ (X : SBS) (M : MdS), Inv X M → ∀ (v1 : Int32), ∃ (r : Int32) (M2 : MdS), SB_m_bridge X v1 = some r ∧ Md_m_bridge M v1 = some (r, M2) ∧ Inv X M2
def PC_node (Inv : SBS → MdS → Prop) : Prop := ∀ (X : SBS) (M : MdS), Inv X M → ∀ (v1 v2 : Int32), ∃ (r : Int32) (M2 : MdS), SB_m_node X v1 v2 = some r ∧ Md_m_node M v1 v2 = some (r, M2) ∧ Inv X M2
def PC_block (Inv : SBS → MdS → Prop) : Prop := ∀ (X : SBS) (M : MdS), Inv X M → ∀ (v1 v2 : Int32), ∃ (r : Int32) (M2 : MdS), SB_m_block X v1 v2 = some r ∧ Md_m_block M v1 v2 = some (r, M2) ∧ Inv X M2
def PC_member (Inv : SBS → MdS → Prop) : Prop := ∀ (X : SBS) (M : MdS), Inv X M → ∀ (v1 v2 : Int32), ∃ (r : Int32) (M2 : MdS), SB_m_member X v1 v2 = some r ∧ Md_m_member M v1 v2 = some (r, M2) ∧ Inv X M2
def PC_child (Inv : SBS → MdS → Prop) : Prop := ∀ (X : SBS) (M : MdS), Inv X M → ∀ (v1 v2 : Int32), ∃ (r : Int32) (M2 : MdS), SB_m_child X v1 v2 = some r ∧ Md_m_child M v1 v2 = some (r, M2) ∧ Inv X M2
def PC_land (Inv : SBS → MdS → Prop) : Prop := ∀ (X : SBS) (M : MdS), Inv X M → ∀ (v1 v2 : Int32), ∃ (r : Int32) (X2 : SBS) (M2 : MdS), SB_m_land X v1 v2 = some (r, X2) ∧ Md_m_land M v1 v2 = some (r, M2) ∧ Inv X2 M2
def PC_story (Inv : SBS → MdS → Prop) : Prop := ∀ (X : SBS) (M : MdS), Inv X M → ∀ (v1 v2 v3 : Int32), ∃ (r : Int32) (M2 : MdS), SB_m_story X v1 v2 v3 = some r ∧ Md_m_story M v1 v2 v3 = some (r, M2) ∧ Inv X M2
def PC_latest (Inv : SBS → MdS → Prop) : Prop := ∀ (X : SBS) (M : MdS), Inv X M → ∀ (v1 : Int32), ∃ (r : Int32) (M2 : MdS), SB_m_latest X v1 = some r ∧ Md_m_latest M v1 = some (r, M2) ∧ Inv X M2
def PC_doubleSafe (Inv : SBS → MdS → Prop) : Prop := ∀ (X : SBS) (M : MdS), Inv X M → ∀ (v1 v2 : Int32), ∃ (r : Int32) (M2 : MdS), SB_m_doubleSafe X v1 v2 = some r ∧ Md_m_doubleSafe M v1 v2 = some (r, M2) ∧ Inv X M2
def PC_way (Inv : SBS → MdS → Prop) : Prop := ∀ (X : SBS) (M : MdS), Inv X M → ∀ (v1 v2 v3 : Int32), ∃ (r : Int32) (X2 : SBS) (M2 : MdS), SB_m_way X v1 v2 v3 = some (r, X2) ∧ Md_m_way M v1 v2 v3 = some (r, M2) ∧ Inv X2 M2
def PC_since (Inv : SBS → MdS → Prop) : Prop := ∀ (X : SBS) (M : MdS), Inv X M → ∀ (v1 v2 v3 : Int32), ∃ (r : Int32) (X2 : SBS) (M2 : MdS), SB_m_since X v1 v2 v3 = some (r, X2) ∧ Md_m_since M v1 v2 v3 = some (r, M2) ∧ Inv X2 M2
def PC_would (Inv : SBS → MdS → Prop) : Prop := ∀ (X : SBS) (M : MdS), Inv X M → ∀ (v1 v2 v3 : Int32), ∃ (r : Int32) (X2 : SBS) (M2 : MdS), SB_m_would X v1 v2 v3 = some (r, X2) ∧ Md_m_would M v1 v2 v3 = some (r, M2) ∧ Inv X2 M2
def PC_best (Inv : SBS → MdS → Prop) : Prop := ∀ (X : SBS) (M : MdS), Inv X M → ∀ (v1 : Int32), ∃ (r : Int32) (X2 : SBS) (M2 : MdS), SB_m_best X v1 = some (r, X2) ∧ Md_m_best M v1 = some (r, M2) ∧ Inv X2 M2
def PC_worst (Inv : SBS → MdS → Prop) : Prop := ∀ (X : SBS) (M : MdS), Inv X M → ∀ (v1 : Int32), ∃ (r : Int32) (M2 : MdS), SB_m_worst X v1 = some r ∧ Md_m_worst M v1 = some (r, M2) ∧ Inv X M2
def PC_part (Inv : SBS → MdS → Prop) : Prop := ∀ (X : SBS) (M : MdS), Inv X M → ∀ (v1 v2 : Int32), ∃ (r : Int32) (M2 : MdS), SB_m_part X v1 v2 = some r ∧ Md_m_part M v1 v2 = some (r, M2) ∧ Inv X M2
def PC_centre (Inv : SBS → MdS → Prop) : Prop := ∀ (X : SBS) (M : MdS), Inv X M → ∀ (v1 : Int32), ∃ (r : Int32) (X2 : SBS) (M2 : MdS), SB_m_centre X v1 = some (r, X2) ∧ Md_m_centre M v1 = some (r, M2) ∧ Inv X2 M2
def PC_between (Inv : SBS → MdS → Prop) : Prop := ∀ (X : SBS) (M : MdS), Inv X M → ∀ (v1 v2 v3 : Int32), ∃ (r : Int32) (X2 : SBS) (M2 : MdS), SB_m_between X v1 v2 v3 = some (r, X2) ∧ Md_m_between M v1 v2 v3 = some (r, M2) ∧ Inv X2 M2
def PC_mending (Inv : SBS → MdS → Prop) : Prop := ∀ (X : SBS) (M : MdS), Inv X M → ∀ (v1 v2 v3 : Int32), ∃ (r : Int32) (M2 : MdS), SB_m_mending X v1 v2 v3 = some r ∧ Md_m_mending M v1 v2 v3 = some (r, M2) ∧ Inv X M2
def PC_without (Inv : SBS → MdS → Prop) : Prop := ∀ (X : SBS) (M : MdS), Inv X M → ∀ (v1 v2 v3 : Int32), ∃ (r : Int32) (X2 : SBS) (M2 : MdS), SB_m_without X v1 v2 v3 = some (r, X2) ∧ Md_m_without M v1 v2 v3 = some (r, M2) ∧ Inv X2 M2
def PC_ring (Inv : SBS → MdS → Prop) : Prop := ∀ (X : SBS) (M : MdS), Inv X M → ∀ (v1 v2 : Int32), ∃ (r : Int32) (X2 : SBS) (M2 : MdS), SB_m_ring X v1 v2 = some (r, X2) ∧ Md_m_ring M v1 v2 = some (r, M2) ∧ Inv X2 M2
def PC_wouldName (Inv : SBS → MdS → Prop) : Prop := ∀ (X : SBS) (M : MdS), Inv X M → ∀ (v1 v2 v3 : Int32), ∃ (r : Int32) (X2 : SBS) (M2 : MdS), SB_m_wouldName X v1 v2 v3 = some (r, X2) ∧ Md_m_wouldName M v1 v2 v3 = some (r, M2) ∧ Inv X2 M2
def PC_bridgesBy (Inv : SBS → MdS → Prop) : Prop := ∀ (X : SBS) (M : MdS), Inv X M → ∀ (v1 : Int32), ∃ (r : Int32) (M2 : MdS), SB_m_bridgesBy X v1 = some r ∧ Md_m_bridgesBy M v1 = some (r, M2) ∧ Inv X M2
def PC_look (Inv : SBS → MdS → Prop) : Prop := ∀ (X : SBS) (M : MdS), Inv X M → ∀ (v1 : Int32), ∃ (r : Int32) (M2 : MdS), SB_m_look X v1 = some r ∧ Md_m_look M v1 = some (r, M2) ∧ Inv X M2
def PC_init (Inv : SBS → MdS → Prop) : Prop := ∃ X : SBS, SB_m_init = some X ∧ Inv X Md_0
def PC_all (Inv : SBS → MdS → Prop) : Prop := PC_init Inv ∧ PC_nodes Inv ∧ PC_link Inv ∧ PC_undo Inv ∧ PC_rain Inv ∧ PC_state Inv ∧ PC_linkOf Inv ∧ PC_bridge Inv ∧ PC_node Inv ∧ PC_block Inv ∧ PC_member Inv ∧ PC_child Inv ∧ PC_land Inv ∧ PC_story Inv ∧ PC_latest Inv ∧ PC_doubleSafe Inv ∧ PC_way Inv ∧ PC_since Inv ∧ PC_would Inv ∧ PC_best Inv ∧ PC_worst Inv ∧ PC_part Inv ∧ PC_centre Inv ∧ PC_between Inv ∧ PC_mending Inv ∧ PC_without Inv ∧ PC_ring Inv ∧ PC_wouldName Inv ∧ PC_bridgesBy Inv ∧ PC_look Inv
set_option maxHeartbeats 4000000 in
set_option maxRecDepth 100000 in
theorem lc_nodes {p : Program} {l : Launch} {e : Env} {s : State} {m : MethodId} {below : List Frame} {meth : Method} {c : Code} {b L : Nat} {xs : Nat → Int32} {kc kn : Nat} {Inv : SBS → MdS → Prop} (dC : Nat → ClassId) (dI : Nat → Nat → Nat) (cI cJ : ClassId) (A B : Nat → Nat) (hL : L ≤ 2048) (C0 : lw_At p s m meth c b L xs) (hPC : PC_all Inv) (X : SBS) (M : MdS) (hI : Inv X M) (H : Heap) (locs : List Loc) (hK : va_K (dC, dI) vwCl (vTy cI cJ) s) (hN : nwAll s) (hP : va_P (dC, dI) vwCl (wSB cI cJ A X ++ wMd cI cJ B M) H) (hD : va_D (fun q : Nat => s.heap.size ≤ q) (wSB cI cJ A X ++ wMd cI cJ B M)) (hS : va_S (fun q : Nat => s.heap.size ≤ q) s.heap H locs) (x3 : Int32) (hin1 : vp_in (x3 + 1) L) (hin2 : vp_in (x3 + 2) L) (hin3 : vp_in (x3 + 3) L) (hkc : kc ≤ 600000) (hkn : kn ≤ 7302250) (hnext : ∀ (X : SBS) (M : MdS), Inv X M → ∀ (H : Heap) (locs : List Loc), va_P (dC, dI) vwCl (wSB cI cJ A X ++ wMd cI cJ B M) H → va_D (fun q : Nat => s.heap.size ≤ q) (wSB cI cJ A X ++ wMd cI cJ B M) → va_S (fun q : Nat => s.heap.size ≤ q) s.heap H locs → ∀ ls : Array Slot, lv_has ls 4 [(0, .ref b), (1, .ref (A 0)), (2, .ref (B 0)), (3, .int x3)] → W p l e room_1 s m #[Value.ref b] below meth c H locs kc kn (lw_Z below #[Value.ref b] s) (F0 m 1091 ls [])) (ls : Array Slot) (hl : lv_has ls 4 [(0, .ref b), (1, .ref (A 0)), (2, .ref (B 0)), (3, .int x3)]) : W p l e room_1 s m #[Value.ref b] below meth c H locs kc kn (lw_Z below #[Value.ref b] s) (F0 m 164 ls []) := by
  obtain ⟨hx, hb, hr, hml, hown, hts0, hX, hbl, hlocks, hgv⟩ := C0
  have hts : ∀ w ∈ wsL_law, w.before #[Value.ref b] s = true := fun w h => hts0 w (wsL_law_in w h)
  have hA : ∀ q : Nat, s.heap.size ≤ q → (fun q : Nat => s.heap.size ≤ q) q := fun _ h => h
  have hbA : ¬ (fun q : Nat => s.heap.size ≤ q) b := Nat.not_le.mpr hbl
  obtain ⟨r, X2, M2, h1, h2, hI2⟩ := hPC.2.1 X M hI (xs (x3 + 1).toNatClampNeg)
  refine lv_aload_n hx hb dL_law_164 rfl (lv_at hl 1 rfl) ?_
  refine lv_aload_n hx hb dL_law_165 rfl (lv_at hl 0 rfl) ?_
  refine lv_iload_n hx hb dL_law_166 rfl (lv_at hl 3 rfl) ?_
  refine lv_iconst (v := 1) hx hb dL_law_167 (by decide) ?_
  refine lv_iadd hx hb dL_law_168 ?_
  refine va_sld hx hb hX hbl hbA hS hin1 dL_law_169 ?_
  have hPx : va_P (dC, dI) vwCl (([] : va_W) ++ (wSB cI cJ A X ++ wMd cI cJ B M)) H := hP
  have hDx : va_D _ (([] : va_W) ++ (wSB cI cJ A X ++ wMd cI cJ B M)) := hD
  refine kg_retWi (w1 := wSB cI cJ A X2) (wz := (wSB cI cJ A X2 ++ wMd cI cJ B M)) (r := (b2i r)) rfl hPx hDx hS hA (va_runV (As := [.int (xs (x3 + 1).toNatClampNeg)]) (rest := []) ⟨hx, hb, hml, hown, hts⟩ (c_X5_nodes l dC dI cI cJ A H.size X (xs (x3 + 1).toNatClampNeg) _ h1) (cwV 1 hts (gw_inL (al_V wd_8_22 wd_8_19 wd_8_20 wd_8_21 wd_1_2)) rfl rfl rfl qX5_nodes ⟨Nat.le_of_ble_eq_true rfl, Nat.le_of_ble_eq_true rfl⟩) (kg_preVW (ci := 5) (q := (RX5, TX5, 6)) (q0 := 0) (kg_cutP hPx) (kg_cutD hDx) hK hN rfl rfl) rfl rfl hl.1 rfl (lv_room (Nat.le_of_ble_eq_true rfl)) dL_law_170 ⟨hkc, hkn⟩) (fun H locs hP hD hS => ?_)
  refine lv_aload_n hx hb dL_law_173 rfl (lv_at hl 2 rfl) ?_
  refine lv_aload_n hx hb dL_law_174 rfl (lv_at hl 0 rfl) ?_
  refine lv_iload_n hx hb dL_law_175 rfl (lv_at hl 3 rfl) ?_
  refine lv_iconst (v := 1) hx hb dL_law_176 (by decide) ?_
  refine lv_iadd hx hb dL_law_177 ?_
  refine va_sld hx hb hX hbl hbA hS hin1 dL_law_178 ?_
  have hPx : va_P (dC, dI) vwCl (wSB cI cJ A X2 ++ (wMd cI cJ B M ++ ([] : va_W))) H := by rw [List.append_nil]; exact hP
  have hDx : va_D (fun q : Nat => s.heap.size ≤ q) (wSB cI cJ A X2 ++ (wMd cI cJ B M ++ ([] : va_W))) := by rw [List.append_nil]; exact hD
  refine kg_retWi (w1 := wMd cI cJ B M2) (wz := (wSB cI cJ A X2 ++ wMd cI cJ B M2)) (r := (b2i r)) (by rw [List.append_nil]) hPx hDx hS hA (va_runV (As := [.int (xs (x3 + 1).toNatClampNeg)]) (rest := [.int (b2i r)]) ⟨hx, hb, hml, hown, hts⟩ (c_X6_nodes l dC dI cI cJ B H.size M (xs (x3 + 1).toNatClampNeg) _ h2) (cwV 1 hts (gw_inL (al_V wd_9_2 wd_8_23 wd_9_0 wd_9_1 wd_1_5)) rfl rfl rfl qX6_nodes ⟨Nat.le_of_ble_eq_true rfl, Nat.le_of_ble_eq_true rfl⟩) (kg_preVW (ci := 6) (q := (RX6, TX6, 30)) (q0 := 0) (kg_cutP hPx) (kg_cutD hDx) hK hN rfl rfl) rfl rfl hl.1 rfl (lv_room (Nat.le_of_ble_eq_true rfl)) dL_law_179 ⟨hkc, hkn⟩) (fun H locs hP hD hS => ?_)
  refine lv_icmp_eq (tgt := 1091) hx hb dL_law_182 (by decide) (fun _ => ?_) (fun hc => absurd rfl hc)
  exact hnext X2 M2 hI2 H locs hP hD hS ls hl
set_option maxHeartbeats 4000000 in
set_option maxRecDepth 100000 in
theorem lc_link {p : Program} {l : Launch} {e : Env} {s : State} {m : MethodId} {below : List Frame} {meth : Method} {c : Code} {b L : Nat} {xs : Nat → Int32} {kc kn : Nat} {Inv : SBS → MdS → Prop} (dC : Nat → ClassId) (dI : Nat → Nat → Nat) (cI cJ : ClassId) (A B : Nat → Nat) (hL : L ≤ 2048) (C0 : lw_At p s m meth c b L xs) (hPC : PC_all Inv) (X : SBS) (M : MdS) (hI : Inv X M) (H : Heap) (locs : List Loc) (hK : va_K (dC, dI) vwCl (vTy cI cJ) s) (hN : nwAll s) (hP : va_P (dC, dI) vwCl (wSB cI cJ A X ++ wMd cI cJ B M) H) (hD : va_D (fun q : Nat => s.heap.size ≤ q) (wSB cI cJ A X ++ wMd cI cJ B M)) (hS : va_S (fun q : Nat => s.heap.size ≤ q) s.heap H locs) (x3 : Int32) (hin1 : vp_in (x3 + 1) L) (hin2 : vp_in (x3 + 2) L) (hin3 : vp_in (x3 + 3) L) (hkc : kc ≤ 600000) (hkn : kn ≤ 7302250) (hnext : ∀ (X : SBS) (M : MdS), Inv X M → ∀ (H : Heap) (locs : List Loc), va_P (dC, dI) vwCl (wSB cI cJ A X ++ wMd cI cJ B M) H → va_D (fun q : Nat => s.heap.size ≤ q) (wSB cI cJ A X ++ wMd cI cJ B M) → va_S (fun q : Nat => s.heap.size ≤ q) s.heap H locs → ∀ ls : Array Slot, lv_has ls 4 [(0, .ref b), (1, .ref (A 0)), (2, .ref (B 0)), (3, .int x3)] → W p l e room_1 s m #[Value.ref b] below meth c H locs kc kn (lw_Z below #[Value.ref b] s) (F0 m 1091 ls [])) (ls : Array Slot) (hl : lv_has ls 4 [(0, .ref b), (1, .ref (A 0)), (2, .ref (B 0)), (3, .int x3)]) : W p l e room_1 s m #[Value.ref b] below meth c H locs kc kn (lw_Z below #[Value.ref b] s) (F0 m 187 ls []) := by
  obtain ⟨hx, hb, hr, hml, hown, hts0, hX, hbl, hlocks, hgv⟩ := C0
  have hts : ∀ w ∈ wsL_law, w.before #[Value.ref b] s = true := fun w h => hts0 w (wsL_law_in w h)
  have hA : ∀ q : Nat, s.heap.size ≤ q → (fun q : Nat => s.heap.size ≤ q) q := fun _ h => h
  have hbA : ¬ (fun q : Nat => s.heap.size ≤ q) b := Nat.not_le.mpr hbl
  obtain ⟨r, X2, M2, h1, h2, hI2⟩ := hPC.2.2.1 X M hI (xs (x3 + 1).toNatClampNeg) (xs (x3 + 2).toNatClampNeg)
  refine lv_aload_n hx hb dL_law_187 rfl (lv_at hl 1 rfl) ?_
  refine lv_aload_n hx hb dL_law_188 rfl (lv_at hl 0 rfl) ?_
  refine lv_iload_n hx hb dL_law_189 rfl (lv_at hl 3 rfl) ?_
  refine lv_iconst (v := 1) hx hb dL_law_190 (by decide) ?_
  refine lv_iadd hx hb dL_law_191 ?_
  refine va_sld hx hb hX hbl hbA hS hin1 dL_law_192 ?_
  refine lv_aload_n hx hb dL_law_193 rfl (lv_at hl 0 rfl) ?_
  refine lv_iload_n hx hb dL_law_194 rfl (lv_at hl 3 rfl) ?_
  refine lv_iconst (v := 2) hx hb dL_law_195 (by decide) ?_
  refine lv_iadd hx hb dL_law_196 ?_
  refine va_sld hx hb hX hbl hbA hS hin2 dL_law_197 ?_
  have hPx : va_P (dC, dI) vwCl (([] : va_W) ++ (wSB cI cJ A X ++ wMd cI cJ B M)) H := hP
  have hDx : va_D _ (([] : va_W) ++ (wSB cI cJ A X ++ wMd cI cJ B M)) := hD
  refine kg_retWi (w1 := wSB cI cJ A X2) (wz := (wSB cI cJ A X2 ++ wMd cI cJ B M)) (r := r) rfl hPx hDx hS hA (va_runV (As := [.int (xs (x3 + 1).toNatClampNeg), .int (xs (x3 + 2).toNatClampNeg)]) (rest := []) ⟨hx, hb, hml, hown, hts⟩ (c_X5_link l dC dI cI cJ A H.size X (xs (x3 + 1).toNatClampNeg) (xs (x3 + 2).toNatClampNeg) _ h1) (cwV 2 hts (gw_inL (al_V wd_9_14 wd_9_11 wd_9_12 wd_9_13 wd_1_2)) rfl rfl rfl qX5_link ⟨Nat.le_of_ble_eq_true rfl, Nat.le_of_ble_eq_true rfl⟩) (kg_preVW (ci := 5) (q := (RX5, TX5, 6)) (q0 := 0) (kg_cutP hPx) (kg_cutD hDx) hK hN rfl rfl) rfl rfl hl.1 rfl (lv_room (Nat.le_of_ble_eq_true rfl)) dL_law_198 ⟨hkc, hkn⟩) (fun H locs hP hD hS => ?_)
  refine lv_aload_n hx hb dL_law_201 rfl (lv_at hl 2 rfl) ?_
  refine lv_aload_n hx hb dL_law_202 rfl (lv_at hl 0 rfl) ?_
  refine lv_iload_n hx hb dL_law_203 rfl (lv_at hl 3 rfl) ?_
  refine lv_iconst (v := 1) hx hb dL_law_204 (by decide) ?_
  refine lv_iadd hx hb dL_law_205 ?_
  refine va_sld hx hb hX hbl hbA hS hin1 dL_law_206 ?_
  refine lv_aload_n hx hb dL_law_207 rfl (lv_at hl 0 rfl) ?_
  refine lv_iload_n hx hb dL_law_208 rfl (lv_at hl 3 rfl) ?_
  refine lv_iconst (v := 2) hx hb dL_law_209 (by decide) ?_
  refine lv_iadd hx hb dL_law_210 ?_
  refine va_sld hx hb hX hbl hbA hS hin2 dL_law_211 ?_
  have hPx : va_P (dC, dI) vwCl (wSB cI cJ A X2 ++ (wMd cI cJ B M ++ ([] : va_W))) H := by rw [List.append_nil]; exact hP
  have hDx : va_D (fun q : Nat => s.heap.size ≤ q) (wSB cI cJ A X2 ++ (wMd cI cJ B M ++ ([] : va_W))) := by rw [List.append_nil]; exact hD
  refine kg_retWi (w1 := wMd cI cJ B M2) (wz := (wSB cI cJ A X2 ++ wMd cI cJ B M2)) (r := r) (by rw [List.append_nil]) hPx hDx hS hA (va_runV (As := [.int (xs (x3 + 1).toNatClampNeg), .int (xs (x3 + 2).toNatClampNeg)]) (rest := [.int r]) ⟨hx, hb, hml, hown, hts⟩ (c_X6_link l dC dI cI cJ B H.size M (xs (x3 + 1).toNatClampNeg) (xs (x3 + 2).toNatClampNeg) _ h2) (cwV 2 hts (gw_inL (al_V wd_12_5 wd_12_2 wd_12_3 wd_12_4 wd_1_5)) rfl rfl rfl qX6_link ⟨Nat.le_of_ble_eq_true rfl, Nat.le_of_ble_eq_true rfl⟩) (kg_preVW (ci := 6) (q := (RX6, TX6, 30)) (q0 := 0) (kg_cutP hPx) (kg_cutD hDx) hK hN rfl rfl) rfl rfl hl.1 rfl (lv_room (Nat.le_of_ble_eq_true rfl)) dL_law_212 ⟨hkc, hkn⟩) (fun H locs hP hD hS => ?_)
  refine lv_icmp_eq (tgt := 1091) hx hb dL_law_215 (by decide) (fun _ => ?_) (fun hc => absurd rfl hc)
  exact hnext X2 M2 hI2 H locs hP hD hS ls hl
set_option maxHeartbeats 4000000 in
set_option maxRecDepth 100000 in
theorem lc_undo {p : Program} {l : Launch} {e : Env} {s : State} {m : MethodId} {below : List Frame} {meth : Method} {c : Code} {b L : Nat} {xs : Nat → Int32} {kc kn : Nat} {Inv : SBS → MdS → Prop} (dC : Nat → ClassId) (dI : Nat → Nat → Nat) (cI cJ : ClassId) (A B : Nat → Nat) (hL : L ≤ 2048) (C0 : lw_At p s m meth c b L xs) (hPC : PC_all Inv) (X : SBS) (M : MdS) (hI : Inv X M) (H : Heap) (locs : List Loc) (hK : va_K (dC, dI) vwCl (vTy cI cJ) s) (hN : nwAll s) (hP : va_P (dC, dI) vwCl (wSB cI cJ A X ++ wMd cI cJ B M) H) (hD : va_D (fun q : Nat => s.heap.size ≤ q) (wSB cI cJ A X ++ wMd cI cJ B M)) (hS : va_S (fun q : Nat => s.heap.size ≤ q) s.heap H locs) (x3 : Int32) (hin1 : vp_in (x3 + 1) L) (hin2 : vp_in (x3 + 2) L) (hin3 : vp_in (x3 + 3) L) (hkc : kc ≤ 600000) (hkn : kn ≤ 7302250) (hnext : ∀ (X : SBS) (M : MdS), Inv X M → ∀ (H : Heap) (locs : List Loc), va_P (dC, dI) vwCl (wSB cI cJ A X ++ wMd cI cJ B M) H → va_D (fun q : Nat => s.heap.size ≤ q) (wSB cI cJ A X ++ wMd cI cJ B M) → va_S (fun q : Nat => s.heap.size ≤ q) s.heap H locs → ∀ ls : Array Slot, lv_has ls 4 [(0, .ref b), (1, .ref (A 0)), (2, .ref (B 0)), (3, .int x3)] → W p l e room_1 s m #[Value.ref b] below meth c H locs kc kn (lw_Z below #[Value.ref b] s) (F0 m 1091 ls [])) (ls : Array Slot) (hl : lv_has ls 4 [(0, .ref b), (1, .ref (A 0)), (2, .ref (B 0)), (3, .int x3)]) : W p l e room_1 s m #[Value.ref b] below meth c H locs kc kn (lw_Z below #[Value.ref b] s) (F0 m 220 ls []) := by
  obtain ⟨hx, hb, hr, hml, hown, hts0, hX, hbl, hlocks, hgv⟩ := C0
  have hts : ∀ w ∈ wsL_law, w.before #[Value.ref b] s = true := fun w h => hts0 w (wsL_law_in w h)
  have hA : ∀ q : Nat, s.heap.size ≤ q → (fun q : Nat => s.heap.size ≤ q) q := fun _ h => h
  have hbA : ¬ (fun q : Nat => s.heap.size ≤ q) b := Nat.not_le.mpr hbl
  obtain ⟨r, X2, M2, h1, h2, hI2⟩ := hPC.2.2.2.1 X M hI (xs (x3 + 1).toNatClampNeg)
  refine lv_aload_n hx hb dL_law_220 rfl (lv_at hl 1 rfl) ?_
  refine lv_aload_n hx hb dL_law_221 rfl (lv_at hl 0 rfl) ?_
  refine lv_iload_n hx hb dL_law_222 rfl (lv_at hl 3 rfl) ?_
  refine lv_iconst (v := 1) hx hb dL_law_223 (by decide) ?_
  refine lv_iadd hx hb dL_law_224 ?_
  refine va_sld hx hb hX hbl hbA hS hin1 dL_law_225 ?_
  have hPx : va_P (dC, dI) vwCl (([] : va_W) ++ (wSB cI cJ A X ++ wMd cI cJ B M)) H := hP
  have hDx : va_D _ (([] : va_W) ++ (wSB cI cJ A X ++ wMd cI cJ B M)) := hD
  refine kg_retWi (w1 := wSB cI cJ A X2) (wz := (wSB cI cJ A X2 ++ wMd cI cJ B M)) (r := r) rfl hPx hDx hS hA (va_runV (As := [.int (xs (x3 + 1).toNatClampNeg)]) (rest := []) ⟨hx, hb, hml, hown, hts⟩ (c_X5_undo l dC dI cI cJ A H.size X (xs (x3 + 1).toNatClampNeg) _ h1) (cwV 1 hts (gw_inL (al_V wd_15_17 wd_15_14 wd_15_15 wd_15_16 wd_1_2)) rfl rfl rfl qX5_undo ⟨Nat.le_of_ble_eq_true rfl, Nat.le_of_ble_eq_true rfl⟩) (kg_preVW (ci := 5) (q := (RX5, TX5, 6)) (q0 := 0) (kg_cutP hPx) (kg_cutD hDx) hK hN rfl rfl) rfl rfl hl.1 rfl (lv_room (Nat.le_of_ble_eq_true rfl)) dL_law_226 ⟨hkc, hkn⟩) (fun H locs hP hD hS => ?_)
  refine lv_aload_n hx hb dL_law_229 rfl (lv_at hl 2 rfl) ?_
  refine lv_aload_n hx hb dL_law_230 rfl (lv_at hl 0 rfl) ?_
  refine lv_iload_n hx hb dL_law_231 rfl (lv_at hl 3 rfl) ?_
  refine lv_iconst (v := 1) hx hb dL_law_232 (by decide) ?_
  refine lv_iadd hx hb dL_law_233 ?_
  refine va_sld hx hb hX hbl hbA hS hin1 dL_law_234 ?_
  have hPx : va_P (dC, dI) vwCl (wSB cI cJ A X2 ++ (wMd cI cJ B M ++ ([] : va_W))) H := by rw [List.append_nil]; exact hP
  have hDx : va_D (fun q : Nat => s.heap.size ≤ q) (wSB cI cJ A X2 ++ (wMd cI cJ B M ++ ([] : va_W))) := by rw [List.append_nil]; exact hD
  refine kg_retWi (w1 := wMd cI cJ B M2) (wz := (wSB cI cJ A X2 ++ wMd cI cJ B M2)) (r := r) (by rw [List.append_nil]) hPx hDx hS hA (va_runV (As := [.int (xs (x3 + 1).toNatClampNeg)]) (rest := [.int r]) ⟨hx, hb, hml, hown, hts⟩ (c_X6_undo l dC dI cI cJ B H.size M (xs (x3 + 1).toNatClampNeg) _ h2) (cwV 1 hts (gw_inL (al_V wd_16_3 wd_16_0 wd_16_1 wd_16_2 wd_1_5)) rfl rfl rfl qX6_undo ⟨Nat.le_of_ble_eq_true rfl, Nat.le_of_ble_eq_true rfl⟩) (kg_preVW (ci := 6) (q := (RX6, TX6, 30)) (q0 := 0) (kg_cutP hPx) (kg_cutD hDx) hK hN rfl rfl) rfl rfl hl.1 rfl (lv_room (Nat.le_of_ble_eq_true rfl)) dL_law_235 ⟨hkc, hkn⟩) (fun H locs hP hD hS => ?_)
  refine lv_icmp_eq (tgt := 1091) hx hb dL_law_238 (by decide) (fun _ => ?_) (fun hc => absurd rfl hc)
  exact hnext X2 M2 hI2 H locs hP hD hS ls hl
set_option maxHeartbeats 4000000 in
set_option maxRecDepth 100000 in
theorem lc_rain {p : Program} {l : Launch} {e : Env} {s : State} {m : MethodId} {below : List Frame} {meth : Method} {c : Code} {b L : Nat} {xs : Nat → Int32} {kc kn : Nat} {Inv : SBS → MdS → Prop} (dC : Nat → ClassId) (dI : Nat → Nat → Nat) (cI cJ : ClassId) (A B : Nat → Nat) (hL : L ≤ 2048) (C0 : lw_At p s m meth c b L xs) (hPC : PC_all Inv) (X : SBS) (M : MdS) (hI : Inv X M) (H : Heap) (locs : List Loc) (hK : va_K (dC, dI) vwCl (vTy cI cJ) s) (hN : nwAll s) (hP : va_P (dC, dI) vwCl (wSB cI cJ A X ++ wMd cI cJ B M) H) (hD : va_D (fun q : Nat => s.heap.size ≤ q) (wSB cI cJ A X ++ wMd cI cJ B M)) (hS : va_S (fun q : Nat => s.heap.size ≤ q) s.heap H locs) (x3 : Int32) (hin1 : vp_in (x3 + 1) L) (hin2 : vp_in (x3 + 2) L) (hin3 : vp_in (x3 + 3) L) (hkc : kc ≤ 600000) (hkn : kn ≤ 7302250) (hnext : ∀ (X : SBS) (M : MdS), Inv X M → ∀ (H : Heap) (locs : List Loc), va_P (dC, dI) vwCl (wSB cI cJ A X ++ wMd cI cJ B M) H → va_D (fun q : Nat => s.heap.size ≤ q) (wSB cI cJ A X ++ wMd cI cJ B M) → va_S (fun q : Nat => s.heap.size ≤ q) s.heap H locs → ∀ ls : Array Slot, lv_has ls 4 [(0, .ref b), (1, .ref (A 0)), (2, .ref (B 0)), (3, .int x3)] → W p l e room_1 s m #[Value.ref b] below meth c H locs kc kn (lw_Z below #[Value.ref b] s) (F0 m 1091 ls [])) (ls : Array Slot) (hl : lv_has ls 4 [(0, .ref b), (1, .ref (A 0)), (2, .ref (B 0)), (3, .int x3)]) : W p l e room_1 s m #[Value.ref b] below meth c H locs kc kn (lw_Z below #[Value.ref b] s) (F0 m 243 ls []) := by
  obtain ⟨hx, hb, hr, hml, hown, hts0, hX, hbl, hlocks, hgv⟩ := C0
  have hts : ∀ w ∈ wsL_law, w.before #[Value.ref b] s = true := fun w h => hts0 w (wsL_law_in w h)
  have hA : ∀ q : Nat, s.heap.size ≤ q → (fun q : Nat => s.heap.size ≤ q) q := fun _ h => h
  have hbA : ¬ (fun q : Nat => s.heap.size ≤ q) b := Nat.not_le.mpr hbl
  obtain ⟨r, X2, M2, h1, h2, hI2⟩ := hPC.2.2.2.2.1 X M hI (xs (x3 + 1).toNatClampNeg)
  refine lv_aload_n hx hb dL_law_243 rfl (lv_at hl 1 rfl) ?_
  refine lv_aload_n hx hb dL_law_244 rfl (lv_at hl 0 rfl) ?_
  refine lv_iload_n hx hb dL_law_245 rfl (lv_at hl 3 rfl) ?_
  refine lv_iconst (v := 1) hx hb dL_law_246 (by decide) ?_
  refine lv_iadd hx hb dL_law_247 ?_
  refine va_sld hx hb hX hbl hbA hS hin1 dL_law_248 ?_
  have hPx : va_P (dC, dI) vwCl (([] : va_W) ++ (wSB cI cJ A X ++ wMd cI cJ B M)) H := hP
  have hDx : va_D _ (([] : va_W) ++ (wSB cI cJ A X ++ wMd cI cJ B M)) := hD
  refine kg_retWi (w1 := wSB cI cJ A X2) (wz := (wSB cI cJ A X2 ++ wMd cI cJ B M)) (r := r) rfl hPx hDx hS hA (va_runV (As := [.int (xs (x3 + 1).toNatClampNeg)]) (rest := []) ⟨hx, hb, hml, hown, hts⟩ (c_X5_rain l dC dI cI cJ A H.size X (xs (x3 + 1).toNatClampNeg) _ h1) (cwV 1 hts (gw_inL (al_V wd_16_7 wd_16_4 wd_16_5 wd_16_6 wd_1_2)) rfl rfl rfl qX5_rain ⟨Nat.le_of_ble_eq_true rfl, Nat.le_of_ble_eq_true rfl⟩) (kg_preVW (ci := 5) (q := (RX5, TX5, 6)) (q0 := 0) (kg_cutP hPx) (kg_cutD hDx) hK hN rfl rfl) rfl rfl hl.1 rfl (lv_room (Nat.le_of_ble_eq_true rfl)) dL_law_249 ⟨hkc, hkn⟩) (fun H locs hP hD hS => ?_)
  refine lv_aload_n hx hb dL_law_252 rfl (lv_at hl 2 rfl) ?_
  refine lv_aload_n hx hb dL_law_253 rfl (lv_at hl 0 rfl) ?_
  refine lv_iload_n hx hb dL_law_254 rfl (lv_at hl 3 rfl) ?_
  refine lv_iconst (v := 1) hx hb dL_law_255 (by decide) ?_
  refine lv_iadd hx hb dL_law_256 ?_
  refine va_sld hx hb hX hbl hbA hS hin1 dL_law_257 ?_
  have hPx : va_P (dC, dI) vwCl (wSB cI cJ A X2 ++ (wMd cI cJ B M ++ ([] : va_W))) H := by rw [List.append_nil]; exact hP
  have hDx : va_D (fun q : Nat => s.heap.size ≤ q) (wSB cI cJ A X2 ++ (wMd cI cJ B M ++ ([] : va_W))) := by rw [List.append_nil]; exact hD
  refine kg_retWi (w1 := wMd cI cJ B M2) (wz := (wSB cI cJ A X2 ++ wMd cI cJ B M2)) (r := r) (by rw [List.append_nil]) hPx hDx hS hA (va_runV (As := [.int (xs (x3 + 1).toNatClampNeg)]) (rest := [.int r]) ⟨hx, hb, hml, hown, hts⟩ (c_X6_rain l dC dI cI cJ B H.size M (xs (x3 + 1).toNatClampNeg) _ h2) (cwV 1 hts (gw_inL (al_V wd_16_17 wd_16_14 wd_16_15 wd_16_16 wd_1_5)) rfl rfl rfl qX6_rain ⟨Nat.le_of_ble_eq_true rfl, Nat.le_of_ble_eq_true rfl⟩) (kg_preVW (ci := 6) (q := (RX6, TX6, 30)) (q0 := 0) (kg_cutP hPx) (kg_cutD hDx) hK hN rfl rfl) rfl rfl hl.1 rfl (lv_room (Nat.le_of_ble_eq_true rfl)) dL_law_258 ⟨hkc, hkn⟩) (fun H locs hP hD hS => ?_)
  refine lv_icmp_eq (tgt := 1091) hx hb dL_law_261 (by decide) (fun _ => ?_) (fun hc => absurd rfl hc)
  exact hnext X2 M2 hI2 H locs hP hD hS ls hl
set_option maxHeartbeats 4000000 in
set_option maxRecDepth 100000 in
theorem lc_state {p : Program} {l : Launch} {e : Env} {s : State} {m : MethodId} {below : List Frame} {meth : Method} {c : Code} {b L : Nat} {xs : Nat → Int32} {kc kn : Nat} {Inv : SBS → MdS → Prop} (dC : Nat → ClassId) (dI : Nat → Nat → Nat) (cI cJ : ClassId) (A B : Nat → Nat) (hL : L ≤ 2048) (C0 : lw_At p s m meth c b L xs) (hPC : PC_all Inv) (X : SBS) (M : MdS) (hI : Inv X M) (H : Heap) (locs : List Loc) (hK : va_K (dC, dI) vwCl (vTy cI cJ) s) (hN : nwAll s) (hP : va_P (dC, dI) vwCl (wSB cI cJ A X ++ wMd cI cJ B M) H) (hD : va_D (fun q : Nat => s.heap.size ≤ q) (wSB cI cJ A X ++ wMd cI cJ B M)) (hS : va_S (fun q : Nat => s.heap.size ≤ q) s.heap H locs) (x3 : Int32) (hin1 : vp_in (x3 + 1) L) (hin2 : vp_in (x3 + 2) L) (hin3 : vp_in (x3 + 3) L) (hkc : kc ≤ 600000) (hkn : kn ≤ 7302250) (hnext : ∀ (X : SBS) (M : MdS), Inv X M → ∀ (H : Heap) (locs : List Loc), va_P (dC, dI) vwCl (wSB cI cJ A X ++ wMd cI cJ B M) H → va_D (fun q : Nat => s.heap.size ≤ q) (wSB cI cJ A X ++ wMd cI cJ B M) → va_S (fun q : Nat => s.heap.size ≤ q) s.heap H locs → ∀ ls : Array Slot, lv_has ls 4 [(0, .ref b), (1, .ref (A 0)), (2, .ref (B 0)), (3, .int x3)] → W p l e room_1 s m #[Value.ref b] below meth c H locs kc kn (lw_Z below #[Value.ref b] s) (F0 m 1091 ls [])) (ls : Array Slot) (hl : lv_has ls 4 [(0, .ref b), (1, .ref (A 0)), (2, .ref (B 0)), (3, .int x3)]) : W p l e room_1 s m #[Value.ref b] below meth c H locs kc kn (lw_Z below #[Value.ref b] s) (F0 m 266 ls []) := by
  obtain ⟨hx, hb, hr, hml, hown, hts0, hX, hbl, hlocks, hgv⟩ := C0
  have hts : ∀ w ∈ wsL_law, w.before #[Value.ref b] s = true := fun w h => hts0 w (wsL_law_in w h)
  have hA : ∀ q : Nat, s.heap.size ≤ q → (fun q : Nat => s.heap.size ≤ q) q := fun _ h => h
  have hbA : ¬ (fun q : Nat => s.heap.size ≤ q) b := Nat.not_le.mpr hbl
  obtain ⟨r, X2, M2, h1, h2, hI2⟩ := hPC.2.2.2.2.2.1 X M hI (xs (x3 + 1).toNatClampNeg)
  refine lv_aload_n hx hb dL_law_266 rfl (lv_at hl 1 rfl) ?_
  refine lv_aload_n hx hb dL_law_267 rfl (lv_at hl 0 rfl) ?_
  refine lv_iload_n hx hb dL_law_268 rfl (lv_at hl 3 rfl) ?_
  refine lv_iconst (v := 1) hx hb dL_law_269 (by decide) ?_
  refine lv_iadd hx hb dL_law_270 ?_
  refine va_sld hx hb hX hbl hbA hS hin1 dL_law_271 ?_
  have hPx : va_P (dC, dI) vwCl (([] : va_W) ++ (wSB cI cJ A X ++ wMd cI cJ B M)) H := hP
  have hDx : va_D _ (([] : va_W) ++ (wSB cI cJ A X ++ wMd cI cJ B M)) := hD
  refine kg_retWi (w1 := wSB cI cJ A X2) (wz := (wSB cI cJ A X2 ++ wMd cI cJ B M)) (r := r) rfl hPx hDx hS hA (va_runV (As := [.int (xs (x3 + 1).toNatClampNeg)]) (rest := []) ⟨hx, hb, hml, hown, hts⟩ (c_X5_state l dC dI cI cJ A H.size X (xs (x3 + 1).toNatClampNeg) _ h1) (cwV 1 hts (gw_inL (al_V wd_17_5 wd_17_2 wd_17_3 wd_17_4 wd_1_2)) rfl rfl rfl qX5_state ⟨Nat.le_of_ble_eq_true rfl, Nat.le_of_ble_eq_true rfl⟩) (kg_preVW (ci := 5) (q := (RX5, TX5, 6)) (q0 := 0) (kg_cutP hPx) (kg_cutD hDx) hK hN rfl rfl) rfl rfl hl.1 rfl (lv_room (Nat.le_of_ble_eq_true rfl)) dL_law_272 ⟨hkc, hkn⟩) (fun H locs hP hD hS => ?_)
  refine lv_aload_n hx hb dL_law_275 rfl (lv_at hl 2 rfl) ?_
  refine lv_aload_n hx hb dL_law_276 rfl (lv_at hl 0 rfl) ?_
  refine lv_iload_n hx hb dL_law_277 rfl (lv_at hl 3 rfl) ?_
  refine lv_iconst (v := 1) hx hb dL_law_278 (by decide) ?_
  refine lv_iadd hx hb dL_law_279 ?_
  refine va_sld hx hb hX hbl hbA hS hin1 dL_law_280 ?_
  have hPx : va_P (dC, dI) vwCl (wSB cI cJ A X2 ++ (wMd cI cJ B M ++ ([] : va_W))) H := by rw [List.append_nil]; exact hP
  have hDx : va_D (fun q : Nat => s.heap.size ≤ q) (wSB cI cJ A X2 ++ (wMd cI cJ B M ++ ([] : va_W))) := by rw [List.append_nil]; exact hD
  refine kg_retWi (w1 := wMd cI cJ B M2) (wz := (wSB cI cJ A X2 ++ wMd cI cJ B M2)) (r := r) (by rw [List.append_nil]) hPx hDx hS hA (va_runV (As := [.int (xs (x3 + 1).toNatClampNeg)]) (rest := [.int r]) ⟨hx, hb, hml, hown, hts⟩ (c_X6_state l dC dI cI cJ B H.size M (xs (x3 + 1).toNatClampNeg) _ h2) (cwV 1 hts (gw_inL (al_V wd_17_9 wd_17_6 wd_17_7 wd_17_8 wd_1_5)) rfl rfl rfl qX6_state ⟨Nat.le_of_ble_eq_true rfl, Nat.le_of_ble_eq_true rfl⟩) (kg_preVW (ci := 6) (q := (RX6, TX6, 30)) (q0 := 0) (kg_cutP hPx) (kg_cutD hDx) hK hN rfl rfl) rfl rfl hl.1 rfl (lv_room (Nat.le_of_ble_eq_true rfl)) dL_law_281 ⟨hkc, hkn⟩) (fun H locs hP hD hS => ?_)
  refine lv_icmp_eq (tgt := 1091) hx hb dL_law_284 (by decide) (fun _ => ?_) (fun hc => absurd rfl hc)
  exact hnext X2 M2 hI2 H locs hP hD hS ls hl
set_option maxHeartbeats 4000000 in
set_option maxRecDepth 100000 in
theorem lc_linkOf {p : Program} {l : Launch} {e : Env} {s : State} {m : MethodId} {below : List Frame} {meth : Method} {c : Code} {b L : Nat} {xs : Nat → Int32} {kc kn : Nat} {Inv : SBS → MdS → Prop} (dC : Nat → ClassId) (dI : Nat → Nat → Nat) (cI cJ : ClassId) (A B : Nat → Nat) (hL : L ≤ 2048) (C0 : lw_At p s m meth c b L xs) (hPC : PC_all Inv) (X : SBS) (M : MdS) (hI : Inv X M) (H : Heap) (locs : List Loc) (hK : va_K (dC, dI) vwCl (vTy cI cJ) s) (hN : nwAll s) (hP : va_P (dC, dI) vwCl (wSB cI cJ A X ++ wMd cI cJ B M) H) (hD : va_D (fun q : Nat => s.heap.size ≤ q) (wSB cI cJ A X ++ wMd cI cJ B M)) (hS : va_S (fun q : Nat => s.heap.size ≤ q) s.heap H locs) (x3 : Int32) (hin1 : vp_in (x3 + 1) L) (hin2 : vp_in (x3 + 2) L) (hin3 : vp_in (x3 + 3) L) (hkc : kc ≤ 600000) (hkn : kn ≤ 7302250) (hnext : ∀ (X : SBS) (M : MdS), Inv X M → ∀ (H : Heap) (locs : List Loc), va_P (dC, dI) vwCl (wSB cI cJ A X ++ wMd cI cJ B M) H → va_D (fun q : Nat => s.heap.size ≤ q) (wSB cI cJ A X ++ wMd cI cJ B M) → va_S (fun q : Nat => s.heap.size ≤ q) s.heap H locs → ∀ ls : Array Slot, lv_has ls 4 [(0, .ref b), (1, .ref (A 0)), (2, .ref (B 0)), (3, .int x3)] → W p l e room_1 s m #[Value.ref b] below meth c H locs kc kn (lw_Z below #[Value.ref b] s) (F0 m 1091 ls [])) (ls : Array Slot) (hl : lv_has ls 4 [(0, .ref b), (1, .ref (A 0)), (2, .ref (B 0)), (3, .int x3)]) : W p l e room_1 s m #[Value.ref b] below meth c H locs kc kn (lw_Z below #[Value.ref b] s) (F0 m 289 ls []) := by
  obtain ⟨hx, hb, hr, hml, hown, hts0, hX, hbl, hlocks, hgv⟩ := C0
  have hts : ∀ w ∈ wsL_law, w.before #[Value.ref b] s = true := fun w h => hts0 w (wsL_law_in w h)
  have hA : ∀ q : Nat, s.heap.size ≤ q → (fun q : Nat => s.heap.size ≤ q) q := fun _ h => h
  have hbA : ¬ (fun q : Nat => s.heap.size ≤ q) b := Nat.not_le.mpr hbl
  obtain ⟨r, M2, h1, h2, hI2⟩ := hPC.2.2.2.2.2.2.1 X M hI (xs (x3 + 1).toNatClampNeg) (xs (x3 + 2).toNatClampNeg)
  refine lv_aload_n hx hb dL_law_289 rfl (lv_at hl 1 rfl) ?_
  refine lv_aload_n hx hb dL_law_290 rfl (lv_at hl 0 rfl) ?_
  refine lv_iload_n hx hb dL_law_291 rfl (lv_at hl 3 rfl) ?_
  refine lv_iconst (v := 1) hx hb dL_law_292 (by decide) ?_
  refine lv_iadd hx hb dL_law_293 ?_
  refine va_sld hx hb hX hbl hbA hS hin1 dL_law_294 ?_
  refine lv_aload_n hx hb dL_law_295 rfl (lv_at hl 0 rfl) ?_
  refine lv_iload_n hx hb dL_law_296 rfl (lv_at hl 3 rfl) ?_
  refine lv_iconst (v := 2) hx hb dL_law_297 (by decide) ?_
  refine lv_iadd hx hb dL_law_298 ?_
  refine va_sld hx hb hX hbl hbA hS hin2 dL_law_299 ?_
  have hPc : va_P (dC, dI) vwCl (wSB cI cJ A X) H := kg_cutP (pre := []) hP
  refine kg_retRi (va_runV (As := [.int (xs (x3 + 1).toNatClampNeg), .int (xs (x3 + 2).toNatClampNeg)]) (rest := []) ⟨hx, hb, hml, hown, hts⟩ (c_X5_linkOf l dC dI cI cJ A H X (xs (x3 + 1).toNatClampNeg) (xs (x3 + 2).toNatClampNeg) _ h1) (cwV 2 hts (gw_inL (al_V wd_17_13 wd_17_10 wd_17_11 wd_17_12 wd_1_2)) rfl rfl rfl qX5_linkOf ⟨Nat.le_of_ble_eq_true rfl, Nat.le_of_ble_eq_true rfl⟩) (kg_preVR (ci := 5) (q := (RX5, TX5, 6)) (q0 := 0) hPc hK hN rfl rfl) rfl rfl hl.1 rfl (lv_room (Nat.le_of_ble_eq_true rfl)) dL_law_300 ⟨hkc, hkn⟩) ?_
  refine lv_aload_n hx hb dL_law_303 rfl (lv_at hl 2 rfl) ?_
  refine lv_aload_n hx hb dL_law_304 rfl (lv_at hl 0 rfl) ?_
  refine lv_iload_n hx hb dL_law_305 rfl (lv_at hl 3 rfl) ?_
  refine lv_iconst (v := 1) hx hb dL_law_306 (by decide) ?_
  refine lv_iadd hx hb dL_law_307 ?_
  refine va_sld hx hb hX hbl hbA hS hin1 dL_law_308 ?_
  refine lv_aload_n hx hb dL_law_309 rfl (lv_at hl 0 rfl) ?_
  refine lv_iload_n hx hb dL_law_310 rfl (lv_at hl 3 rfl) ?_
  refine lv_iconst (v := 2) hx hb dL_law_311 (by decide) ?_
  refine lv_iadd hx hb dL_law_312 ?_
  refine va_sld hx hb hX hbl hbA hS hin2 dL_law_313 ?_
  have hPx : va_P (dC, dI) vwCl (wSB cI cJ A X ++ (wMd cI cJ B M ++ ([] : va_W))) H := by rw [List.append_nil]; exact hP
  have hDx : va_D (fun q : Nat => s.heap.size ≤ q) (wSB cI cJ A X ++ (wMd cI cJ B M ++ ([] : va_W))) := by rw [List.append_nil]; exact hD
  refine kg_retWi (w1 := wMd cI cJ B M2) (wz := (wSB cI cJ A X ++ wMd cI cJ B M2)) (r := r) (by rw [List.append_nil]) hPx hDx hS hA (va_runV (As := [.int (xs (x3 + 1).toNatClampNeg), .int (xs (x3 + 2).toNatClampNeg)]) (rest := [.int r]) ⟨hx, hb, hml, hown, hts⟩ (c_X6_linkOf l dC dI cI cJ B H.size M (xs (x3 + 1).toNatClampNeg) (xs (x3 + 2).toNatClampNeg) _ h2) (cwV 2 hts (gw_inL (al_V wd_18_13 wd_18_10 wd_18_11 wd_18_12 wd_1_5)) rfl rfl rfl qX6_linkOf ⟨Nat.le_of_ble_eq_true rfl, Nat.le_of_ble_eq_true rfl⟩) (kg_preVW (ci := 6) (q := (RX6, TX6, 30)) (q0 := 0) (kg_cutP hPx) (kg_cutD hDx) hK hN rfl rfl) rfl rfl hl.1 rfl (lv_room (Nat.le_of_ble_eq_true rfl)) dL_law_314 ⟨hkc, hkn⟩) (fun H locs hP hD hS => ?_)
  refine lv_icmp_eq (tgt := 1091) hx hb dL_law_317 (by decide) (fun _ => ?_) (fun hc => absurd rfl hc)
  exact hnext X M2 hI2 H locs hP hD hS ls hl
set_option maxHeartbeats 4000000 in
set_option maxRecDepth 100000 in
theorem lc_bridge {p : Program} {l : Launch} {e : Env} {s : State} {m : MethodId} {below : List Frame} {meth : Method} {c : Code} {b L : Nat} {xs : Nat → Int32} {kc kn : Nat} {Inv : SBS → MdS → Prop} (dC : Nat → ClassId) (dI : Nat → Nat → Nat) (cI cJ : ClassId) (A B : Nat → Nat) (hL : L ≤ 2048) (C0 : lw_At p s m meth c b L xs) (hPC : PC_all Inv) (X : SBS) (M : MdS) (hI : Inv X M) (H : Heap) (locs : List Loc) (hK : va_K (dC, dI) vwCl (vTy cI cJ) s) (hN : nwAll s) (hP : va_P (dC, dI) vwCl (wSB cI cJ A X ++ wMd cI cJ B M) H) (hD : va_D (fun q : Nat => s.heap.size ≤ q) (wSB cI cJ A X ++ wMd cI cJ B M)) (hS : va_S (fun q : Nat => s.heap.size ≤ q) s.heap H locs) (x3 : Int32) (hin1 : vp_in (x3 + 1) L) (hin2 : vp_in (x3 + 2) L) (hin3 : vp_in (x3 + 3) L) (hkc : kc ≤ 600000) (hkn : kn ≤ 7302250) (hnext : ∀ (X : SBS) (M : MdS), Inv X M → ∀ (H : Heap) (locs : List Loc), va_P (dC, dI) vwCl (wSB cI cJ A X ++ wMd cI cJ B M) H → va_D (fun q : Nat => s.heap.size ≤ q) (wSB cI cJ A X ++ wMd cI cJ B M) → va_S (fun q : Nat => s.heap.size ≤ q) s.heap H locs → ∀ ls : Array Slot, lv_has ls 4 [(0, .ref b), (1, .ref (A 0)), (2, .ref (B 0)), (3, .int x3)] → W p l e room_1 s m #[Value.ref b] below meth c H locs kc kn (lw_Z below #[Value.ref b] s) (F0 m 1091 ls [])) (ls : Array Slot) (hl : lv_has ls 4 [(0, .ref b), (1, .ref (A 0)), (2, .ref (B 0)), (3, .int x3)]) : W p l e room_1 s m #[Value.ref b] below meth c H locs kc kn (lw_Z below #[Value.ref b] s) (F0 m 322 ls []) := by
  obtain ⟨hx, hb, hr, hml, hown, hts0, hX, hbl, hlocks, hgv⟩ := C0
  have hts : ∀ w ∈ wsL_law, w.before #[Value.ref b] s = true := fun w h => hts0 w (wsL_law_in w h)
  have hA : ∀ q : Nat, s.heap.size ≤ q → (fun q : Nat => s.heap.size ≤ q) q := fun _ h => h
  have hbA : ¬ (fun q : Nat => s.heap.size ≤ q) b := Nat.not_le.mpr hbl
  obtain ⟨r, M2, h1, h2, hI2⟩ := hPC.2.2.2.2.2.2.2.1 X M hI (xs (x3 + 1).toNatClampNeg)
  refine lv_aload_n hx hb dL_law_322 rfl (lv_at hl 1 rfl) ?_
  refine lv_aload_n hx hb dL_law_323 rfl (lv_at hl 0 rfl) ?_
  refine lv_iload_n hx hb dL_law_324 rfl (lv_at hl 3 rfl) ?_
  refine lv_iconst (v := 1) hx hb dL_law_325 (by decide) ?_
  refine lv_iadd hx hb dL_law_326 ?_
  refine va_sld hx hb hX hbl hbA hS hin1 dL_law_327 ?_
  have hPc : va_P (dC, dI) vwCl (wSB cI cJ A X) H := kg_cutP (pre := []) hP
  refine kg_retRi (va_runV (As := [.int (xs (x3 + 1).toNatClampNeg)]) (rest := []) ⟨hx, hb, hml, hown, hts⟩ (c_X5_bridge l dC dI cI cJ A H X (xs (x3 + 1).toNatClampNeg) _ h1) (cwV 1 hts (gw_inL (al_V wd_21_5 wd_21_2 wd_21_3 wd_21_4 wd_1_2)) rfl rfl rfl qX5_bridge ⟨Nat.le_of_ble_eq_true rfl, Nat.le_of_ble_eq_true rfl⟩) (kg_preVR (ci := 5) (q := (RX5, TX5, 6)) (q0 := 0) hPc hK hN rfl rfl) rfl rfl hl.1 rfl (lv_room (Nat.le_of_ble_eq_true rfl)) dL_law_328 ⟨hkc, hkn⟩) ?_
  refine lv_aload_n hx hb dL_law_331 rfl (lv_at hl 2 rfl) ?_
  refine lv_aload_n hx hb dL_law_332 rfl (lv_at hl 0 rfl) ?_
  refine lv_iload_n hx hb dL_law_333 rfl (lv_at hl 3 rfl) ?_
  refine lv_iconst (v := 1) hx hb dL_law_334 (by decide) ?_
  refine lv_iadd hx hb dL_law_335 ?_
  refine va_sld hx hb hX hbl hbA hS hin1 dL_law_336 ?_
  have hPx : va_P (dC, dI) vwCl (wSB cI cJ A X ++ (wMd cI cJ B M ++ ([] : va_W))) H := by rw [List.append_nil]; exact hP
  have hDx : va_D (fun q : Nat => s.heap.size ≤ q) (wSB cI cJ A X ++ (wMd cI cJ B M ++ ([] : va_W))) := by rw [List.append_nil]; exact hD
  refine kg_retWi (w1 := wMd cI cJ B M2) (wz := (wSB cI cJ A X ++ wMd cI cJ B M2)) (r := r) (by rw [List.append_nil]) hPx hDx hS hA (va_runV (As := [.int (xs (x3 + 1).toNatClampNeg)]) (rest := [.int r]) ⟨hx, hb, hml, hown, hts⟩ (c_X6_bridge l dC dI cI cJ B H.size M (xs (x3 + 1).toNatClampNeg) _ h2) (cwV 1 hts (gw_inL (al_V wd_21_9 wd_21_6 wd_21_7 wd_21_8 wd_1_5)) rfl rfl rfl qX6_bridge ⟨Nat.le_of_ble_eq_true rfl, Nat.le_of_ble_eq_true rfl⟩) (kg_preVW (ci := 6) (q := (RX6, TX6, 30)) (q0 := 0) (kg_cutP hPx) (kg_cutD hDx) hK hN rfl rfl) rfl rfl hl.1 rfl (lv_room (Nat.le_of_ble_eq_true rfl)) dL_law_337 ⟨hkc, hkn⟩) (fun H locs hP hD hS => ?_)
  refine lv_icmp_eq (tgt := 1091) hx hb dL_law_340 (by decide) (fun _ => ?_) (fun hc => absurd rfl hc)
  exact hnext X M2 hI2 H locs hP hD hS ls hl
set_option maxHeartbeats 4000000 in
set_option maxRecDepth 100000 in
theorem lc_node {p : Program} {l : Launch} {e : Env} {s : State} {m : MethodId} {below : List Frame} {meth : Method} {c : Code} {b L : Nat} {xs : Nat → Int32} {kc kn : Nat} {Inv : SBS → MdS → Prop} (dC : Nat → ClassId) (dI : Nat → Nat → Nat) (cI cJ : ClassId) (A B : Nat → Nat) (hL : L ≤ 2048) (C0 : lw_At p s m meth c b L xs) (hPC : PC_all Inv) (X : SBS) (M : MdS) (hI : Inv X M) (H : Heap) (locs : List Loc) (hK : va_K (dC, dI) vwCl (vTy cI cJ) s) (hN : nwAll s) (hP : va_P (dC, dI) vwCl (wSB cI cJ A X ++ wMd cI cJ B M) H) (hD : va_D (fun q : Nat => s.heap.size ≤ q) (wSB cI cJ A X ++ wMd cI cJ B M)) (hS : va_S (fun q : Nat => s.heap.size ≤ q) s.heap H locs) (x3 : Int32) (hin1 : vp_in (x3 + 1) L) (hin2 : vp_in (x3 + 2) L) (hin3 : vp_in (x3 + 3) L) (hkc : kc ≤ 600000) (hkn : kn ≤ 7302250) (hnext : ∀ (X : SBS) (M : MdS), Inv X M → ∀ (H : Heap) (locs : List Loc), va_P (dC, dI) vwCl (wSB cI cJ A X ++ wMd cI cJ B M) H → va_D (fun q : Nat => s.heap.size ≤ q) (wSB cI cJ A X ++ wMd cI cJ B M) → va_S (fun q : Nat => s.heap.size ≤ q) s.heap H locs → ∀ ls : Array Slot, lv_has ls 4 [(0, .ref b), (1, .ref (A 0)), (2, .ref (B 0)), (3, .int x3)] → W p l e room_1 s m #[Value.ref b] below meth c H locs kc kn (lw_Z below #[Value.ref b] s) (F0 m 1091 ls [])) (ls : Array Slot) (hl : lv_has ls 4 [(0, .ref b), (1, .ref (A 0)), (2, .ref (B 0)), (3, .int x3)]) : W p l e room_1 s m #[Value.ref b] below meth c H locs kc kn (lw_Z below #[Value.ref b] s) (F0 m 345 ls []) := by
  obtain ⟨hx, hb, hr, hml, hown, hts0, hX, hbl, hlocks, hgv⟩ := C0
  have hts : ∀ w ∈ wsL_law, w.before #[Value.ref b] s = true := fun w h => hts0 w (wsL_law_in w h)
  have hA : ∀ q : Nat, s.heap.size ≤ q → (fun q : Nat => s.heap.size ≤ q) q := fun _ h => h
  have hbA : ¬ (fun q : Nat => s.heap.size ≤ q) b := Nat.not_le.mpr hbl
  obtain ⟨r, M2, h1, h2, hI2⟩ := hPC.2.2.2.2.2.2.2.2.1 X M hI (xs (x3 + 1).toNatClampNeg) (xs (x3 + 2).toNatClampNeg)
  refine lv_aload_n hx hb dL_law_345 rfl (lv_at hl 1 rfl) ?_
  refine lv_aload_n hx hb dL_law_346 rfl (lv_at hl 0 rfl) ?_
  refine lv_iload_n hx hb dL_law_347 rfl (lv_at hl 3 rfl) ?_
  refine lv_iconst (v := 1) hx hb dL_law_348 (by decide) ?_
  refine lv_iadd hx hb dL_law_349 ?_
  refine va_sld hx hb hX hbl hbA hS hin1 dL_law_350 ?_
  refine lv_aload_n hx hb dL_law_351 rfl (lv_at hl 0 rfl) ?_
  refine lv_iload_n hx hb dL_law_352 rfl (lv_at hl 3 rfl) ?_
  refine lv_iconst (v := 2) hx hb dL_law_353 (by decide) ?_
  refine lv_iadd hx hb dL_law_354 ?_
  refine va_sld hx hb hX hbl hbA hS hin2 dL_law_355 ?_
  have hPc : va_P (dC, dI) vwCl (wSB cI cJ A X) H := kg_cutP (pre := []) hP
  refine kg_retRi (va_runV (As := [.int (xs (x3 + 1).toNatClampNeg), .int (xs (x3 + 2).toNatClampNeg)]) (rest := []) ⟨hx, hb, hml, hown, hts⟩ (c_X5_node l dC dI cI cJ A H X (xs (x3 + 1).toNatClampNeg) (xs (x3 + 2).toNatClampNeg) _ h1) (cwV 2 hts (gw_inL (al_V wd_21_13 wd_21_10 wd_21_11 wd_21_12 wd_1_2)) rfl rfl rfl qX5_node ⟨Nat.le_of_ble_eq_true rfl, Nat.le_of_ble_eq_true rfl⟩) (kg_preVR (ci := 5) (q := (RX5, TX5, 6)) (q0 := 0) hPc hK hN rfl rfl) rfl rfl hl.1 rfl (lv_room (Nat.le_of_ble_eq_true rfl)) dL_law_356 ⟨hkc, hkn⟩) ?_
  refine lv_aload_n hx hb dL_law_359 rfl (lv_at hl 2 rfl) ?_
  refine lv_aload_n hx hb dL_law_360 rfl (lv_at hl 0 rfl) ?_
  refine lv_iload_n hx hb dL_law_361 rfl (lv_at hl 3 rfl) ?_
  refine lv_iconst (v := 1) hx hb dL_law_362 (by decide) ?_
  refine lv_iadd hx hb dL_law_363 ?_
  refine va_sld hx hb hX hbl hbA hS hin1 dL_law_364 ?_
  refine lv_aload_n hx hb dL_law_365 rfl (lv_at hl 0 rfl) ?_
  refine lv_iload_n hx hb dL_law_366 rfl (lv_at hl 3 rfl) ?_
  refine lv_iconst (v := 2) hx hb dL_law_367 (by decide) ?_
  refine lv_iadd hx hb dL_law_368 ?_
  refine va_sld hx hb hX hbl hbA hS hin2 dL_law_369 ?_
  have hPx : va_P (dC, dI) vwCl (wSB cI cJ A X ++ (wMd cI cJ B M ++ ([] : va_W))) H := by rw [List.append_nil]; exact hP
  have hDx : va_D (fun q : Nat => s.heap.size ≤ q) (wSB cI cJ A X ++ (wMd cI cJ B M ++ ([] : va_W))) := by rw [List.append_nil]; exact hD
  refine kg_retWi (w1 := wMd cI cJ B M2) (wz := (wSB cI cJ A X ++ wMd cI cJ B M2)) (r := r) (by rw [List.append_nil]) hPx hDx hS hA (va_runV (As := [.int (xs (x3 + 1).toNatClampNeg), .int (xs (x3 + 2).toNatClampNeg)]) (rest := [.int r]) ⟨hx, hb, hml, hown, hts⟩ (c_X6_node l dC dI cI cJ B H.size M (xs (x3 + 1).toNatClampNeg) (xs (x3 + 2).toNatClampNeg) _ h2) (cwV 2 hts (gw_inL (al_V wd_22_19 wd_22_16 wd_22_17 wd_22_18 wd_1_5)) rfl rfl rfl qX6_node ⟨Nat.le_of_ble_eq_true rfl, Nat.le_of_ble_eq_true rfl⟩) (kg_preVW (ci := 6) (q := (RX6, TX6, 30)) (q0 := 0) (kg_cutP hPx) (kg_cutD hDx) hK hN rfl rfl) rfl rfl hl.1 rfl (lv_room (Nat.le_of_ble_eq_true rfl)) dL_law_370 ⟨hkc, hkn⟩) (fun H locs hP hD hS => ?_)
  refine lv_icmp_eq (tgt := 1091) hx hb dL_law_373 (by decide) (fun _ => ?_) (fun hc => absurd rfl hc)
  exact hnext X M2 hI2 H locs hP hD hS ls hl
set_option maxHeartbeats 4000000 in
set_option maxRecDepth 100000 in
theorem lc_block {p : Program} {l : Launch} {e : Env} {s : State} {m : MethodId} {below : List Frame} {meth : Method} {c : Code} {b L : Nat} {xs : Nat → Int32} {kc kn : Nat} {Inv : SBS → MdS → Prop} (dC : Nat → ClassId) (dI : Nat → Nat → Nat) (cI cJ : ClassId) (A B : Nat → Nat) (hL : L ≤ 2048) (C0 : lw_At p s m meth c b L xs) (hPC : PC_all Inv) (X : SBS) (M : MdS) (hI : Inv X M) (H : Heap) (locs : List Loc) (hK : va_K (dC, dI) vwCl (vTy cI cJ) s) (hN : nwAll s) (hP : va_P (dC, dI) vwCl (wSB cI cJ A X ++ wMd cI cJ B M) H) (hD : va_D (fun q : Nat => s.heap.size ≤ q) (wSB cI cJ A X ++ wMd cI cJ B M)) (hS : va_S (fun q : Nat => s.heap.size ≤ q) s.heap H locs) (x3 : Int32) (hin1 : vp_in (x3 + 1) L) (hin2 : vp_in (x3 + 2) L) (hin3 : vp_in (x3 + 3) L) (hkc : kc ≤ 600000) (hkn : kn ≤ 7302250) (hnext : ∀ (X : SBS) (M : MdS), Inv X M → ∀ (H : Heap) (locs : List Loc), va_P (dC, dI) vwCl (wSB cI cJ A X ++ wMd cI cJ B M) H → va_D (fun q : Nat => s.heap.size ≤ q) (wSB cI cJ A X ++ wMd cI cJ B M) → va_S (fun q : Nat => s.heap.size ≤ q) s.heap H locs → ∀ ls : Array Slot, lv_has ls 4 [(0, .ref b), (1, .ref (A 0)), (2, .ref (B 0)), (3, .int x3)] → W p l e room_1 s m #[Value.ref b] below meth c H locs kc kn (lw_Z below #[Value.ref b] s) (F0 m 1091 ls [])) (ls : Array Slot) (hl : lv_has ls 4 [(0, .ref b), (1, .ref (A 0)), (2, .ref (B 0)), (3, .int x3)]) : W p l e room_1 s m #[Value.ref b] below meth c H locs kc kn (lw_Z below #[Value.ref b] s) (F0 m 378 ls []) := by
  obtain ⟨hx, hb, hr, hml, hown, hts0, hX, hbl, hlocks, hgv⟩ := C0
  have hts : ∀ w ∈ wsL_law, w.before #[Value.ref b] s = true := fun w h => hts0 w (wsL_law_in w h)
  have hA : ∀ q : Nat, s.heap.size ≤ q → (fun q : Nat => s.heap.size ≤ q) q := fun _ h => h
  have hbA : ¬ (fun q : Nat => s.heap.size ≤ q) b := Nat.not_le.mpr hbl
  obtain ⟨r, M2, h1, h2, hI2⟩ := hPC.2.2.2.2.2.2.2.2.2.1 X M hI (xs (x3 + 1).toNatClampNeg) (xs (x3 + 2).toNatClampNeg)
  refine lv_aload_n hx hb dL_law_378 rfl (lv_at hl 1 rfl) ?_
  refine lv_aload_n hx hb dL_law_379 rfl (lv_at hl 0 rfl) ?_
  refine lv_iload_n hx hb dL_law_380 rfl (lv_at hl 3 rfl) ?_
  refine lv_iconst (v := 1) hx hb dL_law_381 (by decide) ?_
  refine lv_iadd hx hb dL_law_382 ?_
  refine va_sld hx hb hX hbl hbA hS hin1 dL_law_383 ?_
  refine lv_aload_n hx hb dL_law_384 rfl (lv_at hl 0 rfl) ?_
  refine lv_iload_n hx hb dL_law_385 rfl (lv_at hl 3 rfl) ?_
  refine lv_iconst (v := 2) hx hb dL_law_386 (by decide) ?_
  refine lv_iadd hx hb dL_law_387 ?_
  refine va_sld hx hb hX hbl hbA hS hin2 dL_law_388 ?_
  have hPc : va_P (dC, dI) vwCl (wSB cI cJ A X) H := kg_cutP (pre := []) hP
  refine kg_retRi (va_runV (As := [.int (xs (x3 + 1).toNatClampNeg), .int (xs (x3 + 2).toNatClampNeg)]) (rest := []) ⟨hx, hb, hml, hown, hts⟩ (c_X5_block l dC dI cI cJ A H X (xs (x3 + 1).toNatClampNeg) (xs (x3 + 2).toNatClampNeg) _ h1) (cwV 2 hts (gw_inL (al_V wd_23_11 wd_23_8 wd_23_9 wd_23_10 wd_1_2)) rfl rfl rfl qX5_block ⟨Nat.le_of_ble_eq_true rfl, Nat.le_of_ble_eq_true rfl⟩) (kg_preVR (ci := 5) (q := (RX5, TX5, 6)) (q0 := 0) hPc hK hN rfl rfl) rfl rfl hl.1 rfl (lv_room (Nat.le_of_ble_eq_true rfl)) dL_law_389 ⟨hkc, hkn⟩) ?_
  refine lv_aload_n hx hb dL_law_392 rfl (lv_at hl 2 rfl) ?_
  refine lv_aload_n hx hb dL_law_393 rfl (lv_at hl 0 rfl) ?_
  refine lv_iload_n hx hb dL_law_394 rfl (lv_at hl 3 rfl) ?_
  refine lv_iconst (v := 1) hx hb dL_law_395 (by decide) ?_
  refine lv_iadd hx hb dL_law_396 ?_
  refine va_sld hx hb hX hbl hbA hS hin1 dL_law_397 ?_
  refine lv_aload_n hx hb dL_law_398 rfl (lv_at hl 0 rfl) ?_
  refine lv_iload_n hx hb dL_law_399 rfl (lv_at hl 3 rfl) ?_
  refine lv_iconst (v := 2) hx hb dL_law_400 (by decide) ?_
  refine lv_iadd hx hb dL_law_401 ?_
  refine va_sld hx hb hX hbl hbA hS hin2 dL_law_402 ?_
  have hPx : va_P (dC, dI) vwCl (wSB cI cJ A X ++ (wMd cI cJ B M ++ ([] : va_W))) H := by rw [List.append_nil]; exact hP
  have hDx : va_D (fun q : Nat => s.heap.size ≤ q) (wSB cI cJ A X ++ (wMd cI cJ B M ++ ([] : va_W))) := by rw [List.append_nil]; exact hD
  refine kg_retWi (w1 := wMd cI cJ B M2) (wz := (wSB cI cJ A X ++ wMd cI cJ B M2)) (r := r) (by rw [List.append_nil]) hPx hDx hS hA (va_runV (As := [.int (xs (x3 + 1).toNatClampNeg), .int (xs (x3 + 2).toNatClampNeg)]) (rest := [.int r]) ⟨hx, hb, hml, hown, hts⟩ (c_X6_block l dC dI cI cJ B H.size M (xs (x3 + 1).toNatClampNeg) (xs (x3 + 2).toNatClampNeg) _ h2) (cwV 2 hts (gw_inL (al_V wd_24_13 wd_24_10 wd_24_11 wd_24_12 wd_1_5)) rfl rfl rfl qX6_block ⟨Nat.le_of_ble_eq_true rfl, Nat.le_of_ble_eq_true rfl⟩) (kg_preVW (ci := 6) (q := (RX6, TX6, 30)) (q0 := 0) (kg_cutP hPx) (kg_cutD hDx) hK hN rfl rfl) rfl rfl hl.1 rfl (lv_room (Nat.le_of_ble_eq_true rfl)) dL_law_403 ⟨hkc, hkn⟩) (fun H locs hP hD hS => ?_)
  refine lv_icmp_eq (tgt := 1091) hx hb dL_law_406 (by decide) (fun _ => ?_) (fun hc => absurd rfl hc)
  exact hnext X M2 hI2 H locs hP hD hS ls hl
set_option maxHeartbeats 4000000 in
set_option maxRecDepth 100000 in
theorem lc_member {p : Program} {l : Launch} {e : Env} {s : State} {m : MethodId} {below : List Frame} {meth : Method} {c : Code} {b L : Nat} {xs : Nat → Int32} {kc kn : Nat} {Inv : SBS → MdS → Prop} (dC : Nat → ClassId) (dI : Nat → Nat → Nat) (cI cJ : ClassId) (A B : Nat → Nat) (hL : L ≤ 2048) (C0 : lw_At p s m meth c b L xs) (hPC : PC_all Inv) (X : SBS) (M : MdS) (hI : Inv X M) (H : Heap) (locs : List Loc) (hK : va_K (dC, dI) vwCl (vTy cI cJ) s) (hN : nwAll s) (hP : va_P (dC, dI) vwCl (wSB cI cJ A X ++ wMd cI cJ B M) H) (hD : va_D (fun q : Nat => s.heap.size ≤ q) (wSB cI cJ A X ++ wMd cI cJ B M)) (hS : va_S (fun q : Nat => s.heap.size ≤ q) s.heap H locs) (x3 : Int32) (hin1 : vp_in (x3 + 1) L) (hin2 : vp_in (x3 + 2) L) (hin3 : vp_in (x3 + 3) L) (hkc : kc ≤ 600000) (hkn : kn ≤ 7302250) (hnext : ∀ (X : SBS) (M : MdS), Inv X M → ∀ (H : Heap) (locs : List Loc), va_P (dC, dI) vwCl (wSB cI cJ A X ++ wMd cI cJ B M) H → va_D (fun q : Nat => s.heap.size ≤ q) (wSB cI cJ A X ++ wMd cI cJ B M) → va_S (fun q : Nat => s.heap.size ≤ q) s.heap H locs → ∀ ls : Array Slot, lv_has ls 4 [(0, .ref b), (1, .ref (A 0)), (2, .ref (B 0)), (3, .int x3)] → W p l e room_1 s m #[Value.ref b] below meth c H locs kc kn (lw_Z below #[Value.ref b] s) (F0 m 1091 ls [])) (ls : Array Slot) (hl : lv_has ls 4 [(0, .ref b), (1, .ref (A 0)), (2, .ref (B 0)), (3, .int x3)]) : W p l e room_1 s m #[Value.ref b] below meth c H locs kc kn (lw_Z below #[Value.ref b] s) (F0 m 411 ls []) := by
  obtain ⟨hx, hb, hr, hml, hown, hts0, hX, hbl, hlocks, hgv⟩ := C0
  have hts : ∀ w ∈ wsL_law, w.before #[Value.ref b] s = true := fun w h => hts0 w (wsL_law_in w h)
  have hA : ∀ q : Nat, s.heap.size ≤ q → (fun q : Nat => s.heap.size ≤ q) q := fun _ h => h
  have hbA : ¬ (fun q : Nat => s.heap.size ≤ q) b := Nat.not_le.mpr hbl
  obtain ⟨r, M2, h1, h2, hI2⟩ := hPC.2.2.2.2.2.2.2.2.2.2.1 X M hI (xs (x3 + 1).toNatClampNeg) (xs (x3 + 2).toNatClampNeg)
  refine lv_aload_n hx hb dL_law_411 rfl (lv_at hl 1 rfl) ?_
  refine lv_aload_n hx hb dL_law_412 rfl (lv_at hl 0 rfl) ?_
  refine lv_iload_n hx hb dL_law_413 rfl (lv_at hl 3 rfl) ?_
  refine lv_iconst (v := 1) hx hb dL_law_414 (by decide) ?_
  refine lv_iadd hx hb dL_law_415 ?_
  refine va_sld hx hb hX hbl hbA hS hin1 dL_law_416 ?_
  refine lv_aload_n hx hb dL_law_417 rfl (lv_at hl 0 rfl) ?_
  refine lv_iload_n hx hb dL_law_418 rfl (lv_at hl 3 rfl) ?_
  refine lv_iconst (v := 2) hx hb dL_law_419 (by decide) ?_
  refine lv_iadd hx hb dL_law_420 ?_
  refine va_sld hx hb hX hbl hbA hS hin2 dL_law_421 ?_
  have hPc : va_P (dC, dI) vwCl (wSB cI cJ A X) H := kg_cutP (pre := []) hP
  refine kg_retRi (va_runV (As := [.int (xs (x3 + 1).toNatClampNeg), .int (xs (x3 + 2).toNatClampNeg)]) (rest := []) ⟨hx, hb, hml, hown, hts⟩ (c_X5_member l dC dI cI cJ A H X (xs (x3 + 1).toNatClampNeg) (xs (x3 + 2).toNatClampNeg) _ h1) (cwV 2 hts (gw_inL (al_V wd_23_21 wd_26_2 wd_23_19 wd_23_20 wd_1_2)) rfl rfl rfl qX5_member ⟨Nat.le_of_ble_eq_true rfl, Nat.le_of_ble_eq_true rfl⟩) (kg_preVR (ci := 5) (q := (RX5, TX5, 6)) (q0 := 0) hPc hK hN rfl rfl) rfl rfl hl.1 rfl (lv_room (Nat.le_of_ble_eq_true rfl)) dL_law_422 ⟨hkc, hkn⟩) ?_
  refine lv_aload_n hx hb dL_law_425 rfl (lv_at hl 2 rfl) ?_
  refine lv_aload_n hx hb dL_law_426 rfl (lv_at hl 0 rfl) ?_
  refine lv_iload_n hx hb dL_law_427 rfl (lv_at hl 3 rfl) ?_
  refine lv_iconst (v := 1) hx hb dL_law_428 (by decide) ?_
  refine lv_iadd hx hb dL_law_429 ?_
  refine va_sld hx hb hX hbl hbA hS hin1 dL_law_430 ?_
  refine lv_aload_n hx hb dL_law_431 rfl (lv_at hl 0 rfl) ?_
  refine lv_iload_n hx hb dL_law_432 rfl (lv_at hl 3 rfl) ?_
  refine lv_iconst (v := 2) hx hb dL_law_433 (by decide) ?_
  refine lv_iadd hx hb dL_law_434 ?_
  refine va_sld hx hb hX hbl hbA hS hin2 dL_law_435 ?_
  have hPx : va_P (dC, dI) vwCl (wSB cI cJ A X ++ (wMd cI cJ B M ++ ([] : va_W))) H := by rw [List.append_nil]; exact hP
  have hDx : va_D (fun q : Nat => s.heap.size ≤ q) (wSB cI cJ A X ++ (wMd cI cJ B M ++ ([] : va_W))) := by rw [List.append_nil]; exact hD
  refine kg_retWi (w1 := wMd cI cJ B M2) (wz := (wSB cI cJ A X ++ wMd cI cJ B M2)) (r := r) (by rw [List.append_nil]) hPx hDx hS hA (va_runV (As := [.int (xs (x3 + 1).toNatClampNeg), .int (xs (x3 + 2).toNatClampNeg)]) (rest := [.int r]) ⟨hx, hb, hml, hown, hts⟩ (c_X6_member l dC dI cI cJ B H.size M (xs (x3 + 1).toNatClampNeg) (xs (x3 + 2).toNatClampNeg) _ h2) (cwV 2 hts (gw_inL (al_V wd_26_6 wd_26_3 wd_26_4 wd_26_5 wd_1_5)) rfl rfl rfl qX6_member ⟨Nat.le_of_ble_eq_true rfl, Nat.le_of_ble_eq_true rfl⟩) (kg_preVW (ci := 6) (q := (RX6, TX6, 30)) (q0 := 0) (kg_cutP hPx) (kg_cutD hDx) hK hN rfl rfl) rfl rfl hl.1 rfl (lv_room (Nat.le_of_ble_eq_true rfl)) dL_law_436 ⟨hkc, hkn⟩) (fun H locs hP hD hS => ?_)
  refine lv_icmp_eq (tgt := 1091) hx hb dL_law_439 (by decide) (fun _ => ?_) (fun hc => absurd rfl hc)
  exact hnext X M2 hI2 H locs hP hD hS ls hl
set_option maxHeartbeats 4000000 in
set_option maxRecDepth 100000 in
theorem lc_child {p : Program} {l : Launch} {e : Env} {s : State} {m : MethodId} {below : List Frame} {meth : Method} {c : Code} {b L : Nat} {xs : Nat → Int32} {kc kn : Nat} {Inv : SBS → MdS → Prop} (dC : Nat → ClassId) (dI : Nat → Nat → Nat) (cI cJ : ClassId) (A B : Nat → Nat) (hL : L ≤ 2048) (C0 : lw_At p s m meth c b L xs) (hPC : PC_all Inv) (X : SBS) (M : MdS) (hI : Inv X M) (H : Heap) (locs : List Loc) (hK : va_K (dC, dI) vwCl (vTy cI cJ) s) (hN : nwAll s) (hP : va_P (dC, dI) vwCl (wSB cI cJ A X ++ wMd cI cJ B M) H) (hD : va_D (fun q : Nat => s.heap.size ≤ q) (wSB cI cJ A X ++ wMd cI cJ B M)) (hS : va_S (fun q : Nat => s.heap.size ≤ q) s.heap H locs) (x3 : Int32) (hin1 : vp_in (x3 + 1) L) (hin2 : vp_in (x3 + 2) L) (hin3 : vp_in (x3 + 3) L) (hkc : kc ≤ 600000) (hkn : kn ≤ 7302250) (hnext : ∀ (X : SBS) (M : MdS), Inv X M → ∀ (H : Heap) (locs : List Loc), va_P (dC, dI) vwCl (wSB cI cJ A X ++ wMd cI cJ B M) H → va_D (fun q : Nat => s.heap.size ≤ q) (wSB cI cJ A X ++ wMd cI cJ B M) → va_S (fun q : Nat => s.heap.size ≤ q) s.heap H locs → ∀ ls : Array Slot, lv_has ls 4 [(0, .ref b), (1, .ref (A 0)), (2, .ref (B 0)), (3, .int x3)] → W p l e room_1 s m #[Value.ref b] below meth c H locs kc kn (lw_Z below #[Value.ref b] s) (F0 m 1091 ls [])) (ls : Array Slot) (hl : lv_has ls 4 [(0, .ref b), (1, .ref (A 0)), (2, .ref (B 0)), (3, .int x3)]) : W p l e room_1 s m #[Value.ref b] below meth c H locs kc kn (lw_Z below #[Value.ref b] s) (F0 m 444 ls []) := by
  obtain ⟨hx, hb, hr, hml, hown, hts0, hX, hbl, hlocks, hgv⟩ := C0
  have hts : ∀ w ∈ wsL_law, w.before #[Value.ref b] s = true := fun w h => hts0 w (wsL_law_in w h)
  have hA : ∀ q : Nat, s.heap.size ≤ q → (fun q : Nat => s.heap.size ≤ q) q := fun _ h => h
  have hbA : ¬ (fun q : Nat => s.heap.size ≤ q) b := Nat.not_le.mpr hbl
  obtain ⟨r, M2, h1, h2, hI2⟩ := hPC.2.2.2.2.2.2.2.2.2.2.2.1 X M hI (xs (x3 + 1).toNatClampNeg) (xs (x3 + 2).toNatClampNeg)
  refine lv_aload_n hx hb dL_law_444 rfl (lv_at hl 1 rfl) ?_
  refine lv_aload_n hx hb dL_law_445 rfl (lv_at hl 0 rfl) ?_
  refine lv_iload_n hx hb dL_law_446 rfl (lv_at hl 3 rfl) ?_
  refine lv_iconst (v := 1) hx hb dL_law_447 (by decide) ?_
  refine lv_iadd hx hb dL_law_448 ?_
  refine va_sld hx hb hX hbl hbA hS hin1 dL_law_449 ?_
  refine lv_aload_n hx hb dL_law_450 rfl (lv_at hl 0 rfl) ?_
  refine lv_iload_n hx hb dL_law_451 rfl (lv_at hl 3 rfl) ?_
  refine lv_iconst (v := 2) hx hb dL_law_452 (by decide) ?_
  refine lv_iadd hx hb dL_law_453 ?_
  refine va_sld hx hb hX hbl hbA hS hin2 dL_law_454 ?_
  have hPc : va_P (dC, dI) vwCl (wSB cI cJ A X) H := kg_cutP (pre := []) hP
  refine kg_retRi (va_runV (As := [.int (xs (x3 + 1).toNatClampNeg), .int (xs (x3 + 2).toNatClampNeg)]) (rest := []) ⟨hx, hb, hml, hown, hts⟩ (c_X5_child l dC dI cI cJ A H X (xs (x3 + 1).toNatClampNeg) (xs (x3 + 2).toNatClampNeg) _ h1) (cwV 2 hts (gw_inL (al_V wd_26_10 wd_26_7 wd_26_8 wd_26_9 wd_1_2)) rfl rfl rfl qX5_child ⟨Nat.le_of_ble_eq_true rfl, Nat.le_of_ble_eq_true rfl⟩) (kg_preVR (ci := 5) (q := (RX5, TX5, 6)) (q0 := 0) hPc hK hN rfl rfl) rfl rfl hl.1 rfl (lv_room (Nat.le_of_ble_eq_true rfl)) dL_law_455 ⟨hkc, hkn⟩) ?_
  refine lv_aload_n hx hb dL_law_458 rfl (lv_at hl 2 rfl) ?_
  refine lv_aload_n hx hb dL_law_459 rfl (lv_at hl 0 rfl) ?_
  refine lv_iload_n hx hb dL_law_460 rfl (lv_at hl 3 rfl) ?_
  refine lv_iconst (v := 1) hx hb dL_law_461 (by decide) ?_
  refine lv_iadd hx hb dL_law_462 ?_
  refine va_sld hx hb hX hbl hbA hS hin1 dL_law_463 ?_
  refine lv_aload_n hx hb dL_law_464 rfl (lv_at hl 0 rfl) ?_
  refine lv_iload_n hx hb dL_law_465 rfl (lv_at hl 3 rfl) ?_
  refine lv_iconst (v := 2) hx hb dL_law_466 (by decide) ?_
  refine lv_iadd hx hb dL_law_467 ?_
  refine va_sld hx hb hX hbl hbA hS hin2 dL_law_468 ?_
  have hPx : va_P (dC, dI) vwCl (wSB cI cJ A X ++ (wMd cI cJ B M ++ ([] : va_W))) H := by rw [List.append_nil]; exact hP
  have hDx : va_D (fun q : Nat => s.heap.size ≤ q) (wSB cI cJ A X ++ (wMd cI cJ B M ++ ([] : va_W))) := by rw [List.append_nil]; exact hD
  refine kg_retWi (w1 := wMd cI cJ B M2) (wz := (wSB cI cJ A X ++ wMd cI cJ B M2)) (r := r) (by rw [List.append_nil]) hPx hDx hS hA (va_runV (As := [.int (xs (x3 + 1).toNatClampNeg), .int (xs (x3 + 2).toNatClampNeg)]) (rest := [.int r]) ⟨hx, hb, hml, hown, hts⟩ (c_X6_child l dC dI cI cJ B H.size M (xs (x3 + 1).toNatClampNeg) (xs (x3 + 2).toNatClampNeg) _ h2) (cwV 2 hts (gw_inL (al_V wd_26_14 wd_26_11 wd_26_12 wd_26_13 wd_1_5)) rfl rfl rfl qX6_child ⟨Nat.le_of_ble_eq_true rfl, Nat.le_of_ble_eq_true rfl⟩) (kg_preVW (ci := 6) (q := (RX6, TX6, 30)) (q0 := 0) (kg_cutP hPx) (kg_cutD hDx) hK hN rfl rfl) rfl rfl hl.1 rfl (lv_room (Nat.le_of_ble_eq_true rfl)) dL_law_469 ⟨hkc, hkn⟩) (fun H locs hP hD hS => ?_)
  refine lv_icmp_eq (tgt := 1091) hx hb dL_law_472 (by decide) (fun _ => ?_) (fun hc => absurd rfl hc)
  exact hnext X M2 hI2 H locs hP hD hS ls hl
set_option maxHeartbeats 4000000 in
set_option maxRecDepth 100000 in
theorem lc_land {p : Program} {l : Launch} {e : Env} {s : State} {m : MethodId} {below : List Frame} {meth : Method} {c : Code} {b L : Nat} {xs : Nat → Int32} {kc kn : Nat} {Inv : SBS → MdS → Prop} (dC : Nat → ClassId) (dI : Nat → Nat → Nat) (cI cJ : ClassId) (A B : Nat → Nat) (hL : L ≤ 2048) (C0 : lw_At p s m meth c b L xs) (hPC : PC_all Inv) (X : SBS) (M : MdS) (hI : Inv X M) (H : Heap) (locs : List Loc) (hK : va_K (dC, dI) vwCl (vTy cI cJ) s) (hN : nwAll s) (hP : va_P (dC, dI) vwCl (wSB cI cJ A X ++ wMd cI cJ B M) H) (hD : va_D (fun q : Nat => s.heap.size ≤ q) (wSB cI cJ A X ++ wMd cI cJ B M)) (hS : va_S (fun q : Nat => s.heap.size ≤ q) s.heap H locs) (x3 : Int32) (hin1 : vp_in (x3 + 1) L) (hin2 : vp_in (x3 + 2) L) (hin3 : vp_in (x3 + 3) L) (hkc : kc ≤ 600000) (hkn : kn ≤ 7302250) (hnext : ∀ (X : SBS) (M : MdS), Inv X M → ∀ (H : Heap) (locs : List Loc), va_P (dC, dI) vwCl (wSB cI cJ A X ++ wMd cI cJ B M) H → va_D (fun q : Nat => s.heap.size ≤ q) (wSB cI cJ A X ++ wMd cI cJ B M) → va_S (fun q : Nat => s.heap.size ≤ q) s.heap H locs → ∀ ls : Array Slot, lv_has ls 4 [(0, .ref b), (1, .ref (A 0)), (2, .ref (B 0)), (3, .int x3)] → W p l e room_1 s m #[Value.ref b] below meth c H locs kc kn (lw_Z below #[Value.ref b] s) (F0 m 1091 ls [])) (ls : Array Slot) (hl : lv_has ls 4 [(0, .ref b), (1, .ref (A 0)), (2, .ref (B 0)), (3, .int x3)]) : W p l e room_1 s m #[Value.ref b] below meth c H locs kc kn (lw_Z below #[Value.ref b] s) (F0 m 477 ls []) := by
  obtain ⟨hx, hb, hr, hml, hown, hts0, hX, hbl, hlocks, hgv⟩ := C0
  have hts : ∀ w ∈ wsL_law, w.before #[Value.ref b] s = true := fun w h => hts0 w (wsL_law_in w h)
  have hA : ∀ q : Nat, s.heap.size ≤ q → (fun q : Nat => s.heap.size ≤ q) q := fun _ h => h
  have hbA : ¬ (fun q : Nat => s.heap.size ≤ q) b := Nat.not_le.mpr hbl
  obtain ⟨r, X2, M2, h1, h2, hI2⟩ := hPC.2.2.2.2.2.2.2.2.2.2.2.2.1 X M hI (xs (x3 + 1).toNatClampNeg) (xs (x3 + 2).toNatClampNeg)
  refine lv_aload_n hx hb dL_law_477 rfl (lv_at hl 1 rfl) ?_
  refine lv_aload_n hx hb dL_law_478 rfl (lv_at hl 0 rfl) ?_
  refine lv_iload_n hx hb dL_law_479 rfl (lv_at hl 3 rfl) ?_
  refine lv_iconst (v := 1) hx hb dL_law_480 (by decide) ?_
  refine lv_iadd hx hb dL_law_481 ?_
  refine va_sld hx hb hX hbl hbA hS hin1 dL_law_482 ?_
  refine lv_aload_n hx hb dL_law_483 rfl (lv_at hl 0 rfl) ?_
  refine lv_iload_n hx hb dL_law_484 rfl (lv_at hl 3 rfl) ?_
  refine lv_iconst (v := 2) hx hb dL_law_485 (by decide) ?_
  refine lv_iadd hx hb dL_law_486 ?_
  refine va_sld hx hb hX hbl hbA hS hin2 dL_law_487 ?_
  have hPx : va_P (dC, dI) vwCl (([] : va_W) ++ (wSB cI cJ A X ++ wMd cI cJ B M)) H := hP
  have hDx : va_D _ (([] : va_W) ++ (wSB cI cJ A X ++ wMd cI cJ B M)) := hD
  refine kg_retWi (w1 := wSB cI cJ A X2) (wz := (wSB cI cJ A X2 ++ wMd cI cJ B M)) (r := r) rfl hPx hDx hS hA (va_runV (As := [.int (xs (x3 + 1).toNatClampNeg), .int (xs (x3 + 2).toNatClampNeg)]) (rest := []) ⟨hx, hb, hml, hown, hts⟩ (c_X5_land l dC dI cI cJ A H.size X (xs (x3 + 1).toNatClampNeg) (xs (x3 + 2).toNatClampNeg) _ h1) (cwV 2 hts (gw_inL (al_V wd_26_22 wd_26_19 wd_26_20 wd_26_21 wd_1_2)) rfl rfl rfl qX5_land ⟨Nat.le_of_ble_eq_true rfl, Nat.le_of_ble_eq_true rfl⟩) (kg_preVW (ci := 5) (q := (RX5, TX5, 6)) (q0 := 0) (kg_cutP hPx) (kg_cutD hDx) hK hN rfl rfl) rfl rfl hl.1 rfl (lv_room (Nat.le_of_ble_eq_true rfl)) dL_law_488 ⟨hkc, hkn⟩) (fun H locs hP hD hS => ?_)
  refine lv_aload_n hx hb dL_law_491 rfl (lv_at hl 2 rfl) ?_
  refine lv_aload_n hx hb dL_law_492 rfl (lv_at hl 0 rfl) ?_
  refine lv_iload_n hx hb dL_law_493 rfl (lv_at hl 3 rfl) ?_
  refine lv_iconst (v := 1) hx hb dL_law_494 (by decide) ?_
  refine lv_iadd hx hb dL_law_495 ?_
  refine va_sld hx hb hX hbl hbA hS hin1 dL_law_496 ?_
  refine lv_aload_n hx hb dL_law_497 rfl (lv_at hl 0 rfl) ?_
  refine lv_iload_n hx hb dL_law_498 rfl (lv_at hl 3 rfl) ?_
  refine lv_iconst (v := 2) hx hb dL_law_499 (by decide) ?_
  refine lv_iadd hx hb dL_law_500 ?_
  refine va_sld hx hb hX hbl hbA hS hin2 dL_law_501 ?_
  have hPx : va_P (dC, dI) vwCl (wSB cI cJ A X2 ++ (wMd cI cJ B M ++ ([] : va_W))) H := by rw [List.append_nil]; exact hP
  have hDx : va_D (fun q : Nat => s.heap.size ≤ q) (wSB cI cJ A X2 ++ (wMd cI cJ B M ++ ([] : va_W))) := by rw [List.append_nil]; exact hD
  refine kg_retWi (w1 := wMd cI cJ B M2) (wz := (wSB cI cJ A X2 ++ wMd cI cJ B M2)) (r := r) (by rw [List.append_nil]) hPx hDx hS hA (va_runV (As := [.int (xs (x3 + 1).toNatClampNeg), .int (xs (x3 + 2).toNatClampNeg)]) (rest := [.int r]) ⟨hx, hb, hml, hown, hts⟩ (c_X6_land l dC dI cI cJ B H.size M (xs (x3 + 1).toNatClampNeg) (xs (x3 + 2).toNatClampNeg) _ h2) (cwV 2 hts (gw_inL (al_V wd_29_11 wd_29_8 wd_29_9 wd_29_10 wd_1_5)) rfl rfl rfl qX6_land ⟨Nat.le_of_ble_eq_true rfl, Nat.le_of_ble_eq_true rfl⟩) (kg_preVW (ci := 6) (q := (RX6, TX6, 30)) (q0 := 0) (kg_cutP hPx) (kg_cutD hDx) hK hN rfl rfl) rfl rfl hl.1 rfl (lv_room (Nat.le_of_ble_eq_true rfl)) dL_law_502 ⟨hkc, hkn⟩) (fun H locs hP hD hS => ?_)
  refine lv_icmp_eq (tgt := 1091) hx hb dL_law_505 (by decide) (fun _ => ?_) (fun hc => absurd rfl hc)
  exact hnext X2 M2 hI2 H locs hP hD hS ls hl
set_option maxHeartbeats 4000000 in
set_option maxRecDepth 100000 in
theorem lc_story {p : Program} {l : Launch} {e : Env} {s : State} {m : MethodId} {below : List Frame} {meth : Method} {c : Code} {b L : Nat} {xs : Nat → Int32} {kc kn : Nat} {Inv : SBS → MdS → Prop} (dC : Nat → ClassId) (dI : Nat → Nat → Nat) (cI cJ : ClassId) (A B : Nat → Nat) (hL : L ≤ 2048) (C0 : lw_At p s m meth c b L xs) (hPC : PC_all Inv) (X : SBS) (M : MdS) (hI : Inv X M) (H : Heap) (locs : List Loc) (hK : va_K (dC, dI) vwCl (vTy cI cJ) s) (hN : nwAll s) (hP : va_P (dC, dI) vwCl (wSB cI cJ A X ++ wMd cI cJ B M) H) (hD : va_D (fun q : Nat => s.heap.size ≤ q) (wSB cI cJ A X ++ wMd cI cJ B M)) (hS : va_S (fun q : Nat => s.heap.size ≤ q) s.heap H locs) (x3 : Int32) (hin1 : vp_in (x3 + 1) L) (hin2 : vp_in (x3 + 2) L) (hin3 : vp_in (x3 + 3) L) (hkc : kc ≤ 600000) (hkn : kn ≤ 7302250) (hnext : ∀ (X : SBS) (M : MdS), Inv X M → ∀ (H : Heap) (locs : List Loc), va_P (dC, dI) vwCl (wSB cI cJ A X ++ wMd cI cJ B M) H → va_D (fun q : Nat => s.heap.size ≤ q) (wSB cI cJ A X ++ wMd cI cJ B M) → va_S (fun q : Nat => s.heap.size ≤ q) s.heap H locs → ∀ ls : Array Slot, lv_has ls 4 [(0, .ref b), (1, .ref (A 0)), (2, .ref (B 0)), (3, .int x3)] → W p l e room_1 s m #[Value.ref b] below meth c H locs kc kn (lw_Z below #[Value.ref b] s) (F0 m 1091 ls [])) (ls : Array Slot) (hl : lv_has ls 4 [(0, .ref b), (1, .ref (A 0)), (2, .ref (B 0)), (3, .int x3)]) : W p l e room_1 s m #[Value.ref b] below meth c H locs kc kn (lw_Z below #[Value.ref b] s) (F0 m 510 ls []) := by
  obtain ⟨hx, hb, hr, hml, hown, hts0, hX, hbl, hlocks, hgv⟩ := C0
  have hts : ∀ w ∈ wsL_law, w.before #[Value.ref b] s = true := fun w h => hts0 w (wsL_law_in w h)
  have hA : ∀ q : Nat, s.heap.size ≤ q → (fun q : Nat => s.heap.size ≤ q) q := fun _ h => h
  have hbA : ¬ (fun q : Nat => s.heap.size ≤ q) b := Nat.not_le.mpr hbl
  obtain ⟨r, M2, h1, h2, hI2⟩ := hPC.2.2.2.2.2.2.2.2.2.2.2.2.2.1 X M hI (xs (x3 + 1).toNatClampNeg) (xs (x3 + 2).toNatClampNeg) (xs (x3 + 3).toNatClampNeg)
  refine lv_aload_n hx hb dL_law_510 rfl (lv_at hl 1 rfl) ?_
  refine lv_aload_n hx hb dL_law_511 rfl (lv_at hl 0 rfl) ?_
  refine lv_iload_n hx hb dL_law_512 rfl (lv_at hl 3 rfl) ?_
  refine lv_iconst (v := 1) hx hb dL_law_513 (by decide) ?_
  refine lv_iadd hx hb dL_law_514 ?_
  refine va_sld hx hb hX hbl hbA hS hin1 dL_law_515 ?_
  refine lv_aload_n hx hb dL_law_516 rfl (lv_at hl 0 rfl) ?_
  refine lv_iload_n hx hb dL_law_517 rfl (lv_at hl 3 rfl) ?_
  refine lv_iconst (v := 2) hx hb dL_law_518 (by decide) ?_
  refine lv_iadd hx hb dL_law_519 ?_
  refine va_sld hx hb hX hbl hbA hS hin2 dL_law_520 ?_
  refine lv_aload_n hx hb dL_law_521 rfl (lv_at hl 0 rfl) ?_
  refine lv_iload_n hx hb dL_law_522 rfl (lv_at hl 3 rfl) ?_
  refine lv_iconst (v := 3) hx hb dL_law_523 (by decide) ?_
  refine lv_iadd hx hb dL_law_524 ?_
  refine va_sld hx hb hX hbl hbA hS hin3 dL_law_525 ?_
  have hPc : va_P (dC, dI) vwCl (wSB cI cJ A X) H := kg_cutP (pre := []) hP
  refine kg_retRi (va_runV (As := [.int (xs (x3 + 1).toNatClampNeg), .int (xs (x3 + 2).toNatClampNeg), .int (xs (x3 + 3).toNatClampNeg)]) (rest := []) ⟨hx, hb, hml, hown, hts⟩ (c_X5_story l dC dI cI cJ A H X (xs (x3 + 1).toNatClampNeg) (xs (x3 + 2).toNatClampNeg) (xs (x3 + 3).toNatClampNeg) _ h1) (cwV 3 hts (gw_inL (al_V wd_31_7 wd_31_4 wd_31_5 wd_31_6 wd_1_2)) rfl rfl rfl qX5_story ⟨Nat.le_of_ble_eq_true rfl, Nat.le_of_ble_eq_true rfl⟩) (kg_preVR (ci := 5) (q := (RX5, TX5, 6)) (q0 := 0) hPc hK hN rfl rfl) rfl rfl hl.1 rfl (lv_room (Nat.le_of_ble_eq_true rfl)) dL_law_526 ⟨hkc, hkn⟩) ?_
  refine lv_aload_n hx hb dL_law_529 rfl (lv_at hl 2 rfl) ?_
  refine lv_aload_n hx hb dL_law_530 rfl (lv_at hl 0 rfl) ?_
  refine lv_iload_n hx hb dL_law_531 rfl (lv_at hl 3 rfl) ?_
  refine lv_iconst (v := 1) hx hb dL_law_532 (by decide) ?_
  refine lv_iadd hx hb dL_law_533 ?_
  refine va_sld hx hb hX hbl hbA hS hin1 dL_law_534 ?_
  refine lv_aload_n hx hb dL_law_535 rfl (lv_at hl 0 rfl) ?_
  refine lv_iload_n hx hb dL_law_536 rfl (lv_at hl 3 rfl) ?_
  refine lv_iconst (v := 2) hx hb dL_law_537 (by decide) ?_
  refine lv_iadd hx hb dL_law_538 ?_
  refine va_sld hx hb hX hbl hbA hS hin2 dL_law_539 ?_
  refine lv_aload_n hx hb dL_law_540 rfl (lv_at hl 0 rfl) ?_
  refine lv_iload_n hx hb dL_law_541 rfl (lv_at hl 3 rfl) ?_
  refine lv_iconst (v := 3) hx hb dL_law_542 (by decide) ?_
  refine lv_iadd hx hb dL_law_543 ?_
  refine va_sld hx hb hX hbl hbA hS hin3 dL_law_544 ?_
  have hPx : va_P (dC, dI) vwCl (wSB cI cJ A X ++ (wMd cI cJ B M ++ ([] : va_W))) H := by rw [List.append_nil]; exact hP
  have hDx : va_D (fun q : Nat => s.heap.size ≤ q) (wSB cI cJ A X ++ (wMd cI cJ B M ++ ([] : va_W))) := by rw [List.append_nil]; exact hD
  refine kg_retWi (w1 := wMd cI cJ B M2) (wz := (wSB cI cJ A X ++ wMd cI cJ B M2)) (r := r) (by rw [List.append_nil]) hPx hDx hS hA (va_runV (As := [.int (xs (x3 + 1).toNatClampNeg), .int (xs (x3 + 2).toNatClampNeg), .int (xs (x3 + 3).toNatClampNeg)]) (rest := [.int r]) ⟨hx, hb, hml, hown, hts⟩ (c_X6_story l dC dI cI cJ B H.size M (xs (x3 + 1).toNatClampNeg) (xs (x3 + 2).toNatClampNeg) (xs (x3 + 3).toNatClampNeg) _ h2) (cwV 3 hts (gw_inL (al_V wd_31_22 wd_31_19 wd_31_20 wd_31_21 wd_1_5)) rfl rfl rfl qX6_story ⟨Nat.le_of_ble_eq_true rfl, Nat.le_of_ble_eq_true rfl⟩) (kg_preVW (ci := 6) (q := (RX6, TX6, 30)) (q0 := 0) (kg_cutP hPx) (kg_cutD hDx) hK hN rfl rfl) rfl rfl hl.1 rfl (lv_room (Nat.le_of_ble_eq_true rfl)) dL_law_545 ⟨hkc, hkn⟩) (fun H locs hP hD hS => ?_)
  refine lv_icmp_eq (tgt := 1091) hx hb dL_law_548 (by decide) (fun _ => ?_) (fun hc => absurd rfl hc)
  exact hnext X M2 hI2 H locs hP hD hS ls hl
set_option maxHeartbeats 4000000 in
set_option maxRecDepth 100000 in
theorem lc_latest {p : Program} {l : Launch} {e : Env} {s : State} {m : MethodId} {below : List Frame} {meth : Method} {c : Code} {b L : Nat} {xs : Nat → Int32} {kc kn : Nat} {Inv : SBS → MdS → Prop} (dC : Nat → ClassId) (dI : Nat → Nat → Nat) (cI cJ : ClassId) (A B : Nat → Nat) (hL : L ≤ 2048) (C0 : lw_At p s m meth c b L xs) (hPC : PC_all Inv) (X : SBS) (M : MdS) (hI : Inv X M) (H : Heap) (locs : List Loc) (hK : va_K (dC, dI) vwCl (vTy cI cJ) s) (hN : nwAll s) (hP : va_P (dC, dI) vwCl (wSB cI cJ A X ++ wMd cI cJ B M) H) (hD : va_D (fun q : Nat => s.heap.size ≤ q) (wSB cI cJ A X ++ wMd cI cJ B M)) (hS : va_S (fun q : Nat => s.heap.size ≤ q) s.heap H locs) (x3 : Int32) (hin1 : vp_in (x3 + 1) L) (hin2 : vp_in (x3 + 2) L) (hin3 : vp_in (x3 + 3) L) (hkc : kc ≤ 600000) (hkn : kn ≤ 7302250) (hnext : ∀ (X : SBS) (M : MdS), Inv X M → ∀ (H : Heap) (locs : List Loc), va_P (dC, dI) vwCl (wSB cI cJ A X ++ wMd cI cJ B M) H → va_D (fun q : Nat => s.heap.size ≤ q) (wSB cI cJ A X ++ wMd cI cJ B M) → va_S (fun q : Nat => s.heap.size ≤ q) s.heap H locs → ∀ ls : Array Slot, lv_has ls 4 [(0, .ref b), (1, .ref (A 0)), (2, .ref (B 0)), (3, .int x3)] → W p l e room_1 s m #[Value.ref b] below meth c H locs kc kn (lw_Z below #[Value.ref b] s) (F0 m 1091 ls [])) (ls : Array Slot) (hl : lv_has ls 4 [(0, .ref b), (1, .ref (A 0)), (2, .ref (B 0)), (3, .int x3)]) : W p l e room_1 s m #[Value.ref b] below meth c H locs kc kn (lw_Z below #[Value.ref b] s) (F0 m 553 ls []) := by
  obtain ⟨hx, hb, hr, hml, hown, hts0, hX, hbl, hlocks, hgv⟩ := C0
  have hts : ∀ w ∈ wsL_law, w.before #[Value.ref b] s = true := fun w h => hts0 w (wsL_law_in w h)
  have hA : ∀ q : Nat, s.heap.size ≤ q → (fun q : Nat => s.heap.size ≤ q) q := fun _ h => h
  have hbA : ¬ (fun q : Nat => s.heap.size ≤ q) b := Nat.not_le.mpr hbl
  obtain ⟨r, M2, h1, h2, hI2⟩ := hPC.2.2.2.2.2.2.2.2.2.2.2.2.2.2.1 X M hI (xs (x3 + 1).toNatClampNeg)
  refine lv_aload_n hx hb dL_law_553 rfl (lv_at hl 1 rfl) ?_
  refine lv_aload_n hx hb dL_law_554 rfl (lv_at hl 0 rfl) ?_
  refine lv_iload_n hx hb dL_law_555 rfl (lv_at hl 3 rfl) ?_
  refine lv_iconst (v := 1) hx hb dL_law_556 (by decide) ?_
  refine lv_iadd hx hb dL_law_557 ?_
  refine va_sld hx hb hX hbl hbA hS hin1 dL_law_558 ?_
  have hPc : va_P (dC, dI) vwCl (wSB cI cJ A X) H := kg_cutP (pre := []) hP
  refine kg_retRi (va_runV (As := [.int (xs (x3 + 1).toNatClampNeg)]) (rest := []) ⟨hx, hb, hml, hown, hts⟩ (c_X5_latest l dC dI cI cJ A H X (xs (x3 + 1).toNatClampNeg) _ h1) (cwV 1 hts (gw_inL (al_V wd_32_6 wd_32_3 wd_32_4 wd_32_5 wd_1_2)) rfl rfl rfl qX5_latest ⟨Nat.le_of_ble_eq_true rfl, Nat.le_of_ble_eq_true rfl⟩) (kg_preVR (ci := 5) (q := (RX5, TX5, 6)) (q0 := 0) hPc hK hN rfl rfl) rfl rfl hl.1 rfl (lv_room (Nat.le_of_ble_eq_true rfl)) dL_law_559 ⟨hkc, hkn⟩) ?_
  refine lv_aload_n hx hb dL_law_562 rfl (lv_at hl 2 rfl) ?_
  refine lv_aload_n hx hb dL_law_563 rfl (lv_at hl 0 rfl) ?_
  refine lv_iload_n hx hb dL_law_564 rfl (lv_at hl 3 rfl) ?_
  refine lv_iconst (v := 1) hx hb dL_law_565 (by decide) ?_
  refine lv_iadd hx hb dL_law_566 ?_
  refine va_sld hx hb hX hbl hbA hS hin1 dL_law_567 ?_
  have hPx : va_P (dC, dI) vwCl (wSB cI cJ A X ++ (wMd cI cJ B M ++ ([] : va_W))) H := by rw [List.append_nil]; exact hP
  have hDx : va_D (fun q : Nat => s.heap.size ≤ q) (wSB cI cJ A X ++ (wMd cI cJ B M ++ ([] : va_W))) := by rw [List.append_nil]; exact hD
  refine kg_retWi (w1 := wMd cI cJ B M2) (wz := (wSB cI cJ A X ++ wMd cI cJ B M2)) (r := r) (by rw [List.append_nil]) hPx hDx hS hA (va_runV (As := [.int (xs (x3 + 1).toNatClampNeg)]) (rest := [.int r]) ⟨hx, hb, hml, hown, hts⟩ (c_X6_latest l dC dI cI cJ B H.size M (xs (x3 + 1).toNatClampNeg) _ h2) (cwV 1 hts (gw_inL (al_V wd_32_14 wd_32_11 wd_32_12 wd_32_13 wd_1_5)) rfl rfl rfl qX6_latest ⟨Nat.le_of_ble_eq_true rfl, Nat.le_of_ble_eq_true rfl⟩) (kg_preVW (ci := 6) (q := (RX6, TX6, 30)) (q0 := 0) (kg_cutP hPx) (kg_cutD hDx) hK hN rfl rfl) rfl rfl hl.1 rfl (lv_room (Nat.le_of_ble_eq_true rfl)) dL_law_568 ⟨hkc, hkn⟩) (fun H locs hP hD hS => ?_)
  refine lv_icmp_eq (tgt := 1091) hx hb dL_law_571 (by decide) (fun _ => ?_) (fun hc => absurd rfl hc)
  exact hnext X M2 hI2 H locs hP hD hS ls hl
set_option maxHeartbeats 4000000 in
set_option maxRecDepth 100000 in
theorem lc_doubleSafe {p : Program} {l : Launch} {e : Env} {s : State} {m : MethodId} {below : List Frame} {meth : Method} {c : Code} {b L : Nat} {xs : Nat → Int32} {kc kn : Nat} {Inv : SBS → MdS → Prop} (dC : Nat → ClassId) (dI : Nat → Nat → Nat) (cI cJ : ClassId) (A B : Nat → Nat) (hL : L ≤ 2048) (C0 : lw_At p s m meth c b L xs) (hPC : PC_all Inv) (X : SBS) (M : MdS) (hI : Inv X M) (H : Heap) (locs : List Loc) (hK : va_K (dC, dI) vwCl (vTy cI cJ) s) (hN : nwAll s) (hP : va_P (dC, dI) vwCl (wSB cI cJ A X ++ wMd cI cJ B M) H) (hD : va_D (fun q : Nat => s.heap.size ≤ q) (wSB cI cJ A X ++ wMd cI cJ B M)) (hS : va_S (fun q : Nat => s.heap.size ≤ q) s.heap H locs) (x3 : Int32) (hin1 : vp_in (x3 + 1) L) (hin2 : vp_in (x3 + 2) L) (hin3 : vp_in (x3 + 3) L) (hkc : kc ≤ 600000) (hkn : kn ≤ 7302250) (hnext : ∀ (X : SBS) (M : MdS), Inv X M → ∀ (H : Heap) (locs : List Loc), va_P (dC, dI) vwCl (wSB cI cJ A X ++ wMd cI cJ B M) H → va_D (fun q : Nat => s.heap.size ≤ q) (wSB cI cJ A X ++ wMd cI cJ B M) → va_S (fun q : Nat => s.heap.size ≤ q) s.heap H locs → ∀ ls : Array Slot, lv_has ls 4 [(0, .ref b), (1, .ref (A 0)), (2, .ref (B 0)), (3, .int x3)] → W p l e room_1 s m #[Value.ref b] below meth c H locs kc kn (lw_Z below #[Value.ref b] s) (F0 m 1091 ls [])) (ls : Array Slot) (hl : lv_has ls 4 [(0, .ref b), (1, .ref (A 0)), (2, .ref (B 0)), (3, .int x3)]) : W p l e room_1 s m #[Value.ref b] below meth c H locs kc kn (lw_Z below #[Value.ref b] s) (F0 m 576 ls []) := by
  obtain ⟨hx, hb, hr, hml, hown, hts0, hX, hbl, hlocks, hgv⟩ := C0
  have hts : ∀ w ∈ wsL_law, w.before #[Value.ref b] s = true := fun w h => hts0 w (wsL_law_in w h)
  have hA : ∀ q : Nat, s.heap.size ≤ q → (fun q : Nat => s.heap.size ≤ q) q := fun _ h => h
  have hbA : ¬ (fun q : Nat => s.heap.size ≤ q) b := Nat.not_le.mpr hbl
  obtain ⟨r, M2, h1, h2, hI2⟩ := hPC.2.2.2.2.2.2.2.2.2.2.2.2.2.2.2.1 X M hI (xs (x3 + 1).toNatClampNeg) (xs (x3 + 2).toNatClampNeg)
  refine lv_aload_n hx hb dL_law_576 rfl (lv_at hl 1 rfl) ?_
  refine lv_aload_n hx hb dL_law_577 rfl (lv_at hl 0 rfl) ?_
  refine lv_iload_n hx hb dL_law_578 rfl (lv_at hl 3 rfl) ?_
  refine lv_iconst (v := 1) hx hb dL_law_579 (by decide) ?_
  refine lv_iadd hx hb dL_law_580 ?_
  refine va_sld hx hb hX hbl hbA hS hin1 dL_law_581 ?_
  refine lv_aload_n hx hb dL_law_582 rfl (lv_at hl 0 rfl) ?_
  refine lv_iload_n hx hb dL_law_583 rfl (lv_at hl 3 rfl) ?_
  refine lv_iconst (v := 2) hx hb dL_law_584 (by decide) ?_
  refine lv_iadd hx hb dL_law_585 ?_
  refine va_sld hx hb hX hbl hbA hS hin2 dL_law_586 ?_
  have hPc : va_P (dC, dI) vwCl (wSB cI cJ A X) H := kg_cutP (pre := []) hP
  refine kg_retRi (va_runV (As := [.int (xs (x3 + 1).toNatClampNeg), .int (xs (x3 + 2).toNatClampNeg)]) (rest := []) ⟨hx, hb, hml, hown, hts⟩ (c_X5_doubleSafe l dC dI cI cJ A H X (xs (x3 + 1).toNatClampNeg) (xs (x3 + 2).toNatClampNeg) _ h1) (cwV 2 hts (gw_inL (al_V wd_32_18 wd_32_15 wd_32_16 wd_32_17 wd_1_2)) rfl rfl rfl qX5_doubleSafe ⟨Nat.le_of_ble_eq_true rfl, Nat.le_of_ble_eq_true rfl⟩) (kg_preVR (ci := 5) (q := (RX5, TX5, 6)) (q0 := 0) hPc hK hN rfl rfl) rfl rfl hl.1 rfl (lv_room (Nat.le_of_ble_eq_true rfl)) dL_law_587 ⟨hkc, hkn⟩) ?_
  refine lv_aload_n hx hb dL_law_590 rfl (lv_at hl 2 rfl) ?_
  refine lv_aload_n hx hb dL_law_591 rfl (lv_at hl 0 rfl) ?_
  refine lv_iload_n hx hb dL_law_592 rfl (lv_at hl 3 rfl) ?_
  refine lv_iconst (v := 1) hx hb dL_law_593 (by decide) ?_
  refine lv_iadd hx hb dL_law_594 ?_
  refine va_sld hx hb hX hbl hbA hS hin1 dL_law_595 ?_
  refine lv_aload_n hx hb dL_law_596 rfl (lv_at hl 0 rfl) ?_
  refine lv_iload_n hx hb dL_law_597 rfl (lv_at hl 3 rfl) ?_
  refine lv_iconst (v := 2) hx hb dL_law_598 (by decide) ?_
  refine lv_iadd hx hb dL_law_599 ?_
  refine va_sld hx hb hX hbl hbA hS hin2 dL_law_600 ?_
  have hPx : va_P (dC, dI) vwCl (wSB cI cJ A X ++ (wMd cI cJ B M ++ ([] : va_W))) H := by rw [List.append_nil]; exact hP
  have hDx : va_D (fun q : Nat => s.heap.size ≤ q) (wSB cI cJ A X ++ (wMd cI cJ B M ++ ([] : va_W))) := by rw [List.append_nil]; exact hD
  refine kg_retWi (w1 := wMd cI cJ B M2) (wz := (wSB cI cJ A X ++ wMd cI cJ B M2)) (r := r) (by rw [List.append_nil]) hPx hDx hS hA (va_runV (As := [.int (xs (x3 + 1).toNatClampNeg), .int (xs (x3 + 2).toNatClampNeg)]) (rest := [.int r]) ⟨hx, hb, hml, hown, hts⟩ (c_X6_doubleSafe l dC dI cI cJ B H.size M (xs (x3 + 1).toNatClampNeg) (xs (x3 + 2).toNatClampNeg) _ h2) (cwV 2 hts (gw_inL (al_V wd_33_2 wd_32_23 wd_33_0 wd_33_1 wd_1_5)) rfl rfl rfl qX6_doubleSafe ⟨Nat.le_of_ble_eq_true rfl, Nat.le_of_ble_eq_true rfl⟩) (kg_preVW (ci := 6) (q := (RX6, TX6, 30)) (q0 := 0) (kg_cutP hPx) (kg_cutD hDx) hK hN rfl rfl) rfl rfl hl.1 rfl (lv_room (Nat.le_of_ble_eq_true rfl)) dL_law_601 ⟨hkc, hkn⟩) (fun H locs hP hD hS => ?_)
  refine lv_icmp_eq (tgt := 1091) hx hb dL_law_604 (by decide) (fun _ => ?_) (fun hc => absurd rfl hc)
  exact hnext X M2 hI2 H locs hP hD hS ls hl
set_option maxHeartbeats 4000000 in
set_option maxRecDepth 100000 in
theorem lc_way {p : Program} {l : Launch} {e : Env} {s : State} {m : MethodId} {below : List Frame} {meth : Method} {c : Code} {b L : Nat} {xs : Nat → Int32} {kc kn : Nat} {Inv : SBS → MdS → Prop} (dC : Nat → ClassId) (dI : Nat → Nat → Nat) (cI cJ : ClassId) (A B : Nat → Nat) (hL : L ≤ 2048) (C0 : lw_At p s m meth c b L xs) (hPC : PC_all Inv) (X : SBS) (M : MdS) (hI : Inv X M) (H : Heap) (locs : List Loc) (hK : va_K (dC, dI) vwCl (vTy cI cJ) s) (hN : nwAll s) (hP : va_P (dC, dI) vwCl (wSB cI cJ A X ++ wMd cI cJ B M) H) (hD : va_D (fun q : Nat => s.heap.size ≤ q) (wSB cI cJ A X ++ wMd cI cJ B M)) (hS : va_S (fun q : Nat => s.heap.size ≤ q) s.heap H locs) (x3 : Int32) (hin1 : vp_in (x3 + 1) L) (hin2 : vp_in (x3 + 2) L) (hin3 : vp_in (x3 + 3) L) (hkc : kc ≤ 600000) (hkn : kn ≤ 7302250) (hnext : ∀ (X : SBS) (M : MdS), Inv X M → ∀ (H : Heap) (locs : List Loc), va_P (dC, dI) vwCl (wSB cI cJ A X ++ wMd cI cJ B M) H → va_D (fun q : Nat => s.heap.size ≤ q) (wSB cI cJ A X ++ wMd cI cJ B M) → va_S (fun q : Nat => s.heap.size ≤ q) s.heap H locs → ∀ ls : Array Slot, lv_has ls 4 [(0, .ref b), (1, .ref (A 0)), (2, .ref (B 0)), (3, .int x3)] → W p l e room_1 s m #[Value.ref b] below meth c H locs kc kn (lw_Z below #[Value.ref b] s) (F0 m 1091 ls [])) (ls : Array Slot) (hl : lv_has ls 4 [(0, .ref b), (1, .ref (A 0)), (2, .ref (B 0)), (3, .int x3)]) : W p l e room_1 s m #[Value.ref b] below meth c H locs kc kn (lw_Z below #[Value.ref b] s) (F0 m 609 ls []) := by
  obtain ⟨hx, hb, hr, hml, hown, hts0, hX, hbl, hlocks, hgv⟩ := C0
  have hts : ∀ w ∈ wsL_law, w.before #[Value.ref b] s = true := fun w h => hts0 w (wsL_law_in w h)
  have hA : ∀ q : Nat, s.heap.size ≤ q → (fun q : Nat => s.heap.size ≤ q) q := fun _ h => h
  have hbA : ¬ (fun q : Nat => s.heap.size ≤ q) b := Nat.not_le.mpr hbl
  obtain ⟨r, X2, M2, h1, h2, hI2⟩ := hPC.2.2.2.2.2.2.2.2.2.2.2.2.2.2.2.2.1 X M hI (xs (x3 + 1).toNatClampNeg) (xs (x3 + 2).toNatClampNeg) (xs (x3 + 3).toNatClampNeg)
  refine lv_aload_n hx hb dL_law_609 rfl (lv_at hl 1 rfl) ?_
  refine lv_aload_n hx hb dL_law_610 rfl (lv_at hl 0 rfl) ?_
  refine lv_iload_n hx hb dL_law_611 rfl (lv_at hl 3 rfl) ?_
  refine lv_iconst (v := 1) hx hb dL_law_612 (by decide) ?_
  refine lv_iadd hx hb dL_law_613 ?_
  refine va_sld hx hb hX hbl hbA hS hin1 dL_law_614 ?_
  refine lv_aload_n hx hb dL_law_615 rfl (lv_at hl 0 rfl) ?_
  refine lv_iload_n hx hb dL_law_616 rfl (lv_at hl 3 rfl) ?_
  refine lv_iconst (v := 2) hx hb dL_law_617 (by decide) ?_
  refine lv_iadd hx hb dL_law_618 ?_
  refine va_sld hx hb hX hbl hbA hS hin2 dL_law_619 ?_
  refine lv_aload_n hx hb dL_law_620 rfl (lv_at hl 0 rfl) ?_
  refine lv_iload_n hx hb dL_law_621 rfl (lv_at hl 3 rfl) ?_
  refine lv_iconst (v := 3) hx hb dL_law_622 (by decide) ?_
  refine lv_iadd hx hb dL_law_623 ?_
  refine va_sld hx hb hX hbl hbA hS hin3 dL_law_624 ?_
  have hPx : va_P (dC, dI) vwCl (([] : va_W) ++ (wSB cI cJ A X ++ wMd cI cJ B M)) H := hP
  have hDx : va_D _ (([] : va_W) ++ (wSB cI cJ A X ++ wMd cI cJ B M)) := hD
  refine kg_retWi (w1 := wSB cI cJ A X2) (wz := (wSB cI cJ A X2 ++ wMd cI cJ B M)) (r := r) rfl hPx hDx hS hA (va_runV (As := [.int (xs (x3 + 1).toNatClampNeg), .int (xs (x3 + 2).toNatClampNeg), .int (xs (x3 + 3).toNatClampNeg)]) (rest := []) ⟨hx, hb, hml, hown, hts⟩ (c_X5_way l dC dI cI cJ A H.size X (xs (x3 + 1).toNatClampNeg) (xs (x3 + 2).toNatClampNeg) (xs (x3 + 3).toNatClampNeg) _ h1) (cwV 3 hts (gw_inL (al_V wd_33_14 wd_33_11 wd_33_12 wd_33_13 wd_1_2)) rfl rfl rfl qX5_way ⟨Nat.le_of_ble_eq_true rfl, Nat.le_of_ble_eq_true rfl⟩) (kg_preVW (ci := 5) (q := (RX5, TX5, 6)) (q0 := 0) (kg_cutP hPx) (kg_cutD hDx) hK hN rfl rfl) rfl rfl hl.1 rfl (lv_room (Nat.le_of_ble_eq_true rfl)) dL_law_625 ⟨hkc, hkn⟩) (fun H locs hP hD hS => ?_)
  refine lv_aload_n hx hb dL_law_628 rfl (lv_at hl 2 rfl) ?_
  refine lv_aload_n hx hb dL_law_629 rfl (lv_at hl 0 rfl) ?_
  refine lv_iload_n hx hb dL_law_630 rfl (lv_at hl 3 rfl) ?_
  refine lv_iconst (v := 1) hx hb dL_law_631 (by decide) ?_
  refine lv_iadd hx hb dL_law_632 ?_
  refine va_sld hx hb hX hbl hbA hS hin1 dL_law_633 ?_
  refine lv_aload_n hx hb dL_law_634 rfl (lv_at hl 0 rfl) ?_
  refine lv_iload_n hx hb dL_law_635 rfl (lv_at hl 3 rfl) ?_
  refine lv_iconst (v := 2) hx hb dL_law_636 (by decide) ?_
  refine lv_iadd hx hb dL_law_637 ?_
  refine va_sld hx hb hX hbl hbA hS hin2 dL_law_638 ?_
  refine lv_aload_n hx hb dL_law_639 rfl (lv_at hl 0 rfl) ?_
  refine lv_iload_n hx hb dL_law_640 rfl (lv_at hl 3 rfl) ?_
  refine lv_iconst (v := 3) hx hb dL_law_641 (by decide) ?_
  refine lv_iadd hx hb dL_law_642 ?_
  refine va_sld hx hb hX hbl hbA hS hin3 dL_law_643 ?_
  have hPx : va_P (dC, dI) vwCl (wSB cI cJ A X2 ++ (wMd cI cJ B M ++ ([] : va_W))) H := by rw [List.append_nil]; exact hP
  have hDx : va_D (fun q : Nat => s.heap.size ≤ q) (wSB cI cJ A X2 ++ (wMd cI cJ B M ++ ([] : va_W))) := by rw [List.append_nil]; exact hD
  refine kg_retWi (w1 := wMd cI cJ B M2) (wz := (wSB cI cJ A X2 ++ wMd cI cJ B M2)) (r := r) (by rw [List.append_nil]) hPx hDx hS hA (va_runV (As := [.int (xs (x3 + 1).toNatClampNeg), .int (xs (x3 + 2).toNatClampNeg), .int (xs (x3 + 3).toNatClampNeg)]) (rest := [.int r]) ⟨hx, hb, hml, hown, hts⟩ (c_X6_way l dC dI cI cJ B H.size M (xs (x3 + 1).toNatClampNeg) (xs (x3 + 2).toNatClampNeg) (xs (x3 + 3).toNatClampNeg) _ h2) (cwV 3 hts (gw_inL (al_V wd_33_20 wd_33_17 wd_33_18 wd_33_19 wd_1_5)) rfl rfl rfl qX6_way ⟨Nat.le_of_ble_eq_true rfl, Nat.le_of_ble_eq_true rfl⟩) (kg_preVW (ci := 6) (q := (RX6, TX6, 30)) (q0 := 0) (kg_cutP hPx) (kg_cutD hDx) hK hN rfl rfl) rfl rfl hl.1 rfl (lv_room (Nat.le_of_ble_eq_true rfl)) dL_law_644 ⟨hkc, hkn⟩) (fun H locs hP hD hS => ?_)
  refine lv_icmp_eq (tgt := 1091) hx hb dL_law_647 (by decide) (fun _ => ?_) (fun hc => absurd rfl hc)
  exact hnext X2 M2 hI2 H locs hP hD hS ls hl
set_option maxHeartbeats 4000000 in
set_option maxRecDepth 100000 in
theorem lc_since {p : Program} {l : Launch} {e : Env} {s : State} {m : MethodId} {below : List Frame} {meth : Method} {c : Code} {b L : Nat} {xs : Nat → Int32} {kc kn : Nat} {Inv : SBS → MdS → Prop} (dC : Nat → ClassId) (dI : Nat → Nat → Nat) (cI cJ : ClassId) (A B : Nat → Nat) (hL : L ≤ 2048) (C0 : lw_At p s m meth c b L xs) (hPC : PC_all Inv) (X : SBS) (M : MdS) (hI : Inv X M) (H : Heap) (locs : List Loc) (hK : va_K (dC, dI) vwCl (vTy cI cJ) s) (hN : nwAll s) (hP : va_P (dC, dI) vwCl (wSB cI cJ A X ++ wMd cI cJ B M) H) (hD : va_D (fun q : Nat => s.heap.size ≤ q) (wSB cI cJ A X ++ wMd cI cJ B M)) (hS : va_S (fun q : Nat => s.heap.size ≤ q) s.heap H locs) (x3 : Int32) (hin1 : vp_in (x3 + 1) L) (hin2 : vp_in (x3 + 2) L) (hin3 : vp_in (x3 + 3) L) (hkc : kc ≤ 600000) (hkn : kn ≤ 7302250) (hnext : ∀ (X : SBS) (M : MdS), Inv X M → ∀ (H : Heap) (locs : List Loc), va_P (dC, dI) vwCl (wSB cI cJ A X ++ wMd cI cJ B M) H → va_D (fun q : Nat => s.heap.size ≤ q) (wSB cI cJ A X ++ wMd cI cJ B M) → va_S (fun q : Nat => s.heap.size ≤ q) s.heap H locs → ∀ ls : Array Slot, lv_has ls 4 [(0, .ref b), (1, .ref (A 0)), (2, .ref (B 0)), (3, .int x3)] → W p l e room_1 s m #[Value.ref b] below meth c H locs kc kn (lw_Z below #[Value.ref b] s) (F0 m 1091 ls [])) (ls : Array Slot) (hl : lv_has ls 4 [(0, .ref b), (1, .ref (A 0)), (2, .ref (B 0)), (3, .int x3)]) : W p l e room_1 s m #[Value.ref b] below meth c H locs kc kn (lw_Z below #[Value.ref b] s) (F0 m 652 ls []) := by
  obtain ⟨hx, hb, hr, hml, hown, hts0, hX, hbl, hlocks, hgv⟩ := C0
  have hts : ∀ w ∈ wsL_law, w.before #[Value.ref b] s = true := fun w h => hts0 w (wsL_law_in w h)
  have hA : ∀ q : Nat, s.heap.size ≤ q → (fun q : Nat => s.heap.size ≤ q) q := fun _ h => h
  have hbA : ¬ (fun q : Nat => s.heap.size ≤ q) b := Nat.not_le.mpr hbl
  obtain ⟨r, X2, M2, h1, h2, hI2⟩ := hPC.2.2.2.2.2.2.2.2.2.2.2.2.2.2.2.2.2.1 X M hI (xs (x3 + 1).toNatClampNeg) (xs (x3 + 2).toNatClampNeg) (xs (x3 + 3).toNatClampNeg)
  refine lv_aload_n hx hb dL_law_652 rfl (lv_at hl 1 rfl) ?_
  refine lv_aload_n hx hb dL_law_653 rfl (lv_at hl 0 rfl) ?_
  refine lv_iload_n hx hb dL_law_654 rfl (lv_at hl 3 rfl) ?_
  refine lv_iconst (v := 1) hx hb dL_law_655 (by decide) ?_
  refine lv_iadd hx hb dL_law_656 ?_
  refine va_sld hx hb hX hbl hbA hS hin1 dL_law_657 ?_
  refine lv_aload_n hx hb dL_law_658 rfl (lv_at hl 0 rfl) ?_
  refine lv_iload_n hx hb dL_law_659 rfl (lv_at hl 3 rfl) ?_
  refine lv_iconst (v := 2) hx hb dL_law_660 (by decide) ?_
  refine lv_iadd hx hb dL_law_661 ?_
  refine va_sld hx hb hX hbl hbA hS hin2 dL_law_662 ?_
  refine lv_aload_n hx hb dL_law_663 rfl (lv_at hl 0 rfl) ?_
  refine lv_iload_n hx hb dL_law_664 rfl (lv_at hl 3 rfl) ?_
  refine lv_iconst (v := 3) hx hb dL_law_665 (by decide) ?_
  refine lv_iadd hx hb dL_law_666 ?_
  refine va_sld hx hb hX hbl hbA hS hin3 dL_law_667 ?_
  have hPx : va_P (dC, dI) vwCl (([] : va_W) ++ (wSB cI cJ A X ++ wMd cI cJ B M)) H := hP
  have hDx : va_D _ (([] : va_W) ++ (wSB cI cJ A X ++ wMd cI cJ B M)) := hD
  refine kg_retWi (w1 := wSB cI cJ A X2) (wz := (wSB cI cJ A X2 ++ wMd cI cJ B M)) (r := r) rfl hPx hDx hS hA (va_runV (As := [.int (xs (x3 + 1).toNatClampNeg), .int (xs (x3 + 2).toNatClampNeg), .int (xs (x3 + 3).toNatClampNeg)]) (rest := []) ⟨hx, hb, hml, hown, hts⟩ (c_X5_since l dC dI cI cJ A H.size X (xs (x3 + 1).toNatClampNeg) (xs (x3 + 2).toNatClampNeg) (xs (x3 + 3).toNatClampNeg) _ h1) (cwV 3 hts (gw_inL (al_V wd_34_9 wd_34_6 wd_34_7 wd_34_8 wd_1_2)) rfl rfl rfl qX5_since ⟨Nat.le_of_ble_eq_true rfl, Nat.le_of_ble_eq_true rfl⟩) (kg_preVW (ci := 5) (q := (RX5, TX5, 6)) (q0 := 0) (kg_cutP hPx) (kg_cutD hDx) hK hN rfl rfl) rfl rfl hl.1 rfl (lv_room (Nat.le_of_ble_eq_true rfl)) dL_law_668 ⟨hkc, hkn⟩) (fun H locs hP hD hS => ?_)
  refine lv_aload_n hx hb dL_law_671 rfl (lv_at hl 2 rfl) ?_
  refine lv_aload_n hx hb dL_law_672 rfl (lv_at hl 0 rfl) ?_
  refine lv_iload_n hx hb dL_law_673 rfl (lv_at hl 3 rfl) ?_
  refine lv_iconst (v := 1) hx hb dL_law_674 (by decide) ?_
  refine lv_iadd hx hb dL_law_675 ?_
  refine va_sld hx hb hX hbl hbA hS hin1 dL_law_676 ?_
  refine lv_aload_n hx hb dL_law_677 rfl (lv_at hl 0 rfl) ?_
  refine lv_iload_n hx hb dL_law_678 rfl (lv_at hl 3 rfl) ?_
  refine lv_iconst (v := 2) hx hb dL_law_679 (by decide) ?_
  refine lv_iadd hx hb dL_law_680 ?_
  refine va_sld hx hb hX hbl hbA hS hin2 dL_law_681 ?_
  refine lv_aload_n hx hb dL_law_682 rfl (lv_at hl 0 rfl) ?_
  refine lv_iload_n hx hb dL_law_683 rfl (lv_at hl 3 rfl) ?_
  refine lv_iconst (v := 3) hx hb dL_law_684 (by decide) ?_
  refine lv_iadd hx hb dL_law_685 ?_
  refine va_sld hx hb hX hbl hbA hS hin3 dL_law_686 ?_
  have hPx : va_P (dC, dI) vwCl (wSB cI cJ A X2 ++ (wMd cI cJ B M ++ ([] : va_W))) H := by rw [List.append_nil]; exact hP
  have hDx : va_D (fun q : Nat => s.heap.size ≤ q) (wSB cI cJ A X2 ++ (wMd cI cJ B M ++ ([] : va_W))) := by rw [List.append_nil]; exact hD
  refine kg_retWi (w1 := wMd cI cJ B M2) (wz := (wSB cI cJ A X2 ++ wMd cI cJ B M2)) (r := r) (by rw [List.append_nil]) hPx hDx hS hA (va_runV (As := [.int (xs (x3 + 1).toNatClampNeg), .int (xs (x3 + 2).toNatClampNeg), .int (xs (x3 + 3).toNatClampNeg)]) (rest := [.int r]) ⟨hx, hb, hml, hown, hts⟩ (c_X6_since l dC dI cI cJ B H.size M (xs (x3 + 1).toNatClampNeg) (xs (x3 + 2).toNatClampNeg) (xs (x3 + 3).toNatClampNeg) _ h2) (cwV 3 hts (gw_inL (al_V wd_35_11 wd_35_8 wd_35_9 wd_35_10 wd_1_5)) rfl rfl rfl qX6_since ⟨Nat.le_of_ble_eq_true rfl, Nat.le_of_ble_eq_true rfl⟩) (kg_preVW (ci := 6) (q := (RX6, TX6, 30)) (q0 := 0) (kg_cutP hPx) (kg_cutD hDx) hK hN rfl rfl) rfl rfl hl.1 rfl (lv_room (Nat.le_of_ble_eq_true rfl)) dL_law_687 ⟨hkc, hkn⟩) (fun H locs hP hD hS => ?_)
  refine lv_icmp_eq (tgt := 1091) hx hb dL_law_690 (by decide) (fun _ => ?_) (fun hc => absurd rfl hc)
  exact hnext X2 M2 hI2 H locs hP hD hS ls hl
set_option maxHeartbeats 4000000 in
set_option maxRecDepth 100000 in
theorem lc_would {p : Program} {l : Launch} {e : Env} {s : State} {m : MethodId} {below : List Frame} {meth : Method} {c : Code} {b L : Nat} {xs : Nat → Int32} {kc kn : Nat} {Inv : SBS → MdS → Prop} (dC : Nat → ClassId) (dI : Nat → Nat → Nat) (cI cJ : ClassId) (A B : Nat → Nat) (hL : L ≤ 2048) (C0 : lw_At p s m meth c b L xs) (hPC : PC_all Inv) (X : SBS) (M : MdS) (hI : Inv X M) (H : Heap) (locs : List Loc) (hK : va_K (dC, dI) vwCl (vTy cI cJ) s) (hN : nwAll s) (hP : va_P (dC, dI) vwCl (wSB cI cJ A X ++ wMd cI cJ B M) H) (hD : va_D (fun q : Nat => s.heap.size ≤ q) (wSB cI cJ A X ++ wMd cI cJ B M)) (hS : va_S (fun q : Nat => s.heap.size ≤ q) s.heap H locs) (x3 : Int32) (hin1 : vp_in (x3 + 1) L) (hin2 : vp_in (x3 + 2) L) (hin3 : vp_in (x3 + 3) L) (hkc : kc ≤ 600000) (hkn : kn ≤ 7302250) (hnext : ∀ (X : SBS) (M : MdS), Inv X M → ∀ (H : Heap) (locs : List Loc), va_P (dC, dI) vwCl (wSB cI cJ A X ++ wMd cI cJ B M) H → va_D (fun q : Nat => s.heap.size ≤ q) (wSB cI cJ A X ++ wMd cI cJ B M) → va_S (fun q : Nat => s.heap.size ≤ q) s.heap H locs → ∀ ls : Array Slot, lv_has ls 4 [(0, .ref b), (1, .ref (A 0)), (2, .ref (B 0)), (3, .int x3)] → W p l e room_1 s m #[Value.ref b] below meth c H locs kc kn (lw_Z below #[Value.ref b] s) (F0 m 1091 ls [])) (ls : Array Slot) (hl : lv_has ls 4 [(0, .ref b), (1, .ref (A 0)), (2, .ref (B 0)), (3, .int x3)]) : W p l e room_1 s m #[Value.ref b] below meth c H locs kc kn (lw_Z below #[Value.ref b] s) (F0 m 695 ls []) := by
  obtain ⟨hx, hb, hr, hml, hown, hts0, hX, hbl, hlocks, hgv⟩ := C0
  have hts : ∀ w ∈ wsL_law, w.before #[Value.ref b] s = true := fun w h => hts0 w (wsL_law_in w h)
  have hA : ∀ q : Nat, s.heap.size ≤ q → (fun q : Nat => s.heap.size ≤ q) q := fun _ h => h
  have hbA : ¬ (fun q : Nat => s.heap.size ≤ q) b := Nat.not_le.mpr hbl
  obtain ⟨r, X2, M2, h1, h2, hI2⟩ := hPC.2.2.2.2.2.2.2.2.2.2.2.2.2.2.2.2.2.2.1 X M hI (xs (x3 + 1).toNatClampNeg) (xs (x3 + 2).toNatClampNeg) (xs (x3 + 3).toNatClampNeg)
  refine lv_aload_n hx hb dL_law_695 rfl (lv_at hl 1 rfl) ?_
  refine lv_aload_n hx hb dL_law_696 rfl (lv_at hl 0 rfl) ?_
  refine lv_iload_n hx hb dL_law_697 rfl (lv_at hl 3 rfl) ?_
  refine lv_iconst (v := 1) hx hb dL_law_698 (by decide) ?_
  refine lv_iadd hx hb dL_law_699 ?_
  refine va_sld hx hb hX hbl hbA hS hin1 dL_law_700 ?_
  refine lv_aload_n hx hb dL_law_701 rfl (lv_at hl 0 rfl) ?_
  refine lv_iload_n hx hb dL_law_702 rfl (lv_at hl 3 rfl) ?_
  refine lv_iconst (v := 2) hx hb dL_law_703 (by decide) ?_
  refine lv_iadd hx hb dL_law_704 ?_
  refine va_sld hx hb hX hbl hbA hS hin2 dL_law_705 ?_
  refine lv_aload_n hx hb dL_law_706 rfl (lv_at hl 0 rfl) ?_
  refine lv_iload_n hx hb dL_law_707 rfl (lv_at hl 3 rfl) ?_
  refine lv_iconst (v := 3) hx hb dL_law_708 (by decide) ?_
  refine lv_iadd hx hb dL_law_709 ?_
  refine va_sld hx hb hX hbl hbA hS hin3 dL_law_710 ?_
  have hPx : va_P (dC, dI) vwCl (([] : va_W) ++ (wSB cI cJ A X ++ wMd cI cJ B M)) H := hP
  have hDx : va_D _ (([] : va_W) ++ (wSB cI cJ A X ++ wMd cI cJ B M)) := hD
  refine kg_retWi (w1 := wSB cI cJ A X2) (wz := (wSB cI cJ A X2 ++ wMd cI cJ B M)) (r := r) rfl hPx hDx hS hA (va_runV (As := [.int (xs (x3 + 1).toNatClampNeg), .int (xs (x3 + 2).toNatClampNeg), .int (xs (x3 + 3).toNatClampNeg)]) (rest := []) ⟨hx, hb, hml, hown, hts⟩ (c_X5_would l dC dI cI cJ A H.size X (xs (x3 + 1).toNatClampNeg) (xs (x3 + 2).toNatClampNeg) (xs (x3 + 3).toNatClampNeg) _ h1) (cwV 3 hts (gw_inL (al_V wd_35_19 wd_35_16 wd_35_17 wd_35_18 wd_1_2)) rfl rfl rfl qX5_would ⟨Nat.le_of_ble_eq_true rfl, Nat.le_of_ble_eq_true rfl⟩) (kg_preVW (ci := 5) (q := (RX5, TX5, 6)) (q0 := 0) (kg_cutP hPx) (kg_cutD hDx) hK hN rfl rfl) rfl rfl hl.1 rfl (lv_room (Nat.le_of_ble_eq_true rfl)) dL_law_711 ⟨hkc, hkn⟩) (fun H locs hP hD hS => ?_)
  refine lv_aload_n hx hb dL_law_714 rfl (lv_at hl 2 rfl) ?_
  refine lv_aload_n hx hb dL_law_715 rfl (lv_at hl 0 rfl) ?_
  refine lv_iload_n hx hb dL_law_716 rfl (lv_at hl 3 rfl) ?_
  refine lv_iconst (v := 1) hx hb dL_law_717 (by decide) ?_
  refine lv_iadd hx hb dL_law_718 ?_
  refine va_sld hx hb hX hbl hbA hS hin1 dL_law_719 ?_
  refine lv_aload_n hx hb dL_law_720 rfl (lv_at hl 0 rfl) ?_
  refine lv_iload_n hx hb dL_law_721 rfl (lv_at hl 3 rfl) ?_
  refine lv_iconst (v := 2) hx hb dL_law_722 (by decide) ?_
  refine lv_iadd hx hb dL_law_723 ?_
  refine va_sld hx hb hX hbl hbA hS hin2 dL_law_724 ?_
  refine lv_aload_n hx hb dL_law_725 rfl (lv_at hl 0 rfl) ?_
  refine lv_iload_n hx hb dL_law_726 rfl (lv_at hl 3 rfl) ?_
  refine lv_iconst (v := 3) hx hb dL_law_727 (by decide) ?_
  refine lv_iadd hx hb dL_law_728 ?_
  refine va_sld hx hb hX hbl hbA hS hin3 dL_law_729 ?_
  have hPx : va_P (dC, dI) vwCl (wSB cI cJ A X2 ++ (wMd cI cJ B M ++ ([] : va_W))) H := by rw [List.append_nil]; exact hP
  have hDx : va_D (fun q : Nat => s.heap.size ≤ q) (wSB cI cJ A X2 ++ (wMd cI cJ B M ++ ([] : va_W))) := by rw [List.append_nil]; exact hD
  refine kg_retWi (w1 := wMd cI cJ B M2) (wz := (wSB cI cJ A X2 ++ wMd cI cJ B M2)) (r := r) (by rw [List.append_nil]) hPx hDx hS hA (va_runV (As := [.int (xs (x3 + 1).toNatClampNeg), .int (xs (x3 + 2).toNatClampNeg), .int (xs (x3 + 3).toNatClampNeg)]) (rest := [.int r]) ⟨hx, hb, hml, hown, hts⟩ (c_X6_would l dC dI cI cJ B H.size M (xs (x3 + 1).toNatClampNeg) (xs (x3 + 2).toNatClampNeg) (xs (x3 + 3).toNatClampNeg) _ h2) (cwV 3 hts (gw_inL (al_V wd_36_13 wd_36_10 wd_36_11 wd_36_12 wd_1_5)) rfl rfl rfl qX6_would ⟨Nat.le_of_ble_eq_true rfl, Nat.le_of_ble_eq_true rfl⟩) (kg_preVW (ci := 6) (q := (RX6, TX6, 30)) (q0 := 0) (kg_cutP hPx) (kg_cutD hDx) hK hN rfl rfl) rfl rfl hl.1 rfl (lv_room (Nat.le_of_ble_eq_true rfl)) dL_law_730 ⟨hkc, hkn⟩) (fun H locs hP hD hS => ?_)
  refine lv_icmp_eq (tgt := 1091) hx hb dL_law_733 (by decide) (fun _ => ?_) (fun hc => absurd rfl hc)
  exact hnext X2 M2 hI2 H locs hP hD hS ls hl
set_option maxHeartbeats 4000000 in
set_option maxRecDepth 100000 in
theorem lc_best {p : Program} {l : Launch} {e : Env} {s : State} {m : MethodId} {below : List Frame} {meth : Method} {c : Code} {b L : Nat} {xs : Nat → Int32} {kc kn : Nat} {Inv : SBS → MdS → Prop} (dC : Nat → ClassId) (dI : Nat → Nat → Nat) (cI cJ : ClassId) (A B : Nat → Nat) (hL : L ≤ 2048) (C0 : lw_At p s m meth c b L xs) (hPC : PC_all Inv) (X : SBS) (M : MdS) (hI : Inv X M) (H : Heap) (locs : List Loc) (hK : va_K (dC, dI) vwCl (vTy cI cJ) s) (hN : nwAll s) (hP : va_P (dC, dI) vwCl (wSB cI cJ A X ++ wMd cI cJ B M) H) (hD : va_D (fun q : Nat => s.heap.size ≤ q) (wSB cI cJ A X ++ wMd cI cJ B M)) (hS : va_S (fun q : Nat => s.heap.size ≤ q) s.heap H locs) (x3 : Int32) (hin1 : vp_in (x3 + 1) L) (hin2 : vp_in (x3 + 2) L) (hin3 : vp_in (x3 + 3) L) (hkc : kc ≤ 600000) (hkn : kn ≤ 7302250) (hnext : ∀ (X : SBS) (M : MdS), Inv X M → ∀ (H : Heap) (locs : List Loc), va_P (dC, dI) vwCl (wSB cI cJ A X ++ wMd cI cJ B M) H → va_D (fun q : Nat => s.heap.size ≤ q) (wSB cI cJ A X ++ wMd cI cJ B M) → va_S (fun q : Nat => s.heap.size ≤ q) s.heap H locs → ∀ ls : Array Slot, lv_has ls 4 [(0, .ref b), (1, .ref (A 0)), (2, .ref (B 0)), (3, .int x3)] → W p l e room_1 s m #[Value.ref b] below meth c H locs kc kn (lw_Z below #[Value.ref b] s) (F0 m 1091 ls [])) (ls : Array Slot) (hl : lv_has ls 4 [(0, .ref b), (1, .ref (A 0)), (2, .ref (B 0)), (3, .int x3)]) : W p l e room_1 s m #[Value.ref b] below meth c H locs kc kn (lw_Z below #[Value.ref b] s) (F0 m 738 ls []) := by
  obtain ⟨hx, hb, hr, hml, hown, hts0, hX, hbl, hlocks, hgv⟩ := C0
  have hts : ∀ w ∈ wsL_law, w.before #[Value.ref b] s = true := fun w h => hts0 w (wsL_law_in w h)
  have hA : ∀ q : Nat, s.heap.size ≤ q → (fun q : Nat => s.heap.size ≤ q) q := fun _ h => h
  have hbA : ¬ (fun q : Nat => s.heap.size ≤ q) b := Nat.not_le.mpr hbl
  obtain ⟨r, X2, M2, h1, h2, hI2⟩ := hPC.2.2.2.2.2.2.2.2.2.2.2.2.2.2.2.2.2.2.2.1 X M hI (xs (x3 + 1).toNatClampNeg)
  refine lv_aload_n hx hb dL_law_738 rfl (lv_at hl 1 rfl) ?_
  refine lv_aload_n hx hb dL_law_739 rfl (lv_at hl 0 rfl) ?_
  refine lv_iload_n hx hb dL_law_740 rfl (lv_at hl 3 rfl) ?_
  refine lv_iconst (v := 1) hx hb dL_law_741 (by decide) ?_
  refine lv_iadd hx hb dL_law_742 ?_
  refine va_sld hx hb hX hbl hbA hS hin1 dL_law_743 ?_
  have hPx : va_P (dC, dI) vwCl (([] : va_W) ++ (wSB cI cJ A X ++ wMd cI cJ B M)) H := hP
  have hDx : va_D _ (([] : va_W) ++ (wSB cI cJ A X ++ wMd cI cJ B M)) := hD
  refine kg_retWi (w1 := wSB cI cJ A X2) (wz := (wSB cI cJ A X2 ++ wMd cI cJ B M)) (r := r) rfl hPx hDx hS hA (va_runV (As := [.int (xs (x3 + 1).toNatClampNeg)]) (rest := []) ⟨hx, hb, hml, hown, hts⟩ (c_X5_best l dC dI cI cJ A H.size X (xs (x3 + 1).toNatClampNeg) _ h1) (cwV 1 hts (gw_inL (al_V wd_37_1 wd_36_22 wd_36_23 wd_37_0 wd_1_2)) rfl rfl rfl qX5_best ⟨Nat.le_of_ble_eq_true rfl, Nat.le_of_ble_eq_true rfl⟩) (kg_preVW (ci := 5) (q := (RX5, TX5, 6)) (q0 := 0) (kg_cutP hPx) (kg_cutD hDx) hK hN rfl rfl) rfl rfl hl.1 rfl (lv_room (Nat.le_of_ble_eq_true rfl)) dL_law_744 ⟨hkc, hkn⟩) (fun H locs hP hD hS => ?_)
  refine lv_aload_n hx hb dL_law_747 rfl (lv_at hl 2 rfl) ?_
  refine lv_aload_n hx hb dL_law_748 rfl (lv_at hl 0 rfl) ?_
  refine lv_iload_n hx hb dL_law_749 rfl (lv_at hl 3 rfl) ?_
  refine lv_iconst (v := 1) hx hb dL_law_750 (by decide) ?_
  refine lv_iadd hx hb dL_law_751 ?_
  refine va_sld hx hb hX hbl hbA hS hin1 dL_law_752 ?_
  have hPx : va_P (dC, dI) vwCl (wSB cI cJ A X2 ++ (wMd cI cJ B M ++ ([] : va_W))) H := by rw [List.append_nil]; exact hP
  have hDx : va_D (fun q : Nat => s.heap.size ≤ q) (wSB cI cJ A X2 ++ (wMd cI cJ B M ++ ([] : va_W))) := by rw [List.append_nil]; exact hD
  refine kg_retWi (w1 := wMd cI cJ B M2) (wz := (wSB cI cJ A X2 ++ wMd cI cJ B M2)) (r := r) (by rw [List.append_nil]) hPx hDx hS hA (va_runV (As := [.int (xs (x3 + 1).toNatClampNeg)]) (rest := [.int r]) ⟨hx, hb, hml, hown, hts⟩ (c_X6_best l dC dI cI cJ B H.size M (xs (x3 + 1).toNatClampNeg) _ h2) (cwV 1 hts (gw_inL (al_V wd_37_7 wd_37_4 wd_37_5 wd_37_6 wd_1_5)) rfl rfl rfl qX6_best ⟨Nat.le_of_ble_eq_true rfl, Nat.le_of_ble_eq_true rfl⟩) (kg_preVW (ci := 6) (q := (RX6, TX6, 30)) (q0 := 0) (kg_cutP hPx) (kg_cutD hDx) hK hN rfl rfl) rfl rfl hl.1 rfl (lv_room (Nat.le_of_ble_eq_true rfl)) dL_law_753 ⟨hkc, hkn⟩) (fun H locs hP hD hS => ?_)
  refine lv_icmp_eq (tgt := 1091) hx hb dL_law_756 (by decide) (fun _ => ?_) (fun hc => absurd rfl hc)
  exact hnext X2 M2 hI2 H locs hP hD hS ls hl
set_option maxHeartbeats 4000000 in
set_option maxRecDepth 100000 in
theorem lc_worst {p : Program} {l : Launch} {e : Env} {s : State} {m : MethodId} {below : List Frame} {meth : Method} {c : Code} {b L : Nat} {xs : Nat → Int32} {kc kn : Nat} {Inv : SBS → MdS → Prop} (dC : Nat → ClassId) (dI : Nat → Nat → Nat) (cI cJ : ClassId) (A B : Nat → Nat) (hL : L ≤ 2048) (C0 : lw_At p s m meth c b L xs) (hPC : PC_all Inv) (X : SBS) (M : MdS) (hI : Inv X M) (H : Heap) (locs : List Loc) (hK : va_K (dC, dI) vwCl (vTy cI cJ) s) (hN : nwAll s) (hP : va_P (dC, dI) vwCl (wSB cI cJ A X ++ wMd cI cJ B M) H) (hD : va_D (fun q : Nat => s.heap.size ≤ q) (wSB cI cJ A X ++ wMd cI cJ B M)) (hS : va_S (fun q : Nat => s.heap.size ≤ q) s.heap H locs) (x3 : Int32) (hin1 : vp_in (x3 + 1) L) (hin2 : vp_in (x3 + 2) L) (hin3 : vp_in (x3 + 3) L) (hkc : kc ≤ 600000) (hkn : kn ≤ 7302250) (hnext : ∀ (X : SBS) (M : MdS), Inv X M → ∀ (H : Heap) (locs : List Loc), va_P (dC, dI) vwCl (wSB cI cJ A X ++ wMd cI cJ B M) H → va_D (fun q : Nat => s.heap.size ≤ q) (wSB cI cJ A X ++ wMd cI cJ B M) → va_S (fun q : Nat => s.heap.size ≤ q) s.heap H locs → ∀ ls : Array Slot, lv_has ls 4 [(0, .ref b), (1, .ref (A 0)), (2, .ref (B 0)), (3, .int x3)] → W p l e room_1 s m #[Value.ref b] below meth c H locs kc kn (lw_Z below #[Value.ref b] s) (F0 m 1091 ls [])) (ls : Array Slot) (hl : lv_has ls 4 [(0, .ref b), (1, .ref (A 0)), (2, .ref (B 0)), (3, .int x3)]) : W p l e room_1 s m #[Value.ref b] below meth c H locs kc kn (lw_Z below #[Value.ref b] s) (F0 m 761 ls []) := by
  obtain ⟨hx, hb, hr, hml, hown, hts0, hX, hbl, hlocks, hgv⟩ := C0
  have hts : ∀ w ∈ wsL_law, w.before #[Value.ref b] s = true := fun w h => hts0 w (wsL_law_in w h)
  have hA : ∀ q : Nat, s.heap.size ≤ q → (fun q : Nat => s.heap.size ≤ q) q := fun _ h => h
  have hbA : ¬ (fun q : Nat => s.heap.size ≤ q) b := Nat.not_le.mpr hbl
  obtain ⟨r, M2, h1, h2, hI2⟩ := hPC.2.2.2.2.2.2.2.2.2.2.2.2.2.2.2.2.2.2.2.2.1 X M hI (xs (x3 + 1).toNatClampNeg)
  refine lv_aload_n hx hb dL_law_761 rfl (lv_at hl 1 rfl) ?_
  refine lv_aload_n hx hb dL_law_762 rfl (lv_at hl 0 rfl) ?_
  refine lv_iload_n hx hb dL_law_763 rfl (lv_at hl 3 rfl) ?_
  refine lv_iconst (v := 1) hx hb dL_law_764 (by decide) ?_
  refine lv_iadd hx hb dL_law_765 ?_
  refine va_sld hx hb hX hbl hbA hS hin1 dL_law_766 ?_
  have hPc : va_P (dC, dI) vwCl (wSB cI cJ A X) H := kg_cutP (pre := []) hP
  refine kg_retRi (va_runV (As := [.int (xs (x3 + 1).toNatClampNeg)]) (rest := []) ⟨hx, hb, hml, hown, hts⟩ (c_X5_worst l dC dI cI cJ A H X (xs (x3 + 1).toNatClampNeg) _ h1) (cwV 1 hts (gw_inL (al_V wd_37_11 wd_37_8 wd_37_9 wd_37_10 wd_1_2)) rfl rfl rfl qX5_worst ⟨Nat.le_of_ble_eq_true rfl, Nat.le_of_ble_eq_true rfl⟩) (kg_preVR (ci := 5) (q := (RX5, TX5, 6)) (q0 := 0) hPc hK hN rfl rfl) rfl rfl hl.1 rfl (lv_room (Nat.le_of_ble_eq_true rfl)) dL_law_767 ⟨hkc, hkn⟩) ?_
  refine lv_aload_n hx hb dL_law_770 rfl (lv_at hl 2 rfl) ?_
  refine lv_aload_n hx hb dL_law_771 rfl (lv_at hl 0 rfl) ?_
  refine lv_iload_n hx hb dL_law_772 rfl (lv_at hl 3 rfl) ?_
  refine lv_iconst (v := 1) hx hb dL_law_773 (by decide) ?_
  refine lv_iadd hx hb dL_law_774 ?_
  refine va_sld hx hb hX hbl hbA hS hin1 dL_law_775 ?_
  have hPx : va_P (dC, dI) vwCl (wSB cI cJ A X ++ (wMd cI cJ B M ++ ([] : va_W))) H := by rw [List.append_nil]; exact hP
  have hDx : va_D (fun q : Nat => s.heap.size ≤ q) (wSB cI cJ A X ++ (wMd cI cJ B M ++ ([] : va_W))) := by rw [List.append_nil]; exact hD
  refine kg_retWi (w1 := wMd cI cJ B M2) (wz := (wSB cI cJ A X ++ wMd cI cJ B M2)) (r := r) (by rw [List.append_nil]) hPx hDx hS hA (va_runV (As := [.int (xs (x3 + 1).toNatClampNeg)]) (rest := [.int r]) ⟨hx, hb, hml, hown, hts⟩ (c_X6_worst l dC dI cI cJ B H.size M (xs (x3 + 1).toNatClampNeg) _ h2) (cwV 1 hts (gw_inL (al_V wd_37_19 wd_37_16 wd_37_17 wd_37_18 wd_1_5)) rfl rfl rfl qX6_worst ⟨Nat.le_of_ble_eq_true rfl, Nat.le_of_ble_eq_true rfl⟩) (kg_preVW (ci := 6) (q := (RX6, TX6, 30)) (q0 := 0) (kg_cutP hPx) (kg_cutD hDx) hK hN rfl rfl) rfl rfl hl.1 rfl (lv_room (Nat.le_of_ble_eq_true rfl)) dL_law_776 ⟨hkc, hkn⟩) (fun H locs hP hD hS => ?_)
  refine lv_icmp_eq (tgt := 1091) hx hb dL_law_779 (by decide) (fun _ => ?_) (fun hc => absurd rfl hc)
  exact hnext X M2 hI2 H locs hP hD hS ls hl
set_option maxHeartbeats 4000000 in
set_option maxRecDepth 100000 in
theorem lc_part {p : Program} {l : Launch} {e : Env} {s : State} {m : MethodId} {below : List Frame} {meth : Method} {c : Code} {b L : Nat} {xs : Nat → Int32} {kc kn : Nat} {Inv : SBS → MdS → Prop} (dC : Nat → ClassId) (dI : Nat → Nat → Nat) (cI cJ : ClassId) (A B : Nat → Nat) (hL : L ≤ 2048) (C0 : lw_At p s m meth c b L xs) (hPC : PC_all Inv) (X : SBS) (M : MdS) (hI : Inv X M) (H : Heap) (locs : List Loc) (hK : va_K (dC, dI) vwCl (vTy cI cJ) s) (hN : nwAll s) (hP : va_P (dC, dI) vwCl (wSB cI cJ A X ++ wMd cI cJ B M) H) (hD : va_D (fun q : Nat => s.heap.size ≤ q) (wSB cI cJ A X ++ wMd cI cJ B M)) (hS : va_S (fun q : Nat => s.heap.size ≤ q) s.heap H locs) (x3 : Int32) (hin1 : vp_in (x3 + 1) L) (hin2 : vp_in (x3 + 2) L) (hin3 : vp_in (x3 + 3) L) (hkc : kc ≤ 600000) (hkn : kn ≤ 7302250) (hnext : ∀ (X : SBS) (M : MdS), Inv X M → ∀ (H : Heap) (locs : List Loc), va_P (dC, dI) vwCl (wSB cI cJ A X ++ wMd cI cJ B M) H → va_D (fun q : Nat => s.heap.size ≤ q) (wSB cI cJ A X ++ wMd cI cJ B M) → va_S (fun q : Nat => s.heap.size ≤ q) s.heap H locs → ∀ ls : Array Slot, lv_has ls 4 [(0, .ref b), (1, .ref (A 0)), (2, .ref (B 0)), (3, .int x3)] → W p l e room_1 s m #[Value.ref b] below meth c H locs kc kn (lw_Z below #[Value.ref b] s) (F0 m 1091 ls [])) (ls : Array Slot) (hl : lv_has ls 4 [(0, .ref b), (1, .ref (A 0)), (2, .ref (B 0)), (3, .int x3)]) : W p l e room_1 s m #[Value.ref b] below meth c H locs kc kn (lw_Z below #[Value.ref b] s) (F0 m 784 ls []) := by
  obtain ⟨hx, hb, hr, hml, hown, hts0, hX, hbl, hlocks, hgv⟩ := C0
  have hts : ∀ w ∈ wsL_law, w.before #[Value.ref b] s = true := fun w h => hts0 w (wsL_law_in w h)
  have hA : ∀ q : Nat, s.heap.size ≤ q → (fun q : Nat => s.heap.size ≤ q) q := fun _ h => h
  have hbA : ¬ (fun q : Nat => s.heap.size ≤ q) b := Nat.not_le.mpr hbl
  obtain ⟨r, M2, h1, h2, hI2⟩ := hPC.2.2.2.2.2.2.2.2.2.2.2.2.2.2.2.2.2.2.2.2.2.1 X M hI (xs (x3 + 1).toNatClampNeg) (xs (x3 + 2).toNatClampNeg)
  refine lv_aload_n hx hb dL_law_784 rfl (lv_at hl 1 rfl) ?_
  refine lv_aload_n hx hb dL_law_785 rfl (lv_at hl 0 rfl) ?_
  refine lv_iload_n hx hb dL_law_786 rfl (lv_at hl 3 rfl) ?_
  refine lv_iconst (v := 1) hx hb dL_law_787 (by decide) ?_
  refine lv_iadd hx hb dL_law_788 ?_
  refine va_sld hx hb hX hbl hbA hS hin1 dL_law_789 ?_
  refine lv_aload_n hx hb dL_law_790 rfl (lv_at hl 0 rfl) ?_
  refine lv_iload_n hx hb dL_law_791 rfl (lv_at hl 3 rfl) ?_
  refine lv_iconst (v := 2) hx hb dL_law_792 (by decide) ?_
  refine lv_iadd hx hb dL_law_793 ?_
  refine va_sld hx hb hX hbl hbA hS hin2 dL_law_794 ?_
  have hPc : va_P (dC, dI) vwCl (wSB cI cJ A X) H := kg_cutP (pre := []) hP
  refine kg_retRi (va_runV (As := [.int (xs (x3 + 1).toNatClampNeg), .int (xs (x3 + 2).toNatClampNeg)]) (rest := []) ⟨hx, hb, hml, hown, hts⟩ (c_X5_part l dC dI cI cJ A H X (xs (x3 + 1).toNatClampNeg) (xs (x3 + 2).toNatClampNeg) _ h1) (cwV 2 hts (gw_inL (al_V wd_37_23 wd_37_20 wd_37_21 wd_37_22 wd_1_2)) rfl rfl rfl qX5_part ⟨Nat.le_of_ble_eq_true rfl, Nat.le_of_ble_eq_true rfl⟩) (kg_preVR (ci := 5) (q := (RX5, TX5, 6)) (q0 := 0) hPc hK hN rfl rfl) rfl rfl hl.1 rfl (lv_room (Nat.le_of_ble_eq_true rfl)) dL_law_795 ⟨hkc, hkn⟩) ?_
  refine lv_aload_n hx hb dL_law_798 rfl (lv_at hl 2 rfl) ?_
  refine lv_aload_n hx hb dL_law_799 rfl (lv_at hl 0 rfl) ?_
  refine lv_iload_n hx hb dL_law_800 rfl (lv_at hl 3 rfl) ?_
  refine lv_iconst (v := 1) hx hb dL_law_801 (by decide) ?_
  refine lv_iadd hx hb dL_law_802 ?_
  refine va_sld hx hb hX hbl hbA hS hin1 dL_law_803 ?_
  refine lv_aload_n hx hb dL_law_804 rfl (lv_at hl 0 rfl) ?_
  refine lv_iload_n hx hb dL_law_805 rfl (lv_at hl 3 rfl) ?_
  refine lv_iconst (v := 2) hx hb dL_law_806 (by decide) ?_
  refine lv_iadd hx hb dL_law_807 ?_
  refine va_sld hx hb hX hbl hbA hS hin2 dL_law_808 ?_
  have hPx : va_P (dC, dI) vwCl (wSB cI cJ A X ++ (wMd cI cJ B M ++ ([] : va_W))) H := by rw [List.append_nil]; exact hP
  have hDx : va_D (fun q : Nat => s.heap.size ≤ q) (wSB cI cJ A X ++ (wMd cI cJ B M ++ ([] : va_W))) := by rw [List.append_nil]; exact hD
  refine kg_retWi (w1 := wMd cI cJ B M2) (wz := (wSB cI cJ A X ++ wMd cI cJ B M2)) (r := r) (by rw [List.append_nil]) hPx hDx hS hA (va_runV (As := [.int (xs (x3 + 1).toNatClampNeg), .int (xs (x3 + 2).toNatClampNeg)]) (rest := [.int r]) ⟨hx, hb, hml, hown, hts⟩ (c_X6_part l dC dI cI cJ B H.size M (xs (x3 + 1).toNatClampNeg) (xs (x3 + 2).toNatClampNeg) _ h2) (cwV 2 hts (gw_inL (al_V wd_38_10 wd_38_7 wd_38_8 wd_38_9 wd_1_5)) rfl rfl rfl qX6_part ⟨Nat.le_of_ble_eq_true rfl, Nat.le_of_ble_eq_true rfl⟩) (kg_preVW (ci := 6) (q := (RX6, TX6, 30)) (q0 := 0) (kg_cutP hPx) (kg_cutD hDx) hK hN rfl rfl) rfl rfl hl.1 rfl (lv_room (Nat.le_of_ble_eq_true rfl)) dL_law_809 ⟨hkc, hkn⟩) (fun H locs hP hD hS => ?_)
  refine lv_icmp_eq (tgt := 1091) hx hb dL_law_812 (by decide) (fun _ => ?_) (fun hc => absurd rfl hc)
  exact hnext X M2 hI2 H locs hP hD hS ls hl
set_option maxHeartbeats 4000000 in
set_option maxRecDepth 100000 in
theorem lc_centre {p : Program} {l : Launch} {e : Env} {s : State} {m : MethodId} {below : List Frame} {meth : Method} {c : Code} {b L : Nat} {xs : Nat → Int32} {kc kn : Nat} {Inv : SBS → MdS → Prop} (dC : Nat → ClassId) (dI : Nat → Nat → Nat) (cI cJ : ClassId) (A B : Nat → Nat) (hL : L ≤ 2048) (C0 : lw_At p s m meth c b L xs) (hPC : PC_all Inv) (X : SBS) (M : MdS) (hI : Inv X M) (H : Heap) (locs : List Loc) (hK : va_K (dC, dI) vwCl (vTy cI cJ) s) (hN : nwAll s) (hP : va_P (dC, dI) vwCl (wSB cI cJ A X ++ wMd cI cJ B M) H) (hD : va_D (fun q : Nat => s.heap.size ≤ q) (wSB cI cJ A X ++ wMd cI cJ B M)) (hS : va_S (fun q : Nat => s.heap.size ≤ q) s.heap H locs) (x3 : Int32) (hin1 : vp_in (x3 + 1) L) (hin2 : vp_in (x3 + 2) L) (hin3 : vp_in (x3 + 3) L) (hkc : kc ≤ 600000) (hkn : kn ≤ 7302250) (hnext : ∀ (X : SBS) (M : MdS), Inv X M → ∀ (H : Heap) (locs : List Loc), va_P (dC, dI) vwCl (wSB cI cJ A X ++ wMd cI cJ B M) H → va_D (fun q : Nat => s.heap.size ≤ q) (wSB cI cJ A X ++ wMd cI cJ B M) → va_S (fun q : Nat => s.heap.size ≤ q) s.heap H locs → ∀ ls : Array Slot, lv_has ls 4 [(0, .ref b), (1, .ref (A 0)), (2, .ref (B 0)), (3, .int x3)] → W p l e room_1 s m #[Value.ref b] below meth c H locs kc kn (lw_Z below #[Value.ref b] s) (F0 m 1091 ls [])) (ls : Array Slot) (hl : lv_has ls 4 [(0, .ref b), (1, .ref (A 0)), (2, .ref (B 0)), (3, .int x3)]) : W p l e room_1 s m #[Value.ref b] below meth c H locs kc kn (lw_Z below #[Value.ref b] s) (F0 m 817 ls []) := by
  obtain ⟨hx, hb, hr, hml, hown, hts0, hX, hbl, hlocks, hgv⟩ := C0
  have hts : ∀ w ∈ wsL_law, w.before #[Value.ref b] s = true := fun w h => hts0 w (wsL_law_in w h)
  have hA : ∀ q : Nat, s.heap.size ≤ q → (fun q : Nat => s.heap.size ≤ q) q := fun _ h => h
  have hbA : ¬ (fun q : Nat => s.heap.size ≤ q) b := Nat.not_le.mpr hbl
  obtain ⟨r, X2, M2, h1, h2, hI2⟩ := hPC.2.2.2.2.2.2.2.2.2.2.2.2.2.2.2.2.2.2.2.2.2.2.1 X M hI (xs (x3 + 1).toNatClampNeg)
  refine lv_aload_n hx hb dL_law_817 rfl (lv_at hl 1 rfl) ?_
  refine lv_aload_n hx hb dL_law_818 rfl (lv_at hl 0 rfl) ?_
  refine lv_iload_n hx hb dL_law_819 rfl (lv_at hl 3 rfl) ?_
  refine lv_iconst (v := 1) hx hb dL_law_820 (by decide) ?_
  refine lv_iadd hx hb dL_law_821 ?_
  refine va_sld hx hb hX hbl hbA hS hin1 dL_law_822 ?_
  have hPx : va_P (dC, dI) vwCl (([] : va_W) ++ (wSB cI cJ A X ++ wMd cI cJ B M)) H := hP
  have hDx : va_D _ (([] : va_W) ++ (wSB cI cJ A X ++ wMd cI cJ B M)) := hD
  refine kg_retWi (w1 := wSB cI cJ A X2) (wz := (wSB cI cJ A X2 ++ wMd cI cJ B M)) (r := r) rfl hPx hDx hS hA (va_runV (As := [.int (xs (x3 + 1).toNatClampNeg)]) (rest := []) ⟨hx, hb, hml, hown, hts⟩ (c_X5_centre l dC dI cI cJ A H.size X (xs (x3 + 1).toNatClampNeg) _ h1) (cwV 1 hts (gw_inL (al_V wd_38_14 wd_38_11 wd_38_12 wd_38_13 wd_1_2)) rfl rfl rfl qX5_centre ⟨Nat.le_of_ble_eq_true rfl, Nat.le_of_ble_eq_true rfl⟩) (kg_preVW (ci := 5) (q := (RX5, TX5, 6)) (q0 := 0) (kg_cutP hPx) (kg_cutD hDx) hK hN rfl rfl) rfl rfl hl.1 rfl (lv_room (Nat.le_of_ble_eq_true rfl)) dL_law_823 ⟨hkc, hkn⟩) (fun H locs hP hD hS => ?_)
  refine lv_aload_n hx hb dL_law_826 rfl (lv_at hl 2 rfl) ?_
  refine lv_aload_n hx hb dL_law_827 rfl (lv_at hl 0 rfl) ?_
  refine lv_iload_n hx hb dL_law_828 rfl (lv_at hl 3 rfl) ?_
  refine lv_iconst (v := 1) hx hb dL_law_829 (by decide) ?_
  refine lv_iadd hx hb dL_law_830 ?_
  refine va_sld hx hb hX hbl hbA hS hin1 dL_law_831 ?_
  have hPx : va_P (dC, dI) vwCl (wSB cI cJ A X2 ++ (wMd cI cJ B M ++ ([] : va_W))) H := by rw [List.append_nil]; exact hP
  have hDx : va_D (fun q : Nat => s.heap.size ≤ q) (wSB cI cJ A X2 ++ (wMd cI cJ B M ++ ([] : va_W))) := by rw [List.append_nil]; exact hD
  refine kg_retWi (w1 := wMd cI cJ B M2) (wz := (wSB cI cJ A X2 ++ wMd cI cJ B M2)) (r := r) (by rw [List.append_nil]) hPx hDx hS hA (va_runV (As := [.int (xs (x3 + 1).toNatClampNeg)]) (rest := [.int r]) ⟨hx, hb, hml, hown, hts⟩ (c_X6_centre l dC dI cI cJ B H.size M (xs (x3 + 1).toNatClampNeg) _ h2) (cwV 1 hts (gw_inL (al_V wd_38_22 wd_38_19 wd_38_20 wd_38_21 wd_1_5)) rfl rfl rfl qX6_centre ⟨Nat.le_of_ble_eq_true rfl, Nat.le_of_ble_eq_true rfl⟩) (kg_preVW (ci := 6) (q := (RX6, TX6, 30)) (q0 := 0) (kg_cutP hPx) (kg_cutD hDx) hK hN rfl rfl) rfl rfl hl.1 rfl (lv_room (Nat.le_of_ble_eq_true rfl)) dL_law_832 ⟨hkc, hkn⟩) (fun H locs hP hD hS => ?_)
  refine lv_icmp_eq (tgt := 1091) hx hb dL_law_835 (by decide) (fun _ => ?_) (fun hc => absurd rfl hc)
  exact hnext X2 M2 hI2 H locs hP hD hS ls hl
set_option maxHeartbeats 4000000 in
set_option maxRecDepth 100000 in
theorem lc_between {p : Program} {l : Launch} {e : Env} {s : State} {m : MethodId} {below : List Frame} {meth : Method} {c : Code} {b L : Nat} {xs : Nat → Int32} {kc kn : Nat} {Inv : SBS → MdS → Prop} (dC : Nat → ClassId) (dI : Nat → Nat → Nat) (cI cJ : ClassId) (A B : Nat → Nat) (hL : L ≤ 2048) (C0 : lw_At p s m meth c b L xs) (hPC : PC_all Inv) (X : SBS) (M : MdS) (hI : Inv X M) (H : Heap) (locs : List Loc) (hK : va_K (dC, dI) vwCl (vTy cI cJ) s) (hN : nwAll s) (hP : va_P (dC, dI) vwCl (wSB cI cJ A X ++ wMd cI cJ B M) H) (hD : va_D (fun q : Nat => s.heap.size ≤ q) (wSB cI cJ A X ++ wMd cI cJ B M)) (hS : va_S (fun q : Nat => s.heap.size ≤ q) s.heap H locs) (x3 : Int32) (hin1 : vp_in (x3 + 1) L) (hin2 : vp_in (x3 + 2) L) (hin3 : vp_in (x3 + 3) L) (hkc : kc ≤ 600000) (hkn : kn ≤ 7302250) (hnext : ∀ (X : SBS) (M : MdS), Inv X M → ∀ (H : Heap) (locs : List Loc), va_P (dC, dI) vwCl (wSB cI cJ A X ++ wMd cI cJ B M) H → va_D (fun q : Nat => s.heap.size ≤ q) (wSB cI cJ A X ++ wMd cI cJ B M) → va_S (fun q : Nat => s.heap.size ≤ q) s.heap H locs → ∀ ls : Array Slot, lv_has ls 4 [(0, .ref b), (1, .ref (A 0)), (2, .ref (B 0)), (3, .int x3)] → W p l e room_1 s m #[Value.ref b] below meth c H locs kc kn (lw_Z below #[Value.ref b] s) (F0 m 1091 ls [])) (ls : Array Slot) (hl : lv_has ls 4 [(0, .ref b), (1, .ref (A 0)), (2, .ref (B 0)), (3, .int x3)]) : W p l e room_1 s m #[Value.ref b] below meth c H locs kc kn (lw_Z below #[Value.ref b] s) (F0 m 840 ls []) := by
  obtain ⟨hx, hb, hr, hml, hown, hts0, hX, hbl, hlocks, hgv⟩ := C0
  have hts : ∀ w ∈ wsL_law, w.before #[Value.ref b] s = true := fun w h => hts0 w (wsL_law_in w h)
  have hA : ∀ q : Nat, s.heap.size ≤ q → (fun q : Nat => s.heap.size ≤ q) q := fun _ h => h
  have hbA : ¬ (fun q : Nat => s.heap.size ≤ q) b := Nat.not_le.mpr hbl
  obtain ⟨r, X2, M2, h1, h2, hI2⟩ := hPC.2.2.2.2.2.2.2.2.2.2.2.2.2.2.2.2.2.2.2.2.2.2.2.1 X M hI (xs (x3 + 1).toNatClampNeg) (xs (x3 + 2).toNatClampNeg) (xs (x3 + 3).toNatClampNeg)
  refine lv_aload_n hx hb dL_law_840 rfl (lv_at hl 1 rfl) ?_
  refine lv_aload_n hx hb dL_law_841 rfl (lv_at hl 0 rfl) ?_
  refine lv_iload_n hx hb dL_law_842 rfl (lv_at hl 3 rfl) ?_
  refine lv_iconst (v := 1) hx hb dL_law_843 (by decide) ?_
  refine lv_iadd hx hb dL_law_844 ?_
  refine va_sld hx hb hX hbl hbA hS hin1 dL_law_845 ?_
  refine lv_aload_n hx hb dL_law_846 rfl (lv_at hl 0 rfl) ?_
  refine lv_iload_n hx hb dL_law_847 rfl (lv_at hl 3 rfl) ?_
  refine lv_iconst (v := 2) hx hb dL_law_848 (by decide) ?_
  refine lv_iadd hx hb dL_law_849 ?_
  refine va_sld hx hb hX hbl hbA hS hin2 dL_law_850 ?_
  refine lv_aload_n hx hb dL_law_851 rfl (lv_at hl 0 rfl) ?_
  refine lv_iload_n hx hb dL_law_852 rfl (lv_at hl 3 rfl) ?_
  refine lv_iconst (v := 3) hx hb dL_law_853 (by decide) ?_
  refine lv_iadd hx hb dL_law_854 ?_
  refine va_sld hx hb hX hbl hbA hS hin3 dL_law_855 ?_
  have hPx : va_P (dC, dI) vwCl (([] : va_W) ++ (wSB cI cJ A X ++ wMd cI cJ B M)) H := hP
  have hDx : va_D _ (([] : va_W) ++ (wSB cI cJ A X ++ wMd cI cJ B M)) := hD
  refine kg_retWi (w1 := wSB cI cJ A X2) (wz := (wSB cI cJ A X2 ++ wMd cI cJ B M)) (r := r) rfl hPx hDx hS hA (va_runV (As := [.int (xs (x3 + 1).toNatClampNeg), .int (xs (x3 + 2).toNatClampNeg), .int (xs (x3 + 3).toNatClampNeg)]) (rest := []) ⟨hx, hb, hml, hown, hts⟩ (c_X5_between l dC dI cI cJ A H.size X (xs (x3 + 1).toNatClampNeg) (xs (x3 + 2).toNatClampNeg) (xs (x3 + 3).toNatClampNeg) _ h1) (cwV 3 hts (gw_inL (al_V wd_39_2 wd_38_23 wd_39_0 wd_39_1 wd_1_2)) rfl rfl rfl qX5_between ⟨Nat.le_of_ble_eq_true rfl, Nat.le_of_ble_eq_true rfl⟩) (kg_preVW (ci := 5) (q := (RX5, TX5, 6)) (q0 := 0) (kg_cutP hPx) (kg_cutD hDx) hK hN rfl rfl) rfl rfl hl.1 rfl (lv_room (Nat.le_of_ble_eq_true rfl)) dL_law_856 ⟨hkc, hkn⟩) (fun H locs hP hD hS => ?_)
  refine lv_aload_n hx hb dL_law_859 rfl (lv_at hl 2 rfl) ?_
  refine lv_aload_n hx hb dL_law_860 rfl (lv_at hl 0 rfl) ?_
  refine lv_iload_n hx hb dL_law_861 rfl (lv_at hl 3 rfl) ?_
  refine lv_iconst (v := 1) hx hb dL_law_862 (by decide) ?_
  refine lv_iadd hx hb dL_law_863 ?_
  refine va_sld hx hb hX hbl hbA hS hin1 dL_law_864 ?_
  refine lv_aload_n hx hb dL_law_865 rfl (lv_at hl 0 rfl) ?_
  refine lv_iload_n hx hb dL_law_866 rfl (lv_at hl 3 rfl) ?_
  refine lv_iconst (v := 2) hx hb dL_law_867 (by decide) ?_
  refine lv_iadd hx hb dL_law_868 ?_
  refine va_sld hx hb hX hbl hbA hS hin2 dL_law_869 ?_
  refine lv_aload_n hx hb dL_law_870 rfl (lv_at hl 0 rfl) ?_
  refine lv_iload_n hx hb dL_law_871 rfl (lv_at hl 3 rfl) ?_
  refine lv_iconst (v := 3) hx hb dL_law_872 (by decide) ?_
  refine lv_iadd hx hb dL_law_873 ?_
  refine va_sld hx hb hX hbl hbA hS hin3 dL_law_874 ?_
  have hPx : va_P (dC, dI) vwCl (wSB cI cJ A X2 ++ (wMd cI cJ B M ++ ([] : va_W))) H := by rw [List.append_nil]; exact hP
  have hDx : va_D (fun q : Nat => s.heap.size ≤ q) (wSB cI cJ A X2 ++ (wMd cI cJ B M ++ ([] : va_W))) := by rw [List.append_nil]; exact hD
  refine kg_retWi (w1 := wMd cI cJ B M2) (wz := (wSB cI cJ A X2 ++ wMd cI cJ B M2)) (r := r) (by rw [List.append_nil]) hPx hDx hS hA (va_runV (As := [.int (xs (x3 + 1).toNatClampNeg), .int (xs (x3 + 2).toNatClampNeg), .int (xs (x3 + 3).toNatClampNeg)]) (rest := [.int r]) ⟨hx, hb, hml, hown, hts⟩ (c_X6_between l dC dI cI cJ B H.size M (xs (x3 + 1).toNatClampNeg) (xs (x3 + 2).toNatClampNeg) (xs (x3 + 3).toNatClampNeg) _ h2) (cwV 3 hts (gw_inL (al_V wd_39_11 wd_39_8 wd_39_9 wd_39_10 wd_1_5)) rfl rfl rfl qX6_between ⟨Nat.le_of_ble_eq_true rfl, Nat.le_of_ble_eq_true rfl⟩) (kg_preVW (ci := 6) (q := (RX6, TX6, 30)) (q0 := 0) (kg_cutP hPx) (kg_cutD hDx) hK hN rfl rfl) rfl rfl hl.1 rfl (lv_room (Nat.le_of_ble_eq_true rfl)) dL_law_875 ⟨hkc, hkn⟩) (fun H locs hP hD hS => ?_)
  refine lv_icmp_eq (tgt := 1091) hx hb dL_law_878 (by decide) (fun _ => ?_) (fun hc => absurd rfl hc)
  exact hnext X2 M2 hI2 H locs hP hD hS ls hl
set_option maxHeartbeats 4000000 in
set_option maxRecDepth 100000 in
theorem lc_mending {p : Program} {l : Launch} {e : Env} {s : State} {m : MethodId} {below : List Frame} {meth : Method} {c : Code} {b L : Nat} {xs : Nat → Int32} {kc kn : Nat} {Inv : SBS → MdS → Prop} (dC : Nat → ClassId) (dI : Nat → Nat → Nat) (cI cJ : ClassId) (A B : Nat → Nat) (hL : L ≤ 2048) (C0 : lw_At p s m meth c b L xs) (hPC : PC_all Inv) (X : SBS) (M : MdS) (hI : Inv X M) (H : Heap) (locs : List Loc) (hK : va_K (dC, dI) vwCl (vTy cI cJ) s) (hN : nwAll s) (hP : va_P (dC, dI) vwCl (wSB cI cJ A X ++ wMd cI cJ B M) H) (hD : va_D (fun q : Nat => s.heap.size ≤ q) (wSB cI cJ A X ++ wMd cI cJ B M)) (hS : va_S (fun q : Nat => s.heap.size ≤ q) s.heap H locs) (x3 : Int32) (hin1 : vp_in (x3 + 1) L) (hin2 : vp_in (x3 + 2) L) (hin3 : vp_in (x3 + 3) L) (hkc : kc ≤ 600000) (hkn : kn ≤ 7302250) (hnext : ∀ (X : SBS) (M : MdS), Inv X M → ∀ (H : Heap) (locs : List Loc), va_P (dC, dI) vwCl (wSB cI cJ A X ++ wMd cI cJ B M) H → va_D (fun q : Nat => s.heap.size ≤ q) (wSB cI cJ A X ++ wMd cI cJ B M) → va_S (fun q : Nat => s.heap.size ≤ q) s.heap H locs → ∀ ls : Array Slot, lv_has ls 4 [(0, .ref b), (1, .ref (A 0)), (2, .ref (B 0)), (3, .int x3)] → W p l e room_1 s m #[Value.ref b] below meth c H locs kc kn (lw_Z below #[Value.ref b] s) (F0 m 1091 ls [])) (ls : Array Slot) (hl : lv_has ls 4 [(0, .ref b), (1, .ref (A 0)), (2, .ref (B 0)), (3, .int x3)]) : W p l e room_1 s m #[Value.ref b] below meth c H locs kc kn (lw_Z below #[Value.ref b] s) (F0 m 883 ls []) := by
  obtain ⟨hx, hb, hr, hml, hown, hts0, hX, hbl, hlocks, hgv⟩ := C0
  have hts : ∀ w ∈ wsL_law, w.before #[Value.ref b] s = true := fun w h => hts0 w (wsL_law_in w h)
  have hA : ∀ q : Nat, s.heap.size ≤ q → (fun q : Nat => s.heap.size ≤ q) q := fun _ h => h
  have hbA : ¬ (fun q : Nat => s.heap.size ≤ q) b := Nat.not_le.mpr hbl
  obtain ⟨r, M2, h1, h2, hI2⟩ := hPC.2.2.2.2.2.2.2.2.2.2.2.2.2.2.2.2.2.2.2.2.2.2.2.2.1 X M hI (xs (x3 + 1).toNatClampNeg) (xs (x3 + 2).toNatClampNeg) (xs (x3 + 3).toNatClampNeg)
  refine lv_aload_n hx hb dL_law_883 rfl (lv_at hl 1 rfl) ?_
  refine lv_aload_n hx hb dL_law_884 rfl (lv_at hl 0 rfl) ?_
  refine lv_iload_n hx hb dL_law_885 rfl (lv_at hl 3 rfl) ?_
  refine lv_iconst (v := 1) hx hb dL_law_886 (by decide) ?_
  refine lv_iadd hx hb dL_law_887 ?_
  refine va_sld hx hb hX hbl hbA hS hin1 dL_law_888 ?_
  refine lv_aload_n hx hb dL_law_889 rfl (lv_at hl 0 rfl) ?_
  refine lv_iload_n hx hb dL_law_890 rfl (lv_at hl 3 rfl) ?_
  refine lv_iconst (v := 2) hx hb dL_law_891 (by decide) ?_
  refine lv_iadd hx hb dL_law_892 ?_
  refine va_sld hx hb hX hbl hbA hS hin2 dL_law_893 ?_
  refine lv_aload_n hx hb dL_law_894 rfl (lv_at hl 0 rfl) ?_
  refine lv_iload_n hx hb dL_law_895 rfl (lv_at hl 3 rfl) ?_
  refine lv_iconst (v := 3) hx hb dL_law_896 (by decide) ?_
  refine lv_iadd hx hb dL_law_897 ?_
  refine va_sld hx hb hX hbl hbA hS hin3 dL_law_898 ?_
  have hPc : va_P (dC, dI) vwCl (wSB cI cJ A X) H := kg_cutP (pre := []) hP
  refine kg_retRi (va_runV (As := [.int (xs (x3 + 1).toNatClampNeg), .int (xs (x3 + 2).toNatClampNeg), .int (xs (x3 + 3).toNatClampNeg)]) (rest := []) ⟨hx, hb, hml, hown, hts⟩ (c_X5_mending l dC dI cI cJ A H X (xs (x3 + 1).toNatClampNeg) (xs (x3 + 2).toNatClampNeg) (xs (x3 + 3).toNatClampNeg) _ h1) (cwV 3 hts (gw_inL (al_V wd_39_15 wd_39_12 wd_39_13 wd_39_14 wd_1_2)) rfl rfl rfl qX5_mending ⟨Nat.le_of_ble_eq_true rfl, Nat.le_of_ble_eq_true rfl⟩) (kg_preVR (ci := 5) (q := (RX5, TX5, 6)) (q0 := 0) hPc hK hN rfl rfl) rfl rfl hl.1 rfl (lv_room (Nat.le_of_ble_eq_true rfl)) dL_law_899 ⟨hkc, hkn⟩) ?_
  refine lv_aload_n hx hb dL_law_902 rfl (lv_at hl 2 rfl) ?_
  refine lv_aload_n hx hb dL_law_903 rfl (lv_at hl 0 rfl) ?_
  refine lv_iload_n hx hb dL_law_904 rfl (lv_at hl 3 rfl) ?_
  refine lv_iconst (v := 1) hx hb dL_law_905 (by decide) ?_
  refine lv_iadd hx hb dL_law_906 ?_
  refine va_sld hx hb hX hbl hbA hS hin1 dL_law_907 ?_
  refine lv_aload_n hx hb dL_law_908 rfl (lv_at hl 0 rfl) ?_
  refine lv_iload_n hx hb dL_law_909 rfl (lv_at hl 3 rfl) ?_
  refine lv_iconst (v := 2) hx hb dL_law_910 (by decide) ?_
  refine lv_iadd hx hb dL_law_911 ?_
  refine va_sld hx hb hX hbl hbA hS hin2 dL_law_912 ?_
  refine lv_aload_n hx hb dL_law_913 rfl (lv_at hl 0 rfl) ?_
  refine lv_iload_n hx hb dL_law_914 rfl (lv_at hl 3 rfl) ?_
  refine lv_iconst (v := 3) hx hb dL_law_915 (by decide) ?_
  refine lv_iadd hx hb dL_law_916 ?_
  refine va_sld hx hb hX hbl hbA hS hin3 dL_law_917 ?_
  have hPx : va_P (dC, dI) vwCl (wSB cI cJ A X ++ (wMd cI cJ B M ++ ([] : va_W))) H := by rw [List.append_nil]; exact hP
  have hDx : va_D (fun q : Nat => s.heap.size ≤ q) (wSB cI cJ A X ++ (wMd cI cJ B M ++ ([] : va_W))) := by rw [List.append_nil]; exact hD
  refine kg_retWi (w1 := wMd cI cJ B M2) (wz := (wSB cI cJ A X ++ wMd cI cJ B M2)) (r := r) (by rw [List.append_nil]) hPx hDx hS hA (va_runV (As := [.int (xs (x3 + 1).toNatClampNeg), .int (xs (x3 + 2).toNatClampNeg), .int (xs (x3 + 3).toNatClampNeg)]) (rest := [.int r]) ⟨hx, hb, hml, hown, hts⟩ (c_X6_mending l dC dI cI cJ B H.size M (xs (x3 + 1).toNatClampNeg) (xs (x3 + 2).toNatClampNeg) (xs (x3 + 3).toNatClampNeg) _ h2) (cwV 3 hts (gw_inL (al_V wd_39_23 wd_39_20 wd_39_21 wd_39_22 wd_1_5)) rfl rfl rfl qX6_mending ⟨Nat.le_of_ble_eq_true rfl, Nat.le_of_ble_eq_true rfl⟩) (kg_preVW (ci := 6) (q := (RX6, TX6, 30)) (q0 := 0) (kg_cutP hPx) (kg_cutD hDx) hK hN rfl rfl) rfl rfl hl.1 rfl (lv_room (Nat.le_of_ble_eq_true rfl)) dL_law_918 ⟨hkc, hkn⟩) (fun H locs hP hD hS => ?_)
  refine lv_icmp_eq (tgt := 1091) hx hb dL_law_921 (by decide) (fun _ => ?_) (fun hc => absurd rfl hc)
  exact hnext X M2 hI2 H locs hP hD hS ls hl
set_option maxHeartbeats 4000000 in
set_option maxRecDepth 100000 in
theorem lc_without {p : Program} {l : Launch} {e : Env} {s : State} {m : MethodId} {below : List Frame} {meth : Method} {c : Code} {b L : Nat} {xs : Nat → Int32} {kc kn : Nat} {Inv : SBS → MdS → Prop} (dC : Nat → ClassId) (dI : Nat → Nat → Nat) (cI cJ : ClassId) (A B : Nat → Nat) (hL : L ≤ 2048) (C0 : lw_At p s m meth c b L xs) (hPC : PC_all Inv) (X : SBS) (M : MdS) (hI : Inv X M) (H : Heap) (locs : List Loc) (hK : va_K (dC, dI) vwCl (vTy cI cJ) s) (hN : nwAll s) (hP : va_P (dC, dI) vwCl (wSB cI cJ A X ++ wMd cI cJ B M) H) (hD : va_D (fun q : Nat => s.heap.size ≤ q) (wSB cI cJ A X ++ wMd cI cJ B M)) (hS : va_S (fun q : Nat => s.heap.size ≤ q) s.heap H locs) (x3 : Int32) (hin1 : vp_in (x3 + 1) L) (hin2 : vp_in (x3 + 2) L) (hin3 : vp_in (x3 + 3) L) (hkc : kc ≤ 600000) (hkn : kn ≤ 7302250) (hnext : ∀ (X : SBS) (M : MdS), Inv X M → ∀ (H : Heap) (locs : List Loc), va_P (dC, dI) vwCl (wSB cI cJ A X ++ wMd cI cJ B M) H → va_D (fun q : Nat => s.heap.size ≤ q) (wSB cI cJ A X ++ wMd cI cJ B M) → va_S (fun q : Nat => s.heap.size ≤ q) s.heap H locs → ∀ ls : Array Slot, lv_has ls 4 [(0, .ref b), (1, .ref (A 0)), (2, .ref (B 0)), (3, .int x3)] → W p l e room_1 s m #[Value.ref b] below meth c H locs kc kn (lw_Z below #[Value.ref b] s) (F0 m 1091 ls [])) (ls : Array Slot) (hl : lv_has ls 4 [(0, .ref b), (1, .ref (A 0)), (2, .ref (B 0)), (3, .int x3)]) : W p l e room_1 s m #[Value.ref b] below meth c H locs kc kn (lw_Z below #[Value.ref b] s) (F0 m 926 ls []) := by
  obtain ⟨hx, hb, hr, hml, hown, hts0, hX, hbl, hlocks, hgv⟩ := C0
  have hts : ∀ w ∈ wsL_law, w.before #[Value.ref b] s = true := fun w h => hts0 w (wsL_law_in w h)
  have hA : ∀ q : Nat, s.heap.size ≤ q → (fun q : Nat => s.heap.size ≤ q) q := fun _ h => h
  have hbA : ¬ (fun q : Nat => s.heap.size ≤ q) b := Nat.not_le.mpr hbl
  obtain ⟨r, X2, M2, h1, h2, hI2⟩ := hPC.2.2.2.2.2.2.2.2.2.2.2.2.2.2.2.2.2.2.2.2.2.2.2.2.2.1 X M hI (xs (x3 + 1).toNatClampNeg) (xs (x3 + 2).toNatClampNeg) (xs (x3 + 3).toNatClampNeg)
  refine lv_aload_n hx hb dL_law_926 rfl (lv_at hl 1 rfl) ?_
  refine lv_aload_n hx hb dL_law_927 rfl (lv_at hl 0 rfl) ?_
  refine lv_iload_n hx hb dL_law_928 rfl (lv_at hl 3 rfl) ?_
  refine lv_iconst (v := 1) hx hb dL_law_929 (by decide) ?_
  refine lv_iadd hx hb dL_law_930 ?_
  refine va_sld hx hb hX hbl hbA hS hin1 dL_law_931 ?_
  refine lv_aload_n hx hb dL_law_932 rfl (lv_at hl 0 rfl) ?_
  refine lv_iload_n hx hb dL_law_933 rfl (lv_at hl 3 rfl) ?_
  refine lv_iconst (v := 2) hx hb dL_law_934 (by decide) ?_
  refine lv_iadd hx hb dL_law_935 ?_
  refine va_sld hx hb hX hbl hbA hS hin2 dL_law_936 ?_
  refine lv_aload_n hx hb dL_law_937 rfl (lv_at hl 0 rfl) ?_
  refine lv_iload_n hx hb dL_law_938 rfl (lv_at hl 3 rfl) ?_
  refine lv_iconst (v := 3) hx hb dL_law_939 (by decide) ?_
  refine lv_iadd hx hb dL_law_940 ?_
  refine va_sld hx hb hX hbl hbA hS hin3 dL_law_941 ?_
  have hPx : va_P (dC, dI) vwCl (([] : va_W) ++ (wSB cI cJ A X ++ wMd cI cJ B M)) H := hP
  have hDx : va_D _ (([] : va_W) ++ (wSB cI cJ A X ++ wMd cI cJ B M)) := hD
  refine kg_retWi (w1 := wSB cI cJ A X2) (wz := (wSB cI cJ A X2 ++ wMd cI cJ B M)) (r := r) rfl hPx hDx hS hA (va_runV (As := [.int (xs (x3 + 1).toNatClampNeg), .int (xs (x3 + 2).toNatClampNeg), .int (xs (x3 + 3).toNatClampNeg)]) (rest := []) ⟨hx, hb, hml, hown, hts⟩ (c_X5_without l dC dI cI cJ A H.size X (xs (x3 + 1).toNatClampNeg) (xs (x3 + 2).toNatClampNeg) (xs (x3 + 3).toNatClampNeg) _ h1) (cwV 3 hts (gw_inL (al_V wd_40_8 wd_40_5 wd_40_6 wd_40_7 wd_1_2)) rfl rfl rfl qX5_without ⟨Nat.le_of_ble_eq_true rfl, Nat.le_of_ble_eq_true rfl⟩) (kg_preVW (ci := 5) (q := (RX5, TX5, 6)) (q0 := 0) (kg_cutP hPx) (kg_cutD hDx) hK hN rfl rfl) rfl rfl hl.1 rfl (lv_room (Nat.le_of_ble_eq_true rfl)) dL_law_942 ⟨hkc, hkn⟩) (fun H locs hP hD hS => ?_)
  refine lv_aload_n hx hb dL_law_945 rfl (lv_at hl 2 rfl) ?_
  refine lv_aload_n hx hb dL_law_946 rfl (lv_at hl 0 rfl) ?_
  refine lv_iload_n hx hb dL_law_947 rfl (lv_at hl 3 rfl) ?_
  refine lv_iconst (v := 1) hx hb dL_law_948 (by decide) ?_
  refine lv_iadd hx hb dL_law_949 ?_
  refine va_sld hx hb hX hbl hbA hS hin1 dL_law_950 ?_
  refine lv_aload_n hx hb dL_law_951 rfl (lv_at hl 0 rfl) ?_
  refine lv_iload_n hx hb dL_law_952 rfl (lv_at hl 3 rfl) ?_
  refine lv_iconst (v := 2) hx hb dL_law_953 (by decide) ?_
  refine lv_iadd hx hb dL_law_954 ?_
  refine va_sld hx hb hX hbl hbA hS hin2 dL_law_955 ?_
  refine lv_aload_n hx hb dL_law_956 rfl (lv_at hl 0 rfl) ?_
  refine lv_iload_n hx hb dL_law_957 rfl (lv_at hl 3 rfl) ?_
  refine lv_iconst (v := 3) hx hb dL_law_958 (by decide) ?_
  refine lv_iadd hx hb dL_law_959 ?_
  refine va_sld hx hb hX hbl hbA hS hin3 dL_law_960 ?_
  have hPx : va_P (dC, dI) vwCl (wSB cI cJ A X2 ++ (wMd cI cJ B M ++ ([] : va_W))) H := by rw [List.append_nil]; exact hP
  have hDx : va_D (fun q : Nat => s.heap.size ≤ q) (wSB cI cJ A X2 ++ (wMd cI cJ B M ++ ([] : va_W))) := by rw [List.append_nil]; exact hD
  refine kg_retWi (w1 := wMd cI cJ B M2) (wz := (wSB cI cJ A X2 ++ wMd cI cJ B M2)) (r := r) (by rw [List.append_nil]) hPx hDx hS hA (va_runV (As := [.int (xs (x3 + 1).toNatClampNeg), .int (xs (x3 + 2).toNatClampNeg), .int (xs (x3 + 3).toNatClampNeg)]) (rest := [.int r]) ⟨hx, hb, hml, hown, hts⟩ (c_X6_without l dC dI cI cJ B H.size M (xs (x3 + 1).toNatClampNeg) (xs (x3 + 2).toNatClampNeg) (xs (x3 + 3).toNatClampNeg) _ h2) (cwV 3 hts (gw_inL (al_V wd_40_18 wd_40_15 wd_40_16 wd_40_17 wd_1_5)) rfl rfl rfl qX6_without ⟨Nat.le_of_ble_eq_true rfl, Nat.le_of_ble_eq_true rfl⟩) (kg_preVW (ci := 6) (q := (RX6, TX6, 30)) (q0 := 0) (kg_cutP hPx) (kg_cutD hDx) hK hN rfl rfl) rfl rfl hl.1 rfl (lv_room (Nat.le_of_ble_eq_true rfl)) dL_law_961 ⟨hkc, hkn⟩) (fun H locs hP hD hS => ?_)
  refine lv_icmp_eq (tgt := 1091) hx hb dL_law_964 (by decide) (fun _ => ?_) (fun hc => absurd rfl hc)
  exact hnext X2 M2 hI2 H locs hP hD hS ls hl
set_option maxHeartbeats 4000000 in
set_option maxRecDepth 100000 in
theorem lc_ring {p : Program} {l : Launch} {e : Env} {s : State} {m : MethodId} {below : List Frame} {meth : Method} {c : Code} {b L : Nat} {xs : Nat → Int32} {kc kn : Nat} {Inv : SBS → MdS → Prop} (dC : Nat → ClassId) (dI : Nat → Nat → Nat) (cI cJ : ClassId) (A B : Nat → Nat) (hL : L ≤ 2048) (C0 : lw_At p s m meth c b L xs) (hPC : PC_all Inv) (X : SBS) (M : MdS) (hI : Inv X M) (H : Heap) (locs : List Loc) (hK : va_K (dC, dI) vwCl (vTy cI cJ) s) (hN : nwAll s) (hP : va_P (dC, dI) vwCl (wSB cI cJ A X ++ wMd cI cJ B M) H) (hD : va_D (fun q : Nat => s.heap.size ≤ q) (wSB cI cJ A X ++ wMd cI cJ B M)) (hS : va_S (fun q : Nat => s.heap.size ≤ q) s.heap H locs) (x3 : Int32) (hin1 : vp_in (x3 + 1) L) (hin2 : vp_in (x3 + 2) L) (hin3 : vp_in (x3 + 3) L) (hkc : kc ≤ 600000) (hkn : kn ≤ 7302250) (hnext : ∀ (X : SBS) (M : MdS), Inv X M → ∀ (H : Heap) (locs : List Loc), va_P (dC, dI) vwCl (wSB cI cJ A X ++ wMd cI cJ B M) H → va_D (fun q : Nat => s.heap.size ≤ q) (wSB cI cJ A X ++ wMd cI cJ B M) → va_S (fun q : Nat => s.heap.size ≤ q) s.heap H locs → ∀ ls : Array Slot, lv_has ls 4 [(0, .ref b), (1, .ref (A 0)), (2, .ref (B 0)), (3, .int x3)] → W p l e room_1 s m #[Value.ref b] below meth c H locs kc kn (lw_Z below #[Value.ref b] s) (F0 m 1091 ls [])) (ls : Array Slot) (hl : lv_has ls 4 [(0, .ref b), (1, .ref (A 0)), (2, .ref (B 0)), (3, .int x3)]) : W p l e room_1 s m #[Value.ref b] below meth c H locs kc kn (lw_Z below #[Value.ref b] s) (F0 m 969 ls []) := by
  obtain ⟨hx, hb, hr, hml, hown, hts0, hX, hbl, hlocks, hgv⟩ := C0
  have hts : ∀ w ∈ wsL_law, w.before #[Value.ref b] s = true := fun w h => hts0 w (wsL_law_in w h)
  have hA : ∀ q : Nat, s.heap.size ≤ q → (fun q : Nat => s.heap.size ≤ q) q := fun _ h => h
  have hbA : ¬ (fun q : Nat => s.heap.size ≤ q) b := Nat.not_le.mpr hbl
  obtain ⟨r, X2, M2, h1, h2, hI2⟩ := hPC.2.2.2.2.2.2.2.2.2.2.2.2.2.2.2.2.2.2.2.2.2.2.2.2.2.2.1 X M hI (xs (x3 + 1).toNatClampNeg) (xs (x3 + 2).toNatClampNeg)
  refine lv_aload_n hx hb dL_law_969 rfl (lv_at hl 1 rfl) ?_
  refine lv_aload_n hx hb dL_law_970 rfl (lv_at hl 0 rfl) ?_
  refine lv_iload_n hx hb dL_law_971 rfl (lv_at hl 3 rfl) ?_
  refine lv_iconst (v := 1) hx hb dL_law_972 (by decide) ?_
  refine lv_iadd hx hb dL_law_973 ?_
  refine va_sld hx hb hX hbl hbA hS hin1 dL_law_974 ?_
  refine lv_aload_n hx hb dL_law_975 rfl (lv_at hl 0 rfl) ?_
  refine lv_iload_n hx hb dL_law_976 rfl (lv_at hl 3 rfl) ?_
  refine lv_iconst (v := 2) hx hb dL_law_977 (by decide) ?_
  refine lv_iadd hx hb dL_law_978 ?_
  refine va_sld hx hb hX hbl hbA hS hin2 dL_law_979 ?_
  have hPx : va_P (dC, dI) vwCl (([] : va_W) ++ (wSB cI cJ A X ++ wMd cI cJ B M)) H := hP
  have hDx : va_D _ (([] : va_W) ++ (wSB cI cJ A X ++ wMd cI cJ B M)) := hD
  refine kg_retWi (w1 := wSB cI cJ A X2) (wz := (wSB cI cJ A X2 ++ wMd cI cJ B M)) (r := r) rfl hPx hDx hS hA (va_runV (As := [.int (xs (x3 + 1).toNatClampNeg), .int (xs (x3 + 2).toNatClampNeg)]) (rest := []) ⟨hx, hb, hml, hown, hts⟩ (c_X5_ring l dC dI cI cJ A H.size X (xs (x3 + 1).toNatClampNeg) (xs (x3 + 2).toNatClampNeg) _ h1) (cwV 2 hts (gw_inL (al_V wd_41_11 wd_41_8 wd_41_9 wd_41_10 wd_1_2)) rfl rfl rfl qX5_ring ⟨Nat.le_of_ble_eq_true rfl, Nat.le_of_ble_eq_true rfl⟩) (kg_preVW (ci := 5) (q := (RX5, TX5, 6)) (q0 := 0) (kg_cutP hPx) (kg_cutD hDx) hK hN rfl rfl) rfl rfl hl.1 rfl (lv_room (Nat.le_of_ble_eq_true rfl)) dL_law_980 ⟨hkc, hkn⟩) (fun H locs hP hD hS => ?_)
  refine lv_aload_n hx hb dL_law_983 rfl (lv_at hl 2 rfl) ?_
  refine lv_aload_n hx hb dL_law_984 rfl (lv_at hl 0 rfl) ?_
  refine lv_iload_n hx hb dL_law_985 rfl (lv_at hl 3 rfl) ?_
  refine lv_iconst (v := 1) hx hb dL_law_986 (by decide) ?_
  refine lv_iadd hx hb dL_law_987 ?_
  refine va_sld hx hb hX hbl hbA hS hin1 dL_law_988 ?_
  refine lv_aload_n hx hb dL_law_989 rfl (lv_at hl 0 rfl) ?_
  refine lv_iload_n hx hb dL_law_990 rfl (lv_at hl 3 rfl) ?_
  refine lv_iconst (v := 2) hx hb dL_law_991 (by decide) ?_
  refine lv_iadd hx hb dL_law_992 ?_
  refine va_sld hx hb hX hbl hbA hS hin2 dL_law_993 ?_
  have hPx : va_P (dC, dI) vwCl (wSB cI cJ A X2 ++ (wMd cI cJ B M ++ ([] : va_W))) H := by rw [List.append_nil]; exact hP
  have hDx : va_D (fun q : Nat => s.heap.size ≤ q) (wSB cI cJ A X2 ++ (wMd cI cJ B M ++ ([] : va_W))) := by rw [List.append_nil]; exact hD
  refine kg_retWi (w1 := wMd cI cJ B M2) (wz := (wSB cI cJ A X2 ++ wMd cI cJ B M2)) (r := r) (by rw [List.append_nil]) hPx hDx hS hA (va_runV (As := [.int (xs (x3 + 1).toNatClampNeg), .int (xs (x3 + 2).toNatClampNeg)]) (rest := [.int r]) ⟨hx, hb, hml, hown, hts⟩ (c_X6_ring l dC dI cI cJ B H.size M (xs (x3 + 1).toNatClampNeg) (xs (x3 + 2).toNatClampNeg) _ h2) (cwV 2 hts (gw_inL (al_V wd_42_14 wd_42_11 wd_42_12 wd_42_13 wd_1_5)) rfl rfl rfl qX6_ring ⟨Nat.le_of_ble_eq_true rfl, Nat.le_of_ble_eq_true rfl⟩) (kg_preVW (ci := 6) (q := (RX6, TX6, 30)) (q0 := 0) (kg_cutP hPx) (kg_cutD hDx) hK hN rfl rfl) rfl rfl hl.1 rfl (lv_room (Nat.le_of_ble_eq_true rfl)) dL_law_994 ⟨hkc, hkn⟩) (fun H locs hP hD hS => ?_)
  refine lv_icmp_eq (tgt := 1091) hx hb dL_law_997 (by decide) (fun _ => ?_) (fun hc => absurd rfl hc)
  exact hnext X2 M2 hI2 H locs hP hD hS ls hl
set_option maxHeartbeats 4000000 in
set_option maxRecDepth 100000 in
theorem lc_wouldName {p : Program} {l : Launch} {e : Env} {s : State} {m : MethodId} {below : List Frame} {meth : Method} {c : Code} {b L : Nat} {xs : Nat → Int32} {kc kn : Nat} {Inv : SBS → MdS → Prop} (dC : Nat → ClassId) (dI : Nat → Nat → Nat) (cI cJ : ClassId) (A B : Nat → Nat) (hL : L ≤ 2048) (C0 : lw_At p s m meth c b L xs) (hPC : PC_all Inv) (X : SBS) (M : MdS) (hI : Inv X M) (H : Heap) (locs : List Loc) (hK : va_K (dC, dI) vwCl (vTy cI cJ) s) (hN : nwAll s) (hP : va_P (dC, dI) vwCl (wSB cI cJ A X ++ wMd cI cJ B M) H) (hD : va_D (fun q : Nat => s.heap.size ≤ q) (wSB cI cJ A X ++ wMd cI cJ B M)) (hS : va_S (fun q : Nat => s.heap.size ≤ q) s.heap H locs) (x3 : Int32) (hin1 : vp_in (x3 + 1) L) (hin2 : vp_in (x3 + 2) L) (hin3 : vp_in (x3 + 3) L) (hkc : kc ≤ 600000) (hkn : kn ≤ 7302250) (hnext : ∀ (X : SBS) (M : MdS), Inv X M → ∀ (H : Heap) (locs : List Loc), va_P (dC, dI) vwCl (wSB cI cJ A X ++ wMd cI cJ B M) H → va_D (fun q : Nat => s.heap.size ≤ q) (wSB cI cJ A X ++ wMd cI cJ B M) → va_S (fun q : Nat => s.heap.size ≤ q) s.heap H locs → ∀ ls : Array Slot, lv_has ls 4 [(0, .ref b), (1, .ref (A 0)), (2, .ref (B 0)), (3, .int x3)] → W p l e room_1 s m #[Value.ref b] below meth c H locs kc kn (lw_Z below #[Value.ref b] s) (F0 m 1091 ls [])) (ls : Array Slot) (hl : lv_has ls 4 [(0, .ref b), (1, .ref (A 0)), (2, .ref (B 0)), (3, .int x3)]) : W p l e room_1 s m #[Value.ref b] below meth c H locs kc kn (lw_Z below #[Value.ref b] s) (F0 m 1002 ls []) := by
  obtain ⟨hx, hb, hr, hml, hown, hts0, hX, hbl, hlocks, hgv⟩ := C0
  have hts : ∀ w ∈ wsL_law, w.before #[Value.ref b] s = true := fun w h => hts0 w (wsL_law_in w h)
  have hA : ∀ q : Nat, s.heap.size ≤ q → (fun q : Nat => s.heap.size ≤ q) q := fun _ h => h
  have hbA : ¬ (fun q : Nat => s.heap.size ≤ q) b := Nat.not_le.mpr hbl
  obtain ⟨r, X2, M2, h1, h2, hI2⟩ := hPC.2.2.2.2.2.2.2.2.2.2.2.2.2.2.2.2.2.2.2.2.2.2.2.2.2.2.2.1 X M hI (xs (x3 + 1).toNatClampNeg) (xs (x3 + 2).toNatClampNeg) (xs (x3 + 3).toNatClampNeg)
  refine lv_aload_n hx hb dL_law_1002 rfl (lv_at hl 1 rfl) ?_
  refine lv_aload_n hx hb dL_law_1003 rfl (lv_at hl 0 rfl) ?_
  refine lv_iload_n hx hb dL_law_1004 rfl (lv_at hl 3 rfl) ?_
  refine lv_iconst (v := 1) hx hb dL_law_1005 (by decide) ?_
  refine lv_iadd hx hb dL_law_1006 ?_
  refine va_sld hx hb hX hbl hbA hS hin1 dL_law_1007 ?_
  refine lv_aload_n hx hb dL_law_1008 rfl (lv_at hl 0 rfl) ?_
  refine lv_iload_n hx hb dL_law_1009 rfl (lv_at hl 3 rfl) ?_
  refine lv_iconst (v := 2) hx hb dL_law_1010 (by decide) ?_
  refine lv_iadd hx hb dL_law_1011 ?_
  refine va_sld hx hb hX hbl hbA hS hin2 dL_law_1012 ?_
  refine lv_aload_n hx hb dL_law_1013 rfl (lv_at hl 0 rfl) ?_
  refine lv_iload_n hx hb dL_law_1014 rfl (lv_at hl 3 rfl) ?_
  refine lv_iconst (v := 3) hx hb dL_law_1015 (by decide) ?_
  refine lv_iadd hx hb dL_law_1016 ?_
  refine va_sld hx hb hX hbl hbA hS hin3 dL_law_1017 ?_
  have hPx : va_P (dC, dI) vwCl (([] : va_W) ++ (wSB cI cJ A X ++ wMd cI cJ B M)) H := hP
  have hDx : va_D _ (([] : va_W) ++ (wSB cI cJ A X ++ wMd cI cJ B M)) := hD
  refine kg_retWi (w1 := wSB cI cJ A X2) (wz := (wSB cI cJ A X2 ++ wMd cI cJ B M)) (r := r) rfl hPx hDx hS hA (va_runV (As := [.int (xs (x3 + 1).toNatClampNeg), .int (xs (x3 + 2).toNatClampNeg), .int (xs (x3 + 3).toNatClampNeg)]) (rest := []) ⟨hx, hb, hml, hown, hts⟩ (c_X5_wouldName l dC dI cI cJ A H.size X (xs (x3 + 1).toNatClampNeg) (xs (x3 + 2).toNatClampNeg) (xs (x3 + 3).toNatClampNeg) _ h1) (cwV 3 hts (gw_inL (al_V wd_42_18 wd_42_15 wd_42_16 wd_42_17 wd_1_2)) rfl rfl rfl qX5_wouldName ⟨Nat.le_of_ble_eq_true rfl, Nat.le_of_ble_eq_true rfl⟩) (kg_preVW (ci := 5) (q := (RX5, TX5, 6)) (q0 := 0) (kg_cutP hPx) (kg_cutD hDx) hK hN rfl rfl) rfl rfl hl.1 rfl (lv_room (Nat.le_of_ble_eq_true rfl)) dL_law_1018 ⟨hkc, hkn⟩) (fun H locs hP hD hS => ?_)
  refine lv_aload_n hx hb dL_law_1021 rfl (lv_at hl 2 rfl) ?_
  refine lv_aload_n hx hb dL_law_1022 rfl (lv_at hl 0 rfl) ?_
  refine lv_iload_n hx hb dL_law_1023 rfl (lv_at hl 3 rfl) ?_
  refine lv_iconst (v := 1) hx hb dL_law_1024 (by decide) ?_
  refine lv_iadd hx hb dL_law_1025 ?_
  refine va_sld hx hb hX hbl hbA hS hin1 dL_law_1026 ?_
  refine lv_aload_n hx hb dL_law_1027 rfl (lv_at hl 0 rfl) ?_
  refine lv_iload_n hx hb dL_law_1028 rfl (lv_at hl 3 rfl) ?_
  refine lv_iconst (v := 2) hx hb dL_law_1029 (by decide) ?_
  refine lv_iadd hx hb dL_law_1030 ?_
  refine va_sld hx hb hX hbl hbA hS hin2 dL_law_1031 ?_
  refine lv_aload_n hx hb dL_law_1032 rfl (lv_at hl 0 rfl) ?_
  refine lv_iload_n hx hb dL_law_1033 rfl (lv_at hl 3 rfl) ?_
  refine lv_iconst (v := 3) hx hb dL_law_1034 (by decide) ?_
  refine lv_iadd hx hb dL_law_1035 ?_
  refine va_sld hx hb hX hbl hbA hS hin3 dL_law_1036 ?_
  have hPx : va_P (dC, dI) vwCl (wSB cI cJ A X2 ++ (wMd cI cJ B M ++ ([] : va_W))) H := by rw [List.append_nil]; exact hP
  have hDx : va_D (fun q : Nat => s.heap.size ≤ q) (wSB cI cJ A X2 ++ (wMd cI cJ B M ++ ([] : va_W))) := by rw [List.append_nil]; exact hD
  refine kg_retWi (w1 := wMd cI cJ B M2) (wz := (wSB cI cJ A X2 ++ wMd cI cJ B M2)) (r := r) (by rw [List.append_nil]) hPx hDx hS hA (va_runV (As := [.int (xs (x3 + 1).toNatClampNeg), .int (xs (x3 + 2).toNatClampNeg), .int (xs (x3 + 3).toNatClampNeg)]) (rest := [.int r]) ⟨hx, hb, hml, hown, hts⟩ (c_X6_wouldName l dC dI cI cJ B H.size M (xs (x3 + 1).toNatClampNeg) (xs (x3 + 2).toNatClampNeg) (xs (x3 + 3).toNatClampNeg) _ h2) (cwV 3 hts (gw_inL (al_V wd_42_23 wd_42_20 wd_42_21 wd_42_22 wd_1_5)) rfl rfl rfl qX6_wouldName ⟨Nat.le_of_ble_eq_true rfl, Nat.le_of_ble_eq_true rfl⟩) (kg_preVW (ci := 6) (q := (RX6, TX6, 30)) (q0 := 0) (kg_cutP hPx) (kg_cutD hDx) hK hN rfl rfl) rfl rfl hl.1 rfl (lv_room (Nat.le_of_ble_eq_true rfl)) dL_law_1037 ⟨hkc, hkn⟩) (fun H locs hP hD hS => ?_)
  refine lv_icmp_eq (tgt := 1091) hx hb dL_law_1040 (by decide) (fun _ => ?_) (fun hc => absurd rfl hc)
  exact hnext X2 M2 hI2 H locs hP hD hS ls hl
set_option maxHeartbeats 4000000 in
set_option maxRecDepth 100000 in
theorem lc_bridgesBy {p : Program} {l : Launch} {e : Env} {s : State} {m : MethodId} {below : List Frame} {meth : Method} {c : Code} {b L : Nat} {xs : Nat → Int32} {kc kn : Nat} {Inv : SBS → MdS → Prop} (dC : Nat → ClassId) (dI : Nat → Nat → Nat) (cI cJ : ClassId) (A B : Nat → Nat) (hL : L ≤ 2048) (C0 : lw_At p s m meth c b L xs) (hPC : PC_all Inv) (X : SBS) (M : MdS) (hI : Inv X M) (H : Heap) (locs : List Loc) (hK : va_K (dC, dI) vwCl (vTy cI cJ) s) (hN : nwAll s) (hP : va_P (dC, dI) vwCl (wSB cI cJ A X ++ wMd cI cJ B M) H) (hD : va_D (fun q : Nat => s.heap.size ≤ q) (wSB cI cJ A X ++ wMd cI cJ B M)) (hS : va_S (fun q : Nat => s.heap.size ≤ q) s.heap H locs) (x3 : Int32) (hin1 : vp_in (x3 + 1) L) (hin2 : vp_in (x3 + 2) L) (hin3 : vp_in (x3 + 3) L) (hkc : kc ≤ 600000) (hkn : kn ≤ 7302250) (hnext : ∀ (X : SBS) (M : MdS), Inv X M → ∀ (H : Heap) (locs : List Loc), va_P (dC, dI) vwCl (wSB cI cJ A X ++ wMd cI cJ B M) H → va_D (fun q : Nat => s.heap.size ≤ q) (wSB cI cJ A X ++ wMd cI cJ B M) → va_S (fun q : Nat => s.heap.size ≤ q) s.heap H locs → ∀ ls : Array Slot, lv_has ls 4 [(0, .ref b), (1, .ref (A 0)), (2, .ref (B 0)), (3, .int x3)] → W p l e room_1 s m #[Value.ref b] below meth c H locs kc kn (lw_Z below #[Value.ref b] s) (F0 m 1091 ls [])) (ls : Array Slot) (hl : lv_has ls 4 [(0, .ref b), (1, .ref (A 0)), (2, .ref (B 0)), (3, .int x3)]) : W p l e room_1 s m #[Value.ref b] below meth c H locs kc kn (lw_Z below #[Value.ref b] s) (F0 m 1045 ls []) := by
  obtain ⟨hx, hb, hr, hml, hown, hts0, hX, hbl, hlocks, hgv⟩ := C0
  have hts : ∀ w ∈ wsL_law, w.before #[Value.ref b] s = true := fun w h => hts0 w (wsL_law_in w h)
  have hA : ∀ q : Nat, s.heap.size ≤ q → (fun q : Nat => s.heap.size ≤ q) q := fun _ h => h
  have hbA : ¬ (fun q : Nat => s.heap.size ≤ q) b := Nat.not_le.mpr hbl
  obtain ⟨r, M2, h1, h2, hI2⟩ := hPC.2.2.2.2.2.2.2.2.2.2.2.2.2.2.2.2.2.2.2.2.2.2.2.2.2.2.2.2.1 X M hI (xs (x3 + 1).toNatClampNeg)
  refine lv_aload_n hx hb dL_law_1045 rfl (lv_at hl 1 rfl) ?_
  refine lv_aload_n hx hb dL_law_1046 rfl (lv_at hl 0 rfl) ?_
  refine lv_iload_n hx hb dL_law_1047 rfl (lv_at hl 3 rfl) ?_
  refine lv_iconst (v := 1) hx hb dL_law_1048 (by decide) ?_
  refine lv_iadd hx hb dL_law_1049 ?_
  refine va_sld hx hb hX hbl hbA hS hin1 dL_law_1050 ?_
  have hPc : va_P (dC, dI) vwCl (wSB cI cJ A X) H := kg_cutP (pre := []) hP
  refine kg_retRi (va_runV (As := [.int (xs (x3 + 1).toNatClampNeg)]) (rest := []) ⟨hx, hb, hml, hown, hts⟩ (c_X5_bridgesBy l dC dI cI cJ A H X (xs (x3 + 1).toNatClampNeg) _ h1) (cwV 1 hts (gw_inL (al_V wd_43_7 wd_43_4 wd_43_5 wd_43_6 wd_1_2)) rfl rfl rfl qX5_bridgesBy ⟨Nat.le_of_ble_eq_true rfl, Nat.le_of_ble_eq_true rfl⟩) (kg_preVR (ci := 5) (q := (RX5, TX5, 6)) (q0 := 0) hPc hK hN rfl rfl) rfl rfl hl.1 rfl (lv_room (Nat.le_of_ble_eq_true rfl)) dL_law_1051 ⟨hkc, hkn⟩) ?_
  refine lv_aload_n hx hb dL_law_1054 rfl (lv_at hl 2 rfl) ?_
  refine lv_aload_n hx hb dL_law_1055 rfl (lv_at hl 0 rfl) ?_
  refine lv_iload_n hx hb dL_law_1056 rfl (lv_at hl 3 rfl) ?_
  refine lv_iconst (v := 1) hx hb dL_law_1057 (by decide) ?_
  refine lv_iadd hx hb dL_law_1058 ?_
  refine va_sld hx hb hX hbl hbA hS hin1 dL_law_1059 ?_
  have hPx : va_P (dC, dI) vwCl (wSB cI cJ A X ++ (wMd cI cJ B M ++ ([] : va_W))) H := by rw [List.append_nil]; exact hP
  have hDx : va_D (fun q : Nat => s.heap.size ≤ q) (wSB cI cJ A X ++ (wMd cI cJ B M ++ ([] : va_W))) := by rw [List.append_nil]; exact hD
  refine kg_retWi (w1 := wMd cI cJ B M2) (wz := (wSB cI cJ A X ++ wMd cI cJ B M2)) (r := r) (by rw [List.append_nil]) hPx hDx hS hA (va_runV (As := [.int (xs (x3 + 1).toNatClampNeg)]) (rest := [.int r]) ⟨hx, hb, hml, hown, hts⟩ (c_X6_bridgesBy l dC dI cI cJ B H.size M (xs (x3 + 1).toNatClampNeg) _ h2) (cwV 1 hts (gw_inL (al_V wd_43_11 wd_43_8 wd_43_9 wd_43_10 wd_1_5)) rfl rfl rfl qX6_bridgesBy ⟨Nat.le_of_ble_eq_true rfl, Nat.le_of_ble_eq_true rfl⟩) (kg_preVW (ci := 6) (q := (RX6, TX6, 30)) (q0 := 0) (kg_cutP hPx) (kg_cutD hDx) hK hN rfl rfl) rfl rfl hl.1 rfl (lv_room (Nat.le_of_ble_eq_true rfl)) dL_law_1060 ⟨hkc, hkn⟩) (fun H locs hP hD hS => ?_)
  refine lv_icmp_eq (tgt := 1091) hx hb dL_law_1063 (by decide) (fun _ => ?_) (fun hc => absurd rfl hc)
  exact hnext X M2 hI2 H locs hP hD hS ls hl
set_option maxHeartbeats 4000000 in
set_option maxRecDepth 100000 in
theorem lc_look {p : Program} {l : Launch} {e : Env} {s : State} {m : MethodId} {below : List Frame} {meth : Method} {c : Code} {b L : Nat} {xs : Nat → Int32} {kc kn : Nat} {Inv : SBS → MdS → Prop} (dC : Nat → ClassId) (dI : Nat → Nat → Nat) (cI cJ : ClassId) (A B : Nat → Nat) (hL : L ≤ 2048) (C0 : lw_At p s m meth c b L xs) (hPC : PC_all Inv) (X : SBS) (M : MdS) (hI : Inv X M) (H : Heap) (locs : List Loc) (hK : va_K (dC, dI) vwCl (vTy cI cJ) s) (hN : nwAll s) (hP : va_P (dC, dI) vwCl (wSB cI cJ A X ++ wMd cI cJ B M) H) (hD : va_D (fun q : Nat => s.heap.size ≤ q) (wSB cI cJ A X ++ wMd cI cJ B M)) (hS : va_S (fun q : Nat => s.heap.size ≤ q) s.heap H locs) (x3 : Int32) (hin1 : vp_in (x3 + 1) L) (hin2 : vp_in (x3 + 2) L) (hin3 : vp_in (x3 + 3) L) (hkc : kc ≤ 600000) (hkn : kn ≤ 7302250) (hnext : ∀ (X : SBS) (M : MdS), Inv X M → ∀ (H : Heap) (locs : List Loc), va_P (dC, dI) vwCl (wSB cI cJ A X ++ wMd cI cJ B M) H → va_D (fun q : Nat => s.heap.size ≤ q) (wSB cI cJ A X ++ wMd cI cJ B M) → va_S (fun q : Nat => s.heap.size ≤ q) s.heap H locs → ∀ ls : Array Slot, lv_has ls 4 [(0, .ref b), (1, .ref (A 0)), (2, .ref (B 0)), (3, .int x3)] → W p l e room_1 s m #[Value.ref b] below meth c H locs kc kn (lw_Z below #[Value.ref b] s) (F0 m 1091 ls [])) (ls : Array Slot) (hl : lv_has ls 4 [(0, .ref b), (1, .ref (A 0)), (2, .ref (B 0)), (3, .int x3)]) : W p l e room_1 s m #[Value.ref b] below meth c H locs kc kn (lw_Z below #[Value.ref b] s) (F0 m 1068 ls []) := by
  obtain ⟨hx, hb, hr, hml, hown, hts0, hX, hbl, hlocks, hgv⟩ := C0
  have hts : ∀ w ∈ wsL_law, w.before #[Value.ref b] s = true := fun w h => hts0 w (wsL_law_in w h)
  have hA : ∀ q : Nat, s.heap.size ≤ q → (fun q : Nat => s.heap.size ≤ q) q := fun _ h => h
  have hbA : ¬ (fun q : Nat => s.heap.size ≤ q) b := Nat.not_le.mpr hbl
  obtain ⟨r, M2, h1, h2, hI2⟩ := hPC.2.2.2.2.2.2.2.2.2.2.2.2.2.2.2.2.2.2.2.2.2.2.2.2.2.2.2.2.2 X M hI (xs (x3 + 1).toNatClampNeg)
  refine lv_aload_n hx hb dL_law_1068 rfl (lv_at hl 1 rfl) ?_
  refine lv_aload_n hx hb dL_law_1069 rfl (lv_at hl 0 rfl) ?_
  refine lv_iload_n hx hb dL_law_1070 rfl (lv_at hl 3 rfl) ?_
  refine lv_iconst (v := 1) hx hb dL_law_1071 (by decide) ?_
  refine lv_iadd hx hb dL_law_1072 ?_
  refine va_sld hx hb hX hbl hbA hS hin1 dL_law_1073 ?_
  have hPc : va_P (dC, dI) vwCl (wSB cI cJ A X) H := kg_cutP (pre := []) hP
  refine kg_retRi (va_runV (As := [.int (xs (x3 + 1).toNatClampNeg)]) (rest := []) ⟨hx, hb, hml, hown, hts⟩ (c_X5_look l dC dI cI cJ A H X (xs (x3 + 1).toNatClampNeg) _ h1) (cwV 1 hts (gw_inL (al_V wd_43_15 wd_43_12 wd_43_13 wd_43_14 wd_1_2)) rfl rfl rfl qX5_look ⟨Nat.le_of_ble_eq_true rfl, Nat.le_of_ble_eq_true rfl⟩) (kg_preVR (ci := 5) (q := (RX5, TX5, 6)) (q0 := 0) hPc hK hN rfl rfl) rfl rfl hl.1 rfl (lv_room (Nat.le_of_ble_eq_true rfl)) dL_law_1074 ⟨hkc, hkn⟩) ?_
  refine lv_aload_n hx hb dL_law_1077 rfl (lv_at hl 2 rfl) ?_
  refine lv_aload_n hx hb dL_law_1078 rfl (lv_at hl 0 rfl) ?_
  refine lv_iload_n hx hb dL_law_1079 rfl (lv_at hl 3 rfl) ?_
  refine lv_iconst (v := 1) hx hb dL_law_1080 (by decide) ?_
  refine lv_iadd hx hb dL_law_1081 ?_
  refine va_sld hx hb hX hbl hbA hS hin1 dL_law_1082 ?_
  have hPx : va_P (dC, dI) vwCl (wSB cI cJ A X ++ (wMd cI cJ B M ++ ([] : va_W))) H := by rw [List.append_nil]; exact hP
  have hDx : va_D (fun q : Nat => s.heap.size ≤ q) (wSB cI cJ A X ++ (wMd cI cJ B M ++ ([] : va_W))) := by rw [List.append_nil]; exact hD
  refine kg_retWi (w1 := wMd cI cJ B M2) (wz := (wSB cI cJ A X ++ wMd cI cJ B M2)) (r := r) (by rw [List.append_nil]) hPx hDx hS hA (va_runV (As := [.int (xs (x3 + 1).toNatClampNeg)]) (rest := [.int r]) ⟨hx, hb, hml, hown, hts⟩ (c_X6_look l dC dI cI cJ B H.size M (xs (x3 + 1).toNatClampNeg) _ h2) (cwV 1 hts (gw_inL (al_V wd_44_17 wd_44_14 wd_44_15 wd_44_16 wd_1_5)) rfl rfl rfl qX6_look ⟨Nat.le_of_ble_eq_true rfl, Nat.le_of_ble_eq_true rfl⟩) (kg_preVW (ci := 6) (q := (RX6, TX6, 30)) (q0 := 0) (kg_cutP hPx) (kg_cutD hDx) hK hN rfl rfl) rfl rfl hl.1 rfl (lv_room (Nat.le_of_ble_eq_true rfl)) dL_law_1083 ⟨hkc, hkn⟩) (fun H locs hP hD hS => ?_)
  refine lv_icmp_eq (tgt := 1091) hx hb dL_law_1086 (by decide) (fun _ => ?_) (fun hc => absurd rfl hc)
  exact hnext X M2 hI2 H locs hP hD hS ls hl
set_option maxHeartbeats 4000000 in
set_option maxRecDepth 100000 in
theorem law_loop {p : Program} {l : Launch} {e : Env} {s : State} {m : MethodId} {below : List Frame} {meth : Method} {c : Code} {b L : Nat} {xs : Nat → Int32} {kc kn : Nat} {Inv : SBS → MdS → Prop} (dC : Nat → ClassId) (dI : Nat → Nat → Nat) (cI cJ : ClassId) (A B : Nat → Nat) (hL : L ≤ 2048) (C0 : lw_At p s m meth c b L xs) (hPC : PC_all Inv) (hK : va_K (dC, dI) vwCl (vTy cI cJ) s) (hN : nwAll s) (hkc : kc ≤ 600000) (hkn : kn ≤ 7302250) : ∀ (n i : Nat) (x3 : Int32), i ≤ L → L + 1 ≤ i + n → x3 = nI i → ∀ (X : SBS) (M : MdS), Inv X M → ∀ (H : Heap) (locs : List Loc), va_P (dC, dI) vwCl (wSB cI cJ A X ++ wMd cI cJ B M) H → va_D (fun q : Nat => s.heap.size ≤ q) (wSB cI cJ A X ++ wMd cI cJ B M) → va_S (fun q : Nat => s.heap.size ≤ q) s.heap H locs → ∀ ls : Array Slot, lv_has ls 4 [(0, .ref b), (1, .ref (A 0)), (2, .ref (B 0)), (3, .int x3)] → W p l e room_1 s m #[Value.ref b] below meth c H locs kc kn (lw_Z below #[Value.ref b] s) (F0 m 18 ls []) := by
  obtain ⟨hx, hb, hr, hml, hown, hts0, hX, hbl, hlocks, hgv⟩ := id C0
  have hts : ∀ w ∈ wsL_law, w.before #[Value.ref b] s = true := fun w h => hts0 w (wsL_law_in w h)
  have hA : ∀ q : Nat, s.heap.size ≤ q → (fun q : Nat => s.heap.size ≤ q) q := fun _ h => h
  have hbA : ¬ (fun q : Nat => s.heap.size ≤ q) b := Nat.not_le.mpr hbl
  intro n
  induction n with
  | zero =>
    intro i x3 h1 h2
    exact absurd h2 (by omega)
  | succ n ih =>
    intro i x3 hi hin ex3 X M hI H locs hP hD hS ls hl
    refine lv_iload_n hx hb dL_law_18 rfl (lv_at hl 3 rfl) ?_
    refine lv_aload_n hx hb dL_law_19 rfl (lv_at hl 0 rfl) ?_
    refine va_slen hx hb hX hbl hbA hS dL_law_20 ?_
    refine lv_iconst (v := 4) hx hb dL_law_21 (by decide) ?_
    refine lv_isub hx hb dL_law_22 ?_
    refine lv_icmp_gt (tgt := 1097) hx hb dL_law_23 (by decide) (fun hc => ?_) (fun hc => ?_)
    · refine lv_iconst (v := 1) hx hb dL_law_1097 (by decide) ?_
      refine va_forget (fun q hq => hS.2.2 q hq) ?_
      refine W.widen (k := 600000) (n := 7302250) hkc hkn ?_
      exact lw_ret hx hb hr hlocks dL_law_1098
    · have hi4 : i + 4 ≤ L := by
        have h1 : (Int32.ofNat L - 4).toInt = (L : Int) - 4 := pk_sub_toInt (a := L) (b := 4) (by omega) (by omega)
        have h2 : x3.toInt = (i : Int) := by rw [ex3]; exact nI_toInt (by omega)
        have h3 := mt Int32.lt_iff_toInt_lt.mpr hc
        rw [h1, h2] at h3
        omega
      have hin0 : vp_in x3 L := by rw [ex3]; exact vp_in_nI (by omega) (by omega)
      have hin1 : vp_in (x3 + 1) L := by rw [ex3, show nI i + 1 = nI (i + 1) from nI_add i 1]; exact vp_in_nI (by omega) (by omega)
      have hin2 : vp_in (x3 + 2) L := by rw [ex3, show nI i + 2 = nI (i + 2) from nI_add i 2]; exact vp_in_nI (by omega) (by omega)
      have hin3 : vp_in (x3 + 3) L := by rw [ex3, show nI i + 3 = nI (i + 3) from nI_add i 3]; exact vp_in_nI (by omega) (by omega)
      have hnext : ∀ (X : SBS) (M : MdS), Inv X M → ∀ (H : Heap) (locs : List Loc), va_P (dC, dI) vwCl (wSB cI cJ A X ++ wMd cI cJ B M) H → va_D (fun q : Nat => s.heap.size ≤ q) (wSB cI cJ A X ++ wMd cI cJ B M) → va_S (fun q : Nat => s.heap.size ≤ q) s.heap H locs → ∀ ls : Array Slot, lv_has ls 4 [(0, .ref b), (1, .ref (A 0)), (2, .ref (B 0)), (3, .int x3)] → W p l e room_1 s m #[Value.ref b] below meth c H locs kc kn (lw_Z below #[Value.ref b] s) (F0 m 1091 ls []) := by
        intro X M hI H locs hP hD hS ls hl
        refine lv_iinc (v := x3 + 4) (lv' := [(3, .int (x3 + 4)), (0, .ref b), (1, .ref (A 0)), (2, .ref (B 0))]) hx hb dL_law_1091 hl (k := 3) rfl rfl (by decide) rfl (fun ls hl => ?_)
        refine lv_goto (tgt := 18) hx hb dL_law_1094 (by decide) ?_
        exact ih (i + 4) (x3 + 4) hi4 (by omega) (by rw [ex3]; exact nI_add i 4) X M hI H locs hP hD hS ls (lv_sub hl [1, 2, 3, 0] rfl)
      refine lv_aload_n hx hb dL_law_26 rfl (lv_at hl 0 rfl) ?_
      refine lv_iload_n hx hb dL_law_27 rfl (lv_at hl 3 rfl) ?_
      refine va_sld hx hb hX hbl hbA hS hin0 dL_law_28 ?_
      refine lv_bipush (v := 31) hx hb dL_law_29 (by decide) ?_
      refine lv_iand hx hb dL_law_31 ?_
      refine lv_topi (fun sw esw => ?_)
      by_cases hc0 : sw = 0
      · refine lv_tableIn (tgt := 164) (off := 132) hx hb dL_law_32 (by rw [hc0]; decide) (by rw [hc0]; decide) (by rw [hc0]; rfl) (by decide) ?_
        exact lc_nodes dC dI cI cJ A B hL C0 hPC X M hI H locs hK hN hP hD hS x3 hin1 hin2 hin3 hkc hkn hnext ls hl
      · skip
        by_cases hc1 : sw = 1
        · refine lv_tableIn (tgt := 187) (off := 155) hx hb dL_law_32 (by rw [hc1]; decide) (by rw [hc1]; decide) (by rw [hc1]; rfl) (by decide) ?_
          exact lc_link dC dI cI cJ A B hL C0 hPC X M hI H locs hK hN hP hD hS x3 hin1 hin2 hin3 hkc hkn hnext ls hl
        · skip
          by_cases hc2 : sw = 2
          · refine lv_tableIn (tgt := 220) (off := 188) hx hb dL_law_32 (by rw [hc2]; decide) (by rw [hc2]; decide) (by rw [hc2]; rfl) (by decide) ?_
            exact lc_undo dC dI cI cJ A B hL C0 hPC X M hI H locs hK hN hP hD hS x3 hin1 hin2 hin3 hkc hkn hnext ls hl
          · skip
            by_cases hc3 : sw = 3
            · refine lv_tableIn (tgt := 243) (off := 211) hx hb dL_law_32 (by rw [hc3]; decide) (by rw [hc3]; decide) (by rw [hc3]; rfl) (by decide) ?_
              exact lc_rain dC dI cI cJ A B hL C0 hPC X M hI H locs hK hN hP hD hS x3 hin1 hin2 hin3 hkc hkn hnext ls hl
            · skip
              by_cases hc4 : sw = 4
              · refine lv_tableIn (tgt := 266) (off := 234) hx hb dL_law_32 (by rw [hc4]; decide) (by rw [hc4]; decide) (by rw [hc4]; rfl) (by decide) ?_
                exact lc_state dC dI cI cJ A B hL C0 hPC X M hI H locs hK hN hP hD hS x3 hin1 hin2 hin3 hkc hkn hnext ls hl
              · skip
                by_cases hc5 : sw = 5
                · refine lv_tableIn (tgt := 289) (off := 257) hx hb dL_law_32 (by rw [hc5]; decide) (by rw [hc5]; decide) (by rw [hc5]; rfl) (by decide) ?_
                  exact lc_linkOf dC dI cI cJ A B hL C0 hPC X M hI H locs hK hN hP hD hS x3 hin1 hin2 hin3 hkc hkn hnext ls hl
                · skip
                  by_cases hc6 : sw = 6
                  · refine lv_tableIn (tgt := 322) (off := 290) hx hb dL_law_32 (by rw [hc6]; decide) (by rw [hc6]; decide) (by rw [hc6]; rfl) (by decide) ?_
                    exact lc_bridge dC dI cI cJ A B hL C0 hPC X M hI H locs hK hN hP hD hS x3 hin1 hin2 hin3 hkc hkn hnext ls hl
                  · skip
                    by_cases hc7 : sw = 7
                    · refine lv_tableIn (tgt := 345) (off := 313) hx hb dL_law_32 (by rw [hc7]; decide) (by rw [hc7]; decide) (by rw [hc7]; rfl) (by decide) ?_
                      exact lc_node dC dI cI cJ A B hL C0 hPC X M hI H locs hK hN hP hD hS x3 hin1 hin2 hin3 hkc hkn hnext ls hl
                    · skip
                      by_cases hc8 : sw = 8
                      · refine lv_tableIn (tgt := 378) (off := 346) hx hb dL_law_32 (by rw [hc8]; decide) (by rw [hc8]; decide) (by rw [hc8]; rfl) (by decide) ?_
                        exact lc_block dC dI cI cJ A B hL C0 hPC X M hI H locs hK hN hP hD hS x3 hin1 hin2 hin3 hkc hkn hnext ls hl
                      · skip
                        by_cases hc9 : sw = 9
                        · refine lv_tableIn (tgt := 411) (off := 379) hx hb dL_law_32 (by rw [hc9]; decide) (by rw [hc9]; decide) (by rw [hc9]; rfl) (by decide) ?_
                          exact lc_member dC dI cI cJ A B hL C0 hPC X M hI H locs hK hN hP hD hS x3 hin1 hin2 hin3 hkc hkn hnext ls hl
                        · skip
                          by_cases hc10 : sw = 10
                          · refine lv_tableIn (tgt := 444) (off := 412) hx hb dL_law_32 (by rw [hc10]; decide) (by rw [hc10]; decide) (by rw [hc10]; rfl) (by decide) ?_
                            exact lc_child dC dI cI cJ A B hL C0 hPC X M hI H locs hK hN hP hD hS x3 hin1 hin2 hin3 hkc hkn hnext ls hl
                          · skip
                            by_cases hc11 : sw = 11
                            · refine lv_tableIn (tgt := 477) (off := 445) hx hb dL_law_32 (by rw [hc11]; decide) (by rw [hc11]; decide) (by rw [hc11]; rfl) (by decide) ?_
                              exact lc_land dC dI cI cJ A B hL C0 hPC X M hI H locs hK hN hP hD hS x3 hin1 hin2 hin3 hkc hkn hnext ls hl
                            · skip
                              by_cases hc12 : sw = 12
                              · refine lv_tableIn (tgt := 510) (off := 478) hx hb dL_law_32 (by rw [hc12]; decide) (by rw [hc12]; decide) (by rw [hc12]; rfl) (by decide) ?_
                                exact lc_story dC dI cI cJ A B hL C0 hPC X M hI H locs hK hN hP hD hS x3 hin1 hin2 hin3 hkc hkn hnext ls hl
                              · skip
                                by_cases hc13 : sw = 13
                                · refine lv_tableIn (tgt := 553) (off := 521) hx hb dL_law_32 (by rw [hc13]; decide) (by rw [hc13]; decide) (by rw [hc13]; rfl) (by decide) ?_
                                  exact lc_latest dC dI cI cJ A B hL C0 hPC X M hI H locs hK hN hP hD hS x3 hin1 hin2 hin3 hkc hkn hnext ls hl
                                · skip
                                  by_cases hc14 : sw = 14
                                  · refine lv_tableIn (tgt := 576) (off := 544) hx hb dL_law_32 (by rw [hc14]; decide) (by rw [hc14]; decide) (by rw [hc14]; rfl) (by decide) ?_
                                    exact lc_doubleSafe dC dI cI cJ A B hL C0 hPC X M hI H locs hK hN hP hD hS x3 hin1 hin2 hin3 hkc hkn hnext ls hl
                                  · skip
                                    by_cases hc15 : sw = 15
                                    · refine lv_tableIn (tgt := 609) (off := 577) hx hb dL_law_32 (by rw [hc15]; decide) (by rw [hc15]; decide) (by rw [hc15]; rfl) (by decide) ?_
                                      exact lc_way dC dI cI cJ A B hL C0 hPC X M hI H locs hK hN hP hD hS x3 hin1 hin2 hin3 hkc hkn hnext ls hl
                                    · skip
                                      by_cases hc16 : sw = 16
                                      · refine lv_tableIn (tgt := 652) (off := 620) hx hb dL_law_32 (by rw [hc16]; decide) (by rw [hc16]; decide) (by rw [hc16]; rfl) (by decide) ?_
                                        exact lc_since dC dI cI cJ A B hL C0 hPC X M hI H locs hK hN hP hD hS x3 hin1 hin2 hin3 hkc hkn hnext ls hl
                                      · skip
                                        by_cases hc17 : sw = 17
                                        · refine lv_tableIn (tgt := 695) (off := 663) hx hb dL_law_32 (by rw [hc17]; decide) (by rw [hc17]; decide) (by rw [hc17]; rfl) (by decide) ?_
                                          exact lc_would dC dI cI cJ A B hL C0 hPC X M hI H locs hK hN hP hD hS x3 hin1 hin2 hin3 hkc hkn hnext ls hl
                                        · skip
                                          by_cases hc18 : sw = 18
                                          · refine lv_tableIn (tgt := 738) (off := 706) hx hb dL_law_32 (by rw [hc18]; decide) (by rw [hc18]; decide) (by rw [hc18]; rfl) (by decide) ?_
                                            exact lc_best dC dI cI cJ A B hL C0 hPC X M hI H locs hK hN hP hD hS x3 hin1 hin2 hin3 hkc hkn hnext ls hl
                                          · skip
                                            by_cases hc19 : sw = 19
                                            · refine lv_tableIn (tgt := 761) (off := 729) hx hb dL_law_32 (by rw [hc19]; decide) (by rw [hc19]; decide) (by rw [hc19]; rfl) (by decide) ?_
                                              exact lc_worst dC dI cI cJ A B hL C0 hPC X M hI H locs hK hN hP hD hS x3 hin1 hin2 hin3 hkc hkn hnext ls hl
                                            · skip
                                              by_cases hc20 : sw = 20
                                              · refine lv_tableIn (tgt := 784) (off := 752) hx hb dL_law_32 (by rw [hc20]; decide) (by rw [hc20]; decide) (by rw [hc20]; rfl) (by decide) ?_
                                                exact lc_part dC dI cI cJ A B hL C0 hPC X M hI H locs hK hN hP hD hS x3 hin1 hin2 hin3 hkc hkn hnext ls hl
                                              · skip
                                                by_cases hc21 : sw = 21
                                                · refine lv_tableIn (tgt := 817) (off := 785) hx hb dL_law_32 (by rw [hc21]; decide) (by rw [hc21]; decide) (by rw [hc21]; rfl) (by decide) ?_
                                                  exact lc_centre dC dI cI cJ A B hL C0 hPC X M hI H locs hK hN hP hD hS x3 hin1 hin2 hin3 hkc hkn hnext ls hl
                                                · skip
                                                  by_cases hc22 : sw = 22
                                                  · refine lv_tableIn (tgt := 840) (off := 808) hx hb dL_law_32 (by rw [hc22]; decide) (by rw [hc22]; decide) (by rw [hc22]; rfl) (by decide) ?_
                                                    exact lc_between dC dI cI cJ A B hL C0 hPC X M hI H locs hK hN hP hD hS x3 hin1 hin2 hin3 hkc hkn hnext ls hl
                                                  · skip
                                                    by_cases hc23 : sw = 23
                                                    · refine lv_tableIn (tgt := 883) (off := 851) hx hb dL_law_32 (by rw [hc23]; decide) (by rw [hc23]; decide) (by rw [hc23]; rfl) (by decide) ?_
                                                      exact lc_mending dC dI cI cJ A B hL C0 hPC X M hI H locs hK hN hP hD hS x3 hin1 hin2 hin3 hkc hkn hnext ls hl
                                                    · skip
                                                      by_cases hc24 : sw = 24
                                                      · refine lv_tableIn (tgt := 926) (off := 894) hx hb dL_law_32 (by rw [hc24]; decide) (by rw [hc24]; decide) (by rw [hc24]; rfl) (by decide) ?_
                                                        exact lc_without dC dI cI cJ A B hL C0 hPC X M hI H locs hK hN hP hD hS x3 hin1 hin2 hin3 hkc hkn hnext ls hl
                                                      · skip
                                                        by_cases hc25 : sw = 25
                                                        · refine lv_tableIn (tgt := 969) (off := 937) hx hb dL_law_32 (by rw [hc25]; decide) (by rw [hc25]; decide) (by rw [hc25]; rfl) (by decide) ?_
                                                          exact lc_ring dC dI cI cJ A B hL C0 hPC X M hI H locs hK hN hP hD hS x3 hin1 hin2 hin3 hkc hkn hnext ls hl
                                                        · skip
                                                          by_cases hc26 : sw = 26
                                                          · refine lv_tableIn (tgt := 1002) (off := 970) hx hb dL_law_32 (by rw [hc26]; decide) (by rw [hc26]; decide) (by rw [hc26]; rfl) (by decide) ?_
                                                            exact lc_wouldName dC dI cI cJ A B hL C0 hPC X M hI H locs hK hN hP hD hS x3 hin1 hin2 hin3 hkc hkn hnext ls hl
                                                          · skip
                                                            by_cases hc27 : sw = 27
                                                            · refine lv_tableIn (tgt := 1045) (off := 1013) hx hb dL_law_32 (by rw [hc27]; decide) (by rw [hc27]; decide) (by rw [hc27]; rfl) (by decide) ?_
                                                              exact lc_bridgesBy dC dI cI cJ A B hL C0 hPC X M hI H locs hK hN hP hD hS x3 hin1 hin2 hin3 hkc hkn hnext ls hl
                                                            · skip
                                                              by_cases hc28 : sw = 28
                                                              · refine lv_tableIn (tgt := 1068) (off := 1036) hx hb dL_law_32 (by rw [hc28]; decide) (by rw [hc28]; decide) (by rw [hc28]; rfl) (by decide) ?_
                                                                exact lc_look dC dI cI cJ A B hL C0 hPC X M hI H locs hK hN hP hD hS x3 hin1 hin2 hin3 hkc hkn hnext ls hl
                                                              · skip
                                                                have e0 := ne_toInt hc0 (k := 0) (by decide)
                                                                have e1 := ne_toInt hc1 (k := 1) (by decide)
                                                                have e2 := ne_toInt hc2 (k := 2) (by decide)
                                                                have e3 := ne_toInt hc3 (k := 3) (by decide)
                                                                have e4 := ne_toInt hc4 (k := 4) (by decide)
                                                                have e5 := ne_toInt hc5 (k := 5) (by decide)
                                                                have e6 := ne_toInt hc6 (k := 6) (by decide)
                                                                have e7 := ne_toInt hc7 (k := 7) (by decide)
                                                                have e8 := ne_toInt hc8 (k := 8) (by decide)
                                                                have e9 := ne_toInt hc9 (k := 9) (by decide)
                                                                have e10 := ne_toInt hc10 (k := 10) (by decide)
                                                                have e11 := ne_toInt hc11 (k := 11) (by decide)
                                                                have e12 := ne_toInt hc12 (k := 12) (by decide)
                                                                have e13 := ne_toInt hc13 (k := 13) (by decide)
                                                                have e14 := ne_toInt hc14 (k := 14) (by decide)
                                                                have e15 := ne_toInt hc15 (k := 15) (by decide)
                                                                have e16 := ne_toInt hc16 (k := 16) (by decide)
                                                                have e17 := ne_toInt hc17 (k := 17) (by decide)
                                                                have e18 := ne_toInt hc18 (k := 18) (by decide)
                                                                have e19 := ne_toInt hc19 (k := 19) (by decide)
                                                                have e20 := ne_toInt hc20 (k := 20) (by decide)
                                                                have e21 := ne_toInt hc21 (k := 21) (by decide)
                                                                have e22 := ne_toInt hc22 (k := 22) (by decide)
                                                                have e23 := ne_toInt hc23 (k := 23) (by decide)
                                                                have e24 := ne_toInt hc24 (k := 24) (by decide)
                                                                have e25 := ne_toInt hc25 (k := 25) (by decide)
                                                                have e26 := ne_toInt hc26 (k := 26) (by decide)
                                                                have e27 := ne_toInt hc27 (k := 27) (by decide)
                                                                have e28 := ne_toInt hc28 (k := 28) (by decide)
                                                                refine lv_tableOut (tgt := 1091) hx hb dL_law_32 (by omega) (by decide) ?_
                                                                exact hnext X M hI H locs hP hD hS ls hl
set_option maxHeartbeats 8000000 in
set_option maxRecDepth 100000 in
theorem whole_start_of {Inv : SBS → MdS → Prop} (hPC : PC_all Inv) {p : Program} {e : Env} {s : State} {m : MethodId} {below : List Frame} {meth : Method} {c : Code} (l : Launch) {b L : Nat} {xs : Nat → Int32} (hL : L ≤ 2048) (C0 : lw_At p s m meth c b L xs) : W p l e room_1 s m #[Value.ref b] below meth c s.heap [] 0 0 (lw_Z below #[Value.ref b] s) (entryFrame m ([Value.ref b] : List Value).toArray 4) := by
  obtain ⟨hx, hb, hr, hml, hown, hts0, hX, hbl, hlocks, hgv⟩ := id C0
  have hts : ∀ w ∈ wsL_law, w.before #[Value.ref b] s = true := fun w h => hts0 w (wsL_law_in w h)
  have hA : ∀ q : Nat, s.heap.size ≤ q → (fun q : Nat => s.heap.size ≤ q) q := fun _ h => h
  have hbA : ¬ (fun q : Nat => s.heap.size ≤ q) b := Nat.not_le.mpr hbl
  obtain ⟨cX0, iSX0, hKnX0⟩ := u_known (C := RX0) (T := TX0) (N := 13) (n := 13) hts inlX0 (hts (.instantiable RX0 13) wd_1_18)
  obtain ⟨cX1, iSX1, hKnX1⟩ := u_known (C := RX1) (T := TX1) (N := 6) (n := 6) hts inlX1 (hts (.instantiable RX1 6) wd_2_19)
  obtain ⟨cX2, iSX2, hKnX2⟩ := u_known (C := RX2) (T := TX2) (N := 7) (n := 7) hts inlX2 (hts (.instantiable RX2 7) wd_1_22)
  obtain ⟨cX3, iSX3, hKnX3⟩ := u_known (C := RX3) (T := TX3) (N := 1) (n := 1) hts inlX3 (hts (.instantiable RX3 1) wd_2_2)
  obtain ⟨cX4, iSX4, hKnX4⟩ := u_known (C := RX4) (T := TX4) (N := 16) (n := 16) hts inlX4 (hts (.instantiable RX4 16) wd_1_13)
  obtain ⟨cX5, iSX5, hKnX5⟩ := u_known (C := RX5) (T := TX5) (N := 6) (n := 6) hts inlX5 (hts (.instantiable RX5 6) wd_1_1)
  obtain ⟨cX6, iSX6, hKnX6⟩ := u_known (C := RX6) (T := TX6) (N := 30) (n := 30) hts inlX6 (hts (.instantiable RX6 30) wd_1_4)
  obtain ⟨dC, dI, hKc⟩ : ∃ (dC : Nat → ClassId) (dI : Nat → Nat → Nat), ∀ (k : Nat) (q : vw_C), vwCl[k]? = some q → u_Kn s q.1 q.2.1 q.2.2 (dC k) (dI k) := by
    refine ⟨fun k => if k = 0 then cX0 else if k = 1 then cX1 else if k = 2 then cX2 else if k = 3 then cX3 else if k = 4 then cX4 else if k = 5 then cX5 else cX6, fun k => if k = 0 then iSX0 else if k = 1 then iSX1 else if k = 2 then iSX2 else if k = 3 then iSX3 else if k = 4 then iSX4 else if k = 5 then iSX5 else iSX6, ?_⟩
    intro k q hq
    match k, hq with
    | 0, hq => cases hq; exact hKnX0
    | 1, hq => cases hq; exact hKnX1
    | 2, hq => cases hq; exact hKnX2
    | 3, hq => cases hq; exact hKnX3
    | 4, hq => cases hq; exact hKnX4
    | 5, hq => cases hq; exact hKnX5
    | 6, hq => cases hq; exact hKnX6
    | k + 7, hq => simp [vwCl] at hq
  obtain ⟨cI, kI, coI, hI1, hI2, hI3⟩ := Cond.arrayClass_spec (hts (.arrayClass .int) wd_2_10)
  obtain ⟨cJ, kJ, coJ, hJ1, hJ2, hJ3⟩ := Cond.arrayClass_spec (hts (.arrayClass .long) wd_4_9)
  have hK : va_K (dC, dI) vwCl (vTy cI cJ) s := by
    refine ⟨hKc, fun k q h => ?_⟩
    match k, h with
    | 0, h => cases h; exact ⟨fun n z => ⟨fun k h => (by cases h), kI, hI2, coI, hI3⟩, hI1⟩
    | 1, h => cases h; exact ⟨fun n z => ⟨fun k h => (by cases h), kJ, hJ2, coJ, hJ3⟩, hJ1⟩
    | k + 2, h => simp at h
  have hN : nwAll s := ⟨va_Nw.of rfl (hts0 _ (tk_2 _ (List.mem_of_getElem? (i := 113) (by decide +kernel)))), va_Nw.of rfl (hts0 _ (tk_2 _ (List.mem_of_getElem? (i := 49) (by decide +kernel)))), va_Nw.of rfl (hts0 _ (tk_3 _ (List.mem_of_getElem? (i := 182) (by decide +kernel)))), va_Nw.of rfl (hts0 _ (tk_2 _ (List.mem_of_getElem? (i := 108) (by decide +kernel))))⟩
  obtain ⟨X0, hX0, hI0⟩ := hPC.1
  have hS : va_S (fun q : Nat => s.heap.size ≤ q) s.heap s.heap [] := va_S.rf
  have hP : va_P (dC, dI) vwCl [] s.heap := fun k q h => by simp at h
  have hD : va_D (fun q : Nat => s.heap.size ≤ q) [] := ⟨fun i j p q h => by simp at h, fun k q h => by simp at h⟩
  have hl := lv_entry ([.ref b]) (n := 4) (Nat.le_of_ble_eq_true rfl)
  rw [lg_entry_eq]
  generalize (lg_sl ([.ref b]) ++ List.replicate (4 - (lg_sl ([.ref b])).length) Slot.unset).toArray = ls at hl ⊢
  have hl : lv_has ls 4 [(0, .ref b)] := hl
  suffices hgo : ∀ (H : Heap) (locs : List Loc), va_P (dC, dI) vwCl [] H → va_S (fun q : Nat => s.heap.size ≤ q) s.heap H locs → W p l e room_1 s m #[Value.ref b] below meth c H locs 0 0 (lw_Z below #[Value.ref b] s) (F0 m 0 ls []) from hgo _ _ hP hS
  clear hP hS
  intro H locs hP hS
  refine va_new (ci := 5) (fs := [.null, .null, .null, .null, .null, .int 0]) (C := RX5) (T := TX5) (N := 6) hx hb hts inlX5 tyX5 tyX5_ok hown (hts (.classLink RL 7 RX5) wd_1_0) (hts (.instantiable RX5 6) wd_1_1) (hts (.initialized RX5) wd_1_2) hK hP hD hS hA rfl (by intro j hj; rcases (show j = 0 ∨ j = 1 ∨ j = 2 ∨ j = 3 ∨ j = 4 ∨ j = 5 by omega) with rfl | rfl | rfl | rfl | rfl | rfl <;> rfl) (Nat.le_of_ble_eq_true rfl) (Nat.le_of_ble_eq_true rfl) dL_law_0 (fun qX5 H hP hD hS => ?_)
  refine W.widen (k := 1) (n := 6) (by omega) (by omega) ?_
  refine lv_dup hx hb dL_law_3 rfl ?_
  have hPx : va_P (dC, dI) vwCl (([] : va_W) ++ ([(qX5, .inr (5, [.null, .null, .null, .null, .null, .int 0]))] ++ [])) H := hP
  have hDx : va_D (fun q : Nat => s.heap.size ≤ q) (([] : va_W) ++ ([(qX5, .inr (5, [.null, .null, .null, .null, .null, .int 0]))] ++ [])) := hD
  refine kg_retC (w' := fun u => wSB cI cJ (cA qX5 u) X0) (mc := 65) (ms := 2361) (k1 := 66) (n1 := 2367) hPx hDx hS hA rfl rfl (va_runI (As := []) (rest := [.ref qX5]) ⟨hx, hb, hml, hown, hts⟩ (c_X5_init l dC dI cI cJ qX5 H.size X0 hX0) (cwI 0 hts (gw_inL (al_A wd_1_8)) rfl rfl rfl (hts (.initialized RX5) wd_1_2) (hts (.methodLink RL 9 yX5_init) wd_1_6) (hts (.instanceMethod yX5_init) wd_1_7) rfl (by decide +kernel) ⟨Nat.le_of_ble_eq_true rfl, Nat.le_of_ble_eq_true rfl⟩) (kg_preSW (kg_cutP hPx) (kg_cutD hDx) hK hN) rfl rfl hl.1 rfl (lv_room (Nat.le_of_ble_eq_true rfl)) dL_law_4 ⟨Nat.le_of_ble_eq_true rfl, Nat.le_of_ble_eq_true rfl⟩) (fun uX5 H locs hP hD hS => ?_)
  obtain ⟨A, hAe⟩ : ∃ A : Nat → Nat, A = cA qX5 uX5 := ⟨_, rfl⟩
  have hA0 : A 0 = qX5 := by rw [hAe]; rfl
  rw [List.append_nil, ← hAe] at hP hD
  have hP : va_P (dC, dI) vwCl (wSB cI cJ A X0) H := hP
  have hD : va_D (fun q : Nat => s.heap.size ≤ q) (wSB cI cJ A X0) := hD
  refine lv_astore_n (lv' := [(1, .ref qX5), (0, .ref b)]) hx hb dL_law_7 rfl hl (by decide) rfl (fun ls hl => ?_)
  refine va_new (ci := 6) (fs := [.int 0, .int 0, .int 0, .int 0, .null, .null, .int 0, .null, .null, .null, .null, .null, .null, .null, .int 0, .int 0, .int 0, .int 0, .null, .int 0, .int 0, .null, .null, .null, .null, .null, .int 0, .null, .null, .int 0]) (C := RX6) (T := TX6) (N := 30) hx hb hts inlX6 tyX6 tyX6_ok hown (hts (.classLink RL 10 RX6) wd_1_3) (hts (.instantiable RX6 30) wd_1_4) (hts (.initialized RX6) wd_1_5) hK hP hD hS hA rfl (by intro j hj; rcases (show j = 0 ∨ j = 1 ∨ j = 2 ∨ j = 3 ∨ j = 4 ∨ j = 5 ∨ j = 6 ∨ j = 7 ∨ j = 8 ∨ j = 9 ∨ j = 10 ∨ j = 11 ∨ j = 12 ∨ j = 13 ∨ j = 14 ∨ j = 15 ∨ j = 16 ∨ j = 17 ∨ j = 18 ∨ j = 19 ∨ j = 20 ∨ j = 21 ∨ j = 22 ∨ j = 23 ∨ j = 24 ∨ j = 25 ∨ j = 26 ∨ j = 27 ∨ j = 28 ∨ j = 29 by omega) with rfl | rfl | rfl | rfl | rfl | rfl | rfl | rfl | rfl | rfl | rfl | rfl | rfl | rfl | rfl | rfl | rfl | rfl | rfl | rfl | rfl | rfl | rfl | rfl | rfl | rfl | rfl | rfl | rfl | rfl <;> rfl) (Nat.le_of_ble_eq_true rfl) (Nat.le_of_ble_eq_true rfl) dL_law_8 (fun qX6 H hP hD hS => ?_)
  refine W.widen (k := 67) (n := 2397) (by omega) (by omega) ?_
  refine lv_dup hx hb dL_law_11 rfl ?_
  have hPx : va_P (dC, dI) vwCl (wSB cI cJ A X0 ++ ([(qX6, .inr (6, [.int 0, .int 0, .int 0, .int 0, .null, .null, .int 0, .null, .null, .null, .null, .null, .null, .null, .int 0, .int 0, .int 0, .int 0, .null, .int 0, .int 0, .null, .null, .null, .null, .null, .int 0, .null, .null, .int 0]))] ++ [])) H := by rw [List.append_nil]; exact hP
  have hDx : va_D (fun q : Nat => s.heap.size ≤ q) (wSB cI cJ A X0 ++ ([(qX6, .inr (6, [.int 0, .int 0, .int 0, .int 0, .null, .null, .int 0, .null, .null, .null, .null, .null, .null, .null, .int 0, .int 0, .int 0, .int 0, .null, .int 0, .int 0, .null, .null, .null, .null, .null, .int 0, .null, .null, .int 0]))] ++ [])) := by rw [List.append_nil]; exact hD
  refine kg_retC (w' := fun u => wMd cI cJ (cA qX6 u) Md_0) (mc := 17) (ms := 930) (k1 := 84) (n1 := 3327) hPx hDx hS hA rfl rfl (va_runI (As := []) (rest := [.ref qX6]) ⟨hx, hb, hml, hown, hts⟩ (c_X6_init l dC dI cI cJ qX6 H.size) (cwI 0 hts (gw_inL (al_A wd_7_21)) rfl rfl rfl (hts (.initialized RX6) wd_1_5) (hts (.methodLink RL 12 yX6_init) wd_7_19) (hts (.instanceMethod yX6_init) wd_7_20) rfl (by decide +kernel) ⟨Nat.le_of_ble_eq_true rfl, Nat.le_of_ble_eq_true rfl⟩) (kg_preSW (kg_cutP hPx) (kg_cutD hDx) hK hN) rfl rfl hl.1 rfl (lv_room (Nat.le_of_ble_eq_true rfl)) dL_law_12 ⟨Nat.le_of_ble_eq_true rfl, Nat.le_of_ble_eq_true rfl⟩) (fun uX6 H locs hP hD hS => ?_)
  obtain ⟨B, hBe⟩ : ∃ B : Nat → Nat, B = cA qX6 uX6 := ⟨_, rfl⟩
  have hB0 : B 0 = qX6 := by rw [hBe]; rfl
  rw [List.append_nil, ← hBe] at hP hD
  refine lv_astore_n (lv' := [(2, .ref qX6), (1, .ref qX5), (0, .ref b)]) hx hb dL_law_15 rfl hl (by decide) rfl (fun ls hl => ?_)
  refine lv_iconst (v := 0) hx hb dL_law_16 (by decide) ?_
  refine lv_istore_n (lv' := [(3, .int 0), (2, .ref qX6), (1, .ref qX5), (0, .ref b)]) hx hb dL_law_17 rfl hl (by decide) rfl (fun ls hl => ?_)
  rw [← hA0, ← hB0] at hl
  exact law_loop (kc := 84) (kn := 3327) dC dI cI cJ A B hL C0 hPC hK hN (by omega) (by omega) (L + 1) 0 0 (Nat.zero_le L) (by omega) nI_0.symm X0 Md_0 hI0 H locs hP hD hS ls (lv_sub hl [3, 2, 1, 0] rfl)
