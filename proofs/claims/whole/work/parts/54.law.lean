theorem lw90 : Cond.methodLink RL 13 yX11_turn ∈ Gw := inGw (in_t2 (List.mem_of_getElem? (i := 80) (by decide +kernel))) (by decide +kernel)
theorem lw91 : Cond.initialized RX11 ∈ Gw := inGw (in_t1 (List.mem_of_getElem? (i := 1) (by decide +kernel))) (by decide +kernel)
theorem lw92 : Cond.code yX11_turn cX11_turn 3 (some .boolean) ∈ Gw := inGw (in_t2 (List.mem_of_getElem? (i := 83) (by rfl))) (by decide +kernel)
theorem lw93 : Cond.instanceMethod yX11_turn ∈ Gw := inGw (in_t2 (List.mem_of_getElem? (i := 81) (by decide +kernel))) (by decide +kernel)
theorem lw94 : Cond.selects RX11 yX11_turn yX11_turn ∈ Gw := inGw (in_t2 (List.mem_of_getElem? (i := 82) (by decide +kernel))) (by decide +kernel)
theorem cv_RL_13 : CV RL RX11 13 yX11_turn cX11_turn 3 (some .boolean) 2 := ⟨Or.inl lw90, lw93, lw94, lw91, lw92, rfl, by decide +kernel, by decide⟩
theorem lw95 : Cond.methodLink RL 17 yX12_turn ∈ Gw := inGw (in_t6 (List.mem_of_getElem? (i := 85) (by decide +kernel))) (by decide +kernel)
theorem lw96 : Cond.initialized RX12 ∈ Gw := inGw (in_t1 (List.mem_of_getElem? (i := 13) (by decide +kernel))) (by decide +kernel)
theorem lw97 : Cond.code yX12_turn cX12_turn 3 (some .boolean) ∈ Gw := inGw (in_t6 (List.mem_of_getElem? (i := 88) (by rfl))) (by decide +kernel)
theorem lw98 : Cond.instanceMethod yX12_turn ∈ Gw := inGw (in_t6 (List.mem_of_getElem? (i := 86) (by decide +kernel))) (by decide +kernel)
theorem lw99 : Cond.selects RX12 yX12_turn yX12_turn ∈ Gw := inGw (in_t6 (List.mem_of_getElem? (i := 87) (by decide +kernel))) (by decide +kernel)
theorem cv_RL_17 : CV RL RX12 17 yX12_turn cX12_turn 3 (some .boolean) 2 := ⟨Or.inl lw95, lw98, lw99, lw96, lw97, rfl, by decide +kernel, by decide⟩
theorem lw910 : Cond.methodLink RL 18 yX11_feed ∈ Gw := inGw (in_t2 (List.mem_of_getElem? (i := 96) (by decide +kernel))) (by decide +kernel)
theorem lw911 : Cond.code yX11_feed cX11_feed 6 (some .int) ∈ Gw := inGw (in_t2 (List.mem_of_getElem? (i := 99) (by rfl))) (by decide +kernel)
theorem lw912 : Cond.instanceMethod yX11_feed ∈ Gw := inGw (in_t2 (List.mem_of_getElem? (i := 97) (by decide +kernel))) (by decide +kernel)
theorem lw913 : Cond.selects RX11 yX11_feed yX11_feed ∈ Gw := inGw (in_t2 (List.mem_of_getElem? (i := 98) (by decide +kernel))) (by decide +kernel)
theorem cv_RL_18 : CV RL RX11 18 yX11_feed cX11_feed 6 (some .int) 5 := ⟨Or.inl lw910, lw912, lw913, lw91, lw911, rfl, by decide +kernel, by decide⟩
theorem lw914 : Cond.methodLink RL 22 yX12_feed ∈ Gw := inGw (in_t6 (List.mem_of_getElem? (i := 118) (by decide +kernel))) (by decide +kernel)
theorem lw915 : Cond.code yX12_feed cX12_feed 6 (some .int) ∈ Gw := inGw (in_t6 (List.mem_of_getElem? (i := 121) (by rfl))) (by decide +kernel)
theorem lw916 : Cond.instanceMethod yX12_feed ∈ Gw := inGw (in_t6 (List.mem_of_getElem? (i := 119) (by decide +kernel))) (by decide +kernel)
theorem lw917 : Cond.selects RX12 yX12_feed yX12_feed ∈ Gw := inGw (in_t6 (List.mem_of_getElem? (i := 120) (by decide +kernel))) (by decide +kernel)
theorem cv_RL_22 : CV RL RX12 22 yX12_feed cX12_feed 6 (some .int) 5 := ⟨Or.inl lw914, lw916, lw917, lw96, lw915, rfl, by decide +kernel, by decide⟩
theorem lw918 : Cond.methodLink RL 23 yX11_law ∈ Gw := inGw (in_t2 (List.mem_of_getElem? (i := 112) (by decide +kernel))) (by decide +kernel)
theorem lw919 : Cond.code yX11_law cX11_law 4 (some .int) ∈ Gw := inGw (in_t2 (List.mem_of_getElem? (i := 115) (by rfl))) (by decide +kernel)
theorem lw920 : Cond.instanceMethod yX11_law ∈ Gw := inGw (in_t2 (List.mem_of_getElem? (i := 113) (by decide +kernel))) (by decide +kernel)
theorem lw921 : Cond.selects RX11 yX11_law yX11_law ∈ Gw := inGw (in_t2 (List.mem_of_getElem? (i := 114) (by decide +kernel))) (by decide +kernel)
theorem cv_RL_23 : CV RL RX11 23 yX11_law cX11_law 4 (some .int) 1 := ⟨Or.inl lw918, lw920, lw921, lw91, lw919, rfl, by decide +kernel, by decide⟩
theorem lw922 : Cond.methodLink RL 27 yX12_law ∈ Gw := inGw (in_t6 (List.mem_of_getElem? (i := 126) (by decide +kernel))) (by decide +kernel)
theorem lw923 : Cond.code yX12_law cX12_law 4 (some .int) ∈ Gw := inGw (in_t6 (List.mem_of_getElem? (i := 129) (by rfl))) (by decide +kernel)
theorem lw924 : Cond.instanceMethod yX12_law ∈ Gw := inGw (in_t6 (List.mem_of_getElem? (i := 127) (by decide +kernel))) (by decide +kernel)
theorem lw925 : Cond.selects RX12 yX12_law yX12_law ∈ Gw := inGw (in_t6 (List.mem_of_getElem? (i := 128) (by decide +kernel))) (by decide +kernel)
theorem cv_RL_27 : CV RL RX12 27 yX12_law cX12_law 4 (some .int) 1 := ⟨Or.inl lw922, lw924, lw925, lw96, lw923, rfl, by decide +kernel, by decide⟩
theorem lw926 : Cond.methodLink RL 28 yX11_terrace ∈ Gw := inGw (in_t3 (List.mem_of_getElem? (i := 80) (by decide +kernel))) (by decide +kernel)
theorem lw927 : Cond.code yX11_terrace cX11_terrace 4 (some .int) ∈ Gw := inGw (in_t3 (List.mem_of_getElem? (i := 83) (by rfl))) (by decide +kernel)
theorem lw928 : Cond.instanceMethod yX11_terrace ∈ Gw := inGw (in_t3 (List.mem_of_getElem? (i := 81) (by decide +kernel))) (by decide +kernel)
theorem lw929 : Cond.selects RX11 yX11_terrace yX11_terrace ∈ Gw := inGw (in_t3 (List.mem_of_getElem? (i := 82) (by decide +kernel))) (by decide +kernel)
theorem cv_RL_28 : CV RL RX11 28 yX11_terrace cX11_terrace 4 (some .int) 1 := ⟨Or.inl lw926, lw928, lw929, lw91, lw927, rfl, by decide +kernel, by decide⟩
theorem lw930 : Cond.methodLink RL 31 yX12_terrace ∈ Gw := inGw (in_t6 (List.mem_of_getElem? (i := 213) (by decide +kernel))) (by decide +kernel)
theorem lw931 : Cond.code yX12_terrace cX12_terrace 4 (some .int) ∈ Gw := inGw (in_t6 (List.mem_of_getElem? (i := 216) (by rfl))) (by decide +kernel)
theorem lw932 : Cond.instanceMethod yX12_terrace ∈ Gw := inGw (in_t6 (List.mem_of_getElem? (i := 214) (by decide +kernel))) (by decide +kernel)
theorem lw933 : Cond.selects RX12 yX12_terrace yX12_terrace ∈ Gw := inGw (in_t6 (List.mem_of_getElem? (i := 215) (by decide +kernel))) (by decide +kernel)
theorem cv_RL_31 : CV RL RX12 31 yX12_terrace cX12_terrace 4 (some .int) 1 := ⟨Or.inl lw930, lw932, lw933, lw96, lw931, rfl, by decide +kernel, by decide⟩
theorem lw934 : Cond.methodLink RL 32 yX11_rota ∈ Gw := inGw (in_t3 (List.mem_of_getElem? (i := 163) (by decide +kernel))) (by decide +kernel)
theorem lw935 : Cond.code yX11_rota cX11_rota 3 (some .int) ∈ Gw := inGw (in_t3 (List.mem_of_getElem? (i := 166) (by rfl))) (by decide +kernel)
theorem lw936 : Cond.instanceMethod yX11_rota ∈ Gw := inGw (in_t3 (List.mem_of_getElem? (i := 164) (by decide +kernel))) (by decide +kernel)
theorem lw937 : Cond.selects RX11 yX11_rota yX11_rota ∈ Gw := inGw (in_t3 (List.mem_of_getElem? (i := 165) (by decide +kernel))) (by decide +kernel)
theorem cv_RL_32 : CV RL RX11 32 yX11_rota cX11_rota 3 (some .int) 1 := ⟨Or.inl lw934, lw936, lw937, lw91, lw935, rfl, by decide +kernel, by decide⟩
theorem lw938 : Cond.methodLink RL 35 yX12_rota ∈ Gw := inGw (in_t6 (List.mem_of_getElem? (i := 233) (by decide +kernel))) (by decide +kernel)
theorem lw939 : Cond.code yX12_rota cX12_rota 4 (some .int) ∈ Gw := inGw (in_t6 (List.mem_of_getElem? (i := 236) (by rfl))) (by decide +kernel)
theorem lw940 : Cond.instanceMethod yX12_rota ∈ Gw := inGw (in_t6 (List.mem_of_getElem? (i := 234) (by decide +kernel))) (by decide +kernel)
theorem lw941 : Cond.selects RX12 yX12_rota yX12_rota ∈ Gw := inGw (in_t6 (List.mem_of_getElem? (i := 235) (by decide +kernel))) (by decide +kernel)
theorem cv_RL_35 : CV RL RX12 35 yX12_rota cX12_rota 4 (some .int) 1 := ⟨Or.inl lw938, lw940, lw941, lw96, lw939, rfl, by decide +kernel, by decide⟩
theorem lw942 : Cond.methodLink RL 36 yX11_days ∈ Gw := inGw (in_t3 (List.mem_of_getElem? (i := 204) (by decide +kernel))) (by decide +kernel)
theorem lw943 : Cond.code yX11_days cX11_days 3 (some .int) ∈ Gw := inGw (in_t3 (List.mem_of_getElem? (i := 207) (by rfl))) (by decide +kernel)
theorem lw944 : Cond.instanceMethod yX11_days ∈ Gw := inGw (in_t3 (List.mem_of_getElem? (i := 205) (by decide +kernel))) (by decide +kernel)
theorem lw945 : Cond.selects RX11 yX11_days yX11_days ∈ Gw := inGw (in_t3 (List.mem_of_getElem? (i := 206) (by decide +kernel))) (by decide +kernel)
theorem cv_RL_36 : CV RL RX11 36 yX11_days cX11_days 3 (some .int) 1 := ⟨Or.inl lw942, lw944, lw945, lw91, lw943, rfl, by decide +kernel, by decide⟩
theorem lw946 : Cond.methodLink RL 39 yX12_days ∈ Gw := inGw (in_t7 (List.mem_of_getElem? (i := 13) (by decide +kernel))) (by decide +kernel)
theorem lw947 : Cond.code yX12_days cX12_days 2 (some .int) ∈ Gw := inGw (in_t7 (List.mem_of_getElem? (i := 16) (by rfl))) (by decide +kernel)
theorem lw948 : Cond.instanceMethod yX12_days ∈ Gw := inGw (in_t7 (List.mem_of_getElem? (i := 14) (by decide +kernel))) (by decide +kernel)
theorem lw949 : Cond.selects RX12 yX12_days yX12_days ∈ Gw := inGw (in_t7 (List.mem_of_getElem? (i := 15) (by decide +kernel))) (by decide +kernel)
theorem cv_RL_39 : CV RL RX12 39 yX12_days cX12_days 2 (some .int) 1 := ⟨Or.inl lw946, lw948, lw949, lw96, lw947, rfl, by decide +kernel, by decide⟩
theorem lw950 : Cond.methodLink RL 40 yX11_tried ∈ Gw := inGw (in_t4 (List.mem_of_getElem? (i := 37) (by decide +kernel))) (by decide +kernel)
theorem lw951 : Cond.code yX11_tried cX11_tried 3 (some .int) ∈ Gw := inGw (in_t4 (List.mem_of_getElem? (i := 40) (by rfl))) (by decide +kernel)
theorem lw952 : Cond.instanceMethod yX11_tried ∈ Gw := inGw (in_t4 (List.mem_of_getElem? (i := 38) (by decide +kernel))) (by decide +kernel)
theorem lw953 : Cond.selects RX11 yX11_tried yX11_tried ∈ Gw := inGw (in_t4 (List.mem_of_getElem? (i := 39) (by decide +kernel))) (by decide +kernel)
theorem cv_RL_40 : CV RL RX11 40 yX11_tried cX11_tried 3 (some .int) 2 := ⟨Or.inl lw950, lw952, lw953, lw91, lw951, rfl, by decide +kernel, by decide⟩
theorem lw954 : Cond.methodLink RL 44 yX12_tried ∈ Gw := inGw (in_t7 (List.mem_of_getElem? (i := 62) (by decide +kernel))) (by decide +kernel)
theorem lw955 : Cond.code yX12_tried cX12_tried 4 (some .int) ∈ Gw := inGw (in_t7 (List.mem_of_getElem? (i := 65) (by rfl))) (by decide +kernel)
theorem lw956 : Cond.instanceMethod yX12_tried ∈ Gw := inGw (in_t7 (List.mem_of_getElem? (i := 63) (by decide +kernel))) (by decide +kernel)
theorem lw957 : Cond.selects RX12 yX12_tried yX12_tried ∈ Gw := inGw (in_t7 (List.mem_of_getElem? (i := 64) (by decide +kernel))) (by decide +kernel)
theorem cv_RL_44 : CV RL RX12 44 yX12_tried cX12_tried 4 (some .int) 2 := ⟨Or.inl lw954, lw956, lw957, lw96, lw955, rfl, by decide +kernel, by decide⟩
theorem lw958 : Cond.methodLink RL 45 yX11_sees ∈ Gw := inGw (in_t4 (List.mem_of_getElem? (i := 90) (by decide +kernel))) (by decide +kernel)
theorem lw959 : Cond.code yX11_sees cX11_sees 3 (some .int) ∈ Gw := inGw (in_t4 (List.mem_of_getElem? (i := 93) (by rfl))) (by decide +kernel)
theorem lw960 : Cond.instanceMethod yX11_sees ∈ Gw := inGw (in_t4 (List.mem_of_getElem? (i := 91) (by decide +kernel))) (by decide +kernel)
theorem lw961 : Cond.selects RX11 yX11_sees yX11_sees ∈ Gw := inGw (in_t4 (List.mem_of_getElem? (i := 92) (by decide +kernel))) (by decide +kernel)
theorem cv_RL_45 : CV RL RX11 45 yX11_sees cX11_sees 3 (some .int) 2 := ⟨Or.inl lw958, lw960, lw961, lw91, lw959, rfl, by decide +kernel, by decide⟩
theorem lw962 : Cond.methodLink RL 48 yX12_sees ∈ Gw := inGw (in_t6 (List.mem_of_getElem? (i := 102) (by decide +kernel))) (by decide +kernel)
theorem lw963 : Cond.code yX12_sees cX12_sees 3 (some .int) ∈ Gw := inGw (in_t6 (List.mem_of_getElem? (i := 105) (by rfl))) (by decide +kernel)
theorem lw964 : Cond.instanceMethod yX12_sees ∈ Gw := inGw (in_t6 (List.mem_of_getElem? (i := 103) (by decide +kernel))) (by decide +kernel)
theorem lw965 : Cond.selects RX12 yX12_sees yX12_sees ∈ Gw := inGw (in_t6 (List.mem_of_getElem? (i := 104) (by decide +kernel))) (by decide +kernel)
theorem cv_RL_48 : CV RL RX12 48 yX12_sees cX12_sees 3 (some .int) 2 := ⟨Or.inl lw962, lw964, lw965, lw96, lw963, rfl, by decide +kernel, by decide⟩
theorem lw966 : Cond.methodLink RL 49 yX11_houseIs ∈ Gw := inGw (in_t4 (List.mem_of_getElem? (i := 95) (by decide +kernel))) (by decide +kernel)
theorem lw967 : Cond.code yX11_houseIs cX11_houseIs 3 (some .int) ∈ Gw := inGw (in_t4 (List.mem_of_getElem? (i := 98) (by rfl))) (by decide +kernel)
theorem lw968 : Cond.instanceMethod yX11_houseIs ∈ Gw := inGw (in_t4 (List.mem_of_getElem? (i := 96) (by decide +kernel))) (by decide +kernel)
theorem lw969 : Cond.selects RX11 yX11_houseIs yX11_houseIs ∈ Gw := inGw (in_t4 (List.mem_of_getElem? (i := 97) (by decide +kernel))) (by decide +kernel)
theorem cv_RL_49 : CV RL RX11 49 yX11_houseIs cX11_houseIs 3 (some .int) 2 := ⟨Or.inl lw966, lw968, lw969, lw91, lw967, rfl, by decide +kernel, by decide⟩
theorem lw970 : Cond.methodLink RL 52 yX12_houseIs ∈ Gw := inGw (in_t7 (List.mem_of_getElem? (i := 76) (by decide +kernel))) (by decide +kernel)
theorem lw971 : Cond.code yX12_houseIs cX12_houseIs 3 (some .int) ∈ Gw := inGw (in_t7 (List.mem_of_getElem? (i := 79) (by rfl))) (by decide +kernel)
theorem lw972 : Cond.instanceMethod yX12_houseIs ∈ Gw := inGw (in_t7 (List.mem_of_getElem? (i := 77) (by decide +kernel))) (by decide +kernel)
theorem lw973 : Cond.selects RX12 yX12_houseIs yX12_houseIs ∈ Gw := inGw (in_t7 (List.mem_of_getElem? (i := 78) (by decide +kernel))) (by decide +kernel)
theorem cv_RL_52 : CV RL RX12 52 yX12_houseIs cX12_houseIs 3 (some .int) 2 := ⟨Or.inl lw970, lw972, lw973, lw96, lw971, rfl, by decide +kernel, by decide⟩
theorem lw974 : Cond.methodLink RL 53 yX11_rotaIs ∈ Gw := inGw (in_t4 (List.mem_of_getElem? (i := 111) (by decide +kernel))) (by decide +kernel)
theorem lw975 : Cond.code yX11_rotaIs cX11_rotaIs 2 (some .int) ∈ Gw := inGw (in_t4 (List.mem_of_getElem? (i := 114) (by rfl))) (by decide +kernel)
theorem lw976 : Cond.instanceMethod yX11_rotaIs ∈ Gw := inGw (in_t4 (List.mem_of_getElem? (i := 112) (by decide +kernel))) (by decide +kernel)
theorem lw977 : Cond.selects RX11 yX11_rotaIs yX11_rotaIs ∈ Gw := inGw (in_t4 (List.mem_of_getElem? (i := 113) (by decide +kernel))) (by decide +kernel)
theorem cv_RL_53 : CV RL RX11 53 yX11_rotaIs cX11_rotaIs 2 (some .int) 1 := ⟨Or.inl lw974, lw976, lw977, lw91, lw975, rfl, by decide +kernel, by decide⟩
theorem lw978 : Cond.methodLink RL 56 yX12_rotaIs ∈ Gw := inGw (in_t7 (List.mem_of_getElem? (i := 98) (by decide +kernel))) (by decide +kernel)
theorem lw979 : Cond.code yX12_rotaIs cX12_rotaIs 2 (some .int) ∈ Gw := inGw (in_t7 (List.mem_of_getElem? (i := 101) (by rfl))) (by decide +kernel)
theorem lw980 : Cond.instanceMethod yX12_rotaIs ∈ Gw := inGw (in_t7 (List.mem_of_getElem? (i := 99) (by decide +kernel))) (by decide +kernel)
theorem lw981 : Cond.selects RX12 yX12_rotaIs yX12_rotaIs ∈ Gw := inGw (in_t7 (List.mem_of_getElem? (i := 100) (by decide +kernel))) (by decide +kernel)
theorem cv_RL_56 : CV RL RX12 56 yX12_rotaIs cX12_rotaIs 2 (some .int) 1 := ⟨Or.inl lw978, lw980, lw981, lw96, lw979, rfl, by decide +kernel, by decide⟩
theorem lw982 : Cond.methodLink RL 57 yX11_next ∈ Gw := inGw (in_t4 (List.mem_of_getElem? (i := 130) (by decide +kernel))) (by decide +kernel)
theorem lw983 : Cond.code yX11_next cX11_next 4 (some .int) ∈ Gw := inGw (in_t4 (List.mem_of_getElem? (i := 133) (by rfl))) (by decide +kernel)
theorem lw984 : Cond.instanceMethod yX11_next ∈ Gw := inGw (in_t4 (List.mem_of_getElem? (i := 131) (by decide +kernel))) (by decide +kernel)
theorem lw985 : Cond.selects RX11 yX11_next yX11_next ∈ Gw := inGw (in_t4 (List.mem_of_getElem? (i := 132) (by decide +kernel))) (by decide +kernel)
theorem cv_RL_57 : CV RL RX11 57 yX11_next cX11_next 4 (some .int) 3 := ⟨Or.inl lw982, lw984, lw985, lw91, lw983, rfl, by decide +kernel, by decide⟩
theorem lw986 : Cond.methodLink RL 61 yX12_next ∈ Gw := inGw (in_t7 (List.mem_of_getElem? (i := 110) (by decide +kernel))) (by decide +kernel)
theorem lw987 : Cond.code yX12_next cX12_next 6 (some .int) ∈ Gw := inGw (in_t7 (List.mem_of_getElem? (i := 113) (by rfl))) (by decide +kernel)
theorem lw988 : Cond.instanceMethod yX12_next ∈ Gw := inGw (in_t7 (List.mem_of_getElem? (i := 111) (by decide +kernel))) (by decide +kernel)
theorem lw989 : Cond.selects RX12 yX12_next yX12_next ∈ Gw := inGw (in_t7 (List.mem_of_getElem? (i := 112) (by decide +kernel))) (by decide +kernel)
theorem cv_RL_61 : CV RL RX12 61 yX12_next cX12_next 6 (some .int) 3 := ⟨Or.inl lw986, lw988, lw989, lw96, lw987, rfl, by decide +kernel, by decide⟩
theorem lw990 : Cond.methodLink RL 62 yX11_light ∈ Gw := inGw (in_t4 (List.mem_of_getElem? (i := 140) (by decide +kernel))) (by decide +kernel)
theorem lw991 : Cond.code yX11_light cX11_light 4 (some .int) ∈ Gw := inGw (in_t4 (List.mem_of_getElem? (i := 143) (by rfl))) (by decide +kernel)
theorem lw992 : Cond.instanceMethod yX11_light ∈ Gw := inGw (in_t4 (List.mem_of_getElem? (i := 141) (by decide +kernel))) (by decide +kernel)
theorem lw993 : Cond.selects RX11 yX11_light yX11_light ∈ Gw := inGw (in_t4 (List.mem_of_getElem? (i := 142) (by decide +kernel))) (by decide +kernel)
theorem cv_RL_62 : CV RL RX11 62 yX11_light cX11_light 4 (some .int) 2 := ⟨Or.inl lw990, lw992, lw993, lw91, lw991, rfl, by decide +kernel, by decide⟩
theorem lw994 : Cond.methodLink RL 65 yX12_light ∈ Gw := inGw (in_t7 (List.mem_of_getElem? (i := 114) (by decide +kernel))) (by decide +kernel)
theorem lw995 : Cond.code yX12_light cX12_light 3 (some .int) ∈ Gw := inGw (in_t7 (List.mem_of_getElem? (i := 117) (by rfl))) (by decide +kernel)
theorem lw996 : Cond.instanceMethod yX12_light ∈ Gw := inGw (in_t7 (List.mem_of_getElem? (i := 115) (by decide +kernel))) (by decide +kernel)
theorem lw997 : Cond.selects RX12 yX12_light yX12_light ∈ Gw := inGw (in_t7 (List.mem_of_getElem? (i := 116) (by decide +kernel))) (by decide +kernel)
theorem cv_RL_65 : CV RL RX12 65 yX12_light cX12_light 3 (some .int) 2 := ⟨Or.inl lw994, lw996, lw997, lw96, lw995, rfl, by decide +kernel, by decide⟩
theorem lw998 : Cond.methodLink RL 66 yX11_seers ∈ Gw := inGw (in_t4 (List.mem_of_getElem? (i := 149) (by decide +kernel))) (by decide +kernel)
theorem lw999 : Cond.code yX11_seers cX11_seers 2 (some .int) ∈ Gw := inGw (in_t4 (List.mem_of_getElem? (i := 152) (by rfl))) (by decide +kernel)
theorem lw9100 : Cond.instanceMethod yX11_seers ∈ Gw := inGw (in_t4 (List.mem_of_getElem? (i := 150) (by decide +kernel))) (by decide +kernel)
theorem lw9101 : Cond.selects RX11 yX11_seers yX11_seers ∈ Gw := inGw (in_t4 (List.mem_of_getElem? (i := 151) (by decide +kernel))) (by decide +kernel)
theorem cv_RL_66 : CV RL RX11 66 yX11_seers cX11_seers 2 (some .int) 1 := ⟨Or.inl lw998, lw9100, lw9101, lw91, lw999, rfl, by decide +kernel, by decide⟩
theorem lw9102 : Cond.methodLink RL 69 yX12_seers ∈ Gw := inGw (in_t7 (List.mem_of_getElem? (i := 122) (by decide +kernel))) (by decide +kernel)
theorem lw9103 : Cond.code yX12_seers cX12_seers 4 (some .int) ∈ Gw := inGw (in_t7 (List.mem_of_getElem? (i := 125) (by rfl))) (by decide +kernel)
theorem lw9104 : Cond.instanceMethod yX12_seers ∈ Gw := inGw (in_t7 (List.mem_of_getElem? (i := 123) (by decide +kernel))) (by decide +kernel)
theorem lw9105 : Cond.selects RX12 yX12_seers yX12_seers ∈ Gw := inGw (in_t7 (List.mem_of_getElem? (i := 124) (by decide +kernel))) (by decide +kernel)
theorem cv_RL_69 : CV RL RX12 69 yX12_seers cX12_seers 4 (some .int) 1 := ⟨Or.inl lw9102, lw9104, lw9105, lw96, lw9103, rfl, by decide +kernel, by decide⟩
theorem lw9106 : Cond.methodLink RL 70 yX11_ifSwapped ∈ Gw := inGw (in_t4 (List.mem_of_getElem? (i := 197) (by decide +kernel))) (by decide +kernel)
theorem lw9107 : Cond.code yX11_ifSwapped cX11_ifSwapped 3 (some .int) ∈ Gw := inGw (in_t4 (List.mem_of_getElem? (i := 200) (by rfl))) (by decide +kernel)
theorem lw9108 : Cond.instanceMethod yX11_ifSwapped ∈ Gw := inGw (in_t4 (List.mem_of_getElem? (i := 198) (by decide +kernel))) (by decide +kernel)
theorem lw9109 : Cond.selects RX11 yX11_ifSwapped yX11_ifSwapped ∈ Gw := inGw (in_t4 (List.mem_of_getElem? (i := 199) (by decide +kernel))) (by decide +kernel)
theorem cv_RL_70 : CV RL RX11 70 yX11_ifSwapped cX11_ifSwapped 3 (some .int) 2 := ⟨Or.inl lw9106, lw9108, lw9109, lw91, lw9107, rfl, by decide +kernel, by decide⟩
theorem lw9110 : Cond.methodLink RL 73 yX12_ifSwapped ∈ Gw := inGw (in_t7 (List.mem_of_getElem? (i := 126) (by decide +kernel))) (by decide +kernel)
theorem lw9111 : Cond.code yX12_ifSwapped cX12_ifSwapped 4 (some .int) ∈ Gw := inGw (in_t7 (List.mem_of_getElem? (i := 129) (by rfl))) (by decide +kernel)
theorem lw9112 : Cond.instanceMethod yX12_ifSwapped ∈ Gw := inGw (in_t7 (List.mem_of_getElem? (i := 127) (by decide +kernel))) (by decide +kernel)
theorem lw9113 : Cond.selects RX12 yX12_ifSwapped yX12_ifSwapped ∈ Gw := inGw (in_t7 (List.mem_of_getElem? (i := 128) (by decide +kernel))) (by decide +kernel)
theorem cv_RL_73 : CV RL RX12 73 yX12_ifSwapped cX12_ifSwapped 4 (some .int) 2 := ⟨Or.inl lw9110, lw9112, lw9113, lw96, lw9111, rfl, by decide +kernel, by decide⟩
theorem lw9114 : Cond.methodLink RL 74 yX11_spread ∈ Gw := inGw (in_t4 (List.mem_of_getElem? (i := 211) (by decide +kernel))) (by decide +kernel)
theorem lw9115 : Cond.code yX11_spread cX11_spread 1 (some .int) ∈ Gw := inGw (in_t4 (List.mem_of_getElem? (i := 214) (by rfl))) (by decide +kernel)
theorem lw9116 : Cond.instanceMethod yX11_spread ∈ Gw := inGw (in_t4 (List.mem_of_getElem? (i := 212) (by decide +kernel))) (by decide +kernel)
theorem lw9117 : Cond.selects RX11 yX11_spread yX11_spread ∈ Gw := inGw (in_t4 (List.mem_of_getElem? (i := 213) (by decide +kernel))) (by decide +kernel)
theorem cv_RL_74 : CV RL RX11 74 yX11_spread cX11_spread 1 (some .int) 0 := ⟨Or.inl lw9114, lw9116, lw9117, lw91, lw9115, rfl, by decide +kernel, by decide⟩
theorem lw9118 : Cond.methodLink RL 78 yX12_spread ∈ Gw := inGw (in_t7 (List.mem_of_getElem? (i := 134) (by decide +kernel))) (by decide +kernel)
theorem lw9119 : Cond.code yX12_spread cX12_spread 4 (some .int) ∈ Gw := inGw (in_t7 (List.mem_of_getElem? (i := 137) (by rfl))) (by decide +kernel)
theorem lw9120 : Cond.instanceMethod yX12_spread ∈ Gw := inGw (in_t7 (List.mem_of_getElem? (i := 135) (by decide +kernel))) (by decide +kernel)
theorem lw9121 : Cond.selects RX12 yX12_spread yX12_spread ∈ Gw := inGw (in_t7 (List.mem_of_getElem? (i := 136) (by decide +kernel))) (by decide +kernel)
theorem cv_RL_78 : CV RL RX12 78 yX12_spread cX12_spread 4 (some .int) 0 := ⟨Or.inl lw9118, lw9120, lw9121, lw96, lw9119, rfl, by decide +kernel, by decide⟩
theorem lw9122 : Cond.methodLink RL 79 yX11_bestBreath ∈ Gw := inGw (in_t4 (List.mem_of_getElem? (i := 231) (by decide +kernel))) (by decide +kernel)
theorem lw9123 : Cond.code yX11_bestBreath cX11_bestBreath 4 (some .int) ∈ Gw := inGw (in_t4 (List.mem_of_getElem? (i := 234) (by rfl))) (by decide +kernel)
theorem lw9124 : Cond.instanceMethod yX11_bestBreath ∈ Gw := inGw (in_t4 (List.mem_of_getElem? (i := 232) (by decide +kernel))) (by decide +kernel)
theorem lw9125 : Cond.selects RX11 yX11_bestBreath yX11_bestBreath ∈ Gw := inGw (in_t4 (List.mem_of_getElem? (i := 233) (by decide +kernel))) (by decide +kernel)
theorem cv_RL_79 : CV RL RX11 79 yX11_bestBreath cX11_bestBreath 4 (some .int) 2 := ⟨Or.inl lw9122, lw9124, lw9125, lw91, lw9123, rfl, by decide +kernel, by decide⟩
theorem lw9126 : Cond.methodLink RL 82 yX12_bestBreath ∈ Gw := inGw (in_t7 (List.mem_of_getElem? (i := 146) (by decide +kernel))) (by decide +kernel)
theorem lw9127 : Cond.code yX12_bestBreath cX12_bestBreath 5 (some .int) ∈ Gw := inGw (in_t7 (List.mem_of_getElem? (i := 149) (by rfl))) (by decide +kernel)
theorem lw9128 : Cond.instanceMethod yX12_bestBreath ∈ Gw := inGw (in_t7 (List.mem_of_getElem? (i := 147) (by decide +kernel))) (by decide +kernel)
theorem lw9129 : Cond.selects RX12 yX12_bestBreath yX12_bestBreath ∈ Gw := inGw (in_t7 (List.mem_of_getElem? (i := 148) (by decide +kernel))) (by decide +kernel)
theorem cv_RL_82 : CV RL RX12 82 yX12_bestBreath cX12_bestBreath 5 (some .int) 2 := ⟨Or.inl lw9126, lw9128, lw9129, lw96, lw9127, rfl, by decide +kernel, by decide⟩
theorem lw9130 : Cond.methodLink RL 83 yX11_clearest ∈ Gw := inGw (in_t4 (List.mem_of_getElem? (i := 158) (by decide +kernel))) (by decide +kernel)
theorem lw9131 : Cond.code yX11_clearest cX11_clearest 3 (some .int) ∈ Gw := inGw (in_t4 (List.mem_of_getElem? (i := 161) (by rfl))) (by decide +kernel)
theorem lw9132 : Cond.instanceMethod yX11_clearest ∈ Gw := inGw (in_t4 (List.mem_of_getElem? (i := 159) (by decide +kernel))) (by decide +kernel)
theorem lw9133 : Cond.selects RX11 yX11_clearest yX11_clearest ∈ Gw := inGw (in_t4 (List.mem_of_getElem? (i := 160) (by decide +kernel))) (by decide +kernel)
theorem cv_RL_83 : CV RL RX11 83 yX11_clearest cX11_clearest 3 (some .int) 1 := ⟨Or.inl lw9130, lw9132, lw9133, lw91, lw9131, rfl, by decide +kernel, by decide⟩
theorem lw9134 : Cond.methodLink RL 86 yX12_clearest ∈ Gw := inGw (in_t7 (List.mem_of_getElem? (i := 154) (by decide +kernel))) (by decide +kernel)
theorem lw9135 : Cond.code yX12_clearest cX12_clearest 4 (some .int) ∈ Gw := inGw (in_t7 (List.mem_of_getElem? (i := 157) (by rfl))) (by decide +kernel)
theorem lw9136 : Cond.instanceMethod yX12_clearest ∈ Gw := inGw (in_t7 (List.mem_of_getElem? (i := 155) (by decide +kernel))) (by decide +kernel)
theorem lw9137 : Cond.selects RX12 yX12_clearest yX12_clearest ∈ Gw := inGw (in_t7 (List.mem_of_getElem? (i := 156) (by decide +kernel))) (by decide +kernel)
theorem cv_RL_86 : CV RL RX12 86 yX12_clearest cX12_clearest 4 (some .int) 1 := ⟨Or.inl lw9134, lw9136, lw9137, lw96, lw9135, rfl, by decide +kernel, by decide⟩
theorem lw9138 : Cond.methodLink RL 87 yX11_shortest ∈ Gw := inGw (in_t5 (List.mem_of_getElem? (i := 5) (by decide +kernel))) (by decide +kernel)
theorem lw9139 : Cond.code yX11_shortest cX11_shortest 4 (some .int) ∈ Gw := inGw (in_t5 (List.mem_of_getElem? (i := 8) (by rfl))) (by decide +kernel)
theorem lw9140 : Cond.instanceMethod yX11_shortest ∈ Gw := inGw (in_t5 (List.mem_of_getElem? (i := 6) (by decide +kernel))) (by decide +kernel)
theorem lw9141 : Cond.selects RX11 yX11_shortest yX11_shortest ∈ Gw := inGw (in_t5 (List.mem_of_getElem? (i := 7) (by decide +kernel))) (by decide +kernel)
theorem cv_RL_87 : CV RL RX11 87 yX11_shortest cX11_shortest 4 (some .int) 2 := ⟨Or.inl lw9138, lw9140, lw9141, lw91, lw9139, rfl, by decide +kernel, by decide⟩
theorem lw9142 : Cond.methodLink RL 90 yX12_shortest ∈ Gw := inGw (in_t7 (List.mem_of_getElem? (i := 167) (by decide +kernel))) (by decide +kernel)
theorem lw9143 : Cond.code yX12_shortest cX12_shortest 4 (some .int) ∈ Gw := inGw (in_t7 (List.mem_of_getElem? (i := 170) (by rfl))) (by decide +kernel)
theorem lw9144 : Cond.instanceMethod yX12_shortest ∈ Gw := inGw (in_t7 (List.mem_of_getElem? (i := 168) (by decide +kernel))) (by decide +kernel)
theorem lw9145 : Cond.selects RX12 yX12_shortest yX12_shortest ∈ Gw := inGw (in_t7 (List.mem_of_getElem? (i := 169) (by decide +kernel))) (by decide +kernel)
theorem cv_RL_90 : CV RL RX12 90 yX12_shortest cX12_shortest 4 (some .int) 2 := ⟨Or.inl lw9142, lw9144, lw9145, lw96, lw9143, rfl, by decide +kernel, by decide⟩
theorem lw9146 : Cond.methodLink RL 91 yX11_whoHad ∈ Gw := inGw (in_t4 (List.mem_of_getElem? (i := 172) (by decide +kernel))) (by decide +kernel)
theorem lw9147 : Cond.code yX11_whoHad cX11_whoHad 3 (some .int) ∈ Gw := inGw (in_t4 (List.mem_of_getElem? (i := 175) (by rfl))) (by decide +kernel)
theorem lw9148 : Cond.instanceMethod yX11_whoHad ∈ Gw := inGw (in_t4 (List.mem_of_getElem? (i := 173) (by decide +kernel))) (by decide +kernel)
theorem lw9149 : Cond.selects RX11 yX11_whoHad yX11_whoHad ∈ Gw := inGw (in_t4 (List.mem_of_getElem? (i := 174) (by decide +kernel))) (by decide +kernel)
theorem cv_RL_91 : CV RL RX11 91 yX11_whoHad cX11_whoHad 3 (some .int) 2 := ⟨Or.inl lw9146, lw9148, lw9149, lw91, lw9147, rfl, by decide +kernel, by decide⟩
theorem lw9150 : Cond.methodLink RL 94 yX12_whoHad ∈ Gw := inGw (in_t7 (List.mem_of_getElem? (i := 162) (by decide +kernel))) (by decide +kernel)
theorem lw9151 : Cond.code yX12_whoHad cX12_whoHad 5 (some .int) ∈ Gw := inGw (in_t7 (List.mem_of_getElem? (i := 165) (by rfl))) (by decide +kernel)
theorem lw9152 : Cond.instanceMethod yX12_whoHad ∈ Gw := inGw (in_t7 (List.mem_of_getElem? (i := 163) (by decide +kernel))) (by decide +kernel)
theorem lw9153 : Cond.selects RX12 yX12_whoHad yX12_whoHad ∈ Gw := inGw (in_t7 (List.mem_of_getElem? (i := 164) (by decide +kernel))) (by decide +kernel)
theorem cv_RL_94 : CV RL RX12 94 yX12_whoHad cX12_whoHad 5 (some .int) 2 := ⟨Or.inl lw9150, lw9152, lw9153, lw96, lw9151, rfl, by decide +kernel, by decide⟩
theorem lw9154 : Cond.methodLink RL 95 yX11_readers ∈ Gw := inGw (in_t4 (List.mem_of_getElem? (i := 223) (by decide +kernel))) (by decide +kernel)
theorem lw9155 : Cond.code yX11_readers cX11_readers 3 (some .int) ∈ Gw := inGw (in_t4 (List.mem_of_getElem? (i := 226) (by rfl))) (by decide +kernel)
theorem lw9156 : Cond.instanceMethod yX11_readers ∈ Gw := inGw (in_t4 (List.mem_of_getElem? (i := 224) (by decide +kernel))) (by decide +kernel)
theorem lw9157 : Cond.selects RX11 yX11_readers yX11_readers ∈ Gw := inGw (in_t4 (List.mem_of_getElem? (i := 225) (by decide +kernel))) (by decide +kernel)
theorem cv_RL_95 : CV RL RX11 95 yX11_readers cX11_readers 3 (some .int) 2 := ⟨Or.inl lw9154, lw9156, lw9157, lw91, lw9155, rfl, by decide +kernel, by decide⟩
theorem lw9158 : Cond.methodLink RL 98 yX12_readers ∈ Gw := inGw (in_t7 (List.mem_of_getElem? (i := 138) (by decide +kernel))) (by decide +kernel)
theorem lw9159 : Cond.code yX12_readers cX12_readers 3 (some .int) ∈ Gw := inGw (in_t7 (List.mem_of_getElem? (i := 141) (by rfl))) (by decide +kernel)
theorem lw9160 : Cond.instanceMethod yX12_readers ∈ Gw := inGw (in_t7 (List.mem_of_getElem? (i := 139) (by decide +kernel))) (by decide +kernel)
theorem lw9161 : Cond.selects RX12 yX12_readers yX12_readers ∈ Gw := inGw (in_t7 (List.mem_of_getElem? (i := 140) (by decide +kernel))) (by decide +kernel)
theorem cv_RL_98 : CV RL RX12 98 yX12_readers cX12_readers 3 (some .int) 2 := ⟨Or.inl lw9158, lw9160, lw9161, lw96, lw9159, rfl, by decide +kernel, by decide⟩
theorem lw9162 : Cond.methodLink RL 99 yX11_second ∈ Gw := inGw (in_t4 (List.mem_of_getElem? (i := 180) (by decide +kernel))) (by decide +kernel)
theorem lw9163 : Cond.code yX11_second cX11_second 3 (some .int) ∈ Gw := inGw (in_t4 (List.mem_of_getElem? (i := 183) (by rfl))) (by decide +kernel)
theorem lw9164 : Cond.instanceMethod yX11_second ∈ Gw := inGw (in_t4 (List.mem_of_getElem? (i := 181) (by decide +kernel))) (by decide +kernel)
theorem lw9165 : Cond.selects RX11 yX11_second yX11_second ∈ Gw := inGw (in_t4 (List.mem_of_getElem? (i := 182) (by decide +kernel))) (by decide +kernel)
theorem cv_RL_99 : CV RL RX11 99 yX11_second cX11_second 3 (some .int) 1 := ⟨Or.inl lw9162, lw9164, lw9165, lw91, lw9163, rfl, by decide +kernel, by decide⟩
theorem lw9166 : Cond.methodLink RL 102 yX12_second ∈ Gw := inGw (in_t7 (List.mem_of_getElem? (i := 191) (by decide +kernel))) (by decide +kernel)
theorem lw9167 : Cond.code yX12_second cX12_second 3 (some .int) ∈ Gw := inGw (in_t7 (List.mem_of_getElem? (i := 194) (by rfl))) (by decide +kernel)
theorem lw9168 : Cond.instanceMethod yX12_second ∈ Gw := inGw (in_t7 (List.mem_of_getElem? (i := 192) (by decide +kernel))) (by decide +kernel)
theorem lw9169 : Cond.selects RX12 yX12_second yX12_second ∈ Gw := inGw (in_t7 (List.mem_of_getElem? (i := 193) (by decide +kernel))) (by decide +kernel)
theorem cv_RL_102 : CV RL RX12 102 yX12_second cX12_second 3 (some .int) 1 := ⟨Or.inl lw9166, lw9168, lw9169, lw96, lw9167, rfl, by decide +kernel, by decide⟩
theorem lw9170 : Cond.methodLink RL 103 yX11_crack ∈ Gw := inGw (in_t5 (List.mem_of_getElem? (i := 36) (by decide +kernel))) (by decide +kernel)
theorem lw9171 : Cond.code yX11_crack cX11_crack 4 (some .int) ∈ Gw := inGw (in_t5 (List.mem_of_getElem? (i := 39) (by rfl))) (by decide +kernel)
theorem lw9172 : Cond.instanceMethod yX11_crack ∈ Gw := inGw (in_t5 (List.mem_of_getElem? (i := 37) (by decide +kernel))) (by decide +kernel)
theorem lw9173 : Cond.selects RX11 yX11_crack yX11_crack ∈ Gw := inGw (in_t5 (List.mem_of_getElem? (i := 38) (by decide +kernel))) (by decide +kernel)
theorem cv_RL_103 : CV RL RX11 103 yX11_crack cX11_crack 4 (some .int) 2 := ⟨Or.inl lw9170, lw9172, lw9173, lw91, lw9171, rfl, by decide +kernel, by decide⟩
theorem lw9174 : Cond.methodLink RL 106 yX12_crack ∈ Gw := inGw (in_t7 (List.mem_of_getElem? (i := 202) (by decide +kernel))) (by decide +kernel)
theorem lw9175 : Cond.code yX12_crack cX12_crack 6 (some .int) ∈ Gw := inGw (in_t7 (List.mem_of_getElem? (i := 205) (by rfl))) (by decide +kernel)
theorem lw9176 : Cond.instanceMethod yX12_crack ∈ Gw := inGw (in_t7 (List.mem_of_getElem? (i := 203) (by decide +kernel))) (by decide +kernel)
theorem lw9177 : Cond.selects RX12 yX12_crack yX12_crack ∈ Gw := inGw (in_t7 (List.mem_of_getElem? (i := 204) (by decide +kernel))) (by decide +kernel)
theorem cv_RL_106 : CV RL RX12 106 yX12_crack cX12_crack 6 (some .int) 2 := ⟨Or.inl lw9174, lw9176, lw9177, lw96, lw9175, rfl, by decide +kernel, by decide⟩
theorem lw9178 : Cond.methodLink RL 107 yX11_halves ∈ Gw := inGw (in_t5 (List.mem_of_getElem? (i := 50) (by decide +kernel))) (by decide +kernel)
theorem lw9179 : Cond.code yX11_halves cX11_halves 3 (some .int) ∈ Gw := inGw (in_t5 (List.mem_of_getElem? (i := 53) (by rfl))) (by decide +kernel)
theorem lw9180 : Cond.instanceMethod yX11_halves ∈ Gw := inGw (in_t5 (List.mem_of_getElem? (i := 51) (by decide +kernel))) (by decide +kernel)
theorem lw9181 : Cond.selects RX11 yX11_halves yX11_halves ∈ Gw := inGw (in_t5 (List.mem_of_getElem? (i := 52) (by decide +kernel))) (by decide +kernel)
theorem cv_RL_107 : CV RL RX11 107 yX11_halves cX11_halves 3 (some .int) 1 := ⟨Or.inl lw9178, lw9180, lw9181, lw91, lw9179, rfl, by decide +kernel, by decide⟩
theorem lw9182 : Cond.methodLink RL 110 yX12_halves ∈ Gw := inGw (in_t7 (List.mem_of_getElem? (i := 210) (by decide +kernel))) (by decide +kernel)
theorem lw9183 : Cond.code yX12_halves cX12_halves 6 (some .int) ∈ Gw := inGw (in_t7 (List.mem_of_getElem? (i := 213) (by rfl))) (by decide +kernel)
theorem lw9184 : Cond.instanceMethod yX12_halves ∈ Gw := inGw (in_t7 (List.mem_of_getElem? (i := 211) (by decide +kernel))) (by decide +kernel)
theorem lw9185 : Cond.selects RX12 yX12_halves yX12_halves ∈ Gw := inGw (in_t7 (List.mem_of_getElem? (i := 212) (by decide +kernel))) (by decide +kernel)
theorem cv_RL_110 : CV RL RX12 110 yX12_halves cX12_halves 6 (some .int) 1 := ⟨Or.inl lw9182, lw9184, lw9185, lw96, lw9183, rfl, by decide +kernel, by decide⟩
theorem lw9186 : Cond.methodLink RL 111 yX11_swaps ∈ Gw := inGw (in_t5 (List.mem_of_getElem? (i := 59) (by decide +kernel))) (by decide +kernel)
theorem lw9187 : Cond.code yX11_swaps cX11_swaps 4 (some .int) ∈ Gw := inGw (in_t5 (List.mem_of_getElem? (i := 62) (by rfl))) (by decide +kernel)
theorem lw9188 : Cond.instanceMethod yX11_swaps ∈ Gw := inGw (in_t5 (List.mem_of_getElem? (i := 60) (by decide +kernel))) (by decide +kernel)
theorem lw9189 : Cond.selects RX11 yX11_swaps yX11_swaps ∈ Gw := inGw (in_t5 (List.mem_of_getElem? (i := 61) (by decide +kernel))) (by decide +kernel)
theorem cv_RL_111 : CV RL RX11 111 yX11_swaps cX11_swaps 4 (some .int) 2 := ⟨Or.inl lw9186, lw9188, lw9189, lw91, lw9187, rfl, by decide +kernel, by decide⟩
theorem lw9190 : Cond.methodLink RL 114 yX12_swaps ∈ Gw := inGw (in_t7 (List.mem_of_getElem? (i := 218) (by decide +kernel))) (by decide +kernel)
theorem lw9191 : Cond.code yX12_swaps cX12_swaps 6 (some .int) ∈ Gw := inGw (in_t7 (List.mem_of_getElem? (i := 221) (by rfl))) (by decide +kernel)
theorem lw9192 : Cond.instanceMethod yX12_swaps ∈ Gw := inGw (in_t7 (List.mem_of_getElem? (i := 219) (by decide +kernel))) (by decide +kernel)
theorem lw9193 : Cond.selects RX12 yX12_swaps yX12_swaps ∈ Gw := inGw (in_t7 (List.mem_of_getElem? (i := 220) (by decide +kernel))) (by decide +kernel)
theorem cv_RL_114 : CV RL RX12 114 yX12_swaps cX12_swaps 6 (some .int) 2 := ⟨Or.inl lw9190, lw9192, lw9193, lw96, lw9191, rfl, by decide +kernel, by decide⟩
theorem lw9194 : Cond.methodLink RL 115 yX11_sale ∈ Gw := inGw (in_t5 (List.mem_of_getElem? (i := 83) (by decide +kernel))) (by decide +kernel)
theorem lw9195 : Cond.code yX11_sale cX11_sale 5 (some .int) ∈ Gw := inGw (in_t5 (List.mem_of_getElem? (i := 86) (by rfl))) (by decide +kernel)
theorem lw9196 : Cond.instanceMethod yX11_sale ∈ Gw := inGw (in_t5 (List.mem_of_getElem? (i := 84) (by decide +kernel))) (by decide +kernel)
theorem lw9197 : Cond.selects RX11 yX11_sale yX11_sale ∈ Gw := inGw (in_t5 (List.mem_of_getElem? (i := 85) (by decide +kernel))) (by decide +kernel)
theorem cv_RL_115 : CV RL RX11 115 yX11_sale cX11_sale 5 (some .int) 2 := ⟨Or.inl lw9194, lw9196, lw9197, lw91, lw9195, rfl, by decide +kernel, by decide⟩
theorem lw9198 : Cond.methodLink RL 118 yX12_sale ∈ Gw := inGw (in_t7 (List.mem_of_getElem? (i := 234) (by decide +kernel))) (by decide +kernel)
theorem lw9199 : Cond.code yX12_sale cX12_sale 6 (some .int) ∈ Gw := inGw (in_t7 (List.mem_of_getElem? (i := 237) (by rfl))) (by decide +kernel)
theorem lw9200 : Cond.instanceMethod yX12_sale ∈ Gw := inGw (in_t7 (List.mem_of_getElem? (i := 235) (by decide +kernel))) (by decide +kernel)
theorem lw9201 : Cond.selects RX12 yX12_sale yX12_sale ∈ Gw := inGw (in_t7 (List.mem_of_getElem? (i := 236) (by decide +kernel))) (by decide +kernel)
theorem cv_RL_118 : CV RL RX12 118 yX12_sale cX12_sale 6 (some .int) 2 := ⟨Or.inl lw9198, lw9200, lw9201, lw96, lw9199, rfl, by decide +kernel, by decide⟩
theorem lw9202 : Cond.methodLink RL 119 yX11_rotas ∈ Gw := inGw (in_t5 (List.mem_of_getElem? (i := 101) (by decide +kernel))) (by decide +kernel)
theorem lw9203 : Cond.code yX11_rotas cX11_rotas 2 (some .long) ∈ Gw := inGw (in_t5 (List.mem_of_getElem? (i := 104) (by rfl))) (by decide +kernel)
theorem lw9204 : Cond.instanceMethod yX11_rotas ∈ Gw := inGw (in_t5 (List.mem_of_getElem? (i := 102) (by decide +kernel))) (by decide +kernel)
theorem lw9205 : Cond.selects RX11 yX11_rotas yX11_rotas ∈ Gw := inGw (in_t5 (List.mem_of_getElem? (i := 103) (by decide +kernel))) (by decide +kernel)
theorem cv_RL_119 : CV RL RX11 119 yX11_rotas cX11_rotas 2 (some .long) 1 := ⟨Or.inl lw9202, lw9204, lw9205, lw91, lw9203, rfl, by decide +kernel, by decide⟩
theorem lw9206 : Cond.methodLink RL 123 yX12_rotas ∈ Gw := inGw (in_t8 (List.mem_of_getElem? (i := 2) (by decide +kernel))) (by decide +kernel)
theorem lw9207 : Cond.code yX12_rotas cX12_rotas 4 (some .long) ∈ Gw := inGw (in_t8 (List.mem_of_getElem? (i := 5) (by rfl))) (by decide +kernel)
theorem lw9208 : Cond.instanceMethod yX12_rotas ∈ Gw := inGw (in_t8 (List.mem_of_getElem? (i := 3) (by decide +kernel))) (by decide +kernel)
theorem lw9209 : Cond.selects RX12 yX12_rotas yX12_rotas ∈ Gw := inGw (in_t8 (List.mem_of_getElem? (i := 4) (by decide +kernel))) (by decide +kernel)
theorem cv_RL_123 : CV RL RX12 123 yX12_rotas cX12_rotas 4 (some .long) 1 := ⟨Or.inl lw9206, lw9208, lw9209, lw96, lw9207, rfl, by decide +kernel, by decide⟩
theorem lw9210 : Cond.methodLink RL 124 yX11_panes ∈ Gw := inGw (in_t5 (List.mem_of_getElem? (i := 110) (by decide +kernel))) (by decide +kernel)
theorem lw9211 : Cond.code yX11_panes cX11_panes 4 (some .int) ∈ Gw := inGw (in_t5 (List.mem_of_getElem? (i := 113) (by rfl))) (by decide +kernel)
theorem lw9212 : Cond.instanceMethod yX11_panes ∈ Gw := inGw (in_t5 (List.mem_of_getElem? (i := 111) (by decide +kernel))) (by decide +kernel)
theorem lw9213 : Cond.selects RX11 yX11_panes yX11_panes ∈ Gw := inGw (in_t5 (List.mem_of_getElem? (i := 112) (by decide +kernel))) (by decide +kernel)
theorem cv_RL_124 : CV RL RX11 124 yX11_panes cX11_panes 4 (some .int) 2 := ⟨Or.inl lw9210, lw9212, lw9213, lw91, lw9211, rfl, by decide +kernel, by decide⟩
theorem lw9214 : Cond.methodLink RL 127 yX12_panes ∈ Gw := inGw (in_t8 (List.mem_of_getElem? (i := 7) (by decide +kernel))) (by decide +kernel)
theorem lw9215 : Cond.code yX12_panes cX12_panes 8 (some .int) ∈ Gw := inGw (in_t8 (List.mem_of_getElem? (i := 10) (by rfl))) (by decide +kernel)
theorem lw9216 : Cond.instanceMethod yX12_panes ∈ Gw := inGw (in_t8 (List.mem_of_getElem? (i := 8) (by decide +kernel))) (by decide +kernel)
theorem lw9217 : Cond.selects RX12 yX12_panes yX12_panes ∈ Gw := inGw (in_t8 (List.mem_of_getElem? (i := 9) (by decide +kernel))) (by decide +kernel)
theorem cv_RL_127 : CV RL RX12 127 yX12_panes cX12_panes 8 (some .int) 2 := ⟨Or.inl lw9214, lw9216, lw9217, lw96, lw9215, rfl, by decide +kernel, by decide⟩
theorem lw9218 : Cond.methodLink RL 128 yX11_keepIt ∈ Gw := inGw (in_t5 (List.mem_of_getElem? (i := 121) (by decide +kernel))) (by decide +kernel)
theorem lw9219 : Cond.code yX11_keepIt cX11_keepIt 4 (some .int) ∈ Gw := inGw (in_t5 (List.mem_of_getElem? (i := 124) (by rfl))) (by decide +kernel)
theorem lw9220 : Cond.instanceMethod yX11_keepIt ∈ Gw := inGw (in_t5 (List.mem_of_getElem? (i := 122) (by decide +kernel))) (by decide +kernel)
theorem lw9221 : Cond.selects RX11 yX11_keepIt yX11_keepIt ∈ Gw := inGw (in_t5 (List.mem_of_getElem? (i := 123) (by decide +kernel))) (by decide +kernel)
theorem cv_RL_128 : CV RL RX11 128 yX11_keepIt cX11_keepIt 4 (some .int) 2 := ⟨Or.inl lw9218, lw9220, lw9221, lw91, lw9219, rfl, by decide +kernel, by decide⟩
theorem lw9222 : Cond.methodLink RL 131 yX12_keepIt ∈ Gw := inGw (in_t8 (List.mem_of_getElem? (i := 18) (by decide +kernel))) (by decide +kernel)
theorem lw9223 : Cond.code yX12_keepIt cX12_keepIt 5 (some .int) ∈ Gw := inGw (in_t8 (List.mem_of_getElem? (i := 21) (by rfl))) (by decide +kernel)
theorem lw9224 : Cond.instanceMethod yX12_keepIt ∈ Gw := inGw (in_t8 (List.mem_of_getElem? (i := 19) (by decide +kernel))) (by decide +kernel)
theorem lw9225 : Cond.selects RX12 yX12_keepIt yX12_keepIt ∈ Gw := inGw (in_t8 (List.mem_of_getElem? (i := 20) (by decide +kernel))) (by decide +kernel)
theorem cv_RL_131 : CV RL RX12 131 yX12_keepIt cX12_keepIt 5 (some .int) 2 := ⟨Or.inl lw9222, lw9224, lw9225, lw96, lw9223, rfl, by decide +kernel, by decide⟩
theorem lw9226 : Cond.methodLink RL 132 yX11_seed ∈ Gw := inGw (in_t3 (List.mem_of_getElem? (i := 199) (by decide +kernel))) (by decide +kernel)
theorem lw9227 : Cond.code yX11_seed cX11_seed 2 (some .boolean) ∈ Gw := inGw (in_t3 (List.mem_of_getElem? (i := 202) (by rfl))) (by decide +kernel)
theorem lw9228 : Cond.instanceMethod yX11_seed ∈ Gw := inGw (in_t3 (List.mem_of_getElem? (i := 200) (by decide +kernel))) (by decide +kernel)
theorem lw9229 : Cond.selects RX11 yX11_seed yX11_seed ∈ Gw := inGw (in_t3 (List.mem_of_getElem? (i := 201) (by decide +kernel))) (by decide +kernel)
theorem cv_RL_132 : CV RL RX11 132 yX11_seed cX11_seed 2 (some .boolean) 1 := ⟨Or.inl lw9226, lw9228, lw9229, lw91, lw9227, rfl, by decide +kernel, by decide⟩
theorem lw9230 : Cond.methodLink RL 136 yX12_seed ∈ Gw := inGw (in_t8 (List.mem_of_getElem? (i := 26) (by decide +kernel))) (by decide +kernel)
theorem lw9231 : Cond.code yX12_seed cX12_seed 2 (some .boolean) ∈ Gw := inGw (in_t8 (List.mem_of_getElem? (i := 29) (by rfl))) (by decide +kernel)
theorem lw9232 : Cond.instanceMethod yX12_seed ∈ Gw := inGw (in_t8 (List.mem_of_getElem? (i := 27) (by decide +kernel))) (by decide +kernel)
theorem lw9233 : Cond.selects RX12 yX12_seed yX12_seed ∈ Gw := inGw (in_t8 (List.mem_of_getElem? (i := 28) (by decide +kernel))) (by decide +kernel)
theorem cv_RL_136 : CV RL RX12 136 yX12_seed cX12_seed 2 (some .boolean) 1 := ⟨Or.inl lw9230, lw9232, lw9233, lw96, lw9231, rfl, by decide +kernel, by decide⟩
theorem lw9234 : Cond.methodLink RL 137 yX11_keep ∈ Gw := inGw (in_t4 (List.mem_of_getElem? (i := 63) (by decide +kernel))) (by decide +kernel)
theorem lw9235 : Cond.code yX11_keep cX11_keep 1 (some .int) ∈ Gw := inGw (in_t4 (List.mem_of_getElem? (i := 66) (by rfl))) (by decide +kernel)
theorem lw9236 : Cond.instanceMethod yX11_keep ∈ Gw := inGw (in_t4 (List.mem_of_getElem? (i := 64) (by decide +kernel))) (by decide +kernel)
theorem lw9237 : Cond.selects RX11 yX11_keep yX11_keep ∈ Gw := inGw (in_t4 (List.mem_of_getElem? (i := 65) (by decide +kernel))) (by decide +kernel)
theorem cv_RL_137 : CV RL RX11 137 yX11_keep cX11_keep 1 (some .int) 0 := ⟨Or.inl lw9234, lw9236, lw9237, lw91, lw9235, rfl, by decide +kernel, by decide⟩
theorem lw9238 : Cond.methodLink RL 140 yX12_keep ∈ Gw := inGw (in_t8 (List.mem_of_getElem? (i := 30) (by decide +kernel))) (by decide +kernel)
theorem lw9239 : Cond.code yX12_keep cX12_keep 1 (some .int) ∈ Gw := inGw (in_t8 (List.mem_of_getElem? (i := 33) (by rfl))) (by decide +kernel)
theorem lw9240 : Cond.instanceMethod yX12_keep ∈ Gw := inGw (in_t8 (List.mem_of_getElem? (i := 31) (by decide +kernel))) (by decide +kernel)
theorem lw9241 : Cond.selects RX12 yX12_keep yX12_keep ∈ Gw := inGw (in_t8 (List.mem_of_getElem? (i := 32) (by decide +kernel))) (by decide +kernel)
theorem cv_RL_140 : CV RL RX12 140 yX12_keep cX12_keep 1 (some .int) 0 := ⟨Or.inl lw9238, lw9240, lw9241, lw96, lw9239, rfl, by decide +kernel, by decide⟩
theorem lw9242 : Cond.methodLink RL 141 yX11_undo ∈ Gw := inGw (in_t4 (List.mem_of_getElem? (i := 67) (by decide +kernel))) (by decide +kernel)
theorem lw9243 : Cond.code yX11_undo cX11_undo 1 (some .boolean) ∈ Gw := inGw (in_t4 (List.mem_of_getElem? (i := 70) (by rfl))) (by decide +kernel)
theorem lw9244 : Cond.instanceMethod yX11_undo ∈ Gw := inGw (in_t4 (List.mem_of_getElem? (i := 68) (by decide +kernel))) (by decide +kernel)
theorem lw9245 : Cond.selects RX11 yX11_undo yX11_undo ∈ Gw := inGw (in_t4 (List.mem_of_getElem? (i := 69) (by decide +kernel))) (by decide +kernel)
theorem cv_RL_141 : CV RL RX11 141 yX11_undo cX11_undo 1 (some .boolean) 0 := ⟨Or.inl lw9242, lw9244, lw9245, lw91, lw9243, rfl, by decide +kernel, by decide⟩
theorem lw9246 : Cond.methodLink RL 145 yX12_undo ∈ Gw := inGw (in_t8 (List.mem_of_getElem? (i := 34) (by decide +kernel))) (by decide +kernel)
theorem lw9247 : Cond.code yX12_undo cX12_undo 2 (some .boolean) ∈ Gw := inGw (in_t8 (List.mem_of_getElem? (i := 37) (by rfl))) (by decide +kernel)
theorem lw9248 : Cond.instanceMethod yX12_undo ∈ Gw := inGw (in_t8 (List.mem_of_getElem? (i := 35) (by decide +kernel))) (by decide +kernel)
theorem lw9249 : Cond.selects RX12 yX12_undo yX12_undo ∈ Gw := inGw (in_t8 (List.mem_of_getElem? (i := 36) (by decide +kernel))) (by decide +kernel)
theorem cv_RL_145 : CV RL RX12 145 yX12_undo cX12_undo 2 (some .boolean) 0 := ⟨Or.inl lw9246, lw9248, lw9249, lw96, lw9247, rfl, by decide +kernel, by decide⟩
theorem lw9250 : Cond.methodLink RL 146 yX11_check ∈ Gw := inGw (in_t4 (List.mem_of_getElem? (i := 76) (by decide +kernel))) (by decide +kernel)
theorem lw9251 : Cond.code yX11_check cX11_check 5 (some .int) ∈ Gw := inGw (in_t4 (List.mem_of_getElem? (i := 79) (by rfl))) (by decide +kernel)
theorem lw9252 : Cond.instanceMethod yX11_check ∈ Gw := inGw (in_t4 (List.mem_of_getElem? (i := 77) (by decide +kernel))) (by decide +kernel)
theorem lw9253 : Cond.selects RX11 yX11_check yX11_check ∈ Gw := inGw (in_t4 (List.mem_of_getElem? (i := 78) (by decide +kernel))) (by decide +kernel)
theorem cv_RL_146 : CV RL RX11 146 yX11_check cX11_check 5 (some .int) 1 := ⟨Or.inl lw9250, lw9252, lw9253, lw91, lw9251, rfl, by decide +kernel, by decide⟩
theorem lw9254 : Cond.methodLink RL 149 yX12_check ∈ Gw := inGw (in_t8 (List.mem_of_getElem? (i := 38) (by decide +kernel))) (by decide +kernel)
theorem lw9255 : Cond.code yX12_check cX12_check 3 (some .int) ∈ Gw := inGw (in_t8 (List.mem_of_getElem? (i := 41) (by rfl))) (by decide +kernel)
theorem lw9256 : Cond.instanceMethod yX12_check ∈ Gw := inGw (in_t8 (List.mem_of_getElem? (i := 39) (by decide +kernel))) (by decide +kernel)
theorem lw9257 : Cond.selects RX12 yX12_check yX12_check ∈ Gw := inGw (in_t8 (List.mem_of_getElem? (i := 40) (by decide +kernel))) (by decide +kernel)
theorem cv_RL_149 : CV RL RX12 149 yX12_check cX12_check 3 (some .int) 1 := ⟨Or.inl lw9254, lw9256, lw9257, lw96, lw9255, rfl, by decide +kernel, by decide⟩
theorem lw9258 : Cond.methodLink RL 150 yX11_count ∈ Gw := inGw (in_t4 (List.mem_of_getElem? (i := 81) (by decide +kernel))) (by decide +kernel)
theorem lw9259 : Cond.code yX11_count cX11_count 2 (some .int) ∈ Gw := inGw (in_t4 (List.mem_of_getElem? (i := 84) (by rfl))) (by decide +kernel)
theorem lw9260 : Cond.instanceMethod yX11_count ∈ Gw := inGw (in_t4 (List.mem_of_getElem? (i := 82) (by decide +kernel))) (by decide +kernel)
theorem lw9261 : Cond.selects RX11 yX11_count yX11_count ∈ Gw := inGw (in_t4 (List.mem_of_getElem? (i := 83) (by decide +kernel))) (by decide +kernel)
theorem cv_RL_150 : CV RL RX11 150 yX11_count cX11_count 2 (some .int) 1 := ⟨Or.inl lw9258, lw9260, lw9261, lw91, lw9259, rfl, by decide +kernel, by decide⟩
theorem lw9262 : Cond.methodLink RL 153 yX12_count ∈ Gw := inGw (in_t8 (List.mem_of_getElem? (i := 42) (by decide +kernel))) (by decide +kernel)
theorem lw9263 : Cond.code yX12_count cX12_count 2 (some .int) ∈ Gw := inGw (in_t8 (List.mem_of_getElem? (i := 45) (by rfl))) (by decide +kernel)
theorem lw9264 : Cond.instanceMethod yX12_count ∈ Gw := inGw (in_t8 (List.mem_of_getElem? (i := 43) (by decide +kernel))) (by decide +kernel)
theorem lw9265 : Cond.selects RX12 yX12_count yX12_count ∈ Gw := inGw (in_t8 (List.mem_of_getElem? (i := 44) (by decide +kernel))) (by decide +kernel)
theorem cv_RL_153 : CV RL RX12 153 yX12_count cX12_count 2 (some .int) 1 := ⟨Or.inl lw9262, lw9264, lw9265, lw96, lw9263, rfl, by decide +kernel, by decide⟩
def Sims (Rel : St → St → Prop) : Prop :=
  (∀ (S M : St) (a1 a2 : Int32), Rel S M → ∃ v S1 M1, fX11_turn S a1 a2 = some (v, S1) ∧ fX12_turn M a1 a2 = some (v, M1) ∧ Rel S1 M1) ∧
  (∀ (S M : St) (a1 a2 a3 a4 a5 : Int32), Rel S M → ∃ v S1 M1, fX11_feed S a1 a2 a3 a4 a5 = some (v, S1) ∧ fX12_feed M a1 a2 a3 a4 a5 = some (v, M1) ∧ Rel S1 M1) ∧
  (∀ (S M : St) (a1 : Int32), Rel S M → ∃ v S1 M1, fX11_law S a1 = some (v, S1) ∧ fX12_law M a1 = some (v, M1) ∧ Rel S1 M1) ∧
  (∀ (S M : St) (a1 : Int32), Rel S M → ∃ v S1 M1, fX11_terrace S a1 = some (v, S1) ∧ fX12_terrace M a1 = some (v, M1) ∧ Rel S1 M1) ∧
  (∀ (S M : St) (a1 : Int32), Rel S M → ∃ v S1 M1, fX11_rota S a1 = some (v, S1) ∧ fX12_rota M a1 = some (v, M1) ∧ Rel S1 M1) ∧
  (∀ (S M : St) (a1 : Int32), Rel S M → ∃ v S1 M1, fX11_days S a1 = some (v, S1) ∧ fX12_days M a1 = some (v, M1) ∧ Rel S1 M1) ∧
  (∀ (S M : St) (a1 a2 : Int32), Rel S M → ∃ v S1 M1, fX11_tried S a1 a2 = some (v, S1) ∧ fX12_tried M a1 a2 = some (v, M1) ∧ Rel S1 M1) ∧
  (∀ (S M : St) (a1 a2 : Int32), Rel S M → ∃ v S1 M1, fX11_sees S a1 a2 = some (v, S1) ∧ fX12_sees M a1 a2 = some (v, M1) ∧ Rel S1 M1) ∧
  (∀ (S M : St) (a1 a2 : Int32), Rel S M → ∃ v S1 M1, fX11_houseIs S a1 a2 = some (v, S1) ∧ fX12_houseIs M a1 a2 = some (v, M1) ∧ Rel S1 M1) ∧
  (∀ (S M : St) (a1 : Int32), Rel S M → ∃ v S1 M1, fX11_rotaIs S a1 = some (v, S1) ∧ fX12_rotaIs M a1 = some (v, M1) ∧ Rel S1 M1) ∧
  (∀ (S M : St) (a1 a2 a3 : Int32), Rel S M → ∃ v S1 M1, fX11_next S a1 a2 a3 = some (v, S1) ∧ fX12_next M a1 a2 a3 = some (v, M1) ∧ Rel S1 M1) ∧
  (∀ (S M : St) (a1 a2 : Int32), Rel S M → ∃ v S1 M1, fX11_light S a1 a2 = some (v, S1) ∧ fX12_light M a1 a2 = some (v, M1) ∧ Rel S1 M1) ∧
  (∀ (S M : St) (a1 : Int32), Rel S M → ∃ v S1 M1, fX11_seers S a1 = some (v, S1) ∧ fX12_seers M a1 = some (v, M1) ∧ Rel S1 M1) ∧
  (∀ (S M : St) (a1 a2 : Int32), Rel S M → ∃ v S1 M1, fX11_ifSwapped S a1 a2 = some (v, S1) ∧ fX12_ifSwapped M a1 a2 = some (v, M1) ∧ Rel S1 M1) ∧
  (∀ (S M : St), Rel S M → ∃ v S1 M1, fX11_spread S  = some (v, S1) ∧ fX12_spread M  = some (v, M1) ∧ Rel S1 M1) ∧
  (∀ (S M : St) (a1 a2 : Int32), Rel S M → ∃ v S1 M1, fX11_bestBreath S a1 a2 = some (v, S1) ∧ fX12_bestBreath M a1 a2 = some (v, M1) ∧ Rel S1 M1) ∧
  (∀ (S M : St) (a1 : Int32), Rel S M → ∃ v S1 M1, fX11_clearest S a1 = some (v, S1) ∧ fX12_clearest M a1 = some (v, M1) ∧ Rel S1 M1) ∧
  (∀ (S M : St) (a1 a2 : Int32), Rel S M → ∃ v S1 M1, fX11_shortest S a1 a2 = some (v, S1) ∧ fX12_shortest M a1 a2 = some (v, M1) ∧ Rel S1 M1) ∧
  (∀ (S M : St) (a1 a2 : Int32), Rel S M → ∃ v S1 M1, fX11_whoHad S a1 a2 = some (v, S1) ∧ fX12_whoHad M a1 a2 = some (v, M1) ∧ Rel S1 M1) ∧
  (∀ (S M : St) (a1 a2 : Int32), Rel S M → ∃ v S1 M1, fX11_readers S a1 a2 = some (v, S1) ∧ fX12_readers M a1 a2 = some (v, M1) ∧ Rel S1 M1) ∧
  (∀ (S M : St) (a1 : Int32), Rel S M → ∃ v S1 M1, fX11_second S a1 = some (v, S1) ∧ fX12_second M a1 = some (v, M1) ∧ Rel S1 M1) ∧
  (∀ (S M : St) (a1 a2 : Int32), Rel S M → ∃ v S1 M1, fX11_crack S a1 a2 = some (v, S1) ∧ fX12_crack M a1 a2 = some (v, M1) ∧ Rel S1 M1) ∧
  (∀ (S M : St) (a1 : Int32), Rel S M → ∃ v S1 M1, fX11_halves S a1 = some (v, S1) ∧ fX12_halves M a1 = some (v, M1) ∧ Rel S1 M1) ∧
  (∀ (S M : St) (a1 a2 : Int32), Rel S M → ∃ v S1 M1, fX11_swaps S a1 a2 = some (v, S1) ∧ fX12_swaps M a1 a2 = some (v, M1) ∧ Rel S1 M1) ∧
  (∀ (S M : St) (a1 a2 : Int32), Rel S M → ∃ v S1 M1, fX11_sale S a1 a2 = some (v, S1) ∧ fX12_sale M a1 a2 = some (v, M1) ∧ Rel S1 M1) ∧
  (∀ (S M : St) (a1 : Int32), Rel S M → ∃ v S1 M1, fX11_rotas S a1 = some (v, S1) ∧ fX12_rotas M a1 = some (v, M1) ∧ Rel S1 M1) ∧
  (∀ (S M : St) (a1 a2 : Int32), Rel S M → ∃ v S1 M1, fX11_panes S a1 a2 = some (v, S1) ∧ fX12_panes M a1 a2 = some (v, M1) ∧ Rel S1 M1) ∧
  (∀ (S M : St) (a1 a2 : Int32), Rel S M → ∃ v S1 M1, fX11_keepIt S a1 a2 = some (v, S1) ∧ fX12_keepIt M a1 a2 = some (v, M1) ∧ Rel S1 M1) ∧
  (∀ (S M : St) (a1 : Int32), Rel S M → ∃ v S1 M1, fX11_seed S a1 = some (v, S1) ∧ fX12_seed M a1 = some (v, M1) ∧ Rel S1 M1) ∧
  (∀ (S M : St), Rel S M → ∃ v S1 M1, fX11_keep S  = some (v, S1) ∧ fX12_keep M  = some (v, M1) ∧ Rel S1 M1) ∧
  (∀ (S M : St), Rel S M → ∃ v S1 M1, fX11_undo S  = some (v, S1) ∧ fX12_undo M  = some (v, M1) ∧ Rel S1 M1) ∧
  (∀ (S M : St) (a1 : Int32), Rel S M → ∃ v S1 M1, fX11_check S a1 = some (v, S1) ∧ fX12_check M a1 = some (v, M1) ∧ Rel S1 M1) ∧
  (∀ (S M : St) (a1 : Int32), Rel S M → ∃ v S1 M1, fX11_count S a1 = some (v, S1) ∧ fX12_count M a1 = some (v, M1) ∧ Rel S1 M1)
theorem law_c0 {X : LX} (hX : LOk X) {Rel : St → St → Prop} (hsim : Sims Rel) {j : Nat} (hj : j + 6 ≤ lenL X) (ih : ∀ S M, Rel S M → Lat X 1120 [(3, .int (nI j)), (2, .ref (adL X 55)), (1, .ref (adL X 0)), (0, .ref (bL X))] [] S M) {S M : St} (hR : Rel S M) : Lat X 180 [(3, .int (nI j)), (2, .ref (adL X 55)), (1, .ref (adL X 0)), (0, .ref (bL X))] [] S M := by
  obtain ⟨v, S1, M1, hC, hM, hR1⟩ := hsim.1 S M (xsL X (j + 1)) (xsL X (j + 2)) hR
  refine l_aload_n 181 hX 2 dL_law_180 rfl rfl rfl ?_
  refine l_arg 186 hX (k := 1) rfl rfl (by decide) (by omega) dL_law_181 dL_law_182 dL_law_183 dL_law_184 dL_law_185 rfl ?_
  refine l_arg 191 hX (k := 2) rfl rfl (by decide) (by omega) dL_law_186 dL_law_187 dL_law_188 dL_law_189 dL_law_190 rfl ?_
  refine l_callC 194 (st := []) (As := [.int (xsL X (j + 1)), .int (xsL X (j + 2))]) hX (cX11_turn9 hX.djC hC) cv_RL_13 rfl (by decide) rfl (Nat.le_of_ble_eq_true rfl) dL_law_191 rfl ?_
  show Lat X 194 _ [.int v] S1 M
  refine l_aload_n 195 hX 1 dL_law_194 rfl rfl rfl ?_
  refine l_arg 200 hX (k := 1) rfl rfl (by decide) (by omega) dL_law_195 dL_law_196 dL_law_197 dL_law_198 dL_law_199 rfl ?_
  refine l_arg 205 hX (k := 2) rfl rfl (by decide) (by omega) dL_law_200 dL_law_201 dL_law_202 dL_law_203 dL_law_204 rfl ?_
  refine l_callM 208 (st := [.int v]) (As := [.int (xsL X (j + 1)), .int (xsL X (j + 2))]) hX (cX12_turn9 hX.djM hM) cv_RL_17 rfl (by decide) rfl (Nat.le_of_ble_eq_true rfl) dL_law_205 rfl ?_
  show Lat X 208 _ [.int v, .int v] S1 M1
  refine l_icmp_eq 0 hX 1120 dL_law_208 (by decide) ?_
  exact ih S1 M1 hR1
theorem law_c1 {X : LX} (hX : LOk X) {Rel : St → St → Prop} (hsim : Sims Rel) {j : Nat} (hj : j + 6 ≤ lenL X) (ih : ∀ S M, Rel S M → Lat X 1120 [(3, .int (nI j)), (2, .ref (adL X 55)), (1, .ref (adL X 0)), (0, .ref (bL X))] [] S M) {S M : St} (hR : Rel S M) : Lat X 213 [(3, .int (nI j)), (2, .ref (adL X 55)), (1, .ref (adL X 0)), (0, .ref (bL X))] [] S M := by
  obtain ⟨v, S1, M1, hC, hM, hR1⟩ := hsim.2.1 S M (xsL X (j + 1)) (xsL X (j + 2)) (xsL X (j + 3)) (xsL X (j + 4)) (xsL X (j + 5)) hR
  refine l_aload_n 214 hX 2 dL_law_213 rfl rfl rfl ?_
  refine l_arg 219 hX (k := 1) rfl rfl (by decide) (by omega) dL_law_214 dL_law_215 dL_law_216 dL_law_217 dL_law_218 rfl ?_
  refine l_arg 224 hX (k := 2) rfl rfl (by decide) (by omega) dL_law_219 dL_law_220 dL_law_221 dL_law_222 dL_law_223 rfl ?_
  refine l_arg 229 hX (k := 3) rfl rfl (by decide) (by omega) dL_law_224 dL_law_225 dL_law_226 dL_law_227 dL_law_228 rfl ?_
  refine l_arg 234 hX (k := 4) rfl rfl (by decide) (by omega) dL_law_229 dL_law_230 dL_law_231 dL_law_232 dL_law_233 rfl ?_
  refine l_arg 239 hX (k := 5) rfl rfl (by decide) (by omega) dL_law_234 dL_law_235 dL_law_236 dL_law_237 dL_law_238 rfl ?_
  refine l_callC 242 (st := []) (As := [.int (xsL X (j + 1)), .int (xsL X (j + 2)), .int (xsL X (j + 3)), .int (xsL X (j + 4)), .int (xsL X (j + 5))]) hX (cX11_feed9 hX.djC hC) cv_RL_18 rfl (by decide) rfl (Nat.le_of_ble_eq_true rfl) dL_law_239 rfl ?_
  show Lat X 242 _ [.int v] S1 M
  refine l_aload_n 243 hX 1 dL_law_242 rfl rfl rfl ?_
  refine l_arg 248 hX (k := 1) rfl rfl (by decide) (by omega) dL_law_243 dL_law_244 dL_law_245 dL_law_246 dL_law_247 rfl ?_
  refine l_arg 253 hX (k := 2) rfl rfl (by decide) (by omega) dL_law_248 dL_law_249 dL_law_250 dL_law_251 dL_law_252 rfl ?_
  refine l_arg 258 hX (k := 3) rfl rfl (by decide) (by omega) dL_law_253 dL_law_254 dL_law_255 dL_law_256 dL_law_257 rfl ?_
  refine l_arg 263 hX (k := 4) rfl rfl (by decide) (by omega) dL_law_258 dL_law_259 dL_law_260 dL_law_261 dL_law_262 rfl ?_
  refine l_arg 268 hX (k := 5) rfl rfl (by decide) (by omega) dL_law_263 dL_law_264 dL_law_265 dL_law_266 dL_law_267 rfl ?_
  refine l_callM 271 (st := [.int v]) (As := [.int (xsL X (j + 1)), .int (xsL X (j + 2)), .int (xsL X (j + 3)), .int (xsL X (j + 4)), .int (xsL X (j + 5))]) hX (cX12_feed9 hX.djM hM) cv_RL_22 rfl (by decide) rfl (Nat.le_of_ble_eq_true rfl) dL_law_268 rfl ?_
  show Lat X 271 _ [.int v, .int v] S1 M1
  refine l_icmp_eq 0 hX 1120 dL_law_271 (by decide) ?_
  exact ih S1 M1 hR1
theorem law_c2 {X : LX} (hX : LOk X) {Rel : St → St → Prop} (hsim : Sims Rel) {j : Nat} (hj : j + 6 ≤ lenL X) (ih : ∀ S M, Rel S M → Lat X 1120 [(3, .int (nI j)), (2, .ref (adL X 55)), (1, .ref (adL X 0)), (0, .ref (bL X))] [] S M) {S M : St} (hR : Rel S M) : Lat X 276 [(3, .int (nI j)), (2, .ref (adL X 55)), (1, .ref (adL X 0)), (0, .ref (bL X))] [] S M := by
  obtain ⟨v, S1, M1, hC, hM, hR1⟩ := hsim.2.2.1 S M (xsL X (j + 1)) hR
  refine l_aload_n 277 hX 2 dL_law_276 rfl rfl rfl ?_
  refine l_arg 282 hX (k := 1) rfl rfl (by decide) (by omega) dL_law_277 dL_law_278 dL_law_279 dL_law_280 dL_law_281 rfl ?_
  refine l_callC 285 (st := []) (As := [.int (xsL X (j + 1))]) hX (cX11_law9 hX.djC hC) cv_RL_23 rfl (by decide) rfl (Nat.le_of_ble_eq_true rfl) dL_law_282 rfl ?_
  show Lat X 285 _ [.int v] S1 M
  refine l_aload_n 286 hX 1 dL_law_285 rfl rfl rfl ?_
  refine l_arg 291 hX (k := 1) rfl rfl (by decide) (by omega) dL_law_286 dL_law_287 dL_law_288 dL_law_289 dL_law_290 rfl ?_
  refine l_callM 294 (st := [.int v]) (As := [.int (xsL X (j + 1))]) hX (cX12_law9 hX.djM hM) cv_RL_27 rfl (by decide) rfl (Nat.le_of_ble_eq_true rfl) dL_law_291 rfl ?_
  show Lat X 294 _ [.int v, .int v] S1 M1
  refine l_icmp_eq 0 hX 1120 dL_law_294 (by decide) ?_
  exact ih S1 M1 hR1
theorem law_c3 {X : LX} (hX : LOk X) {Rel : St → St → Prop} (hsim : Sims Rel) {j : Nat} (hj : j + 6 ≤ lenL X) (ih : ∀ S M, Rel S M → Lat X 1120 [(3, .int (nI j)), (2, .ref (adL X 55)), (1, .ref (adL X 0)), (0, .ref (bL X))] [] S M) {S M : St} (hR : Rel S M) : Lat X 299 [(3, .int (nI j)), (2, .ref (adL X 55)), (1, .ref (adL X 0)), (0, .ref (bL X))] [] S M := by
  obtain ⟨v, S1, M1, hC, hM, hR1⟩ := hsim.2.2.2.1 S M (xsL X (j + 1)) hR
  refine l_aload_n 300 hX 2 dL_law_299 rfl rfl rfl ?_
  refine l_arg 305 hX (k := 1) rfl rfl (by decide) (by omega) dL_law_300 dL_law_301 dL_law_302 dL_law_303 dL_law_304 rfl ?_
  refine l_callC 308 (st := []) (As := [.int (xsL X (j + 1))]) hX (cX11_terrace9 hX.djC hC) cv_RL_28 rfl (by decide) rfl (Nat.le_of_ble_eq_true rfl) dL_law_305 rfl ?_
  show Lat X 308 _ [.int v] S1 M
  refine l_aload_n 309 hX 1 dL_law_308 rfl rfl rfl ?_
  refine l_arg 314 hX (k := 1) rfl rfl (by decide) (by omega) dL_law_309 dL_law_310 dL_law_311 dL_law_312 dL_law_313 rfl ?_
  refine l_callM 317 (st := [.int v]) (As := [.int (xsL X (j + 1))]) hX (cX12_terrace9 hX.djM hM) cv_RL_31 rfl (by decide) rfl (Nat.le_of_ble_eq_true rfl) dL_law_314 rfl ?_
  show Lat X 317 _ [.int v, .int v] S1 M1
  refine l_icmp_eq 0 hX 1120 dL_law_317 (by decide) ?_
  exact ih S1 M1 hR1
theorem law_c4 {X : LX} (hX : LOk X) {Rel : St → St → Prop} (hsim : Sims Rel) {j : Nat} (hj : j + 6 ≤ lenL X) (ih : ∀ S M, Rel S M → Lat X 1120 [(3, .int (nI j)), (2, .ref (adL X 55)), (1, .ref (adL X 0)), (0, .ref (bL X))] [] S M) {S M : St} (hR : Rel S M) : Lat X 322 [(3, .int (nI j)), (2, .ref (adL X 55)), (1, .ref (adL X 0)), (0, .ref (bL X))] [] S M := by
  obtain ⟨v, S1, M1, hC, hM, hR1⟩ := hsim.2.2.2.2.1 S M (xsL X (j + 1)) hR
  refine l_aload_n 323 hX 2 dL_law_322 rfl rfl rfl ?_
  refine l_arg 328 hX (k := 1) rfl rfl (by decide) (by omega) dL_law_323 dL_law_324 dL_law_325 dL_law_326 dL_law_327 rfl ?_
  refine l_callC 331 (st := []) (As := [.int (xsL X (j + 1))]) hX (cX11_rota9 hX.djC hC) cv_RL_32 rfl (by decide) rfl (Nat.le_of_ble_eq_true rfl) dL_law_328 rfl ?_
  show Lat X 331 _ [.int v] S1 M
  refine l_aload_n 332 hX 1 dL_law_331 rfl rfl rfl ?_
  refine l_arg 337 hX (k := 1) rfl rfl (by decide) (by omega) dL_law_332 dL_law_333 dL_law_334 dL_law_335 dL_law_336 rfl ?_
  refine l_callM 340 (st := [.int v]) (As := [.int (xsL X (j + 1))]) hX (cX12_rota9 hX.djM hM) cv_RL_35 rfl (by decide) rfl (Nat.le_of_ble_eq_true rfl) dL_law_337 rfl ?_
  show Lat X 340 _ [.int v, .int v] S1 M1
  refine l_icmp_eq 0 hX 1120 dL_law_340 (by decide) ?_
  exact ih S1 M1 hR1
theorem law_c5 {X : LX} (hX : LOk X) {Rel : St → St → Prop} (hsim : Sims Rel) {j : Nat} (hj : j + 6 ≤ lenL X) (ih : ∀ S M, Rel S M → Lat X 1120 [(3, .int (nI j)), (2, .ref (adL X 55)), (1, .ref (adL X 0)), (0, .ref (bL X))] [] S M) {S M : St} (hR : Rel S M) : Lat X 345 [(3, .int (nI j)), (2, .ref (adL X 55)), (1, .ref (adL X 0)), (0, .ref (bL X))] [] S M := by
  obtain ⟨v, S1, M1, hC, hM, hR1⟩ := hsim.2.2.2.2.2.1 S M (xsL X (j + 1)) hR
  refine l_aload_n 346 hX 2 dL_law_345 rfl rfl rfl ?_
  refine l_arg 351 hX (k := 1) rfl rfl (by decide) (by omega) dL_law_346 dL_law_347 dL_law_348 dL_law_349 dL_law_350 rfl ?_
  refine l_callC 354 (st := []) (As := [.int (xsL X (j + 1))]) hX (cX11_days9 hX.djC hC) cv_RL_36 rfl (by decide) rfl (Nat.le_of_ble_eq_true rfl) dL_law_351 rfl ?_
  show Lat X 354 _ [.int v] S1 M
  refine l_aload_n 355 hX 1 dL_law_354 rfl rfl rfl ?_
  refine l_arg 360 hX (k := 1) rfl rfl (by decide) (by omega) dL_law_355 dL_law_356 dL_law_357 dL_law_358 dL_law_359 rfl ?_
  refine l_callM 363 (st := [.int v]) (As := [.int (xsL X (j + 1))]) hX (cX12_days9 hX.djM hM) cv_RL_39 rfl (by decide) rfl (Nat.le_of_ble_eq_true rfl) dL_law_360 rfl ?_
  show Lat X 363 _ [.int v, .int v] S1 M1
  refine l_icmp_eq 0 hX 1120 dL_law_363 (by decide) ?_
  exact ih S1 M1 hR1
theorem law_c6 {X : LX} (hX : LOk X) {Rel : St → St → Prop} (hsim : Sims Rel) {j : Nat} (hj : j + 6 ≤ lenL X) (ih : ∀ S M, Rel S M → Lat X 1120 [(3, .int (nI j)), (2, .ref (adL X 55)), (1, .ref (adL X 0)), (0, .ref (bL X))] [] S M) {S M : St} (hR : Rel S M) : Lat X 368 [(3, .int (nI j)), (2, .ref (adL X 55)), (1, .ref (adL X 0)), (0, .ref (bL X))] [] S M := by
  obtain ⟨v, S1, M1, hC, hM, hR1⟩ := hsim.2.2.2.2.2.2.1 S M (xsL X (j + 1)) (xsL X (j + 2)) hR
  refine l_aload_n 369 hX 2 dL_law_368 rfl rfl rfl ?_
  refine l_arg 374 hX (k := 1) rfl rfl (by decide) (by omega) dL_law_369 dL_law_370 dL_law_371 dL_law_372 dL_law_373 rfl ?_
  refine l_arg 379 hX (k := 2) rfl rfl (by decide) (by omega) dL_law_374 dL_law_375 dL_law_376 dL_law_377 dL_law_378 rfl ?_
  refine l_callC 382 (st := []) (As := [.int (xsL X (j + 1)), .int (xsL X (j + 2))]) hX (cX11_tried9 hX.djC hC) cv_RL_40 rfl (by decide) rfl (Nat.le_of_ble_eq_true rfl) dL_law_379 rfl ?_
  show Lat X 382 _ [.int v] S1 M
  refine l_aload_n 383 hX 1 dL_law_382 rfl rfl rfl ?_
  refine l_arg 388 hX (k := 1) rfl rfl (by decide) (by omega) dL_law_383 dL_law_384 dL_law_385 dL_law_386 dL_law_387 rfl ?_
  refine l_arg 393 hX (k := 2) rfl rfl (by decide) (by omega) dL_law_388 dL_law_389 dL_law_390 dL_law_391 dL_law_392 rfl ?_
  refine l_callM 396 (st := [.int v]) (As := [.int (xsL X (j + 1)), .int (xsL X (j + 2))]) hX (cX12_tried9 hX.djM hM) cv_RL_44 rfl (by decide) rfl (Nat.le_of_ble_eq_true rfl) dL_law_393 rfl ?_
  show Lat X 396 _ [.int v, .int v] S1 M1
  refine l_icmp_eq 0 hX 1120 dL_law_396 (by decide) ?_
  exact ih S1 M1 hR1
theorem law_c7 {X : LX} (hX : LOk X) {Rel : St → St → Prop} (hsim : Sims Rel) {j : Nat} (hj : j + 6 ≤ lenL X) (ih : ∀ S M, Rel S M → Lat X 1120 [(3, .int (nI j)), (2, .ref (adL X 55)), (1, .ref (adL X 0)), (0, .ref (bL X))] [] S M) {S M : St} (hR : Rel S M) : Lat X 401 [(3, .int (nI j)), (2, .ref (adL X 55)), (1, .ref (adL X 0)), (0, .ref (bL X))] [] S M := by
  obtain ⟨v, S1, M1, hC, hM, hR1⟩ := hsim.2.2.2.2.2.2.2.1 S M (xsL X (j + 1)) (xsL X (j + 2)) hR
  refine l_aload_n 402 hX 2 dL_law_401 rfl rfl rfl ?_
  refine l_arg 407 hX (k := 1) rfl rfl (by decide) (by omega) dL_law_402 dL_law_403 dL_law_404 dL_law_405 dL_law_406 rfl ?_
  refine l_arg 412 hX (k := 2) rfl rfl (by decide) (by omega) dL_law_407 dL_law_408 dL_law_409 dL_law_410 dL_law_411 rfl ?_
  refine l_callC 415 (st := []) (As := [.int (xsL X (j + 1)), .int (xsL X (j + 2))]) hX (cX11_sees9 hX.djC hC) cv_RL_45 rfl (by decide) rfl (Nat.le_of_ble_eq_true rfl) dL_law_412 rfl ?_
  show Lat X 415 _ [.int v] S1 M
  refine l_aload_n 416 hX 1 dL_law_415 rfl rfl rfl ?_
  refine l_arg 421 hX (k := 1) rfl rfl (by decide) (by omega) dL_law_416 dL_law_417 dL_law_418 dL_law_419 dL_law_420 rfl ?_
  refine l_arg 426 hX (k := 2) rfl rfl (by decide) (by omega) dL_law_421 dL_law_422 dL_law_423 dL_law_424 dL_law_425 rfl ?_
  refine l_callM 429 (st := [.int v]) (As := [.int (xsL X (j + 1)), .int (xsL X (j + 2))]) hX (cX12_sees9 hX.djM hM) cv_RL_48 rfl (by decide) rfl (Nat.le_of_ble_eq_true rfl) dL_law_426 rfl ?_
  show Lat X 429 _ [.int v, .int v] S1 M1
  refine l_icmp_eq 0 hX 1120 dL_law_429 (by decide) ?_
  exact ih S1 M1 hR1
theorem law_c8 {X : LX} (hX : LOk X) {Rel : St → St → Prop} (hsim : Sims Rel) {j : Nat} (hj : j + 6 ≤ lenL X) (ih : ∀ S M, Rel S M → Lat X 1120 [(3, .int (nI j)), (2, .ref (adL X 55)), (1, .ref (adL X 0)), (0, .ref (bL X))] [] S M) {S M : St} (hR : Rel S M) : Lat X 434 [(3, .int (nI j)), (2, .ref (adL X 55)), (1, .ref (adL X 0)), (0, .ref (bL X))] [] S M := by
  obtain ⟨v, S1, M1, hC, hM, hR1⟩ := hsim.2.2.2.2.2.2.2.2.1 S M (xsL X (j + 1)) (xsL X (j + 2)) hR
  refine l_aload_n 435 hX 2 dL_law_434 rfl rfl rfl ?_
  refine l_arg 440 hX (k := 1) rfl rfl (by decide) (by omega) dL_law_435 dL_law_436 dL_law_437 dL_law_438 dL_law_439 rfl ?_
  refine l_arg 445 hX (k := 2) rfl rfl (by decide) (by omega) dL_law_440 dL_law_441 dL_law_442 dL_law_443 dL_law_444 rfl ?_
  refine l_callC 448 (st := []) (As := [.int (xsL X (j + 1)), .int (xsL X (j + 2))]) hX (cX11_houseIs9 hX.djC hC) cv_RL_49 rfl (by decide) rfl (Nat.le_of_ble_eq_true rfl) dL_law_445 rfl ?_
  show Lat X 448 _ [.int v] S1 M
  refine l_aload_n 449 hX 1 dL_law_448 rfl rfl rfl ?_
  refine l_arg 454 hX (k := 1) rfl rfl (by decide) (by omega) dL_law_449 dL_law_450 dL_law_451 dL_law_452 dL_law_453 rfl ?_
  refine l_arg 459 hX (k := 2) rfl rfl (by decide) (by omega) dL_law_454 dL_law_455 dL_law_456 dL_law_457 dL_law_458 rfl ?_
  refine l_callM 462 (st := [.int v]) (As := [.int (xsL X (j + 1)), .int (xsL X (j + 2))]) hX (cX12_houseIs9 hX.djM hM) cv_RL_52 rfl (by decide) rfl (Nat.le_of_ble_eq_true rfl) dL_law_459 rfl ?_
  show Lat X 462 _ [.int v, .int v] S1 M1
  refine l_icmp_eq 0 hX 1120 dL_law_462 (by decide) ?_
  exact ih S1 M1 hR1
theorem law_c9 {X : LX} (hX : LOk X) {Rel : St → St → Prop} (hsim : Sims Rel) {j : Nat} (hj : j + 6 ≤ lenL X) (ih : ∀ S M, Rel S M → Lat X 1120 [(3, .int (nI j)), (2, .ref (adL X 55)), (1, .ref (adL X 0)), (0, .ref (bL X))] [] S M) {S M : St} (hR : Rel S M) : Lat X 467 [(3, .int (nI j)), (2, .ref (adL X 55)), (1, .ref (adL X 0)), (0, .ref (bL X))] [] S M := by
  obtain ⟨v, S1, M1, hC, hM, hR1⟩ := hsim.2.2.2.2.2.2.2.2.2.1 S M (xsL X (j + 1)) hR
  refine l_aload_n 468 hX 2 dL_law_467 rfl rfl rfl ?_
  refine l_arg 473 hX (k := 1) rfl rfl (by decide) (by omega) dL_law_468 dL_law_469 dL_law_470 dL_law_471 dL_law_472 rfl ?_
  refine l_callC 476 (st := []) (As := [.int (xsL X (j + 1))]) hX (cX11_rotaIs9 hX.djC hC) cv_RL_53 rfl (by decide) rfl (Nat.le_of_ble_eq_true rfl) dL_law_473 rfl ?_
  show Lat X 476 _ [.int v] S1 M
  refine l_aload_n 477 hX 1 dL_law_476 rfl rfl rfl ?_
  refine l_arg 482 hX (k := 1) rfl rfl (by decide) (by omega) dL_law_477 dL_law_478 dL_law_479 dL_law_480 dL_law_481 rfl ?_
  refine l_callM 485 (st := [.int v]) (As := [.int (xsL X (j + 1))]) hX (cX12_rotaIs9 hX.djM hM) cv_RL_56 rfl (by decide) rfl (Nat.le_of_ble_eq_true rfl) dL_law_482 rfl ?_
  show Lat X 485 _ [.int v, .int v] S1 M1
  refine l_icmp_eq 0 hX 1120 dL_law_485 (by decide) ?_
  exact ih S1 M1 hR1
theorem law_c10 {X : LX} (hX : LOk X) {Rel : St → St → Prop} (hsim : Sims Rel) {j : Nat} (hj : j + 6 ≤ lenL X) (ih : ∀ S M, Rel S M → Lat X 1120 [(3, .int (nI j)), (2, .ref (adL X 55)), (1, .ref (adL X 0)), (0, .ref (bL X))] [] S M) {S M : St} (hR : Rel S M) : Lat X 490 [(3, .int (nI j)), (2, .ref (adL X 55)), (1, .ref (adL X 0)), (0, .ref (bL X))] [] S M := by
  obtain ⟨v, S1, M1, hC, hM, hR1⟩ := hsim.2.2.2.2.2.2.2.2.2.2.1 S M (xsL X (j + 1)) (xsL X (j + 2)) (xsL X (j + 3)) hR
  refine l_aload_n 491 hX 2 dL_law_490 rfl rfl rfl ?_
  refine l_arg 496 hX (k := 1) rfl rfl (by decide) (by omega) dL_law_491 dL_law_492 dL_law_493 dL_law_494 dL_law_495 rfl ?_
  refine l_arg 501 hX (k := 2) rfl rfl (by decide) (by omega) dL_law_496 dL_law_497 dL_law_498 dL_law_499 dL_law_500 rfl ?_
  refine l_arg 506 hX (k := 3) rfl rfl (by decide) (by omega) dL_law_501 dL_law_502 dL_law_503 dL_law_504 dL_law_505 rfl ?_
  refine l_callC 509 (st := []) (As := [.int (xsL X (j + 1)), .int (xsL X (j + 2)), .int (xsL X (j + 3))]) hX (cX11_next9 hX.djC hC) cv_RL_57 rfl (by decide) rfl (Nat.le_of_ble_eq_true rfl) dL_law_506 rfl ?_
  show Lat X 509 _ [.int v] S1 M
  refine l_aload_n 510 hX 1 dL_law_509 rfl rfl rfl ?_
  refine l_arg 515 hX (k := 1) rfl rfl (by decide) (by omega) dL_law_510 dL_law_511 dL_law_512 dL_law_513 dL_law_514 rfl ?_
  refine l_arg 520 hX (k := 2) rfl rfl (by decide) (by omega) dL_law_515 dL_law_516 dL_law_517 dL_law_518 dL_law_519 rfl ?_
  refine l_arg 525 hX (k := 3) rfl rfl (by decide) (by omega) dL_law_520 dL_law_521 dL_law_522 dL_law_523 dL_law_524 rfl ?_
  refine l_callM 528 (st := [.int v]) (As := [.int (xsL X (j + 1)), .int (xsL X (j + 2)), .int (xsL X (j + 3))]) hX (cX12_next9 hX.djM hM) cv_RL_61 rfl (by decide) rfl (Nat.le_of_ble_eq_true rfl) dL_law_525 rfl ?_
  show Lat X 528 _ [.int v, .int v] S1 M1
  refine l_icmp_eq 0 hX 1120 dL_law_528 (by decide) ?_
  exact ih S1 M1 hR1
theorem law_c11 {X : LX} (hX : LOk X) {Rel : St → St → Prop} (hsim : Sims Rel) {j : Nat} (hj : j + 6 ≤ lenL X) (ih : ∀ S M, Rel S M → Lat X 1120 [(3, .int (nI j)), (2, .ref (adL X 55)), (1, .ref (adL X 0)), (0, .ref (bL X))] [] S M) {S M : St} (hR : Rel S M) : Lat X 533 [(3, .int (nI j)), (2, .ref (adL X 55)), (1, .ref (adL X 0)), (0, .ref (bL X))] [] S M := by
  obtain ⟨v, S1, M1, hC, hM, hR1⟩ := hsim.2.2.2.2.2.2.2.2.2.2.2.1 S M (xsL X (j + 1)) (xsL X (j + 2)) hR
  refine l_aload_n 534 hX 2 dL_law_533 rfl rfl rfl ?_
  refine l_arg 539 hX (k := 1) rfl rfl (by decide) (by omega) dL_law_534 dL_law_535 dL_law_536 dL_law_537 dL_law_538 rfl ?_
  refine l_arg 544 hX (k := 2) rfl rfl (by decide) (by omega) dL_law_539 dL_law_540 dL_law_541 dL_law_542 dL_law_543 rfl ?_
  refine l_callC 547 (st := []) (As := [.int (xsL X (j + 1)), .int (xsL X (j + 2))]) hX (cX11_light9 hX.djC hC) cv_RL_62 rfl (by decide) rfl (Nat.le_of_ble_eq_true rfl) dL_law_544 rfl ?_
  show Lat X 547 _ [.int v] S1 M
  refine l_aload_n 548 hX 1 dL_law_547 rfl rfl rfl ?_
  refine l_arg 553 hX (k := 1) rfl rfl (by decide) (by omega) dL_law_548 dL_law_549 dL_law_550 dL_law_551 dL_law_552 rfl ?_
  refine l_arg 558 hX (k := 2) rfl rfl (by decide) (by omega) dL_law_553 dL_law_554 dL_law_555 dL_law_556 dL_law_557 rfl ?_
  refine l_callM 561 (st := [.int v]) (As := [.int (xsL X (j + 1)), .int (xsL X (j + 2))]) hX (cX12_light9 hX.djM hM) cv_RL_65 rfl (by decide) rfl (Nat.le_of_ble_eq_true rfl) dL_law_558 rfl ?_
  show Lat X 561 _ [.int v, .int v] S1 M1
  refine l_icmp_eq 0 hX 1120 dL_law_561 (by decide) ?_
  exact ih S1 M1 hR1
theorem law_c12 {X : LX} (hX : LOk X) {Rel : St → St → Prop} (hsim : Sims Rel) {j : Nat} (hj : j + 6 ≤ lenL X) (ih : ∀ S M, Rel S M → Lat X 1120 [(3, .int (nI j)), (2, .ref (adL X 55)), (1, .ref (adL X 0)), (0, .ref (bL X))] [] S M) {S M : St} (hR : Rel S M) : Lat X 566 [(3, .int (nI j)), (2, .ref (adL X 55)), (1, .ref (adL X 0)), (0, .ref (bL X))] [] S M := by
  obtain ⟨v, S1, M1, hC, hM, hR1⟩ := hsim.2.2.2.2.2.2.2.2.2.2.2.2.1 S M (xsL X (j + 1)) hR
  refine l_aload_n 567 hX 2 dL_law_566 rfl rfl rfl ?_
  refine l_arg 572 hX (k := 1) rfl rfl (by decide) (by omega) dL_law_567 dL_law_568 dL_law_569 dL_law_570 dL_law_571 rfl ?_
  refine l_callC 575 (st := []) (As := [.int (xsL X (j + 1))]) hX (cX11_seers9 hX.djC hC) cv_RL_66 rfl (by decide) rfl (Nat.le_of_ble_eq_true rfl) dL_law_572 rfl ?_
  show Lat X 575 _ [.int v] S1 M
  refine l_aload_n 576 hX 1 dL_law_575 rfl rfl rfl ?_
  refine l_arg 581 hX (k := 1) rfl rfl (by decide) (by omega) dL_law_576 dL_law_577 dL_law_578 dL_law_579 dL_law_580 rfl ?_
  refine l_callM 584 (st := [.int v]) (As := [.int (xsL X (j + 1))]) hX (cX12_seers9 hX.djM hM) cv_RL_69 rfl (by decide) rfl (Nat.le_of_ble_eq_true rfl) dL_law_581 rfl ?_
  show Lat X 584 _ [.int v, .int v] S1 M1
  refine l_icmp_eq 0 hX 1120 dL_law_584 (by decide) ?_
  exact ih S1 M1 hR1
theorem law_c13 {X : LX} (hX : LOk X) {Rel : St → St → Prop} (hsim : Sims Rel) {j : Nat} (hj : j + 6 ≤ lenL X) (ih : ∀ S M, Rel S M → Lat X 1120 [(3, .int (nI j)), (2, .ref (adL X 55)), (1, .ref (adL X 0)), (0, .ref (bL X))] [] S M) {S M : St} (hR : Rel S M) : Lat X 589 [(3, .int (nI j)), (2, .ref (adL X 55)), (1, .ref (adL X 0)), (0, .ref (bL X))] [] S M := by
  obtain ⟨v, S1, M1, hC, hM, hR1⟩ := hsim.2.2.2.2.2.2.2.2.2.2.2.2.2.1 S M (xsL X (j + 1)) (xsL X (j + 2)) hR
  refine l_aload_n 590 hX 2 dL_law_589 rfl rfl rfl ?_
  refine l_arg 595 hX (k := 1) rfl rfl (by decide) (by omega) dL_law_590 dL_law_591 dL_law_592 dL_law_593 dL_law_594 rfl ?_
  refine l_arg 600 hX (k := 2) rfl rfl (by decide) (by omega) dL_law_595 dL_law_596 dL_law_597 dL_law_598 dL_law_599 rfl ?_
  refine l_callC 603 (st := []) (As := [.int (xsL X (j + 1)), .int (xsL X (j + 2))]) hX (cX11_ifSwapped9 hX.djC hC) cv_RL_70 rfl (by decide) rfl (Nat.le_of_ble_eq_true rfl) dL_law_600 rfl ?_
  show Lat X 603 _ [.int v] S1 M
  refine l_aload_n 604 hX 1 dL_law_603 rfl rfl rfl ?_
  refine l_arg 609 hX (k := 1) rfl rfl (by decide) (by omega) dL_law_604 dL_law_605 dL_law_606 dL_law_607 dL_law_608 rfl ?_
  refine l_arg 614 hX (k := 2) rfl rfl (by decide) (by omega) dL_law_609 dL_law_610 dL_law_611 dL_law_612 dL_law_613 rfl ?_
  refine l_callM 617 (st := [.int v]) (As := [.int (xsL X (j + 1)), .int (xsL X (j + 2))]) hX (cX12_ifSwapped9 hX.djM hM) cv_RL_73 rfl (by decide) rfl (Nat.le_of_ble_eq_true rfl) dL_law_614 rfl ?_
  show Lat X 617 _ [.int v, .int v] S1 M1
  refine l_icmp_eq 0 hX 1120 dL_law_617 (by decide) ?_
  exact ih S1 M1 hR1
theorem law_c14 {X : LX} (hX : LOk X) {Rel : St → St → Prop} (hsim : Sims Rel) {j : Nat} (hj : j + 6 ≤ lenL X) (ih : ∀ S M, Rel S M → Lat X 1120 [(3, .int (nI j)), (2, .ref (adL X 55)), (1, .ref (adL X 0)), (0, .ref (bL X))] [] S M) {S M : St} (hR : Rel S M) : Lat X 622 [(3, .int (nI j)), (2, .ref (adL X 55)), (1, .ref (adL X 0)), (0, .ref (bL X))] [] S M := by
  obtain ⟨v, S1, M1, hC, hM, hR1⟩ := hsim.2.2.2.2.2.2.2.2.2.2.2.2.2.2.1 S M  hR
  refine l_aload_n 623 hX 2 dL_law_622 rfl rfl rfl ?_
  refine l_callC 626 (st := []) (As := []) hX (cX11_spread9 hX.djC hC) cv_RL_74 rfl (by decide) rfl (Nat.le_of_ble_eq_true rfl) dL_law_623 rfl ?_
  show Lat X 626 _ [.int v] S1 M
  refine l_aload_n 627 hX 1 dL_law_626 rfl rfl rfl ?_
  refine l_callM 630 (st := [.int v]) (As := []) hX (cX12_spread9 hX.djM hM) cv_RL_78 rfl (by decide) rfl (Nat.le_of_ble_eq_true rfl) dL_law_627 rfl ?_
  show Lat X 630 _ [.int v, .int v] S1 M1
  refine l_icmp_eq 0 hX 1120 dL_law_630 (by decide) ?_
  exact ih S1 M1 hR1
theorem law_c15 {X : LX} (hX : LOk X) {Rel : St → St → Prop} (hsim : Sims Rel) {j : Nat} (hj : j + 6 ≤ lenL X) (ih : ∀ S M, Rel S M → Lat X 1120 [(3, .int (nI j)), (2, .ref (adL X 55)), (1, .ref (adL X 0)), (0, .ref (bL X))] [] S M) {S M : St} (hR : Rel S M) : Lat X 635 [(3, .int (nI j)), (2, .ref (adL X 55)), (1, .ref (adL X 0)), (0, .ref (bL X))] [] S M := by
  obtain ⟨v, S1, M1, hC, hM, hR1⟩ := hsim.2.2.2.2.2.2.2.2.2.2.2.2.2.2.2.1 S M (xsL X (j + 1)) (xsL X (j + 2)) hR
  refine l_aload_n 636 hX 2 dL_law_635 rfl rfl rfl ?_
  refine l_arg 641 hX (k := 1) rfl rfl (by decide) (by omega) dL_law_636 dL_law_637 dL_law_638 dL_law_639 dL_law_640 rfl ?_
  refine l_arg 646 hX (k := 2) rfl rfl (by decide) (by omega) dL_law_641 dL_law_642 dL_law_643 dL_law_644 dL_law_645 rfl ?_
  refine l_callC 649 (st := []) (As := [.int (xsL X (j + 1)), .int (xsL X (j + 2))]) hX (cX11_bestBreath9 hX.djC hC) cv_RL_79 rfl (by decide) rfl (Nat.le_of_ble_eq_true rfl) dL_law_646 rfl ?_
  show Lat X 649 _ [.int v] S1 M
  refine l_aload_n 650 hX 1 dL_law_649 rfl rfl rfl ?_
  refine l_arg 655 hX (k := 1) rfl rfl (by decide) (by omega) dL_law_650 dL_law_651 dL_law_652 dL_law_653 dL_law_654 rfl ?_
  refine l_arg 660 hX (k := 2) rfl rfl (by decide) (by omega) dL_law_655 dL_law_656 dL_law_657 dL_law_658 dL_law_659 rfl ?_
  refine l_callM 663 (st := [.int v]) (As := [.int (xsL X (j + 1)), .int (xsL X (j + 2))]) hX (cX12_bestBreath9 hX.djM hM) cv_RL_82 rfl (by decide) rfl (Nat.le_of_ble_eq_true rfl) dL_law_660 rfl ?_
  show Lat X 663 _ [.int v, .int v] S1 M1
  refine l_icmp_eq 0 hX 1120 dL_law_663 (by decide) ?_
  exact ih S1 M1 hR1
theorem law_c16 {X : LX} (hX : LOk X) {Rel : St → St → Prop} (hsim : Sims Rel) {j : Nat} (hj : j + 6 ≤ lenL X) (ih : ∀ S M, Rel S M → Lat X 1120 [(3, .int (nI j)), (2, .ref (adL X 55)), (1, .ref (adL X 0)), (0, .ref (bL X))] [] S M) {S M : St} (hR : Rel S M) : Lat X 668 [(3, .int (nI j)), (2, .ref (adL X 55)), (1, .ref (adL X 0)), (0, .ref (bL X))] [] S M := by
  obtain ⟨v, S1, M1, hC, hM, hR1⟩ := hsim.2.2.2.2.2.2.2.2.2.2.2.2.2.2.2.2.1 S M (xsL X (j + 1)) hR
  refine l_aload_n 669 hX 2 dL_law_668 rfl rfl rfl ?_
  refine l_arg 674 hX (k := 1) rfl rfl (by decide) (by omega) dL_law_669 dL_law_670 dL_law_671 dL_law_672 dL_law_673 rfl ?_
  refine l_callC 677 (st := []) (As := [.int (xsL X (j + 1))]) hX (cX11_clearest9 hX.djC hC) cv_RL_83 rfl (by decide) rfl (Nat.le_of_ble_eq_true rfl) dL_law_674 rfl ?_
  show Lat X 677 _ [.int v] S1 M
  refine l_aload_n 678 hX 1 dL_law_677 rfl rfl rfl ?_
  refine l_arg 683 hX (k := 1) rfl rfl (by decide) (by omega) dL_law_678 dL_law_679 dL_law_680 dL_law_681 dL_law_682 rfl ?_
  refine l_callM 686 (st := [.int v]) (As := [.int (xsL X (j + 1))]) hX (cX12_clearest9 hX.djM hM) cv_RL_86 rfl (by decide) rfl (Nat.le_of_ble_eq_true rfl) dL_law_683 rfl ?_
  show Lat X 686 _ [.int v, .int v] S1 M1
  refine l_icmp_eq 0 hX 1120 dL_law_686 (by decide) ?_
  exact ih S1 M1 hR1
theorem law_c17 {X : LX} (hX : LOk X) {Rel : St → St → Prop} (hsim : Sims Rel) {j : Nat} (hj : j + 6 ≤ lenL X) (ih : ∀ S M, Rel S M → Lat X 1120 [(3, .int (nI j)), (2, .ref (adL X 55)), (1, .ref (adL X 0)), (0, .ref (bL X))] [] S M) {S M : St} (hR : Rel S M) : Lat X 691 [(3, .int (nI j)), (2, .ref (adL X 55)), (1, .ref (adL X 0)), (0, .ref (bL X))] [] S M := by
  obtain ⟨v, S1, M1, hC, hM, hR1⟩ := hsim.2.2.2.2.2.2.2.2.2.2.2.2.2.2.2.2.2.1 S M (xsL X (j + 1)) (xsL X (j + 2)) hR
  refine l_aload_n 692 hX 2 dL_law_691 rfl rfl rfl ?_
  refine l_arg 697 hX (k := 1) rfl rfl (by decide) (by omega) dL_law_692 dL_law_693 dL_law_694 dL_law_695 dL_law_696 rfl ?_
  refine l_arg 702 hX (k := 2) rfl rfl (by decide) (by omega) dL_law_697 dL_law_698 dL_law_699 dL_law_700 dL_law_701 rfl ?_
  refine l_callC 705 (st := []) (As := [.int (xsL X (j + 1)), .int (xsL X (j + 2))]) hX (cX11_shortest9 hX.djC hC) cv_RL_87 rfl (by decide) rfl (Nat.le_of_ble_eq_true rfl) dL_law_702 rfl ?_
  show Lat X 705 _ [.int v] S1 M
  refine l_aload_n 706 hX 1 dL_law_705 rfl rfl rfl ?_
  refine l_arg 711 hX (k := 1) rfl rfl (by decide) (by omega) dL_law_706 dL_law_707 dL_law_708 dL_law_709 dL_law_710 rfl ?_
  refine l_arg 716 hX (k := 2) rfl rfl (by decide) (by omega) dL_law_711 dL_law_712 dL_law_713 dL_law_714 dL_law_715 rfl ?_
  refine l_callM 719 (st := [.int v]) (As := [.int (xsL X (j + 1)), .int (xsL X (j + 2))]) hX (cX12_shortest9 hX.djM hM) cv_RL_90 rfl (by decide) rfl (Nat.le_of_ble_eq_true rfl) dL_law_716 rfl ?_
  show Lat X 719 _ [.int v, .int v] S1 M1
  refine l_icmp_eq 0 hX 1120 dL_law_719 (by decide) ?_
  exact ih S1 M1 hR1
theorem law_c18 {X : LX} (hX : LOk X) {Rel : St → St → Prop} (hsim : Sims Rel) {j : Nat} (hj : j + 6 ≤ lenL X) (ih : ∀ S M, Rel S M → Lat X 1120 [(3, .int (nI j)), (2, .ref (adL X 55)), (1, .ref (adL X 0)), (0, .ref (bL X))] [] S M) {S M : St} (hR : Rel S M) : Lat X 724 [(3, .int (nI j)), (2, .ref (adL X 55)), (1, .ref (adL X 0)), (0, .ref (bL X))] [] S M := by
  obtain ⟨v, S1, M1, hC, hM, hR1⟩ := hsim.2.2.2.2.2.2.2.2.2.2.2.2.2.2.2.2.2.2.1 S M (xsL X (j + 1)) (xsL X (j + 2)) hR
  refine l_aload_n 725 hX 2 dL_law_724 rfl rfl rfl ?_
  refine l_arg 730 hX (k := 1) rfl rfl (by decide) (by omega) dL_law_725 dL_law_726 dL_law_727 dL_law_728 dL_law_729 rfl ?_
  refine l_arg 735 hX (k := 2) rfl rfl (by decide) (by omega) dL_law_730 dL_law_731 dL_law_732 dL_law_733 dL_law_734 rfl ?_
  refine l_callC 738 (st := []) (As := [.int (xsL X (j + 1)), .int (xsL X (j + 2))]) hX (cX11_whoHad9 hX.djC hC) cv_RL_91 rfl (by decide) rfl (Nat.le_of_ble_eq_true rfl) dL_law_735 rfl ?_
  show Lat X 738 _ [.int v] S1 M
  refine l_aload_n 739 hX 1 dL_law_738 rfl rfl rfl ?_
  refine l_arg 744 hX (k := 1) rfl rfl (by decide) (by omega) dL_law_739 dL_law_740 dL_law_741 dL_law_742 dL_law_743 rfl ?_
  refine l_arg 749 hX (k := 2) rfl rfl (by decide) (by omega) dL_law_744 dL_law_745 dL_law_746 dL_law_747 dL_law_748 rfl ?_
  refine l_callM 752 (st := [.int v]) (As := [.int (xsL X (j + 1)), .int (xsL X (j + 2))]) hX (cX12_whoHad9 hX.djM hM) cv_RL_94 rfl (by decide) rfl (Nat.le_of_ble_eq_true rfl) dL_law_749 rfl ?_
  show Lat X 752 _ [.int v, .int v] S1 M1
  refine l_icmp_eq 0 hX 1120 dL_law_752 (by decide) ?_
  exact ih S1 M1 hR1
theorem law_c19 {X : LX} (hX : LOk X) {Rel : St → St → Prop} (hsim : Sims Rel) {j : Nat} (hj : j + 6 ≤ lenL X) (ih : ∀ S M, Rel S M → Lat X 1120 [(3, .int (nI j)), (2, .ref (adL X 55)), (1, .ref (adL X 0)), (0, .ref (bL X))] [] S M) {S M : St} (hR : Rel S M) : Lat X 757 [(3, .int (nI j)), (2, .ref (adL X 55)), (1, .ref (adL X 0)), (0, .ref (bL X))] [] S M := by
  obtain ⟨v, S1, M1, hC, hM, hR1⟩ := hsim.2.2.2.2.2.2.2.2.2.2.2.2.2.2.2.2.2.2.2.1 S M (xsL X (j + 1)) (xsL X (j + 2)) hR
  refine l_aload_n 758 hX 2 dL_law_757 rfl rfl rfl ?_
  refine l_arg 763 hX (k := 1) rfl rfl (by decide) (by omega) dL_law_758 dL_law_759 dL_law_760 dL_law_761 dL_law_762 rfl ?_
  refine l_arg 768 hX (k := 2) rfl rfl (by decide) (by omega) dL_law_763 dL_law_764 dL_law_765 dL_law_766 dL_law_767 rfl ?_
  refine l_callC 771 (st := []) (As := [.int (xsL X (j + 1)), .int (xsL X (j + 2))]) hX (cX11_readers9 hX.djC hC) cv_RL_95 rfl (by decide) rfl (Nat.le_of_ble_eq_true rfl) dL_law_768 rfl ?_
  show Lat X 771 _ [.int v] S1 M
  refine l_aload_n 772 hX 1 dL_law_771 rfl rfl rfl ?_
  refine l_arg 777 hX (k := 1) rfl rfl (by decide) (by omega) dL_law_772 dL_law_773 dL_law_774 dL_law_775 dL_law_776 rfl ?_
  refine l_arg 782 hX (k := 2) rfl rfl (by decide) (by omega) dL_law_777 dL_law_778 dL_law_779 dL_law_780 dL_law_781 rfl ?_
  refine l_callM 785 (st := [.int v]) (As := [.int (xsL X (j + 1)), .int (xsL X (j + 2))]) hX (cX12_readers9 hX.djM hM) cv_RL_98 rfl (by decide) rfl (Nat.le_of_ble_eq_true rfl) dL_law_782 rfl ?_
  show Lat X 785 _ [.int v, .int v] S1 M1
  refine l_icmp_eq 0 hX 1120 dL_law_785 (by decide) ?_
  exact ih S1 M1 hR1
theorem law_c20 {X : LX} (hX : LOk X) {Rel : St → St → Prop} (hsim : Sims Rel) {j : Nat} (hj : j + 6 ≤ lenL X) (ih : ∀ S M, Rel S M → Lat X 1120 [(3, .int (nI j)), (2, .ref (adL X 55)), (1, .ref (adL X 0)), (0, .ref (bL X))] [] S M) {S M : St} (hR : Rel S M) : Lat X 790 [(3, .int (nI j)), (2, .ref (adL X 55)), (1, .ref (adL X 0)), (0, .ref (bL X))] [] S M := by
  obtain ⟨v, S1, M1, hC, hM, hR1⟩ := hsim.2.2.2.2.2.2.2.2.2.2.2.2.2.2.2.2.2.2.2.2.1 S M (xsL X (j + 1)) hR
  refine l_aload_n 791 hX 2 dL_law_790 rfl rfl rfl ?_
  refine l_arg 796 hX (k := 1) rfl rfl (by decide) (by omega) dL_law_791 dL_law_792 dL_law_793 dL_law_794 dL_law_795 rfl ?_
  refine l_callC 799 (st := []) (As := [.int (xsL X (j + 1))]) hX (cX11_second9 hX.djC hC) cv_RL_99 rfl (by decide) rfl (Nat.le_of_ble_eq_true rfl) dL_law_796 rfl ?_
  show Lat X 799 _ [.int v] S1 M
  refine l_aload_n 800 hX 1 dL_law_799 rfl rfl rfl ?_
  refine l_arg 805 hX (k := 1) rfl rfl (by decide) (by omega) dL_law_800 dL_law_801 dL_law_802 dL_law_803 dL_law_804 rfl ?_
  refine l_callM 808 (st := [.int v]) (As := [.int (xsL X (j + 1))]) hX (cX12_second9 hX.djM hM) cv_RL_102 rfl (by decide) rfl (Nat.le_of_ble_eq_true rfl) dL_law_805 rfl ?_
  show Lat X 808 _ [.int v, .int v] S1 M1
  refine l_icmp_eq 0 hX 1120 dL_law_808 (by decide) ?_
  exact ih S1 M1 hR1
theorem law_c21 {X : LX} (hX : LOk X) {Rel : St → St → Prop} (hsim : Sims Rel) {j : Nat} (hj : j + 6 ≤ lenL X) (ih : ∀ S M, Rel S M → Lat X 1120 [(3, .int (nI j)), (2, .ref (adL X 55)), (1, .ref (adL X 0)), (0, .ref (bL X))] [] S M) {S M : St} (hR : Rel S M) : Lat X 813 [(3, .int (nI j)), (2, .ref (adL X 55)), (1, .ref (adL X 0)), (0, .ref (bL X))] [] S M := by
  obtain ⟨v, S1, M1, hC, hM, hR1⟩ := hsim.2.2.2.2.2.2.2.2.2.2.2.2.2.2.2.2.2.2.2.2.2.1 S M (xsL X (j + 1)) (xsL X (j + 2)) hR
  refine l_aload_n 814 hX 2 dL_law_813 rfl rfl rfl ?_
  refine l_arg 819 hX (k := 1) rfl rfl (by decide) (by omega) dL_law_814 dL_law_815 dL_law_816 dL_law_817 dL_law_818 rfl ?_
  refine l_arg 824 hX (k := 2) rfl rfl (by decide) (by omega) dL_law_819 dL_law_820 dL_law_821 dL_law_822 dL_law_823 rfl ?_
  refine l_callC 827 (st := []) (As := [.int (xsL X (j + 1)), .int (xsL X (j + 2))]) hX (cX11_crack9 hX.djC hC) cv_RL_103 rfl (by decide) rfl (Nat.le_of_ble_eq_true rfl) dL_law_824 rfl ?_
  show Lat X 827 _ [.int v] S1 M
  refine l_aload_n 828 hX 1 dL_law_827 rfl rfl rfl ?_
  refine l_arg 833 hX (k := 1) rfl rfl (by decide) (by omega) dL_law_828 dL_law_829 dL_law_830 dL_law_831 dL_law_832 rfl ?_
  refine l_arg 838 hX (k := 2) rfl rfl (by decide) (by omega) dL_law_833 dL_law_834 dL_law_835 dL_law_836 dL_law_837 rfl ?_
  refine l_callM 841 (st := [.int v]) (As := [.int (xsL X (j + 1)), .int (xsL X (j + 2))]) hX (cX12_crack9 hX.djM hM) cv_RL_106 rfl (by decide) rfl (Nat.le_of_ble_eq_true rfl) dL_law_838 rfl ?_
  show Lat X 841 _ [.int v, .int v] S1 M1
  refine l_icmp_eq 0 hX 1120 dL_law_841 (by decide) ?_
  exact ih S1 M1 hR1
theorem law_c22 {X : LX} (hX : LOk X) {Rel : St → St → Prop} (hsim : Sims Rel) {j : Nat} (hj : j + 6 ≤ lenL X) (ih : ∀ S M, Rel S M → Lat X 1120 [(3, .int (nI j)), (2, .ref (adL X 55)), (1, .ref (adL X 0)), (0, .ref (bL X))] [] S M) {S M : St} (hR : Rel S M) : Lat X 846 [(3, .int (nI j)), (2, .ref (adL X 55)), (1, .ref (adL X 0)), (0, .ref (bL X))] [] S M := by
  obtain ⟨v, S1, M1, hC, hM, hR1⟩ := hsim.2.2.2.2.2.2.2.2.2.2.2.2.2.2.2.2.2.2.2.2.2.2.1 S M (xsL X (j + 1)) hR
  refine l_aload_n 847 hX 2 dL_law_846 rfl rfl rfl ?_
  refine l_arg 852 hX (k := 1) rfl rfl (by decide) (by omega) dL_law_847 dL_law_848 dL_law_849 dL_law_850 dL_law_851 rfl ?_
  refine l_callC 855 (st := []) (As := [.int (xsL X (j + 1))]) hX (cX11_halves9 hX.djC hC) cv_RL_107 rfl (by decide) rfl (Nat.le_of_ble_eq_true rfl) dL_law_852 rfl ?_
  show Lat X 855 _ [.int v] S1 M
  refine l_aload_n 856 hX 1 dL_law_855 rfl rfl rfl ?_
  refine l_arg 861 hX (k := 1) rfl rfl (by decide) (by omega) dL_law_856 dL_law_857 dL_law_858 dL_law_859 dL_law_860 rfl ?_
  refine l_callM 864 (st := [.int v]) (As := [.int (xsL X (j + 1))]) hX (cX12_halves9 hX.djM hM) cv_RL_110 rfl (by decide) rfl (Nat.le_of_ble_eq_true rfl) dL_law_861 rfl ?_
  show Lat X 864 _ [.int v, .int v] S1 M1
  refine l_icmp_eq 0 hX 1120 dL_law_864 (by decide) ?_
  exact ih S1 M1 hR1
theorem law_c23 {X : LX} (hX : LOk X) {Rel : St → St → Prop} (hsim : Sims Rel) {j : Nat} (hj : j + 6 ≤ lenL X) (ih : ∀ S M, Rel S M → Lat X 1120 [(3, .int (nI j)), (2, .ref (adL X 55)), (1, .ref (adL X 0)), (0, .ref (bL X))] [] S M) {S M : St} (hR : Rel S M) : Lat X 869 [(3, .int (nI j)), (2, .ref (adL X 55)), (1, .ref (adL X 0)), (0, .ref (bL X))] [] S M := by
  obtain ⟨v, S1, M1, hC, hM, hR1⟩ := hsim.2.2.2.2.2.2.2.2.2.2.2.2.2.2.2.2.2.2.2.2.2.2.2.1 S M (xsL X (j + 1)) (xsL X (j + 2)) hR
  refine l_aload_n 870 hX 2 dL_law_869 rfl rfl rfl ?_
  refine l_arg 875 hX (k := 1) rfl rfl (by decide) (by omega) dL_law_870 dL_law_871 dL_law_872 dL_law_873 dL_law_874 rfl ?_
  refine l_arg 880 hX (k := 2) rfl rfl (by decide) (by omega) dL_law_875 dL_law_876 dL_law_877 dL_law_878 dL_law_879 rfl ?_
  refine l_callC 883 (st := []) (As := [.int (xsL X (j + 1)), .int (xsL X (j + 2))]) hX (cX11_swaps9 hX.djC hC) cv_RL_111 rfl (by decide) rfl (Nat.le_of_ble_eq_true rfl) dL_law_880 rfl ?_
  show Lat X 883 _ [.int v] S1 M
  refine l_aload_n 884 hX 1 dL_law_883 rfl rfl rfl ?_
  refine l_arg 889 hX (k := 1) rfl rfl (by decide) (by omega) dL_law_884 dL_law_885 dL_law_886 dL_law_887 dL_law_888 rfl ?_
  refine l_arg 894 hX (k := 2) rfl rfl (by decide) (by omega) dL_law_889 dL_law_890 dL_law_891 dL_law_892 dL_law_893 rfl ?_
  refine l_callM 897 (st := [.int v]) (As := [.int (xsL X (j + 1)), .int (xsL X (j + 2))]) hX (cX12_swaps9 hX.djM hM) cv_RL_114 rfl (by decide) rfl (Nat.le_of_ble_eq_true rfl) dL_law_894 rfl ?_
  show Lat X 897 _ [.int v, .int v] S1 M1
  refine l_icmp_eq 0 hX 1120 dL_law_897 (by decide) ?_
  exact ih S1 M1 hR1
theorem law_c24 {X : LX} (hX : LOk X) {Rel : St → St → Prop} (hsim : Sims Rel) {j : Nat} (hj : j + 6 ≤ lenL X) (ih : ∀ S M, Rel S M → Lat X 1120 [(3, .int (nI j)), (2, .ref (adL X 55)), (1, .ref (adL X 0)), (0, .ref (bL X))] [] S M) {S M : St} (hR : Rel S M) : Lat X 902 [(3, .int (nI j)), (2, .ref (adL X 55)), (1, .ref (adL X 0)), (0, .ref (bL X))] [] S M := by
  obtain ⟨v, S1, M1, hC, hM, hR1⟩ := hsim.2.2.2.2.2.2.2.2.2.2.2.2.2.2.2.2.2.2.2.2.2.2.2.2.1 S M (xsL X (j + 1)) (xsL X (j + 2)) hR
  refine l_aload_n 903 hX 2 dL_law_902 rfl rfl rfl ?_
  refine l_arg 908 hX (k := 1) rfl rfl (by decide) (by omega) dL_law_903 dL_law_904 dL_law_905 dL_law_906 dL_law_907 rfl ?_
  refine l_arg 913 hX (k := 2) rfl rfl (by decide) (by omega) dL_law_908 dL_law_909 dL_law_910 dL_law_911 dL_law_912 rfl ?_
  refine l_callC 916 (st := []) (As := [.int (xsL X (j + 1)), .int (xsL X (j + 2))]) hX (cX11_sale9 hX.djC hC) cv_RL_115 rfl (by decide) rfl (Nat.le_of_ble_eq_true rfl) dL_law_913 rfl ?_
  show Lat X 916 _ [.int v] S1 M
  refine l_aload_n 917 hX 1 dL_law_916 rfl rfl rfl ?_
  refine l_arg 922 hX (k := 1) rfl rfl (by decide) (by omega) dL_law_917 dL_law_918 dL_law_919 dL_law_920 dL_law_921 rfl ?_
  refine l_arg 927 hX (k := 2) rfl rfl (by decide) (by omega) dL_law_922 dL_law_923 dL_law_924 dL_law_925 dL_law_926 rfl ?_
  refine l_callM 930 (st := [.int v]) (As := [.int (xsL X (j + 1)), .int (xsL X (j + 2))]) hX (cX12_sale9 hX.djM hM) cv_RL_118 rfl (by decide) rfl (Nat.le_of_ble_eq_true rfl) dL_law_927 rfl ?_
  show Lat X 930 _ [.int v, .int v] S1 M1
  refine l_icmp_eq 0 hX 1120 dL_law_930 (by decide) ?_
  exact ih S1 M1 hR1
theorem law_c25 {X : LX} (hX : LOk X) {Rel : St → St → Prop} (hsim : Sims Rel) {j : Nat} (hj : j + 6 ≤ lenL X) (ih : ∀ S M, Rel S M → Lat X 1120 [(3, .int (nI j)), (2, .ref (adL X 55)), (1, .ref (adL X 0)), (0, .ref (bL X))] [] S M) {S M : St} (hR : Rel S M) : Lat X 935 [(3, .int (nI j)), (2, .ref (adL X 55)), (1, .ref (adL X 0)), (0, .ref (bL X))] [] S M := by
  obtain ⟨v, S1, M1, hC, hM, hR1⟩ := hsim.2.2.2.2.2.2.2.2.2.2.2.2.2.2.2.2.2.2.2.2.2.2.2.2.2.1 S M (xsL X (j + 1)) hR
  refine l_aload_n 936 hX 2 dL_law_935 rfl rfl rfl ?_
  refine l_arg 941 hX (k := 1) rfl rfl (by decide) (by omega) dL_law_936 dL_law_937 dL_law_938 dL_law_939 dL_law_940 rfl ?_
  refine l_callC 944 (st := []) (As := [.int (xsL X (j + 1))]) hX (cX11_rotas9 hX.djC hC) cv_RL_119 rfl (by decide) rfl (Nat.le_of_ble_eq_true rfl) dL_law_941 rfl ?_
  show Lat X 944 _ [.long v] S1 M
  refine l_aload_n 945 hX 1 dL_law_944 rfl rfl rfl ?_
  refine l_arg 950 hX (k := 1) rfl rfl (by decide) (by omega) dL_law_945 dL_law_946 dL_law_947 dL_law_948 dL_law_949 rfl ?_
  refine l_callM 953 (st := [.long v]) (As := [.int (xsL X (j + 1))]) hX (cX12_rotas9 hX.djM hM) cv_RL_123 rfl (by decide) rfl (Nat.le_of_ble_eq_true rfl) dL_law_950 rfl ?_
  show Lat X 953 _ [.long v, .long v] S1 M1
  refine l_lcmp 954 hX dL_law_953 rfl ?_
  refine l_if_eq 0 hX 1120 ((lg_cmp_eq v v).mpr rfl) dL_law_954 (by decide) ?_
  exact ih S1 M1 hR1
theorem law_c26 {X : LX} (hX : LOk X) {Rel : St → St → Prop} (hsim : Sims Rel) {j : Nat} (hj : j + 6 ≤ lenL X) (ih : ∀ S M, Rel S M → Lat X 1120 [(3, .int (nI j)), (2, .ref (adL X 55)), (1, .ref (adL X 0)), (0, .ref (bL X))] [] S M) {S M : St} (hR : Rel S M) : Lat X 959 [(3, .int (nI j)), (2, .ref (adL X 55)), (1, .ref (adL X 0)), (0, .ref (bL X))] [] S M := by
  obtain ⟨v, S1, M1, hC, hM, hR1⟩ := hsim.2.2.2.2.2.2.2.2.2.2.2.2.2.2.2.2.2.2.2.2.2.2.2.2.2.2.1 S M (xsL X (j + 1)) (xsL X (j + 2)) hR
  refine l_aload_n 960 hX 2 dL_law_959 rfl rfl rfl ?_
  refine l_arg 965 hX (k := 1) rfl rfl (by decide) (by omega) dL_law_960 dL_law_961 dL_law_962 dL_law_963 dL_law_964 rfl ?_
  refine l_arg 970 hX (k := 2) rfl rfl (by decide) (by omega) dL_law_965 dL_law_966 dL_law_967 dL_law_968 dL_law_969 rfl ?_
  refine l_callC 973 (st := []) (As := [.int (xsL X (j + 1)), .int (xsL X (j + 2))]) hX (cX11_panes9 hX.djC hC) cv_RL_124 rfl (by decide) rfl (Nat.le_of_ble_eq_true rfl) dL_law_970 rfl ?_
  show Lat X 973 _ [.int v] S1 M
  refine l_aload_n 974 hX 1 dL_law_973 rfl rfl rfl ?_
  refine l_arg 979 hX (k := 1) rfl rfl (by decide) (by omega) dL_law_974 dL_law_975 dL_law_976 dL_law_977 dL_law_978 rfl ?_
  refine l_arg 984 hX (k := 2) rfl rfl (by decide) (by omega) dL_law_979 dL_law_980 dL_law_981 dL_law_982 dL_law_983 rfl ?_
  refine l_callM 987 (st := [.int v]) (As := [.int (xsL X (j + 1)), .int (xsL X (j + 2))]) hX (cX12_panes9 hX.djM hM) cv_RL_127 rfl (by decide) rfl (Nat.le_of_ble_eq_true rfl) dL_law_984 rfl ?_
  show Lat X 987 _ [.int v, .int v] S1 M1
  refine l_icmp_eq 0 hX 1120 dL_law_987 (by decide) ?_
  exact ih S1 M1 hR1
theorem law_c27 {X : LX} (hX : LOk X) {Rel : St → St → Prop} (hsim : Sims Rel) {j : Nat} (hj : j + 6 ≤ lenL X) (ih : ∀ S M, Rel S M → Lat X 1120 [(3, .int (nI j)), (2, .ref (adL X 55)), (1, .ref (adL X 0)), (0, .ref (bL X))] [] S M) {S M : St} (hR : Rel S M) : Lat X 992 [(3, .int (nI j)), (2, .ref (adL X 55)), (1, .ref (adL X 0)), (0, .ref (bL X))] [] S M := by
  obtain ⟨v, S1, M1, hC, hM, hR1⟩ := hsim.2.2.2.2.2.2.2.2.2.2.2.2.2.2.2.2.2.2.2.2.2.2.2.2.2.2.2.1 S M (xsL X (j + 1)) (xsL X (j + 2)) hR
  refine l_aload_n 993 hX 2 dL_law_992 rfl rfl rfl ?_
  refine l_arg 998 hX (k := 1) rfl rfl (by decide) (by omega) dL_law_993 dL_law_994 dL_law_995 dL_law_996 dL_law_997 rfl ?_
  refine l_arg 1003 hX (k := 2) rfl rfl (by decide) (by omega) dL_law_998 dL_law_999 dL_law_1000 dL_law_1001 dL_law_1002 rfl ?_
  refine l_callC 1006 (st := []) (As := [.int (xsL X (j + 1)), .int (xsL X (j + 2))]) hX (cX11_keepIt9 hX.djC hC) cv_RL_128 rfl (by decide) rfl (Nat.le_of_ble_eq_true rfl) dL_law_1003 rfl ?_
  show Lat X 1006 _ [.int v] S1 M
  refine l_aload_n 1007 hX 1 dL_law_1006 rfl rfl rfl ?_
  refine l_arg 1012 hX (k := 1) rfl rfl (by decide) (by omega) dL_law_1007 dL_law_1008 dL_law_1009 dL_law_1010 dL_law_1011 rfl ?_
  refine l_arg 1017 hX (k := 2) rfl rfl (by decide) (by omega) dL_law_1012 dL_law_1013 dL_law_1014 dL_law_1015 dL_law_1016 rfl ?_
  refine l_callM 1020 (st := [.int v]) (As := [.int (xsL X (j + 1)), .int (xsL X (j + 2))]) hX (cX12_keepIt9 hX.djM hM) cv_RL_131 rfl (by decide) rfl (Nat.le_of_ble_eq_true rfl) dL_law_1017 rfl ?_
  show Lat X 1020 _ [.int v, .int v] S1 M1
  refine l_icmp_eq 0 hX 1120 dL_law_1020 (by decide) ?_
  exact ih S1 M1 hR1
theorem law_c28 {X : LX} (hX : LOk X) {Rel : St → St → Prop} (hsim : Sims Rel) {j : Nat} (hj : j + 6 ≤ lenL X) (ih : ∀ S M, Rel S M → Lat X 1120 [(3, .int (nI j)), (2, .ref (adL X 55)), (1, .ref (adL X 0)), (0, .ref (bL X))] [] S M) {S M : St} (hR : Rel S M) : Lat X 1025 [(3, .int (nI j)), (2, .ref (adL X 55)), (1, .ref (adL X 0)), (0, .ref (bL X))] [] S M := by
  obtain ⟨v, S1, M1, hC, hM, hR1⟩ := hsim.2.2.2.2.2.2.2.2.2.2.2.2.2.2.2.2.2.2.2.2.2.2.2.2.2.2.2.2.1 S M (xsL X (j + 1)) hR
  refine l_aload_n 1026 hX 2 dL_law_1025 rfl rfl rfl ?_
  refine l_arg 1031 hX (k := 1) rfl rfl (by decide) (by omega) dL_law_1026 dL_law_1027 dL_law_1028 dL_law_1029 dL_law_1030 rfl ?_
  refine l_callC 1034 (st := []) (As := [.int (xsL X (j + 1))]) hX (cX11_seed9 hX.djC hC) cv_RL_132 rfl (by decide) rfl (Nat.le_of_ble_eq_true rfl) dL_law_1031 rfl ?_
  show Lat X 1034 _ [.int v] S1 M
  refine l_aload_n 1035 hX 1 dL_law_1034 rfl rfl rfl ?_
  refine l_arg 1040 hX (k := 1) rfl rfl (by decide) (by omega) dL_law_1035 dL_law_1036 dL_law_1037 dL_law_1038 dL_law_1039 rfl ?_
  refine l_callM 1043 (st := [.int v]) (As := [.int (xsL X (j + 1))]) hX (cX12_seed9 hX.djM hM) cv_RL_136 rfl (by decide) rfl (Nat.le_of_ble_eq_true rfl) dL_law_1040 rfl ?_
  show Lat X 1043 _ [.int v, .int v] S1 M1
  refine l_icmp_eq 0 hX 1120 dL_law_1043 (by decide) ?_
  exact ih S1 M1 hR1
theorem law_c29 {X : LX} (hX : LOk X) {Rel : St → St → Prop} (hsim : Sims Rel) {j : Nat} (hj : j + 6 ≤ lenL X) (ih : ∀ S M, Rel S M → Lat X 1120 [(3, .int (nI j)), (2, .ref (adL X 55)), (1, .ref (adL X 0)), (0, .ref (bL X))] [] S M) {S M : St} (hR : Rel S M) : Lat X 1048 [(3, .int (nI j)), (2, .ref (adL X 55)), (1, .ref (adL X 0)), (0, .ref (bL X))] [] S M := by
  obtain ⟨v, S1, M1, hC, hM, hR1⟩ := hsim.2.2.2.2.2.2.2.2.2.2.2.2.2.2.2.2.2.2.2.2.2.2.2.2.2.2.2.2.2.1 S M  hR
  refine l_aload_n 1049 hX 2 dL_law_1048 rfl rfl rfl ?_
  refine l_callC 1052 (st := []) (As := []) hX (cX11_keep9 hX.djC hC) cv_RL_137 rfl (by decide) rfl (Nat.le_of_ble_eq_true rfl) dL_law_1049 rfl ?_
  show Lat X 1052 _ [.int v] S1 M
  refine l_aload_n 1053 hX 1 dL_law_1052 rfl rfl rfl ?_
  refine l_callM 1056 (st := [.int v]) (As := []) hX (cX12_keep9 hX.djM hM) cv_RL_140 rfl (by decide) rfl (Nat.le_of_ble_eq_true rfl) dL_law_1053 rfl ?_
  show Lat X 1056 _ [.int v, .int v] S1 M1
  refine l_icmp_eq 0 hX 1120 dL_law_1056 (by decide) ?_
  exact ih S1 M1 hR1
theorem law_c30 {X : LX} (hX : LOk X) {Rel : St → St → Prop} (hsim : Sims Rel) {j : Nat} (hj : j + 6 ≤ lenL X) (ih : ∀ S M, Rel S M → Lat X 1120 [(3, .int (nI j)), (2, .ref (adL X 55)), (1, .ref (adL X 0)), (0, .ref (bL X))] [] S M) {S M : St} (hR : Rel S M) : Lat X 1061 [(3, .int (nI j)), (2, .ref (adL X 55)), (1, .ref (adL X 0)), (0, .ref (bL X))] [] S M := by
  obtain ⟨v, S1, M1, hC, hM, hR1⟩ := hsim.2.2.2.2.2.2.2.2.2.2.2.2.2.2.2.2.2.2.2.2.2.2.2.2.2.2.2.2.2.2.1 S M  hR
  refine l_aload_n 1062 hX 2 dL_law_1061 rfl rfl rfl ?_
  refine l_callC 1065 (st := []) (As := []) hX (cX11_undo9 hX.djC hC) cv_RL_141 rfl (by decide) rfl (Nat.le_of_ble_eq_true rfl) dL_law_1062 rfl ?_
  show Lat X 1065 _ [.int v] S1 M
  refine l_aload_n 1066 hX 1 dL_law_1065 rfl rfl rfl ?_
  refine l_callM 1069 (st := [.int v]) (As := []) hX (cX12_undo9 hX.djM hM) cv_RL_145 rfl (by decide) rfl (Nat.le_of_ble_eq_true rfl) dL_law_1066 rfl ?_
  show Lat X 1069 _ [.int v, .int v] S1 M1
  refine l_icmp_eq 0 hX 1120 dL_law_1069 (by decide) ?_
  exact ih S1 M1 hR1
theorem law_c31 {X : LX} (hX : LOk X) {Rel : St → St → Prop} (hsim : Sims Rel) {j : Nat} (hj : j + 6 ≤ lenL X) (ih : ∀ S M, Rel S M → Lat X 1120 [(3, .int (nI j)), (2, .ref (adL X 55)), (1, .ref (adL X 0)), (0, .ref (bL X))] [] S M) {S M : St} (hR : Rel S M) : Lat X 1074 [(3, .int (nI j)), (2, .ref (adL X 55)), (1, .ref (adL X 0)), (0, .ref (bL X))] [] S M := by
  obtain ⟨v, S1, M1, hC, hM, hR1⟩ := hsim.2.2.2.2.2.2.2.2.2.2.2.2.2.2.2.2.2.2.2.2.2.2.2.2.2.2.2.2.2.2.2.1 S M (xsL X (j + 1)) hR
  refine l_aload_n 1075 hX 2 dL_law_1074 rfl rfl rfl ?_
  refine l_arg 1080 hX (k := 1) rfl rfl (by decide) (by omega) dL_law_1075 dL_law_1076 dL_law_1077 dL_law_1078 dL_law_1079 rfl ?_
  refine l_callC 1083 (st := []) (As := [.int (xsL X (j + 1))]) hX (cX11_check9 hX.djC hC) cv_RL_146 rfl (by decide) rfl (Nat.le_of_ble_eq_true rfl) dL_law_1080 rfl ?_
  show Lat X 1083 _ [.int v] S1 M
  refine l_aload_n 1084 hX 1 dL_law_1083 rfl rfl rfl ?_
  refine l_arg 1089 hX (k := 1) rfl rfl (by decide) (by omega) dL_law_1084 dL_law_1085 dL_law_1086 dL_law_1087 dL_law_1088 rfl ?_
  refine l_callM 1092 (st := [.int v]) (As := [.int (xsL X (j + 1))]) hX (cX12_check9 hX.djM hM) cv_RL_149 rfl (by decide) rfl (Nat.le_of_ble_eq_true rfl) dL_law_1089 rfl ?_
  show Lat X 1092 _ [.int v, .int v] S1 M1
  refine l_icmp_eq 0 hX 1120 dL_law_1092 (by decide) ?_
  exact ih S1 M1 hR1
theorem law_c32 {X : LX} (hX : LOk X) {Rel : St → St → Prop} (hsim : Sims Rel) {j : Nat} (hj : j + 6 ≤ lenL X) (ih : ∀ S M, Rel S M → Lat X 1120 [(3, .int (nI j)), (2, .ref (adL X 55)), (1, .ref (adL X 0)), (0, .ref (bL X))] [] S M) {S M : St} (hR : Rel S M) : Lat X 1097 [(3, .int (nI j)), (2, .ref (adL X 55)), (1, .ref (adL X 0)), (0, .ref (bL X))] [] S M := by
  obtain ⟨v, S1, M1, hC, hM, hR1⟩ := hsim.2.2.2.2.2.2.2.2.2.2.2.2.2.2.2.2.2.2.2.2.2.2.2.2.2.2.2.2.2.2.2.2 S M (xsL X (j + 1)) hR
  refine l_aload_n 1098 hX 2 dL_law_1097 rfl rfl rfl ?_
  refine l_arg 1103 hX (k := 1) rfl rfl (by decide) (by omega) dL_law_1098 dL_law_1099 dL_law_1100 dL_law_1101 dL_law_1102 rfl ?_
  refine l_callC 1106 (st := []) (As := [.int (xsL X (j + 1))]) hX (cX11_count9 hX.djC hC) cv_RL_150 rfl (by decide) rfl (Nat.le_of_ble_eq_true rfl) dL_law_1103 rfl ?_
  show Lat X 1106 _ [.int v] S1 M
  refine l_aload_n 1107 hX 1 dL_law_1106 rfl rfl rfl ?_
  refine l_arg 1112 hX (k := 1) rfl rfl (by decide) (by omega) dL_law_1107 dL_law_1108 dL_law_1109 dL_law_1110 dL_law_1111 rfl ?_
  refine l_callM 1115 (st := [.int v]) (As := [.int (xsL X (j + 1))]) hX (cX12_count9 hX.djM hM) cv_RL_153 rfl (by decide) rfl (Nat.le_of_ble_eq_true rfl) dL_law_1112 rfl ?_
  show Lat X 1115 _ [.int v, .int v] S1 M1
  refine l_icmp_eq 0 hX 1120 dL_law_1115 (by decide) ?_
  exact ih S1 M1 hR1
theorem lkB_6 : (Int8.ofInt (6)).toInt32 = nI 6 := by decide
theorem lkB_63 : (Int8.ofInt (63)).toInt32 = (63 : Int32) := by decide
theorem lkI_1 : Int32.ofInt (1) = (1 : Int32) := by decide
theorem lkI_6 : Int32.ofInt (6) = nI 6 := by decide
theorem lim_gt {L j : Nat} (hL : L ≤ 3072) (hj : j < 2 ^ 31) (h : L < j + 6) : nI L - nI 6 < nI j := by
  have h1 : (nI L - nI 6).toInt = (L : Int) - 6 := pk_sub_toInt (by omega) (by decide)
  rw [Int32.lt_iff_toInt_lt, h1, nI_toInt hj]
  omega
theorem law_loop {X : LX} (hX : LOk X) {Rel : St → St → Prop} (hsim : Sims Rel) : ∀ (n j : Nat), lenL X < j + 6 * n → j < 4000 → ∀ (S M : St), Rel S M → Lat X 18 [(3, .int (nI j)), (2, .ref (adL X 55)), (1, .ref (adL X 0)), (0, .ref (bL X))] [] S M := by
  have hL : lenL X ≤ 3072 := by
    obtain ⟨l, w, p, e, s, m, below, meth, c, b, L, xs⟩ := X
    exact hX.2.2.2.2.2.2.2.2.2.2.2.2.2.2
  intro n
  induction n with
  | zero =>
    intro j hj hj4 S M hR
    refine l_iload_n 19 hX 0 dL_law_18 rfl rfl rfl ?_
    refine l_aload_n 20 hX 3 dL_law_19 rfl rfl rfl ?_
    refine l_slen 21 hX dL_law_20 rfl ?_
    refine l_bipush 23 hX dL_law_21 rfl lkB_6 ?_
    refine l_isub 24 hX dL_law_23 rfl ?_
    refine l_icmp_gt 27 hX 1126 dL_law_24 rfl (by decide) (fun hc => ?_) (fun hc => ?_)
    · refine l_iconst 1127 hX dL_law_1126 rfl lkI_1 ?_
      exact l_ret1 hX dL_law_1127
    · exact absurd (lim_gt hL (by omega) (by omega)) hc
  | succ n ih =>
    intro j hj hj4 S M hR
    refine l_iload_n 19 hX 0 dL_law_18 rfl rfl rfl ?_
    refine l_aload_n 20 hX 3 dL_law_19 rfl rfl rfl ?_
    refine l_slen 21 hX dL_law_20 rfl ?_
    refine l_bipush 23 hX dL_law_21 rfl lkB_6 ?_
    refine l_isub 24 hX dL_law_23 rfl ?_
    refine l_icmp_gt 27 hX 1126 dL_law_24 rfl (by decide) (fun hc => ?_) (fun hc => ?_)
    · refine l_iconst 1127 hX dL_law_1126 rfl lkI_1 ?_
      exact l_ret1 hX dL_law_1127
    · have hj6 : j + 6 ≤ lenL X := by
        rcases Nat.lt_or_ge (lenL X) (j + 6) with q | q
        · exact absurd (lim_gt hL (by omega) q) hc
        · exact q
      have nx : ∀ S M, Rel S M → Lat X 1120 [(3, .int (nI j)), (2, .ref (adL X 55)), (1, .ref (adL X 0)), (0, .ref (bL X))] [] S M := by
        intro S M hR
        refine l_iinc 1123 0 (lv' := [(3, .int (nI (j + 6))), (2, .ref (adL X 55)), (1, .ref (adL X 0)), (0, .ref (bL X))]) hX dL_law_1120 rfl rfl (by rw [lkI_6]; exact nI_add j 6) (by decide) rfl ?_
        refine l_goto 18 hX dL_law_1123 (by decide) ?_
        exact ih (j + 6) (by omega) (by omega) S M hR
      refine l_aload_n 28 hX 3 dL_law_27 rfl rfl rfl ?_
      refine l_iload_n 29 hX 0 dL_law_28 rfl rfl rfl ?_
      refine l_sld 30 hX rfl (by omega) dL_law_29 rfl ?_
      refine l_bipush 32 hX dL_law_30 rfl lkB_63 ?_
      refine l_iand 33 hX dL_law_32 rfl ?_
      by_cases hc0 : (xsL X j &&& 63) = (0 : Int32)
      · refine l_tabIn 180 hX dL_law_33 (by rw [hc0]; decide) (by rw [hc0]; decide) (by rw [hc0]; rfl) (by decide) ?_
        exact law_c0 hX hsim hj6 nx hR
      have hn0 := ne_ti (k := 0) hc0 (by decide)
      by_cases hc1 : (xsL X j &&& 63) = (1 : Int32)
      · refine l_tabIn 213 hX dL_law_33 (by rw [hc1]; decide) (by rw [hc1]; decide) (by rw [hc1]; rfl) (by decide) ?_
        exact law_c1 hX hsim hj6 nx hR
      have hn1 := ne_ti (k := 1) hc1 (by decide)
      by_cases hc2 : (xsL X j &&& 63) = (2 : Int32)
      · refine l_tabIn 276 hX dL_law_33 (by rw [hc2]; decide) (by rw [hc2]; decide) (by rw [hc2]; rfl) (by decide) ?_
        exact law_c2 hX hsim hj6 nx hR
      have hn2 := ne_ti (k := 2) hc2 (by decide)
      by_cases hc3 : (xsL X j &&& 63) = (3 : Int32)
      · refine l_tabIn 299 hX dL_law_33 (by rw [hc3]; decide) (by rw [hc3]; decide) (by rw [hc3]; rfl) (by decide) ?_
        exact law_c3 hX hsim hj6 nx hR
      have hn3 := ne_ti (k := 3) hc3 (by decide)
      by_cases hc4 : (xsL X j &&& 63) = (4 : Int32)
      · refine l_tabIn 322 hX dL_law_33 (by rw [hc4]; decide) (by rw [hc4]; decide) (by rw [hc4]; rfl) (by decide) ?_
        exact law_c4 hX hsim hj6 nx hR
      have hn4 := ne_ti (k := 4) hc4 (by decide)
      by_cases hc5 : (xsL X j &&& 63) = (5 : Int32)
      · refine l_tabIn 345 hX dL_law_33 (by rw [hc5]; decide) (by rw [hc5]; decide) (by rw [hc5]; rfl) (by decide) ?_
        exact law_c5 hX hsim hj6 nx hR
      have hn5 := ne_ti (k := 5) hc5 (by decide)
      by_cases hc6 : (xsL X j &&& 63) = (6 : Int32)
      · refine l_tabIn 368 hX dL_law_33 (by rw [hc6]; decide) (by rw [hc6]; decide) (by rw [hc6]; rfl) (by decide) ?_
        exact law_c6 hX hsim hj6 nx hR
      have hn6 := ne_ti (k := 6) hc6 (by decide)
      by_cases hc7 : (xsL X j &&& 63) = (7 : Int32)
      · refine l_tabIn 401 hX dL_law_33 (by rw [hc7]; decide) (by rw [hc7]; decide) (by rw [hc7]; rfl) (by decide) ?_
        exact law_c7 hX hsim hj6 nx hR
      have hn7 := ne_ti (k := 7) hc7 (by decide)
      by_cases hc8 : (xsL X j &&& 63) = (8 : Int32)
      · refine l_tabIn 434 hX dL_law_33 (by rw [hc8]; decide) (by rw [hc8]; decide) (by rw [hc8]; rfl) (by decide) ?_
        exact law_c8 hX hsim hj6 nx hR
      have hn8 := ne_ti (k := 8) hc8 (by decide)
      by_cases hc9 : (xsL X j &&& 63) = (9 : Int32)
      · refine l_tabIn 467 hX dL_law_33 (by rw [hc9]; decide) (by rw [hc9]; decide) (by rw [hc9]; rfl) (by decide) ?_
        exact law_c9 hX hsim hj6 nx hR
      have hn9 := ne_ti (k := 9) hc9 (by decide)
      by_cases hc10 : (xsL X j &&& 63) = (10 : Int32)
      · refine l_tabIn 490 hX dL_law_33 (by rw [hc10]; decide) (by rw [hc10]; decide) (by rw [hc10]; rfl) (by decide) ?_
        exact law_c10 hX hsim hj6 nx hR
      have hn10 := ne_ti (k := 10) hc10 (by decide)
      by_cases hc11 : (xsL X j &&& 63) = (11 : Int32)
      · refine l_tabIn 533 hX dL_law_33 (by rw [hc11]; decide) (by rw [hc11]; decide) (by rw [hc11]; rfl) (by decide) ?_
        exact law_c11 hX hsim hj6 nx hR
      have hn11 := ne_ti (k := 11) hc11 (by decide)
      by_cases hc12 : (xsL X j &&& 63) = (12 : Int32)
      · refine l_tabIn 566 hX dL_law_33 (by rw [hc12]; decide) (by rw [hc12]; decide) (by rw [hc12]; rfl) (by decide) ?_
        exact law_c12 hX hsim hj6 nx hR
      have hn12 := ne_ti (k := 12) hc12 (by decide)
      by_cases hc13 : (xsL X j &&& 63) = (13 : Int32)
      · refine l_tabIn 589 hX dL_law_33 (by rw [hc13]; decide) (by rw [hc13]; decide) (by rw [hc13]; rfl) (by decide) ?_
        exact law_c13 hX hsim hj6 nx hR
      have hn13 := ne_ti (k := 13) hc13 (by decide)
      by_cases hc14 : (xsL X j &&& 63) = (14 : Int32)
      · refine l_tabIn 622 hX dL_law_33 (by rw [hc14]; decide) (by rw [hc14]; decide) (by rw [hc14]; rfl) (by decide) ?_
        exact law_c14 hX hsim hj6 nx hR
      have hn14 := ne_ti (k := 14) hc14 (by decide)
      by_cases hc15 : (xsL X j &&& 63) = (15 : Int32)
      · refine l_tabIn 635 hX dL_law_33 (by rw [hc15]; decide) (by rw [hc15]; decide) (by rw [hc15]; rfl) (by decide) ?_
        exact law_c15 hX hsim hj6 nx hR
      have hn15 := ne_ti (k := 15) hc15 (by decide)
      by_cases hc16 : (xsL X j &&& 63) = (16 : Int32)
      · refine l_tabIn 668 hX dL_law_33 (by rw [hc16]; decide) (by rw [hc16]; decide) (by rw [hc16]; rfl) (by decide) ?_
        exact law_c16 hX hsim hj6 nx hR
      have hn16 := ne_ti (k := 16) hc16 (by decide)
      by_cases hc17 : (xsL X j &&& 63) = (17 : Int32)
      · refine l_tabIn 691 hX dL_law_33 (by rw [hc17]; decide) (by rw [hc17]; decide) (by rw [hc17]; rfl) (by decide) ?_
        exact law_c17 hX hsim hj6 nx hR
      have hn17 := ne_ti (k := 17) hc17 (by decide)
      by_cases hc18 : (xsL X j &&& 63) = (18 : Int32)
      · refine l_tabIn 724 hX dL_law_33 (by rw [hc18]; decide) (by rw [hc18]; decide) (by rw [hc18]; rfl) (by decide) ?_
        exact law_c18 hX hsim hj6 nx hR
      have hn18 := ne_ti (k := 18) hc18 (by decide)
      by_cases hc19 : (xsL X j &&& 63) = (19 : Int32)
      · refine l_tabIn 757 hX dL_law_33 (by rw [hc19]; decide) (by rw [hc19]; decide) (by rw [hc19]; rfl) (by decide) ?_
        exact law_c19 hX hsim hj6 nx hR
      have hn19 := ne_ti (k := 19) hc19 (by decide)
      by_cases hc20 : (xsL X j &&& 63) = (20 : Int32)
      · refine l_tabIn 790 hX dL_law_33 (by rw [hc20]; decide) (by rw [hc20]; decide) (by rw [hc20]; rfl) (by decide) ?_
        exact law_c20 hX hsim hj6 nx hR
      have hn20 := ne_ti (k := 20) hc20 (by decide)
      by_cases hc21 : (xsL X j &&& 63) = (21 : Int32)
      · refine l_tabIn 813 hX dL_law_33 (by rw [hc21]; decide) (by rw [hc21]; decide) (by rw [hc21]; rfl) (by decide) ?_
        exact law_c21 hX hsim hj6 nx hR
      have hn21 := ne_ti (k := 21) hc21 (by decide)
      by_cases hc22 : (xsL X j &&& 63) = (22 : Int32)
      · refine l_tabIn 846 hX dL_law_33 (by rw [hc22]; decide) (by rw [hc22]; decide) (by rw [hc22]; rfl) (by decide) ?_
        exact law_c22 hX hsim hj6 nx hR
      have hn22 := ne_ti (k := 22) hc22 (by decide)
      by_cases hc23 : (xsL X j &&& 63) = (23 : Int32)
      · refine l_tabIn 869 hX dL_law_33 (by rw [hc23]; decide) (by rw [hc23]; decide) (by rw [hc23]; rfl) (by decide) ?_
        exact law_c23 hX hsim hj6 nx hR
      have hn23 := ne_ti (k := 23) hc23 (by decide)
      by_cases hc24 : (xsL X j &&& 63) = (24 : Int32)
      · refine l_tabIn 902 hX dL_law_33 (by rw [hc24]; decide) (by rw [hc24]; decide) (by rw [hc24]; rfl) (by decide) ?_
        exact law_c24 hX hsim hj6 nx hR
      have hn24 := ne_ti (k := 24) hc24 (by decide)
      by_cases hc25 : (xsL X j &&& 63) = (25 : Int32)
      · refine l_tabIn 935 hX dL_law_33 (by rw [hc25]; decide) (by rw [hc25]; decide) (by rw [hc25]; rfl) (by decide) ?_
        exact law_c25 hX hsim hj6 nx hR
      have hn25 := ne_ti (k := 25) hc25 (by decide)
      by_cases hc26 : (xsL X j &&& 63) = (26 : Int32)
      · refine l_tabIn 959 hX dL_law_33 (by rw [hc26]; decide) (by rw [hc26]; decide) (by rw [hc26]; rfl) (by decide) ?_
        exact law_c26 hX hsim hj6 nx hR
      have hn26 := ne_ti (k := 26) hc26 (by decide)
      by_cases hc27 : (xsL X j &&& 63) = (27 : Int32)
      · refine l_tabIn 992 hX dL_law_33 (by rw [hc27]; decide) (by rw [hc27]; decide) (by rw [hc27]; rfl) (by decide) ?_
        exact law_c27 hX hsim hj6 nx hR
      have hn27 := ne_ti (k := 27) hc27 (by decide)
      by_cases hc28 : (xsL X j &&& 63) = (28 : Int32)
      · refine l_tabIn 1025 hX dL_law_33 (by rw [hc28]; decide) (by rw [hc28]; decide) (by rw [hc28]; rfl) (by decide) ?_
        exact law_c28 hX hsim hj6 nx hR
      have hn28 := ne_ti (k := 28) hc28 (by decide)
      by_cases hc29 : (xsL X j &&& 63) = (29 : Int32)
      · refine l_tabIn 1048 hX dL_law_33 (by rw [hc29]; decide) (by rw [hc29]; decide) (by rw [hc29]; rfl) (by decide) ?_
        exact law_c29 hX hsim hj6 nx hR
      have hn29 := ne_ti (k := 29) hc29 (by decide)
      by_cases hc30 : (xsL X j &&& 63) = (30 : Int32)
      · refine l_tabIn 1061 hX dL_law_33 (by rw [hc30]; decide) (by rw [hc30]; decide) (by rw [hc30]; rfl) (by decide) ?_
        exact law_c30 hX hsim hj6 nx hR
      have hn30 := ne_ti (k := 30) hc30 (by decide)
      by_cases hc31 : (xsL X j &&& 63) = (31 : Int32)
      · refine l_tabIn 1074 hX dL_law_33 (by rw [hc31]; decide) (by rw [hc31]; decide) (by rw [hc31]; rfl) (by decide) ?_
        exact law_c31 hX hsim hj6 nx hR
      have hn31 := ne_ti (k := 31) hc31 (by decide)
      by_cases hc32 : (xsL X j &&& 63) = (32 : Int32)
      · refine l_tabIn 1097 hX dL_law_33 (by rw [hc32]; decide) (by rw [hc32]; decide) (by rw [hc32]; rfl) (by decide) ?_
        exact law_c32 hX hsim hj6 nx hR
      have hn32 := ne_ti (k := 32) hc32 (by decide)
      refine l_tabOut 1120 hX dL_law_33 (by omega) (by decide) ?_
      exact nx S M hR
