set_option maxRecDepth 100000 in
set_option maxHeartbeats 4000000 in
def wb_Law_law_18 (l0 : Nat) (l1 : Nat) (l2 : Nat) (l3 : Int32) (h : HP) (bc bs : Nat) (K : Int32 → HP → Prop) : Prop :=
  (l0 < gS h ∧ 100 ≤ gK h l0 ∧ gK h l0 ≤ 105 ∧ (l0 = 0 → gK h l0 = 100)) ∧ ((nI (gL h l0)) - (4 : Int32) < l3 → K (1 : Int32) h) ∧ (¬ (nI (gL h l0)) - (4 : Int32) < l3 → isL h l0 100 l3 ∧ (¬ (gI h l0 l3.toNatClampNeg) &&& (31 : Int32) = 0 → ¬ (gI h l0 l3.toNatClampNeg) &&& (31 : Int32) = 1 → ¬ (gI h l0 l3.toNatClampNeg) &&& (31 : Int32) = 2 → ¬ (gI h l0 l3.toNatClampNeg) &&& (31 : Int32) = 3 → ¬ (gI h l0 l3.toNatClampNeg) &&& (31 : Int32) = 4 → ¬ (gI h l0 l3.toNatClampNeg) &&& (31 : Int32) = 5 → ¬ (gI h l0 l3.toNatClampNeg) &&& (31 : Int32) = 6 → ¬ (gI h l0 l3.toNatClampNeg) &&& (31 : Int32) = 7 → ¬ (gI h l0 l3.toNatClampNeg) &&& (31 : Int32) = 8 → ¬ (gI h l0 l3.toNatClampNeg) &&& (31 : Int32) = 9 → ¬ (gI h l0 l3.toNatClampNeg) &&& (31 : Int32) = 10 → ¬ (gI h l0 l3.toNatClampNeg) &&& (31 : Int32) = 11 → ¬ (gI h l0 l3.toNatClampNeg) &&& (31 : Int32) = 12 → ¬ (gI h l0 l3.toNatClampNeg) &&& (31 : Int32) = 13 → ¬ (gI h l0 l3.toNatClampNeg) &&& (31 : Int32) = 14 → ¬ (gI h l0 l3.toNatClampNeg) &&& (31 : Int32) = 15 → ¬ (gI h l0 l3.toNatClampNeg) &&& (31 : Int32) = 16 → ¬ (gI h l0 l3.toNatClampNeg) &&& (31 : Int32) = 17 → ¬ (gI h l0 l3.toNatClampNeg) &&& (31 : Int32) = 18 → ¬ (gI h l0 l3.toNatClampNeg) &&& (31 : Int32) = 19 → ¬ (gI h l0 l3.toNatClampNeg) &&& (31 : Int32) = 20 → ¬ (gI h l0 l3.toNatClampNeg) &&& (31 : Int32) = 21 → ¬ (gI h l0 l3.toNatClampNeg) &&& (31 : Int32) = 22 → ¬ (gI h l0 l3.toNatClampNeg) &&& (31 : Int32) = 23 → ¬ (gI h l0 l3.toNatClampNeg) &&& (31 : Int32) = 24 → Wp k_Law_law 18 [some (.ref l0), some (.ref l1), some (.ref l2), some (.int (l3 + (4 : Int32)))] [] h (bc, bs) (QI K)) ∧ ((gI h l0 l3.toNatClampNeg) &&& (31 : Int32) = 0 → isL h l0 100 (l3 + (1 : Int32)) ∧ isL h l0 100 (l3 + (2 : Int32)) ∧ isL h l0 100 (l3 + (3 : Int32)) ∧ isO h l1 9 ∧ wq_K_feed l1 ((((gI h l0 (l3 + (1 : Int32)).toNatClampNeg).toInt64) <<< ((32 : Int32).toInt64 &&& 63)) ||| (((gI h l0 (l3 + (2 : Int32)).toNatClampNeg).toInt64) &&& (lN 4294967295))) (gI h l0 (l3 + (3 : Int32)).toNatClampNeg) h (fun v8 h7 => isL h7 l0 100 (l3 + (1 : Int32)) ∧ isL h7 l0 100 (l3 + (2 : Int32)) ∧ isL h7 l0 100 (l3 + (3 : Int32)) ∧ isO h7 l2 10 ∧ wq_M_feed l2 ((((gI h7 l0 (l3 + (1 : Int32)).toNatClampNeg).toInt64) <<< ((32 : Int32).toInt64 &&& 63)) ||| (((gI h7 l0 (l3 + (2 : Int32)).toNatClampNeg).toInt64) &&& (lN 4294967295))) (gI h7 l0 (l3 + (3 : Int32)).toNatClampNeg) h7 (fun v10 h9 => (v8 = v10 → Wp k_Law_law 18 [some (.ref l0), some (.ref l1), some (.ref l2), some (.int (l3 + (4 : Int32)))] [] h9 (bc, bs) (QI K)) ∧ (¬ v8 = v10 → K (0 : Int32) h9)))) ∧ ((gI h l0 l3.toNatClampNeg) &&& (31 : Int32) = 1 → isL h l0 100 (l3 + (1 : Int32)) ∧ isO h l1 9 ∧ wq_K_cut l1 (gI h l0 (l3 + (1 : Int32)).toNatClampNeg) h (fun v21 h20 => isL h20 l0 100 (l3 + (1 : Int32)) ∧ isO h20 l2 10 ∧ wq_M_cut l2 (gI h20 l0 (l3 + (1 : Int32)).toNatClampNeg) h20 (fun v23 h22 => (v21 = v23 → Wp k_Law_law 18 [some (.ref l0), some (.ref l1), some (.ref l2), some (.int (l3 + (4 : Int32)))] [] h22 (bc, bs) (QI K)) ∧ (¬ v21 = v23 → K (0 : Int32) h22)))) ∧ ((gI h l0 l3.toNatClampNeg) &&& (31 : Int32) = 2 → isL h l0 100 (l3 + (1 : Int32)) ∧ isO h l1 9 ∧ wq_K_tape l1 (gI h l0 (l3 + (1 : Int32)).toNatClampNeg) h (fun v30 h29 => isL h29 l0 100 (l3 + (1 : Int32)) ∧ isO h29 l2 10 ∧ wq_M_tape l2 (gI h29 l0 (l3 + (1 : Int32)).toNatClampNeg) h29 (fun v32 h31 => (v30 = v32 → Wp k_Law_law 18 [some (.ref l0), some (.ref l1), some (.ref l2), some (.int (l3 + (4 : Int32)))] [] h31 (bc, bs) (QI K)) ∧ (¬ v30 = v32 → K (0 : Int32) h31)))) ∧ ((gI h l0 l3.toNatClampNeg) &&& (31 : Int32) = 3 → isO h l1 9 ∧ wq_K_except l1 h (fun v39 h38 => isO h38 l2 10 ∧ wq_M_except l2 h38 (fun v41 h40 => (v39 = v41 → Wp k_Law_law 18 [some (.ref l0), some (.ref l1), some (.ref l2), some (.int (l3 + (4 : Int32)))] [] h40 (bc, bs) (QI K)) ∧ (¬ v39 = v41 → K (0 : Int32) h40)))) ∧ ((gI h l0 l3.toNatClampNeg) &&& (31 : Int32) = 4 → isO h l1 9 ∧ (1 ≤ bc ∧ 640 ≤ bs) ∧ wq_K_load l1 h (fun v46 h45 => isO h45 l2 10 ∧ wq_M_load l2 h45 (fun v48 h47 => (v46 = v48 → Wp k_Law_law 18 [some (.ref l0), some (.ref l1), some (.ref l2), some (.int (l3 + (4 : Int32)))] [] h47 (bc - 1, bs - 640) (QI K)) ∧ (¬ v46 = v48 → K (0 : Int32) h47)))) ∧ ((gI h l0 l3.toNatClampNeg) &&& (31 : Int32) = 5 → isL h l0 100 (l3 + (1 : Int32)) ∧ isL h l0 100 (l3 + (2 : Int32)) ∧ isO h l1 9 ∧ wq_K_segment l1 (gI h l0 (l3 + (1 : Int32)).toNatClampNeg) (gI h l0 (l3 + (2 : Int32)).toNatClampNeg) h (fun v54 h53 => isL h53 l0 100 (l3 + (1 : Int32)) ∧ isL h53 l0 100 (l3 + (2 : Int32)) ∧ isO h53 l2 10 ∧ wq_M_segment l2 (gI h53 l0 (l3 + (1 : Int32)).toNatClampNeg) (gI h53 l0 (l3 + (2 : Int32)).toNatClampNeg) h53 (fun v56 h55 => (v54 = v56 → Wp k_Law_law 18 [some (.ref l0), some (.ref l1), some (.ref l2), some (.int (l3 + (4 : Int32)))] [] h55 (bc, bs) (QI K)) ∧ (¬ v54 = v56 → K (0 : Int32) h55)))) ∧ ((gI h l0 l3.toNatClampNeg) &&& (31 : Int32) = 6 → isL h l0 100 (l3 + (1 : Int32)) ∧ isL h l0 100 (l3 + (2 : Int32)) ∧ isL h l0 100 (l3 + (3 : Int32)) ∧ isO h l1 9 ∧ wq_K_piece l1 (gI h l0 (l3 + (1 : Int32)).toNatClampNeg) (gI h l0 (l3 + (2 : Int32)).toNatClampNeg) (gI h l0 (l3 + (3 : Int32)).toNatClampNeg) h (fun v65 h64 => isL h64 l0 100 (l3 + (1 : Int32)) ∧ isL h64 l0 100 (l3 + (2 : Int32)) ∧ isL h64 l0 100 (l3 + (3 : Int32)) ∧ isO h64 l2 10 ∧ wq_M_piece l2 (gI h64 l0 (l3 + (1 : Int32)).toNatClampNeg) (gI h64 l0 (l3 + (2 : Int32)).toNatClampNeg) (gI h64 l0 (l3 + (3 : Int32)).toNatClampNeg) h64 (fun v67 h66 => (v65 = v67 → Wp k_Law_law 18 [some (.ref l0), some (.ref l1), some (.ref l2), some (.int (l3 + (4 : Int32)))] [] h66 (bc, bs) (QI K)) ∧ (¬ v65 = v67 → K (0 : Int32) h66)))) ∧ ((gI h l0 l3.toNatClampNeg) &&& (31 : Int32) = 7 → isL h l0 100 (l3 + (1 : Int32)) ∧ isL h l0 100 (l3 + (2 : Int32)) ∧ isO h l1 9 ∧ (2 ≤ bc ∧ 1280 ≤ bs) ∧ wq_K_keep l1 (gI h l0 (l3 + (1 : Int32)).toNatClampNeg) (gI h l0 (l3 + (2 : Int32)).toNatClampNeg) h (fun v78 h77 => isL h77 l0 100 (l3 + (1 : Int32)) ∧ isL h77 l0 100 (l3 + (2 : Int32)) ∧ isO h77 l2 10 ∧ wq_M_keep l2 (gI h77 l0 (l3 + (1 : Int32)).toNatClampNeg) (gI h77 l0 (l3 + (2 : Int32)).toNatClampNeg) h77 (fun v80 h79 => (v78 = v80 → Wp k_Law_law 18 [some (.ref l0), some (.ref l1), some (.ref l2), some (.int (l3 + (4 : Int32)))] [] h79 (bc - 2, bs - 1280) (QI K)) ∧ (¬ v78 = v80 → K (0 : Int32) h79)))) ∧ ((gI h l0 l3.toNatClampNeg) &&& (31 : Int32) = 8 → isL h l0 100 (l3 + (1 : Int32)) ∧ isL h l0 100 (l3 + (2 : Int32)) ∧ isO h l1 9 ∧ (1 ≤ bc ∧ 640 ≤ bs) ∧ wq_K_change l1 (gI h l0 (l3 + (1 : Int32)).toNatClampNeg) (gI h l0 (l3 + (2 : Int32)).toNatClampNeg) h (fun v90 h89 => isL h89 l0 100 (l3 + (1 : Int32)) ∧ isL h89 l0 100 (l3 + (2 : Int32)) ∧ isO h89 l2 10 ∧ wq_M_change l2 (gI h89 l0 (l3 + (1 : Int32)).toNatClampNeg) (gI h89 l0 (l3 + (2 : Int32)).toNatClampNeg) h89 (fun v92 h91 => (v90 = v92 → Wp k_Law_law 18 [some (.ref l0), some (.ref l1), some (.ref l2), some (.int (l3 + (4 : Int32)))] [] h91 (bc - 1, bs - 640) (QI K)) ∧ (¬ v90 = v92 → K (0 : Int32) h91)))) ∧ ((gI h l0 l3.toNatClampNeg) &&& (31 : Int32) = 9 → isO h l1 9 ∧ wq_K_undo l1 h (fun v102 h101 => isO h101 l2 10 ∧ wq_M_undo l2 h101 (fun v104 h103 => (v102 = v104 → Wp k_Law_law 18 [some (.ref l0), some (.ref l1), some (.ref l2), some (.int (l3 + (4 : Int32)))] [] h103 (bc, bs) (QI K)) ∧ (¬ v102 = v104 → K (0 : Int32) h103)))) ∧ ((gI h l0 l3.toNatClampNeg) &&& (31 : Int32) = 10 → isL h l0 100 (l3 + (1 : Int32)) ∧ isL h l0 100 (l3 + (2 : Int32)) ∧ isO h l1 9 ∧ wq_K_pair l1 (gI h l0 (l3 + (1 : Int32)).toNatClampNeg) (gI h l0 (l3 + (2 : Int32)).toNatClampNeg) h (fun v109 h108 => isL h108 l0 100 (l3 + (1 : Int32)) ∧ isL h108 l0 100 (l3 + (2 : Int32)) ∧ isO h108 l2 10 ∧ wq_M_pair l2 (gI h108 l0 (l3 + (1 : Int32)).toNatClampNeg) (gI h108 l0 (l3 + (2 : Int32)).toNatClampNeg) h108 (fun v111 h110 => (v109 = v111 → Wp k_Law_law 18 [some (.ref l0), some (.ref l1), some (.ref l2), some (.int (l3 + (4 : Int32)))] [] h110 (bc, bs) (QI K)) ∧ (¬ v109 = v111 → K (0 : Int32) h110)))) ∧ ((gI h l0 l3.toNatClampNeg) &&& (31 : Int32) = 11 → isL h l0 100 (l3 + (1 : Int32)) ∧ isL h l0 100 (l3 + (2 : Int32)) ∧ isL h l0 100 (l3 + (3 : Int32)) ∧ isO h l1 9 ∧ wq_K_rendered l1 (gI h l0 (l3 + (1 : Int32)).toNatClampNeg) (gI h l0 (l3 + (2 : Int32)).toNatClampNeg) (gI h l0 (l3 + (3 : Int32)).toNatClampNeg) h (fun v120 h119 => isL h119 l0 100 (l3 + (1 : Int32)) ∧ isL h119 l0 100 (l3 + (2 : Int32)) ∧ isL h119 l0 100 (l3 + (3 : Int32)) ∧ isO h119 l2 10 ∧ wq_M_rendered l2 (gI h119 l0 (l3 + (1 : Int32)).toNatClampNeg) (gI h119 l0 (l3 + (2 : Int32)).toNatClampNeg) (gI h119 l0 (l3 + (3 : Int32)).toNatClampNeg) h119 (fun v122 h121 => (v120 = v122 → Wp k_Law_law 18 [some (.ref l0), some (.ref l1), some (.ref l2), some (.int (l3 + (4 : Int32)))] [] h121 (bc, bs) (QI K)) ∧ (¬ v120 = v122 → K (0 : Int32) h121)))) ∧ ((gI h l0 l3.toNatClampNeg) &&& (31 : Int32) = 12 → isL h l0 100 (l3 + (1 : Int32)) ∧ isL h l0 100 (l3 + (2 : Int32)) ∧ isO h l1 9 ∧ wq_K_like l1 (gI h l0 (l3 + (1 : Int32)).toNatClampNeg) (gI h l0 (l3 + (2 : Int32)).toNatClampNeg) h (fun v133 h132 => isL h132 l0 100 (l3 + (1 : Int32)) ∧ isL h132 l0 100 (l3 + (2 : Int32)) ∧ isO h132 l2 10 ∧ wq_M_like2 l2 (gI h132 l0 (l3 + (1 : Int32)).toNatClampNeg) (gI h132 l0 (l3 + (2 : Int32)).toNatClampNeg) h132 (fun v135 h134 => (v133 = v135 → Wp k_Law_law 18 [some (.ref l0), some (.ref l1), some (.ref l2), some (.int (l3 + (4 : Int32)))] [] h134 (bc, bs) (QI K)) ∧ (¬ v133 = v135 → K (0 : Int32) h134)))) ∧ ((gI h l0 l3.toNatClampNeg) &&& (31 : Int32) = 13 → isL h l0 100 (l3 + (1 : Int32)) ∧ isL h l0 100 (l3 + (2 : Int32)) ∧ isO h l1 9 ∧ wq_K_score l1 (gI h l0 (l3 + (1 : Int32)).toNatClampNeg) (gI h l0 (l3 + (2 : Int32)).toNatClampNeg) h (fun v144 h143 => isL h143 l0 100 (l3 + (1 : Int32)) ∧ isL h143 l0 100 (l3 + (2 : Int32)) ∧ isO h143 l2 10 ∧ wq_M_score l2 (gI h143 l0 (l3 + (1 : Int32)).toNatClampNeg) (gI h143 l0 (l3 + (2 : Int32)).toNatClampNeg) h143 (fun v146 h145 => (v144 = v146 → Wp k_Law_law 18 [some (.ref l0), some (.ref l1), some (.ref l2), some (.int (l3 + (4 : Int32)))] [] h145 (bc, bs) (QI K)) ∧ (¬ v144 = v146 → K (0 : Int32) h145)))) ∧ ((gI h l0 l3.toNatClampNeg) &&& (31 : Int32) = 14 → isL h l0 100 (l3 + (1 : Int32)) ∧ isL h l0 100 (l3 + (2 : Int32)) ∧ isL h l0 100 (l3 + (3 : Int32)) ∧ isO h l1 9 ∧ wq_K_found l1 (gI h l0 (l3 + (1 : Int32)).toNatClampNeg) (gI h l0 (l3 + (2 : Int32)).toNatClampNeg) (gI h l0 (l3 + (3 : Int32)).toNatClampNeg) h (fun v155 h154 => isL h154 l0 100 (l3 + (1 : Int32)) ∧ isL h154 l0 100 (l3 + (2 : Int32)) ∧ isL h154 l0 100 (l3 + (3 : Int32)) ∧ isO h154 l2 10 ∧ wq_M_found l2 (gI h154 l0 (l3 + (1 : Int32)).toNatClampNeg) (gI h154 l0 (l3 + (2 : Int32)).toNatClampNeg) (gI h154 l0 (l3 + (3 : Int32)).toNatClampNeg) h154 (fun v157 h156 => (v155 = v157 → Wp k_Law_law 18 [some (.ref l0), some (.ref l1), some (.ref l2), some (.int (l3 + (4 : Int32)))] [] h156 (bc, bs) (QI K)) ∧ (¬ v155 = v157 → K (0 : Int32) h156)))) ∧ ((gI h l0 l3.toNatClampNeg) &&& (31 : Int32) = 15 → isL h l0 100 (l3 + (1 : Int32)) ∧ isL h l0 100 (l3 + (2 : Int32)) ∧ isO h l1 9 ∧ wq_K_differ l1 (gI h l0 (l3 + (1 : Int32)).toNatClampNeg) (gI h l0 (l3 + (2 : Int32)).toNatClampNeg) h (fun v168 h167 => isL h167 l0 100 (l3 + (1 : Int32)) ∧ isL h167 l0 100 (l3 + (2 : Int32)) ∧ isO h167 l2 10 ∧ wq_M_differ l2 (gI h167 l0 (l3 + (1 : Int32)).toNatClampNeg) (gI h167 l0 (l3 + (2 : Int32)).toNatClampNeg) h167 (fun v170 h169 => (v168 = v170 → Wp k_Law_law 18 [some (.ref l0), some (.ref l1), some (.ref l2), some (.int (l3 + (4 : Int32)))] [] h169 (bc, bs) (QI K)) ∧ (¬ v168 = v170 → K (0 : Int32) h169)))) ∧ ((gI h l0 l3.toNatClampNeg) &&& (31 : Int32) = 16 → isL h l0 100 (l3 + (1 : Int32)) ∧ isL h l0 100 (l3 + (2 : Int32)) ∧ isO h l1 9 ∧ wq_K_step l1 (gI h l0 (l3 + (1 : Int32)).toNatClampNeg) (gI h l0 (l3 + (2 : Int32)).toNatClampNeg) h (fun v179 h178 => isL h178 l0 100 (l3 + (1 : Int32)) ∧ isL h178 l0 100 (l3 + (2 : Int32)) ∧ isO h178 l2 10 ∧ wq_M_step2 l2 (gI h178 l0 (l3 + (1 : Int32)).toNatClampNeg) (gI h178 l0 (l3 + (2 : Int32)).toNatClampNeg) h178 (fun v181 h180 => (v179 = v181 → Wp k_Law_law 18 [some (.ref l0), some (.ref l1), some (.ref l2), some (.int (l3 + (4 : Int32)))] [] h180 (bc, bs) (QI K)) ∧ (¬ v179 = v181 → K (0 : Int32) h180)))) ∧ ((gI h l0 l3.toNatClampNeg) &&& (31 : Int32) = 17 → isL h l0 100 (l3 + (1 : Int32)) ∧ isL h l0 100 (l3 + (2 : Int32)) ∧ isO h l1 9 ∧ (1 ≤ bc ∧ 640 ≤ bs) ∧ wq_K_patch l1 (gI h l0 (l3 + (1 : Int32)).toNatClampNeg) (gI h l0 (l3 + (2 : Int32)).toNatClampNeg) h (fun v190 h189 => isL h189 l0 100 (l3 + (1 : Int32)) ∧ isL h189 l0 100 (l3 + (2 : Int32)) ∧ isO h189 l2 10 ∧ wq_M_patch l2 (gI h189 l0 (l3 + (1 : Int32)).toNatClampNeg) (gI h189 l0 (l3 + (2 : Int32)).toNatClampNeg) h189 (fun v192 h191 => (v190 = v192 → Wp k_Law_law 18 [some (.ref l0), some (.ref l1), some (.ref l2), some (.int (l3 + (4 : Int32)))] [] h191 (bc - 1, bs - 640) (QI K)) ∧ (¬ v190 = v192 → K (0 : Int32) h191)))) ∧ ((gI h l0 l3.toNatClampNeg) &&& (31 : Int32) = 18 → isO h l1 9 ∧ wq_K_term l1 h (fun v202 h201 => isO h201 l2 10 ∧ wq_M_term l2 h201 (fun v204 h203 => (v202 = v204 → Wp k_Law_law 18 [some (.ref l0), some (.ref l1), some (.ref l2), some (.int (l3 + (4 : Int32)))] [] h203 (bc, bs) (QI K)) ∧ (¬ v202 = v204 → K (0 : Int32) h203)))) ∧ ((gI h l0 l3.toNatClampNeg) &&& (31 : Int32) = 19 → isO h l1 9 ∧ wq_K_forbid l1 h (fun v209 h208 => isO h208 l2 10 ∧ wq_M_forbid l2 h208 (fun v211 h210 => (v209 = v211 → Wp k_Law_law 18 [some (.ref l0), some (.ref l1), some (.ref l2), some (.int (l3 + (4 : Int32)))] [] h210 (bc, bs) (QI K)) ∧ (¬ v209 = v211 → K (0 : Int32) h210)))) ∧ ((gI h l0 l3.toNatClampNeg) &&& (31 : Int32) = 20 → isL h l0 100 (l3 + (1 : Int32)) ∧ isO h l1 9 ∧ wq_K_faults l1 (gI h l0 (l3 + (1 : Int32)).toNatClampNeg) h (fun v216 h215 => isL h215 l0 100 (l3 + (1 : Int32)) ∧ isO h215 l2 10 ∧ wq_M_faults l2 (gI h215 l0 (l3 + (1 : Int32)).toNatClampNeg) h215 (fun v218 h217 => (v216 = v218 → Wp k_Law_law 18 [some (.ref l0), some (.ref l1), some (.ref l2), some (.int (l3 + (4 : Int32)))] [] h217 (bc, bs) (QI K)) ∧ (¬ v216 = v218 → K (0 : Int32) h217)))) ∧ ((gI h l0 l3.toNatClampNeg) &&& (31 : Int32) = 21 → isL h l0 100 (l3 + (1 : Int32)) ∧ isO h l1 9 ∧ wq_K_counted l1 (gI h l0 (l3 + (1 : Int32)).toNatClampNeg) h (fun v225 h224 => isL h224 l0 100 (l3 + (1 : Int32)) ∧ isO h224 l2 10 ∧ wq_M_counted l2 (gI h224 l0 (l3 + (1 : Int32)).toNatClampNeg) h224 (fun v227 h226 => (v225 = v227 → Wp k_Law_law 18 [some (.ref l0), some (.ref l1), some (.ref l2), some (.int (l3 + (4 : Int32)))] [] h226 (bc, bs) (QI K)) ∧ (¬ v225 = v227 → K (0 : Int32) h226)))) ∧ ((gI h l0 l3.toNatClampNeg) &&& (31 : Int32) = 22 → isL h l0 100 (l3 + (1 : Int32)) ∧ isL h l0 100 (l3 + (2 : Int32)) ∧ isO h l1 9 ∧ wq_K_count l1 (gI h l0 (l3 + (1 : Int32)).toNatClampNeg) (gI h l0 (l3 + (2 : Int32)).toNatClampNeg) h (fun v234 h233 => isL h233 l0 100 (l3 + (1 : Int32)) ∧ isL h233 l0 100 (l3 + (2 : Int32)) ∧ isO h233 l2 10 ∧ wq_M_count l2 (gI h233 l0 (l3 + (1 : Int32)).toNatClampNeg) (gI h233 l0 (l3 + (2 : Int32)).toNatClampNeg) h233 (fun v236 h235 => (v234 = v236 → Wp k_Law_law 18 [some (.ref l0), some (.ref l1), some (.ref l2), some (.int (l3 + (4 : Int32)))] [] h235 (bc, bs) (QI K)) ∧ (¬ v234 = v236 → K (0 : Int32) h235)))) ∧ ((gI h l0 l3.toNatClampNeg) &&& (31 : Int32) = 23 → isL h l0 100 (l3 + (1 : Int32)) ∧ isO h l1 9 ∧ wq_K_spread l1 (gI h l0 (l3 + (1 : Int32)).toNatClampNeg) h (fun v245 h244 => isL h244 l0 100 (l3 + (1 : Int32)) ∧ isO h244 l2 10 ∧ wq_M_spread l2 (gI h244 l0 (l3 + (1 : Int32)).toNatClampNeg) h244 (fun v247 h246 => (v245 = v247 → Wp k_Law_law 18 [some (.ref l0), some (.ref l1), some (.ref l2), some (.int (l3 + (4 : Int32)))] [] h246 (bc, bs) (QI K)) ∧ (¬ v245 = v247 → K (0 : Int32) h246)))) ∧ ((gI h l0 l3.toNatClampNeg) &&& (31 : Int32) = 24 → isL h l0 100 (l3 + (1 : Int32)) ∧ isO h l1 9 ∧ wq_K_about l1 (gI h l0 (l3 + (1 : Int32)).toNatClampNeg) h (fun v254 h253 => isL h253 l0 100 (l3 + (1 : Int32)) ∧ isO h253 l2 10 ∧ wq_M_about l2 (gI h253 l0 (l3 + (1 : Int32)).toNatClampNeg) h253 (fun v256 h255 => (v254 = v256 → Wp k_Law_law 18 [some (.ref l0), some (.ref l1), some (.ref l2), some (.int (l3 + (4 : Int32)))] [] h255 (bc, bs) (QI K)) ∧ (¬ v254 = v256 → K (0 : Int32) h255)))))
set_option maxRecDepth 100000 in
set_option maxHeartbeats 4000000 in
theorem wb_Law_law_18_ok {l0 : Nat} {l1 : Nat} {l2 : Nat} {l3 : Int32} {h : HP} {bc bs : Nat} {K : Int32 → HP → Prop} (H : wb_Law_law_18 l0 l1 l2 l3 h bc bs K) : Wp k_Law_law 18 [some (.ref l0), some (.ref l1), some (.ref l2), some (.int l3)] [] h (bc, bs) (QI K) := by
  unfold wb_Law_law_18 at H
  refine wp_iload_n rfl rfl ?_
  refine wp_aload_n rfl rfl ?_
  obtain ⟨g265, H⟩ := H
  refine wp_alen rfl g265 ?_
  refine wp_iconst rfl ?_
  refine wp_isub rfl ?_
  refine wp_icmp_gt rfl (lo1 := [some (.ref l0), some (.ref l1), some (.ref l2), some (.int l3)]) (lo2 := [some (.ref l0), some (.ref l1), some (.ref l2), some (.int l3)]) rfl rfl (fun q264 => ?_) (fun q264 => ?_)
  · have H := H.1 q264
    refine wp_iconst rfl ?_
    exact wp_zret rfl rfl (by decide) H
  · have H := H.2 q264
    refine wp_aload_n rfl rfl ?_
    refine wp_iload_n rfl rfl ?_
    obtain ⟨g263, H⟩ := H
    refine wp_iald rfl g263 ?_
    refine wp_bipush rfl ?_
    refine wp_iand rfl ?_
    refine wp_table rfl (lo' := [some (.ref l0), some (.ref l1), some (.ref l2), some (.int l3)]) rfl (fun q262 => ?_) (fun i off ho hx => ?_)
    · have H := H.1 (sw_ne q262 (by decide)) (sw_ne q262 (by decide)) (sw_ne q262 (by decide)) (sw_ne q262 (by decide)) (sw_ne q262 (by decide)) (sw_ne q262 (by decide)) (sw_ne q262 (by decide)) (sw_ne q262 (by decide)) (sw_ne q262 (by decide)) (sw_ne q262 (by decide)) (sw_ne q262 (by decide)) (sw_ne q262 (by decide)) (sw_ne q262 (by decide)) (sw_ne q262 (by decide)) (sw_ne q262 (by decide)) (sw_ne q262 (by decide)) (sw_ne q262 (by decide)) (sw_ne q262 (by decide)) (sw_ne q262 (by decide)) (sw_ne q262 (by decide)) (sw_ne q262 (by decide)) (sw_ne q262 (by decide)) (sw_ne q262 (by decide)) (sw_ne q262 (by decide)) (sw_ne q262 (by decide))
      refine wp_iinc rfl rfl rfl (lo' := [some (.ref l0), some (.ref l1), some (.ref l2), some (.int (l3 + (4 : Int32)))]) rfl ?_
      refine wp_goto rfl (lo' := [some (.ref l0), some (.ref l1), some (.ref l2), some (.int (l3 + (4 : Int32)))]) rfl ?_
      exact H
    · match i, ho, hx with
      | 0, ho, hx =>
        cases ho
        have H := H.2.1 (sw_eq hx (by decide))
        show Wp k_Law_law 148 _ _ _ _ _
        refine wp_aload_n rfl rfl ?_
        refine wp_aload_n rfl rfl ?_
        refine wp_iload_n rfl rfl ?_
        refine wp_iconst rfl ?_
        refine wp_iadd rfl ?_
        obtain ⟨g19, H⟩ := H
        refine wp_iald rfl g19 ?_
        refine wp_i2l rfl ?_
        refine wp_bipush rfl ?_
        refine wp_lshl rfl ?_
        refine wp_aload_n rfl rfl ?_
        refine wp_iload_n rfl rfl ?_
        refine wp_iconst rfl ?_
        refine wp_iadd rfl ?_
        obtain ⟨g18, H⟩ := H
        refine wp_iald rfl g18 ?_
        refine wp_i2l rfl ?_
        refine wp_ldc2 rfl ?_
        refine wp_land rfl ?_
        refine wp_lor rfl ?_
        refine wp_aload_n rfl rfl ?_
        refine wp_iload_n rfl rfl ?_
        refine wp_iconst rfl ?_
        refine wp_iadd rfl ?_
        obtain ⟨g17, H⟩ := H
        refine wp_iald rfl g17 ?_
        obtain ⟨g16, H⟩ := H
        refine wp_callvI rfl rfl (Or.inl rfl) (lo' := [some (.ref l0), some (.ref l1), some (.ref l2), some (.int l3)]) rfl g16 ⟨Nat.le_of_ble_eq_true rfl, Nat.zero_le _, Nat.zero_le _, Nat.le_of_ble_eq_true rfl⟩ (bd' := (bc, bs)) rfl ?_
        refine (wq_K_feed_ok H).conI (fun v8 h7 H => ?_)
        refine wp_aload_n rfl rfl ?_
        refine wp_aload_n rfl rfl ?_
        refine wp_iload_n rfl rfl ?_
        refine wp_iconst rfl ?_
        refine wp_iadd rfl ?_
        obtain ⟨g15, H⟩ := H
        refine wp_iald rfl g15 ?_
        refine wp_i2l rfl ?_
        refine wp_bipush rfl ?_
        refine wp_lshl rfl ?_
        refine wp_aload_n rfl rfl ?_
        refine wp_iload_n rfl rfl ?_
        refine wp_iconst rfl ?_
        refine wp_iadd rfl ?_
        obtain ⟨g14, H⟩ := H
        refine wp_iald rfl g14 ?_
        refine wp_i2l rfl ?_
        refine wp_ldc2 rfl ?_
        refine wp_land rfl ?_
        refine wp_lor rfl ?_
        refine wp_aload_n rfl rfl ?_
        refine wp_iload_n rfl rfl ?_
        refine wp_iconst rfl ?_
        refine wp_iadd rfl ?_
        obtain ⟨g13, H⟩ := H
        refine wp_iald rfl g13 ?_
        obtain ⟨g12, H⟩ := H
        refine wp_callvI rfl rfl (Or.inl rfl) (lo' := [some (.ref l0), some (.ref l1), some (.ref l2), some (.int l3)]) rfl g12 ⟨Nat.le_of_ble_eq_true rfl, Nat.zero_le _, Nat.zero_le _, Nat.le_of_ble_eq_true rfl⟩ (bd' := (bc, bs)) rfl ?_
        refine (wq_M_feed_ok H).conI (fun v10 h9 H => ?_)
        refine wp_icmp_eq rfl (lo1 := [some (.ref l0), some (.ref l1), some (.ref l2), some (.int l3)]) (lo2 := [some (.ref l0), some (.ref l1), some (.ref l2), some (.int l3)]) rfl rfl (fun q11 => ?_) (fun q11 => ?_)
        · have H := H.1 q11
          refine wp_iinc rfl rfl rfl (lo' := [some (.ref l0), some (.ref l1), some (.ref l2), some (.int (l3 + (4 : Int32)))]) rfl ?_
          refine wp_goto rfl (lo' := [some (.ref l0), some (.ref l1), some (.ref l2), some (.int (l3 + (4 : Int32)))]) rfl ?_
          exact H
        · have H := H.2 q11
          refine wp_iconst rfl ?_
          exact wp_zret rfl rfl (by decide) H
      | 1, ho, hx =>
        cases ho
        have H := H.2.2.1 (sw_eq hx (by decide))
        show Wp k_Law_law 211 _ _ _ _ _
        refine wp_aload_n rfl rfl ?_
        refine wp_aload_n rfl rfl ?_
        refine wp_iload_n rfl rfl ?_
        refine wp_iconst rfl ?_
        refine wp_iadd rfl ?_
        obtain ⟨g28, H⟩ := H
        refine wp_iald rfl g28 ?_
        obtain ⟨g27, H⟩ := H
        refine wp_callvI rfl rfl (Or.inl rfl) (lo' := [some (.ref l0), some (.ref l1), some (.ref l2), some (.int l3)]) rfl g27 ⟨Nat.le_of_ble_eq_true rfl, Nat.zero_le _, Nat.zero_le _, Nat.le_of_ble_eq_true rfl⟩ (bd' := (bc, bs)) rfl ?_
        refine (wq_K_cut_ok H).conI (fun v21 h20 H => ?_)
        refine wp_aload_n rfl rfl ?_
        refine wp_aload_n rfl rfl ?_
        refine wp_iload_n rfl rfl ?_
        refine wp_iconst rfl ?_
        refine wp_iadd rfl ?_
        obtain ⟨g26, H⟩ := H
        refine wp_iald rfl g26 ?_
        obtain ⟨g25, H⟩ := H
        refine wp_callvI rfl rfl (Or.inl rfl) (lo' := [some (.ref l0), some (.ref l1), some (.ref l2), some (.int l3)]) rfl g25 ⟨Nat.le_of_ble_eq_true rfl, Nat.zero_le _, Nat.zero_le _, Nat.le_of_ble_eq_true rfl⟩ (bd' := (bc, bs)) rfl ?_
        refine (wq_M_cut_ok H).conI (fun v23 h22 H => ?_)
        refine wp_icmp_eq rfl (lo1 := [some (.ref l0), some (.ref l1), some (.ref l2), some (.int l3)]) (lo2 := [some (.ref l0), some (.ref l1), some (.ref l2), some (.int l3)]) rfl rfl (fun q24 => ?_) (fun q24 => ?_)
        · have H := H.1 q24
          refine wp_iinc rfl rfl rfl (lo' := [some (.ref l0), some (.ref l1), some (.ref l2), some (.int (l3 + (4 : Int32)))]) rfl ?_
          refine wp_goto rfl (lo' := [some (.ref l0), some (.ref l1), some (.ref l2), some (.int (l3 + (4 : Int32)))]) rfl ?_
          exact H
        · have H := H.2 q24
          refine wp_iconst rfl ?_
          exact wp_zret rfl rfl (by decide) H
      | 2, ho, hx =>
        cases ho
        have H := H.2.2.2.1 (sw_eq hx (by decide))
        show Wp k_Law_law 234 _ _ _ _ _
        refine wp_aload_n rfl rfl ?_
        refine wp_aload_n rfl rfl ?_
        refine wp_iload_n rfl rfl ?_
        refine wp_iconst rfl ?_
        refine wp_iadd rfl ?_
        obtain ⟨g37, H⟩ := H
        refine wp_iald rfl g37 ?_
        obtain ⟨g36, H⟩ := H
        refine wp_callvI rfl rfl (Or.inl rfl) (lo' := [some (.ref l0), some (.ref l1), some (.ref l2), some (.int l3)]) rfl g36 ⟨Nat.le_of_ble_eq_true rfl, Nat.zero_le _, Nat.zero_le _, Nat.le_of_ble_eq_true rfl⟩ (bd' := (bc, bs)) rfl ?_
        refine (wq_K_tape_ok H).conI (fun v30 h29 H => ?_)
        refine wp_aload_n rfl rfl ?_
        refine wp_aload_n rfl rfl ?_
        refine wp_iload_n rfl rfl ?_
        refine wp_iconst rfl ?_
        refine wp_iadd rfl ?_
        obtain ⟨g35, H⟩ := H
        refine wp_iald rfl g35 ?_
        obtain ⟨g34, H⟩ := H
        refine wp_callvI rfl rfl (Or.inl rfl) (lo' := [some (.ref l0), some (.ref l1), some (.ref l2), some (.int l3)]) rfl g34 ⟨Nat.le_of_ble_eq_true rfl, Nat.zero_le _, Nat.zero_le _, Nat.le_of_ble_eq_true rfl⟩ (bd' := (bc, bs)) rfl ?_
        refine (wq_M_tape_ok H).conI (fun v32 h31 H => ?_)
        refine wp_icmp_eq rfl (lo1 := [some (.ref l0), some (.ref l1), some (.ref l2), some (.int l3)]) (lo2 := [some (.ref l0), some (.ref l1), some (.ref l2), some (.int l3)]) rfl rfl (fun q33 => ?_) (fun q33 => ?_)
        · have H := H.1 q33
          refine wp_iinc rfl rfl rfl (lo' := [some (.ref l0), some (.ref l1), some (.ref l2), some (.int (l3 + (4 : Int32)))]) rfl ?_
          refine wp_goto rfl (lo' := [some (.ref l0), some (.ref l1), some (.ref l2), some (.int (l3 + (4 : Int32)))]) rfl ?_
          exact H
        · have H := H.2 q33
          refine wp_iconst rfl ?_
          exact wp_zret rfl rfl (by decide) H
      | 3, ho, hx =>
        cases ho
        have H := H.2.2.2.2.1 (sw_eq hx (by decide))
        show Wp k_Law_law 257 _ _ _ _ _
        refine wp_aload_n rfl rfl ?_
        obtain ⟨g44, H⟩ := H
        refine wp_callvI rfl rfl (Or.inl rfl) (lo' := [some (.ref l0), some (.ref l1), some (.ref l2), some (.int l3)]) rfl g44 ⟨Nat.le_of_ble_eq_true rfl, Nat.zero_le _, Nat.zero_le _, Nat.le_of_ble_eq_true rfl⟩ (bd' := (bc, bs)) rfl ?_
        refine (wq_K_except_ok H).conI (fun v39 h38 H => ?_)
        refine wp_aload_n rfl rfl ?_
        obtain ⟨g43, H⟩ := H
        refine wp_callvI rfl rfl (Or.inl rfl) (lo' := [some (.ref l0), some (.ref l1), some (.ref l2), some (.int l3)]) rfl g43 ⟨Nat.le_of_ble_eq_true rfl, Nat.zero_le _, Nat.zero_le _, Nat.le_of_ble_eq_true rfl⟩ (bd' := (bc, bs)) rfl ?_
        refine (wq_M_except_ok H).conI (fun v41 h40 H => ?_)
        refine wp_icmp_eq rfl (lo1 := [some (.ref l0), some (.ref l1), some (.ref l2), some (.int l3)]) (lo2 := [some (.ref l0), some (.ref l1), some (.ref l2), some (.int l3)]) rfl rfl (fun q42 => ?_) (fun q42 => ?_)
        · have H := H.1 q42
          refine wp_iinc rfl rfl rfl (lo' := [some (.ref l0), some (.ref l1), some (.ref l2), some (.int (l3 + (4 : Int32)))]) rfl ?_
          refine wp_goto rfl (lo' := [some (.ref l0), some (.ref l1), some (.ref l2), some (.int (l3 + (4 : Int32)))]) rfl ?_
          exact H
        · have H := H.2 q42
          refine wp_iconst rfl ?_
          exact wp_zret rfl rfl (by decide) H
      | 4, ho, hx =>
        cases ho
        have H := H.2.2.2.2.2.1 (sw_eq hx (by decide))
        show Wp k_Law_law 270 _ _ _ _ _
        refine wp_aload_n rfl rfl ?_
        obtain ⟨g51, g52, H⟩ := H
        refine wp_callvI rfl rfl (Or.inl rfl) (lo' := [some (.ref l0), some (.ref l1), some (.ref l2), some (.int l3)]) rfl g51 ⟨Nat.le_of_ble_eq_true rfl, g52.1, g52.2, Nat.le_of_ble_eq_true rfl⟩ (bd' := (bc - 1, bs - 640)) rfl ?_
        refine (wq_K_load_ok H).conI (fun v46 h45 H => ?_)
        refine wp_aload_n rfl rfl ?_
        obtain ⟨g50, H⟩ := H
        refine wp_callvI rfl rfl (Or.inl rfl) (lo' := [some (.ref l0), some (.ref l1), some (.ref l2), some (.int l3)]) rfl g50 ⟨Nat.le_of_ble_eq_true rfl, Nat.zero_le _, Nat.zero_le _, Nat.le_of_ble_eq_true rfl⟩ (bd' := (bc - 1, bs - 640)) rfl ?_
        refine (wq_M_load_ok H).conI (fun v48 h47 H => ?_)
        refine wp_icmp_eq rfl (lo1 := [some (.ref l0), some (.ref l1), some (.ref l2), some (.int l3)]) (lo2 := [some (.ref l0), some (.ref l1), some (.ref l2), some (.int l3)]) rfl rfl (fun q49 => ?_) (fun q49 => ?_)
        · have H := H.1 q49
          refine wp_iinc rfl rfl rfl (lo' := [some (.ref l0), some (.ref l1), some (.ref l2), some (.int (l3 + (4 : Int32)))]) rfl ?_
          refine wp_goto rfl (lo' := [some (.ref l0), some (.ref l1), some (.ref l2), some (.int (l3 + (4 : Int32)))]) rfl ?_
          exact H
        · have H := H.2 q49
          refine wp_iconst rfl ?_
          exact wp_zret rfl rfl (by decide) H
      | 5, ho, hx =>
        cases ho
        have H := H.2.2.2.2.2.2.1 (sw_eq hx (by decide))
        show Wp k_Law_law 283 _ _ _ _ _
        refine wp_aload_n rfl rfl ?_
        refine wp_aload_n rfl rfl ?_
        refine wp_iload_n rfl rfl ?_
        refine wp_iconst rfl ?_
        refine wp_iadd rfl ?_
        obtain ⟨g63, H⟩ := H
        refine wp_iald rfl g63 ?_
        refine wp_aload_n rfl rfl ?_
        refine wp_iload_n rfl rfl ?_
        refine wp_iconst rfl ?_
        refine wp_iadd rfl ?_
        obtain ⟨g62, H⟩ := H
        refine wp_iald rfl g62 ?_
        obtain ⟨g61, H⟩ := H
        refine wp_callvI rfl rfl (Or.inl rfl) (lo' := [some (.ref l0), some (.ref l1), some (.ref l2), some (.int l3)]) rfl g61 ⟨Nat.le_of_ble_eq_true rfl, Nat.zero_le _, Nat.zero_le _, Nat.le_of_ble_eq_true rfl⟩ (bd' := (bc, bs)) rfl ?_
        refine (wq_K_segment_ok H).conI (fun v54 h53 H => ?_)
        refine wp_aload_n rfl rfl ?_
        refine wp_aload_n rfl rfl ?_
        refine wp_iload_n rfl rfl ?_
        refine wp_iconst rfl ?_
        refine wp_iadd rfl ?_
        obtain ⟨g60, H⟩ := H
        refine wp_iald rfl g60 ?_
        refine wp_aload_n rfl rfl ?_
        refine wp_iload_n rfl rfl ?_
        refine wp_iconst rfl ?_
        refine wp_iadd rfl ?_
        obtain ⟨g59, H⟩ := H
        refine wp_iald rfl g59 ?_
        obtain ⟨g58, H⟩ := H
        refine wp_callvI rfl rfl (Or.inl rfl) (lo' := [some (.ref l0), some (.ref l1), some (.ref l2), some (.int l3)]) rfl g58 ⟨Nat.le_of_ble_eq_true rfl, Nat.zero_le _, Nat.zero_le _, Nat.le_of_ble_eq_true rfl⟩ (bd' := (bc, bs)) rfl ?_
        refine (wq_M_segment_ok H).conI (fun v56 h55 H => ?_)
        refine wp_icmp_eq rfl (lo1 := [some (.ref l0), some (.ref l1), some (.ref l2), some (.int l3)]) (lo2 := [some (.ref l0), some (.ref l1), some (.ref l2), some (.int l3)]) rfl rfl (fun q57 => ?_) (fun q57 => ?_)
        · have H := H.1 q57
          refine wp_iinc rfl rfl rfl (lo' := [some (.ref l0), some (.ref l1), some (.ref l2), some (.int (l3 + (4 : Int32)))]) rfl ?_
          refine wp_goto rfl (lo' := [some (.ref l0), some (.ref l1), some (.ref l2), some (.int (l3 + (4 : Int32)))]) rfl ?_
          exact H
        · have H := H.2 q57
          refine wp_iconst rfl ?_
          exact wp_zret rfl rfl (by decide) H
      | 6, ho, hx =>
        cases ho
        have H := H.2.2.2.2.2.2.2.1 (sw_eq hx (by decide))
        show Wp k_Law_law 316 _ _ _ _ _
        refine wp_aload_n rfl rfl ?_
        refine wp_aload_n rfl rfl ?_
        refine wp_iload_n rfl rfl ?_
        refine wp_iconst rfl ?_
        refine wp_iadd rfl ?_
        obtain ⟨g76, H⟩ := H
        refine wp_iald rfl g76 ?_
        refine wp_aload_n rfl rfl ?_
        refine wp_iload_n rfl rfl ?_
        refine wp_iconst rfl ?_
        refine wp_iadd rfl ?_
        obtain ⟨g75, H⟩ := H
        refine wp_iald rfl g75 ?_
        refine wp_aload_n rfl rfl ?_
        refine wp_iload_n rfl rfl ?_
        refine wp_iconst rfl ?_
        refine wp_iadd rfl ?_
        obtain ⟨g74, H⟩ := H
        refine wp_iald rfl g74 ?_
        obtain ⟨g73, H⟩ := H
        refine wp_callvI rfl rfl (Or.inl rfl) (lo' := [some (.ref l0), some (.ref l1), some (.ref l2), some (.int l3)]) rfl g73 ⟨Nat.le_of_ble_eq_true rfl, Nat.zero_le _, Nat.zero_le _, Nat.le_of_ble_eq_true rfl⟩ (bd' := (bc, bs)) rfl ?_
        refine (wq_K_piece_ok H).conI (fun v65 h64 H => ?_)
        refine wp_aload_n rfl rfl ?_
        refine wp_aload_n rfl rfl ?_
        refine wp_iload_n rfl rfl ?_
        refine wp_iconst rfl ?_
        refine wp_iadd rfl ?_
        obtain ⟨g72, H⟩ := H
        refine wp_iald rfl g72 ?_
        refine wp_aload_n rfl rfl ?_
        refine wp_iload_n rfl rfl ?_
        refine wp_iconst rfl ?_
        refine wp_iadd rfl ?_
        obtain ⟨g71, H⟩ := H
        refine wp_iald rfl g71 ?_
        refine wp_aload_n rfl rfl ?_
        refine wp_iload_n rfl rfl ?_
        refine wp_iconst rfl ?_
        refine wp_iadd rfl ?_
        obtain ⟨g70, H⟩ := H
        refine wp_iald rfl g70 ?_
        obtain ⟨g69, H⟩ := H
        refine wp_callvI rfl rfl (Or.inl rfl) (lo' := [some (.ref l0), some (.ref l1), some (.ref l2), some (.int l3)]) rfl g69 ⟨Nat.le_of_ble_eq_true rfl, Nat.zero_le _, Nat.zero_le _, Nat.le_of_ble_eq_true rfl⟩ (bd' := (bc, bs)) rfl ?_
        refine (wq_M_piece_ok H).conI (fun v67 h66 H => ?_)
        refine wp_icmp_eq rfl (lo1 := [some (.ref l0), some (.ref l1), some (.ref l2), some (.int l3)]) (lo2 := [some (.ref l0), some (.ref l1), some (.ref l2), some (.int l3)]) rfl rfl (fun q68 => ?_) (fun q68 => ?_)
        · have H := H.1 q68
          refine wp_iinc rfl rfl rfl (lo' := [some (.ref l0), some (.ref l1), some (.ref l2), some (.int (l3 + (4 : Int32)))]) rfl ?_
          refine wp_goto rfl (lo' := [some (.ref l0), some (.ref l1), some (.ref l2), some (.int (l3 + (4 : Int32)))]) rfl ?_
          exact H
        · have H := H.2 q68
          refine wp_iconst rfl ?_
          exact wp_zret rfl rfl (by decide) H
      | 7, ho, hx =>
        cases ho
        have H := H.2.2.2.2.2.2.2.2.1 (sw_eq hx (by decide))
        show Wp k_Law_law 359 _ _ _ _ _
        refine wp_aload_n rfl rfl ?_
        refine wp_aload_n rfl rfl ?_
        refine wp_iload_n rfl rfl ?_
        refine wp_iconst rfl ?_
        refine wp_iadd rfl ?_
        obtain ⟨g88, H⟩ := H
        refine wp_iald rfl g88 ?_
        refine wp_aload_n rfl rfl ?_
        refine wp_iload_n rfl rfl ?_
        refine wp_iconst rfl ?_
        refine wp_iadd rfl ?_
        obtain ⟨g87, H⟩ := H
        refine wp_iald rfl g87 ?_
        obtain ⟨g85, g86, H⟩ := H
        refine wp_callvI rfl rfl (Or.inl rfl) (lo' := [some (.ref l0), some (.ref l1), some (.ref l2), some (.int l3)]) rfl g85 ⟨Nat.le_of_ble_eq_true rfl, g86.1, g86.2, Nat.le_of_ble_eq_true rfl⟩ (bd' := (bc - 2, bs - 1280)) rfl ?_
        refine (wq_K_keep_ok H).conI (fun v78 h77 H => ?_)
        refine wp_aload_n rfl rfl ?_
        refine wp_aload_n rfl rfl ?_
        refine wp_iload_n rfl rfl ?_
        refine wp_iconst rfl ?_
        refine wp_iadd rfl ?_
        obtain ⟨g84, H⟩ := H
        refine wp_iald rfl g84 ?_
        refine wp_aload_n rfl rfl ?_
        refine wp_iload_n rfl rfl ?_
        refine wp_iconst rfl ?_
        refine wp_iadd rfl ?_
        obtain ⟨g83, H⟩ := H
        refine wp_iald rfl g83 ?_
        obtain ⟨g82, H⟩ := H
        refine wp_callvI rfl rfl (Or.inl rfl) (lo' := [some (.ref l0), some (.ref l1), some (.ref l2), some (.int l3)]) rfl g82 ⟨Nat.le_of_ble_eq_true rfl, Nat.zero_le _, Nat.zero_le _, Nat.le_of_ble_eq_true rfl⟩ (bd' := (bc - 2, bs - 1280)) rfl ?_
        refine (wq_M_keep_ok H).conI (fun v80 h79 H => ?_)
        refine wp_icmp_eq rfl (lo1 := [some (.ref l0), some (.ref l1), some (.ref l2), some (.int l3)]) (lo2 := [some (.ref l0), some (.ref l1), some (.ref l2), some (.int l3)]) rfl rfl (fun q81 => ?_) (fun q81 => ?_)
        · have H := H.1 q81
          refine wp_iinc rfl rfl rfl (lo' := [some (.ref l0), some (.ref l1), some (.ref l2), some (.int (l3 + (4 : Int32)))]) rfl ?_
          refine wp_goto rfl (lo' := [some (.ref l0), some (.ref l1), some (.ref l2), some (.int (l3 + (4 : Int32)))]) rfl ?_
          exact H
        · have H := H.2 q81
          refine wp_iconst rfl ?_
          exact wp_zret rfl rfl (by decide) H
      | 8, ho, hx =>
        cases ho
        have H := H.2.2.2.2.2.2.2.2.2.1 (sw_eq hx (by decide))
        show Wp k_Law_law 392 _ _ _ _ _
        refine wp_aload_n rfl rfl ?_
        refine wp_aload_n rfl rfl ?_
        refine wp_iload_n rfl rfl ?_
        refine wp_iconst rfl ?_
        refine wp_iadd rfl ?_
        obtain ⟨g100, H⟩ := H
        refine wp_iald rfl g100 ?_
        refine wp_aload_n rfl rfl ?_
        refine wp_iload_n rfl rfl ?_
        refine wp_iconst rfl ?_
        refine wp_iadd rfl ?_
        obtain ⟨g99, H⟩ := H
        refine wp_iald rfl g99 ?_
        obtain ⟨g97, g98, H⟩ := H
        refine wp_callvI rfl rfl (Or.inl rfl) (lo' := [some (.ref l0), some (.ref l1), some (.ref l2), some (.int l3)]) rfl g97 ⟨Nat.le_of_ble_eq_true rfl, g98.1, g98.2, Nat.le_of_ble_eq_true rfl⟩ (bd' := (bc - 1, bs - 640)) rfl ?_
        refine (wq_K_change_ok H).conI (fun v90 h89 H => ?_)
        refine wp_aload_n rfl rfl ?_
        refine wp_aload_n rfl rfl ?_
        refine wp_iload_n rfl rfl ?_
        refine wp_iconst rfl ?_
        refine wp_iadd rfl ?_
        obtain ⟨g96, H⟩ := H
        refine wp_iald rfl g96 ?_
        refine wp_aload_n rfl rfl ?_
        refine wp_iload_n rfl rfl ?_
        refine wp_iconst rfl ?_
        refine wp_iadd rfl ?_
        obtain ⟨g95, H⟩ := H
        refine wp_iald rfl g95 ?_
        obtain ⟨g94, H⟩ := H
        refine wp_callvI rfl rfl (Or.inl rfl) (lo' := [some (.ref l0), some (.ref l1), some (.ref l2), some (.int l3)]) rfl g94 ⟨Nat.le_of_ble_eq_true rfl, Nat.zero_le _, Nat.zero_le _, Nat.le_of_ble_eq_true rfl⟩ (bd' := (bc - 1, bs - 640)) rfl ?_
        refine (wq_M_change_ok H).conI (fun v92 h91 H => ?_)
        refine wp_icmp_eq rfl (lo1 := [some (.ref l0), some (.ref l1), some (.ref l2), some (.int l3)]) (lo2 := [some (.ref l0), some (.ref l1), some (.ref l2), some (.int l3)]) rfl rfl (fun q93 => ?_) (fun q93 => ?_)
        · have H := H.1 q93
          refine wp_iinc rfl rfl rfl (lo' := [some (.ref l0), some (.ref l1), some (.ref l2), some (.int (l3 + (4 : Int32)))]) rfl ?_
          refine wp_goto rfl (lo' := [some (.ref l0), some (.ref l1), some (.ref l2), some (.int (l3 + (4 : Int32)))]) rfl ?_
          exact H
        · have H := H.2 q93
          refine wp_iconst rfl ?_
          exact wp_zret rfl rfl (by decide) H
      | 9, ho, hx =>
        cases ho
        have H := H.2.2.2.2.2.2.2.2.2.2.1 (sw_eq hx (by decide))
        show Wp k_Law_law 425 _ _ _ _ _
        refine wp_aload_n rfl rfl ?_
        obtain ⟨g107, H⟩ := H
        refine wp_callvI rfl rfl (Or.inl rfl) (lo' := [some (.ref l0), some (.ref l1), some (.ref l2), some (.int l3)]) rfl g107 ⟨Nat.le_of_ble_eq_true rfl, Nat.zero_le _, Nat.zero_le _, Nat.le_of_ble_eq_true rfl⟩ (bd' := (bc, bs)) rfl ?_
        refine (wq_K_undo_ok H).conI (fun v102 h101 H => ?_)
        refine wp_aload_n rfl rfl ?_
        obtain ⟨g106, H⟩ := H
        refine wp_callvI rfl rfl (Or.inl rfl) (lo' := [some (.ref l0), some (.ref l1), some (.ref l2), some (.int l3)]) rfl g106 ⟨Nat.le_of_ble_eq_true rfl, Nat.zero_le _, Nat.zero_le _, Nat.le_of_ble_eq_true rfl⟩ (bd' := (bc, bs)) rfl ?_
        refine (wq_M_undo_ok H).conI (fun v104 h103 H => ?_)
        refine wp_icmp_eq rfl (lo1 := [some (.ref l0), some (.ref l1), some (.ref l2), some (.int l3)]) (lo2 := [some (.ref l0), some (.ref l1), some (.ref l2), some (.int l3)]) rfl rfl (fun q105 => ?_) (fun q105 => ?_)
        · have H := H.1 q105
          refine wp_iinc rfl rfl rfl (lo' := [some (.ref l0), some (.ref l1), some (.ref l2), some (.int (l3 + (4 : Int32)))]) rfl ?_
          refine wp_goto rfl (lo' := [some (.ref l0), some (.ref l1), some (.ref l2), some (.int (l3 + (4 : Int32)))]) rfl ?_
          exact H
        · have H := H.2 q105
          refine wp_iconst rfl ?_
          exact wp_zret rfl rfl (by decide) H
      | 10, ho, hx =>
        cases ho
        have H := H.2.2.2.2.2.2.2.2.2.2.2.1 (sw_eq hx (by decide))
        show Wp k_Law_law 438 _ _ _ _ _
        refine wp_aload_n rfl rfl ?_
        refine wp_aload_n rfl rfl ?_
        refine wp_iload_n rfl rfl ?_
        refine wp_iconst rfl ?_
        refine wp_iadd rfl ?_
        obtain ⟨g118, H⟩ := H
        refine wp_iald rfl g118 ?_
        refine wp_aload_n rfl rfl ?_
        refine wp_iload_n rfl rfl ?_
        refine wp_iconst rfl ?_
        refine wp_iadd rfl ?_
        obtain ⟨g117, H⟩ := H
        refine wp_iald rfl g117 ?_
        obtain ⟨g116, H⟩ := H
        refine wp_callvI rfl rfl (Or.inl rfl) (lo' := [some (.ref l0), some (.ref l1), some (.ref l2), some (.int l3)]) rfl g116 ⟨Nat.le_of_ble_eq_true rfl, Nat.zero_le _, Nat.zero_le _, Nat.le_of_ble_eq_true rfl⟩ (bd' := (bc, bs)) rfl ?_
        refine (wq_K_pair_ok H).conI (fun v109 h108 H => ?_)
        refine wp_aload_n rfl rfl ?_
        refine wp_aload_n rfl rfl ?_
        refine wp_iload_n rfl rfl ?_
        refine wp_iconst rfl ?_
        refine wp_iadd rfl ?_
        obtain ⟨g115, H⟩ := H
        refine wp_iald rfl g115 ?_
        refine wp_aload_n rfl rfl ?_
        refine wp_iload_n rfl rfl ?_
        refine wp_iconst rfl ?_
        refine wp_iadd rfl ?_
        obtain ⟨g114, H⟩ := H
        refine wp_iald rfl g114 ?_
        obtain ⟨g113, H⟩ := H
        refine wp_callvI rfl rfl (Or.inl rfl) (lo' := [some (.ref l0), some (.ref l1), some (.ref l2), some (.int l3)]) rfl g113 ⟨Nat.le_of_ble_eq_true rfl, Nat.zero_le _, Nat.zero_le _, Nat.le_of_ble_eq_true rfl⟩ (bd' := (bc, bs)) rfl ?_
        refine (wq_M_pair_ok H).conI (fun v111 h110 H => ?_)
        refine wp_icmp_eq rfl (lo1 := [some (.ref l0), some (.ref l1), some (.ref l2), some (.int l3)]) (lo2 := [some (.ref l0), some (.ref l1), some (.ref l2), some (.int l3)]) rfl rfl (fun q112 => ?_) (fun q112 => ?_)
        · have H := H.1 q112
          refine wp_iinc rfl rfl rfl (lo' := [some (.ref l0), some (.ref l1), some (.ref l2), some (.int (l3 + (4 : Int32)))]) rfl ?_
          refine wp_goto rfl (lo' := [some (.ref l0), some (.ref l1), some (.ref l2), some (.int (l3 + (4 : Int32)))]) rfl ?_
          exact H
        · have H := H.2 q112
          refine wp_iconst rfl ?_
          exact wp_zret rfl rfl (by decide) H
      | 11, ho, hx =>
        cases ho
        have H := H.2.2.2.2.2.2.2.2.2.2.2.2.1 (sw_eq hx (by decide))
        show Wp k_Law_law 471 _ _ _ _ _
        refine wp_aload_n rfl rfl ?_
        refine wp_aload_n rfl rfl ?_
        refine wp_iload_n rfl rfl ?_
        refine wp_iconst rfl ?_
        refine wp_iadd rfl ?_
        obtain ⟨g131, H⟩ := H
        refine wp_iald rfl g131 ?_
        refine wp_aload_n rfl rfl ?_
        refine wp_iload_n rfl rfl ?_
        refine wp_iconst rfl ?_
        refine wp_iadd rfl ?_
        obtain ⟨g130, H⟩ := H
        refine wp_iald rfl g130 ?_
        refine wp_aload_n rfl rfl ?_
        refine wp_iload_n rfl rfl ?_
        refine wp_iconst rfl ?_
        refine wp_iadd rfl ?_
        obtain ⟨g129, H⟩ := H
        refine wp_iald rfl g129 ?_
        obtain ⟨g128, H⟩ := H
        refine wp_callvI rfl rfl (Or.inl rfl) (lo' := [some (.ref l0), some (.ref l1), some (.ref l2), some (.int l3)]) rfl g128 ⟨Nat.le_of_ble_eq_true rfl, Nat.zero_le _, Nat.zero_le _, Nat.le_of_ble_eq_true rfl⟩ (bd' := (bc, bs)) rfl ?_
        refine (wq_K_rendered_ok H).conI (fun v120 h119 H => ?_)
        refine wp_aload_n rfl rfl ?_
        refine wp_aload_n rfl rfl ?_
        refine wp_iload_n rfl rfl ?_
        refine wp_iconst rfl ?_
        refine wp_iadd rfl ?_
        obtain ⟨g127, H⟩ := H
        refine wp_iald rfl g127 ?_
        refine wp_aload_n rfl rfl ?_
        refine wp_iload_n rfl rfl ?_
        refine wp_iconst rfl ?_
        refine wp_iadd rfl ?_
        obtain ⟨g126, H⟩ := H
        refine wp_iald rfl g126 ?_
        refine wp_aload_n rfl rfl ?_
        refine wp_iload_n rfl rfl ?_
        refine wp_iconst rfl ?_
        refine wp_iadd rfl ?_
        obtain ⟨g125, H⟩ := H
        refine wp_iald rfl g125 ?_
        obtain ⟨g124, H⟩ := H
        refine wp_callvI rfl rfl (Or.inl rfl) (lo' := [some (.ref l0), some (.ref l1), some (.ref l2), some (.int l3)]) rfl g124 ⟨Nat.le_of_ble_eq_true rfl, Nat.zero_le _, Nat.zero_le _, Nat.le_of_ble_eq_true rfl⟩ (bd' := (bc, bs)) rfl ?_
        refine (wq_M_rendered_ok H).conI (fun v122 h121 H => ?_)
        refine wp_icmp_eq rfl (lo1 := [some (.ref l0), some (.ref l1), some (.ref l2), some (.int l3)]) (lo2 := [some (.ref l0), some (.ref l1), some (.ref l2), some (.int l3)]) rfl rfl (fun q123 => ?_) (fun q123 => ?_)
        · have H := H.1 q123
          refine wp_iinc rfl rfl rfl (lo' := [some (.ref l0), some (.ref l1), some (.ref l2), some (.int (l3 + (4 : Int32)))]) rfl ?_
          refine wp_goto rfl (lo' := [some (.ref l0), some (.ref l1), some (.ref l2), some (.int (l3 + (4 : Int32)))]) rfl ?_
          exact H
        · have H := H.2 q123
          refine wp_iconst rfl ?_
          exact wp_zret rfl rfl (by decide) H
      | 12, ho, hx =>
        cases ho
        have H := H.2.2.2.2.2.2.2.2.2.2.2.2.2.1 (sw_eq hx (by decide))
        show Wp k_Law_law 514 _ _ _ _ _
        refine wp_aload_n rfl rfl ?_
        refine wp_aload_n rfl rfl ?_
        refine wp_iload_n rfl rfl ?_
        refine wp_iconst rfl ?_
        refine wp_iadd rfl ?_
        obtain ⟨g142, H⟩ := H
        refine wp_iald rfl g142 ?_
        refine wp_aload_n rfl rfl ?_
        refine wp_iload_n rfl rfl ?_
        refine wp_iconst rfl ?_
        refine wp_iadd rfl ?_
        obtain ⟨g141, H⟩ := H
        refine wp_iald rfl g141 ?_
        obtain ⟨g140, H⟩ := H
        refine wp_callvI rfl rfl (Or.inl rfl) (lo' := [some (.ref l0), some (.ref l1), some (.ref l2), some (.int l3)]) rfl g140 ⟨Nat.le_of_ble_eq_true rfl, Nat.zero_le _, Nat.zero_le _, Nat.le_of_ble_eq_true rfl⟩ (bd' := (bc, bs)) rfl ?_
        refine (wq_K_like_ok H).conI (fun v133 h132 H => ?_)
        refine wp_aload_n rfl rfl ?_
        refine wp_aload_n rfl rfl ?_
        refine wp_iload_n rfl rfl ?_
        refine wp_iconst rfl ?_
        refine wp_iadd rfl ?_
        obtain ⟨g139, H⟩ := H
        refine wp_iald rfl g139 ?_
        refine wp_aload_n rfl rfl ?_
        refine wp_iload_n rfl rfl ?_
        refine wp_iconst rfl ?_
        refine wp_iadd rfl ?_
        obtain ⟨g138, H⟩ := H
        refine wp_iald rfl g138 ?_
        obtain ⟨g137, H⟩ := H
        refine wp_callvI rfl rfl (Or.inl rfl) (lo' := [some (.ref l0), some (.ref l1), some (.ref l2), some (.int l3)]) rfl g137 ⟨Nat.le_of_ble_eq_true rfl, Nat.zero_le _, Nat.zero_le _, Nat.le_of_ble_eq_true rfl⟩ (bd' := (bc, bs)) rfl ?_
        refine (wq_M_like2_ok H).conI (fun v135 h134 H => ?_)
        refine wp_icmp_eq rfl (lo1 := [some (.ref l0), some (.ref l1), some (.ref l2), some (.int l3)]) (lo2 := [some (.ref l0), some (.ref l1), some (.ref l2), some (.int l3)]) rfl rfl (fun q136 => ?_) (fun q136 => ?_)
        · have H := H.1 q136
          refine wp_iinc rfl rfl rfl (lo' := [some (.ref l0), some (.ref l1), some (.ref l2), some (.int (l3 + (4 : Int32)))]) rfl ?_
          refine wp_goto rfl (lo' := [some (.ref l0), some (.ref l1), some (.ref l2), some (.int (l3 + (4 : Int32)))]) rfl ?_
          exact H
        · have H := H.2 q136
          refine wp_iconst rfl ?_
          exact wp_zret rfl rfl (by decide) H
      | 13, ho, hx =>
        cases ho
        have H := H.2.2.2.2.2.2.2.2.2.2.2.2.2.2.1 (sw_eq hx (by decide))
        show Wp k_Law_law 547 _ _ _ _ _
        refine wp_aload_n rfl rfl ?_
        refine wp_aload_n rfl rfl ?_
        refine wp_iload_n rfl rfl ?_
        refine wp_iconst rfl ?_
        refine wp_iadd rfl ?_
        obtain ⟨g153, H⟩ := H
        refine wp_iald rfl g153 ?_
        refine wp_aload_n rfl rfl ?_
        refine wp_iload_n rfl rfl ?_
        refine wp_iconst rfl ?_
        refine wp_iadd rfl ?_
        obtain ⟨g152, H⟩ := H
        refine wp_iald rfl g152 ?_
        obtain ⟨g151, H⟩ := H
        refine wp_callvI rfl rfl (Or.inl rfl) (lo' := [some (.ref l0), some (.ref l1), some (.ref l2), some (.int l3)]) rfl g151 ⟨Nat.le_of_ble_eq_true rfl, Nat.zero_le _, Nat.zero_le _, Nat.le_of_ble_eq_true rfl⟩ (bd' := (bc, bs)) rfl ?_
        refine (wq_K_score_ok H).conI (fun v144 h143 H => ?_)
        refine wp_aload_n rfl rfl ?_
        refine wp_aload_n rfl rfl ?_
        refine wp_iload_n rfl rfl ?_
        refine wp_iconst rfl ?_
        refine wp_iadd rfl ?_
        obtain ⟨g150, H⟩ := H
        refine wp_iald rfl g150 ?_
        refine wp_aload_n rfl rfl ?_
        refine wp_iload_n rfl rfl ?_
        refine wp_iconst rfl ?_
        refine wp_iadd rfl ?_
        obtain ⟨g149, H⟩ := H
        refine wp_iald rfl g149 ?_
        obtain ⟨g148, H⟩ := H
        refine wp_callvI rfl rfl (Or.inl rfl) (lo' := [some (.ref l0), some (.ref l1), some (.ref l2), some (.int l3)]) rfl g148 ⟨Nat.le_of_ble_eq_true rfl, Nat.zero_le _, Nat.zero_le _, Nat.le_of_ble_eq_true rfl⟩ (bd' := (bc, bs)) rfl ?_
        refine (wq_M_score_ok H).conI (fun v146 h145 H => ?_)
        refine wp_icmp_eq rfl (lo1 := [some (.ref l0), some (.ref l1), some (.ref l2), some (.int l3)]) (lo2 := [some (.ref l0), some (.ref l1), some (.ref l2), some (.int l3)]) rfl rfl (fun q147 => ?_) (fun q147 => ?_)
        · have H := H.1 q147
          refine wp_iinc rfl rfl rfl (lo' := [some (.ref l0), some (.ref l1), some (.ref l2), some (.int (l3 + (4 : Int32)))]) rfl ?_
          refine wp_goto rfl (lo' := [some (.ref l0), some (.ref l1), some (.ref l2), some (.int (l3 + (4 : Int32)))]) rfl ?_
          exact H
        · have H := H.2 q147
          refine wp_iconst rfl ?_
          exact wp_zret rfl rfl (by decide) H
      | 14, ho, hx =>
        cases ho
        have H := H.2.2.2.2.2.2.2.2.2.2.2.2.2.2.2.1 (sw_eq hx (by decide))
        show Wp k_Law_law 580 _ _ _ _ _
        refine wp_aload_n rfl rfl ?_
        refine wp_aload_n rfl rfl ?_
        refine wp_iload_n rfl rfl ?_
        refine wp_iconst rfl ?_
        refine wp_iadd rfl ?_
        obtain ⟨g166, H⟩ := H
        refine wp_iald rfl g166 ?_
        refine wp_aload_n rfl rfl ?_
        refine wp_iload_n rfl rfl ?_
        refine wp_iconst rfl ?_
        refine wp_iadd rfl ?_
        obtain ⟨g165, H⟩ := H
        refine wp_iald rfl g165 ?_
        refine wp_aload_n rfl rfl ?_
        refine wp_iload_n rfl rfl ?_
        refine wp_iconst rfl ?_
        refine wp_iadd rfl ?_
        obtain ⟨g164, H⟩ := H
        refine wp_iald rfl g164 ?_
        obtain ⟨g163, H⟩ := H
        refine wp_callvI rfl rfl (Or.inl rfl) (lo' := [some (.ref l0), some (.ref l1), some (.ref l2), some (.int l3)]) rfl g163 ⟨Nat.le_of_ble_eq_true rfl, Nat.zero_le _, Nat.zero_le _, Nat.le_of_ble_eq_true rfl⟩ (bd' := (bc, bs)) rfl ?_
        refine (wq_K_found_ok H).conI (fun v155 h154 H => ?_)
        refine wp_aload_n rfl rfl ?_
        refine wp_aload_n rfl rfl ?_
        refine wp_iload_n rfl rfl ?_
        refine wp_iconst rfl ?_
        refine wp_iadd rfl ?_
        obtain ⟨g162, H⟩ := H
        refine wp_iald rfl g162 ?_
        refine wp_aload_n rfl rfl ?_
        refine wp_iload_n rfl rfl ?_
        refine wp_iconst rfl ?_
        refine wp_iadd rfl ?_
        obtain ⟨g161, H⟩ := H
        refine wp_iald rfl g161 ?_
        refine wp_aload_n rfl rfl ?_
        refine wp_iload_n rfl rfl ?_
        refine wp_iconst rfl ?_
        refine wp_iadd rfl ?_
        obtain ⟨g160, H⟩ := H
        refine wp_iald rfl g160 ?_
        obtain ⟨g159, H⟩ := H
        refine wp_callvI rfl rfl (Or.inl rfl) (lo' := [some (.ref l0), some (.ref l1), some (.ref l2), some (.int l3)]) rfl g159 ⟨Nat.le_of_ble_eq_true rfl, Nat.zero_le _, Nat.zero_le _, Nat.le_of_ble_eq_true rfl⟩ (bd' := (bc, bs)) rfl ?_
        refine (wq_M_found_ok H).conI (fun v157 h156 H => ?_)
        refine wp_icmp_eq rfl (lo1 := [some (.ref l0), some (.ref l1), some (.ref l2), some (.int l3)]) (lo2 := [some (.ref l0), some (.ref l1), some (.ref l2), some (.int l3)]) rfl rfl (fun q158 => ?_) (fun q158 => ?_)
        · have H := H.1 q158
          refine wp_iinc rfl rfl rfl (lo' := [some (.ref l0), some (.ref l1), some (.ref l2), some (.int (l3 + (4 : Int32)))]) rfl ?_
          refine wp_goto rfl (lo' := [some (.ref l0), some (.ref l1), some (.ref l2), some (.int (l3 + (4 : Int32)))]) rfl ?_
          exact H
        · have H := H.2 q158
          refine wp_iconst rfl ?_
          exact wp_zret rfl rfl (by decide) H
      | 15, ho, hx =>
        cases ho
        have H := H.2.2.2.2.2.2.2.2.2.2.2.2.2.2.2.2.1 (sw_eq hx (by decide))
        show Wp k_Law_law 623 _ _ _ _ _
        refine wp_aload_n rfl rfl ?_
        refine wp_aload_n rfl rfl ?_
        refine wp_iload_n rfl rfl ?_
        refine wp_iconst rfl ?_
        refine wp_iadd rfl ?_
        obtain ⟨g177, H⟩ := H
        refine wp_iald rfl g177 ?_
        refine wp_aload_n rfl rfl ?_
        refine wp_iload_n rfl rfl ?_
        refine wp_iconst rfl ?_
        refine wp_iadd rfl ?_
        obtain ⟨g176, H⟩ := H
        refine wp_iald rfl g176 ?_
        obtain ⟨g175, H⟩ := H
        refine wp_callvI rfl rfl (Or.inl rfl) (lo' := [some (.ref l0), some (.ref l1), some (.ref l2), some (.int l3)]) rfl g175 ⟨Nat.le_of_ble_eq_true rfl, Nat.zero_le _, Nat.zero_le _, Nat.le_of_ble_eq_true rfl⟩ (bd' := (bc, bs)) rfl ?_
        refine (wq_K_differ_ok H).conI (fun v168 h167 H => ?_)
        refine wp_aload_n rfl rfl ?_
        refine wp_aload_n rfl rfl ?_
        refine wp_iload_n rfl rfl ?_
        refine wp_iconst rfl ?_
        refine wp_iadd rfl ?_
        obtain ⟨g174, H⟩ := H
        refine wp_iald rfl g174 ?_
        refine wp_aload_n rfl rfl ?_
        refine wp_iload_n rfl rfl ?_
        refine wp_iconst rfl ?_
        refine wp_iadd rfl ?_
        obtain ⟨g173, H⟩ := H
        refine wp_iald rfl g173 ?_
        obtain ⟨g172, H⟩ := H
        refine wp_callvI rfl rfl (Or.inl rfl) (lo' := [some (.ref l0), some (.ref l1), some (.ref l2), some (.int l3)]) rfl g172 ⟨Nat.le_of_ble_eq_true rfl, Nat.zero_le _, Nat.zero_le _, Nat.le_of_ble_eq_true rfl⟩ (bd' := (bc, bs)) rfl ?_
        refine (wq_M_differ_ok H).conI (fun v170 h169 H => ?_)
        refine wp_icmp_eq rfl (lo1 := [some (.ref l0), some (.ref l1), some (.ref l2), some (.int l3)]) (lo2 := [some (.ref l0), some (.ref l1), some (.ref l2), some (.int l3)]) rfl rfl (fun q171 => ?_) (fun q171 => ?_)
        · have H := H.1 q171
          refine wp_iinc rfl rfl rfl (lo' := [some (.ref l0), some (.ref l1), some (.ref l2), some (.int (l3 + (4 : Int32)))]) rfl ?_
          refine wp_goto rfl (lo' := [some (.ref l0), some (.ref l1), some (.ref l2), some (.int (l3 + (4 : Int32)))]) rfl ?_
          exact H
        · have H := H.2 q171
          refine wp_iconst rfl ?_
          exact wp_zret rfl rfl (by decide) H
      | 16, ho, hx =>
        cases ho
        have H := H.2.2.2.2.2.2.2.2.2.2.2.2.2.2.2.2.2.1 (sw_eq hx (by decide))
        show Wp k_Law_law 656 _ _ _ _ _
        refine wp_aload_n rfl rfl ?_
        refine wp_aload_n rfl rfl ?_
        refine wp_iload_n rfl rfl ?_
        refine wp_iconst rfl ?_
        refine wp_iadd rfl ?_
        obtain ⟨g188, H⟩ := H
        refine wp_iald rfl g188 ?_
        refine wp_aload_n rfl rfl ?_
        refine wp_iload_n rfl rfl ?_
        refine wp_iconst rfl ?_
        refine wp_iadd rfl ?_
        obtain ⟨g187, H⟩ := H
        refine wp_iald rfl g187 ?_
        obtain ⟨g186, H⟩ := H
        refine wp_callvI rfl rfl (Or.inl rfl) (lo' := [some (.ref l0), some (.ref l1), some (.ref l2), some (.int l3)]) rfl g186 ⟨Nat.le_of_ble_eq_true rfl, Nat.zero_le _, Nat.zero_le _, Nat.le_of_ble_eq_true rfl⟩ (bd' := (bc, bs)) rfl ?_
        refine (wq_K_step_ok H).conI (fun v179 h178 H => ?_)
        refine wp_aload_n rfl rfl ?_
        refine wp_aload_n rfl rfl ?_
        refine wp_iload_n rfl rfl ?_
        refine wp_iconst rfl ?_
        refine wp_iadd rfl ?_
        obtain ⟨g185, H⟩ := H
        refine wp_iald rfl g185 ?_
        refine wp_aload_n rfl rfl ?_
        refine wp_iload_n rfl rfl ?_
        refine wp_iconst rfl ?_
        refine wp_iadd rfl ?_
        obtain ⟨g184, H⟩ := H
        refine wp_iald rfl g184 ?_
        obtain ⟨g183, H⟩ := H
        refine wp_callvI rfl rfl (Or.inl rfl) (lo' := [some (.ref l0), some (.ref l1), some (.ref l2), some (.int l3)]) rfl g183 ⟨Nat.le_of_ble_eq_true rfl, Nat.zero_le _, Nat.zero_le _, Nat.le_of_ble_eq_true rfl⟩ (bd' := (bc, bs)) rfl ?_
        refine (wq_M_step2_ok H).conI (fun v181 h180 H => ?_)
        refine wp_icmp_eq rfl (lo1 := [some (.ref l0), some (.ref l1), some (.ref l2), some (.int l3)]) (lo2 := [some (.ref l0), some (.ref l1), some (.ref l2), some (.int l3)]) rfl rfl (fun q182 => ?_) (fun q182 => ?_)
        · have H := H.1 q182
          refine wp_iinc rfl rfl rfl (lo' := [some (.ref l0), some (.ref l1), some (.ref l2), some (.int (l3 + (4 : Int32)))]) rfl ?_
          refine wp_goto rfl (lo' := [some (.ref l0), some (.ref l1), some (.ref l2), some (.int (l3 + (4 : Int32)))]) rfl ?_
          exact H
        · have H := H.2 q182
          refine wp_iconst rfl ?_
          exact wp_zret rfl rfl (by decide) H
      | 17, ho, hx =>
        cases ho
        have H := H.2.2.2.2.2.2.2.2.2.2.2.2.2.2.2.2.2.2.1 (sw_eq hx (by decide))
        show Wp k_Law_law 689 _ _ _ _ _
        refine wp_aload_n rfl rfl ?_
        refine wp_aload_n rfl rfl ?_
        refine wp_iload_n rfl rfl ?_
        refine wp_iconst rfl ?_
        refine wp_iadd rfl ?_
        obtain ⟨g200, H⟩ := H
        refine wp_iald rfl g200 ?_
        refine wp_aload_n rfl rfl ?_
        refine wp_iload_n rfl rfl ?_
        refine wp_iconst rfl ?_
        refine wp_iadd rfl ?_
        obtain ⟨g199, H⟩ := H
        refine wp_iald rfl g199 ?_
        obtain ⟨g197, g198, H⟩ := H
        refine wp_callvI rfl rfl (Or.inl rfl) (lo' := [some (.ref l0), some (.ref l1), some (.ref l2), some (.int l3)]) rfl g197 ⟨Nat.le_of_ble_eq_true rfl, g198.1, g198.2, Nat.le_of_ble_eq_true rfl⟩ (bd' := (bc - 1, bs - 640)) rfl ?_
        refine (wq_K_patch_ok H).conI (fun v190 h189 H => ?_)
        refine wp_aload_n rfl rfl ?_
        refine wp_aload_n rfl rfl ?_
        refine wp_iload_n rfl rfl ?_
        refine wp_iconst rfl ?_
        refine wp_iadd rfl ?_
        obtain ⟨g196, H⟩ := H
        refine wp_iald rfl g196 ?_
        refine wp_aload_n rfl rfl ?_
        refine wp_iload_n rfl rfl ?_
        refine wp_iconst rfl ?_
        refine wp_iadd rfl ?_
        obtain ⟨g195, H⟩ := H
        refine wp_iald rfl g195 ?_
        obtain ⟨g194, H⟩ := H
        refine wp_callvI rfl rfl (Or.inl rfl) (lo' := [some (.ref l0), some (.ref l1), some (.ref l2), some (.int l3)]) rfl g194 ⟨Nat.le_of_ble_eq_true rfl, Nat.zero_le _, Nat.zero_le _, Nat.le_of_ble_eq_true rfl⟩ (bd' := (bc - 1, bs - 640)) rfl ?_
        refine (wq_M_patch_ok H).conI (fun v192 h191 H => ?_)
        refine wp_icmp_eq rfl (lo1 := [some (.ref l0), some (.ref l1), some (.ref l2), some (.int l3)]) (lo2 := [some (.ref l0), some (.ref l1), some (.ref l2), some (.int l3)]) rfl rfl (fun q193 => ?_) (fun q193 => ?_)
        · have H := H.1 q193
          refine wp_iinc rfl rfl rfl (lo' := [some (.ref l0), some (.ref l1), some (.ref l2), some (.int (l3 + (4 : Int32)))]) rfl ?_
          refine wp_goto rfl (lo' := [some (.ref l0), some (.ref l1), some (.ref l2), some (.int (l3 + (4 : Int32)))]) rfl ?_
          exact H
        · have H := H.2 q193
          refine wp_iconst rfl ?_
          exact wp_zret rfl rfl (by decide) H
      | 18, ho, hx =>
        cases ho
        have H := H.2.2.2.2.2.2.2.2.2.2.2.2.2.2.2.2.2.2.2.1 (sw_eq hx (by decide))
        show Wp k_Law_law 722 _ _ _ _ _
        refine wp_aload_n rfl rfl ?_
        obtain ⟨g207, H⟩ := H
        refine wp_callvI rfl rfl (Or.inl rfl) (lo' := [some (.ref l0), some (.ref l1), some (.ref l2), some (.int l3)]) rfl g207 ⟨Nat.le_of_ble_eq_true rfl, Nat.zero_le _, Nat.zero_le _, Nat.le_of_ble_eq_true rfl⟩ (bd' := (bc, bs)) rfl ?_
        refine (wq_K_term_ok H).conI (fun v202 h201 H => ?_)
        refine wp_aload_n rfl rfl ?_
        obtain ⟨g206, H⟩ := H
        refine wp_callvI rfl rfl (Or.inl rfl) (lo' := [some (.ref l0), some (.ref l1), some (.ref l2), some (.int l3)]) rfl g206 ⟨Nat.le_of_ble_eq_true rfl, Nat.zero_le _, Nat.zero_le _, Nat.le_of_ble_eq_true rfl⟩ (bd' := (bc, bs)) rfl ?_
        refine (wq_M_term_ok H).conI (fun v204 h203 H => ?_)
        refine wp_icmp_eq rfl (lo1 := [some (.ref l0), some (.ref l1), some (.ref l2), some (.int l3)]) (lo2 := [some (.ref l0), some (.ref l1), some (.ref l2), some (.int l3)]) rfl rfl (fun q205 => ?_) (fun q205 => ?_)
        · have H := H.1 q205
          refine wp_iinc rfl rfl rfl (lo' := [some (.ref l0), some (.ref l1), some (.ref l2), some (.int (l3 + (4 : Int32)))]) rfl ?_
          refine wp_goto rfl (lo' := [some (.ref l0), some (.ref l1), some (.ref l2), some (.int (l3 + (4 : Int32)))]) rfl ?_
          exact H
        · have H := H.2 q205
          refine wp_iconst rfl ?_
          exact wp_zret rfl rfl (by decide) H
      | 19, ho, hx =>
        cases ho
        have H := H.2.2.2.2.2.2.2.2.2.2.2.2.2.2.2.2.2.2.2.2.1 (sw_eq hx (by decide))
        show Wp k_Law_law 735 _ _ _ _ _
        refine wp_aload_n rfl rfl ?_
        obtain ⟨g214, H⟩ := H
        refine wp_callvI rfl rfl (Or.inl rfl) (lo' := [some (.ref l0), some (.ref l1), some (.ref l2), some (.int l3)]) rfl g214 ⟨Nat.le_of_ble_eq_true rfl, Nat.zero_le _, Nat.zero_le _, Nat.le_of_ble_eq_true rfl⟩ (bd' := (bc, bs)) rfl ?_
        refine (wq_K_forbid_ok H).conI (fun v209 h208 H => ?_)
        refine wp_aload_n rfl rfl ?_
        obtain ⟨g213, H⟩ := H
        refine wp_callvI rfl rfl (Or.inl rfl) (lo' := [some (.ref l0), some (.ref l1), some (.ref l2), some (.int l3)]) rfl g213 ⟨Nat.le_of_ble_eq_true rfl, Nat.zero_le _, Nat.zero_le _, Nat.le_of_ble_eq_true rfl⟩ (bd' := (bc, bs)) rfl ?_
        refine (wq_M_forbid_ok H).conI (fun v211 h210 H => ?_)
        refine wp_icmp_eq rfl (lo1 := [some (.ref l0), some (.ref l1), some (.ref l2), some (.int l3)]) (lo2 := [some (.ref l0), some (.ref l1), some (.ref l2), some (.int l3)]) rfl rfl (fun q212 => ?_) (fun q212 => ?_)
        · have H := H.1 q212
          refine wp_iinc rfl rfl rfl (lo' := [some (.ref l0), some (.ref l1), some (.ref l2), some (.int (l3 + (4 : Int32)))]) rfl ?_
          refine wp_goto rfl (lo' := [some (.ref l0), some (.ref l1), some (.ref l2), some (.int (l3 + (4 : Int32)))]) rfl ?_
          exact H
        · have H := H.2 q212
          refine wp_iconst rfl ?_
          exact wp_zret rfl rfl (by decide) H
      | 20, ho, hx =>
        cases ho
        have H := H.2.2.2.2.2.2.2.2.2.2.2.2.2.2.2.2.2.2.2.2.2.1 (sw_eq hx (by decide))
        show Wp k_Law_law 748 _ _ _ _ _
        refine wp_aload_n rfl rfl ?_
        refine wp_aload_n rfl rfl ?_
        refine wp_iload_n rfl rfl ?_
        refine wp_iconst rfl ?_
        refine wp_iadd rfl ?_
        obtain ⟨g223, H⟩ := H
        refine wp_iald rfl g223 ?_
        obtain ⟨g222, H⟩ := H
        refine wp_callvI rfl rfl (Or.inl rfl) (lo' := [some (.ref l0), some (.ref l1), some (.ref l2), some (.int l3)]) rfl g222 ⟨Nat.le_of_ble_eq_true rfl, Nat.zero_le _, Nat.zero_le _, Nat.le_of_ble_eq_true rfl⟩ (bd' := (bc, bs)) rfl ?_
        refine (wq_K_faults_ok H).conI (fun v216 h215 H => ?_)
        refine wp_aload_n rfl rfl ?_
        refine wp_aload_n rfl rfl ?_
        refine wp_iload_n rfl rfl ?_
        refine wp_iconst rfl ?_
        refine wp_iadd rfl ?_
        obtain ⟨g221, H⟩ := H
        refine wp_iald rfl g221 ?_
        obtain ⟨g220, H⟩ := H
        refine wp_callvI rfl rfl (Or.inl rfl) (lo' := [some (.ref l0), some (.ref l1), some (.ref l2), some (.int l3)]) rfl g220 ⟨Nat.le_of_ble_eq_true rfl, Nat.zero_le _, Nat.zero_le _, Nat.le_of_ble_eq_true rfl⟩ (bd' := (bc, bs)) rfl ?_
        refine (wq_M_faults_ok H).conI (fun v218 h217 H => ?_)
        refine wp_icmp_eq rfl (lo1 := [some (.ref l0), some (.ref l1), some (.ref l2), some (.int l3)]) (lo2 := [some (.ref l0), some (.ref l1), some (.ref l2), some (.int l3)]) rfl rfl (fun q219 => ?_) (fun q219 => ?_)
        · have H := H.1 q219
          refine wp_iinc rfl rfl rfl (lo' := [some (.ref l0), some (.ref l1), some (.ref l2), some (.int (l3 + (4 : Int32)))]) rfl ?_
          refine wp_goto rfl (lo' := [some (.ref l0), some (.ref l1), some (.ref l2), some (.int (l3 + (4 : Int32)))]) rfl ?_
          exact H
        · have H := H.2 q219
          refine wp_iconst rfl ?_
          exact wp_zret rfl rfl (by decide) H
      | 21, ho, hx =>
        cases ho
        have H := H.2.2.2.2.2.2.2.2.2.2.2.2.2.2.2.2.2.2.2.2.2.2.1 (sw_eq hx (by decide))
        show Wp k_Law_law 771 _ _ _ _ _
        refine wp_aload_n rfl rfl ?_
        refine wp_aload_n rfl rfl ?_
        refine wp_iload_n rfl rfl ?_
        refine wp_iconst rfl ?_
        refine wp_iadd rfl ?_
        obtain ⟨g232, H⟩ := H
        refine wp_iald rfl g232 ?_
        obtain ⟨g231, H⟩ := H
        refine wp_callvI rfl rfl (Or.inl rfl) (lo' := [some (.ref l0), some (.ref l1), some (.ref l2), some (.int l3)]) rfl g231 ⟨Nat.le_of_ble_eq_true rfl, Nat.zero_le _, Nat.zero_le _, Nat.le_of_ble_eq_true rfl⟩ (bd' := (bc, bs)) rfl ?_
        refine (wq_K_counted_ok H).conI (fun v225 h224 H => ?_)
        refine wp_aload_n rfl rfl ?_
        refine wp_aload_n rfl rfl ?_
        refine wp_iload_n rfl rfl ?_
        refine wp_iconst rfl ?_
        refine wp_iadd rfl ?_
        obtain ⟨g230, H⟩ := H
        refine wp_iald rfl g230 ?_
        obtain ⟨g229, H⟩ := H
        refine wp_callvI rfl rfl (Or.inl rfl) (lo' := [some (.ref l0), some (.ref l1), some (.ref l2), some (.int l3)]) rfl g229 ⟨Nat.le_of_ble_eq_true rfl, Nat.zero_le _, Nat.zero_le _, Nat.le_of_ble_eq_true rfl⟩ (bd' := (bc, bs)) rfl ?_
        refine (wq_M_counted_ok H).conI (fun v227 h226 H => ?_)
        refine wp_icmp_eq rfl (lo1 := [some (.ref l0), some (.ref l1), some (.ref l2), some (.int l3)]) (lo2 := [some (.ref l0), some (.ref l1), some (.ref l2), some (.int l3)]) rfl rfl (fun q228 => ?_) (fun q228 => ?_)
        · have H := H.1 q228
          refine wp_iinc rfl rfl rfl (lo' := [some (.ref l0), some (.ref l1), some (.ref l2), some (.int (l3 + (4 : Int32)))]) rfl ?_
          refine wp_goto rfl (lo' := [some (.ref l0), some (.ref l1), some (.ref l2), some (.int (l3 + (4 : Int32)))]) rfl ?_
          exact H
        · have H := H.2 q228
          refine wp_iconst rfl ?_
          exact wp_zret rfl rfl (by decide) H
      | 22, ho, hx =>
        cases ho
        have H := H.2.2.2.2.2.2.2.2.2.2.2.2.2.2.2.2.2.2.2.2.2.2.2.1 (sw_eq hx (by decide))
        show Wp k_Law_law 794 _ _ _ _ _
        refine wp_aload_n rfl rfl ?_
        refine wp_aload_n rfl rfl ?_
        refine wp_iload_n rfl rfl ?_
        refine wp_iconst rfl ?_
        refine wp_iadd rfl ?_
        obtain ⟨g243, H⟩ := H
        refine wp_iald rfl g243 ?_
        refine wp_aload_n rfl rfl ?_
        refine wp_iload_n rfl rfl ?_
        refine wp_iconst rfl ?_
        refine wp_iadd rfl ?_
        obtain ⟨g242, H⟩ := H
        refine wp_iald rfl g242 ?_
        obtain ⟨g241, H⟩ := H
        refine wp_callvI rfl rfl (Or.inl rfl) (lo' := [some (.ref l0), some (.ref l1), some (.ref l2), some (.int l3)]) rfl g241 ⟨Nat.le_of_ble_eq_true rfl, Nat.zero_le _, Nat.zero_le _, Nat.le_of_ble_eq_true rfl⟩ (bd' := (bc, bs)) rfl ?_
        refine (wq_K_count_ok H).conI (fun v234 h233 H => ?_)
        refine wp_aload_n rfl rfl ?_
        refine wp_aload_n rfl rfl ?_
        refine wp_iload_n rfl rfl ?_
        refine wp_iconst rfl ?_
        refine wp_iadd rfl ?_
        obtain ⟨g240, H⟩ := H
        refine wp_iald rfl g240 ?_
        refine wp_aload_n rfl rfl ?_
        refine wp_iload_n rfl rfl ?_
        refine wp_iconst rfl ?_
        refine wp_iadd rfl ?_
        obtain ⟨g239, H⟩ := H
        refine wp_iald rfl g239 ?_
        obtain ⟨g238, H⟩ := H
        refine wp_callvI rfl rfl (Or.inl rfl) (lo' := [some (.ref l0), some (.ref l1), some (.ref l2), some (.int l3)]) rfl g238 ⟨Nat.le_of_ble_eq_true rfl, Nat.zero_le _, Nat.zero_le _, Nat.le_of_ble_eq_true rfl⟩ (bd' := (bc, bs)) rfl ?_
        refine (wq_M_count_ok H).conI (fun v236 h235 H => ?_)
        refine wp_icmp_eq rfl (lo1 := [some (.ref l0), some (.ref l1), some (.ref l2), some (.int l3)]) (lo2 := [some (.ref l0), some (.ref l1), some (.ref l2), some (.int l3)]) rfl rfl (fun q237 => ?_) (fun q237 => ?_)
        · have H := H.1 q237
          refine wp_iinc rfl rfl rfl (lo' := [some (.ref l0), some (.ref l1), some (.ref l2), some (.int (l3 + (4 : Int32)))]) rfl ?_
          refine wp_goto rfl (lo' := [some (.ref l0), some (.ref l1), some (.ref l2), some (.int (l3 + (4 : Int32)))]) rfl ?_
          exact H
        · have H := H.2 q237
          refine wp_iconst rfl ?_
          exact wp_zret rfl rfl (by decide) H
      | 23, ho, hx =>
        cases ho
        have H := H.2.2.2.2.2.2.2.2.2.2.2.2.2.2.2.2.2.2.2.2.2.2.2.2.1 (sw_eq hx (by decide))
        show Wp k_Law_law 827 _ _ _ _ _
        refine wp_aload_n rfl rfl ?_
        refine wp_aload_n rfl rfl ?_
        refine wp_iload_n rfl rfl ?_
        refine wp_iconst rfl ?_
        refine wp_iadd rfl ?_
        obtain ⟨g252, H⟩ := H
        refine wp_iald rfl g252 ?_
        obtain ⟨g251, H⟩ := H
        refine wp_callvI rfl rfl (Or.inl rfl) (lo' := [some (.ref l0), some (.ref l1), some (.ref l2), some (.int l3)]) rfl g251 ⟨Nat.le_of_ble_eq_true rfl, Nat.zero_le _, Nat.zero_le _, Nat.le_of_ble_eq_true rfl⟩ (bd' := (bc, bs)) rfl ?_
        refine (wq_K_spread_ok H).conI (fun v245 h244 H => ?_)
        refine wp_aload_n rfl rfl ?_
        refine wp_aload_n rfl rfl ?_
        refine wp_iload_n rfl rfl ?_
        refine wp_iconst rfl ?_
        refine wp_iadd rfl ?_
        obtain ⟨g250, H⟩ := H
        refine wp_iald rfl g250 ?_
        obtain ⟨g249, H⟩ := H
        refine wp_callvI rfl rfl (Or.inl rfl) (lo' := [some (.ref l0), some (.ref l1), some (.ref l2), some (.int l3)]) rfl g249 ⟨Nat.le_of_ble_eq_true rfl, Nat.zero_le _, Nat.zero_le _, Nat.le_of_ble_eq_true rfl⟩ (bd' := (bc, bs)) rfl ?_
        refine (wq_M_spread_ok H).conI (fun v247 h246 H => ?_)
        refine wp_icmp_eq rfl (lo1 := [some (.ref l0), some (.ref l1), some (.ref l2), some (.int l3)]) (lo2 := [some (.ref l0), some (.ref l1), some (.ref l2), some (.int l3)]) rfl rfl (fun q248 => ?_) (fun q248 => ?_)
        · have H := H.1 q248
          refine wp_iinc rfl rfl rfl (lo' := [some (.ref l0), some (.ref l1), some (.ref l2), some (.int (l3 + (4 : Int32)))]) rfl ?_
          refine wp_goto rfl (lo' := [some (.ref l0), some (.ref l1), some (.ref l2), some (.int (l3 + (4 : Int32)))]) rfl ?_
          exact H
        · have H := H.2 q248
          refine wp_iconst rfl ?_
          exact wp_zret rfl rfl (by decide) H
      | 24, ho, hx =>
        cases ho
        have H := H.2.2.2.2.2.2.2.2.2.2.2.2.2.2.2.2.2.2.2.2.2.2.2.2.2 (sw_eq hx (by decide))
        show Wp k_Law_law 850 _ _ _ _ _
        refine wp_aload_n rfl rfl ?_
        refine wp_aload_n rfl rfl ?_
        refine wp_iload_n rfl rfl ?_
        refine wp_iconst rfl ?_
        refine wp_iadd rfl ?_
        obtain ⟨g261, H⟩ := H
        refine wp_iald rfl g261 ?_
        obtain ⟨g260, H⟩ := H
        refine wp_callvI rfl rfl (Or.inl rfl) (lo' := [some (.ref l0), some (.ref l1), some (.ref l2), some (.int l3)]) rfl g260 ⟨Nat.le_of_ble_eq_true rfl, Nat.zero_le _, Nat.zero_le _, Nat.le_of_ble_eq_true rfl⟩ (bd' := (bc, bs)) rfl ?_
        refine (wq_K_about_ok H).conI (fun v254 h253 H => ?_)
        refine wp_aload_n rfl rfl ?_
        refine wp_aload_n rfl rfl ?_
        refine wp_iload_n rfl rfl ?_
        refine wp_iconst rfl ?_
        refine wp_iadd rfl ?_
        obtain ⟨g259, H⟩ := H
        refine wp_iald rfl g259 ?_
        obtain ⟨g258, H⟩ := H
        refine wp_callvI rfl rfl (Or.inl rfl) (lo' := [some (.ref l0), some (.ref l1), some (.ref l2), some (.int l3)]) rfl g258 ⟨Nat.le_of_ble_eq_true rfl, Nat.zero_le _, Nat.zero_le _, Nat.le_of_ble_eq_true rfl⟩ (bd' := (bc, bs)) rfl ?_
        refine (wq_M_about_ok H).conI (fun v256 h255 H => ?_)
        refine wp_icmp_eq rfl (lo1 := [some (.ref l0), some (.ref l1), some (.ref l2), some (.int l3)]) (lo2 := [some (.ref l0), some (.ref l1), some (.ref l2), some (.int l3)]) rfl rfl (fun q257 => ?_) (fun q257 => ?_)
        · have H := H.1 q257
          refine wp_iinc rfl rfl rfl (lo' := [some (.ref l0), some (.ref l1), some (.ref l2), some (.int (l3 + (4 : Int32)))]) rfl ?_
          refine wp_goto rfl (lo' := [some (.ref l0), some (.ref l1), some (.ref l2), some (.int (l3 + (4 : Int32)))]) rfl ?_
          exact H
        · have H := H.2 q257
          refine wp_iconst rfl ?_
          exact wp_zret rfl rfl (by decide) H
      | i + 25, ho, _ => exact absurd ho (by simp)
def wq_Law_law (p0 : Nat) (h : HP) (K : Int32 → HP → Prop) : Prop :=
  ∀ h1 : HP, h1 = nwC h 9 0 → wq_K_init (gS h) h1 (fun h3 => ∀ h4 : HP, h4 = nwC h3 10 0 → wq_M_init (gS h3) h4 (fun h6 => Wp k_Law_law 18 [some (.ref p0), some (.ref (gS h)), some (.ref (gS h3)), some (.int (0 : Int32))] [] h6 (599639, 7111689) (QI K)))
theorem wq_Law_law_ok {p0 : Nat} {h : HP} {K : Int32 → HP → Prop} (H : wq_Law_law p0 h K) : Wp k_Law_law 0 [some (.ref p0), none, none, none] [] h (600000, 7302250) (QI K) := by
  unfold wq_Law_law at H
  obtain ⟨h1, e2⟩ : ∃ z : HP, z = nwC h 9 0 := ⟨_, rfl⟩
  have H := H h1 e2
  refine wp_newL (lo' := [some (.ref p0), none, none, none]) (bd' := (599999, 7302238)) rfl ⟨by decide, by decide⟩ rfl rfl e2 ?_
  refine wp_dupR rfl ?_
  refine wp_callxV rfl rfl rfl rfl (lo' := [some (.ref p0), none, none, none]) rfl ⟨Nat.le_of_ble_eq_true rfl, Nat.le_of_ble_eq_true rfl, Nat.le_of_ble_eq_true rfl, Nat.le_of_ble_eq_true rfl⟩ (bd' := (599663, 7163697)) rfl ?_
  refine (wq_K_init_ok H).conV (fun h3 H => ?_)
  refine wp_astore_n rfl rfl (lo' := [some (.ref p0), some (.ref (gS h)), none, none]) rfl ?_
  obtain ⟨h4, e5⟩ : ∃ z : HP, z = nwC h3 10 0 := ⟨_, rfl⟩
  have H := H h4 e5
  refine wp_newL (lo' := [some (.ref p0), some (.ref (gS h)), none, none]) (bd' := (599662, 7163664)) rfl ⟨by decide, by decide⟩ rfl rfl e5 ?_
  refine wp_dupR rfl ?_
  refine wp_callxV rfl rfl rfl rfl (lo' := [some (.ref p0), some (.ref (gS h)), none, none]) rfl ⟨Nat.le_of_ble_eq_true rfl, Nat.le_of_ble_eq_true rfl, Nat.le_of_ble_eq_true rfl, Nat.le_of_ble_eq_true rfl⟩ (bd' := (599639, 7111689)) rfl ?_
  refine (wq_M_init_ok H).conV (fun h6 H => ?_)
  refine wp_astore_n rfl rfl (lo' := [some (.ref p0), some (.ref (gS h)), some (.ref (gS h3)), none]) rfl ?_
  refine wp_iconst rfl ?_
  refine wp_istore_n rfl rfl (lo' := [some (.ref p0), some (.ref (gS h)), some (.ref (gS h3)), some (.int (0 : Int32))]) rfl ?_
  exact H
