/-! the reference's constructor -/
set_option maxRecDepth 100000 in
def km15_X12_init (M : Mem) : Mem := (mset (mnew (mset (mnew (mset (mnew (mset (mnew (mset (mset (mset (mset (mset (mnew (mset (mset (mset (mnew (mset (mset (mset (mset (mset (mset (mnew (mset (mset (mset (mset (mset (mnew (mset (mset (mset (mset (mset (mnew (mset (mset (mset (mset (mset (mset (mnew (mset (mset (mset (mset (mset (mnew (mset (mset (mset (mset (mset (mset (mset (mnew (mset (mset (mset (mset (mnew (mset (mset (mset (mset (mnew (mset (mset (mset (mset (mnew (mset (mset (mset (mnew (mset (mset (mset (mset (mnew (mset (mset (mset (mset (mnew (mset (mset (mset (mset (mset (mset (mnew (mset (mset (mset (mset (mset (mnew (mset (mset (mset (mset (mset (mset (mnew (mset (mset (mset (mset (mset (mset (mnew (mset (mset (mset (mset (mset (mnew (mset (mset (mset (mset (mset (mset (mnew (mset (mnew (mset (mset (mnew (mset (mnew (mset (mnew (mset (mnew (mset (mnew (mset (mnew (mset (mnew (mset (mnew (mset (mnew (mset (mset (mset (mset (mset (mset (mset (mset (mset (mnew (mset (mnew (mset (mnew (mset (mnew (mset (mnew (mset (mnew (mset (mnew (mset (mset (mset (mset (mset (mset (mset (mnew (mset (mset (mset (mset (mset (mnew (mset (mset (mset (mset (mset (mnew (mset (mset (mset (mset (mset (mset (mset (mnew (mset (mset (mset (mset (mset (mset (mnew (mset (mset (mset (mset (mset (mnew (mset (mset (mset (mset (mset (mset (mnew (mset (mset (mset (mset (mset (mset (mset (mnew (mset (mset (mset (mset (mset (mset (mnew (mset (mset (mset (mset (mset (mset (mnew (mset (mset (mset (mset (mset (mset (mnew (mset (mset (mset (mset (mset (mnew (mset (mset (mset (mnew (mset (mset (mset (mset (mset (mset (mset (mnew (mset (mset (mset (mset (mset (mnew (mset (mset (mset (mset (mset (mnew (mset (mset (mset (mset (mset (mnew (mset (mset (mnew M 67 nzero) 66 0 67) 66 8 (-1)) 68 nzero) 68 0 104) 68 1 97) 68 2 108) 68 3 108) 66 10 68) 69 nzero) 69 0 119) 69 1 97) 69 2 108) 69 3 108) 66 11 69) 70 nzero) 70 0 100) 70 1 111) 70 2 111) 70 3 114) 66 12 70) 71 nzero) 71 0 112) 71 1 101) 71 2 114) 71 3 115) 71 4 111) 71 5 110) 66 13 71) 72 nzero) 72 0 97) 72 1 116) 66 14 72) 73 nzero) 73 0 115) 73 1 108) 73 2 111) 73 3 119) 66 15 73) 74 nzero) 74 0 100) 74 1 97) 74 2 114) 74 3 101) 74 4 115) 66 16 74) 75 nzero) 75 0 99) 75 1 111) 75 2 109) 75 3 101) 75 4 115) 66 17 75) 76 nzero) 76 0 119) 76 1 97) 76 2 108) 76 3 107) 76 4 115) 66 18 76) 77 nzero) 77 0 112) 77 1 97) 77 2 115) 77 3 115) 77 4 101) 77 5 114) 66 19 77) 78 nzero) 78 0 103) 78 1 117) 78 2 97) 78 3 114) 78 4 100) 66 20 78) 79 nzero) 79 0 115) 79 1 101) 79 2 101) 79 3 115) 66 21 79) 80 nzero) 80 0 108) 80 1 111) 80 2 111) 80 3 107) 80 4 115) 66 22 80) 81 nzero) 81 0 115) 81 1 116) 81 2 114) 81 3 111) 81 4 107) 81 5 101) 66 23 81) 82 nzero) 82 0 111) 82 1 112) 82 2 101) 82 3 110) 66 24 82) 83 nzero) 83 0 110) 83 1 101) 83 2 97) 83 3 114) 66 25 83) 84 nzero) 84 0 101) 84 1 110) 84 2 111) 84 3 117) 84 4 103) 84 5 104) 66 26 84) 85 nzero) 66 28 85) 86 nzero) 66 29 86) 87 nzero) 66 30 87) 88 nzero) 66 31 88) 89 nzero) 66 32 89) 90 nzero) 66 33 90) 91 nzero) 91 0 60) 91 1 20) 91 2 1) 91 3 3) 91 4 60) 91 5 20) 91 6 1) 91 7 3) 66 34 91) 92 nzero) 66 41 92) 93 nzero) 66 43 93) 94 nzero) 66 44 94) 95 nzero) 66 45 95) 96 nzero) 66 46 96) 97 nzero) 66 47 97) 98 nzero) 66 48 98) 99 nzero) 66 49 99) 100 nzero) 66 53 100) 66 56 1) 101 nzero) 66 57 101) 102 nzero) 102 0 102) 102 1 105) 102 2 114) 102 3 115) 102 4 116) 66 58 102) 103 nzero) 103 0 108) 103 1 97) 103 2 115) 103 3 116) 66 59 103) 104 nzero) 104 0 111) 104 1 102) 104 2 116) 104 3 101) 104 4 110) 66 60 104) 105 nzero) 105 0 116) 105 1 111) 105 2 116) 105 3 97) 105 4 108) 66 61 105) 106 nzero) 106 0 109) 106 1 111) 106 2 115) 106 3 116) 66 62 106) 107 nzero) 107 0 108) 107 1 101) 107 2 97) 107 3 115) 107 4 116) 66 63 107) 108 nzero) 108 0 110) 108 1 111) 108 2 116) 66 64 108) 109 nzero) 109 0 97) 109 1 110) 109 2 100) 66 65 109) 110 nzero) 110 0 111) 110 1 114) 66 66 110) 111 nzero) 111 0 97) 111 1 108) 111 2 108) 66 67 111) 112 nzero) 112 0 109) 112 1 105) 112 2 110) 66 68 112) 113 nzero) 113 0 109) 113 1 97) 113 2 120) 66 69 113) 114 nzero) 114 0 115) 114 1 101) 114 2 99) 114 3 111) 114 4 110) 114 5 100) 66 70 114) 115 nzero) 115 0 111) 115 1 112) 115 2 101) 115 3 110) 66 71 115) 116 nzero) 116 0 119) 116 1 97) 116 2 105) 116 3 116) 116 4 115) 66 72 116) 117 nzero) 117 0 103) 117 1 111) 117 2 101) 117 3 115) 66 73 117) 118 nzero) 118 0 111) 118 1 117) 118 2 116) 118 3 115) 66 74 118) 119 nzero) 119 0 97) 119 1 108) 119 2 97) 119 3 114) 119 4 109) 66 75 119) 120 nzero) 120 0 97) 120 1 116) 66 76 120) 121 nzero) 121 0 100) 121 1 111) 121 2 101) 121 3 115) 66 77 121) 122 nzero) 66 78 122) 123 nzero) 66 80 123) 124 nzero) 66 84 124) 125 nzero) 66 88 125)
set_option maxRecDepth 100000 in
set_option maxHeartbeats 4000000 in
theorem k15_X12_init {E : EV} {M : Mem} : Ct E miX12_init 1 59 10042 [(2, 66)] (Sq 67) M (fun r S' M' => S' = Sq 126 ∧ r = none ∧ M' = km15_X12_init M) := by
  refine Ct_of (L := [(2, 66)]) (by decide +kernel) (Nat.le_of_ble_eq_true rfl) rfl ?_
  show T E miX12_init 1 67 59 10042 _ 0 _ [] (Sq 67) M 0 0
  refine T_aload_n (i := 0) (pc' := 1) dX12_init_0 rfl rfl rfl ?_
  refine T_objInit (pc' := 4) dX12_init_1 rfl ⟨mlX12_1, oi_in, oi_code⟩ (Nat.le_of_ble_eq_true rfl) (by decide) rfl ?_
  refine T_aload_n (i := 0) (pc' := 5) dX12_init_4 rfl rfl rfl ?_
  refine T_sipush (pc' := 8) dX12_init_5 rfl (by decide) rfl ?_
  refine K_arr (n := 1600) (S' := Sq 68) (nI := 67) (c' := 1) (s' := 1600) (pc' := 10) dX12_init_8 acI rfl (Or.inl ⟨rfl, rfl, rfl⟩) rfl (by decide) ⟨(by decide), (by decide)⟩ (by decide) rfl rfl rfl rfl rfl ?_
  refine T_pfF (y := 67) (k := 0) (pc' := 13) dX12_init_10 rfl cl12 (by decide) rfl (by decide) flX12_7 rfl rfl rfl rfl rfl rfl (fun _ => by decide) (fun _ => (show (67 : Int) < ((68 : Nat) : Int) by decide)) rfl ?_
  refine T_aload_n (i := 0) (pc' := 14) dX12_init_13 rfl rfl rfl ?_
  refine T_iconst (pc' := 15) dX12_init_14 (by decide) rfl ?_
  refine U_pf (y := (-1)) (k := 8) (kI := 8) (pc' := 18) dX12_init_15 rfl cl12 (by decide) rfl (by decide) flX12_13 rfl rfl rfl rfl rfl (by decide) (fun z => z) rfl ?_
  refine T_aload_n (i := 0) (pc' := 19) dX12_init_18 rfl rfl rfl ?_
  refine T_iconst (pc' := 20) dX12_init_19 (by decide) rfl ?_
  refine K_arr (n := 4) (S' := Sq 69) (nI := 68) (c' := 2) (s' := 1604) (pc' := 22) dX12_init_20 acC rfl (Or.inr (Or.inr (Or.inr ⟨rfl, rfl, rfl⟩))) rfl (by decide) ⟨(by decide), (by decide)⟩ (by decide) rfl rfl rfl rfl rfl ?_
  refine T_dup (pc' := 23) dX12_init_22 (Nat.ne_of_beq_eq_false rfl) rfl ?_
  refine T_iconst (pc' := 24) dX12_init_23 (by decide) rfl ?_
  refine T_bipush (pc' := 26) dX12_init_24 rfl (by decide) rfl ?_
  refine T_cast (pc' := 27) dX12_init_26 (by decide) rfl (by decide) (by decide) (by decide) rfl ?_
  refine T_dup (pc' := 28) dX12_init_27 (Nat.ne_of_beq_eq_false rfl) rfl ?_
  refine T_iconst (pc' := 29) dX12_init_28 (by decide) rfl ?_
  refine T_bipush (pc' := 31) dX12_init_29 rfl (by decide) rfl ?_
  refine T_cast (pc' := 32) dX12_init_31 (by decide) rfl (by decide) (by decide) (by decide) rfl ?_
  refine T_dup (pc' := 33) dX12_init_32 (Nat.ne_of_beq_eq_false rfl) rfl ?_
  refine T_iconst (pc' := 34) dX12_init_33 (by decide) rfl ?_
  refine T_bipush (pc' := 36) dX12_init_34 rfl (by decide) rfl ?_
  refine T_cast (pc' := 37) dX12_init_36 (by decide) rfl (by decide) (by decide) (by decide) rfl ?_
  refine T_dup (pc' := 38) dX12_init_37 (Nat.ne_of_beq_eq_false rfl) rfl ?_
  refine T_iconst (pc' := 39) dX12_init_38 (by decide) rfl ?_
  refine T_bipush (pc' := 41) dX12_init_39 rfl (by decide) rfl ?_
  refine T_cast (pc' := 42) dX12_init_41 (by decide) rfl (by decide) (by decide) (by decide) rfl ?_
  refine T_pfF (y := 68) (k := 10) (pc' := 45) dX12_init_42 rfl cl12 (by decide) rfl (by decide) flX12_17 rfl rfl rfl rfl rfl rfl (fun _ => by decide) (fun _ => (show (68 : Int) < ((69 : Nat) : Int) by decide)) rfl ?_
  refine T_aload_n (i := 0) (pc' := 46) dX12_init_45 rfl rfl rfl ?_
  refine T_iconst (pc' := 47) dX12_init_46 (by decide) rfl ?_
  refine K_arr (n := 4) (S' := Sq 70) (nI := 69) (c' := 3) (s' := 1608) (pc' := 49) dX12_init_47 acC rfl (Or.inr (Or.inr (Or.inr ⟨rfl, rfl, rfl⟩))) rfl (by decide) ⟨(by decide), (by decide)⟩ (by decide) rfl rfl rfl rfl rfl ?_
  refine T_dup (pc' := 50) dX12_init_49 (Nat.ne_of_beq_eq_false rfl) rfl ?_
  refine T_iconst (pc' := 51) dX12_init_50 (by decide) rfl ?_
  refine T_bipush (pc' := 53) dX12_init_51 rfl (by decide) rfl ?_
  refine T_cast (pc' := 54) dX12_init_53 (by decide) rfl (by decide) (by decide) (by decide) rfl ?_
  refine T_dup (pc' := 55) dX12_init_54 (Nat.ne_of_beq_eq_false rfl) rfl ?_
  refine T_iconst (pc' := 56) dX12_init_55 (by decide) rfl ?_
  refine T_bipush (pc' := 58) dX12_init_56 rfl (by decide) rfl ?_
  refine T_cast (pc' := 59) dX12_init_58 (by decide) rfl (by decide) (by decide) (by decide) rfl ?_
  refine T_dup (pc' := 60) dX12_init_59 (Nat.ne_of_beq_eq_false rfl) rfl ?_
  refine T_iconst (pc' := 61) dX12_init_60 (by decide) rfl ?_
  refine T_bipush (pc' := 63) dX12_init_61 rfl (by decide) rfl ?_
  refine T_cast (pc' := 64) dX12_init_63 (by decide) rfl (by decide) (by decide) (by decide) rfl ?_
  refine T_dup (pc' := 65) dX12_init_64 (Nat.ne_of_beq_eq_false rfl) rfl ?_
  refine T_iconst (pc' := 66) dX12_init_65 (by decide) rfl ?_
  refine T_bipush (pc' := 68) dX12_init_66 rfl (by decide) rfl ?_
  refine T_cast (pc' := 69) dX12_init_68 (by decide) rfl (by decide) (by decide) (by decide) rfl ?_
  refine T_pfF (y := 69) (k := 11) (pc' := 72) dX12_init_69 rfl cl12 (by decide) rfl (by decide) flX12_21 rfl rfl rfl rfl rfl rfl (fun _ => by decide) (fun _ => (show (69 : Int) < ((70 : Nat) : Int) by decide)) rfl ?_
  refine T_aload_n (i := 0) (pc' := 73) dX12_init_72 rfl rfl rfl ?_
  refine T_iconst (pc' := 74) dX12_init_73 (by decide) rfl ?_
  refine K_arr (n := 4) (S' := Sq 71) (nI := 70) (c' := 4) (s' := 1612) (pc' := 76) dX12_init_74 acC rfl (Or.inr (Or.inr (Or.inr ⟨rfl, rfl, rfl⟩))) rfl (by decide) ⟨(by decide), (by decide)⟩ (by decide) rfl rfl rfl rfl rfl ?_
  refine T_dup (pc' := 77) dX12_init_76 (Nat.ne_of_beq_eq_false rfl) rfl ?_
  refine T_iconst (pc' := 78) dX12_init_77 (by decide) rfl ?_
  refine T_bipush (pc' := 80) dX12_init_78 rfl (by decide) rfl ?_
  refine T_cast (pc' := 81) dX12_init_80 (by decide) rfl (by decide) (by decide) (by decide) rfl ?_
  refine T_dup (pc' := 82) dX12_init_81 (Nat.ne_of_beq_eq_false rfl) rfl ?_
  refine T_iconst (pc' := 83) dX12_init_82 (by decide) rfl ?_
  refine T_bipush (pc' := 85) dX12_init_83 rfl (by decide) rfl ?_
  refine T_cast (pc' := 86) dX12_init_85 (by decide) rfl (by decide) (by decide) (by decide) rfl ?_
  refine T_dup (pc' := 87) dX12_init_86 (Nat.ne_of_beq_eq_false rfl) rfl ?_
  refine T_iconst (pc' := 88) dX12_init_87 (by decide) rfl ?_
  refine T_bipush (pc' := 90) dX12_init_88 rfl (by decide) rfl ?_
  refine T_cast (pc' := 91) dX12_init_90 (by decide) rfl (by decide) (by decide) (by decide) rfl ?_
  refine T_dup (pc' := 92) dX12_init_91 (Nat.ne_of_beq_eq_false rfl) rfl ?_
  refine T_iconst (pc' := 93) dX12_init_92 (by decide) rfl ?_
  refine T_bipush (pc' := 95) dX12_init_93 rfl (by decide) rfl ?_
  refine T_cast (pc' := 96) dX12_init_95 (by decide) rfl (by decide) (by decide) (by decide) rfl ?_
  refine T_pfF (y := 70) (k := 12) (pc' := 99) dX12_init_96 rfl cl12 (by decide) rfl (by decide) flX12_24 rfl rfl rfl rfl rfl rfl (fun _ => by decide) (fun _ => (show (70 : Int) < ((71 : Nat) : Int) by decide)) rfl ?_
  refine T_aload_n (i := 0) (pc' := 100) dX12_init_99 rfl rfl rfl ?_
  refine T_bipush (pc' := 102) dX12_init_100 rfl (by decide) rfl ?_
  refine K_arr (n := 6) (S' := Sq 72) (nI := 71) (c' := 5) (s' := 1618) (pc' := 104) dX12_init_102 acC rfl (Or.inr (Or.inr (Or.inr ⟨rfl, rfl, rfl⟩))) rfl (by decide) ⟨(by decide), (by decide)⟩ (by decide) rfl rfl rfl rfl rfl ?_
  refine T_dup (pc' := 105) dX12_init_104 (Nat.ne_of_beq_eq_false rfl) rfl ?_
  refine T_iconst (pc' := 106) dX12_init_105 (by decide) rfl ?_
  refine T_bipush (pc' := 108) dX12_init_106 rfl (by decide) rfl ?_
  refine T_cast (pc' := 109) dX12_init_108 (by decide) rfl (by decide) (by decide) (by decide) rfl ?_
  refine T_dup (pc' := 110) dX12_init_109 (Nat.ne_of_beq_eq_false rfl) rfl ?_
  refine T_iconst (pc' := 111) dX12_init_110 (by decide) rfl ?_
  refine T_bipush (pc' := 113) dX12_init_111 rfl (by decide) rfl ?_
  refine T_cast (pc' := 114) dX12_init_113 (by decide) rfl (by decide) (by decide) (by decide) rfl ?_
  refine T_dup (pc' := 115) dX12_init_114 (Nat.ne_of_beq_eq_false rfl) rfl ?_
  refine T_iconst (pc' := 116) dX12_init_115 (by decide) rfl ?_
  refine T_bipush (pc' := 118) dX12_init_116 rfl (by decide) rfl ?_
  refine T_cast (pc' := 119) dX12_init_118 (by decide) rfl (by decide) (by decide) (by decide) rfl ?_
  refine T_dup (pc' := 120) dX12_init_119 (Nat.ne_of_beq_eq_false rfl) rfl ?_
  refine T_iconst (pc' := 121) dX12_init_120 (by decide) rfl ?_
  refine T_bipush (pc' := 123) dX12_init_121 rfl (by decide) rfl ?_
  refine T_cast (pc' := 124) dX12_init_123 (by decide) rfl (by decide) (by decide) (by decide) rfl ?_
  refine T_dup (pc' := 125) dX12_init_124 (Nat.ne_of_beq_eq_false rfl) rfl ?_
  refine T_iconst (pc' := 126) dX12_init_125 (by decide) rfl ?_
  refine T_bipush (pc' := 128) dX12_init_126 rfl (by decide) rfl ?_
  refine T_cast (pc' := 129) dX12_init_128 (by decide) rfl (by decide) (by decide) (by decide) rfl ?_
  refine T_dup (pc' := 130) dX12_init_129 (Nat.ne_of_beq_eq_false rfl) rfl ?_
  refine T_iconst (pc' := 131) dX12_init_130 (by decide) rfl ?_
  refine T_bipush (pc' := 133) dX12_init_131 rfl (by decide) rfl ?_
  refine T_cast (pc' := 134) dX12_init_133 (by decide) rfl (by decide) (by decide) (by decide) rfl ?_
  refine T_pfF (y := 71) (k := 13) (pc' := 137) dX12_init_134 rfl cl12 (by decide) rfl (by decide) flX12_27 rfl rfl rfl rfl rfl rfl (fun _ => by decide) (fun _ => (show (71 : Int) < ((72 : Nat) : Int) by decide)) rfl ?_
  refine T_aload_n (i := 0) (pc' := 138) dX12_init_137 rfl rfl rfl ?_
  refine T_iconst (pc' := 139) dX12_init_138 (by decide) rfl ?_
  refine K_arr (n := 2) (S' := Sq 73) (nI := 72) (c' := 6) (s' := 1620) (pc' := 141) dX12_init_139 acC rfl (Or.inr (Or.inr (Or.inr ⟨rfl, rfl, rfl⟩))) rfl (by decide) ⟨(by decide), (by decide)⟩ (by decide) rfl rfl rfl rfl rfl ?_
  refine T_dup (pc' := 142) dX12_init_141 (Nat.ne_of_beq_eq_false rfl) rfl ?_
  refine T_iconst (pc' := 143) dX12_init_142 (by decide) rfl ?_
  refine T_bipush (pc' := 145) dX12_init_143 rfl (by decide) rfl ?_
  refine T_cast (pc' := 146) dX12_init_145 (by decide) rfl (by decide) (by decide) (by decide) rfl ?_
  refine T_dup (pc' := 147) dX12_init_146 (Nat.ne_of_beq_eq_false rfl) rfl ?_
  refine T_iconst (pc' := 148) dX12_init_147 (by decide) rfl ?_
  refine T_bipush (pc' := 150) dX12_init_148 rfl (by decide) rfl ?_
  refine T_cast (pc' := 151) dX12_init_150 (by decide) rfl (by decide) (by decide) (by decide) rfl ?_
  refine T_pfF (y := 72) (k := 14) (pc' := 154) dX12_init_151 rfl cl12 (by decide) rfl (by decide) flX12_30 rfl rfl rfl rfl rfl rfl (fun _ => by decide) (fun _ => (show (72 : Int) < ((73 : Nat) : Int) by decide)) rfl ?_
  refine T_aload_n (i := 0) (pc' := 155) dX12_init_154 rfl rfl rfl ?_
  refine T_iconst (pc' := 156) dX12_init_155 (by decide) rfl ?_
  refine K_arr (n := 4) (S' := Sq 74) (nI := 73) (c' := 7) (s' := 1624) (pc' := 158) dX12_init_156 acC rfl (Or.inr (Or.inr (Or.inr ⟨rfl, rfl, rfl⟩))) rfl (by decide) ⟨(by decide), (by decide)⟩ (by decide) rfl rfl rfl rfl rfl ?_
  refine T_dup (pc' := 159) dX12_init_158 (Nat.ne_of_beq_eq_false rfl) rfl ?_
  refine T_iconst (pc' := 160) dX12_init_159 (by decide) rfl ?_
  refine T_bipush (pc' := 162) dX12_init_160 rfl (by decide) rfl ?_
  refine T_cast (pc' := 163) dX12_init_162 (by decide) rfl (by decide) (by decide) (by decide) rfl ?_
  refine T_dup (pc' := 164) dX12_init_163 (Nat.ne_of_beq_eq_false rfl) rfl ?_
  refine T_iconst (pc' := 165) dX12_init_164 (by decide) rfl ?_
  refine T_bipush (pc' := 167) dX12_init_165 rfl (by decide) rfl ?_
  refine T_cast (pc' := 168) dX12_init_167 (by decide) rfl (by decide) (by decide) (by decide) rfl ?_
  refine T_dup (pc' := 169) dX12_init_168 (Nat.ne_of_beq_eq_false rfl) rfl ?_
  refine T_iconst (pc' := 170) dX12_init_169 (by decide) rfl ?_
  refine T_bipush (pc' := 172) dX12_init_170 rfl (by decide) rfl ?_
  refine T_cast (pc' := 173) dX12_init_172 (by decide) rfl (by decide) (by decide) (by decide) rfl ?_
  refine T_dup (pc' := 174) dX12_init_173 (Nat.ne_of_beq_eq_false rfl) rfl ?_
  refine T_iconst (pc' := 175) dX12_init_174 (by decide) rfl ?_
  refine T_bipush (pc' := 177) dX12_init_175 rfl (by decide) rfl ?_
  refine T_cast (pc' := 178) dX12_init_177 (by decide) rfl (by decide) (by decide) (by decide) rfl ?_
  refine T_pfF (y := 73) (k := 15) (pc' := 181) dX12_init_178 rfl cl12 (by decide) rfl (by decide) flX12_33 rfl rfl rfl rfl rfl rfl (fun _ => by decide) (fun _ => (show (73 : Int) < ((74 : Nat) : Int) by decide)) rfl ?_
  refine T_aload_n (i := 0) (pc' := 182) dX12_init_181 rfl rfl rfl ?_
  refine T_iconst (pc' := 183) dX12_init_182 (by decide) rfl ?_
  refine K_arr (n := 5) (S' := Sq 75) (nI := 74) (c' := 8) (s' := 1629) (pc' := 185) dX12_init_183 acC rfl (Or.inr (Or.inr (Or.inr ⟨rfl, rfl, rfl⟩))) rfl (by decide) ⟨(by decide), (by decide)⟩ (by decide) rfl rfl rfl rfl rfl ?_
  refine T_dup (pc' := 186) dX12_init_185 (Nat.ne_of_beq_eq_false rfl) rfl ?_
  refine T_iconst (pc' := 187) dX12_init_186 (by decide) rfl ?_
  refine T_bipush (pc' := 189) dX12_init_187 rfl (by decide) rfl ?_
  refine T_cast (pc' := 190) dX12_init_189 (by decide) rfl (by decide) (by decide) (by decide) rfl ?_
  refine T_dup (pc' := 191) dX12_init_190 (Nat.ne_of_beq_eq_false rfl) rfl ?_
  refine T_iconst (pc' := 192) dX12_init_191 (by decide) rfl ?_
  refine T_bipush (pc' := 194) dX12_init_192 rfl (by decide) rfl ?_
  refine T_cast (pc' := 195) dX12_init_194 (by decide) rfl (by decide) (by decide) (by decide) rfl ?_
  refine T_dup (pc' := 196) dX12_init_195 (Nat.ne_of_beq_eq_false rfl) rfl ?_
  refine T_iconst (pc' := 197) dX12_init_196 (by decide) rfl ?_
  refine T_bipush (pc' := 199) dX12_init_197 rfl (by decide) rfl ?_
  refine T_cast (pc' := 200) dX12_init_199 (by decide) rfl (by decide) (by decide) (by decide) rfl ?_
  refine T_dup (pc' := 201) dX12_init_200 (Nat.ne_of_beq_eq_false rfl) rfl ?_
  refine T_iconst (pc' := 202) dX12_init_201 (by decide) rfl ?_
  refine T_bipush (pc' := 204) dX12_init_202 rfl (by decide) rfl ?_
  refine T_cast (pc' := 205) dX12_init_204 (by decide) rfl (by decide) (by decide) (by decide) rfl ?_
  refine T_dup (pc' := 206) dX12_init_205 (Nat.ne_of_beq_eq_false rfl) rfl ?_
  refine T_iconst (pc' := 207) dX12_init_206 (by decide) rfl ?_
  refine T_bipush (pc' := 209) dX12_init_207 rfl (by decide) rfl ?_
  refine T_cast (pc' := 210) dX12_init_209 (by decide) rfl (by decide) (by decide) (by decide) rfl ?_
  refine T_pfF (y := 74) (k := 16) (pc' := 213) dX12_init_210 rfl cl12 (by decide) rfl (by decide) flX12_36 rfl rfl rfl rfl rfl rfl (fun _ => by decide) (fun _ => (show (74 : Int) < ((75 : Nat) : Int) by decide)) rfl ?_
  refine T_aload_n (i := 0) (pc' := 214) dX12_init_213 rfl rfl rfl ?_
  refine T_iconst (pc' := 215) dX12_init_214 (by decide) rfl ?_
  refine K_arr (n := 5) (S' := Sq 76) (nI := 75) (c' := 9) (s' := 1634) (pc' := 217) dX12_init_215 acC rfl (Or.inr (Or.inr (Or.inr ⟨rfl, rfl, rfl⟩))) rfl (by decide) ⟨(by decide), (by decide)⟩ (by decide) rfl rfl rfl rfl rfl ?_
  refine T_dup (pc' := 218) dX12_init_217 (Nat.ne_of_beq_eq_false rfl) rfl ?_
  refine T_iconst (pc' := 219) dX12_init_218 (by decide) rfl ?_
  refine T_bipush (pc' := 221) dX12_init_219 rfl (by decide) rfl ?_
  refine T_cast (pc' := 222) dX12_init_221 (by decide) rfl (by decide) (by decide) (by decide) rfl ?_
  refine T_dup (pc' := 223) dX12_init_222 (Nat.ne_of_beq_eq_false rfl) rfl ?_
  refine T_iconst (pc' := 224) dX12_init_223 (by decide) rfl ?_
  refine T_bipush (pc' := 226) dX12_init_224 rfl (by decide) rfl ?_
  refine T_cast (pc' := 227) dX12_init_226 (by decide) rfl (by decide) (by decide) (by decide) rfl ?_
  refine T_dup (pc' := 228) dX12_init_227 (Nat.ne_of_beq_eq_false rfl) rfl ?_
  refine T_iconst (pc' := 229) dX12_init_228 (by decide) rfl ?_
  refine T_bipush (pc' := 231) dX12_init_229 rfl (by decide) rfl ?_
  refine T_cast (pc' := 232) dX12_init_231 (by decide) rfl (by decide) (by decide) (by decide) rfl ?_
  refine T_dup (pc' := 233) dX12_init_232 (Nat.ne_of_beq_eq_false rfl) rfl ?_
  refine T_iconst (pc' := 234) dX12_init_233 (by decide) rfl ?_
  refine T_bipush (pc' := 236) dX12_init_234 rfl (by decide) rfl ?_
  refine T_cast (pc' := 237) dX12_init_236 (by decide) rfl (by decide) (by decide) (by decide) rfl ?_
  refine T_dup (pc' := 238) dX12_init_237 (Nat.ne_of_beq_eq_false rfl) rfl ?_
  refine T_iconst (pc' := 239) dX12_init_238 (by decide) rfl ?_
  refine T_bipush (pc' := 241) dX12_init_239 rfl (by decide) rfl ?_
  refine T_cast (pc' := 242) dX12_init_241 (by decide) rfl (by decide) (by decide) (by decide) rfl ?_
  refine T_pfF (y := 75) (k := 17) (pc' := 245) dX12_init_242 rfl cl12 (by decide) rfl (by decide) flX12_39 rfl rfl rfl rfl rfl rfl (fun _ => by decide) (fun _ => (show (75 : Int) < ((76 : Nat) : Int) by decide)) rfl ?_
  refine T_aload_n (i := 0) (pc' := 246) dX12_init_245 rfl rfl rfl ?_
  refine T_iconst (pc' := 247) dX12_init_246 (by decide) rfl ?_
  refine K_arr (n := 5) (S' := Sq 77) (nI := 76) (c' := 10) (s' := 1639) (pc' := 249) dX12_init_247 acC rfl (Or.inr (Or.inr (Or.inr ⟨rfl, rfl, rfl⟩))) rfl (by decide) ⟨(by decide), (by decide)⟩ (by decide) rfl rfl rfl rfl rfl ?_
  refine T_dup (pc' := 250) dX12_init_249 (Nat.ne_of_beq_eq_false rfl) rfl ?_
  refine T_iconst (pc' := 251) dX12_init_250 (by decide) rfl ?_
  refine T_bipush (pc' := 253) dX12_init_251 rfl (by decide) rfl ?_
  refine T_cast (pc' := 254) dX12_init_253 (by decide) rfl (by decide) (by decide) (by decide) rfl ?_
  refine T_dup (pc' := 255) dX12_init_254 (Nat.ne_of_beq_eq_false rfl) rfl ?_
  refine T_iconst (pc' := 256) dX12_init_255 (by decide) rfl ?_
  refine T_bipush (pc' := 258) dX12_init_256 rfl (by decide) rfl ?_
  refine T_cast (pc' := 259) dX12_init_258 (by decide) rfl (by decide) (by decide) (by decide) rfl ?_
  refine T_dup (pc' := 260) dX12_init_259 (Nat.ne_of_beq_eq_false rfl) rfl ?_
  refine T_iconst (pc' := 261) dX12_init_260 (by decide) rfl ?_
  refine T_bipush (pc' := 263) dX12_init_261 rfl (by decide) rfl ?_
  refine T_cast (pc' := 264) dX12_init_263 (by decide) rfl (by decide) (by decide) (by decide) rfl ?_
  refine T_dup (pc' := 265) dX12_init_264 (Nat.ne_of_beq_eq_false rfl) rfl ?_
  refine T_iconst (pc' := 266) dX12_init_265 (by decide) rfl ?_
  refine T_bipush (pc' := 268) dX12_init_266 rfl (by decide) rfl ?_
  refine T_cast (pc' := 269) dX12_init_268 (by decide) rfl (by decide) (by decide) (by decide) rfl ?_
  refine T_dup (pc' := 270) dX12_init_269 (Nat.ne_of_beq_eq_false rfl) rfl ?_
  refine T_iconst (pc' := 271) dX12_init_270 (by decide) rfl ?_
  refine T_bipush (pc' := 273) dX12_init_271 rfl (by decide) rfl ?_
  refine T_cast (pc' := 274) dX12_init_273 (by decide) rfl (by decide) (by decide) (by decide) rfl ?_
  refine T_pfF (y := 76) (k := 18) (pc' := 277) dX12_init_274 rfl cl12 (by decide) rfl (by decide) flX12_42 rfl rfl rfl rfl rfl rfl (fun _ => by decide) (fun _ => (show (76 : Int) < ((77 : Nat) : Int) by decide)) rfl ?_
  refine T_aload_n (i := 0) (pc' := 278) dX12_init_277 rfl rfl rfl ?_
  refine T_bipush (pc' := 280) dX12_init_278 rfl (by decide) rfl ?_
  refine K_arr (n := 6) (S' := Sq 78) (nI := 77) (c' := 11) (s' := 1645) (pc' := 282) dX12_init_280 acC rfl (Or.inr (Or.inr (Or.inr ⟨rfl, rfl, rfl⟩))) rfl (by decide) ⟨(by decide), (by decide)⟩ (by decide) rfl rfl rfl rfl rfl ?_
  refine T_dup (pc' := 283) dX12_init_282 (Nat.ne_of_beq_eq_false rfl) rfl ?_
  refine T_iconst (pc' := 284) dX12_init_283 (by decide) rfl ?_
  refine T_bipush (pc' := 286) dX12_init_284 rfl (by decide) rfl ?_
  refine T_cast (pc' := 287) dX12_init_286 (by decide) rfl (by decide) (by decide) (by decide) rfl ?_
  refine T_dup (pc' := 288) dX12_init_287 (Nat.ne_of_beq_eq_false rfl) rfl ?_
  refine T_iconst (pc' := 289) dX12_init_288 (by decide) rfl ?_
  refine T_bipush (pc' := 291) dX12_init_289 rfl (by decide) rfl ?_
  refine T_cast (pc' := 292) dX12_init_291 (by decide) rfl (by decide) (by decide) (by decide) rfl ?_
  refine T_dup (pc' := 293) dX12_init_292 (Nat.ne_of_beq_eq_false rfl) rfl ?_
  refine T_iconst (pc' := 294) dX12_init_293 (by decide) rfl ?_
  refine T_bipush (pc' := 296) dX12_init_294 rfl (by decide) rfl ?_
  refine T_cast (pc' := 297) dX12_init_296 (by decide) rfl (by decide) (by decide) (by decide) rfl ?_
  refine T_dup (pc' := 298) dX12_init_297 (Nat.ne_of_beq_eq_false rfl) rfl ?_
  refine T_iconst (pc' := 299) dX12_init_298 (by decide) rfl ?_
  refine T_bipush (pc' := 301) dX12_init_299 rfl (by decide) rfl ?_
  refine T_cast (pc' := 302) dX12_init_301 (by decide) rfl (by decide) (by decide) (by decide) rfl ?_
  refine T_dup (pc' := 303) dX12_init_302 (Nat.ne_of_beq_eq_false rfl) rfl ?_
  refine T_iconst (pc' := 304) dX12_init_303 (by decide) rfl ?_
  refine T_bipush (pc' := 306) dX12_init_304 rfl (by decide) rfl ?_
  refine T_cast (pc' := 307) dX12_init_306 (by decide) rfl (by decide) (by decide) (by decide) rfl ?_
  refine T_dup (pc' := 308) dX12_init_307 (Nat.ne_of_beq_eq_false rfl) rfl ?_
  refine T_iconst (pc' := 309) dX12_init_308 (by decide) rfl ?_
  refine T_bipush (pc' := 311) dX12_init_309 rfl (by decide) rfl ?_
  refine T_cast (pc' := 312) dX12_init_311 (by decide) rfl (by decide) (by decide) (by decide) rfl ?_
  refine T_pfF (y := 77) (k := 19) (pc' := 315) dX12_init_312 rfl cl12 (by decide) rfl (by decide) flX12_45 rfl rfl rfl rfl rfl rfl (fun _ => by decide) (fun _ => (show (77 : Int) < ((78 : Nat) : Int) by decide)) rfl ?_
  refine T_aload_n (i := 0) (pc' := 316) dX12_init_315 rfl rfl rfl ?_
  refine T_iconst (pc' := 317) dX12_init_316 (by decide) rfl ?_
  refine K_arr (n := 5) (S' := Sq 79) (nI := 78) (c' := 12) (s' := 1650) (pc' := 319) dX12_init_317 acC rfl (Or.inr (Or.inr (Or.inr ⟨rfl, rfl, rfl⟩))) rfl (by decide) ⟨(by decide), (by decide)⟩ (by decide) rfl rfl rfl rfl rfl ?_
  refine T_dup (pc' := 320) dX12_init_319 (Nat.ne_of_beq_eq_false rfl) rfl ?_
  refine T_iconst (pc' := 321) dX12_init_320 (by decide) rfl ?_
  refine T_bipush (pc' := 323) dX12_init_321 rfl (by decide) rfl ?_
  refine T_cast (pc' := 324) dX12_init_323 (by decide) rfl (by decide) (by decide) (by decide) rfl ?_
  refine T_dup (pc' := 325) dX12_init_324 (Nat.ne_of_beq_eq_false rfl) rfl ?_
  refine T_iconst (pc' := 326) dX12_init_325 (by decide) rfl ?_
  refine T_bipush (pc' := 328) dX12_init_326 rfl (by decide) rfl ?_
  refine T_cast (pc' := 329) dX12_init_328 (by decide) rfl (by decide) (by decide) (by decide) rfl ?_
  refine T_dup (pc' := 330) dX12_init_329 (Nat.ne_of_beq_eq_false rfl) rfl ?_
  refine T_iconst (pc' := 331) dX12_init_330 (by decide) rfl ?_
  refine T_bipush (pc' := 333) dX12_init_331 rfl (by decide) rfl ?_
  refine T_cast (pc' := 334) dX12_init_333 (by decide) rfl (by decide) (by decide) (by decide) rfl ?_
  refine T_dup (pc' := 335) dX12_init_334 (Nat.ne_of_beq_eq_false rfl) rfl ?_
  refine T_iconst (pc' := 336) dX12_init_335 (by decide) rfl ?_
  refine T_bipush (pc' := 338) dX12_init_336 rfl (by decide) rfl ?_
  refine T_cast (pc' := 339) dX12_init_338 (by decide) rfl (by decide) (by decide) (by decide) rfl ?_
  refine T_dup (pc' := 340) dX12_init_339 (Nat.ne_of_beq_eq_false rfl) rfl ?_
  refine T_iconst (pc' := 341) dX12_init_340 (by decide) rfl ?_
  refine T_bipush (pc' := 343) dX12_init_341 rfl (by decide) rfl ?_
  refine T_cast (pc' := 344) dX12_init_343 (by decide) rfl (by decide) (by decide) (by decide) rfl ?_
  refine T_pfF (y := 78) (k := 20) (pc' := 347) dX12_init_344 rfl cl12 (by decide) rfl (by decide) flX12_48 rfl rfl rfl rfl rfl rfl (fun _ => by decide) (fun _ => (show (78 : Int) < ((79 : Nat) : Int) by decide)) rfl ?_
  refine T_aload_n (i := 0) (pc' := 348) dX12_init_347 rfl rfl rfl ?_
  refine T_iconst (pc' := 349) dX12_init_348 (by decide) rfl ?_
  refine K_arr (n := 4) (S' := Sq 80) (nI := 79) (c' := 13) (s' := 1654) (pc' := 351) dX12_init_349 acC rfl (Or.inr (Or.inr (Or.inr ⟨rfl, rfl, rfl⟩))) rfl (by decide) ⟨(by decide), (by decide)⟩ (by decide) rfl rfl rfl rfl rfl ?_
  refine T_dup (pc' := 352) dX12_init_351 (Nat.ne_of_beq_eq_false rfl) rfl ?_
  refine T_iconst (pc' := 353) dX12_init_352 (by decide) rfl ?_
  refine T_bipush (pc' := 355) dX12_init_353 rfl (by decide) rfl ?_
  refine T_cast (pc' := 356) dX12_init_355 (by decide) rfl (by decide) (by decide) (by decide) rfl ?_
  refine T_dup (pc' := 357) dX12_init_356 (Nat.ne_of_beq_eq_false rfl) rfl ?_
  refine T_iconst (pc' := 358) dX12_init_357 (by decide) rfl ?_
  refine T_bipush (pc' := 360) dX12_init_358 rfl (by decide) rfl ?_
  refine T_cast (pc' := 361) dX12_init_360 (by decide) rfl (by decide) (by decide) (by decide) rfl ?_
  refine T_dup (pc' := 362) dX12_init_361 (Nat.ne_of_beq_eq_false rfl) rfl ?_
  refine T_iconst (pc' := 363) dX12_init_362 (by decide) rfl ?_
  refine T_bipush (pc' := 365) dX12_init_363 rfl (by decide) rfl ?_
  refine T_cast (pc' := 366) dX12_init_365 (by decide) rfl (by decide) (by decide) (by decide) rfl ?_
  refine T_dup (pc' := 367) dX12_init_366 (Nat.ne_of_beq_eq_false rfl) rfl ?_
  refine T_iconst (pc' := 368) dX12_init_367 (by decide) rfl ?_
  refine T_bipush (pc' := 370) dX12_init_368 rfl (by decide) rfl ?_
  refine T_cast (pc' := 371) dX12_init_370 (by decide) rfl (by decide) (by decide) (by decide) rfl ?_
  refine T_pfF (y := 79) (k := 21) (pc' := 374) dX12_init_371 rfl cl12 (by decide) rfl (by decide) flX12_51 rfl rfl rfl rfl rfl rfl (fun _ => by decide) (fun _ => (show (79 : Int) < ((80 : Nat) : Int) by decide)) rfl ?_
  refine T_aload_n (i := 0) (pc' := 375) dX12_init_374 rfl rfl rfl ?_
  refine T_iconst (pc' := 376) dX12_init_375 (by decide) rfl ?_
  refine K_arr (n := 5) (S' := Sq 81) (nI := 80) (c' := 14) (s' := 1659) (pc' := 378) dX12_init_376 acC rfl (Or.inr (Or.inr (Or.inr ⟨rfl, rfl, rfl⟩))) rfl (by decide) ⟨(by decide), (by decide)⟩ (by decide) rfl rfl rfl rfl rfl ?_
  refine T_dup (pc' := 379) dX12_init_378 (Nat.ne_of_beq_eq_false rfl) rfl ?_
  refine T_iconst (pc' := 380) dX12_init_379 (by decide) rfl ?_
  refine T_bipush (pc' := 382) dX12_init_380 rfl (by decide) rfl ?_
  refine T_cast (pc' := 383) dX12_init_382 (by decide) rfl (by decide) (by decide) (by decide) rfl ?_
  refine T_dup (pc' := 384) dX12_init_383 (Nat.ne_of_beq_eq_false rfl) rfl ?_
  refine T_iconst (pc' := 385) dX12_init_384 (by decide) rfl ?_
  refine T_bipush (pc' := 387) dX12_init_385 rfl (by decide) rfl ?_
  refine T_cast (pc' := 388) dX12_init_387 (by decide) rfl (by decide) (by decide) (by decide) rfl ?_
  refine T_dup (pc' := 389) dX12_init_388 (Nat.ne_of_beq_eq_false rfl) rfl ?_
  refine T_iconst (pc' := 390) dX12_init_389 (by decide) rfl ?_
  refine T_bipush (pc' := 392) dX12_init_390 rfl (by decide) rfl ?_
  refine T_cast (pc' := 393) dX12_init_392 (by decide) rfl (by decide) (by decide) (by decide) rfl ?_
  refine T_dup (pc' := 394) dX12_init_393 (Nat.ne_of_beq_eq_false rfl) rfl ?_
  refine T_iconst (pc' := 395) dX12_init_394 (by decide) rfl ?_
  refine T_bipush (pc' := 397) dX12_init_395 rfl (by decide) rfl ?_
  refine T_cast (pc' := 398) dX12_init_397 (by decide) rfl (by decide) (by decide) (by decide) rfl ?_
  refine T_dup (pc' := 399) dX12_init_398 (Nat.ne_of_beq_eq_false rfl) rfl ?_
  refine T_iconst (pc' := 400) dX12_init_399 (by decide) rfl ?_
  refine T_bipush (pc' := 402) dX12_init_400 rfl (by decide) rfl ?_
  refine T_cast (pc' := 403) dX12_init_402 (by decide) rfl (by decide) (by decide) (by decide) rfl ?_
  refine T_pfF (y := 80) (k := 22) (pc' := 406) dX12_init_403 rfl cl12 (by decide) rfl (by decide) flX12_54 rfl rfl rfl rfl rfl rfl (fun _ => by decide) (fun _ => (show (80 : Int) < ((81 : Nat) : Int) by decide)) rfl ?_
  refine T_aload_n (i := 0) (pc' := 407) dX12_init_406 rfl rfl rfl ?_
  refine T_bipush (pc' := 409) dX12_init_407 rfl (by decide) rfl ?_
  refine K_arr (n := 6) (S' := Sq 82) (nI := 81) (c' := 15) (s' := 1665) (pc' := 411) dX12_init_409 acC rfl (Or.inr (Or.inr (Or.inr ⟨rfl, rfl, rfl⟩))) rfl (by decide) ⟨(by decide), (by decide)⟩ (by decide) rfl rfl rfl rfl rfl ?_
  refine T_dup (pc' := 412) dX12_init_411 (Nat.ne_of_beq_eq_false rfl) rfl ?_
  refine T_iconst (pc' := 413) dX12_init_412 (by decide) rfl ?_
  refine T_bipush (pc' := 415) dX12_init_413 rfl (by decide) rfl ?_
  refine T_cast (pc' := 416) dX12_init_415 (by decide) rfl (by decide) (by decide) (by decide) rfl ?_
  refine T_dup (pc' := 417) dX12_init_416 (Nat.ne_of_beq_eq_false rfl) rfl ?_
  refine T_iconst (pc' := 418) dX12_init_417 (by decide) rfl ?_
  refine T_bipush (pc' := 420) dX12_init_418 rfl (by decide) rfl ?_
  refine T_cast (pc' := 421) dX12_init_420 (by decide) rfl (by decide) (by decide) (by decide) rfl ?_
  refine T_dup (pc' := 422) dX12_init_421 (Nat.ne_of_beq_eq_false rfl) rfl ?_
  refine T_iconst (pc' := 423) dX12_init_422 (by decide) rfl ?_
  refine T_bipush (pc' := 425) dX12_init_423 rfl (by decide) rfl ?_
  refine T_cast (pc' := 426) dX12_init_425 (by decide) rfl (by decide) (by decide) (by decide) rfl ?_
  refine T_dup (pc' := 427) dX12_init_426 (Nat.ne_of_beq_eq_false rfl) rfl ?_
  refine T_iconst (pc' := 428) dX12_init_427 (by decide) rfl ?_
  refine T_bipush (pc' := 430) dX12_init_428 rfl (by decide) rfl ?_
  refine T_cast (pc' := 431) dX12_init_430 (by decide) rfl (by decide) (by decide) (by decide) rfl ?_
  refine T_dup (pc' := 432) dX12_init_431 (Nat.ne_of_beq_eq_false rfl) rfl ?_
  refine T_iconst (pc' := 433) dX12_init_432 (by decide) rfl ?_
  refine T_bipush (pc' := 435) dX12_init_433 rfl (by decide) rfl ?_
  refine T_cast (pc' := 436) dX12_init_435 (by decide) rfl (by decide) (by decide) (by decide) rfl ?_
  refine T_dup (pc' := 437) dX12_init_436 (Nat.ne_of_beq_eq_false rfl) rfl ?_
  refine T_iconst (pc' := 438) dX12_init_437 (by decide) rfl ?_
  refine T_bipush (pc' := 440) dX12_init_438 rfl (by decide) rfl ?_
  refine T_cast (pc' := 441) dX12_init_440 (by decide) rfl (by decide) (by decide) (by decide) rfl ?_
  refine T_pfF (y := 81) (k := 23) (pc' := 444) dX12_init_441 rfl cl12 (by decide) rfl (by decide) flX12_57 rfl rfl rfl rfl rfl rfl (fun _ => by decide) (fun _ => (show (81 : Int) < ((82 : Nat) : Int) by decide)) rfl ?_
  refine T_aload_n (i := 0) (pc' := 445) dX12_init_444 rfl rfl rfl ?_
  refine T_iconst (pc' := 446) dX12_init_445 (by decide) rfl ?_
  refine K_arr (n := 4) (S' := Sq 83) (nI := 82) (c' := 16) (s' := 1669) (pc' := 448) dX12_init_446 acC rfl (Or.inr (Or.inr (Or.inr ⟨rfl, rfl, rfl⟩))) rfl (by decide) ⟨(by decide), (by decide)⟩ (by decide) rfl rfl rfl rfl rfl ?_
  refine T_dup (pc' := 449) dX12_init_448 (Nat.ne_of_beq_eq_false rfl) rfl ?_
  refine T_iconst (pc' := 450) dX12_init_449 (by decide) rfl ?_
  refine T_bipush (pc' := 452) dX12_init_450 rfl (by decide) rfl ?_
  refine T_cast (pc' := 453) dX12_init_452 (by decide) rfl (by decide) (by decide) (by decide) rfl ?_
  refine T_dup (pc' := 454) dX12_init_453 (Nat.ne_of_beq_eq_false rfl) rfl ?_
  refine T_iconst (pc' := 455) dX12_init_454 (by decide) rfl ?_
  refine T_bipush (pc' := 457) dX12_init_455 rfl (by decide) rfl ?_
  refine T_cast (pc' := 458) dX12_init_457 (by decide) rfl (by decide) (by decide) (by decide) rfl ?_
  refine T_dup (pc' := 459) dX12_init_458 (Nat.ne_of_beq_eq_false rfl) rfl ?_
  refine T_iconst (pc' := 460) dX12_init_459 (by decide) rfl ?_
  refine T_bipush (pc' := 462) dX12_init_460 rfl (by decide) rfl ?_
  refine T_cast (pc' := 463) dX12_init_462 (by decide) rfl (by decide) (by decide) (by decide) rfl ?_
  refine T_dup (pc' := 464) dX12_init_463 (Nat.ne_of_beq_eq_false rfl) rfl ?_
  refine T_iconst (pc' := 465) dX12_init_464 (by decide) rfl ?_
  refine T_bipush (pc' := 467) dX12_init_465 rfl (by decide) rfl ?_
  refine T_cast (pc' := 468) dX12_init_467 (by decide) rfl (by decide) (by decide) (by decide) rfl ?_
  refine T_pfF (y := 82) (k := 24) (pc' := 471) dX12_init_468 rfl cl12 (by decide) rfl (by decide) flX12_60 rfl rfl rfl rfl rfl rfl (fun _ => by decide) (fun _ => (show (82 : Int) < ((83 : Nat) : Int) by decide)) rfl ?_
  refine T_aload_n (i := 0) (pc' := 472) dX12_init_471 rfl rfl rfl ?_
  refine T_iconst (pc' := 473) dX12_init_472 (by decide) rfl ?_
  refine K_arr (n := 4) (S' := Sq 84) (nI := 83) (c' := 17) (s' := 1673) (pc' := 475) dX12_init_473 acC rfl (Or.inr (Or.inr (Or.inr ⟨rfl, rfl, rfl⟩))) rfl (by decide) ⟨(by decide), (by decide)⟩ (by decide) rfl rfl rfl rfl rfl ?_
  refine T_dup (pc' := 476) dX12_init_475 (Nat.ne_of_beq_eq_false rfl) rfl ?_
  refine T_iconst (pc' := 477) dX12_init_476 (by decide) rfl ?_
  refine T_bipush (pc' := 479) dX12_init_477 rfl (by decide) rfl ?_
  refine T_cast (pc' := 480) dX12_init_479 (by decide) rfl (by decide) (by decide) (by decide) rfl ?_
  refine T_dup (pc' := 481) dX12_init_480 (Nat.ne_of_beq_eq_false rfl) rfl ?_
  refine T_iconst (pc' := 482) dX12_init_481 (by decide) rfl ?_
  refine T_bipush (pc' := 484) dX12_init_482 rfl (by decide) rfl ?_
  refine T_cast (pc' := 485) dX12_init_484 (by decide) rfl (by decide) (by decide) (by decide) rfl ?_
  refine T_dup (pc' := 486) dX12_init_485 (Nat.ne_of_beq_eq_false rfl) rfl ?_
  refine T_iconst (pc' := 487) dX12_init_486 (by decide) rfl ?_
  refine T_bipush (pc' := 489) dX12_init_487 rfl (by decide) rfl ?_
  refine T_cast (pc' := 490) dX12_init_489 (by decide) rfl (by decide) (by decide) (by decide) rfl ?_
  refine T_dup (pc' := 491) dX12_init_490 (Nat.ne_of_beq_eq_false rfl) rfl ?_
  refine T_iconst (pc' := 492) dX12_init_491 (by decide) rfl ?_
  refine T_bipush (pc' := 494) dX12_init_492 rfl (by decide) rfl ?_
  refine T_cast (pc' := 495) dX12_init_494 (by decide) rfl (by decide) (by decide) (by decide) rfl ?_
  refine T_pfF (y := 83) (k := 25) (pc' := 498) dX12_init_495 rfl cl12 (by decide) rfl (by decide) flX12_63 rfl rfl rfl rfl rfl rfl (fun _ => by decide) (fun _ => (show (83 : Int) < ((84 : Nat) : Int) by decide)) rfl ?_
  refine T_aload_n (i := 0) (pc' := 499) dX12_init_498 rfl rfl rfl ?_
  refine T_bipush (pc' := 501) dX12_init_499 rfl (by decide) rfl ?_
  refine K_arr (n := 6) (S' := Sq 85) (nI := 84) (c' := 18) (s' := 1679) (pc' := 503) dX12_init_501 acC rfl (Or.inr (Or.inr (Or.inr ⟨rfl, rfl, rfl⟩))) rfl (by decide) ⟨(by decide), (by decide)⟩ (by decide) rfl rfl rfl rfl rfl ?_
  refine T_dup (pc' := 504) dX12_init_503 (Nat.ne_of_beq_eq_false rfl) rfl ?_
  refine T_iconst (pc' := 505) dX12_init_504 (by decide) rfl ?_
  refine T_bipush (pc' := 507) dX12_init_505 rfl (by decide) rfl ?_
  refine T_cast (pc' := 508) dX12_init_507 (by decide) rfl (by decide) (by decide) (by decide) rfl ?_
  refine T_dup (pc' := 509) dX12_init_508 (Nat.ne_of_beq_eq_false rfl) rfl ?_
  refine T_iconst (pc' := 510) dX12_init_509 (by decide) rfl ?_
  refine T_bipush (pc' := 512) dX12_init_510 rfl (by decide) rfl ?_
  refine T_cast (pc' := 513) dX12_init_512 (by decide) rfl (by decide) (by decide) (by decide) rfl ?_
  refine T_dup (pc' := 514) dX12_init_513 (Nat.ne_of_beq_eq_false rfl) rfl ?_
  refine T_iconst (pc' := 515) dX12_init_514 (by decide) rfl ?_
  refine T_bipush (pc' := 517) dX12_init_515 rfl (by decide) rfl ?_
  refine T_cast (pc' := 518) dX12_init_517 (by decide) rfl (by decide) (by decide) (by decide) rfl ?_
  refine T_dup (pc' := 519) dX12_init_518 (Nat.ne_of_beq_eq_false rfl) rfl ?_
  refine T_iconst (pc' := 520) dX12_init_519 (by decide) rfl ?_
  refine T_bipush (pc' := 522) dX12_init_520 rfl (by decide) rfl ?_
  refine T_cast (pc' := 523) dX12_init_522 (by decide) rfl (by decide) (by decide) (by decide) rfl ?_
  refine T_dup (pc' := 524) dX12_init_523 (Nat.ne_of_beq_eq_false rfl) rfl ?_
  refine T_iconst (pc' := 525) dX12_init_524 (by decide) rfl ?_
  refine T_bipush (pc' := 527) dX12_init_525 rfl (by decide) rfl ?_
  refine T_cast (pc' := 528) dX12_init_527 (by decide) rfl (by decide) (by decide) (by decide) rfl ?_
  refine T_dup (pc' := 529) dX12_init_528 (Nat.ne_of_beq_eq_false rfl) rfl ?_
  refine T_iconst (pc' := 530) dX12_init_529 (by decide) rfl ?_
  refine T_bipush (pc' := 532) dX12_init_530 rfl (by decide) rfl ?_
  refine T_cast (pc' := 533) dX12_init_532 (by decide) rfl (by decide) (by decide) (by decide) rfl ?_
  refine T_pfF (y := 84) (k := 26) (pc' := 536) dX12_init_533 rfl cl12 (by decide) rfl (by decide) flX12_66 rfl rfl rfl rfl rfl rfl (fun _ => by decide) (fun _ => (show (84 : Int) < ((85 : Nat) : Int) by decide)) rfl ?_
  refine T_aload_n (i := 0) (pc' := 537) dX12_init_536 rfl rfl rfl ?_
  refine T_bipush (pc' := 539) dX12_init_537 rfl (by decide) rfl ?_
  refine K_arr (n := 6) (S' := Sq 86) (nI := 85) (c' := 19) (s' := 1685) (pc' := 541) dX12_init_539 acI rfl (Or.inl ⟨rfl, rfl, rfl⟩) rfl (by decide) ⟨(by decide), (by decide)⟩ (by decide) rfl rfl rfl rfl rfl ?_
  refine T_pfF (y := 85) (k := 28) (pc' := 544) dX12_init_541 rfl cl12 (by decide) rfl (by decide) flX12_69 rfl rfl rfl rfl rfl rfl (fun _ => by decide) (fun _ => (show (85 : Int) < ((86 : Nat) : Int) by decide)) rfl ?_
  refine T_aload_n (i := 0) (pc' := 545) dX12_init_544 rfl rfl rfl ?_
  refine T_bipush (pc' := 547) dX12_init_545 rfl (by decide) rfl ?_
  refine K_arr (n := 40) (S' := Sq 87) (nI := 86) (c' := 20) (s' := 1725) (pc' := 549) dX12_init_547 acJ rfl (Or.inr (Or.inl ⟨rfl, rfl, rfl⟩)) rfl (by decide) ⟨(by decide), (by decide)⟩ (by decide) rfl rfl rfl rfl rfl ?_
  refine T_pfF (y := 86) (k := 29) (pc' := 552) dX12_init_549 rfl cl12 (by decide) rfl (by decide) flX12_72 rfl rfl rfl rfl rfl rfl (fun _ => by decide) (fun _ => (show (86 : Int) < ((87 : Nat) : Int) by decide)) rfl ?_
  refine T_aload_n (i := 0) (pc' := 553) dX12_init_552 rfl rfl rfl ?_
  refine T_bipush (pc' := 555) dX12_init_553 rfl (by decide) rfl ?_
  refine K_arr (n := 108) (S' := Sq 88) (nI := 87) (c' := 21) (s' := 1833) (pc' := 557) dX12_init_555 acZ rfl (Or.inr (Or.inr (Or.inl ⟨rfl, rfl, rfl⟩))) rfl (by decide) ⟨(by decide), (by decide)⟩ (by decide) rfl rfl rfl rfl rfl ?_
  refine T_pfF (y := 87) (k := 30) (pc' := 560) dX12_init_557 rfl cl12 (by decide) rfl (by decide) flX12_76 rfl rfl rfl rfl rfl rfl (fun _ => by decide) (fun _ => (show (87 : Int) < ((88 : Nat) : Int) by decide)) rfl ?_
  refine T_aload_n (i := 0) (pc' := 561) dX12_init_560 rfl rfl rfl ?_
  refine T_sipush (pc' := 564) dX12_init_561 rfl (by decide) rfl ?_
  refine K_arr (n := 324) (S' := Sq 89) (nI := 88) (c' := 22) (s' := 2157) (pc' := 566) dX12_init_564 acI rfl (Or.inl ⟨rfl, rfl, rfl⟩) rfl (by decide) ⟨(by decide), (by decide)⟩ (by decide) rfl rfl rfl rfl rfl ?_
  refine T_pfF (y := 88) (k := 31) (pc' := 569) dX12_init_566 rfl cl12 (by decide) rfl (by decide) flX12_80 rfl rfl rfl rfl rfl rfl (fun _ => by decide) (fun _ => (show (88 : Int) < ((89 : Nat) : Int) by decide)) rfl ?_
  refine T_aload_n (i := 0) (pc' := 570) dX12_init_569 rfl rfl rfl ?_
  refine T_bipush (pc' := 572) dX12_init_570 rfl (by decide) rfl ?_
  refine K_arr (n := 24) (S' := Sq 90) (nI := 89) (c' := 23) (s' := 2181) (pc' := 574) dX12_init_572 acI rfl (Or.inl ⟨rfl, rfl, rfl⟩) rfl (by decide) ⟨(by decide), (by decide)⟩ (by decide) rfl rfl rfl rfl rfl ?_
  refine T_pfF (y := 89) (k := 32) (pc' := 577) dX12_init_574 rfl cl12 (by decide) rfl (by decide) flX12_83 rfl rfl rfl rfl rfl rfl (fun _ => by decide) (fun _ => (show (89 : Int) < ((90 : Nat) : Int) by decide)) rfl ?_
  refine T_aload_n (i := 0) (pc' := 578) dX12_init_577 rfl rfl rfl ?_
  refine T_bipush (pc' := 580) dX12_init_578 rfl (by decide) rfl ?_
  refine K_arr (n := 12) (S' := Sq 91) (nI := 90) (c' := 24) (s' := 2193) (pc' := 582) dX12_init_580 acI rfl (Or.inl ⟨rfl, rfl, rfl⟩) rfl (by decide) ⟨(by decide), (by decide)⟩ (by decide) rfl rfl rfl rfl rfl ?_
  refine T_pfF (y := 90) (k := 33) (pc' := 585) dX12_init_582 rfl cl12 (by decide) rfl (by decide) flX12_86 rfl rfl rfl rfl rfl rfl (fun _ => by decide) (fun _ => (show (90 : Int) < ((91 : Nat) : Int) by decide)) rfl ?_
  refine T_aload_n (i := 0) (pc' := 586) dX12_init_585 rfl rfl rfl ?_
  refine T_bipush (pc' := 588) dX12_init_586 rfl (by decide) rfl ?_
  refine K_arr (n := 8) (S' := Sq 92) (nI := 91) (c' := 25) (s' := 2201) (pc' := 590) dX12_init_588 acI rfl (Or.inl ⟨rfl, rfl, rfl⟩) rfl (by decide) ⟨(by decide), (by decide)⟩ (by decide) rfl rfl rfl rfl rfl ?_
  refine T_dup (pc' := 591) dX12_init_590 (Nat.ne_of_beq_eq_false rfl) rfl ?_
  refine T_iconst (pc' := 592) dX12_init_591 (by decide) rfl ?_
  refine T_bipush (pc' := 594) dX12_init_592 rfl (by decide) rfl ?_
  refine T_iast (pc' := 595) dX12_init_594 (by decide) rfl (by decide) (by decide) rfl ?_
  refine T_dup (pc' := 596) dX12_init_595 (Nat.ne_of_beq_eq_false rfl) rfl ?_
  refine T_iconst (pc' := 597) dX12_init_596 (by decide) rfl ?_
  refine T_bipush (pc' := 599) dX12_init_597 rfl (by decide) rfl ?_
  refine T_iast (pc' := 600) dX12_init_599 (by decide) rfl (by decide) (by decide) rfl ?_
  refine T_dup (pc' := 601) dX12_init_600 (Nat.ne_of_beq_eq_false rfl) rfl ?_
  refine T_iconst (pc' := 602) dX12_init_601 (by decide) rfl ?_
  refine T_iconst (pc' := 603) dX12_init_602 (by decide) rfl ?_
  refine T_iast (pc' := 604) dX12_init_603 (by decide) rfl (by decide) (by decide) rfl ?_
  refine T_dup (pc' := 605) dX12_init_604 (Nat.ne_of_beq_eq_false rfl) rfl ?_
  refine T_iconst (pc' := 606) dX12_init_605 (by decide) rfl ?_
  refine T_iconst (pc' := 607) dX12_init_606 (by decide) rfl ?_
  refine T_iast (pc' := 608) dX12_init_607 (by decide) rfl (by decide) (by decide) rfl ?_
  refine T_dup (pc' := 609) dX12_init_608 (Nat.ne_of_beq_eq_false rfl) rfl ?_
  refine T_iconst (pc' := 610) dX12_init_609 (by decide) rfl ?_
  refine T_bipush (pc' := 612) dX12_init_610 rfl (by decide) rfl ?_
  refine T_iast (pc' := 613) dX12_init_612 (by decide) rfl (by decide) (by decide) rfl ?_
  refine T_dup (pc' := 614) dX12_init_613 (Nat.ne_of_beq_eq_false rfl) rfl ?_
  refine T_iconst (pc' := 615) dX12_init_614 (by decide) rfl ?_
  refine T_bipush (pc' := 617) dX12_init_615 rfl (by decide) rfl ?_
  refine T_iast (pc' := 618) dX12_init_617 (by decide) rfl (by decide) (by decide) rfl ?_
  refine T_dup (pc' := 619) dX12_init_618 (Nat.ne_of_beq_eq_false rfl) rfl ?_
  refine T_bipush (pc' := 621) dX12_init_619 rfl (by decide) rfl ?_
  refine T_iconst (pc' := 622) dX12_init_621 (by decide) rfl ?_
  refine T_iast (pc' := 623) dX12_init_622 (by decide) rfl (by decide) (by decide) rfl ?_
  refine T_dup (pc' := 624) dX12_init_623 (Nat.ne_of_beq_eq_false rfl) rfl ?_
  refine T_bipush (pc' := 626) dX12_init_624 rfl (by decide) rfl ?_
  refine T_iconst (pc' := 627) dX12_init_626 (by decide) rfl ?_
  refine T_iast (pc' := 628) dX12_init_627 (by decide) rfl (by decide) (by decide) rfl ?_
  refine T_pfF (y := 91) (k := 34) (pc' := 631) dX12_init_628 rfl cl12 (by decide) rfl (by decide) flX12_89 rfl rfl rfl rfl rfl rfl (fun _ => by decide) (fun _ => (show (91 : Int) < ((92 : Nat) : Int) by decide)) rfl ?_
  refine T_aload_n (i := 0) (pc' := 632) dX12_init_631 rfl rfl rfl ?_
  refine T_bipush (pc' := 634) dX12_init_632 rfl (by decide) rfl ?_
  refine K_arr (n := 6) (S' := Sq 93) (nI := 92) (c' := 26) (s' := 2207) (pc' := 636) dX12_init_634 acI rfl (Or.inl ⟨rfl, rfl, rfl⟩) rfl (by decide) ⟨(by decide), (by decide)⟩ (by decide) rfl rfl rfl rfl rfl ?_
  refine T_pfF (y := 92) (k := 41) (pc' := 639) dX12_init_636 rfl cl12 (by decide) rfl (by decide) flX12_92 rfl rfl rfl rfl rfl rfl (fun _ => by decide) (fun _ => (show (92 : Int) < ((93 : Nat) : Int) by decide)) rfl ?_
  refine T_aload_n (i := 0) (pc' := 640) dX12_init_639 rfl rfl rfl ?_
  refine T_bipush (pc' := 642) dX12_init_640 rfl (by decide) rfl ?_
  refine K_arr (n := 54) (S' := Sq 94) (nI := 93) (c' := 27) (s' := 2261) (pc' := 644) dX12_init_642 acI rfl (Or.inl ⟨rfl, rfl, rfl⟩) rfl (by decide) ⟨(by decide), (by decide)⟩ (by decide) rfl rfl rfl rfl rfl ?_
  refine T_pfF (y := 93) (k := 43) (pc' := 647) dX12_init_644 rfl cl12 (by decide) rfl (by decide) flX12_95 rfl rfl rfl rfl rfl rfl (fun _ => by decide) (fun _ => (show (93 : Int) < ((94 : Nat) : Int) by decide)) rfl ?_
  refine T_aload_n (i := 0) (pc' := 648) dX12_init_647 rfl rfl rfl ?_
  refine T_bipush (pc' := 650) dX12_init_648 rfl (by decide) rfl ?_
  refine K_arr (n := 54) (S' := Sq 95) (nI := 94) (c' := 28) (s' := 2315) (pc' := 652) dX12_init_650 acI rfl (Or.inl ⟨rfl, rfl, rfl⟩) rfl (by decide) ⟨(by decide), (by decide)⟩ (by decide) rfl rfl rfl rfl rfl ?_
  refine T_pfF (y := 94) (k := 44) (pc' := 655) dX12_init_652 rfl cl12 (by decide) rfl (by decide) flX12_98 rfl rfl rfl rfl rfl rfl (fun _ => by decide) (fun _ => (show (94 : Int) < ((95 : Nat) : Int) by decide)) rfl ?_
  refine T_aload_n (i := 0) (pc' := 656) dX12_init_655 rfl rfl rfl ?_
  refine T_sipush (pc' := 659) dX12_init_656 rfl (by decide) rfl ?_
  refine K_arr (n := 1809) (S' := Sq 96) (nI := 95) (c' := 29) (s' := 4124) (pc' := 661) dX12_init_659 acI rfl (Or.inl ⟨rfl, rfl, rfl⟩) rfl (by decide) ⟨(by decide), (by decide)⟩ (by decide) rfl rfl rfl rfl rfl ?_
  refine T_pfF (y := 95) (k := 45) (pc' := 664) dX12_init_661 rfl cl12 (by decide) rfl (by decide) flX12_101 rfl rfl rfl rfl rfl rfl (fun _ => by decide) (fun _ => (show (95 : Int) < ((96 : Nat) : Int) by decide)) rfl ?_
  refine T_aload_n (i := 0) (pc' := 665) dX12_init_664 rfl rfl rfl ?_
  refine T_bipush (pc' := 667) dX12_init_665 rfl (by decide) rfl ?_
  refine K_arr (n := 9) (S' := Sq 97) (nI := 96) (c' := 30) (s' := 4133) (pc' := 669) dX12_init_667 acI rfl (Or.inl ⟨rfl, rfl, rfl⟩) rfl (by decide) ⟨(by decide), (by decide)⟩ (by decide) rfl rfl rfl rfl rfl ?_
  refine T_pfF (y := 96) (k := 46) (pc' := 672) dX12_init_669 rfl cl12 (by decide) rfl (by decide) flX12_104 rfl rfl rfl rfl rfl rfl (fun _ => by decide) (fun _ => (show (96 : Int) < ((97 : Nat) : Int) by decide)) rfl ?_
  refine T_aload_n (i := 0) (pc' := 673) dX12_init_672 rfl rfl rfl ?_
  refine T_bipush (pc' := 675) dX12_init_673 rfl (by decide) rfl ?_
  refine K_arr (n := 9) (S' := Sq 98) (nI := 97) (c' := 31) (s' := 4142) (pc' := 677) dX12_init_675 acI rfl (Or.inl ⟨rfl, rfl, rfl⟩) rfl (by decide) ⟨(by decide), (by decide)⟩ (by decide) rfl rfl rfl rfl rfl ?_
  refine T_pfF (y := 97) (k := 47) (pc' := 680) dX12_init_677 rfl cl12 (by decide) rfl (by decide) flX12_107 rfl rfl rfl rfl rfl rfl (fun _ => by decide) (fun _ => (show (97 : Int) < ((98 : Nat) : Int) by decide)) rfl ?_
  refine T_aload_n (i := 0) (pc' := 681) dX12_init_680 rfl rfl rfl ?_
  refine T_bipush (pc' := 683) dX12_init_681 rfl (by decide) rfl ?_
  refine K_arr (n := 9) (S' := Sq 99) (nI := 98) (c' := 32) (s' := 4151) (pc' := 685) dX12_init_683 acI rfl (Or.inl ⟨rfl, rfl, rfl⟩) rfl (by decide) ⟨(by decide), (by decide)⟩ (by decide) rfl rfl rfl rfl rfl ?_
  refine T_pfF (y := 98) (k := 48) (pc' := 688) dX12_init_685 rfl cl12 (by decide) rfl (by decide) flX12_110 rfl rfl rfl rfl rfl rfl (fun _ => by decide) (fun _ => (show (98 : Int) < ((99 : Nat) : Int) by decide)) rfl ?_
  refine T_aload_n (i := 0) (pc' := 689) dX12_init_688 rfl rfl rfl ?_
  refine T_bipush (pc' := 691) dX12_init_689 rfl (by decide) rfl ?_
  refine K_arr (n := 9) (S' := Sq 100) (nI := 99) (c' := 33) (s' := 4160) (pc' := 693) dX12_init_691 acI rfl (Or.inl ⟨rfl, rfl, rfl⟩) rfl (by decide) ⟨(by decide), (by decide)⟩ (by decide) rfl rfl rfl rfl rfl ?_
  refine T_pfF (y := 99) (k := 49) (pc' := 696) dX12_init_693 rfl cl12 (by decide) rfl (by decide) flX12_113 rfl rfl rfl rfl rfl rfl (fun _ => by decide) (fun _ => (show (99 : Int) < ((100 : Nat) : Int) by decide)) rfl ?_
  refine T_aload_n (i := 0) (pc' := 697) dX12_init_696 rfl rfl rfl ?_
  refine T_sipush (pc' := 700) dX12_init_697 rfl (by decide) rfl ?_
  refine K_arr (n := 660) (S' := Sq 101) (nI := 100) (c' := 34) (s' := 4820) (pc' := 702) dX12_init_700 acI rfl (Or.inl ⟨rfl, rfl, rfl⟩) rfl (by decide) ⟨(by decide), (by decide)⟩ (by decide) rfl rfl rfl rfl rfl ?_
  refine T_pfF (y := 100) (k := 53) (pc' := 705) dX12_init_702 rfl cl12 (by decide) rfl (by decide) flX12_116 rfl rfl rfl rfl rfl rfl (fun _ => by decide) (fun _ => (show (100 : Int) < ((101 : Nat) : Int) by decide)) rfl ?_
  refine T_aload_n (i := 0) (pc' := 706) dX12_init_705 rfl rfl rfl ?_
  refine T_lconst (v := 1) (pc' := 707) dX12_init_706 rfl (by decide) rfl ?_
  refine U_pf (y := 1) (k := 56) (kI := 56) (pc' := 710) dX12_init_707 rfl cl12 (by decide) rfl (by decide) flX12_119 rfl rfl rfl rfl rfl (by decide) (fun z => z) rfl ?_
  refine T_aload_n (i := 0) (pc' := 711) dX12_init_710 rfl rfl rfl ?_
  refine T_bipush (pc' := 713) dX12_init_711 rfl (by decide) rfl ?_
  refine K_arr (n := 9) (S' := Sq 102) (nI := 101) (c' := 35) (s' := 4829) (pc' := 715) dX12_init_713 acI rfl (Or.inl ⟨rfl, rfl, rfl⟩) rfl (by decide) ⟨(by decide), (by decide)⟩ (by decide) rfl rfl rfl rfl rfl ?_
  refine T_pfF (y := 101) (k := 57) (pc' := 718) dX12_init_715 rfl cl12 (by decide) rfl (by decide) flX12_123 rfl rfl rfl rfl rfl rfl (fun _ => by decide) (fun _ => (show (101 : Int) < ((102 : Nat) : Int) by decide)) rfl ?_
  refine T_aload_n (i := 0) (pc' := 719) dX12_init_718 rfl rfl rfl ?_
  refine T_iconst (pc' := 720) dX12_init_719 (by decide) rfl ?_
  refine K_arr (n := 5) (S' := Sq 103) (nI := 102) (c' := 36) (s' := 4834) (pc' := 722) dX12_init_720 acC rfl (Or.inr (Or.inr (Or.inr ⟨rfl, rfl, rfl⟩))) rfl (by decide) ⟨(by decide), (by decide)⟩ (by decide) rfl rfl rfl rfl rfl ?_
  refine T_dup (pc' := 723) dX12_init_722 (Nat.ne_of_beq_eq_false rfl) rfl ?_
  refine T_iconst (pc' := 724) dX12_init_723 (by decide) rfl ?_
  refine T_bipush (pc' := 726) dX12_init_724 rfl (by decide) rfl ?_
  refine T_cast (pc' := 727) dX12_init_726 (by decide) rfl (by decide) (by decide) (by decide) rfl ?_
  refine T_dup (pc' := 728) dX12_init_727 (Nat.ne_of_beq_eq_false rfl) rfl ?_
  refine T_iconst (pc' := 729) dX12_init_728 (by decide) rfl ?_
  refine T_bipush (pc' := 731) dX12_init_729 rfl (by decide) rfl ?_
  refine T_cast (pc' := 732) dX12_init_731 (by decide) rfl (by decide) (by decide) (by decide) rfl ?_
  refine T_dup (pc' := 733) dX12_init_732 (Nat.ne_of_beq_eq_false rfl) rfl ?_
  refine T_iconst (pc' := 734) dX12_init_733 (by decide) rfl ?_
  refine T_bipush (pc' := 736) dX12_init_734 rfl (by decide) rfl ?_
  refine T_cast (pc' := 737) dX12_init_736 (by decide) rfl (by decide) (by decide) (by decide) rfl ?_
  refine T_dup (pc' := 738) dX12_init_737 (Nat.ne_of_beq_eq_false rfl) rfl ?_
  refine T_iconst (pc' := 739) dX12_init_738 (by decide) rfl ?_
  refine T_bipush (pc' := 741) dX12_init_739 rfl (by decide) rfl ?_
  refine T_cast (pc' := 742) dX12_init_741 (by decide) rfl (by decide) (by decide) (by decide) rfl ?_
  refine T_dup (pc' := 743) dX12_init_742 (Nat.ne_of_beq_eq_false rfl) rfl ?_
  refine T_iconst (pc' := 744) dX12_init_743 (by decide) rfl ?_
  refine T_bipush (pc' := 746) dX12_init_744 rfl (by decide) rfl ?_
  refine T_cast (pc' := 747) dX12_init_746 (by decide) rfl (by decide) (by decide) (by decide) rfl ?_
  refine T_pfF (y := 102) (k := 58) (pc' := 750) dX12_init_747 rfl cl12 (by decide) rfl (by decide) flX12_126 rfl rfl rfl rfl rfl rfl (fun _ => by decide) (fun _ => (show (102 : Int) < ((103 : Nat) : Int) by decide)) rfl ?_
  refine T_aload_n (i := 0) (pc' := 751) dX12_init_750 rfl rfl rfl ?_
  refine T_iconst (pc' := 752) dX12_init_751 (by decide) rfl ?_
  refine K_arr (n := 4) (S' := Sq 104) (nI := 103) (c' := 37) (s' := 4838) (pc' := 754) dX12_init_752 acC rfl (Or.inr (Or.inr (Or.inr ⟨rfl, rfl, rfl⟩))) rfl (by decide) ⟨(by decide), (by decide)⟩ (by decide) rfl rfl rfl rfl rfl ?_
  refine T_dup (pc' := 755) dX12_init_754 (Nat.ne_of_beq_eq_false rfl) rfl ?_
  refine T_iconst (pc' := 756) dX12_init_755 (by decide) rfl ?_
  refine T_bipush (pc' := 758) dX12_init_756 rfl (by decide) rfl ?_
  refine T_cast (pc' := 759) dX12_init_758 (by decide) rfl (by decide) (by decide) (by decide) rfl ?_
  refine T_dup (pc' := 760) dX12_init_759 (Nat.ne_of_beq_eq_false rfl) rfl ?_
  refine T_iconst (pc' := 761) dX12_init_760 (by decide) rfl ?_
  refine T_bipush (pc' := 763) dX12_init_761 rfl (by decide) rfl ?_
  refine T_cast (pc' := 764) dX12_init_763 (by decide) rfl (by decide) (by decide) (by decide) rfl ?_
  refine T_dup (pc' := 765) dX12_init_764 (Nat.ne_of_beq_eq_false rfl) rfl ?_
  refine T_iconst (pc' := 766) dX12_init_765 (by decide) rfl ?_
  refine T_bipush (pc' := 768) dX12_init_766 rfl (by decide) rfl ?_
  refine T_cast (pc' := 769) dX12_init_768 (by decide) rfl (by decide) (by decide) (by decide) rfl ?_
  refine T_dup (pc' := 770) dX12_init_769 (Nat.ne_of_beq_eq_false rfl) rfl ?_
  refine T_iconst (pc' := 771) dX12_init_770 (by decide) rfl ?_
  refine T_bipush (pc' := 773) dX12_init_771 rfl (by decide) rfl ?_
  refine T_cast (pc' := 774) dX12_init_773 (by decide) rfl (by decide) (by decide) (by decide) rfl ?_
  refine T_pfF (y := 103) (k := 59) (pc' := 777) dX12_init_774 rfl cl12 (by decide) rfl (by decide) flX12_129 rfl rfl rfl rfl rfl rfl (fun _ => by decide) (fun _ => (show (103 : Int) < ((104 : Nat) : Int) by decide)) rfl ?_
  refine T_aload_n (i := 0) (pc' := 778) dX12_init_777 rfl rfl rfl ?_
  refine T_iconst (pc' := 779) dX12_init_778 (by decide) rfl ?_
  refine K_arr (n := 5) (S' := Sq 105) (nI := 104) (c' := 38) (s' := 4843) (pc' := 781) dX12_init_779 acC rfl (Or.inr (Or.inr (Or.inr ⟨rfl, rfl, rfl⟩))) rfl (by decide) ⟨(by decide), (by decide)⟩ (by decide) rfl rfl rfl rfl rfl ?_
  refine T_dup (pc' := 782) dX12_init_781 (Nat.ne_of_beq_eq_false rfl) rfl ?_
  refine T_iconst (pc' := 783) dX12_init_782 (by decide) rfl ?_
  refine T_bipush (pc' := 785) dX12_init_783 rfl (by decide) rfl ?_
  refine T_cast (pc' := 786) dX12_init_785 (by decide) rfl (by decide) (by decide) (by decide) rfl ?_
  refine T_dup (pc' := 787) dX12_init_786 (Nat.ne_of_beq_eq_false rfl) rfl ?_
  refine T_iconst (pc' := 788) dX12_init_787 (by decide) rfl ?_
  refine T_bipush (pc' := 790) dX12_init_788 rfl (by decide) rfl ?_
  refine T_cast (pc' := 791) dX12_init_790 (by decide) rfl (by decide) (by decide) (by decide) rfl ?_
  refine T_dup (pc' := 792) dX12_init_791 (Nat.ne_of_beq_eq_false rfl) rfl ?_
  refine T_iconst (pc' := 793) dX12_init_792 (by decide) rfl ?_
  refine T_bipush (pc' := 795) dX12_init_793 rfl (by decide) rfl ?_
  refine T_cast (pc' := 796) dX12_init_795 (by decide) rfl (by decide) (by decide) (by decide) rfl ?_
  refine T_dup (pc' := 797) dX12_init_796 (Nat.ne_of_beq_eq_false rfl) rfl ?_
  refine T_iconst (pc' := 798) dX12_init_797 (by decide) rfl ?_
  refine T_bipush (pc' := 800) dX12_init_798 rfl (by decide) rfl ?_
  refine T_cast (pc' := 801) dX12_init_800 (by decide) rfl (by decide) (by decide) (by decide) rfl ?_
  refine T_dup (pc' := 802) dX12_init_801 (Nat.ne_of_beq_eq_false rfl) rfl ?_
  refine T_iconst (pc' := 803) dX12_init_802 (by decide) rfl ?_
  refine T_bipush (pc' := 805) dX12_init_803 rfl (by decide) rfl ?_
  refine T_cast (pc' := 806) dX12_init_805 (by decide) rfl (by decide) (by decide) (by decide) rfl ?_
  refine T_pfF (y := 104) (k := 60) (pc' := 809) dX12_init_806 rfl cl12 (by decide) rfl (by decide) flX12_132 rfl rfl rfl rfl rfl rfl (fun _ => by decide) (fun _ => (show (104 : Int) < ((105 : Nat) : Int) by decide)) rfl ?_
  refine T_aload_n (i := 0) (pc' := 810) dX12_init_809 rfl rfl rfl ?_
  refine T_iconst (pc' := 811) dX12_init_810 (by decide) rfl ?_
  refine K_arr (n := 5) (S' := Sq 106) (nI := 105) (c' := 39) (s' := 4848) (pc' := 813) dX12_init_811 acC rfl (Or.inr (Or.inr (Or.inr ⟨rfl, rfl, rfl⟩))) rfl (by decide) ⟨(by decide), (by decide)⟩ (by decide) rfl rfl rfl rfl rfl ?_
  refine T_dup (pc' := 814) dX12_init_813 (Nat.ne_of_beq_eq_false rfl) rfl ?_
  refine T_iconst (pc' := 815) dX12_init_814 (by decide) rfl ?_
  refine T_bipush (pc' := 817) dX12_init_815 rfl (by decide) rfl ?_
  refine T_cast (pc' := 818) dX12_init_817 (by decide) rfl (by decide) (by decide) (by decide) rfl ?_
  refine T_dup (pc' := 819) dX12_init_818 (Nat.ne_of_beq_eq_false rfl) rfl ?_
  refine T_iconst (pc' := 820) dX12_init_819 (by decide) rfl ?_
  refine T_bipush (pc' := 822) dX12_init_820 rfl (by decide) rfl ?_
  refine T_cast (pc' := 823) dX12_init_822 (by decide) rfl (by decide) (by decide) (by decide) rfl ?_
  refine T_dup (pc' := 824) dX12_init_823 (Nat.ne_of_beq_eq_false rfl) rfl ?_
  refine T_iconst (pc' := 825) dX12_init_824 (by decide) rfl ?_
  refine T_bipush (pc' := 827) dX12_init_825 rfl (by decide) rfl ?_
  refine T_cast (pc' := 828) dX12_init_827 (by decide) rfl (by decide) (by decide) (by decide) rfl ?_
  refine T_dup (pc' := 829) dX12_init_828 (Nat.ne_of_beq_eq_false rfl) rfl ?_
  refine T_iconst (pc' := 830) dX12_init_829 (by decide) rfl ?_
  refine T_bipush (pc' := 832) dX12_init_830 rfl (by decide) rfl ?_
  refine T_cast (pc' := 833) dX12_init_832 (by decide) rfl (by decide) (by decide) (by decide) rfl ?_
  refine T_dup (pc' := 834) dX12_init_833 (Nat.ne_of_beq_eq_false rfl) rfl ?_
  refine T_iconst (pc' := 835) dX12_init_834 (by decide) rfl ?_
  refine T_bipush (pc' := 837) dX12_init_835 rfl (by decide) rfl ?_
  refine T_cast (pc' := 838) dX12_init_837 (by decide) rfl (by decide) (by decide) (by decide) rfl ?_
  refine T_pfF (y := 105) (k := 61) (pc' := 841) dX12_init_838 rfl cl12 (by decide) rfl (by decide) flX12_135 rfl rfl rfl rfl rfl rfl (fun _ => by decide) (fun _ => (show (105 : Int) < ((106 : Nat) : Int) by decide)) rfl ?_
  refine T_aload_n (i := 0) (pc' := 842) dX12_init_841 rfl rfl rfl ?_
  refine T_iconst (pc' := 843) dX12_init_842 (by decide) rfl ?_
  refine K_arr (n := 4) (S' := Sq 107) (nI := 106) (c' := 40) (s' := 4852) (pc' := 845) dX12_init_843 acC rfl (Or.inr (Or.inr (Or.inr ⟨rfl, rfl, rfl⟩))) rfl (by decide) ⟨(by decide), (by decide)⟩ (by decide) rfl rfl rfl rfl rfl ?_
  refine T_dup (pc' := 846) dX12_init_845 (Nat.ne_of_beq_eq_false rfl) rfl ?_
  refine T_iconst (pc' := 847) dX12_init_846 (by decide) rfl ?_
  refine T_bipush (pc' := 849) dX12_init_847 rfl (by decide) rfl ?_
  refine T_cast (pc' := 850) dX12_init_849 (by decide) rfl (by decide) (by decide) (by decide) rfl ?_
  refine T_dup (pc' := 851) dX12_init_850 (Nat.ne_of_beq_eq_false rfl) rfl ?_
  refine T_iconst (pc' := 852) dX12_init_851 (by decide) rfl ?_
  refine T_bipush (pc' := 854) dX12_init_852 rfl (by decide) rfl ?_
  refine T_cast (pc' := 855) dX12_init_854 (by decide) rfl (by decide) (by decide) (by decide) rfl ?_
  refine T_dup (pc' := 856) dX12_init_855 (Nat.ne_of_beq_eq_false rfl) rfl ?_
  refine T_iconst (pc' := 857) dX12_init_856 (by decide) rfl ?_
  refine T_bipush (pc' := 859) dX12_init_857 rfl (by decide) rfl ?_
  refine T_cast (pc' := 860) dX12_init_859 (by decide) rfl (by decide) (by decide) (by decide) rfl ?_
  refine T_dup (pc' := 861) dX12_init_860 (Nat.ne_of_beq_eq_false rfl) rfl ?_
  refine T_iconst (pc' := 862) dX12_init_861 (by decide) rfl ?_
  refine T_bipush (pc' := 864) dX12_init_862 rfl (by decide) rfl ?_
  refine T_cast (pc' := 865) dX12_init_864 (by decide) rfl (by decide) (by decide) (by decide) rfl ?_
  refine T_pfF (y := 106) (k := 62) (pc' := 868) dX12_init_865 rfl cl12 (by decide) rfl (by decide) flX12_138 rfl rfl rfl rfl rfl rfl (fun _ => by decide) (fun _ => (show (106 : Int) < ((107 : Nat) : Int) by decide)) rfl ?_
  refine T_aload_n (i := 0) (pc' := 869) dX12_init_868 rfl rfl rfl ?_
  refine T_iconst (pc' := 870) dX12_init_869 (by decide) rfl ?_
  refine K_arr (n := 5) (S' := Sq 108) (nI := 107) (c' := 41) (s' := 4857) (pc' := 872) dX12_init_870 acC rfl (Or.inr (Or.inr (Or.inr ⟨rfl, rfl, rfl⟩))) rfl (by decide) ⟨(by decide), (by decide)⟩ (by decide) rfl rfl rfl rfl rfl ?_
  refine T_dup (pc' := 873) dX12_init_872 (Nat.ne_of_beq_eq_false rfl) rfl ?_
  refine T_iconst (pc' := 874) dX12_init_873 (by decide) rfl ?_
  refine T_bipush (pc' := 876) dX12_init_874 rfl (by decide) rfl ?_
  refine T_cast (pc' := 877) dX12_init_876 (by decide) rfl (by decide) (by decide) (by decide) rfl ?_
  refine T_dup (pc' := 878) dX12_init_877 (Nat.ne_of_beq_eq_false rfl) rfl ?_
  refine T_iconst (pc' := 879) dX12_init_878 (by decide) rfl ?_
  refine T_bipush (pc' := 881) dX12_init_879 rfl (by decide) rfl ?_
  refine T_cast (pc' := 882) dX12_init_881 (by decide) rfl (by decide) (by decide) (by decide) rfl ?_
  refine T_dup (pc' := 883) dX12_init_882 (Nat.ne_of_beq_eq_false rfl) rfl ?_
  refine T_iconst (pc' := 884) dX12_init_883 (by decide) rfl ?_
  refine T_bipush (pc' := 886) dX12_init_884 rfl (by decide) rfl ?_
  refine T_cast (pc' := 887) dX12_init_886 (by decide) rfl (by decide) (by decide) (by decide) rfl ?_
  refine T_dup (pc' := 888) dX12_init_887 (Nat.ne_of_beq_eq_false rfl) rfl ?_
  refine T_iconst (pc' := 889) dX12_init_888 (by decide) rfl ?_
  refine T_bipush (pc' := 891) dX12_init_889 rfl (by decide) rfl ?_
  refine T_cast (pc' := 892) dX12_init_891 (by decide) rfl (by decide) (by decide) (by decide) rfl ?_
  refine T_dup (pc' := 893) dX12_init_892 (Nat.ne_of_beq_eq_false rfl) rfl ?_
  refine T_iconst (pc' := 894) dX12_init_893 (by decide) rfl ?_
  refine T_bipush (pc' := 896) dX12_init_894 rfl (by decide) rfl ?_
  refine T_cast (pc' := 897) dX12_init_896 (by decide) rfl (by decide) (by decide) (by decide) rfl ?_
  refine T_pfF (y := 107) (k := 63) (pc' := 900) dX12_init_897 rfl cl12 (by decide) rfl (by decide) flX12_141 rfl rfl rfl rfl rfl rfl (fun _ => by decide) (fun _ => (show (107 : Int) < ((108 : Nat) : Int) by decide)) rfl ?_
  refine T_aload_n (i := 0) (pc' := 901) dX12_init_900 rfl rfl rfl ?_
  refine T_iconst (pc' := 902) dX12_init_901 (by decide) rfl ?_
  refine K_arr (n := 3) (S' := Sq 109) (nI := 108) (c' := 42) (s' := 4860) (pc' := 904) dX12_init_902 acC rfl (Or.inr (Or.inr (Or.inr ⟨rfl, rfl, rfl⟩))) rfl (by decide) ⟨(by decide), (by decide)⟩ (by decide) rfl rfl rfl rfl rfl ?_
  refine T_dup (pc' := 905) dX12_init_904 (Nat.ne_of_beq_eq_false rfl) rfl ?_
  refine T_iconst (pc' := 906) dX12_init_905 (by decide) rfl ?_
  refine T_bipush (pc' := 908) dX12_init_906 rfl (by decide) rfl ?_
  refine T_cast (pc' := 909) dX12_init_908 (by decide) rfl (by decide) (by decide) (by decide) rfl ?_
  refine T_dup (pc' := 910) dX12_init_909 (Nat.ne_of_beq_eq_false rfl) rfl ?_
  refine T_iconst (pc' := 911) dX12_init_910 (by decide) rfl ?_
  refine T_bipush (pc' := 913) dX12_init_911 rfl (by decide) rfl ?_
  refine T_cast (pc' := 914) dX12_init_913 (by decide) rfl (by decide) (by decide) (by decide) rfl ?_
  refine T_dup (pc' := 915) dX12_init_914 (Nat.ne_of_beq_eq_false rfl) rfl ?_
  refine T_iconst (pc' := 916) dX12_init_915 (by decide) rfl ?_
  refine T_bipush (pc' := 918) dX12_init_916 rfl (by decide) rfl ?_
  refine T_cast (pc' := 919) dX12_init_918 (by decide) rfl (by decide) (by decide) (by decide) rfl ?_
  refine T_pfF (y := 108) (k := 64) (pc' := 922) dX12_init_919 rfl cl12 (by decide) rfl (by decide) flX12_144 rfl rfl rfl rfl rfl rfl (fun _ => by decide) (fun _ => (show (108 : Int) < ((109 : Nat) : Int) by decide)) rfl ?_
  refine T_aload_n (i := 0) (pc' := 923) dX12_init_922 rfl rfl rfl ?_
  refine T_iconst (pc' := 924) dX12_init_923 (by decide) rfl ?_
  refine K_arr (n := 3) (S' := Sq 110) (nI := 109) (c' := 43) (s' := 4863) (pc' := 926) dX12_init_924 acC rfl (Or.inr (Or.inr (Or.inr ⟨rfl, rfl, rfl⟩))) rfl (by decide) ⟨(by decide), (by decide)⟩ (by decide) rfl rfl rfl rfl rfl ?_
  refine T_dup (pc' := 927) dX12_init_926 (Nat.ne_of_beq_eq_false rfl) rfl ?_
  refine T_iconst (pc' := 928) dX12_init_927 (by decide) rfl ?_
  refine T_bipush (pc' := 930) dX12_init_928 rfl (by decide) rfl ?_
  refine T_cast (pc' := 931) dX12_init_930 (by decide) rfl (by decide) (by decide) (by decide) rfl ?_
  refine T_dup (pc' := 932) dX12_init_931 (Nat.ne_of_beq_eq_false rfl) rfl ?_
  refine T_iconst (pc' := 933) dX12_init_932 (by decide) rfl ?_
  refine T_bipush (pc' := 935) dX12_init_933 rfl (by decide) rfl ?_
  refine T_cast (pc' := 936) dX12_init_935 (by decide) rfl (by decide) (by decide) (by decide) rfl ?_
  refine T_dup (pc' := 937) dX12_init_936 (Nat.ne_of_beq_eq_false rfl) rfl ?_
  refine T_iconst (pc' := 938) dX12_init_937 (by decide) rfl ?_
  refine T_bipush (pc' := 940) dX12_init_938 rfl (by decide) rfl ?_
  refine T_cast (pc' := 941) dX12_init_940 (by decide) rfl (by decide) (by decide) (by decide) rfl ?_
  refine T_pfF (y := 109) (k := 65) (pc' := 944) dX12_init_941 rfl cl12 (by decide) rfl (by decide) flX12_147 rfl rfl rfl rfl rfl rfl (fun _ => by decide) (fun _ => (show (109 : Int) < ((110 : Nat) : Int) by decide)) rfl ?_
  refine T_aload_n (i := 0) (pc' := 945) dX12_init_944 rfl rfl rfl ?_
  refine T_iconst (pc' := 946) dX12_init_945 (by decide) rfl ?_
  refine K_arr (n := 2) (S' := Sq 111) (nI := 110) (c' := 44) (s' := 4865) (pc' := 948) dX12_init_946 acC rfl (Or.inr (Or.inr (Or.inr ⟨rfl, rfl, rfl⟩))) rfl (by decide) ⟨(by decide), (by decide)⟩ (by decide) rfl rfl rfl rfl rfl ?_
  refine T_dup (pc' := 949) dX12_init_948 (Nat.ne_of_beq_eq_false rfl) rfl ?_
  refine T_iconst (pc' := 950) dX12_init_949 (by decide) rfl ?_
  refine T_bipush (pc' := 952) dX12_init_950 rfl (by decide) rfl ?_
  refine T_cast (pc' := 953) dX12_init_952 (by decide) rfl (by decide) (by decide) (by decide) rfl ?_
  refine T_dup (pc' := 954) dX12_init_953 (Nat.ne_of_beq_eq_false rfl) rfl ?_
  refine T_iconst (pc' := 955) dX12_init_954 (by decide) rfl ?_
  refine T_bipush (pc' := 957) dX12_init_955 rfl (by decide) rfl ?_
  refine T_cast (pc' := 958) dX12_init_957 (by decide) rfl (by decide) (by decide) (by decide) rfl ?_
  refine T_pfF (y := 110) (k := 66) (pc' := 961) dX12_init_958 rfl cl12 (by decide) rfl (by decide) flX12_150 rfl rfl rfl rfl rfl rfl (fun _ => by decide) (fun _ => (show (110 : Int) < ((111 : Nat) : Int) by decide)) rfl ?_
  refine T_aload_n (i := 0) (pc' := 962) dX12_init_961 rfl rfl rfl ?_
  refine T_iconst (pc' := 963) dX12_init_962 (by decide) rfl ?_
  refine K_arr (n := 3) (S' := Sq 112) (nI := 111) (c' := 45) (s' := 4868) (pc' := 965) dX12_init_963 acC rfl (Or.inr (Or.inr (Or.inr ⟨rfl, rfl, rfl⟩))) rfl (by decide) ⟨(by decide), (by decide)⟩ (by decide) rfl rfl rfl rfl rfl ?_
  refine T_dup (pc' := 966) dX12_init_965 (Nat.ne_of_beq_eq_false rfl) rfl ?_
  refine T_iconst (pc' := 967) dX12_init_966 (by decide) rfl ?_
  refine T_bipush (pc' := 969) dX12_init_967 rfl (by decide) rfl ?_
  refine T_cast (pc' := 970) dX12_init_969 (by decide) rfl (by decide) (by decide) (by decide) rfl ?_
  refine T_dup (pc' := 971) dX12_init_970 (Nat.ne_of_beq_eq_false rfl) rfl ?_
  refine T_iconst (pc' := 972) dX12_init_971 (by decide) rfl ?_
  refine T_bipush (pc' := 974) dX12_init_972 rfl (by decide) rfl ?_
  refine T_cast (pc' := 975) dX12_init_974 (by decide) rfl (by decide) (by decide) (by decide) rfl ?_
  refine T_dup (pc' := 976) dX12_init_975 (Nat.ne_of_beq_eq_false rfl) rfl ?_
  refine T_iconst (pc' := 977) dX12_init_976 (by decide) rfl ?_
  refine T_bipush (pc' := 979) dX12_init_977 rfl (by decide) rfl ?_
  refine T_cast (pc' := 980) dX12_init_979 (by decide) rfl (by decide) (by decide) (by decide) rfl ?_
  refine T_pfF (y := 111) (k := 67) (pc' := 983) dX12_init_980 rfl cl12 (by decide) rfl (by decide) flX12_153 rfl rfl rfl rfl rfl rfl (fun _ => by decide) (fun _ => (show (111 : Int) < ((112 : Nat) : Int) by decide)) rfl ?_
  refine T_aload_n (i := 0) (pc' := 984) dX12_init_983 rfl rfl rfl ?_
  refine T_iconst (pc' := 985) dX12_init_984 (by decide) rfl ?_
  refine K_arr (n := 3) (S' := Sq 113) (nI := 112) (c' := 46) (s' := 4871) (pc' := 987) dX12_init_985 acC rfl (Or.inr (Or.inr (Or.inr ⟨rfl, rfl, rfl⟩))) rfl (by decide) ⟨(by decide), (by decide)⟩ (by decide) rfl rfl rfl rfl rfl ?_
  refine T_dup (pc' := 988) dX12_init_987 (Nat.ne_of_beq_eq_false rfl) rfl ?_
  refine T_iconst (pc' := 989) dX12_init_988 (by decide) rfl ?_
  refine T_bipush (pc' := 991) dX12_init_989 rfl (by decide) rfl ?_
  refine T_cast (pc' := 992) dX12_init_991 (by decide) rfl (by decide) (by decide) (by decide) rfl ?_
  refine T_dup (pc' := 993) dX12_init_992 (Nat.ne_of_beq_eq_false rfl) rfl ?_
  refine T_iconst (pc' := 994) dX12_init_993 (by decide) rfl ?_
  refine T_bipush (pc' := 996) dX12_init_994 rfl (by decide) rfl ?_
  refine T_cast (pc' := 997) dX12_init_996 (by decide) rfl (by decide) (by decide) (by decide) rfl ?_
  refine T_dup (pc' := 998) dX12_init_997 (Nat.ne_of_beq_eq_false rfl) rfl ?_
  refine T_iconst (pc' := 999) dX12_init_998 (by decide) rfl ?_
  refine T_bipush (pc' := 1001) dX12_init_999 rfl (by decide) rfl ?_
  refine T_cast (pc' := 1002) dX12_init_1001 (by decide) rfl (by decide) (by decide) (by decide) rfl ?_
  refine T_pfF (y := 112) (k := 68) (pc' := 1005) dX12_init_1002 rfl cl12 (by decide) rfl (by decide) flX12_156 rfl rfl rfl rfl rfl rfl (fun _ => by decide) (fun _ => (show (112 : Int) < ((113 : Nat) : Int) by decide)) rfl ?_
  refine T_aload_n (i := 0) (pc' := 1006) dX12_init_1005 rfl rfl rfl ?_
  refine T_iconst (pc' := 1007) dX12_init_1006 (by decide) rfl ?_
  refine K_arr (n := 3) (S' := Sq 114) (nI := 113) (c' := 47) (s' := 4874) (pc' := 1009) dX12_init_1007 acC rfl (Or.inr (Or.inr (Or.inr ⟨rfl, rfl, rfl⟩))) rfl (by decide) ⟨(by decide), (by decide)⟩ (by decide) rfl rfl rfl rfl rfl ?_
  refine T_dup (pc' := 1010) dX12_init_1009 (Nat.ne_of_beq_eq_false rfl) rfl ?_
  refine T_iconst (pc' := 1011) dX12_init_1010 (by decide) rfl ?_
  refine T_bipush (pc' := 1013) dX12_init_1011 rfl (by decide) rfl ?_
  refine T_cast (pc' := 1014) dX12_init_1013 (by decide) rfl (by decide) (by decide) (by decide) rfl ?_
  refine T_dup (pc' := 1015) dX12_init_1014 (Nat.ne_of_beq_eq_false rfl) rfl ?_
  refine T_iconst (pc' := 1016) dX12_init_1015 (by decide) rfl ?_
  refine T_bipush (pc' := 1018) dX12_init_1016 rfl (by decide) rfl ?_
  refine T_cast (pc' := 1019) dX12_init_1018 (by decide) rfl (by decide) (by decide) (by decide) rfl ?_
  refine T_dup (pc' := 1020) dX12_init_1019 (Nat.ne_of_beq_eq_false rfl) rfl ?_
  refine T_iconst (pc' := 1021) dX12_init_1020 (by decide) rfl ?_
  refine T_bipush (pc' := 1023) dX12_init_1021 rfl (by decide) rfl ?_
  refine T_cast (pc' := 1024) dX12_init_1023 (by decide) rfl (by decide) (by decide) (by decide) rfl ?_
  refine T_pfF (y := 113) (k := 69) (pc' := 1027) dX12_init_1024 rfl cl12 (by decide) rfl (by decide) flX12_159 rfl rfl rfl rfl rfl rfl (fun _ => by decide) (fun _ => (show (113 : Int) < ((114 : Nat) : Int) by decide)) rfl ?_
  refine T_aload_n (i := 0) (pc' := 1028) dX12_init_1027 rfl rfl rfl ?_
  refine T_bipush (pc' := 1030) dX12_init_1028 rfl (by decide) rfl ?_
  refine K_arr (n := 6) (S' := Sq 115) (nI := 114) (c' := 48) (s' := 4880) (pc' := 1032) dX12_init_1030 acC rfl (Or.inr (Or.inr (Or.inr ⟨rfl, rfl, rfl⟩))) rfl (by decide) ⟨(by decide), (by decide)⟩ (by decide) rfl rfl rfl rfl rfl ?_
  refine T_dup (pc' := 1033) dX12_init_1032 (Nat.ne_of_beq_eq_false rfl) rfl ?_
  refine T_iconst (pc' := 1034) dX12_init_1033 (by decide) rfl ?_
  refine T_bipush (pc' := 1036) dX12_init_1034 rfl (by decide) rfl ?_
  refine T_cast (pc' := 1037) dX12_init_1036 (by decide) rfl (by decide) (by decide) (by decide) rfl ?_
  refine T_dup (pc' := 1038) dX12_init_1037 (Nat.ne_of_beq_eq_false rfl) rfl ?_
  refine T_iconst (pc' := 1039) dX12_init_1038 (by decide) rfl ?_
  refine T_bipush (pc' := 1041) dX12_init_1039 rfl (by decide) rfl ?_
  refine T_cast (pc' := 1042) dX12_init_1041 (by decide) rfl (by decide) (by decide) (by decide) rfl ?_
  refine T_dup (pc' := 1043) dX12_init_1042 (Nat.ne_of_beq_eq_false rfl) rfl ?_
  refine T_iconst (pc' := 1044) dX12_init_1043 (by decide) rfl ?_
  refine T_bipush (pc' := 1046) dX12_init_1044 rfl (by decide) rfl ?_
  refine T_cast (pc' := 1047) dX12_init_1046 (by decide) rfl (by decide) (by decide) (by decide) rfl ?_
  refine T_dup (pc' := 1048) dX12_init_1047 (Nat.ne_of_beq_eq_false rfl) rfl ?_
  refine T_iconst (pc' := 1049) dX12_init_1048 (by decide) rfl ?_
  refine T_bipush (pc' := 1051) dX12_init_1049 rfl (by decide) rfl ?_
  refine T_cast (pc' := 1052) dX12_init_1051 (by decide) rfl (by decide) (by decide) (by decide) rfl ?_
  refine T_dup (pc' := 1053) dX12_init_1052 (Nat.ne_of_beq_eq_false rfl) rfl ?_
  refine T_iconst (pc' := 1054) dX12_init_1053 (by decide) rfl ?_
  refine T_bipush (pc' := 1056) dX12_init_1054 rfl (by decide) rfl ?_
  refine T_cast (pc' := 1057) dX12_init_1056 (by decide) rfl (by decide) (by decide) (by decide) rfl ?_
  refine T_dup (pc' := 1058) dX12_init_1057 (Nat.ne_of_beq_eq_false rfl) rfl ?_
  refine T_iconst (pc' := 1059) dX12_init_1058 (by decide) rfl ?_
  refine T_bipush (pc' := 1061) dX12_init_1059 rfl (by decide) rfl ?_
  refine T_cast (pc' := 1062) dX12_init_1061 (by decide) rfl (by decide) (by decide) (by decide) rfl ?_
  refine T_pfF (y := 114) (k := 70) (pc' := 1065) dX12_init_1062 rfl cl12 (by decide) rfl (by decide) flX12_162 rfl rfl rfl rfl rfl rfl (fun _ => by decide) (fun _ => (show (114 : Int) < ((115 : Nat) : Int) by decide)) rfl ?_
  refine T_aload_n (i := 0) (pc' := 1066) dX12_init_1065 rfl rfl rfl ?_
  refine T_iconst (pc' := 1067) dX12_init_1066 (by decide) rfl ?_
  refine K_arr (n := 4) (S' := Sq 116) (nI := 115) (c' := 49) (s' := 4884) (pc' := 1069) dX12_init_1067 acC rfl (Or.inr (Or.inr (Or.inr ⟨rfl, rfl, rfl⟩))) rfl (by decide) ⟨(by decide), (by decide)⟩ (by decide) rfl rfl rfl rfl rfl ?_
  refine T_dup (pc' := 1070) dX12_init_1069 (Nat.ne_of_beq_eq_false rfl) rfl ?_
  refine T_iconst (pc' := 1071) dX12_init_1070 (by decide) rfl ?_
  refine T_bipush (pc' := 1073) dX12_init_1071 rfl (by decide) rfl ?_
  refine T_cast (pc' := 1074) dX12_init_1073 (by decide) rfl (by decide) (by decide) (by decide) rfl ?_
  refine T_dup (pc' := 1075) dX12_init_1074 (Nat.ne_of_beq_eq_false rfl) rfl ?_
  refine T_iconst (pc' := 1076) dX12_init_1075 (by decide) rfl ?_
  refine T_bipush (pc' := 1078) dX12_init_1076 rfl (by decide) rfl ?_
  refine T_cast (pc' := 1079) dX12_init_1078 (by decide) rfl (by decide) (by decide) (by decide) rfl ?_
  refine T_dup (pc' := 1080) dX12_init_1079 (Nat.ne_of_beq_eq_false rfl) rfl ?_
  refine T_iconst (pc' := 1081) dX12_init_1080 (by decide) rfl ?_
  refine T_bipush (pc' := 1083) dX12_init_1081 rfl (by decide) rfl ?_
  refine T_cast (pc' := 1084) dX12_init_1083 (by decide) rfl (by decide) (by decide) (by decide) rfl ?_
  refine T_dup (pc' := 1085) dX12_init_1084 (Nat.ne_of_beq_eq_false rfl) rfl ?_
  refine T_iconst (pc' := 1086) dX12_init_1085 (by decide) rfl ?_
  refine T_bipush (pc' := 1088) dX12_init_1086 rfl (by decide) rfl ?_
  refine T_cast (pc' := 1089) dX12_init_1088 (by decide) rfl (by decide) (by decide) (by decide) rfl ?_
  refine T_pfF (y := 115) (k := 71) (pc' := 1092) dX12_init_1089 rfl cl12 (by decide) rfl (by decide) flX12_165 rfl rfl rfl rfl rfl rfl (fun _ => by decide) (fun _ => (show (115 : Int) < ((116 : Nat) : Int) by decide)) rfl ?_
  refine T_aload_n (i := 0) (pc' := 1093) dX12_init_1092 rfl rfl rfl ?_
  refine T_iconst (pc' := 1094) dX12_init_1093 (by decide) rfl ?_
  refine K_arr (n := 5) (S' := Sq 117) (nI := 116) (c' := 50) (s' := 4889) (pc' := 1096) dX12_init_1094 acC rfl (Or.inr (Or.inr (Or.inr ⟨rfl, rfl, rfl⟩))) rfl (by decide) ⟨(by decide), (by decide)⟩ (by decide) rfl rfl rfl rfl rfl ?_
  refine T_dup (pc' := 1097) dX12_init_1096 (Nat.ne_of_beq_eq_false rfl) rfl ?_
  refine T_iconst (pc' := 1098) dX12_init_1097 (by decide) rfl ?_
  refine T_bipush (pc' := 1100) dX12_init_1098 rfl (by decide) rfl ?_
  refine T_cast (pc' := 1101) dX12_init_1100 (by decide) rfl (by decide) (by decide) (by decide) rfl ?_
  refine T_dup (pc' := 1102) dX12_init_1101 (Nat.ne_of_beq_eq_false rfl) rfl ?_
  refine T_iconst (pc' := 1103) dX12_init_1102 (by decide) rfl ?_
  refine T_bipush (pc' := 1105) dX12_init_1103 rfl (by decide) rfl ?_
  refine T_cast (pc' := 1106) dX12_init_1105 (by decide) rfl (by decide) (by decide) (by decide) rfl ?_
  refine T_dup (pc' := 1107) dX12_init_1106 (Nat.ne_of_beq_eq_false rfl) rfl ?_
  refine T_iconst (pc' := 1108) dX12_init_1107 (by decide) rfl ?_
  refine T_bipush (pc' := 1110) dX12_init_1108 rfl (by decide) rfl ?_
  refine T_cast (pc' := 1111) dX12_init_1110 (by decide) rfl (by decide) (by decide) (by decide) rfl ?_
  refine T_dup (pc' := 1112) dX12_init_1111 (Nat.ne_of_beq_eq_false rfl) rfl ?_
  refine T_iconst (pc' := 1113) dX12_init_1112 (by decide) rfl ?_
  refine T_bipush (pc' := 1115) dX12_init_1113 rfl (by decide) rfl ?_
  refine T_cast (pc' := 1116) dX12_init_1115 (by decide) rfl (by decide) (by decide) (by decide) rfl ?_
  refine T_dup (pc' := 1117) dX12_init_1116 (Nat.ne_of_beq_eq_false rfl) rfl ?_
  refine T_iconst (pc' := 1118) dX12_init_1117 (by decide) rfl ?_
  refine T_bipush (pc' := 1120) dX12_init_1118 rfl (by decide) rfl ?_
  refine T_cast (pc' := 1121) dX12_init_1120 (by decide) rfl (by decide) (by decide) (by decide) rfl ?_
  refine T_pfF (y := 116) (k := 72) (pc' := 1124) dX12_init_1121 rfl cl12 (by decide) rfl (by decide) flX12_168 rfl rfl rfl rfl rfl rfl (fun _ => by decide) (fun _ => (show (116 : Int) < ((117 : Nat) : Int) by decide)) rfl ?_
  refine T_aload_n (i := 0) (pc' := 1125) dX12_init_1124 rfl rfl rfl ?_
  refine T_iconst (pc' := 1126) dX12_init_1125 (by decide) rfl ?_
  refine K_arr (n := 4) (S' := Sq 118) (nI := 117) (c' := 51) (s' := 4893) (pc' := 1128) dX12_init_1126 acC rfl (Or.inr (Or.inr (Or.inr ⟨rfl, rfl, rfl⟩))) rfl (by decide) ⟨(by decide), (by decide)⟩ (by decide) rfl rfl rfl rfl rfl ?_
  refine T_dup (pc' := 1129) dX12_init_1128 (Nat.ne_of_beq_eq_false rfl) rfl ?_
  refine T_iconst (pc' := 1130) dX12_init_1129 (by decide) rfl ?_
  refine T_bipush (pc' := 1132) dX12_init_1130 rfl (by decide) rfl ?_
  refine T_cast (pc' := 1133) dX12_init_1132 (by decide) rfl (by decide) (by decide) (by decide) rfl ?_
  refine T_dup (pc' := 1134) dX12_init_1133 (Nat.ne_of_beq_eq_false rfl) rfl ?_
  refine T_iconst (pc' := 1135) dX12_init_1134 (by decide) rfl ?_
  refine T_bipush (pc' := 1137) dX12_init_1135 rfl (by decide) rfl ?_
  refine T_cast (pc' := 1138) dX12_init_1137 (by decide) rfl (by decide) (by decide) (by decide) rfl ?_
  refine T_dup (pc' := 1139) dX12_init_1138 (Nat.ne_of_beq_eq_false rfl) rfl ?_
  refine T_iconst (pc' := 1140) dX12_init_1139 (by decide) rfl ?_
  refine T_bipush (pc' := 1142) dX12_init_1140 rfl (by decide) rfl ?_
  refine T_cast (pc' := 1143) dX12_init_1142 (by decide) rfl (by decide) (by decide) (by decide) rfl ?_
  refine T_dup (pc' := 1144) dX12_init_1143 (Nat.ne_of_beq_eq_false rfl) rfl ?_
  refine T_iconst (pc' := 1145) dX12_init_1144 (by decide) rfl ?_
  refine T_bipush (pc' := 1147) dX12_init_1145 rfl (by decide) rfl ?_
  refine T_cast (pc' := 1148) dX12_init_1147 (by decide) rfl (by decide) (by decide) (by decide) rfl ?_
  refine T_pfF (y := 117) (k := 73) (pc' := 1151) dX12_init_1148 rfl cl12 (by decide) rfl (by decide) flX12_171 rfl rfl rfl rfl rfl rfl (fun _ => by decide) (fun _ => (show (117 : Int) < ((118 : Nat) : Int) by decide)) rfl ?_
  refine T_aload_n (i := 0) (pc' := 1152) dX12_init_1151 rfl rfl rfl ?_
  refine T_iconst (pc' := 1153) dX12_init_1152 (by decide) rfl ?_
  refine K_arr (n := 4) (S' := Sq 119) (nI := 118) (c' := 52) (s' := 4897) (pc' := 1155) dX12_init_1153 acC rfl (Or.inr (Or.inr (Or.inr ⟨rfl, rfl, rfl⟩))) rfl (by decide) ⟨(by decide), (by decide)⟩ (by decide) rfl rfl rfl rfl rfl ?_
  refine T_dup (pc' := 1156) dX12_init_1155 (Nat.ne_of_beq_eq_false rfl) rfl ?_
  refine T_iconst (pc' := 1157) dX12_init_1156 (by decide) rfl ?_
  refine T_bipush (pc' := 1159) dX12_init_1157 rfl (by decide) rfl ?_
  refine T_cast (pc' := 1160) dX12_init_1159 (by decide) rfl (by decide) (by decide) (by decide) rfl ?_
  refine T_dup (pc' := 1161) dX12_init_1160 (Nat.ne_of_beq_eq_false rfl) rfl ?_
  refine T_iconst (pc' := 1162) dX12_init_1161 (by decide) rfl ?_
  refine T_bipush (pc' := 1164) dX12_init_1162 rfl (by decide) rfl ?_
  refine T_cast (pc' := 1165) dX12_init_1164 (by decide) rfl (by decide) (by decide) (by decide) rfl ?_
  refine T_dup (pc' := 1166) dX12_init_1165 (Nat.ne_of_beq_eq_false rfl) rfl ?_
  refine T_iconst (pc' := 1167) dX12_init_1166 (by decide) rfl ?_
  refine T_bipush (pc' := 1169) dX12_init_1167 rfl (by decide) rfl ?_
  refine T_cast (pc' := 1170) dX12_init_1169 (by decide) rfl (by decide) (by decide) (by decide) rfl ?_
  refine T_dup (pc' := 1171) dX12_init_1170 (Nat.ne_of_beq_eq_false rfl) rfl ?_
  refine T_iconst (pc' := 1172) dX12_init_1171 (by decide) rfl ?_
  refine T_bipush (pc' := 1174) dX12_init_1172 rfl (by decide) rfl ?_
  refine T_cast (pc' := 1175) dX12_init_1174 (by decide) rfl (by decide) (by decide) (by decide) rfl ?_
  refine T_pfF (y := 118) (k := 74) (pc' := 1178) dX12_init_1175 rfl cl12 (by decide) rfl (by decide) flX12_174 rfl rfl rfl rfl rfl rfl (fun _ => by decide) (fun _ => (show (118 : Int) < ((119 : Nat) : Int) by decide)) rfl ?_
  refine T_aload_n (i := 0) (pc' := 1179) dX12_init_1178 rfl rfl rfl ?_
  refine T_iconst (pc' := 1180) dX12_init_1179 (by decide) rfl ?_
  refine K_arr (n := 5) (S' := Sq 120) (nI := 119) (c' := 53) (s' := 4902) (pc' := 1182) dX12_init_1180 acC rfl (Or.inr (Or.inr (Or.inr ⟨rfl, rfl, rfl⟩))) rfl (by decide) ⟨(by decide), (by decide)⟩ (by decide) rfl rfl rfl rfl rfl ?_
  refine T_dup (pc' := 1183) dX12_init_1182 (Nat.ne_of_beq_eq_false rfl) rfl ?_
  refine T_iconst (pc' := 1184) dX12_init_1183 (by decide) rfl ?_
  refine T_bipush (pc' := 1186) dX12_init_1184 rfl (by decide) rfl ?_
  refine T_cast (pc' := 1187) dX12_init_1186 (by decide) rfl (by decide) (by decide) (by decide) rfl ?_
  refine T_dup (pc' := 1188) dX12_init_1187 (Nat.ne_of_beq_eq_false rfl) rfl ?_
  refine T_iconst (pc' := 1189) dX12_init_1188 (by decide) rfl ?_
  refine T_bipush (pc' := 1191) dX12_init_1189 rfl (by decide) rfl ?_
  refine T_cast (pc' := 1192) dX12_init_1191 (by decide) rfl (by decide) (by decide) (by decide) rfl ?_
  refine T_dup (pc' := 1193) dX12_init_1192 (Nat.ne_of_beq_eq_false rfl) rfl ?_
  refine T_iconst (pc' := 1194) dX12_init_1193 (by decide) rfl ?_
  refine T_bipush (pc' := 1196) dX12_init_1194 rfl (by decide) rfl ?_
  refine T_cast (pc' := 1197) dX12_init_1196 (by decide) rfl (by decide) (by decide) (by decide) rfl ?_
  refine T_dup (pc' := 1198) dX12_init_1197 (Nat.ne_of_beq_eq_false rfl) rfl ?_
  refine T_iconst (pc' := 1199) dX12_init_1198 (by decide) rfl ?_
  refine T_bipush (pc' := 1201) dX12_init_1199 rfl (by decide) rfl ?_
  refine T_cast (pc' := 1202) dX12_init_1201 (by decide) rfl (by decide) (by decide) (by decide) rfl ?_
  refine T_dup (pc' := 1203) dX12_init_1202 (Nat.ne_of_beq_eq_false rfl) rfl ?_
  refine T_iconst (pc' := 1204) dX12_init_1203 (by decide) rfl ?_
  refine T_bipush (pc' := 1206) dX12_init_1204 rfl (by decide) rfl ?_
  refine T_cast (pc' := 1207) dX12_init_1206 (by decide) rfl (by decide) (by decide) (by decide) rfl ?_
  refine T_pfF (y := 119) (k := 75) (pc' := 1210) dX12_init_1207 rfl cl12 (by decide) rfl (by decide) flX12_177 rfl rfl rfl rfl rfl rfl (fun _ => by decide) (fun _ => (show (119 : Int) < ((120 : Nat) : Int) by decide)) rfl ?_
  refine T_aload_n (i := 0) (pc' := 1211) dX12_init_1210 rfl rfl rfl ?_
  refine T_iconst (pc' := 1212) dX12_init_1211 (by decide) rfl ?_
  refine K_arr (n := 2) (S' := Sq 121) (nI := 120) (c' := 54) (s' := 4904) (pc' := 1214) dX12_init_1212 acC rfl (Or.inr (Or.inr (Or.inr ⟨rfl, rfl, rfl⟩))) rfl (by decide) ⟨(by decide), (by decide)⟩ (by decide) rfl rfl rfl rfl rfl ?_
  refine T_dup (pc' := 1215) dX12_init_1214 (Nat.ne_of_beq_eq_false rfl) rfl ?_
  refine T_iconst (pc' := 1216) dX12_init_1215 (by decide) rfl ?_
  refine T_bipush (pc' := 1218) dX12_init_1216 rfl (by decide) rfl ?_
  refine T_cast (pc' := 1219) dX12_init_1218 (by decide) rfl (by decide) (by decide) (by decide) rfl ?_
  refine T_dup (pc' := 1220) dX12_init_1219 (Nat.ne_of_beq_eq_false rfl) rfl ?_
  refine T_iconst (pc' := 1221) dX12_init_1220 (by decide) rfl ?_
  refine T_bipush (pc' := 1223) dX12_init_1221 rfl (by decide) rfl ?_
  refine T_cast (pc' := 1224) dX12_init_1223 (by decide) rfl (by decide) (by decide) (by decide) rfl ?_
  refine T_pfF (y := 120) (k := 76) (pc' := 1227) dX12_init_1224 rfl cl12 (by decide) rfl (by decide) flX12_180 rfl rfl rfl rfl rfl rfl (fun _ => by decide) (fun _ => (show (120 : Int) < ((121 : Nat) : Int) by decide)) rfl ?_
  refine T_aload_n (i := 0) (pc' := 1228) dX12_init_1227 rfl rfl rfl ?_
  refine T_iconst (pc' := 1229) dX12_init_1228 (by decide) rfl ?_
  refine K_arr (n := 4) (S' := Sq 122) (nI := 121) (c' := 55) (s' := 4908) (pc' := 1231) dX12_init_1229 acC rfl (Or.inr (Or.inr (Or.inr ⟨rfl, rfl, rfl⟩))) rfl (by decide) ⟨(by decide), (by decide)⟩ (by decide) rfl rfl rfl rfl rfl ?_
  refine T_dup (pc' := 1232) dX12_init_1231 (Nat.ne_of_beq_eq_false rfl) rfl ?_
  refine T_iconst (pc' := 1233) dX12_init_1232 (by decide) rfl ?_
  refine T_bipush (pc' := 1235) dX12_init_1233 rfl (by decide) rfl ?_
  refine T_cast (pc' := 1236) dX12_init_1235 (by decide) rfl (by decide) (by decide) (by decide) rfl ?_
  refine T_dup (pc' := 1237) dX12_init_1236 (Nat.ne_of_beq_eq_false rfl) rfl ?_
  refine T_iconst (pc' := 1238) dX12_init_1237 (by decide) rfl ?_
  refine T_bipush (pc' := 1240) dX12_init_1238 rfl (by decide) rfl ?_
  refine T_cast (pc' := 1241) dX12_init_1240 (by decide) rfl (by decide) (by decide) (by decide) rfl ?_
  refine T_dup (pc' := 1242) dX12_init_1241 (Nat.ne_of_beq_eq_false rfl) rfl ?_
  refine T_iconst (pc' := 1243) dX12_init_1242 (by decide) rfl ?_
  refine T_bipush (pc' := 1245) dX12_init_1243 rfl (by decide) rfl ?_
  refine T_cast (pc' := 1246) dX12_init_1245 (by decide) rfl (by decide) (by decide) (by decide) rfl ?_
  refine T_dup (pc' := 1247) dX12_init_1246 (Nat.ne_of_beq_eq_false rfl) rfl ?_
  refine T_iconst (pc' := 1248) dX12_init_1247 (by decide) rfl ?_
  refine T_bipush (pc' := 1250) dX12_init_1248 rfl (by decide) rfl ?_
  refine T_cast (pc' := 1251) dX12_init_1250 (by decide) rfl (by decide) (by decide) (by decide) rfl ?_
  refine T_pfF (y := 121) (k := 77) (pc' := 1254) dX12_init_1251 rfl cl12 (by decide) rfl (by decide) flX12_183 rfl rfl rfl rfl rfl rfl (fun _ => by decide) (fun _ => (show (121 : Int) < ((122 : Nat) : Int) by decide)) rfl ?_
  refine T_aload_n (i := 0) (pc' := 1255) dX12_init_1254 rfl rfl rfl ?_
  refine T_sipush (pc' := 1258) dX12_init_1255 rfl (by decide) rfl ?_
  refine K_arr (n := 1700) (S' := Sq 123) (nI := 122) (c' := 56) (s' := 6608) (pc' := 1260) dX12_init_1258 acI rfl (Or.inl ⟨rfl, rfl, rfl⟩) rfl (by decide) ⟨(by decide), (by decide)⟩ (by decide) rfl rfl rfl rfl rfl ?_
  refine T_pfF (y := 122) (k := 78) (pc' := 1263) dX12_init_1260 rfl cl12 (by decide) rfl (by decide) flX12_186 rfl rfl rfl rfl rfl rfl (fun _ => by decide) (fun _ => (show (122 : Int) < ((123 : Nat) : Int) by decide)) rfl ?_
  refine T_aload_n (i := 0) (pc' := 1264) dX12_init_1263 rfl rfl rfl ?_
  refine T_sipush (pc' := 1267) dX12_init_1264 rfl (by decide) rfl ?_
  refine K_arr (n := 1700) (S' := Sq 124) (nI := 123) (c' := 57) (s' := 8308) (pc' := 1269) dX12_init_1267 acI rfl (Or.inl ⟨rfl, rfl, rfl⟩) rfl (by decide) ⟨(by decide), (by decide)⟩ (by decide) rfl rfl rfl rfl rfl ?_
  refine T_pfF (y := 123) (k := 80) (pc' := 1272) dX12_init_1269 rfl cl12 (by decide) rfl (by decide) flX12_189 rfl rfl rfl rfl rfl rfl (fun _ => by decide) (fun _ => (show (123 : Int) < ((124 : Nat) : Int) by decide)) rfl ?_
  refine T_aload_n (i := 0) (pc' := 1273) dX12_init_1272 rfl rfl rfl ?_
  refine T_sipush (pc' := 1276) dX12_init_1273 rfl (by decide) rfl ?_
  refine K_arr (n := 1700) (S' := Sq 125) (nI := 124) (c' := 58) (s' := 10008) (pc' := 1278) dX12_init_1276 acJ rfl (Or.inr (Or.inl ⟨rfl, rfl, rfl⟩)) rfl (by decide) ⟨(by decide), (by decide)⟩ (by decide) rfl rfl rfl rfl rfl ?_
  refine T_pfF (y := 124) (k := 84) (pc' := 1281) dX12_init_1278 rfl cl12 (by decide) rfl (by decide) flX12_192 rfl rfl rfl rfl rfl rfl (fun _ => by decide) (fun _ => (show (124 : Int) < ((125 : Nat) : Int) by decide)) rfl ?_
  refine T_aload_n (i := 0) (pc' := 1282) dX12_init_1281 rfl rfl rfl ?_
  refine T_bipush (pc' := 1284) dX12_init_1282 rfl (by decide) rfl ?_
  refine K_arr (n := 34) (S' := Sq 126) (nI := 125) (c' := 59) (s' := 10042) (pc' := 1286) dX12_init_1284 acI rfl (Or.inl ⟨rfl, rfl, rfl⟩) rfl (by decide) ⟨(by decide), (by decide)⟩ (by decide) rfl rfl rfl rfl rfl ?_
  refine T_pfF (y := 125) (k := 88) (pc' := 1289) dX12_init_1286 rfl cl12 (by decide) rfl (by decide) flX12_195 rfl rfl rfl rfl rfl rfl (fun _ => by decide) (fun _ => (show (125 : Int) < ((126 : Nat) : Int) by decide)) rfl ?_
  exact T_vret dX12_init_1289 rfl ⟨rfl, rfl, rfl⟩
