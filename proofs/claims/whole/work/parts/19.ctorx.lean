/-! the constructors, each where it is called -/
theorem acI : Cond.arrayClass .int ∈ lw_ok := tbi1 45 rfl rfl
theorem acJ : Cond.arrayClass .long ∈ lw_ok := tbi2 206 rfl rfl
theorem acC : Cond.arrayClass .char ∈ lw_ok := tbi7 146 rfl rfl
theorem acZ : Cond.arrayClass .boolean ∈ lw_ok := tbi7 147 rfl rfl
def Sq (n : Nat) : List Sh := S0.take n
section K
variable {E : EV} {mi : MI} {d n0 nc ns : Nat} {Q : Option MV → List Sh → Mem → Prop} {pc pc' : Nat} {L L' st : List MV} {S S' : List Sh} {M : Mem} {cells slots : Nat}
theorem K_new {own C : String} {Tf : u_T} {N ci idx c' s' : Nat} {nI : Int} (hd : decode mi.2.1 pc = .ok (.new idx, 3)) (ho : mi.1.cls = own) (hc : Cl ci C Tf N) (hcl : Cond.classLink own idx C ∈ lw_ok) (hty : ∀ k, k < N → okty (ftyO ci k) = true) (hcs : cells + 1 ≤ nc ∧ slots + N ≤ ns) (hlen : S.length + 1 < 1000) (hp : pc + 3 = pc') (hS : S ++ [(1, ci, N)] = S') (hn : ((S.length : Nat) : Int) = nI) (hc2 : cells + 1 = c') (hs2 : slots + N = s')
    (kk : T E mi d n0 nc ns Q pc' L ((2, nI) :: st) S' (mnew M nI (nobj ci)) c' s') : T E mi d n0 nc ns Q pc L st S M cells slots := by
  subst hS; subst hn; subst hc2; subst hs2
  exact T_new hd ho hc hcl hty hcs hlen hp kk
theorem K_arr {atype : ArrayType} {ty : FieldType} {et t0 n c' s' : Nat} {x nI : Int} (hd : decode mi.2.1 pc = .ok (.newarray atype, 2)) (hw : Cond.arrayClass (newarray.typeOf atype) ∈ lw_ok) (hty : newarray.typeOf atype = ty)
    (het : (et = 0 ∧ ty = .int ∧ t0 = 0) ∨ (et = 1 ∧ ty = .long ∧ t0 = 1) ∨ (et = 3 ∧ ty = .boolean ∧ t0 = 2) ∨ (et = 4 ∧ ty = .char ∧ t0 = 3)) (hx : x = (n : Nat)) (hn2 : n < 100000) (hcs : cells + 1 ≤ nc ∧ slots + n ≤ ns) (hlen : S.length + 1 < 1000) (hp : pc + 2 = pc') (hS : S ++ [(0, et, n)] = S') (hn : ((S.length : Nat) : Int) = nI) (hc2 : cells + 1 = c') (hs2 : slots + n = s')
    (kk : T E mi d n0 nc ns Q pc' L ((2, nI) :: st) S' (mnew M nI nzero) c' s') : T E mi d n0 nc ns Q pc L ((0, x) :: st) S M cells slots := by
  subst hS; subst hn; subst hc2; subst hs2
  exact T_newarr hd (fun A s h => h _ hw) hty het hx hn2 hcs hlen hp kk
end K
theorem oky0 : ∀ k, k < 4 → okty (ftyO 0 k) = true := by decide +kernel
theorem oky1 : ∀ k, k < 18 → okty (ftyO 1 k) = true := by decide +kernel
theorem oky2 : ∀ k, k < 2 → okty (ftyO 2 k) = true := by decide +kernel
theorem oky3 : ∀ k, k < 12 → okty (ftyO 3 k) = true := by decide +kernel
theorem oky4 : ∀ k, k < 9 → okty (ftyO 4 k) = true := by decide +kernel
theorem oky5 : ∀ k, k < 4 → okty (ftyO 5 k) = true := by decide +kernel
theorem oky6 : ∀ k, k < 3 → okty (ftyO 6 k) = true := by decide +kernel
theorem oky7 : ∀ k, k < 11 → okty (ftyO 7 k) = true := by decide +kernel
theorem oky8 : ∀ k, k < 2 → okty (ftyO 8 k) = true := by decide +kernel
theorem oky9 : ∀ k, k < 6 → okty (ftyO 9 k) = true := by decide +kernel
theorem oky10 : ∀ k, k < 4 → okty (ftyO 10 k) = true := by decide +kernel
theorem oky11 : ∀ k, k < 18 → okty (ftyO 11 k) = true := by decide +kernel
theorem oky12 : ∀ k, k < 90 → okty (ftyO 12 k) = true := by decide +kernel
set_option maxRecDepth 100000 in
def km1_X8_init (M : Mem) : Mem := (mset (mset (mnew M 2 nzero) 1 0 2) 1 1 0)
set_option maxRecDepth 100000 in
set_option maxHeartbeats 4000000 in
theorem k1_X8_init {E : EV} {M : Mem} : Ct E miX8_init 1 1 1600 [(2, 1)] (Sq 2) M (fun r S' M' => S' = Sq 3 ∧ r = none ∧ M' = km1_X8_init M) := by
  refine Ct_of (L := [(2, 1)]) (by decide +kernel) (Nat.le_of_ble_eq_true rfl) rfl ?_
  show T E miX8_init 1 2 1 1600 _ 0 _ [] (Sq 2) M 0 0
  refine T_aload_n (i := 0) (pc' := 1) dX8_init_0 rfl rfl rfl ?_
  refine T_objInit (pc' := 4) dX8_init_1 rfl ⟨mlX8_3, oi_in, oi_code⟩ (Nat.le_of_ble_eq_true rfl) (by decide) rfl ?_
  refine T_aload_n (i := 0) (pc' := 5) dX8_init_4 rfl rfl rfl ?_
  refine T_sipush (pc' := 8) dX8_init_5 rfl (by decide) rfl ?_
  refine K_arr (n := 1600) (S' := Sq 3) (nI := 2) (c' := 1) (s' := 1600) (pc' := 10) dX8_init_8 acI rfl (Or.inl ⟨rfl, rfl, rfl⟩) rfl (by decide) ⟨(by decide), (by decide)⟩ (by decide) rfl rfl rfl rfl rfl ?_
  refine T_pfF (y := 2) (k := 0) (pc' := 13) dX8_init_10 rfl cl8 (by decide) rfl (by decide) flX8_9 rfl rfl rfl rfl rfl rfl (fun _ => by decide) (fun _ => (show (2 : Int) < ((3 : Nat) : Int) by decide)) rfl ?_
  refine T_aload_n (i := 0) (pc' := 14) dX8_init_13 rfl rfl rfl ?_
  refine T_iconst (pc' := 15) dX8_init_14 (by decide) rfl ?_
  refine U_pf (y := 0) (k := 1) (kI := 1) (pc' := 18) dX8_init_15 rfl cl8 (by decide) rfl (by decide) flX8_15 rfl rfl rfl rfl rfl (by decide) (fun z => z) rfl ?_
  exact T_vret dX8_init_18 rfl ⟨rfl, rfl, rfl⟩
set_option maxRecDepth 100000 in
def km2_X9_init (M : Mem) : Mem := (mset (mset (mset (mset (mset (mset M 3 0 1) 3 1 0) 3 2 0) 3 3 0) 3 4 0) 3 5 (-1))
set_option maxRecDepth 100000 in
set_option maxHeartbeats 4000000 in
theorem k2_X9_init {E : EV} {M : Mem} : Ct E miX9_init 1 0 0 [(2, 3), (2, 1)] (Sq 4) M (fun r S' M' => S' = Sq 4 ∧ r = none ∧ M' = km2_X9_init M) := by
  refine Ct_of (L := [(2, 3), (2, 1)]) (by decide +kernel) (Nat.le_of_ble_eq_true rfl) rfl ?_
  show T E miX9_init 1 4 0 0 _ 0 _ [] (Sq 4) M 0 0
  refine T_aload_n (i := 0) (pc' := 1) dX9_init_0 rfl rfl rfl ?_
  refine T_objInit (pc' := 4) dX9_init_1 rfl ⟨mlX9_3, oi_in, oi_code⟩ (Nat.le_of_ble_eq_true rfl) (by decide) rfl ?_
  refine T_aload_n (i := 0) (pc' := 5) dX9_init_4 rfl rfl rfl ?_
  refine T_aload_n (i := 1) (pc' := 6) dX9_init_5 rfl rfl rfl ?_
  refine T_pfF (y := 1) (k := 0) (pc' := 9) dX9_init_6 rfl cl9 (by decide) rfl (by decide) flX9_9 rfl rfl rfl rfl rfl rfl (fun _ => by decide) (fun _ => (show (1 : Int) < ((4 : Nat) : Int) by decide)) rfl ?_
  refine T_aload_n (i := 0) (pc' := 10) dX9_init_9 rfl rfl rfl ?_
  refine T_iconst (pc' := 11) dX9_init_10 (by decide) rfl ?_
  refine U_pf (y := 0) (k := 1) (kI := 1) (pc' := 14) dX9_init_11 rfl cl9 (by decide) rfl (by decide) flX9_15 rfl rfl rfl rfl rfl (by decide) (fun z => z) rfl ?_
  refine T_aload_n (i := 0) (pc' := 15) dX9_init_14 rfl rfl rfl ?_
  refine T_iconst (pc' := 16) dX9_init_15 (by decide) rfl ?_
  refine U_pf (y := 0) (k := 2) (kI := 2) (pc' := 19) dX9_init_16 rfl cl9 (by decide) rfl (by decide) flX9_19 rfl rfl rfl rfl rfl (by decide) (fun z => z) rfl ?_
  refine T_aload_n (i := 0) (pc' := 20) dX9_init_19 rfl rfl rfl ?_
  refine T_iconst (pc' := 21) dX9_init_20 (by decide) rfl ?_
  refine U_pf (y := 0) (k := 3) (kI := 3) (pc' := 24) dX9_init_21 rfl cl9 (by decide) rfl (by decide) flX9_22 rfl rfl rfl rfl rfl (by decide) (fun z => z) rfl ?_
  refine T_aload_n (i := 0) (pc' := 25) dX9_init_24 rfl rfl rfl ?_
  refine T_iconst (pc' := 26) dX9_init_25 (by decide) rfl ?_
  refine U_pf (y := 0) (k := 4) (kI := 4) (pc' := 29) dX9_init_26 rfl cl9 (by decide) rfl (by decide) flX9_25 rfl rfl rfl rfl rfl (by decide) (fun z => z) rfl ?_
  refine T_aload_n (i := 0) (pc' := 30) dX9_init_29 rfl rfl rfl ?_
  refine T_iconst (pc' := 31) dX9_init_30 (by decide) rfl ?_
  refine U_pf (y := (-1)) (k := 5) (kI := 5) (pc' := 34) dX9_init_31 rfl cl9 (by decide) rfl (by decide) flX9_28 rfl rfl rfl rfl rfl (by decide) (fun z => z) rfl ?_
  exact T_vret dX9_init_34 rfl ⟨rfl, rfl, rfl⟩
set_option maxRecDepth 100000 in
def km3_X2_init (M : Mem) : Mem := (mset (mset M 4 0 3) 4 1 0)
set_option maxRecDepth 100000 in
set_option maxHeartbeats 4000000 in
theorem k3_X2_init {E : EV} {M : Mem} : Ct E miX2_init 1 0 0 [(2, 4), (2, 3)] (Sq 5) M (fun r S' M' => S' = Sq 5 ∧ r = none ∧ M' = km3_X2_init M) := by
  refine Ct_of (L := [(2, 4), (2, 3)]) (by decide +kernel) (Nat.le_of_ble_eq_true rfl) rfl ?_
  show T E miX2_init 1 5 0 0 _ 0 _ [] (Sq 5) M 0 0
  refine T_aload_n (i := 0) (pc' := 1) dX2_init_0 rfl rfl rfl ?_
  refine T_objInit (pc' := 4) dX2_init_1 rfl ⟨mlX2_3, oi_in, oi_code⟩ (Nat.le_of_ble_eq_true rfl) (by decide) rfl ?_
  refine T_aload_n (i := 0) (pc' := 5) dX2_init_4 rfl rfl rfl ?_
  refine T_aload_n (i := 1) (pc' := 6) dX2_init_5 rfl rfl rfl ?_
  refine T_pfF (y := 3) (k := 0) (pc' := 9) dX2_init_6 rfl cl2 (by decide) rfl (by decide) flX2_9 rfl rfl rfl rfl rfl rfl (fun _ => by decide) (fun _ => (show (3 : Int) < ((5 : Nat) : Int) by decide)) rfl ?_
  refine T_aload_n (i := 0) (pc' := 10) dX2_init_9 rfl rfl rfl ?_
  refine T_iconst (pc' := 11) dX2_init_10 (by decide) rfl ?_
  refine U_pf (y := 0) (k := 1) (kI := 1) (pc' := 14) dX2_init_11 rfl cl2 (by decide) rfl (by decide) flX2_15 rfl rfl rfl rfl rfl (by decide) (fun z => z) rfl ?_
  exact T_vret dX2_init_14 rfl ⟨rfl, rfl, rfl⟩
set_option maxRecDepth 100000 in
def km4_X5_init (M : Mem) : Mem := (mset (mset (mset (mnew (mset (mnew M 7 nzero) 6 0 7) 8 nzero) 6 1 8) 6 2 0) 6 3 0)
set_option maxRecDepth 100000 in
set_option maxHeartbeats 4000000 in
theorem k4_X5_init {E : EV} {M : Mem} : Ct E miX5_init 1 2 1664 [(2, 6)] (Sq 7) M (fun r S' M' => S' = Sq 9 ∧ r = none ∧ M' = km4_X5_init M) := by
  refine Ct_of (L := [(2, 6)]) (by decide +kernel) (Nat.le_of_ble_eq_true rfl) rfl ?_
  show T E miX5_init 1 7 2 1664 _ 0 _ [] (Sq 7) M 0 0
  refine T_aload_n (i := 0) (pc' := 1) dX5_init_0 rfl rfl rfl ?_
  refine T_objInit (pc' := 4) dX5_init_1 rfl ⟨mlX5_3, oi_in, oi_code⟩ (Nat.le_of_ble_eq_true rfl) (by decide) rfl ?_
  refine T_aload_n (i := 0) (pc' := 5) dX5_init_4 rfl rfl rfl ?_
  refine T_sipush (pc' := 8) dX5_init_5 rfl (by decide) rfl ?_
  refine K_arr (n := 1600) (S' := Sq 8) (nI := 7) (c' := 1) (s' := 1600) (pc' := 10) dX5_init_8 acI rfl (Or.inl ⟨rfl, rfl, rfl⟩) rfl (by decide) ⟨(by decide), (by decide)⟩ (by decide) rfl rfl rfl rfl rfl ?_
  refine T_pfF (y := 7) (k := 0) (pc' := 13) dX5_init_10 rfl cl5 (by decide) rfl (by decide) flX5_9 rfl rfl rfl rfl rfl rfl (fun _ => by decide) (fun _ => (show (7 : Int) < ((8 : Nat) : Int) by decide)) rfl ?_
  refine T_aload_n (i := 0) (pc' := 14) dX5_init_13 rfl rfl rfl ?_
  refine T_bipush (pc' := 16) dX5_init_14 rfl (by decide) rfl ?_
  refine K_arr (n := 64) (S' := Sq 9) (nI := 8) (c' := 2) (s' := 1664) (pc' := 18) dX5_init_16 acI rfl (Or.inl ⟨rfl, rfl, rfl⟩) rfl (by decide) ⟨(by decide), (by decide)⟩ (by decide) rfl rfl rfl rfl rfl ?_
  refine T_pfF (y := 8) (k := 1) (pc' := 21) dX5_init_18 rfl cl5 (by decide) rfl (by decide) flX5_15 rfl rfl rfl rfl rfl rfl (fun _ => by decide) (fun _ => (show (8 : Int) < ((9 : Nat) : Int) by decide)) rfl ?_
  refine T_aload_n (i := 0) (pc' := 22) dX5_init_21 rfl rfl rfl ?_
  refine T_iconst (pc' := 23) dX5_init_22 (by decide) rfl ?_
  refine U_pf (y := 0) (k := 2) (kI := 2) (pc' := 26) dX5_init_23 rfl cl5 (by decide) rfl (by decide) flX5_18 rfl rfl rfl rfl rfl (by decide) (fun z => z) rfl ?_
  refine T_aload_n (i := 0) (pc' := 27) dX5_init_26 rfl rfl rfl ?_
  refine T_iconst (pc' := 28) dX5_init_27 (by decide) rfl ?_
  refine U_pf (y := 0) (k := 3) (kI := 3) (pc' := 31) dX5_init_28 rfl cl5 (by decide) rfl (by decide) flX5_22 rfl rfl rfl rfl rfl (by decide) (fun z => z) rfl ?_
  exact T_vret dX5_init_31 rfl ⟨rfl, rfl, rfl⟩
set_option maxRecDepth 100000 in
def km5_X6_init (M : Mem) : Mem := (mset (mset (km4_X5_init (mnew (mset M 5 0 3) 6 (nobj 5))) 5 1 6) 5 2 (-1))
set_option maxRecDepth 100000 in
set_option maxHeartbeats 4000000 in
theorem k5_X6_init {E : EV} {M : Mem} : Ct E miX6_init 2 3 1668 [(2, 5), (2, 3)] (Sq 6) M (fun r S' M' => S' = Sq 9 ∧ r = none ∧ M' = km5_X6_init M) := by
  refine Ct_of (L := [(2, 5), (2, 3)]) (by decide +kernel) (Nat.le_of_ble_eq_true rfl) rfl ?_
  show T E miX6_init 2 6 3 1668 _ 0 _ [] (Sq 6) M 0 0
  refine T_aload_n (i := 0) (pc' := 1) dX6_init_0 rfl rfl rfl ?_
  refine T_objInit (pc' := 4) dX6_init_1 rfl ⟨mlX6_3, oi_in, oi_code⟩ (Nat.le_of_ble_eq_true rfl) (by decide) rfl ?_
  refine T_aload_n (i := 0) (pc' := 5) dX6_init_4 rfl rfl rfl ?_
  refine T_aload_n (i := 1) (pc' := 6) dX6_init_5 rfl rfl rfl ?_
  refine T_pfF (y := 3) (k := 0) (pc' := 9) dX6_init_6 rfl cl6 (by decide) rfl (by decide) flX6_9 rfl rfl rfl rfl rfl rfl (fun _ => by decide) (fun _ => (show (3 : Int) < ((6 : Nat) : Int) by decide)) rfl ?_
  refine T_aload_n (i := 0) (pc' := 10) dX6_init_9 rfl rfl rfl ?_
  refine K_new (S' := Sq 7) (nI := 6) (c' := 1) (s' := 4) (pc' := 13) dX6_init_10 rfl cl5 klX6_15 oky5 ⟨(by decide), (by decide)⟩ (by decide) rfl rfl rfl rfl rfl ?_
  refine T_dup (pc' := 14) dX6_init_13 (Nat.ne_of_beq_eq_false rfl) rfl ?_
  refine T_callI (av := []) (st := [(2, 6), (2, 5)]) (d2 := 1) (nc2 := 2) (ns2 := 1664) (pc' := 17) dX6_init_14 rfl mtX5_init mvX5_init rfl rfl mlX6_17 rfl rfl (Nat.le_of_ble_eq_true rfl) (by decide) ⟨(by decide), (by decide)⟩ rfl (k4_X5_init (M := _)) ?_
  rintro _ _ _ ⟨rfl, rfl, rfl⟩ _
  show T E miX6_init 2 6 3 1668 _ 17 [(2, 5), (2, 3)] [(2, 6), (2, 5)] (Sq 9) _ 3 1668
  refine T_pfF (y := 6) (k := 1) (pc' := 20) dX6_init_17 rfl cl6 (by decide) rfl (by decide) flX6_18 rfl rfl rfl rfl rfl rfl (fun _ => by decide) (fun _ => (show (6 : Int) < ((9 : Nat) : Int) by decide)) rfl ?_
  refine T_aload_n (i := 0) (pc' := 21) dX6_init_20 rfl rfl rfl ?_
  refine T_iconst (pc' := 22) dX6_init_21 (by decide) rfl ?_
  refine U_pf (y := (-1)) (k := 2) (kI := 2) (pc' := 25) dX6_init_22 rfl cl6 (by decide) rfl (by decide) flX6_22 rfl rfl rfl rfl rfl (by decide) (fun z => z) rfl ?_
  exact T_vret dX6_init_25 rfl ⟨rfl, rfl, rfl⟩
set_option maxRecDepth 100000 in
def km6_X7_init (M : Mem) : Mem := (mset (mset (mset (mset (mset (mset (mnew (mset (mnew (mset (mnew (mset (mnew (mset (mnew (mset (mnew M 10 nzero) 9 0 10) 11 nzero) 9 1 11) 12 nzero) 9 2 12) 13 nzero) 9 3 13) 14 nzero) 9 4 14) 15 nzero) 9 5 15) 9 6 0) 9 7 0) 9 8 0) 9 9 (-1)) 9 10 (-1))
set_option maxRecDepth 100000 in
set_option maxHeartbeats 4000000 in
theorem k6_X7_init {E : EV} {M : Mem} : Ct E miX7_init 1 6 2649 [(2, 9)] (Sq 10) M (fun r S' M' => S' = Sq 16 ∧ r = none ∧ M' = km6_X7_init M) := by
  refine Ct_of (L := [(2, 9)]) (by decide +kernel) (Nat.le_of_ble_eq_true rfl) rfl ?_
  show T E miX7_init 1 10 6 2649 _ 0 _ [] (Sq 10) M 0 0
  refine T_aload_n (i := 0) (pc' := 1) dX7_init_0 rfl rfl rfl ?_
  refine T_objInit (pc' := 4) dX7_init_1 rfl ⟨mlX7_3, oi_in, oi_code⟩ (Nat.le_of_ble_eq_true rfl) (by decide) rfl ?_
  refine T_aload_n (i := 0) (pc' := 5) dX7_init_4 rfl rfl rfl ?_
  refine T_sipush (pc' := 8) dX7_init_5 rfl (by decide) rfl ?_
  refine K_arr (n := 1809) (S' := Sq 11) (nI := 10) (c' := 1) (s' := 1809) (pc' := 10) dX7_init_8 acI rfl (Or.inl ⟨rfl, rfl, rfl⟩) rfl (by decide) ⟨(by decide), (by decide)⟩ (by decide) rfl rfl rfl rfl rfl ?_
  refine T_pfF (y := 10) (k := 0) (pc' := 13) dX7_init_10 rfl cl7 (by decide) rfl (by decide) flX7_9 rfl rfl rfl rfl rfl rfl (fun _ => by decide) (fun _ => (show (10 : Int) < ((11 : Nat) : Int) by decide)) rfl ?_
  refine T_aload_n (i := 0) (pc' := 14) dX7_init_13 rfl rfl rfl ?_
  refine T_sipush (pc' := 17) dX7_init_14 rfl (by decide) rfl ?_
  refine K_arr (n := 804) (S' := Sq 12) (nI := 11) (c' := 2) (s' := 2613) (pc' := 19) dX7_init_17 acI rfl (Or.inl ⟨rfl, rfl, rfl⟩) rfl (by decide) ⟨(by decide), (by decide)⟩ (by decide) rfl rfl rfl rfl rfl ?_
  refine T_pfF (y := 11) (k := 1) (pc' := 22) dX7_init_19 rfl cl7 (by decide) rfl (by decide) flX7_15 rfl rfl rfl rfl rfl rfl (fun _ => by decide) (fun _ => (show (11 : Int) < ((12 : Nat) : Int) by decide)) rfl ?_
  refine T_aload_n (i := 0) (pc' := 23) dX7_init_22 rfl rfl rfl ?_
  refine T_bipush (pc' := 25) dX7_init_23 rfl (by decide) rfl ?_
  refine K_arr (n := 9) (S' := Sq 13) (nI := 12) (c' := 3) (s' := 2622) (pc' := 27) dX7_init_25 acI rfl (Or.inl ⟨rfl, rfl, rfl⟩) rfl (by decide) ⟨(by decide), (by decide)⟩ (by decide) rfl rfl rfl rfl rfl ?_
  refine T_pfF (y := 12) (k := 2) (pc' := 30) dX7_init_27 rfl cl7 (by decide) rfl (by decide) flX7_18 rfl rfl rfl rfl rfl rfl (fun _ => by decide) (fun _ => (show (12 : Int) < ((13 : Nat) : Int) by decide)) rfl ?_
  refine T_aload_n (i := 0) (pc' := 31) dX7_init_30 rfl rfl rfl ?_
  refine T_bipush (pc' := 33) dX7_init_31 rfl (by decide) rfl ?_
  refine K_arr (n := 9) (S' := Sq 14) (nI := 13) (c' := 4) (s' := 2631) (pc' := 35) dX7_init_33 acI rfl (Or.inl ⟨rfl, rfl, rfl⟩) rfl (by decide) ⟨(by decide), (by decide)⟩ (by decide) rfl rfl rfl rfl rfl ?_
  refine T_pfF (y := 13) (k := 3) (pc' := 38) dX7_init_35 rfl cl7 (by decide) rfl (by decide) flX7_21 rfl rfl rfl rfl rfl rfl (fun _ => by decide) (fun _ => (show (13 : Int) < ((14 : Nat) : Int) by decide)) rfl ?_
  refine T_aload_n (i := 0) (pc' := 39) dX7_init_38 rfl rfl rfl ?_
  refine T_bipush (pc' := 41) dX7_init_39 rfl (by decide) rfl ?_
  refine K_arr (n := 9) (S' := Sq 15) (nI := 14) (c' := 5) (s' := 2640) (pc' := 43) dX7_init_41 acI rfl (Or.inl ⟨rfl, rfl, rfl⟩) rfl (by decide) ⟨(by decide), (by decide)⟩ (by decide) rfl rfl rfl rfl rfl ?_
  refine T_pfF (y := 14) (k := 4) (pc' := 46) dX7_init_43 rfl cl7 (by decide) rfl (by decide) flX7_24 rfl rfl rfl rfl rfl rfl (fun _ => by decide) (fun _ => (show (14 : Int) < ((15 : Nat) : Int) by decide)) rfl ?_
  refine T_aload_n (i := 0) (pc' := 47) dX7_init_46 rfl rfl rfl ?_
  refine T_bipush (pc' := 49) dX7_init_47 rfl (by decide) rfl ?_
  refine K_arr (n := 9) (S' := Sq 16) (nI := 15) (c' := 6) (s' := 2649) (pc' := 51) dX7_init_49 acI rfl (Or.inl ⟨rfl, rfl, rfl⟩) rfl (by decide) ⟨(by decide), (by decide)⟩ (by decide) rfl rfl rfl rfl rfl ?_
  refine T_pfF (y := 15) (k := 5) (pc' := 54) dX7_init_51 rfl cl7 (by decide) rfl (by decide) flX7_27 rfl rfl rfl rfl rfl rfl (fun _ => by decide) (fun _ => (show (15 : Int) < ((16 : Nat) : Int) by decide)) rfl ?_
  refine T_aload_n (i := 0) (pc' := 55) dX7_init_54 rfl rfl rfl ?_
  refine T_iconst (pc' := 56) dX7_init_55 (by decide) rfl ?_
  refine U_pf (y := 0) (k := 6) (kI := 6) (pc' := 59) dX7_init_56 rfl cl7 (by decide) rfl (by decide) flX7_30 rfl rfl rfl rfl rfl (by decide) (fun z => z) rfl ?_
  refine T_aload_n (i := 0) (pc' := 60) dX7_init_59 rfl rfl rfl ?_
  refine T_iconst (pc' := 61) dX7_init_60 (by decide) rfl ?_
  refine U_pf (y := 0) (k := 7) (kI := 7) (pc' := 64) dX7_init_61 rfl cl7 (by decide) rfl (by decide) flX7_34 rfl rfl rfl rfl rfl (by decide) (fun z => z) rfl ?_
  refine T_aload_n (i := 0) (pc' := 65) dX7_init_64 rfl rfl rfl ?_
  refine T_iconst (pc' := 66) dX7_init_65 (by decide) rfl ?_
  refine U_pf (y := 0) (k := 8) (kI := 8) (pc' := 69) dX7_init_66 rfl cl7 (by decide) rfl (by decide) flX7_37 rfl rfl rfl rfl rfl (by decide) (fun z => z) rfl ?_
  refine T_aload_n (i := 0) (pc' := 70) dX7_init_69 rfl rfl rfl ?_
  refine T_iconst (pc' := 71) dX7_init_70 (by decide) rfl ?_
  refine U_pf (y := (-1)) (k := 9) (kI := 9) (pc' := 74) dX7_init_71 rfl cl7 (by decide) rfl (by decide) flX7_40 rfl rfl rfl rfl rfl (by decide) (fun z => z) rfl ?_
  refine T_aload_n (i := 0) (pc' := 75) dX7_init_74 rfl rfl rfl ?_
  refine T_iconst (pc' := 76) dX7_init_75 (by decide) rfl ?_
  refine U_pf (y := (-1)) (k := 10) (kI := 10) (pc' := 79) dX7_init_76 rfl cl7 (by decide) rfl (by decide) flX7_43 rfl rfl rfl rfl rfl (by decide) (fun z => z) rfl ?_
  exact T_vret dX7_init_79 rfl ⟨rfl, rfl, rfl⟩
set_option maxRecDepth 100000 in
def km7_X3_init (M : Mem) : Mem := (mset (mset (mset (mset (mset (mnew (mset (mnew (mset (mnew (mset (mnew (mset (mnew (mset (mnew (mset (mnew (mset (mnew M 17 nzero) 16 0 17) 18 nzero) 16 1 18) 19 nzero) 16 2 19) 20 nzero) 16 3 20) 21 nzero) 16 4 21) 22 nzero) 16 5 22) 23 nzero) 16 6 23) 24 nzero) 16 7 24) 16 8 0) 16 9 0) 16 10 (-1)) 16 11 (-1))
set_option maxRecDepth 100000 in
set_option maxHeartbeats 4000000 in
theorem k7_X3_init {E : EV} {M : Mem} : Ct E miX3_init 1 8 2757 [(2, 16)] (Sq 17) M (fun r S' M' => S' = Sq 25 ∧ r = none ∧ M' = km7_X3_init M) := by
  refine Ct_of (L := [(2, 16)]) (by decide +kernel) (Nat.le_of_ble_eq_true rfl) rfl ?_
  show T E miX3_init 1 17 8 2757 _ 0 _ [] (Sq 17) M 0 0
  refine T_aload_n (i := 0) (pc' := 1) dX3_init_0 rfl rfl rfl ?_
  refine T_objInit (pc' := 4) dX3_init_1 rfl ⟨mlX3_3, oi_in, oi_code⟩ (Nat.le_of_ble_eq_true rfl) (by decide) rfl ?_
  refine T_aload_n (i := 0) (pc' := 5) dX3_init_4 rfl rfl rfl ?_
  refine T_sipush (pc' := 8) dX3_init_5 rfl (by decide) rfl ?_
  refine K_arr (n := 1809) (S' := Sq 18) (nI := 17) (c' := 1) (s' := 1809) (pc' := 10) dX3_init_8 acI rfl (Or.inl ⟨rfl, rfl, rfl⟩) rfl (by decide) ⟨(by decide), (by decide)⟩ (by decide) rfl rfl rfl rfl rfl ?_
  refine T_pfF (y := 17) (k := 0) (pc' := 13) dX3_init_10 rfl cl3 (by decide) rfl (by decide) flX3_9 rfl rfl rfl rfl rfl rfl (fun _ => by decide) (fun _ => (show (17 : Int) < ((18 : Nat) : Int) by decide)) rfl ?_
  refine T_aload_n (i := 0) (pc' := 14) dX3_init_13 rfl rfl rfl ?_
  refine T_sipush (pc' := 17) dX3_init_14 rfl (by decide) rfl ?_
  refine K_arr (n := 804) (S' := Sq 19) (nI := 18) (c' := 2) (s' := 2613) (pc' := 19) dX3_init_17 acI rfl (Or.inl ⟨rfl, rfl, rfl⟩) rfl (by decide) ⟨(by decide), (by decide)⟩ (by decide) rfl rfl rfl rfl rfl ?_
  refine T_pfF (y := 18) (k := 1) (pc' := 22) dX3_init_19 rfl cl3 (by decide) rfl (by decide) flX3_15 rfl rfl rfl rfl rfl rfl (fun _ => by decide) (fun _ => (show (18 : Int) < ((19 : Nat) : Int) by decide)) rfl ?_
  refine T_aload_n (i := 0) (pc' := 23) dX3_init_22 rfl rfl rfl ?_
  refine T_bipush (pc' := 25) dX3_init_23 rfl (by decide) rfl ?_
  refine K_arr (n := 9) (S' := Sq 20) (nI := 19) (c' := 3) (s' := 2622) (pc' := 27) dX3_init_25 acI rfl (Or.inl ⟨rfl, rfl, rfl⟩) rfl (by decide) ⟨(by decide), (by decide)⟩ (by decide) rfl rfl rfl rfl rfl ?_
  refine T_pfF (y := 19) (k := 2) (pc' := 30) dX3_init_27 rfl cl3 (by decide) rfl (by decide) flX3_18 rfl rfl rfl rfl rfl rfl (fun _ => by decide) (fun _ => (show (19 : Int) < ((20 : Nat) : Int) by decide)) rfl ?_
  refine T_aload_n (i := 0) (pc' := 31) dX3_init_30 rfl rfl rfl ?_
  refine T_bipush (pc' := 33) dX3_init_31 rfl (by decide) rfl ?_
  refine K_arr (n := 9) (S' := Sq 21) (nI := 20) (c' := 4) (s' := 2631) (pc' := 35) dX3_init_33 acI rfl (Or.inl ⟨rfl, rfl, rfl⟩) rfl (by decide) ⟨(by decide), (by decide)⟩ (by decide) rfl rfl rfl rfl rfl ?_
  refine T_pfF (y := 20) (k := 3) (pc' := 38) dX3_init_35 rfl cl3 (by decide) rfl (by decide) flX3_21 rfl rfl rfl rfl rfl rfl (fun _ => by decide) (fun _ => (show (20 : Int) < ((21 : Nat) : Int) by decide)) rfl ?_
  refine T_aload_n (i := 0) (pc' := 39) dX3_init_38 rfl rfl rfl ?_
  refine T_bipush (pc' := 41) dX3_init_39 rfl (by decide) rfl ?_
  refine K_arr (n := 9) (S' := Sq 22) (nI := 21) (c' := 5) (s' := 2640) (pc' := 43) dX3_init_41 acI rfl (Or.inl ⟨rfl, rfl, rfl⟩) rfl (by decide) ⟨(by decide), (by decide)⟩ (by decide) rfl rfl rfl rfl rfl ?_
  refine T_pfF (y := 21) (k := 4) (pc' := 46) dX3_init_43 rfl cl3 (by decide) rfl (by decide) flX3_24 rfl rfl rfl rfl rfl rfl (fun _ => by decide) (fun _ => (show (21 : Int) < ((22 : Nat) : Int) by decide)) rfl ?_
  refine T_aload_n (i := 0) (pc' := 47) dX3_init_46 rfl rfl rfl ?_
  refine T_bipush (pc' := 49) dX3_init_47 rfl (by decide) rfl ?_
  refine K_arr (n := 9) (S' := Sq 23) (nI := 22) (c' := 6) (s' := 2649) (pc' := 51) dX3_init_49 acI rfl (Or.inl ⟨rfl, rfl, rfl⟩) rfl (by decide) ⟨(by decide), (by decide)⟩ (by decide) rfl rfl rfl rfl rfl ?_
  refine T_pfF (y := 22) (k := 5) (pc' := 54) dX3_init_51 rfl cl3 (by decide) rfl (by decide) flX3_27 rfl rfl rfl rfl rfl rfl (fun _ => by decide) (fun _ => (show (22 : Int) < ((23 : Nat) : Int) by decide)) rfl ?_
  refine T_aload_n (i := 0) (pc' := 55) dX3_init_54 rfl rfl rfl ?_
  refine T_bipush (pc' := 57) dX3_init_55 rfl (by decide) rfl ?_
  refine K_arr (n := 54) (S' := Sq 24) (nI := 23) (c' := 7) (s' := 2703) (pc' := 59) dX3_init_57 acI rfl (Or.inl ⟨rfl, rfl, rfl⟩) rfl (by decide) ⟨(by decide), (by decide)⟩ (by decide) rfl rfl rfl rfl rfl ?_
  refine T_pfF (y := 23) (k := 6) (pc' := 62) dX3_init_59 rfl cl3 (by decide) rfl (by decide) flX3_30 rfl rfl rfl rfl rfl rfl (fun _ => by decide) (fun _ => (show (23 : Int) < ((24 : Nat) : Int) by decide)) rfl ?_
  refine T_aload_n (i := 0) (pc' := 63) dX3_init_62 rfl rfl rfl ?_
  refine T_bipush (pc' := 65) dX3_init_63 rfl (by decide) rfl ?_
  refine K_arr (n := 54) (S' := Sq 25) (nI := 24) (c' := 8) (s' := 2757) (pc' := 67) dX3_init_65 acI rfl (Or.inl ⟨rfl, rfl, rfl⟩) rfl (by decide) ⟨(by decide), (by decide)⟩ (by decide) rfl rfl rfl rfl rfl ?_
  refine T_pfF (y := 24) (k := 7) (pc' := 70) dX3_init_67 rfl cl3 (by decide) rfl (by decide) flX3_33 rfl rfl rfl rfl rfl rfl (fun _ => by decide) (fun _ => (show (24 : Int) < ((25 : Nat) : Int) by decide)) rfl ?_
  refine T_aload_n (i := 0) (pc' := 71) dX3_init_70 rfl rfl rfl ?_
  refine T_iconst (pc' := 72) dX3_init_71 (by decide) rfl ?_
  refine U_pf (y := 0) (k := 8) (kI := 8) (pc' := 75) dX3_init_72 rfl cl3 (by decide) rfl (by decide) flX3_36 rfl rfl rfl rfl rfl (by decide) (fun z => z) rfl ?_
  refine T_aload_n (i := 0) (pc' := 76) dX3_init_75 rfl rfl rfl ?_
  refine T_iconst (pc' := 77) dX3_init_76 (by decide) rfl ?_
  refine U_pf (y := 0) (k := 9) (kI := 9) (pc' := 80) dX3_init_77 rfl cl3 (by decide) rfl (by decide) flX3_40 rfl rfl rfl rfl rfl (by decide) (fun z => z) rfl ?_
  refine T_aload_n (i := 0) (pc' := 81) dX3_init_80 rfl rfl rfl ?_
  refine T_iconst (pc' := 82) dX3_init_81 (by decide) rfl ?_
  refine U_pf (y := (-1)) (k := 10) (kI := 10) (pc' := 85) dX3_init_82 rfl cl3 (by decide) rfl (by decide) flX3_43 rfl rfl rfl rfl rfl (by decide) (fun z => z) rfl ?_
  refine T_aload_n (i := 0) (pc' := 86) dX3_init_85 rfl rfl rfl ?_
  refine T_iconst (pc' := 87) dX3_init_86 (by decide) rfl ?_
  refine U_pf (y := (-1)) (k := 11) (kI := 11) (pc' := 90) dX3_init_87 rfl cl3 (by decide) rfl (by decide) flX3_46 rfl rfl rfl rfl rfl (by decide) (fun z => z) rfl ?_
  exact T_vret dX3_init_90 rfl ⟨rfl, rfl, rfl⟩
set_option maxRecDepth 100000 in
def km8_X10_init (M : Mem) : Mem := (mset (mset (mset (mnew (mset M 25 0 9) 26 nzero) 25 1 26) 25 2 (-1)) 25 3 (-1))
set_option maxRecDepth 100000 in
set_option maxHeartbeats 4000000 in
theorem k8_X10_init {E : EV} {M : Mem} : Ct E miX10_init 1 1 9 [(2, 25), (2, 9)] (Sq 26) M (fun r S' M' => S' = Sq 27 ∧ r = none ∧ M' = km8_X10_init M) := by
  refine Ct_of (L := [(2, 25), (2, 9)]) (by decide +kernel) (Nat.le_of_ble_eq_true rfl) rfl ?_
  show T E miX10_init 1 26 1 9 _ 0 _ [] (Sq 26) M 0 0
  refine T_aload_n (i := 0) (pc' := 1) dX10_init_0 rfl rfl rfl ?_
  refine T_objInit (pc' := 4) dX10_init_1 rfl ⟨mlX10_3, oi_in, oi_code⟩ (Nat.le_of_ble_eq_true rfl) (by decide) rfl ?_
  refine T_aload_n (i := 0) (pc' := 5) dX10_init_4 rfl rfl rfl ?_
  refine T_aload_n (i := 1) (pc' := 6) dX10_init_5 rfl rfl rfl ?_
  refine T_pfF (y := 9) (k := 0) (pc' := 9) dX10_init_6 rfl cl10 (by decide) rfl (by decide) flX10_9 rfl rfl rfl rfl rfl rfl (fun _ => by decide) (fun _ => (show (9 : Int) < ((26 : Nat) : Int) by decide)) rfl ?_
  refine T_aload_n (i := 0) (pc' := 10) dX10_init_9 rfl rfl rfl ?_
  refine T_bipush (pc' := 12) dX10_init_10 rfl (by decide) rfl ?_
  refine K_arr (n := 9) (S' := Sq 27) (nI := 26) (c' := 1) (s' := 9) (pc' := 14) dX10_init_12 acI rfl (Or.inl ⟨rfl, rfl, rfl⟩) rfl (by decide) ⟨(by decide), (by decide)⟩ (by decide) rfl rfl rfl rfl rfl ?_
  refine T_pfF (y := 26) (k := 1) (pc' := 17) dX10_init_14 rfl cl10 (by decide) rfl (by decide) flX10_15 rfl rfl rfl rfl rfl rfl (fun _ => by decide) (fun _ => (show (26 : Int) < ((27 : Nat) : Int) by decide)) rfl ?_
  refine T_aload_n (i := 0) (pc' := 18) dX10_init_17 rfl rfl rfl ?_
  refine T_iconst (pc' := 19) dX10_init_18 (by decide) rfl ?_
  refine U_pf (y := (-1)) (k := 2) (kI := 2) (pc' := 22) dX10_init_19 rfl cl10 (by decide) rfl (by decide) flX10_19 rfl rfl rfl rfl rfl (by decide) (fun z => z) rfl ?_
  refine T_aload_n (i := 0) (pc' := 23) dX10_init_22 rfl rfl rfl ?_
  refine T_iconst (pc' := 24) dX10_init_23 (by decide) rfl ?_
  refine U_pf (y := (-1)) (k := 3) (kI := 3) (pc' := 27) dX10_init_24 rfl cl10 (by decide) rfl (by decide) flX10_23 rfl rfl rfl rfl rfl (by decide) (fun z => z) rfl ?_
  exact T_vret dX10_init_27 rfl ⟨rfl, rfl, rfl⟩
set_option maxRecDepth 100000 in
def km9_X0_init (M : Mem) : Mem := (mset (mset (mnew (mset (mnew (mset (mnew M 28 nzero) 27 0 28) 29 nzero) 27 1 29) 30 nzero) 27 2 30) 27 3 0)
set_option maxRecDepth 100000 in
set_option maxHeartbeats 4000000 in
theorem k9_X0_init {E : EV} {M : Mem} : Ct E miX0_init 1 3 60 [(2, 27)] (Sq 28) M (fun r S' M' => S' = Sq 31 ∧ r = none ∧ M' = km9_X0_init M) := by
  refine Ct_of (L := [(2, 27)]) (by decide +kernel) (Nat.le_of_ble_eq_true rfl) rfl ?_
  show T E miX0_init 1 28 3 60 _ 0 _ [] (Sq 28) M 0 0
  refine T_aload_n (i := 0) (pc' := 1) dX0_init_0 rfl rfl rfl ?_
  refine T_objInit (pc' := 4) dX0_init_1 rfl ⟨mlX0_3, oi_in, oi_code⟩ (Nat.le_of_ble_eq_true rfl) (by decide) rfl ?_
  refine T_aload_n (i := 0) (pc' := 5) dX0_init_4 rfl rfl rfl ?_
  refine T_bipush (pc' := 7) dX0_init_5 rfl (by decide) rfl ?_
  refine K_arr (n := 20) (S' := Sq 29) (nI := 28) (c' := 1) (s' := 20) (pc' := 9) dX0_init_7 acI rfl (Or.inl ⟨rfl, rfl, rfl⟩) rfl (by decide) ⟨(by decide), (by decide)⟩ (by decide) rfl rfl rfl rfl rfl ?_
  refine T_pfF (y := 28) (k := 0) (pc' := 12) dX0_init_9 rfl cl0 (by decide) rfl (by decide) flX0_9 rfl rfl rfl rfl rfl rfl (fun _ => by decide) (fun _ => (show (28 : Int) < ((29 : Nat) : Int) by decide)) rfl ?_
  refine T_aload_n (i := 0) (pc' := 13) dX0_init_12 rfl rfl rfl ?_
  refine T_bipush (pc' := 15) dX0_init_13 rfl (by decide) rfl ?_
  refine K_arr (n := 20) (S' := Sq 30) (nI := 29) (c' := 2) (s' := 40) (pc' := 17) dX0_init_15 acI rfl (Or.inl ⟨rfl, rfl, rfl⟩) rfl (by decide) ⟨(by decide), (by decide)⟩ (by decide) rfl rfl rfl rfl rfl ?_
  refine T_pfF (y := 29) (k := 1) (pc' := 20) dX0_init_17 rfl cl0 (by decide) rfl (by decide) flX0_15 rfl rfl rfl rfl rfl rfl (fun _ => by decide) (fun _ => (show (29 : Int) < ((30 : Nat) : Int) by decide)) rfl ?_
  refine T_aload_n (i := 0) (pc' := 21) dX0_init_20 rfl rfl rfl ?_
  refine T_bipush (pc' := 23) dX0_init_21 rfl (by decide) rfl ?_
  refine K_arr (n := 20) (S' := Sq 31) (nI := 30) (c' := 3) (s' := 60) (pc' := 25) dX0_init_23 acI rfl (Or.inl ⟨rfl, rfl, rfl⟩) rfl (by decide) ⟨(by decide), (by decide)⟩ (by decide) rfl rfl rfl rfl rfl ?_
  refine T_pfF (y := 30) (k := 2) (pc' := 28) dX0_init_25 rfl cl0 (by decide) rfl (by decide) flX0_18 rfl rfl rfl rfl rfl rfl (fun _ => by decide) (fun _ => (show (30 : Int) < ((31 : Nat) : Int) by decide)) rfl ?_
  refine T_aload_n (i := 0) (pc' := 29) dX0_init_28 rfl rfl rfl ?_
  refine T_iconst (pc' := 30) dX0_init_29 (by decide) rfl ?_
  refine U_pf (y := 0) (k := 3) (kI := 3) (pc' := 33) dX0_init_30 rfl cl0 (by decide) rfl (by decide) flX0_21 rfl rfl rfl rfl rfl (by decide) (fun z => z) rfl ?_
  exact T_vret dX0_init_33 rfl ⟨rfl, rfl, rfl⟩
set_option maxRecDepth 100000 in
def km10_X4_init (M : Mem) : Mem := (mset (mset (mset (mnew (mset (mnew (mset (mnew (mset (mnew (mset (mnew (mset (mnew (mset (mnew M 34 nzero) 33 0 34) 35 nzero) 33 1 35) 36 nzero) 33 2 36) 37 nzero) 33 3 37) 38 nzero) 33 4 38) 39 nzero) 33 5 39) 40 nzero) 33 6 40) 33 7 0) 33 8 0)
set_option maxRecDepth 100000 in
set_option maxHeartbeats 4000000 in
theorem k10_X4_init {E : EV} {M : Mem} : Ct E miX4_init 1 7 162 [(2, 33)] (Sq 34) M (fun r S' M' => S' = Sq 41 ∧ r = none ∧ M' = km10_X4_init M) := by
  refine Ct_of (L := [(2, 33)]) (by decide +kernel) (Nat.le_of_ble_eq_true rfl) rfl ?_
  show T E miX4_init 1 34 7 162 _ 0 _ [] (Sq 34) M 0 0
  refine T_aload_n (i := 0) (pc' := 1) dX4_init_0 rfl rfl rfl ?_
  refine T_objInit (pc' := 4) dX4_init_1 rfl ⟨mlX4_3, oi_in, oi_code⟩ (Nat.le_of_ble_eq_true rfl) (by decide) rfl ?_
  refine T_aload_n (i := 0) (pc' := 5) dX4_init_4 rfl rfl rfl ?_
  refine T_bipush (pc' := 7) dX4_init_5 rfl (by decide) rfl ?_
  refine K_arr (n := 9) (S' := Sq 35) (nI := 34) (c' := 1) (s' := 9) (pc' := 9) dX4_init_7 acI rfl (Or.inl ⟨rfl, rfl, rfl⟩) rfl (by decide) ⟨(by decide), (by decide)⟩ (by decide) rfl rfl rfl rfl rfl ?_
  refine T_pfF (y := 34) (k := 0) (pc' := 12) dX4_init_9 rfl cl4 (by decide) rfl (by decide) flX4_9 rfl rfl rfl rfl rfl rfl (fun _ => by decide) (fun _ => (show (34 : Int) < ((35 : Nat) : Int) by decide)) rfl ?_
  refine T_aload_n (i := 0) (pc' := 13) dX4_init_12 rfl rfl rfl ?_
  refine T_bipush (pc' := 15) dX4_init_13 rfl (by decide) rfl ?_
  refine K_arr (n := 9) (S' := Sq 36) (nI := 35) (c' := 2) (s' := 18) (pc' := 17) dX4_init_15 acI rfl (Or.inl ⟨rfl, rfl, rfl⟩) rfl (by decide) ⟨(by decide), (by decide)⟩ (by decide) rfl rfl rfl rfl rfl ?_
  refine T_pfF (y := 35) (k := 1) (pc' := 20) dX4_init_17 rfl cl4 (by decide) rfl (by decide) flX4_15 rfl rfl rfl rfl rfl rfl (fun _ => by decide) (fun _ => (show (35 : Int) < ((36 : Nat) : Int) by decide)) rfl ?_
  refine T_aload_n (i := 0) (pc' := 21) dX4_init_20 rfl rfl rfl ?_
  refine T_bipush (pc' := 23) dX4_init_21 rfl (by decide) rfl ?_
  refine K_arr (n := 9) (S' := Sq 37) (nI := 36) (c' := 3) (s' := 27) (pc' := 25) dX4_init_23 acI rfl (Or.inl ⟨rfl, rfl, rfl⟩) rfl (by decide) ⟨(by decide), (by decide)⟩ (by decide) rfl rfl rfl rfl rfl ?_
  refine T_pfF (y := 36) (k := 2) (pc' := 28) dX4_init_25 rfl cl4 (by decide) rfl (by decide) flX4_18 rfl rfl rfl rfl rfl rfl (fun _ => by decide) (fun _ => (show (36 : Int) < ((37 : Nat) : Int) by decide)) rfl ?_
  refine T_aload_n (i := 0) (pc' := 29) dX4_init_28 rfl rfl rfl ?_
  refine T_bipush (pc' := 31) dX4_init_29 rfl (by decide) rfl ?_
  refine K_arr (n := 9) (S' := Sq 38) (nI := 37) (c' := 4) (s' := 36) (pc' := 33) dX4_init_31 acI rfl (Or.inl ⟨rfl, rfl, rfl⟩) rfl (by decide) ⟨(by decide), (by decide)⟩ (by decide) rfl rfl rfl rfl rfl ?_
  refine T_pfF (y := 37) (k := 3) (pc' := 36) dX4_init_33 rfl cl4 (by decide) rfl (by decide) flX4_21 rfl rfl rfl rfl rfl rfl (fun _ => by decide) (fun _ => (show (37 : Int) < ((38 : Nat) : Int) by decide)) rfl ?_
  refine T_aload_n (i := 0) (pc' := 37) dX4_init_36 rfl rfl rfl ?_
  refine T_bipush (pc' := 39) dX4_init_37 rfl (by decide) rfl ?_
  refine K_arr (n := 9) (S' := Sq 39) (nI := 38) (c' := 5) (s' := 45) (pc' := 41) dX4_init_39 acI rfl (Or.inl ⟨rfl, rfl, rfl⟩) rfl (by decide) ⟨(by decide), (by decide)⟩ (by decide) rfl rfl rfl rfl rfl ?_
  refine T_pfF (y := 38) (k := 4) (pc' := 44) dX4_init_41 rfl cl4 (by decide) rfl (by decide) flX4_24 rfl rfl rfl rfl rfl rfl (fun _ => by decide) (fun _ => (show (38 : Int) < ((39 : Nat) : Int) by decide)) rfl ?_
  refine T_aload_n (i := 0) (pc' := 45) dX4_init_44 rfl rfl rfl ?_
  refine T_bipush (pc' := 47) dX4_init_45 rfl (by decide) rfl ?_
  refine K_arr (n := 9) (S' := Sq 40) (nI := 39) (c' := 6) (s' := 54) (pc' := 49) dX4_init_47 acI rfl (Or.inl ⟨rfl, rfl, rfl⟩) rfl (by decide) ⟨(by decide), (by decide)⟩ (by decide) rfl rfl rfl rfl rfl ?_
  refine T_pfF (y := 39) (k := 5) (pc' := 52) dX4_init_49 rfl cl4 (by decide) rfl (by decide) flX4_27 rfl rfl rfl rfl rfl rfl (fun _ => by decide) (fun _ => (show (39 : Int) < ((40 : Nat) : Int) by decide)) rfl ?_
  refine T_aload_n (i := 0) (pc' := 53) dX4_init_52 rfl rfl rfl ?_
  refine T_bipush (pc' := 55) dX4_init_53 rfl (by decide) rfl ?_
  refine K_arr (n := 108) (S' := Sq 41) (nI := 40) (c' := 7) (s' := 162) (pc' := 57) dX4_init_55 acI rfl (Or.inl ⟨rfl, rfl, rfl⟩) rfl (by decide) ⟨(by decide), (by decide)⟩ (by decide) rfl rfl rfl rfl rfl ?_
  refine T_pfF (y := 40) (k := 6) (pc' := 60) dX4_init_57 rfl cl4 (by decide) rfl (by decide) flX4_30 rfl rfl rfl rfl rfl rfl (fun _ => by decide) (fun _ => (show (40 : Int) < ((41 : Nat) : Int) by decide)) rfl ?_
  refine T_aload_n (i := 0) (pc' := 61) dX4_init_60 rfl rfl rfl ?_
  refine T_iconst (pc' := 62) dX4_init_61 (by decide) rfl ?_
  refine U_pf (y := 0) (k := 7) (kI := 7) (pc' := 65) dX4_init_62 rfl cl4 (by decide) rfl (by decide) flX4_33 rfl rfl rfl rfl rfl (by decide) (fun z => z) rfl ?_
  refine T_aload_n (i := 0) (pc' := 66) dX4_init_65 rfl rfl rfl ?_
  refine T_iconst (pc' := 67) dX4_init_66 (by decide) rfl ?_
  refine U_pf (y := 0) (k := 8) (kI := 8) (pc' := 70) dX4_init_67 rfl cl4 (by decide) rfl (by decide) flX4_37 rfl rfl rfl rfl rfl (by decide) (fun z => z) rfl ?_
  exact T_vret dX4_init_70 rfl ⟨rfl, rfl, rfl⟩
set_option maxRecDepth 100000 in
def km11_X1_init (M : Mem) : Mem := (clr (mset (mnew (mset (mnew (mset (mnew (mset (mnew (mset (mnew (mset (mnew (mset (mnew (mset (mnew (mset (km10_X4_init (mnew M 33 (nobj 4))) 32 0 33) 41 nzero) 32 1 41) 42 nzero) 32 2 42) 43 nzero) 32 3 43) 44 nzero) 32 4 44) 45 nzero) 32 5 45) 46 nzero) 32 6 46) 47 nzero) 32 7 47) 48 nzero) 32 8 48) 32 33 41)
set_option maxRecDepth 100000 in
set_option maxHeartbeats 4000000 in
theorem k11_X1_init {E : EV} {M : Mem} : Ct E miX1_init 3 16 307 [(2, 32)] (Sq 33) M (fun r S' M' => S' = Sq 49 ∧ r = none ∧ M' = km11_X1_init M) := by
  refine Ct_of (L := [(2, 32)]) (by decide +kernel) (Nat.le_of_ble_eq_true rfl) rfl ?_
  show T E miX1_init 3 33 16 307 _ 0 _ [] (Sq 33) M 0 0
  refine T_aload_n (i := 0) (pc' := 1) dX1_init_0 rfl rfl rfl ?_
  refine T_objInit (pc' := 4) dX1_init_1 rfl ⟨mlX1_3, oi_in, oi_code⟩ (Nat.le_of_ble_eq_true rfl) (by decide) rfl ?_
  refine T_aload_n (i := 0) (pc' := 5) dX1_init_4 rfl rfl rfl ?_
  refine K_new (S' := Sq 34) (nI := 33) (c' := 1) (s' := 9) (pc' := 8) dX1_init_5 rfl cl4 klX1_9 oky4 ⟨(by decide), (by decide)⟩ (by decide) rfl rfl rfl rfl rfl ?_
  refine T_dup (pc' := 9) dX1_init_8 (Nat.ne_of_beq_eq_false rfl) rfl ?_
  refine T_callI (av := []) (st := [(2, 33), (2, 32)]) (d2 := 1) (nc2 := 7) (ns2 := 162) (pc' := 12) dX1_init_9 rfl mtX4_init mvX4_init rfl rfl mlX1_11 rfl rfl (Nat.le_of_ble_eq_true rfl) (by decide) ⟨(by decide), (by decide)⟩ rfl (k10_X4_init (M := _)) ?_
  rintro _ _ _ ⟨rfl, rfl, rfl⟩ _
  show T E miX1_init 3 33 16 307 _ 12 [(2, 32)] [(2, 33), (2, 32)] (Sq 41) _ 8 171
  refine T_pfF (y := 33) (k := 0) (pc' := 15) dX1_init_12 rfl cl1 (by decide) rfl (by decide) flX1_12 rfl rfl rfl rfl rfl rfl (fun _ => by decide) (fun _ => (show (33 : Int) < ((41 : Nat) : Int) by decide)) rfl ?_
  refine T_aload_n (i := 0) (pc' := 16) dX1_init_15 rfl rfl rfl ?_
  refine T_bipush (pc' := 18) dX1_init_16 rfl (by decide) rfl ?_
  refine K_arr (n := 54) (S' := Sq 42) (nI := 41) (c' := 9) (s' := 225) (pc' := 20) dX1_init_18 acI rfl (Or.inl ⟨rfl, rfl, rfl⟩) rfl (by decide) ⟨(by decide), (by decide)⟩ (by decide) rfl rfl rfl rfl rfl ?_
  refine T_pfF (y := 41) (k := 1) (pc' := 23) dX1_init_20 rfl cl1 (by decide) rfl (by decide) flX1_18 rfl rfl rfl rfl rfl rfl (fun _ => by decide) (fun _ => (show (41 : Int) < ((42 : Nat) : Int) by decide)) rfl ?_
  refine T_aload_n (i := 0) (pc' := 24) dX1_init_23 rfl rfl rfl ?_
  refine T_bipush (pc' := 26) dX1_init_24 rfl (by decide) rfl ?_
  refine K_arr (n := 6) (S' := Sq 43) (nI := 42) (c' := 10) (s' := 231) (pc' := 28) dX1_init_26 acI rfl (Or.inl ⟨rfl, rfl, rfl⟩) rfl (by decide) ⟨(by decide), (by decide)⟩ (by decide) rfl rfl rfl rfl rfl ?_
  refine T_pfF (y := 42) (k := 2) (pc' := 31) dX1_init_28 rfl cl1 (by decide) rfl (by decide) flX1_22 rfl rfl rfl rfl rfl rfl (fun _ => by decide) (fun _ => (show (42 : Int) < ((43 : Nat) : Int) by decide)) rfl ?_
  refine T_aload_n (i := 0) (pc' := 32) dX1_init_31 rfl rfl rfl ?_
  refine T_bipush (pc' := 34) dX1_init_32 rfl (by decide) rfl ?_
  refine K_arr (n := 6) (S' := Sq 44) (nI := 43) (c' := 11) (s' := 237) (pc' := 36) dX1_init_34 acI rfl (Or.inl ⟨rfl, rfl, rfl⟩) rfl (by decide) ⟨(by decide), (by decide)⟩ (by decide) rfl rfl rfl rfl rfl ?_
  refine T_pfF (y := 43) (k := 3) (pc' := 39) dX1_init_36 rfl cl1 (by decide) rfl (by decide) flX1_25 rfl rfl rfl rfl rfl rfl (fun _ => by decide) (fun _ => (show (43 : Int) < ((44 : Nat) : Int) by decide)) rfl ?_
  refine T_aload_n (i := 0) (pc' := 40) dX1_init_39 rfl rfl rfl ?_
  refine T_iconst (pc' := 41) dX1_init_40 (by decide) rfl ?_
  refine K_arr (n := 4) (S' := Sq 45) (nI := 44) (c' := 12) (s' := 241) (pc' := 43) dX1_init_41 acI rfl (Or.inl ⟨rfl, rfl, rfl⟩) rfl (by decide) ⟨(by decide), (by decide)⟩ (by decide) rfl rfl rfl rfl rfl ?_
  refine T_pfF (y := 44) (k := 4) (pc' := 46) dX1_init_43 rfl cl1 (by decide) rfl (by decide) flX1_28 rfl rfl rfl rfl rfl rfl (fun _ => by decide) (fun _ => (show (44 : Int) < ((45 : Nat) : Int) by decide)) rfl ?_
  refine T_aload_n (i := 0) (pc' := 47) dX1_init_46 rfl rfl rfl ?_
  refine T_iconst (pc' := 48) dX1_init_47 (by decide) rfl ?_
  refine K_arr (n := 4) (S' := Sq 46) (nI := 45) (c' := 13) (s' := 245) (pc' := 50) dX1_init_48 acI rfl (Or.inl ⟨rfl, rfl, rfl⟩) rfl (by decide) ⟨(by decide), (by decide)⟩ (by decide) rfl rfl rfl rfl rfl ?_
  refine T_pfF (y := 45) (k := 5) (pc' := 53) dX1_init_50 rfl cl1 (by decide) rfl (by decide) flX1_31 rfl rfl rfl rfl rfl rfl (fun _ => by decide) (fun _ => (show (45 : Int) < ((46 : Nat) : Int) by decide)) rfl ?_
  refine T_aload_n (i := 0) (pc' := 54) dX1_init_53 rfl rfl rfl ?_
  refine T_iconst (pc' := 55) dX1_init_54 (by decide) rfl ?_
  refine K_arr (n := 4) (S' := Sq 47) (nI := 46) (c' := 14) (s' := 249) (pc' := 57) dX1_init_55 acI rfl (Or.inl ⟨rfl, rfl, rfl⟩) rfl (by decide) ⟨(by decide), (by decide)⟩ (by decide) rfl rfl rfl rfl rfl ?_
  refine T_pfF (y := 46) (k := 6) (pc' := 60) dX1_init_57 rfl cl1 (by decide) rfl (by decide) flX1_34 rfl rfl rfl rfl rfl rfl (fun _ => by decide) (fun _ => (show (46 : Int) < ((47 : Nat) : Int) by decide)) rfl ?_
  refine T_aload_n (i := 0) (pc' := 61) dX1_init_60 rfl rfl rfl ?_
  refine T_iconst (pc' := 62) dX1_init_61 (by decide) rfl ?_
  refine K_arr (n := 4) (S' := Sq 48) (nI := 47) (c' := 15) (s' := 253) (pc' := 64) dX1_init_62 acI rfl (Or.inl ⟨rfl, rfl, rfl⟩) rfl (by decide) ⟨(by decide), (by decide)⟩ (by decide) rfl rfl rfl rfl rfl ?_
  refine T_pfF (y := 47) (k := 7) (pc' := 67) dX1_init_64 rfl cl1 (by decide) rfl (by decide) flX1_37 rfl rfl rfl rfl rfl rfl (fun _ => by decide) (fun _ => (show (47 : Int) < ((48 : Nat) : Int) by decide)) rfl ?_
  refine T_aload_n (i := 0) (pc' := 68) dX1_init_67 rfl rfl rfl ?_
  refine T_bipush (pc' := 70) dX1_init_68 rfl (by decide) rfl ?_
  refine K_arr (n := 54) (S' := Sq 49) (nI := 48) (c' := 16) (s' := 307) (pc' := 72) dX1_init_70 acJ rfl (Or.inr (Or.inl ⟨rfl, rfl, rfl⟩)) rfl (by decide) ⟨(by decide), (by decide)⟩ (by decide) rfl rfl rfl rfl rfl ?_
  refine T_pfF (y := 48) (k := 8) (pc' := 75) dX1_init_72 rfl cl1 (by decide) rfl (by decide) flX1_40 rfl rfl rfl rfl rfl rfl (fun _ => by decide) (fun _ => (show (48 : Int) < ((49 : Nat) : Int) by decide)) rfl ?_
  refine T_aload_n (i := 0) (pc' := 76) dX1_init_75 rfl rfl rfl ?_
  refine T_callV (av := []) (st := []) (d2 := 2) (nc2 := 0) (ns2 := 0) (pc' := 79) dX1_init_76 rfl mtX1_clear mvX1_clear mlX1_44 cl1 rfl rfl rfl (Nat.le_of_ble_eq_true rfl) (by decide) ⟨(by decide), (by decide)⟩ rfl (clear_S (g := 32) (p := 33) (w := 41) (by decide) (by decide) (by decide) rfl rfl rfl rfl rfl) ?_
  rintro _ _ _ ⟨rfl, rfl, rfl⟩ _
  exact T_vret dX1_init_79 rfl ⟨rfl, rfl, rfl⟩
set_option maxRecDepth 100000 in
def km12_X4_init (M : Mem) : Mem := (mset (mset (mset (mnew (mset (mnew (mset (mnew (mset (mnew (mset (mnew (mset (mnew (mset (mnew M 51 nzero) 50 0 51) 52 nzero) 50 1 52) 53 nzero) 50 2 53) 54 nzero) 50 3 54) 55 nzero) 50 4 55) 56 nzero) 50 5 56) 57 nzero) 50 6 57) 50 7 0) 50 8 0)
set_option maxRecDepth 100000 in
set_option maxHeartbeats 4000000 in
theorem k12_X4_init {E : EV} {M : Mem} : Ct E miX4_init 1 7 162 [(2, 50)] (Sq 51) M (fun r S' M' => S' = Sq 58 ∧ r = none ∧ M' = km12_X4_init M) := by
  refine Ct_of (L := [(2, 50)]) (by decide +kernel) (Nat.le_of_ble_eq_true rfl) rfl ?_
  show T E miX4_init 1 51 7 162 _ 0 _ [] (Sq 51) M 0 0
  refine T_aload_n (i := 0) (pc' := 1) dX4_init_0 rfl rfl rfl ?_
  refine T_objInit (pc' := 4) dX4_init_1 rfl ⟨mlX4_3, oi_in, oi_code⟩ (Nat.le_of_ble_eq_true rfl) (by decide) rfl ?_
  refine T_aload_n (i := 0) (pc' := 5) dX4_init_4 rfl rfl rfl ?_
  refine T_bipush (pc' := 7) dX4_init_5 rfl (by decide) rfl ?_
  refine K_arr (n := 9) (S' := Sq 52) (nI := 51) (c' := 1) (s' := 9) (pc' := 9) dX4_init_7 acI rfl (Or.inl ⟨rfl, rfl, rfl⟩) rfl (by decide) ⟨(by decide), (by decide)⟩ (by decide) rfl rfl rfl rfl rfl ?_
  refine T_pfF (y := 51) (k := 0) (pc' := 12) dX4_init_9 rfl cl4 (by decide) rfl (by decide) flX4_9 rfl rfl rfl rfl rfl rfl (fun _ => by decide) (fun _ => (show (51 : Int) < ((52 : Nat) : Int) by decide)) rfl ?_
  refine T_aload_n (i := 0) (pc' := 13) dX4_init_12 rfl rfl rfl ?_
  refine T_bipush (pc' := 15) dX4_init_13 rfl (by decide) rfl ?_
  refine K_arr (n := 9) (S' := Sq 53) (nI := 52) (c' := 2) (s' := 18) (pc' := 17) dX4_init_15 acI rfl (Or.inl ⟨rfl, rfl, rfl⟩) rfl (by decide) ⟨(by decide), (by decide)⟩ (by decide) rfl rfl rfl rfl rfl ?_
  refine T_pfF (y := 52) (k := 1) (pc' := 20) dX4_init_17 rfl cl4 (by decide) rfl (by decide) flX4_15 rfl rfl rfl rfl rfl rfl (fun _ => by decide) (fun _ => (show (52 : Int) < ((53 : Nat) : Int) by decide)) rfl ?_
  refine T_aload_n (i := 0) (pc' := 21) dX4_init_20 rfl rfl rfl ?_
  refine T_bipush (pc' := 23) dX4_init_21 rfl (by decide) rfl ?_
  refine K_arr (n := 9) (S' := Sq 54) (nI := 53) (c' := 3) (s' := 27) (pc' := 25) dX4_init_23 acI rfl (Or.inl ⟨rfl, rfl, rfl⟩) rfl (by decide) ⟨(by decide), (by decide)⟩ (by decide) rfl rfl rfl rfl rfl ?_
  refine T_pfF (y := 53) (k := 2) (pc' := 28) dX4_init_25 rfl cl4 (by decide) rfl (by decide) flX4_18 rfl rfl rfl rfl rfl rfl (fun _ => by decide) (fun _ => (show (53 : Int) < ((54 : Nat) : Int) by decide)) rfl ?_
  refine T_aload_n (i := 0) (pc' := 29) dX4_init_28 rfl rfl rfl ?_
  refine T_bipush (pc' := 31) dX4_init_29 rfl (by decide) rfl ?_
  refine K_arr (n := 9) (S' := Sq 55) (nI := 54) (c' := 4) (s' := 36) (pc' := 33) dX4_init_31 acI rfl (Or.inl ⟨rfl, rfl, rfl⟩) rfl (by decide) ⟨(by decide), (by decide)⟩ (by decide) rfl rfl rfl rfl rfl ?_
  refine T_pfF (y := 54) (k := 3) (pc' := 36) dX4_init_33 rfl cl4 (by decide) rfl (by decide) flX4_21 rfl rfl rfl rfl rfl rfl (fun _ => by decide) (fun _ => (show (54 : Int) < ((55 : Nat) : Int) by decide)) rfl ?_
  refine T_aload_n (i := 0) (pc' := 37) dX4_init_36 rfl rfl rfl ?_
  refine T_bipush (pc' := 39) dX4_init_37 rfl (by decide) rfl ?_
  refine K_arr (n := 9) (S' := Sq 56) (nI := 55) (c' := 5) (s' := 45) (pc' := 41) dX4_init_39 acI rfl (Or.inl ⟨rfl, rfl, rfl⟩) rfl (by decide) ⟨(by decide), (by decide)⟩ (by decide) rfl rfl rfl rfl rfl ?_
  refine T_pfF (y := 55) (k := 4) (pc' := 44) dX4_init_41 rfl cl4 (by decide) rfl (by decide) flX4_24 rfl rfl rfl rfl rfl rfl (fun _ => by decide) (fun _ => (show (55 : Int) < ((56 : Nat) : Int) by decide)) rfl ?_
  refine T_aload_n (i := 0) (pc' := 45) dX4_init_44 rfl rfl rfl ?_
  refine T_bipush (pc' := 47) dX4_init_45 rfl (by decide) rfl ?_
  refine K_arr (n := 9) (S' := Sq 57) (nI := 56) (c' := 6) (s' := 54) (pc' := 49) dX4_init_47 acI rfl (Or.inl ⟨rfl, rfl, rfl⟩) rfl (by decide) ⟨(by decide), (by decide)⟩ (by decide) rfl rfl rfl rfl rfl ?_
  refine T_pfF (y := 56) (k := 5) (pc' := 52) dX4_init_49 rfl cl4 (by decide) rfl (by decide) flX4_27 rfl rfl rfl rfl rfl rfl (fun _ => by decide) (fun _ => (show (56 : Int) < ((57 : Nat) : Int) by decide)) rfl ?_
  refine T_aload_n (i := 0) (pc' := 53) dX4_init_52 rfl rfl rfl ?_
  refine T_bipush (pc' := 55) dX4_init_53 rfl (by decide) rfl ?_
  refine K_arr (n := 108) (S' := Sq 58) (nI := 57) (c' := 7) (s' := 162) (pc' := 57) dX4_init_55 acI rfl (Or.inl ⟨rfl, rfl, rfl⟩) rfl (by decide) ⟨(by decide), (by decide)⟩ (by decide) rfl rfl rfl rfl rfl ?_
  refine T_pfF (y := 57) (k := 6) (pc' := 60) dX4_init_57 rfl cl4 (by decide) rfl (by decide) flX4_30 rfl rfl rfl rfl rfl rfl (fun _ => by decide) (fun _ => (show (57 : Int) < ((58 : Nat) : Int) by decide)) rfl ?_
  refine T_aload_n (i := 0) (pc' := 61) dX4_init_60 rfl rfl rfl ?_
  refine T_iconst (pc' := 62) dX4_init_61 (by decide) rfl ?_
  refine U_pf (y := 0) (k := 7) (kI := 7) (pc' := 65) dX4_init_62 rfl cl4 (by decide) rfl (by decide) flX4_33 rfl rfl rfl rfl rfl (by decide) (fun z => z) rfl ?_
  refine T_aload_n (i := 0) (pc' := 66) dX4_init_65 rfl rfl rfl ?_
  refine T_iconst (pc' := 67) dX4_init_66 (by decide) rfl ?_
  refine U_pf (y := 0) (k := 8) (kI := 8) (pc' := 70) dX4_init_67 rfl cl4 (by decide) rfl (by decide) flX4_37 rfl rfl rfl rfl rfl (by decide) (fun z => z) rfl ?_
  exact T_vret dX4_init_70 rfl ⟨rfl, rfl, rfl⟩
set_option maxRecDepth 100000 in
def km13_X1_init (M : Mem) : Mem := (clr (mset (mnew (mset (mnew (mset (mnew (mset (mnew (mset (mnew (mset (mnew (mset (mnew (mset (mnew (mset (km12_X4_init (mnew M 50 (nobj 4))) 49 0 50) 58 nzero) 49 1 58) 59 nzero) 49 2 59) 60 nzero) 49 3 60) 61 nzero) 49 4 61) 62 nzero) 49 5 62) 63 nzero) 49 6 63) 64 nzero) 49 7 64) 65 nzero) 49 8 65) 49 50 58)
set_option maxRecDepth 100000 in
set_option maxHeartbeats 4000000 in
theorem k13_X1_init {E : EV} {M : Mem} : Ct E miX1_init 3 16 307 [(2, 49)] (Sq 50) M (fun r S' M' => S' = Sq 66 ∧ r = none ∧ M' = km13_X1_init M) := by
  refine Ct_of (L := [(2, 49)]) (by decide +kernel) (Nat.le_of_ble_eq_true rfl) rfl ?_
  show T E miX1_init 3 50 16 307 _ 0 _ [] (Sq 50) M 0 0
  refine T_aload_n (i := 0) (pc' := 1) dX1_init_0 rfl rfl rfl ?_
  refine T_objInit (pc' := 4) dX1_init_1 rfl ⟨mlX1_3, oi_in, oi_code⟩ (Nat.le_of_ble_eq_true rfl) (by decide) rfl ?_
  refine T_aload_n (i := 0) (pc' := 5) dX1_init_4 rfl rfl rfl ?_
  refine K_new (S' := Sq 51) (nI := 50) (c' := 1) (s' := 9) (pc' := 8) dX1_init_5 rfl cl4 klX1_9 oky4 ⟨(by decide), (by decide)⟩ (by decide) rfl rfl rfl rfl rfl ?_
  refine T_dup (pc' := 9) dX1_init_8 (Nat.ne_of_beq_eq_false rfl) rfl ?_
  refine T_callI (av := []) (st := [(2, 50), (2, 49)]) (d2 := 1) (nc2 := 7) (ns2 := 162) (pc' := 12) dX1_init_9 rfl mtX4_init mvX4_init rfl rfl mlX1_11 rfl rfl (Nat.le_of_ble_eq_true rfl) (by decide) ⟨(by decide), (by decide)⟩ rfl (k12_X4_init (M := _)) ?_
  rintro _ _ _ ⟨rfl, rfl, rfl⟩ _
  show T E miX1_init 3 50 16 307 _ 12 [(2, 49)] [(2, 50), (2, 49)] (Sq 58) _ 8 171
  refine T_pfF (y := 50) (k := 0) (pc' := 15) dX1_init_12 rfl cl1 (by decide) rfl (by decide) flX1_12 rfl rfl rfl rfl rfl rfl (fun _ => by decide) (fun _ => (show (50 : Int) < ((58 : Nat) : Int) by decide)) rfl ?_
  refine T_aload_n (i := 0) (pc' := 16) dX1_init_15 rfl rfl rfl ?_
  refine T_bipush (pc' := 18) dX1_init_16 rfl (by decide) rfl ?_
  refine K_arr (n := 54) (S' := Sq 59) (nI := 58) (c' := 9) (s' := 225) (pc' := 20) dX1_init_18 acI rfl (Or.inl ⟨rfl, rfl, rfl⟩) rfl (by decide) ⟨(by decide), (by decide)⟩ (by decide) rfl rfl rfl rfl rfl ?_
  refine T_pfF (y := 58) (k := 1) (pc' := 23) dX1_init_20 rfl cl1 (by decide) rfl (by decide) flX1_18 rfl rfl rfl rfl rfl rfl (fun _ => by decide) (fun _ => (show (58 : Int) < ((59 : Nat) : Int) by decide)) rfl ?_
  refine T_aload_n (i := 0) (pc' := 24) dX1_init_23 rfl rfl rfl ?_
  refine T_bipush (pc' := 26) dX1_init_24 rfl (by decide) rfl ?_
  refine K_arr (n := 6) (S' := Sq 60) (nI := 59) (c' := 10) (s' := 231) (pc' := 28) dX1_init_26 acI rfl (Or.inl ⟨rfl, rfl, rfl⟩) rfl (by decide) ⟨(by decide), (by decide)⟩ (by decide) rfl rfl rfl rfl rfl ?_
  refine T_pfF (y := 59) (k := 2) (pc' := 31) dX1_init_28 rfl cl1 (by decide) rfl (by decide) flX1_22 rfl rfl rfl rfl rfl rfl (fun _ => by decide) (fun _ => (show (59 : Int) < ((60 : Nat) : Int) by decide)) rfl ?_
  refine T_aload_n (i := 0) (pc' := 32) dX1_init_31 rfl rfl rfl ?_
  refine T_bipush (pc' := 34) dX1_init_32 rfl (by decide) rfl ?_
  refine K_arr (n := 6) (S' := Sq 61) (nI := 60) (c' := 11) (s' := 237) (pc' := 36) dX1_init_34 acI rfl (Or.inl ⟨rfl, rfl, rfl⟩) rfl (by decide) ⟨(by decide), (by decide)⟩ (by decide) rfl rfl rfl rfl rfl ?_
  refine T_pfF (y := 60) (k := 3) (pc' := 39) dX1_init_36 rfl cl1 (by decide) rfl (by decide) flX1_25 rfl rfl rfl rfl rfl rfl (fun _ => by decide) (fun _ => (show (60 : Int) < ((61 : Nat) : Int) by decide)) rfl ?_
  refine T_aload_n (i := 0) (pc' := 40) dX1_init_39 rfl rfl rfl ?_
  refine T_iconst (pc' := 41) dX1_init_40 (by decide) rfl ?_
  refine K_arr (n := 4) (S' := Sq 62) (nI := 61) (c' := 12) (s' := 241) (pc' := 43) dX1_init_41 acI rfl (Or.inl ⟨rfl, rfl, rfl⟩) rfl (by decide) ⟨(by decide), (by decide)⟩ (by decide) rfl rfl rfl rfl rfl ?_
  refine T_pfF (y := 61) (k := 4) (pc' := 46) dX1_init_43 rfl cl1 (by decide) rfl (by decide) flX1_28 rfl rfl rfl rfl rfl rfl (fun _ => by decide) (fun _ => (show (61 : Int) < ((62 : Nat) : Int) by decide)) rfl ?_
  refine T_aload_n (i := 0) (pc' := 47) dX1_init_46 rfl rfl rfl ?_
  refine T_iconst (pc' := 48) dX1_init_47 (by decide) rfl ?_
  refine K_arr (n := 4) (S' := Sq 63) (nI := 62) (c' := 13) (s' := 245) (pc' := 50) dX1_init_48 acI rfl (Or.inl ⟨rfl, rfl, rfl⟩) rfl (by decide) ⟨(by decide), (by decide)⟩ (by decide) rfl rfl rfl rfl rfl ?_
  refine T_pfF (y := 62) (k := 5) (pc' := 53) dX1_init_50 rfl cl1 (by decide) rfl (by decide) flX1_31 rfl rfl rfl rfl rfl rfl (fun _ => by decide) (fun _ => (show (62 : Int) < ((63 : Nat) : Int) by decide)) rfl ?_
  refine T_aload_n (i := 0) (pc' := 54) dX1_init_53 rfl rfl rfl ?_
  refine T_iconst (pc' := 55) dX1_init_54 (by decide) rfl ?_
  refine K_arr (n := 4) (S' := Sq 64) (nI := 63) (c' := 14) (s' := 249) (pc' := 57) dX1_init_55 acI rfl (Or.inl ⟨rfl, rfl, rfl⟩) rfl (by decide) ⟨(by decide), (by decide)⟩ (by decide) rfl rfl rfl rfl rfl ?_
  refine T_pfF (y := 63) (k := 6) (pc' := 60) dX1_init_57 rfl cl1 (by decide) rfl (by decide) flX1_34 rfl rfl rfl rfl rfl rfl (fun _ => by decide) (fun _ => (show (63 : Int) < ((64 : Nat) : Int) by decide)) rfl ?_
  refine T_aload_n (i := 0) (pc' := 61) dX1_init_60 rfl rfl rfl ?_
  refine T_iconst (pc' := 62) dX1_init_61 (by decide) rfl ?_
  refine K_arr (n := 4) (S' := Sq 65) (nI := 64) (c' := 15) (s' := 253) (pc' := 64) dX1_init_62 acI rfl (Or.inl ⟨rfl, rfl, rfl⟩) rfl (by decide) ⟨(by decide), (by decide)⟩ (by decide) rfl rfl rfl rfl rfl ?_
  refine T_pfF (y := 64) (k := 7) (pc' := 67) dX1_init_64 rfl cl1 (by decide) rfl (by decide) flX1_37 rfl rfl rfl rfl rfl rfl (fun _ => by decide) (fun _ => (show (64 : Int) < ((65 : Nat) : Int) by decide)) rfl ?_
  refine T_aload_n (i := 0) (pc' := 68) dX1_init_67 rfl rfl rfl ?_
  refine T_bipush (pc' := 70) dX1_init_68 rfl (by decide) rfl ?_
  refine K_arr (n := 54) (S' := Sq 66) (nI := 65) (c' := 16) (s' := 307) (pc' := 72) dX1_init_70 acJ rfl (Or.inr (Or.inl ⟨rfl, rfl, rfl⟩)) rfl (by decide) ⟨(by decide), (by decide)⟩ (by decide) rfl rfl rfl rfl rfl ?_
  refine T_pfF (y := 65) (k := 8) (pc' := 75) dX1_init_72 rfl cl1 (by decide) rfl (by decide) flX1_40 rfl rfl rfl rfl rfl rfl (fun _ => by decide) (fun _ => (show (65 : Int) < ((66 : Nat) : Int) by decide)) rfl ?_
  refine T_aload_n (i := 0) (pc' := 76) dX1_init_75 rfl rfl rfl ?_
  refine T_callV (av := []) (st := []) (d2 := 2) (nc2 := 0) (ns2 := 0) (pc' := 79) dX1_init_76 rfl mtX1_clear mvX1_clear mlX1_44 cl1 rfl rfl rfl (Nat.le_of_ble_eq_true rfl) (by decide) ⟨(by decide), (by decide)⟩ rfl (clear_S (g := 49) (p := 50) (w := 58) (by decide) (by decide) (by decide) rfl rfl rfl rfl rfl) ?_
  rintro _ _ _ ⟨rfl, rfl, rfl⟩ _
  exact T_vret dX1_init_79 rfl ⟨rfl, rfl, rfl⟩
set_option maxRecDepth 100000 in
def km14_X11_init (M : Mem) : Mem := (mset (mset (mset (mset (mset (mset (mset (km13_X1_init (mnew (mset (km11_X1_init (mnew (mset (mset (mnew (mset (km9_X0_init (mnew (mset (km8_X10_init (mnew (mset (km7_X3_init (mnew (mset (km6_X7_init (mnew (mset (km5_X6_init (mnew (mset (km3_X2_init (mnew (mset (km2_X9_init (mnew (mset (km1_X8_init (mnew M 1 (nobj 8))) 0 0 1) 3 (nobj 9))) 0 1 3) 4 (nobj 2))) 0 2 4) 5 (nobj 6))) 0 3 5) 9 (nobj 7))) 0 4 9) 16 (nobj 3))) 0 5 16) 25 (nobj 10))) 0 6 25) 27 (nobj 0))) 0 7 27) 31 nzero) 0 8 31) 0 9 0) 32 (nobj 1))) 0 10 32) 49 (nobj 1))) 0 11 49) 0 12 0) 0 13 1) 0 14 0) 0 15 (-1)) 0 16 1) 0 17 1)
set_option maxRecDepth 100000 in
set_option maxHeartbeats 4000000 in
theorem k14_X11_init {E : EV} {M : Mem} : Ct E miX11_init 4 65 9471 [(2, 0)] (Sq 1) M (fun r S' M' => S' = Sq 66 ∧ r = none ∧ M' = km14_X11_init M) := by
  refine Ct_of (L := [(2, 0)]) (by decide +kernel) (Nat.le_of_ble_eq_true rfl) rfl ?_
  show T E miX11_init 4 1 65 9471 _ 0 _ [] (Sq 1) M 0 0
  refine T_aload_n (i := 0) (pc' := 1) dX11_init_0 rfl rfl rfl ?_
  refine T_objInit (pc' := 4) dX11_init_1 rfl ⟨mlX11_3, oi_in, oi_code⟩ (Nat.le_of_ble_eq_true rfl) (by decide) rfl ?_
  refine T_aload_n (i := 0) (pc' := 5) dX11_init_4 rfl rfl rfl ?_
  refine K_new (S' := Sq 2) (nI := 1) (c' := 1) (s' := 2) (pc' := 8) dX11_init_5 rfl cl8 klX11_9 oky8 ⟨(by decide), (by decide)⟩ (by decide) rfl rfl rfl rfl rfl ?_
  refine T_dup (pc' := 9) dX11_init_8 (Nat.ne_of_beq_eq_false rfl) rfl ?_
  refine T_callI (av := []) (st := [(2, 1), (2, 0)]) (d2 := 1) (nc2 := 1) (ns2 := 1600) (pc' := 12) dX11_init_9 rfl mtX8_init mvX8_init rfl rfl mlX11_11 rfl rfl (Nat.le_of_ble_eq_true rfl) (by decide) ⟨(by decide), (by decide)⟩ rfl (k1_X8_init (M := _)) ?_
  rintro _ _ _ ⟨rfl, rfl, rfl⟩ _
  show T E miX11_init 4 1 65 9471 _ 12 [(2, 0)] [(2, 1), (2, 0)] (Sq 3) _ 2 1602
  refine T_pfF (y := 1) (k := 0) (pc' := 15) dX11_init_12 rfl cl11 (by decide) rfl (by decide) flX11_12 rfl rfl rfl rfl rfl rfl (fun _ => by decide) (fun _ => (show (1 : Int) < ((3 : Nat) : Int) by decide)) rfl ?_
  refine T_aload_n (i := 0) (pc' := 16) dX11_init_15 rfl rfl rfl ?_
  refine K_new (S' := Sq 4) (nI := 3) (c' := 3) (s' := 1608) (pc' := 19) dX11_init_16 rfl cl9 klX11_16 oky9 ⟨(by decide), (by decide)⟩ (by decide) rfl rfl rfl rfl rfl ?_
  refine T_dup (pc' := 20) dX11_init_19 (Nat.ne_of_beq_eq_false rfl) rfl ?_
  refine T_aload_n (i := 0) (pc' := 21) dX11_init_20 rfl rfl rfl ?_
  refine U_gr (q := 1) (k := 0) (kI := 0) (pc' := 24) dX11_init_21 rfl cl11 (by decide) rfl (by decide) flX11_12 rfl rfl rfl rfl (by decide) rfl ?_
  refine T_callI (av := [(2, 1)]) (st := [(2, 3), (2, 0)]) (d2 := 1) (nc2 := 0) (ns2 := 0) (pc' := 27) dX11_init_24 rfl mtX9_init mvX9_init rfl rfl mlX11_18 rfl rfl (Nat.le_of_ble_eq_true rfl) (by decide) ⟨(by decide), (by decide)⟩ rfl (k2_X9_init (M := _)) ?_
  rintro _ _ _ ⟨rfl, rfl, rfl⟩ _
  show T E miX11_init 4 1 65 9471 _ 27 [(2, 0)] [(2, 3), (2, 0)] (Sq 4) _ 3 1608
  refine T_pfF (y := 3) (k := 1) (pc' := 30) dX11_init_27 rfl cl11 (by decide) rfl (by decide) flX11_21 rfl rfl rfl rfl rfl rfl (fun _ => by decide) (fun _ => (show (3 : Int) < ((4 : Nat) : Int) by decide)) rfl ?_
  refine T_aload_n (i := 0) (pc' := 31) dX11_init_30 rfl rfl rfl ?_
  refine K_new (S' := Sq 5) (nI := 4) (c' := 4) (s' := 1610) (pc' := 34) dX11_init_31 rfl cl2 klX11_25 oky2 ⟨(by decide), (by decide)⟩ (by decide) rfl rfl rfl rfl rfl ?_
  refine T_dup (pc' := 35) dX11_init_34 (Nat.ne_of_beq_eq_false rfl) rfl ?_
  refine T_aload_n (i := 0) (pc' := 36) dX11_init_35 rfl rfl rfl ?_
  refine U_gr (q := 3) (k := 1) (kI := 1) (pc' := 39) dX11_init_36 rfl cl11 (by decide) rfl (by decide) flX11_21 rfl rfl rfl rfl (by decide) rfl ?_
  refine T_callI (av := [(2, 3)]) (st := [(2, 4), (2, 0)]) (d2 := 1) (nc2 := 0) (ns2 := 0) (pc' := 42) dX11_init_39 rfl mtX2_init mvX2_init rfl rfl mlX11_27 rfl rfl (Nat.le_of_ble_eq_true rfl) (by decide) ⟨(by decide), (by decide)⟩ rfl (k3_X2_init (M := _)) ?_
  rintro _ _ _ ⟨rfl, rfl, rfl⟩ _
  show T E miX11_init 4 1 65 9471 _ 42 [(2, 0)] [(2, 4), (2, 0)] (Sq 5) _ 4 1610
  refine T_pfF (y := 4) (k := 2) (pc' := 45) dX11_init_42 rfl cl11 (by decide) rfl (by decide) flX11_30 rfl rfl rfl rfl rfl rfl (fun _ => by decide) (fun _ => (show (4 : Int) < ((5 : Nat) : Int) by decide)) rfl ?_
  refine T_aload_n (i := 0) (pc' := 46) dX11_init_45 rfl rfl rfl ?_
  refine K_new (S' := Sq 6) (nI := 5) (c' := 5) (s' := 1613) (pc' := 49) dX11_init_46 rfl cl6 klX11_34 oky6 ⟨(by decide), (by decide)⟩ (by decide) rfl rfl rfl rfl rfl ?_
  refine T_dup (pc' := 50) dX11_init_49 (Nat.ne_of_beq_eq_false rfl) rfl ?_
  refine T_aload_n (i := 0) (pc' := 51) dX11_init_50 rfl rfl rfl ?_
  refine U_gr (q := 3) (k := 1) (kI := 1) (pc' := 54) dX11_init_51 rfl cl11 (by decide) rfl (by decide) flX11_21 rfl rfl rfl rfl (by decide) rfl ?_
  refine T_callI (av := [(2, 3)]) (st := [(2, 5), (2, 0)]) (d2 := 2) (nc2 := 3) (ns2 := 1668) (pc' := 57) dX11_init_54 rfl mtX6_init mvX6_init rfl rfl mlX11_36 rfl rfl (Nat.le_of_ble_eq_true rfl) (by decide) ⟨(by decide), (by decide)⟩ rfl (k5_X6_init (M := _)) ?_
  rintro _ _ _ ⟨rfl, rfl, rfl⟩ _
  show T E miX11_init 4 1 65 9471 _ 57 [(2, 0)] [(2, 5), (2, 0)] (Sq 9) _ 8 3281
  refine T_pfF (y := 5) (k := 3) (pc' := 60) dX11_init_57 rfl cl11 (by decide) rfl (by decide) flX11_37 rfl rfl rfl rfl rfl rfl (fun _ => by decide) (fun _ => (show (5 : Int) < ((9 : Nat) : Int) by decide)) rfl ?_
  refine T_aload_n (i := 0) (pc' := 61) dX11_init_60 rfl rfl rfl ?_
  refine K_new (S' := Sq 10) (nI := 9) (c' := 9) (s' := 3292) (pc' := 64) dX11_init_61 rfl cl7 klX11_41 oky7 ⟨(by decide), (by decide)⟩ (by decide) rfl rfl rfl rfl rfl ?_
  refine T_dup (pc' := 65) dX11_init_64 (Nat.ne_of_beq_eq_false rfl) rfl ?_
  refine T_callI (av := []) (st := [(2, 9), (2, 0)]) (d2 := 1) (nc2 := 6) (ns2 := 2649) (pc' := 68) dX11_init_65 rfl mtX7_init mvX7_init rfl rfl mlX11_43 rfl rfl (Nat.le_of_ble_eq_true rfl) (by decide) ⟨(by decide), (by decide)⟩ rfl (k6_X7_init (M := _)) ?_
  rintro _ _ _ ⟨rfl, rfl, rfl⟩ _
  show T E miX11_init 4 1 65 9471 _ 68 [(2, 0)] [(2, 9), (2, 0)] (Sq 16) _ 15 5941
  refine T_pfF (y := 9) (k := 4) (pc' := 71) dX11_init_68 rfl cl11 (by decide) rfl (by decide) flX11_44 rfl rfl rfl rfl rfl rfl (fun _ => by decide) (fun _ => (show (9 : Int) < ((16 : Nat) : Int) by decide)) rfl ?_
  refine T_aload_n (i := 0) (pc' := 72) dX11_init_71 rfl rfl rfl ?_
  refine K_new (S' := Sq 17) (nI := 16) (c' := 16) (s' := 5953) (pc' := 75) dX11_init_72 rfl cl3 klX11_48 oky3 ⟨(by decide), (by decide)⟩ (by decide) rfl rfl rfl rfl rfl ?_
  refine T_dup (pc' := 76) dX11_init_75 (Nat.ne_of_beq_eq_false rfl) rfl ?_
  refine T_callI (av := []) (st := [(2, 16), (2, 0)]) (d2 := 1) (nc2 := 8) (ns2 := 2757) (pc' := 79) dX11_init_76 rfl mtX3_init mvX3_init rfl rfl mlX11_50 rfl rfl (Nat.le_of_ble_eq_true rfl) (by decide) ⟨(by decide), (by decide)⟩ rfl (k7_X3_init (M := _)) ?_
  rintro _ _ _ ⟨rfl, rfl, rfl⟩ _
  show T E miX11_init 4 1 65 9471 _ 79 [(2, 0)] [(2, 16), (2, 0)] (Sq 25) _ 24 8710
  refine T_pfF (y := 16) (k := 5) (pc' := 82) dX11_init_79 rfl cl11 (by decide) rfl (by decide) flX11_51 rfl rfl rfl rfl rfl rfl (fun _ => by decide) (fun _ => (show (16 : Int) < ((25 : Nat) : Int) by decide)) rfl ?_
  refine T_aload_n (i := 0) (pc' := 83) dX11_init_82 rfl rfl rfl ?_
  refine K_new (S' := Sq 26) (nI := 25) (c' := 25) (s' := 8714) (pc' := 86) dX11_init_83 rfl cl10 klX11_55 oky10 ⟨(by decide), (by decide)⟩ (by decide) rfl rfl rfl rfl rfl ?_
  refine T_dup (pc' := 87) dX11_init_86 (Nat.ne_of_beq_eq_false rfl) rfl ?_
  refine T_aload_n (i := 0) (pc' := 88) dX11_init_87 rfl rfl rfl ?_
  refine U_gr (q := 9) (k := 4) (kI := 4) (pc' := 91) dX11_init_88 rfl cl11 (by decide) rfl (by decide) flX11_44 rfl rfl rfl rfl (by decide) rfl ?_
  refine T_callI (av := [(2, 9)]) (st := [(2, 25), (2, 0)]) (d2 := 1) (nc2 := 1) (ns2 := 9) (pc' := 94) dX11_init_91 rfl mtX10_init mvX10_init rfl rfl mlX11_57 rfl rfl (Nat.le_of_ble_eq_true rfl) (by decide) ⟨(by decide), (by decide)⟩ rfl (k8_X10_init (M := _)) ?_
  rintro _ _ _ ⟨rfl, rfl, rfl⟩ _
  show T E miX11_init 4 1 65 9471 _ 94 [(2, 0)] [(2, 25), (2, 0)] (Sq 27) _ 26 8723
  refine T_pfF (y := 25) (k := 6) (pc' := 97) dX11_init_94 rfl cl11 (by decide) rfl (by decide) flX11_60 rfl rfl rfl rfl rfl rfl (fun _ => by decide) (fun _ => (show (25 : Int) < ((27 : Nat) : Int) by decide)) rfl ?_
  refine T_aload_n (i := 0) (pc' := 98) dX11_init_97 rfl rfl rfl ?_
  refine K_new (S' := Sq 28) (nI := 27) (c' := 27) (s' := 8727) (pc' := 101) dX11_init_98 rfl cl0 klX11_64 oky0 ⟨(by decide), (by decide)⟩ (by decide) rfl rfl rfl rfl rfl ?_
  refine T_dup (pc' := 102) dX11_init_101 (Nat.ne_of_beq_eq_false rfl) rfl ?_
  refine T_callI (av := []) (st := [(2, 27), (2, 0)]) (d2 := 1) (nc2 := 3) (ns2 := 60) (pc' := 105) dX11_init_102 rfl mtX0_init mvX0_init rfl rfl mlX11_66 rfl rfl (Nat.le_of_ble_eq_true rfl) (by decide) ⟨(by decide), (by decide)⟩ rfl (k9_X0_init (M := _)) ?_
  rintro _ _ _ ⟨rfl, rfl, rfl⟩ _
  show T E miX11_init 4 1 65 9471 _ 105 [(2, 0)] [(2, 27), (2, 0)] (Sq 31) _ 30 8787
  refine T_pfF (y := 27) (k := 7) (pc' := 108) dX11_init_105 rfl cl11 (by decide) rfl (by decide) flX11_67 rfl rfl rfl rfl rfl rfl (fun _ => by decide) (fun _ => (show (27 : Int) < ((31 : Nat) : Int) by decide)) rfl ?_
  refine T_aload_n (i := 0) (pc' := 109) dX11_init_108 rfl rfl rfl ?_
  refine T_bipush (pc' := 111) dX11_init_109 rfl (by decide) rfl ?_
  refine K_arr (n := 34) (S' := Sq 32) (nI := 31) (c' := 31) (s' := 8821) (pc' := 113) dX11_init_111 acI rfl (Or.inl ⟨rfl, rfl, rfl⟩) rfl (by decide) ⟨(by decide), (by decide)⟩ (by decide) rfl rfl rfl rfl rfl ?_
  refine T_pfF (y := 31) (k := 8) (pc' := 116) dX11_init_113 rfl cl11 (by decide) rfl (by decide) flX11_71 rfl rfl rfl rfl rfl rfl (fun _ => by decide) (fun _ => (show (31 : Int) < ((32 : Nat) : Int) by decide)) rfl ?_
  refine T_aload_n (i := 0) (pc' := 117) dX11_init_116 rfl rfl rfl ?_
  refine T_iconst (pc' := 118) dX11_init_117 (by decide) rfl ?_
  refine U_pf (y := 0) (k := 9) (kI := 9) (pc' := 121) dX11_init_118 rfl cl11 (by decide) rfl (by decide) flX11_75 rfl rfl rfl rfl rfl (by decide) (fun z => z) rfl ?_
  refine T_aload_n (i := 0) (pc' := 122) dX11_init_121 rfl rfl rfl ?_
  refine K_new (S' := Sq 33) (nI := 32) (c' := 32) (s' := 8839) (pc' := 125) dX11_init_122 rfl cl1 klX11_79 oky1 ⟨(by decide), (by decide)⟩ (by decide) rfl rfl rfl rfl rfl ?_
  refine T_dup (pc' := 126) dX11_init_125 (Nat.ne_of_beq_eq_false rfl) rfl ?_
  refine T_callI (av := []) (st := [(2, 32), (2, 0)]) (d2 := 3) (nc2 := 16) (ns2 := 307) (pc' := 129) dX11_init_126 rfl mtX1_init mvX1_init rfl rfl mlX11_81 rfl rfl (Nat.le_of_ble_eq_true rfl) (by decide) ⟨(by decide), (by decide)⟩ rfl (k11_X1_init (M := _)) ?_
  rintro _ _ _ ⟨rfl, rfl, rfl⟩ _
  show T E miX11_init 4 1 65 9471 _ 129 [(2, 0)] [(2, 32), (2, 0)] (Sq 49) _ 48 9146
  refine U_pr (y := 32) (k := 10) (kI := 10) (pc' := 132) dX11_init_129 rfl cl11 (by decide) rfl (by decide) flX11_82 rfl rfl rfl rfl rfl (by decide) (show (32 : Int) < ((49 : Nat) : Int) by decide) rfl ?_
  refine T_aload_n (i := 0) (pc' := 133) dX11_init_132 rfl rfl rfl ?_
  refine K_new (S' := Sq 50) (nI := 49) (c' := 49) (s' := 9164) (pc' := 136) dX11_init_133 rfl cl1 klX11_79 oky1 ⟨(by decide), (by decide)⟩ (by decide) rfl rfl rfl rfl rfl ?_
  refine T_dup (pc' := 137) dX11_init_136 (Nat.ne_of_beq_eq_false rfl) rfl ?_
  refine T_callI (av := []) (st := [(2, 49), (2, 0)]) (d2 := 3) (nc2 := 16) (ns2 := 307) (pc' := 140) dX11_init_137 rfl mtX1_init mvX1_init rfl rfl mlX11_81 rfl rfl (Nat.le_of_ble_eq_true rfl) (by decide) ⟨(by decide), (by decide)⟩ rfl (k13_X1_init (M := _)) ?_
  rintro _ _ _ ⟨rfl, rfl, rfl⟩ _
  show T E miX11_init 4 1 65 9471 _ 140 [(2, 0)] [(2, 49), (2, 0)] (Sq 66) _ 65 9471
  refine U_pr (y := 49) (k := 11) (kI := 11) (pc' := 143) dX11_init_140 rfl cl11 (by decide) rfl (by decide) flX11_86 rfl rfl rfl rfl rfl (by decide) (show (49 : Int) < ((66 : Nat) : Int) by decide) rfl ?_
  refine T_aload_n (i := 0) (pc' := 144) dX11_init_143 rfl rfl rfl ?_
  refine T_iconst (pc' := 145) dX11_init_144 (by decide) rfl ?_
  refine U_pf (y := 0) (k := 12) (kI := 12) (pc' := 148) dX11_init_145 rfl cl11 (by decide) rfl (by decide) flX11_89 rfl rfl rfl rfl rfl (by decide) (fun z => z) rfl ?_
  refine T_aload_n (i := 0) (pc' := 149) dX11_init_148 rfl rfl rfl ?_
  refine T_iconst (pc' := 150) dX11_init_149 (by decide) rfl ?_
  refine U_pf (y := 1) (k := 13) (kI := 13) (pc' := 153) dX11_init_150 rfl cl11 (by decide) rfl (by decide) flX11_92 rfl rfl rfl rfl rfl (by decide) (fun z => z) rfl ?_
  refine T_aload_n (i := 0) (pc' := 154) dX11_init_153 rfl rfl rfl ?_
  refine T_iconst (pc' := 155) dX11_init_154 (by decide) rfl ?_
  refine U_pf (y := 0) (k := 14) (kI := 14) (pc' := 158) dX11_init_155 rfl cl11 (by decide) rfl (by decide) flX11_95 rfl rfl rfl rfl rfl (by decide) (fun z => z) rfl ?_
  refine T_aload_n (i := 0) (pc' := 159) dX11_init_158 rfl rfl rfl ?_
  refine T_iconst (pc' := 160) dX11_init_159 (by decide) rfl ?_
  refine U_pf (y := (-1)) (k := 15) (kI := 15) (pc' := 163) dX11_init_160 rfl cl11 (by decide) rfl (by decide) flX11_98 rfl rfl rfl rfl rfl (by decide) (fun z => z) rfl ?_
  refine T_aload_n (i := 0) (pc' := 164) dX11_init_163 rfl rfl rfl ?_
  refine T_iconst (pc' := 165) dX11_init_164 (by decide) rfl ?_
  refine U_pf (y := 1) (k := 16) (kI := 16) (pc' := 168) dX11_init_165 rfl cl11 (by decide) rfl (by decide) flX11_101 rfl rfl rfl rfl rfl (by decide) (fun _ => bool_ok (by decide)) rfl ?_
  refine T_aload_n (i := 0) (pc' := 169) dX11_init_168 rfl rfl rfl ?_
  refine T_iconst (pc' := 170) dX11_init_169 (by decide) rfl ?_
  refine U_pf (y := 1) (k := 17) (kI := 17) (pc' := 173) dX11_init_170 rfl cl11 (by decide) rfl (by decide) flX11_105 rfl rfl rfl rfl rfl (by decide) (fun _ => bool_ok (by decide)) rfl ?_
  exact T_vret dX11_init_173 rfl ⟨rfl, rfl, rfl⟩
