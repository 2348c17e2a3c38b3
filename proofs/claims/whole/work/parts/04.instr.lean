/-! numbers -/
theorem wr32_bmod (x : Int) : wr32 x = x.bmod (2 ^ 32) := by
  unfold wr32
  rw [Int.bmod_def]
  split <;> omega
theorem wr64_bmod (x : Int) : wr64 x = x.bmod (2 ^ 64) := by
  unfold wr64
  rw [Int.bmod_def]
  split <;> omega
theorem wr32_r (x : Int) : r32 (wr32 x) := by unfold wr32 r32; omega
theorem wr64_r (x : Int) : r64 (wr64 x) := by unfold wr64 r64; omega
theorem wr32_id {x : Int} (h : r32 x) : wr32 x = x := by unfold r32 at h; unfold wr32; omega
theorem wr64_id {x : Int} (h : r64 x) : wr64 x = x := by unfold r64 at h; unfold wr64; omega
theorem i32_ti (x : Int) : (Int32.ofInt x).toInt = wr32 x := by rw [wr32_bmod]; exact Int32.toInt_ofInt
theorem i64_ti (x : Int) : (Int64.ofInt x).toInt = wr64 x := by rw [wr64_bmod]; exact Int64.toInt_ofInt
theorem i32_tr {x : Int} (h : r32 x) : (Int32.ofInt x).toInt = x := by rw [i32_ti, wr32_id h]
theorem i64_tr {x : Int} (h : r64 x) : (Int64.ofInt x).toInt = x := by rw [i64_ti, wr64_id h]
theorem i32_eq {x : Int32} {y : Int} (h : x.toInt = y) : x = Int32.ofInt y := by rw [← h, Int32.ofInt_toInt]
theorem i64_eq {x : Int64} {y : Int} (h : x.toInt = y) : x = Int64.ofInt y := by rw [← h, Int64.ofInt_toInt]
theorem i32_r (x : Int32) : r32 x.toInt := ⟨Int32.le_toInt x, Int32.toInt_lt x⟩
theorem i64_r (x : Int64) : r64 x.toInt := ⟨Int64.le_toInt x, Int64.toInt_lt x⟩
theorem wr_add {a b : Int} : Int32.ofInt a + Int32.ofInt b = Int32.ofInt (wr32 (a + b)) := i32_eq (by rw [Int32.toInt_add, i32_ti, i32_ti, wr32_bmod, wr32_bmod, wr32_bmod]; simp [Int.add_bmod_bmod, Int.bmod_add_bmod])
theorem wr_sub {a b : Int} : Int32.ofInt a - Int32.ofInt b = Int32.ofInt (wr32 (a - b)) := i32_eq (by rw [Int32.toInt_sub, i32_ti, i32_ti, wr32_bmod, wr32_bmod, wr32_bmod]; simp [Int.sub_bmod_bmod, Int.bmod_sub_bmod])
theorem wr_mul {a b : Int} : Int32.ofInt a * Int32.ofInt b = Int32.ofInt (wr32 (a * b)) := i32_eq (by rw [Int32.toInt_mul, i32_ti, i32_ti, wr32_bmod, wr32_bmod, wr32_bmod]; simp [Int.mul_bmod_bmod, Int.bmod_mul_bmod])
theorem wl_add {a b : Int} : Int64.ofInt a + Int64.ofInt b = Int64.ofInt (wr64 (a + b)) := i64_eq (by rw [Int64.toInt_add, i64_ti, i64_ti, wr64_bmod, wr64_bmod, wr64_bmod]; simp [Int.add_bmod_bmod, Int.bmod_add_bmod])
theorem wl_sub {a b : Int} : Int64.ofInt a - Int64.ofInt b = Int64.ofInt (wr64 (a - b)) := i64_eq (by rw [Int64.toInt_sub, i64_ti, i64_ti, wr64_bmod, wr64_bmod, wr64_bmod]; simp [Int.sub_bmod_bmod, Int.bmod_sub_bmod])
theorem wl_mul {a b : Int} : Int64.ofInt a * Int64.ofInt b = Int64.ofInt (wr64 (a * b)) := i64_eq (by rw [Int64.toInt_mul, i64_ti, i64_ti, wr64_bmod, wr64_bmod, wr64_bmod]; simp [Int.mul_bmod_bmod, Int.bmod_mul_bmod])
theorem wr_div {a b : Int} (ha : r32 a) (hb : r32 b) : Int32.ofInt a / Int32.ofInt b = Int32.ofInt (wr32 (a.tdiv b)) := i32_eq (by rw [Int32.toInt_div, i32_tr ha, i32_tr hb, wr32_bmod])
theorem wr_rem {a b : Int} (ha : r32 a) (hb : r32 b) : Int32.ofInt a - Int32.ofInt a / Int32.ofInt b * Int32.ofInt b = Int32.ofInt (a.tmod b) := i32_eq (by rw [rem_toInt, i32_tr ha, i32_tr hb])
theorem wl_div {a b : Int} (ha : r64 a) (hb : r64 b) : Int64.ofInt a / Int64.ofInt b = Int64.ofInt (wr64 (a.tdiv b)) := i64_eq (by rw [Int64.toInt_div, i64_tr ha, i64_tr hb, wr64_bmod])
theorem lrem_mod (a m : Int64) : a - a / m * m = a % m := by
  apply Int64.toInt_inj.mp
  rw [Int64.toInt_sub, Int64.toInt_mul, Int64.toInt_div, Int64.toInt_mod]
  have h := Int.tmod_def a.toInt m.toInt
  have h1 : (a.toInt - ((a.toInt.tdiv m.toInt).bmod (2 ^ 64) * m.toInt).bmod (2 ^ 64)).bmod (2 ^ 64) = (a.toInt - a.toInt.tdiv m.toInt * m.toInt).bmod (2 ^ 64) := by
    simp [Int.sub_bmod_bmod, Int.bmod_mul_bmod]
  rw [h1, show a.toInt - a.toInt.tdiv m.toInt * m.toInt = a.toInt.tmod m.toInt by rw [h, Int.mul_comm], ← Int64.toInt_mod]
  exact Int64.toInt_bmod _
theorem wl_rem {a b : Int} (ha : r64 a) (hb : r64 b) : Int64.ofInt a - Int64.ofInt a / Int64.ofInt b * Int64.ofInt b = Int64.ofInt (a.tmod b) := i64_eq (by
  rw [lrem_mod, Int64.toInt_mod, i64_tr ha, i64_tr hb])
theorem wr_neg {a : Int} : -Int32.ofInt a = Int32.ofInt (wr32 (-a)) := i32_eq (by rw [Int32.toInt_neg, i32_ti, wr32_bmod, wr32_bmod]; simp)
theorem wr_i2l {a : Int} (ha : r32 a) : (Int32.ofInt a).toInt64 = Int64.ofInt a := i64_eq (by rw [Int32.toInt_toInt64, i32_tr ha])
theorem wr_l2i {a : Int} : (Int64.ofInt a).toInt32 = Int32.ofInt (wr32 a) := i32_eq (by rw [Int64.toInt_toInt32, i64_ti, wr64_bmod, wr32_bmod]; exact Int.bmod_bmod_of_dvd (by decide))
theorem wr_lt {a b : Int} (ha : r32 a) (hb : r32 b) : Int32.ofInt a < Int32.ofInt b ↔ a < b := by rw [Int32.lt_iff_toInt_lt, i32_tr ha, i32_tr hb]
theorem wr_le {a b : Int} (ha : r32 a) (hb : r32 b) : Int32.ofInt a ≤ Int32.ofInt b ↔ a ≤ b := by rw [Int32.le_iff_toInt_le, i32_tr ha, i32_tr hb]
theorem wr_eq {a b : Int} (ha : r32 a) (hb : r32 b) : Int32.ofInt a = Int32.ofInt b ↔ a = b := by rw [← Int32.toInt_inj, i32_tr ha, i32_tr hb]
theorem wl_lt {a b : Int} (ha : r64 a) (hb : r64 b) : Int64.ofInt a < Int64.ofInt b ↔ a < b := by rw [Int64.lt_iff_toInt_lt, i64_tr ha, i64_tr hb]
theorem wl_eq {a b : Int} (ha : r64 a) (hb : r64 b) : Int64.ofInt a = Int64.ofInt b ↔ a = b := by rw [← Int64.toInt_inj, i64_tr ha, i64_tr hb]
/-- the rarer operations, by way of the machine's own -/
def m_shl (a b : Int) : Int := (Int32.ofInt a <<< (Int32.ofInt b &&& 31)).toInt
def m_shr (a b : Int) : Int := (Int32.ofInt a >>> (Int32.ofInt b &&& 31)).toInt
def m_ushr (a b : Int) : Int := ((Int32.ofInt a).toUInt32 >>> ((Int32.ofInt b).toUInt32 &&& Int32.toUInt32 31)).toInt32.toInt
def m_and (a b : Int) : Int := (Int32.ofInt a &&& Int32.ofInt b).toInt
def m_or (a b : Int) : Int := (Int32.ofInt a ||| Int32.ofInt b).toInt
def m_xor (a b : Int) : Int := (Int32.ofInt a ^^^ Int32.ofInt b).toInt
def m_land (a b : Int) : Int := (Int64.ofInt a &&& Int64.ofInt b).toInt
def m_lor (a b : Int) : Int := (Int64.ofInt a ||| Int64.ofInt b).toInt
def m_lshl (a b : Int) : Int := (Int64.ofInt a <<< ((Int32.ofInt b).toInt64 &&& 63)).toInt
def m_lshr (a b : Int) : Int := (Int64.ofInt a >>> ((Int32.ofInt b).toInt64 &&& 63)).toInt
def m_cmp (a b : Int) : Int := if a < b then -1 else if a = b then 0 else 1
def m_i2c (a : Int) : Int := ((Int32.ofInt a).toUInt32 % 65536).toInt32.toInt
theorem ok_cons {n : Nat} {v : MV} {l : List MV} : (∀ w ∈ v :: l, okv n w) ↔ okv n v ∧ ∀ w ∈ l, okv n w := List.forall_mem_cons
section INSTR
variable {E : EV} {mi : MI} {d n0 nc ns : Nat} {Q : Option MV → List Sh → Mem → Prop} {pc pc' : Nat} {L L' st : List MV} {S : List Sh} {M : Mem} {cells slots : Nat}

theorem T_iconst {n : Int} (hd : decode mi.2.1 pc = .ok (.iconst n, 1)) (hr : r32 n) (hp : pc + 1 = pc') (k : T E mi d n0 nc ns Q pc' L ((0, n) :: st) S M cells slots) : T E mi d n0 nc ns Q pc L st S M cells slots := by
  subst hp
  intro ad0 ad p e s m args below meth c H A locs ls C hH oL oS hL ha hn
  exact lv_iconst C.1 C.2.1 hd rfl (k ad0 ad p e s m args below meth c H A locs ls C hH oL (ok_cons.mpr ⟨hr, oS⟩) hL ha hn)

theorem T_bipush {n : Int} (hd : decode mi.2.1 pc = .ok (.bipush n, 2)) (hv : (Int8.ofInt n).toInt32 = Int32.ofInt n) (hr : r32 n) (hp : pc + 2 = pc') (k : T E mi d n0 nc ns Q pc' L ((0, n) :: st) S M cells slots) : T E mi d n0 nc ns Q pc L st S M cells slots := by
  subst hp
  intro ad0 ad p e s m args below meth c H A locs ls C hH oL oS hL ha hn
  exact lv_bipush C.1 C.2.1 hd hv (k ad0 ad p e s m args below meth c H A locs ls C hH oL (ok_cons.mpr ⟨hr, oS⟩) hL ha hn)

theorem T_sipush {n : Int} (hd : decode mi.2.1 pc = .ok (.sipush n, 3)) (hv : (Int16.ofInt n).toInt32 = Int32.ofInt n) (hr : r32 n) (hp : pc + 3 = pc') (k : T E mi d n0 nc ns Q pc' L ((0, n) :: st) S M cells slots) : T E mi d n0 nc ns Q pc L st S M cells slots := by
  subst hp
  intro ad0 ad p e s m args below meth c H A locs ls C hH oL oS hL ha hn
  exact lv_sipush C.1 C.2.1 hd hv (k ad0 ad p e s m args below meth c H A locs ls C hH oL (ok_cons.mpr ⟨hr, oS⟩) hL ha hn)

theorem T_lconst {n : Fin 2} {v : Int} (hd : decode mi.2.1 pc = .ok (.lconst n, 1)) (hv : Int64.ofNat (n : Nat) = Int64.ofInt v) (hr : r64 v) (hp : pc + 1 = pc') (k : T E mi d n0 nc ns Q pc' L ((1, v) :: st) S M cells slots) : T E mi d n0 nc ns Q pc L st S M cells slots := by
  subst hp
  intro ad0 ad p e s m args below meth c H A locs ls C hH oL oS hL ha hn
  exact lv_lconst C.1 C.2.1 hd hv (k ad0 ad p e s m args below meth c H A locs ls C hH oL (ok_cons.mpr ⟨hr, oS⟩) hL ha hn)

theorem T_ldc {own : String} {idx : Nat} {v : Int32} {n : Int} (hd : decode mi.2.1 pc = .ok (.ldc idx, 2)) (ho : mi.1.cls = own) (hw : Cond.constant own idx v ∈ lw_ok) (hv : v = Int32.ofInt n) (hr : r32 n) (hp : pc + 2 = pc') (k : T E mi d n0 nc ns Q pc' L ((0, n) :: st) S M cells slots) : T E mi d n0 nc ns Q pc L st S M cells slots := by
  subst hp
  intro ad0 ad p e s m args below meth c H A locs ls C hH oL oS hL ha hn
  exact lv_ldc C.1 C.2.1 (own := own) (by rw [← ho]; exact C.2.2.2.2.1) (by rw [← hv]; exact C.2.2.2.2.2.1 _ hw) hd (k ad0 ad p e s m args below meth c H A locs ls C hH oL (ok_cons.mpr ⟨hr, oS⟩) hL ha hn)

theorem T_ldc2 {own : String} {idx : Nat} {v : Int64} {n : Int} (hd : decode mi.2.1 pc = .ok (.ldc2_w idx, 3)) (ho : mi.1.cls = own) (hw : Cond.constantLong own idx v ∈ lw_ok) (hv : v = Int64.ofInt n) (hr : r64 n) (hp : pc + 3 = pc') (k : T E mi d n0 nc ns Q pc' L ((1, n) :: st) S M cells slots) : T E mi d n0 nc ns Q pc L st S M cells slots := by
  subst hp
  intro ad0 ad p e s m args below meth c H A locs ls C hH oL oS hL ha hn
  exact lv_ldc2 C.1 C.2.1 (own := own) (by rw [← ho]; exact C.2.2.2.2.1) (by rw [← hv]; exact C.2.2.2.2.2.1 _ hw) hd (k ad0 ad p e s m args below meth c H A locs ls C hH oL (ok_cons.mpr ⟨hr, oS⟩) hL ha hn)

theorem T_ldcS {own tx : String} {idx i : Nat} {x : Int} (hd : decode mi.2.1 pc = .ok (.ldc idx, 2)) (ho : mi.1.cls = own) (hs : lw_str[i]? = some (own, idx, tx)) (hx : x.toNat = 1000 + i) (hp : pc + 2 = pc') (k : T E mi d n0 nc ns Q pc' L ((2, x) :: st) S M cells slots) : T E mi d n0 nc ns Q pc L st S M cells slots := by
  subst hp
  intro ad0 ad p e s m args below meth c H A locs ls C hH oL oS hL ha hn
  have hZ := hH.2.2.2.2.2.2.1.2 i _ hs
  rw [← hx] at hZ
  exact va_ldcS C.1 C.2.1 (by rw [← ho]; exact C.2.2.2.2.1) hZ hd (k ad0 ad p e s m args below meth c H A locs ls C hH oL (ok_cons.mpr ⟨⟨by omega, Or.inr (by omega)⟩, oS⟩) hL ha hn)

theorem T_iload_n {j : Fin 4} {i : Nat} {x : Int} (hd : decode mi.2.1 pc = .ok (.iload_n j, 1)) (hj : (j : Nat) = i) (hi : L[i]? = some (0, x)) (hp : pc + 1 = pc') (k : T E mi d n0 nc ns Q pc' L ((0, x) :: st) S M cells slots) : T E mi d n0 nc ns Q pc L st S M cells slots := by
  subst hp
  intro ad0 ad p e s m args below meth c H A locs ls C hH oL oS hL ha hn
  exact lv_iload_n C.1 C.2.1 hd hj (prs_at hL hi (show (0 : Nat) < 3 by decide)) (k ad0 ad p e s m args below meth c H A locs ls C hH oL (ok_cons.mpr ⟨oL _ (List.mem_of_getElem? hi), oS⟩) hL ha hn)

theorem T_iload {i : Nat} {x : Int} (hd : decode mi.2.1 pc = .ok (.iload i, 2)) (hi : L[i]? = some (0, x)) (hp : pc + 2 = pc') (k : T E mi d n0 nc ns Q pc' L ((0, x) :: st) S M cells slots) : T E mi d n0 nc ns Q pc L st S M cells slots := by
  subst hp
  intro ad0 ad p e s m args below meth c H A locs ls C hH oL oS hL ha hn
  exact lv_iload C.1 C.2.1 hd (prs_at hL hi (show (0 : Nat) < 3 by decide)) (k ad0 ad p e s m args below meth c H A locs ls C hH oL (ok_cons.mpr ⟨oL _ (List.mem_of_getElem? hi), oS⟩) hL ha hn)

theorem T_lload_n {j : Fin 4} {i : Nat} {x : Int} (hd : decode mi.2.1 pc = .ok (.lload_n j, 1)) (hj : (j : Nat) = i) (hi : L[i]? = some (1, x)) (hp : pc + 1 = pc') (k : T E mi d n0 nc ns Q pc' L ((1, x) :: st) S M cells slots) : T E mi d n0 nc ns Q pc L st S M cells slots := by
  subst hp
  intro ad0 ad p e s m args below meth c H A locs ls C hH oL oS hL ha hn
  exact lv_lload_n C.1 C.2.1 hd hj (prs_at hL hi (show (1 : Nat) < 3 by decide)) (k ad0 ad p e s m args below meth c H A locs ls C hH oL (ok_cons.mpr ⟨oL _ (List.mem_of_getElem? hi), oS⟩) hL ha hn)

theorem T_lload {i : Nat} {x : Int} (hd : decode mi.2.1 pc = .ok (.lload i, 2)) (hi : L[i]? = some (1, x)) (hp : pc + 2 = pc') (k : T E mi d n0 nc ns Q pc' L ((1, x) :: st) S M cells slots) : T E mi d n0 nc ns Q pc L st S M cells slots := by
  subst hp
  intro ad0 ad p e s m args below meth c H A locs ls C hH oL oS hL ha hn
  exact lv_lload C.1 C.2.1 hd (prs_at hL hi (show (1 : Nat) < 3 by decide)) (k ad0 ad p e s m args below meth c H A locs ls C hH oL (ok_cons.mpr ⟨oL _ (List.mem_of_getElem? hi), oS⟩) hL ha hn)

theorem T_aload_n {j : Fin 4} {i : Nat} {x : Int} (hd : decode mi.2.1 pc = .ok (.aload_n j, 1)) (hj : (j : Nat) = i) (hi : L[i]? = some (2, x)) (hp : pc + 1 = pc') (k : T E mi d n0 nc ns Q pc' L ((2, x) :: st) S M cells slots) : T E mi d n0 nc ns Q pc L st S M cells slots := by
  subst hp
  intro ad0 ad p e s m args below meth c H A locs ls C hH oL oS hL ha hn
  exact lv_aload_n C.1 C.2.1 hd hj (prs_at hL hi (show (2 : Nat) < 3 by decide)) (k ad0 ad p e s m args below meth c H A locs ls C hH oL (ok_cons.mpr ⟨oL _ (List.mem_of_getElem? hi), oS⟩) hL ha hn)

theorem T_aload {i : Nat} {x : Int} (hd : decode mi.2.1 pc = .ok (.aload i, 2)) (hi : L[i]? = some (2, x)) (hp : pc + 2 = pc') (k : T E mi d n0 nc ns Q pc' L ((2, x) :: st) S M cells slots) : T E mi d n0 nc ns Q pc L st S M cells slots := by
  subst hp
  intro ad0 ad p e s m args below meth c H A locs ls C hH oL oS hL ha hn
  exact lv_aload C.1 C.2.1 hd (prs_at hL hi (show (2 : Nat) < 3 by decide)) (k ad0 ad p e s m args below meth c H A locs ls C hH oL (ok_cons.mpr ⟨oL _ (List.mem_of_getElem? hi), oS⟩) hL ha hn)

theorem T_istore_n {j : Fin 4} {i : Nat} {x : Int} (hd : decode mi.2.1 pc = .ok (.istore_n j, 1)) (hj : (j : Nat) = i) (hi : i < mi.2.2.1) (hL' : st1 L i (0, x) = L') (hp : pc + 1 = pc') (k : T E mi d n0 nc ns Q pc' L' st S M cells slots) : T E mi d n0 nc ns Q pc L ((0, x) :: st) S M cells slots := by
  subst hp
  subst hL'
  intro ad0 ad p e s m args below meth c H A locs ls C hH oL oS hL ha hn
  have o2 := ok_cons.mp oS
  refine lv_istore_n C.1 C.2.1 hd hj hL hi rfl (fun ls hl => ?_)
  exact k ad0 ad p e s m args below meth c H A locs ls C hH (st1_mem oL o2.1) o2.2 (has_of hl (fun q w hq hw => by
    rcases st1_get hq hw with ⟨rfl, rfl⟩ | ⟨h1, h2, h3⟩
    · exact List.mem_cons_self
    · refine List.mem_cons_of_mem _ (List.mem_filter.mpr ⟨?_, ?_⟩)
      · unfold prs
        refine List.mem_filterMap.mpr ⟨q, List.mem_range.mpr (List.getElem?_eq_some_iff.mp h2).1, ?_⟩
        rw [h2]
        simp [hw]
      · simp only [Bool.and_eq_true, Bool.not_eq_true', beq_eq_false_iff_ne, ne_eq, Bool.and_eq_false_iff]
        refine ⟨h1, ?_⟩
        by_cases z : q + 1 = i
        · exact Or.inr (fun y => h3 ⟨z, rv_cat2 y⟩)
        · exact Or.inl z)) ha hn

theorem T_istore {i : Nat} {x : Int} (hd : decode mi.2.1 pc = .ok (.istore i, 2)) (hi : i < mi.2.2.1) (hL' : st1 L i (0, x) = L') (hp : pc + 2 = pc') (k : T E mi d n0 nc ns Q pc' L' st S M cells slots) : T E mi d n0 nc ns Q pc L ((0, x) :: st) S M cells slots := by
  subst hp
  subst hL'
  intro ad0 ad p e s m args below meth c H A locs ls C hH oL oS hL ha hn
  have o2 := ok_cons.mp oS
  refine lv_istore C.1 C.2.1 hd hL hi rfl (fun ls hl => ?_)
  exact k ad0 ad p e s m args below meth c H A locs ls C hH (st1_mem oL o2.1) o2.2 (has_of hl (fun q w hq hw => by
    rcases st1_get hq hw with ⟨rfl, rfl⟩ | ⟨h1, h2, h3⟩
    · exact List.mem_cons_self
    · refine List.mem_cons_of_mem _ (List.mem_filter.mpr ⟨?_, ?_⟩)
      · unfold prs
        refine List.mem_filterMap.mpr ⟨q, List.mem_range.mpr (List.getElem?_eq_some_iff.mp h2).1, ?_⟩
        rw [h2]
        simp [hw]
      · simp only [Bool.and_eq_true, Bool.not_eq_true', beq_eq_false_iff_ne, ne_eq, Bool.and_eq_false_iff]
        refine ⟨h1, ?_⟩
        by_cases z : q + 1 = i
        · exact Or.inr (fun y => h3 ⟨z, rv_cat2 y⟩)
        · exact Or.inl z)) ha hn

theorem T_astore_n {j : Fin 4} {i : Nat} {x : Int} (hd : decode mi.2.1 pc = .ok (.astore_n j, 1)) (hj : (j : Nat) = i) (hi : i < mi.2.2.1) (hL' : st1 L i (2, x) = L') (hp : pc + 1 = pc') (k : T E mi d n0 nc ns Q pc' L' st S M cells slots) : T E mi d n0 nc ns Q pc L ((2, x) :: st) S M cells slots := by
  subst hp
  subst hL'
  intro ad0 ad p e s m args below meth c H A locs ls C hH oL oS hL ha hn
  have o2 := ok_cons.mp oS
  refine lv_astore_n C.1 C.2.1 hd hj hL hi rfl (fun ls hl => ?_)
  exact k ad0 ad p e s m args below meth c H A locs ls C hH (st1_mem oL o2.1) o2.2 (has_of hl (fun q w hq hw => by
    rcases st1_get hq hw with ⟨rfl, rfl⟩ | ⟨h1, h2, h3⟩
    · exact List.mem_cons_self
    · refine List.mem_cons_of_mem _ (List.mem_filter.mpr ⟨?_, ?_⟩)
      · unfold prs
        refine List.mem_filterMap.mpr ⟨q, List.mem_range.mpr (List.getElem?_eq_some_iff.mp h2).1, ?_⟩
        rw [h2]
        simp [hw]
      · simp only [Bool.and_eq_true, Bool.not_eq_true', beq_eq_false_iff_ne, ne_eq, Bool.and_eq_false_iff]
        refine ⟨h1, ?_⟩
        by_cases z : q + 1 = i
        · exact Or.inr (fun y => h3 ⟨z, rv_cat2 y⟩)
        · exact Or.inl z)) ha hn

theorem T_astore {i : Nat} {x : Int} (hd : decode mi.2.1 pc = .ok (.astore i, 2)) (hi : i < mi.2.2.1) (hL' : st1 L i (2, x) = L') (hp : pc + 2 = pc') (k : T E mi d n0 nc ns Q pc' L' st S M cells slots) : T E mi d n0 nc ns Q pc L ((2, x) :: st) S M cells slots := by
  subst hp
  subst hL'
  intro ad0 ad p e s m args below meth c H A locs ls C hH oL oS hL ha hn
  have o2 := ok_cons.mp oS
  refine lv_astore C.1 C.2.1 hd hL hi rfl (fun ls hl => ?_)
  exact k ad0 ad p e s m args below meth c H A locs ls C hH (st1_mem oL o2.1) o2.2 (has_of hl (fun q w hq hw => by
    rcases st1_get hq hw with ⟨rfl, rfl⟩ | ⟨h1, h2, h3⟩
    · exact List.mem_cons_self
    · refine List.mem_cons_of_mem _ (List.mem_filter.mpr ⟨?_, ?_⟩)
      · unfold prs
        refine List.mem_filterMap.mpr ⟨q, List.mem_range.mpr (List.getElem?_eq_some_iff.mp h2).1, ?_⟩
        rw [h2]
        simp [hw]
      · simp only [Bool.and_eq_true, Bool.not_eq_true', beq_eq_false_iff_ne, ne_eq, Bool.and_eq_false_iff]
        refine ⟨h1, ?_⟩
        by_cases z : q + 1 = i
        · exact Or.inr (fun y => h3 ⟨z, rv_cat2 y⟩)
        · exact Or.inl z)) ha hn

theorem T_lstore_n {j : Fin 4} {i : Nat} {x : Int} (hd : decode mi.2.1 pc = .ok (.lstore_n j, 1)) (hj : (j : Nat) = i) (hi : i + 1 < mi.2.2.1) (hL' : st2 L i (1, x) = L') (hp : pc + 1 = pc') (k : T E mi d n0 nc ns Q pc' L' st S M cells slots) : T E mi d n0 nc ns Q pc L ((1, x) :: st) S M cells slots := by
  subst hp
  subst hL'
  intro ad0 ad p e s m args below meth c H A locs ls C hH oL oS hL ha hn
  have o2 := ok_cons.mp oS
  refine lv_lstore_n C.1 C.2.1 hd hj hL hi rfl (fun ls hl => ?_)
  exact k ad0 ad p e s m args below meth c H A locs ls C hH (st2_mem oL o2.1) o2.2 (has_of hl (fun q w hq hw => by
    unfold st2 at hq
    rw [List.getElem?_set] at hq
    by_cases hqi : i + 1 = q
    · rw [if_pos hqi] at hq
      split at hq
      · cases hq
        exact absurd hw (show ¬ (3 : Nat) < 3 by decide)
      · cases hq
    · rw [if_neg hqi] at hq
      rcases st1_get hq hw with ⟨rfl, rfl⟩ | ⟨h1, h2, h3⟩
      · exact List.mem_cons_self
      · refine List.mem_cons_of_mem _ (List.mem_filter.mpr ⟨?_, ?_⟩)
        · unfold prs
          refine List.mem_filterMap.mpr ⟨q, List.mem_range.mpr (List.getElem?_eq_some_iff.mp h2).1, ?_⟩
          rw [h2]
          simp [hw]
        · simp only [Bool.and_eq_true, Bool.not_eq_true', beq_eq_false_iff_ne, ne_eq, Bool.and_eq_false_iff]
          refine ⟨h1, fun z => hqi z.symm, ?_⟩
          by_cases z : q + 1 = i
          · exact Or.inr (fun y => h3 ⟨z, rv_cat2 y⟩)
          · exact Or.inl z)) ha hn

theorem T_lstore {i : Nat} {x : Int} (hd : decode mi.2.1 pc = .ok (.lstore i, 2)) (hi : i + 1 < mi.2.2.1) (hL' : st2 L i (1, x) = L') (hp : pc + 2 = pc') (k : T E mi d n0 nc ns Q pc' L' st S M cells slots) : T E mi d n0 nc ns Q pc L ((1, x) :: st) S M cells slots := by
  subst hp
  subst hL'
  intro ad0 ad p e s m args below meth c H A locs ls C hH oL oS hL ha hn
  have o2 := ok_cons.mp oS
  refine lv_lstore C.1 C.2.1 hd hL hi rfl (fun ls hl => ?_)
  exact k ad0 ad p e s m args below meth c H A locs ls C hH (st2_mem oL o2.1) o2.2 (has_of hl (fun q w hq hw => by
    unfold st2 at hq
    rw [List.getElem?_set] at hq
    by_cases hqi : i + 1 = q
    · rw [if_pos hqi] at hq
      split at hq
      · cases hq
        exact absurd hw (show ¬ (3 : Nat) < 3 by decide)
      · cases hq
    · rw [if_neg hqi] at hq
      rcases st1_get hq hw with ⟨rfl, rfl⟩ | ⟨h1, h2, h3⟩
      · exact List.mem_cons_self
      · refine List.mem_cons_of_mem _ (List.mem_filter.mpr ⟨?_, ?_⟩)
        · unfold prs
          refine List.mem_filterMap.mpr ⟨q, List.mem_range.mpr (List.getElem?_eq_some_iff.mp h2).1, ?_⟩
          rw [h2]
          simp [hw]
        · simp only [Bool.and_eq_true, Bool.not_eq_true', beq_eq_false_iff_ne, ne_eq, Bool.and_eq_false_iff]
          refine ⟨h1, fun z => hqi z.symm, ?_⟩
          by_cases z : q + 1 = i
          · exact Or.inr (fun y => h3 ⟨z, rv_cat2 y⟩)
          · exact Or.inl z)) ha hn

theorem T_iinc {i : Nat} {n x : Int} (hd : decode mi.2.1 pc = .ok (.iinc i n, 3)) (hx : L[i]? = some (0, x)) (hi : i < mi.2.2.1) (hL' : st1 L i (0, wr32 (x + n)) = L') (hp : pc + 3 = pc') (k : T E mi d n0 nc ns Q pc' L' st S M cells slots) : T E mi d n0 nc ns Q pc L st S M cells slots := by
  subst hp
  subst hL'
  intro ad0 ad p e s m args below meth c H A locs ls C hH oL oS hL ha hn
  have hmem : (i, rv ad (0, x)) ∈ prs ad L := by
    unfold prs
    refine List.mem_filterMap.mpr ⟨i, List.mem_range.mpr (List.getElem?_eq_some_iff.mp hx).1, ?_⟩
    rw [hx]
    rfl
  obtain ⟨kk, hkk⟩ := List.getElem?_of_mem hmem
  refine lv_iinc C.1 C.2.1 hd hL hkk wr_add hi rfl (fun ls hl => ?_)
  exact k ad0 ad p e s m args below meth c H A locs ls C hH (st1_mem oL (wr32_r _)) oS (has_of hl (fun q w hq hw => by
    rcases st1_get hq hw with ⟨rfl, rfl⟩ | ⟨h1, h2, h3⟩
    · exact List.mem_cons_self
    · refine List.mem_cons_of_mem _ (List.mem_filter.mpr ⟨?_, ?_⟩)
      · unfold prs
        refine List.mem_filterMap.mpr ⟨q, List.mem_range.mpr (List.getElem?_eq_some_iff.mp h2).1, ?_⟩
        rw [h2]
        simp [hw]
      · simp only [Bool.and_eq_true, Bool.not_eq_true', beq_eq_false_iff_ne, ne_eq, Bool.and_eq_false_iff]
        refine ⟨h1, ?_⟩
        by_cases z : q + 1 = i
        · exact Or.inr (fun y => h3 ⟨z, rv_cat2 y⟩)
        · exact Or.inl z)) ha hn

theorem T_iadd {a b : Int} (hd : decode mi.2.1 pc = .ok (.iadd, 1)) (hp : pc + 1 = pc') (k : T E mi d n0 nc ns Q pc' L ((0, wr32 (a + b)) :: st) S M cells slots) : T E mi d n0 nc ns Q pc L ((0, b) :: (0, a) :: st) S M cells slots := by
  subst hp
  intro ad0 ad p e s m args below meth c H A locs ls C hH oL oS hL ha hn
  have o2 := ok_cons.mp oS
  have o3 := ok_cons.mp o2.2
  have k := k ad0 ad p e s m args below meth c H A locs ls C hH oL (ok_cons.mpr ⟨wr32_r _, o3.2⟩) hL ha hn
  refine lv_iadd C.1 C.2.1 hd ?_
  have e1 := wr_add (a := a) (b := b)
  first | (rw [e1]; exact k) | exact k

theorem T_isub {a b : Int} (hd : decode mi.2.1 pc = .ok (.isub, 1)) (hp : pc + 1 = pc') (k : T E mi d n0 nc ns Q pc' L ((0, wr32 (a - b)) :: st) S M cells slots) : T E mi d n0 nc ns Q pc L ((0, b) :: (0, a) :: st) S M cells slots := by
  subst hp
  intro ad0 ad p e s m args below meth c H A locs ls C hH oL oS hL ha hn
  have o2 := ok_cons.mp oS
  have o3 := ok_cons.mp o2.2
  have k := k ad0 ad p e s m args below meth c H A locs ls C hH oL (ok_cons.mpr ⟨wr32_r _, o3.2⟩) hL ha hn
  refine lv_isub C.1 C.2.1 hd ?_
  have e1 := wr_sub (a := a) (b := b)
  first | (rw [e1]; exact k) | exact k

theorem T_imul {a b : Int} (hd : decode mi.2.1 pc = .ok (.imul, 1)) (hp : pc + 1 = pc') (k : T E mi d n0 nc ns Q pc' L ((0, wr32 (a * b)) :: st) S M cells slots) : T E mi d n0 nc ns Q pc L ((0, b) :: (0, a) :: st) S M cells slots := by
  subst hp
  intro ad0 ad p e s m args below meth c H A locs ls C hH oL oS hL ha hn
  have o2 := ok_cons.mp oS
  have o3 := ok_cons.mp o2.2
  have k := k ad0 ad p e s m args below meth c H A locs ls C hH oL (ok_cons.mpr ⟨wr32_r _, o3.2⟩) hL ha hn
  refine lv_imul C.1 C.2.1 hd ?_
  have e1 := wr_mul (a := a) (b := b)
  first | (rw [e1]; exact k) | exact k

theorem T_ladd {a b : Int} (hd : decode mi.2.1 pc = .ok (.ladd, 1)) (hp : pc + 1 = pc') (k : T E mi d n0 nc ns Q pc' L ((1, wr64 (a + b)) :: st) S M cells slots) : T E mi d n0 nc ns Q pc L ((1, b) :: (1, a) :: st) S M cells slots := by
  subst hp
  intro ad0 ad p e s m args below meth c H A locs ls C hH oL oS hL ha hn
  have o2 := ok_cons.mp oS
  have o3 := ok_cons.mp o2.2
  have k := k ad0 ad p e s m args below meth c H A locs ls C hH oL (ok_cons.mpr ⟨wr64_r _, o3.2⟩) hL ha hn
  refine lv_ladd C.1 C.2.1 hd ?_
  have e1 := wl_add (a := a) (b := b)
  first | (rw [e1]; exact k) | exact k

theorem T_lsub {a b : Int} (hd : decode mi.2.1 pc = .ok (.lsub, 1)) (hp : pc + 1 = pc') (k : T E mi d n0 nc ns Q pc' L ((1, wr64 (a - b)) :: st) S M cells slots) : T E mi d n0 nc ns Q pc L ((1, b) :: (1, a) :: st) S M cells slots := by
  subst hp
  intro ad0 ad p e s m args below meth c H A locs ls C hH oL oS hL ha hn
  have o2 := ok_cons.mp oS
  have o3 := ok_cons.mp o2.2
  have k := k ad0 ad p e s m args below meth c H A locs ls C hH oL (ok_cons.mpr ⟨wr64_r _, o3.2⟩) hL ha hn
  refine lv_lsub C.1 C.2.1 hd ?_
  have e1 := wl_sub (a := a) (b := b)
  first | (rw [e1]; exact k) | exact k

theorem T_lmul {a b : Int} (hd : decode mi.2.1 pc = .ok (.lmul, 1)) (hp : pc + 1 = pc') (k : T E mi d n0 nc ns Q pc' L ((1, wr64 (a * b)) :: st) S M cells slots) : T E mi d n0 nc ns Q pc L ((1, b) :: (1, a) :: st) S M cells slots := by
  subst hp
  intro ad0 ad p e s m args below meth c H A locs ls C hH oL oS hL ha hn
  have o2 := ok_cons.mp oS
  have o3 := ok_cons.mp o2.2
  have k := k ad0 ad p e s m args below meth c H A locs ls C hH oL (ok_cons.mpr ⟨wr64_r _, o3.2⟩) hL ha hn
  refine lv_lmul C.1 C.2.1 hd ?_
  have e1 := wl_mul (a := a) (b := b)
  first | (rw [e1]; exact k) | exact k

theorem T_idiv {a b : Int} (hd : decode mi.2.1 pc = .ok (.idiv, 1)) (hb : ¬ b = 0) (hp : pc + 1 = pc') (k : T E mi d n0 nc ns Q pc' L ((0, wr32 (a.tdiv b)) :: st) S M cells slots) : T E mi d n0 nc ns Q pc L ((0, b) :: (0, a) :: st) S M cells slots := by
  subst hp
  intro ad0 ad p e s m args below meth c H A locs ls C hH oL oS hL ha hn
  have o2 := ok_cons.mp oS
  have o3 := ok_cons.mp o2.2
  have k := k ad0 ad p e s m args below meth c H A locs ls C hH oL (ok_cons.mpr ⟨wr32_r _, o3.2⟩) hL ha hn
  refine lv_idiv C.1 C.2.1 hd (fun z => hb ((wr_eq o2.1 (by decide : r32 0)).mp z)) ?_
  have e1 := wr_div (a := a) (b := b) o3.1 o2.1
  first | (rw [e1]; exact k) | exact k

theorem T_ldiv {a b : Int} (hd : decode mi.2.1 pc = .ok (.ldiv, 1)) (hb : ¬ b = 0) (hp : pc + 1 = pc') (k : T E mi d n0 nc ns Q pc' L ((1, wr64 (a.tdiv b)) :: st) S M cells slots) : T E mi d n0 nc ns Q pc L ((1, b) :: (1, a) :: st) S M cells slots := by
  subst hp
  intro ad0 ad p e s m args below meth c H A locs ls C hH oL oS hL ha hn
  have o2 := ok_cons.mp oS
  have o3 := ok_cons.mp o2.2
  have k := k ad0 ad p e s m args below meth c H A locs ls C hH oL (ok_cons.mpr ⟨wr64_r _, o3.2⟩) hL ha hn
  refine lv_ldiv C.1 C.2.1 hd (fun z => hb ((wl_eq o2.1 (by decide : r64 0)).mp z)) ?_
  have e1 := wl_div (a := a) (b := b) o3.1 o2.1
  first | (rw [e1]; exact k) | exact k

theorem T_irem {a b : Int} (hd : decode mi.2.1 pc = .ok (.irem, 1)) (hb : ¬ b = 0) (hp : pc + 1 = pc') (k : T E mi d n0 nc ns Q pc' L ((0, a.tmod b) :: st) S M cells slots) : T E mi d n0 nc ns Q pc L ((0, b) :: (0, a) :: st) S M cells slots := by
  subst hp
  intro ad0 ad p e s m args below meth c H A locs ls C hH oL oS hL ha hn
  have o2 := ok_cons.mp oS
  have o3 := ok_cons.mp o2.2
  have k := k ad0 ad p e s m args below meth c H A locs ls C hH oL (ok_cons.mpr ⟨(by have h := i32_r (Int32.ofInt a - Int32.ofInt a / Int32.ofInt b * Int32.ofInt b); rw [rem_toInt, i32_tr o3.1, i32_tr o2.1] at h; exact h), o3.2⟩) hL ha hn
  refine lv_irem C.1 C.2.1 hd (fun z => hb ((wr_eq o2.1 (by decide : r32 0)).mp z)) ?_
  have e1 := wr_rem (a := a) (b := b) o3.1 o2.1
  first | (rw [e1]; exact k) | exact k

theorem T_lrem {a b : Int} (hd : decode mi.2.1 pc = .ok (.lrem, 1)) (hb : ¬ b = 0) (hp : pc + 1 = pc') (k : T E mi d n0 nc ns Q pc' L ((1, a.tmod b) :: st) S M cells slots) : T E mi d n0 nc ns Q pc L ((1, b) :: (1, a) :: st) S M cells slots := by
  subst hp
  intro ad0 ad p e s m args below meth c H A locs ls C hH oL oS hL ha hn
  have o2 := ok_cons.mp oS
  have o3 := ok_cons.mp o2.2
  have k := k ad0 ad p e s m args below meth c H A locs ls C hH oL (ok_cons.mpr ⟨(by have h := i64_r (Int64.ofInt a - Int64.ofInt a / Int64.ofInt b * Int64.ofInt b); rw [lrem_mod, Int64.toInt_mod, i64_tr o3.1, i64_tr o2.1] at h; exact h), o3.2⟩) hL ha hn
  refine lv_lrem C.1 C.2.1 hd (fun z => hb ((wl_eq o2.1 (by decide : r64 0)).mp z)) ?_
  have e1 := wl_rem (a := a) (b := b) o3.1 o2.1
  first | (rw [e1]; exact k) | exact k

theorem T_iand {a b : Int} (hd : decode mi.2.1 pc = .ok (.iand, 1)) (hp : pc + 1 = pc') (k : T E mi d n0 nc ns Q pc' L ((0, m_and a b) :: st) S M cells slots) : T E mi d n0 nc ns Q pc L ((0, b) :: (0, a) :: st) S M cells slots := by
  subst hp
  intro ad0 ad p e s m args below meth c H A locs ls C hH oL oS hL ha hn
  have o2 := ok_cons.mp oS
  have o3 := ok_cons.mp o2.2
  have k := k ad0 ad p e s m args below meth c H A locs ls C hH oL (ok_cons.mpr ⟨i32_r _, o3.2⟩) hL ha hn
  refine lv_iand C.1 C.2.1 hd ?_
  have e1 := i32_eq (rfl : _ = m_and a b)
  first | (rw [e1]; exact k) | exact k

theorem T_ior {a b : Int} (hd : decode mi.2.1 pc = .ok (.ior, 1)) (hp : pc + 1 = pc') (k : T E mi d n0 nc ns Q pc' L ((0, m_or a b) :: st) S M cells slots) : T E mi d n0 nc ns Q pc L ((0, b) :: (0, a) :: st) S M cells slots := by
  subst hp
  intro ad0 ad p e s m args below meth c H A locs ls C hH oL oS hL ha hn
  have o2 := ok_cons.mp oS
  have o3 := ok_cons.mp o2.2
  have k := k ad0 ad p e s m args below meth c H A locs ls C hH oL (ok_cons.mpr ⟨i32_r _, o3.2⟩) hL ha hn
  refine lv_ior C.1 C.2.1 hd ?_
  have e1 := i32_eq (rfl : _ = m_or a b)
  first | (rw [e1]; exact k) | exact k

theorem T_ixor {a b : Int} (hd : decode mi.2.1 pc = .ok (.ixor, 1)) (hp : pc + 1 = pc') (k : T E mi d n0 nc ns Q pc' L ((0, m_xor a b) :: st) S M cells slots) : T E mi d n0 nc ns Q pc L ((0, b) :: (0, a) :: st) S M cells slots := by
  subst hp
  intro ad0 ad p e s m args below meth c H A locs ls C hH oL oS hL ha hn
  have o2 := ok_cons.mp oS
  have o3 := ok_cons.mp o2.2
  have k := k ad0 ad p e s m args below meth c H A locs ls C hH oL (ok_cons.mpr ⟨i32_r _, o3.2⟩) hL ha hn
  refine lv_ixor C.1 C.2.1 hd ?_
  have e1 := i32_eq (rfl : _ = m_xor a b)
  first | (rw [e1]; exact k) | exact k

theorem T_ishl {a b : Int} (hd : decode mi.2.1 pc = .ok (.ishl, 1)) (hp : pc + 1 = pc') (k : T E mi d n0 nc ns Q pc' L ((0, m_shl a b) :: st) S M cells slots) : T E mi d n0 nc ns Q pc L ((0, b) :: (0, a) :: st) S M cells slots := by
  subst hp
  intro ad0 ad p e s m args below meth c H A locs ls C hH oL oS hL ha hn
  have o2 := ok_cons.mp oS
  have o3 := ok_cons.mp o2.2
  have k := k ad0 ad p e s m args below meth c H A locs ls C hH oL (ok_cons.mpr ⟨i32_r _, o3.2⟩) hL ha hn
  refine lv_ishl C.1 C.2.1 hd ?_
  have e1 := i32_eq (rfl : _ = m_shl a b)
  first | (rw [e1]; exact k) | exact k

theorem T_ishr {a b : Int} (hd : decode mi.2.1 pc = .ok (.ishr, 1)) (hp : pc + 1 = pc') (k : T E mi d n0 nc ns Q pc' L ((0, m_shr a b) :: st) S M cells slots) : T E mi d n0 nc ns Q pc L ((0, b) :: (0, a) :: st) S M cells slots := by
  subst hp
  intro ad0 ad p e s m args below meth c H A locs ls C hH oL oS hL ha hn
  have o2 := ok_cons.mp oS
  have o3 := ok_cons.mp o2.2
  have k := k ad0 ad p e s m args below meth c H A locs ls C hH oL (ok_cons.mpr ⟨i32_r _, o3.2⟩) hL ha hn
  refine lv_ishr C.1 C.2.1 hd ?_
  have e1 := i32_eq (rfl : _ = m_shr a b)
  first | (rw [e1]; exact k) | exact k

theorem T_land {a b : Int} (hd : decode mi.2.1 pc = .ok (.land, 1)) (hp : pc + 1 = pc') (k : T E mi d n0 nc ns Q pc' L ((1, m_land a b) :: st) S M cells slots) : T E mi d n0 nc ns Q pc L ((1, b) :: (1, a) :: st) S M cells slots := by
  subst hp
  intro ad0 ad p e s m args below meth c H A locs ls C hH oL oS hL ha hn
  have o2 := ok_cons.mp oS
  have o3 := ok_cons.mp o2.2
  have k := k ad0 ad p e s m args below meth c H A locs ls C hH oL (ok_cons.mpr ⟨i64_r _, o3.2⟩) hL ha hn
  refine lv_land C.1 C.2.1 hd ?_
  have e1 := i64_eq (rfl : _ = m_land a b)
  first | (rw [e1]; exact k) | exact k

theorem T_lor {a b : Int} (hd : decode mi.2.1 pc = .ok (.lor, 1)) (hp : pc + 1 = pc') (k : T E mi d n0 nc ns Q pc' L ((1, m_lor a b) :: st) S M cells slots) : T E mi d n0 nc ns Q pc L ((1, b) :: (1, a) :: st) S M cells slots := by
  subst hp
  intro ad0 ad p e s m args below meth c H A locs ls C hH oL oS hL ha hn
  have o2 := ok_cons.mp oS
  have o3 := ok_cons.mp o2.2
  have k := k ad0 ad p e s m args below meth c H A locs ls C hH oL (ok_cons.mpr ⟨i64_r _, o3.2⟩) hL ha hn
  refine lv_lor C.1 C.2.1 hd ?_
  have e1 := i64_eq (rfl : _ = m_lor a b)
  first | (rw [e1]; exact k) | exact k

theorem T_iushr {a b : Int} (hd : decode mi.2.1 pc = .ok (.iushr, 1)) (hp : pc + 1 = pc') (k : T E mi d n0 nc ns Q pc' L ((0, m_ushr a b) :: st) S M cells slots) : T E mi d n0 nc ns Q pc L ((0, b) :: (0, a) :: st) S M cells slots := by
  subst hp
  intro ad0 ad p e s m args below meth c H A locs ls C hH oL oS hL ha hn
  have o2 := ok_cons.mp oS
  have o3 := ok_cons.mp o2.2
  have k := k ad0 ad p e s m args below meth c H A locs ls C hH oL (ok_cons.mpr ⟨i32_r _, o3.2⟩) hL ha hn
  refine lv_iushr C.1 C.2.1 hd (i32_eq rfl) ?_
  have e1 := i32_eq (rfl : _ = m_ushr a b)
  first | (rw [e1]; exact k) | exact k

theorem T_lshl {a b : Int} (hd : decode mi.2.1 pc = .ok (.lshl, 1)) (hp : pc + 1 = pc') (k : T E mi d n0 nc ns Q pc' L ((1, m_lshl a b) :: st) S M cells slots) : T E mi d n0 nc ns Q pc L ((0, b) :: (1, a) :: st) S M cells slots := by
  subst hp
  intro ad0 ad p e s m args below meth c H A locs ls C hH oL oS hL ha hn
  have o2 := ok_cons.mp oS
  have o3 := ok_cons.mp o2.2
  have k := k ad0 ad p e s m args below meth c H A locs ls C hH oL (ok_cons.mpr ⟨i64_r _, o3.2⟩) hL ha hn
  refine lv_lshl C.1 C.2.1 hd (i64_eq rfl) ?_
  have e1 := i64_eq (rfl : _ = m_lshl a b)
  first | (rw [e1]; exact k) | exact k

theorem T_lshr {a b : Int} (hd : decode mi.2.1 pc = .ok (.lshr, 1)) (hp : pc + 1 = pc') (k : T E mi d n0 nc ns Q pc' L ((1, m_lshr a b) :: st) S M cells slots) : T E mi d n0 nc ns Q pc L ((0, b) :: (1, a) :: st) S M cells slots := by
  subst hp
  intro ad0 ad p e s m args below meth c H A locs ls C hH oL oS hL ha hn
  have o2 := ok_cons.mp oS
  have o3 := ok_cons.mp o2.2
  have k := k ad0 ad p e s m args below meth c H A locs ls C hH oL (ok_cons.mpr ⟨i64_r _, o3.2⟩) hL ha hn
  refine lv_lshr C.1 C.2.1 hd (i64_eq rfl) ?_
  have e1 := i64_eq (rfl : _ = m_lshr a b)
  first | (rw [e1]; exact k) | exact k

theorem lg_cmp_of {a b : Int} (ha : r64 a) (hb : r64 b) : lg_cmp (Int64.ofInt a) (Int64.ofInt b) = Int32.ofInt (m_cmp a b) := by
  unfold lg_cmp m_cmp
  simp only [wl_lt ha hb, wl_lt hb ha, wl_eq ha hb]
  by_cases h1 : a < b
  · have h3 : ¬ b < a := by omega
    have h4 : ¬ a = b := by omega
    simp [h1, h3, h4]
  · by_cases h2 : a = b
    · subst h2; simp
    · have : b < a := by omega
      simp [h1, h2, this]
theorem T_lcmp {a b : Int} (hd : decode mi.2.1 pc = .ok (.lcmp, 1)) (hp : pc + 1 = pc') (k : T E mi d n0 nc ns Q pc' L ((0, m_cmp a b) :: st) S M cells slots) : T E mi d n0 nc ns Q pc L ((1, b) :: (1, a) :: st) S M cells slots := by
  subst hp
  intro ad0 ad p e s m args below meth c H A locs ls C hH oL oS hL ha hn
  have o2 := ok_cons.mp oS
  have o3 := ok_cons.mp o2.2
  have k := k ad0 ad p e s m args below meth c H A locs ls C hH oL (ok_cons.mpr ⟨(show r32 (m_cmp a b) by unfold m_cmp; split; decide; split <;> decide), o3.2⟩) hL ha hn
  refine W.lcmp C.1 C.2.1 hd ?_
  rw [lg_cmp_of o3.1 o2.1]
  exact k

theorem T_i2l {a : Int} (hd : decode mi.2.1 pc = .ok (.i2l, 1)) (hp : pc + 1 = pc') (k : T E mi d n0 nc ns Q pc' L ((1, a) :: st) S M cells slots) : T E mi d n0 nc ns Q pc L ((0, a) :: st) S M cells slots := by
  subst hp
  intro ad0 ad p e s m args below meth c H A locs ls C hH oL oS hL ha hn
  have o2 := ok_cons.mp oS
  have k := k ad0 ad p e s m args below meth c H A locs ls C hH oL (ok_cons.mpr ⟨(show r64 a by have h : r32 a := o2.1; unfold r32 at h; unfold r64; omega), o2.2⟩) hL ha hn
  exact lv_i2l C.1 C.2.1 hd (wr_i2l o2.1) k

theorem T_l2i {a : Int} (hd : decode mi.2.1 pc = .ok (.l2i, 1)) (hp : pc + 1 = pc') (k : T E mi d n0 nc ns Q pc' L ((0, wr32 a) :: st) S M cells slots) : T E mi d n0 nc ns Q pc L ((1, a) :: st) S M cells slots := by
  subst hp
  intro ad0 ad p e s m args below meth c H A locs ls C hH oL oS hL ha hn
  have o2 := ok_cons.mp oS
  have k := k ad0 ad p e s m args below meth c H A locs ls C hH oL (ok_cons.mpr ⟨wr32_r _, o2.2⟩) hL ha hn
  exact lv_l2i C.1 C.2.1 hd wr_l2i k

theorem T_i2c {a : Int} (hd : decode mi.2.1 pc = .ok (.i2c, 1)) (hp : pc + 1 = pc') (k : T E mi d n0 nc ns Q pc' L ((0, m_i2c a) :: st) S M cells slots) : T E mi d n0 nc ns Q pc L ((0, a) :: st) S M cells slots := by
  subst hp
  intro ad0 ad p e s m args below meth c H A locs ls C hH oL oS hL ha hn
  have o2 := ok_cons.mp oS
  have k := k ad0 ad p e s m args below meth c H A locs ls C hH oL (ok_cons.mpr ⟨i32_r _, o2.2⟩) hL ha hn
  exact lv_i2c C.1 C.2.1 hd (i32_eq rfl) k

theorem T_ineg {a : Int} (hd : decode mi.2.1 pc = .ok (.ineg, 1)) (hp : pc + 1 = pc') (k : T E mi d n0 nc ns Q pc' L ((0, wr32 (-a)) :: st) S M cells slots) : T E mi d n0 nc ns Q pc L ((0, a) :: st) S M cells slots := by
  subst hp
  intro ad0 ad p e s m args below meth c H A locs ls C hH oL oS hL ha hn
  have o2 := ok_cons.mp oS
  have k := k ad0 ad p e s m args below meth c H A locs ls C hH oL (ok_cons.mpr ⟨wr32_r _, o2.2⟩) hL ha hn
  refine lv_ineg C.1 C.2.1 hd ?_; rw [wr_neg]; exact k

theorem T_dup {v : MV} (hd : decode mi.2.1 pc = .ok (.dup, 1)) (hv : v.1 ≠ 1) (hp : pc + 1 = pc') (k : T E mi d n0 nc ns Q pc' L (v :: v :: st) S M cells slots) : T E mi d n0 nc ns Q pc L (v :: st) S M cells slots := by
  subst hp
  intro ad0 ad p e s m args below meth c H A locs ls C hH oL oS hL ha hn
  have o2 := ok_cons.mp oS
  exact lv_dup C.1 C.2.1 hd (rv_cat1 hv) (k ad0 ad p e s m args below meth c H A locs ls C hH oL (ok_cons.mpr ⟨o2.1, oS⟩) hL ha hn)
theorem T_pop {v : MV} (hd : decode mi.2.1 pc = .ok (.pop, 1)) (hv : v.1 ≠ 1) (hp : pc + 1 = pc') (k : T E mi d n0 nc ns Q pc' L st S M cells slots) : T E mi d n0 nc ns Q pc L (v :: st) S M cells slots := by
  subst hp
  intro ad0 ad p e s m args below meth c H A locs ls C hH oL oS hL ha hn
  have o2 := ok_cons.mp oS
  exact lv_pop C.1 C.2.1 hd (rv_cat1 hv) (k ad0 ad p e s m args below meth c H A locs ls C hH oL o2.2 hL ha hn)
theorem T_dup2 {v w : MV} (hd : decode mi.2.1 pc = .ok (.dup2, 1)) (hv : v.1 ≠ 1) (hw : w.1 ≠ 1) (hp : pc + 1 = pc') (k : T E mi d n0 nc ns Q pc' L (v :: w :: v :: w :: st) S M cells slots) : T E mi d n0 nc ns Q pc L (v :: w :: st) S M cells slots := by
  subst hp
  intro ad0 ad p e s m args below meth c H A locs ls C hH oL oS hL ha hn
  have o2 := ok_cons.mp oS
  have o3 := ok_cons.mp o2.2
  exact lv_dup2_11 C.1 C.2.1 hd (rv_cat1 hv) (rv_cat1 hw) (k ad0 ad p e s m args below meth c H A locs ls C hH oL (ok_cons.mpr ⟨o2.1, ok_cons.mpr ⟨o3.1, oS⟩⟩) hL ha hn)
theorem T_goto {off : Int} (hd : decode mi.2.1 pc = .ok (.goto off, 3)) (hp : (pc : Int) + off = (pc' : Int)) (k : T E mi d n0 nc ns Q pc' L st S M cells slots) : T E mi d n0 nc ns Q pc L st S M cells slots := by
  intro ad0 ad p e s m args below meth c H A locs ls C hH oL oS hL ha hn
  exact lv_goto C.1 C.2.1 hd hp (k ad0 ad p e s m args below meth c H A locs ls C hH oL oS hL ha hn)

theorem T_if_eq {a : Int} {off : Int} (hd : decode mi.2.1 pc = .ok (.ifCond .eq off, 3)) (ht : (pc : Int) + off = (pc' : Int)) {pf : Nat} (hp : pc + 3 = pf) (k : a = 0 → T E mi d n0 nc ns Q pc' L st S M cells slots) (k2 : ¬ (a = 0) → T E mi d n0 nc ns Q pf L st S M cells slots) : T E mi d n0 nc ns Q pc L ((0, a) :: st) S M cells slots := by
  subst hp
  intro ad0 ad p e s m args below meth c H A locs ls C hH oL oS hL ha hn
  have o2 := ok_cons.mp oS
  have q : Int32.ofInt a = 0 ↔ (a = 0) := wr_eq o2.1 (by decide : r32 0)
  exact lv_if_eq C.1 C.2.1 hd ht (fun z => k (q.mp z) ad0 ad p e s m args below meth c H A locs ls C hH oL o2.2 hL ha hn) (fun z => k2 (fun y => z (q.mpr y)) ad0 ad p e s m args below meth c H A locs ls C hH oL o2.2 hL ha hn)
theorem T_icmp_eq {a b : Int} {off : Int} (hd : decode mi.2.1 pc = .ok (.if_icmp .eq off, 3)) (ht : (pc : Int) + off = (pc' : Int)) {pf : Nat} (hp : pc + 3 = pf) (k : a = b → T E mi d n0 nc ns Q pc' L st S M cells slots) (k2 : ¬ (a = b) → T E mi d n0 nc ns Q pf L st S M cells slots) : T E mi d n0 nc ns Q pc L ((0, b) :: (0, a) :: st) S M cells slots := by
  subst hp
  intro ad0 ad p e s m args below meth c H A locs ls C hH oL oS hL ha hn
  have o2 := ok_cons.mp oS
  have o3 := ok_cons.mp o2.2
  have q : Int32.ofInt a = Int32.ofInt b ↔ (a = b) := wr_eq o3.1 o2.1
  exact lv_icmp_eq C.1 C.2.1 hd ht (fun z => k (q.mp z) ad0 ad p e s m args below meth c H A locs ls C hH oL o3.2 hL ha hn) (fun z => k2 (fun y => z (q.mpr y)) ad0 ad p e s m args below meth c H A locs ls C hH oL o3.2 hL ha hn)

theorem T_if_ne {a : Int} {off : Int} (hd : decode mi.2.1 pc = .ok (.ifCond .ne off, 3)) (ht : (pc : Int) + off = (pc' : Int)) {pf : Nat} (hp : pc + 3 = pf) (k : ¬ a = 0 → T E mi d n0 nc ns Q pc' L st S M cells slots) (k2 : a = 0 → T E mi d n0 nc ns Q pf L st S M cells slots) : T E mi d n0 nc ns Q pc L ((0, a) :: st) S M cells slots := by
  subst hp
  intro ad0 ad p e s m args below meth c H A locs ls C hH oL oS hL ha hn
  have o2 := ok_cons.mp oS
  have q : ¬ Int32.ofInt a = 0 ↔ (¬ a = 0) := not_congr (wr_eq o2.1 (by decide : r32 0))
  exact lv_if_ne C.1 C.2.1 hd ht (fun z => k (q.mp z) ad0 ad p e s m args below meth c H A locs ls C hH oL o2.2 hL ha hn) (fun z => k2 ((wr_eq o2.1 (by decide : r32 0)).mp z) ad0 ad p e s m args below meth c H A locs ls C hH oL o2.2 hL ha hn)
theorem T_icmp_ne {a b : Int} {off : Int} (hd : decode mi.2.1 pc = .ok (.if_icmp .ne off, 3)) (ht : (pc : Int) + off = (pc' : Int)) {pf : Nat} (hp : pc + 3 = pf) (k : ¬ a = b → T E mi d n0 nc ns Q pc' L st S M cells slots) (k2 : a = b → T E mi d n0 nc ns Q pf L st S M cells slots) : T E mi d n0 nc ns Q pc L ((0, b) :: (0, a) :: st) S M cells slots := by
  subst hp
  intro ad0 ad p e s m args below meth c H A locs ls C hH oL oS hL ha hn
  have o2 := ok_cons.mp oS
  have o3 := ok_cons.mp o2.2
  have q : ¬ Int32.ofInt a = Int32.ofInt b ↔ (¬ a = b) := not_congr (wr_eq o3.1 o2.1)
  exact lv_icmp_ne C.1 C.2.1 hd ht (fun z => k (q.mp z) ad0 ad p e s m args below meth c H A locs ls C hH oL o3.2 hL ha hn) (fun z => k2 ((wr_eq o3.1 o2.1).mp z) ad0 ad p e s m args below meth c H A locs ls C hH oL o3.2 hL ha hn)

theorem T_if_lt {a : Int} {off : Int} (hd : decode mi.2.1 pc = .ok (.ifCond .lt off, 3)) (ht : (pc : Int) + off = (pc' : Int)) {pf : Nat} (hp : pc + 3 = pf) (k : a < 0 → T E mi d n0 nc ns Q pc' L st S M cells slots) (k2 : ¬ (a < 0) → T E mi d n0 nc ns Q pf L st S M cells slots) : T E mi d n0 nc ns Q pc L ((0, a) :: st) S M cells slots := by
  subst hp
  intro ad0 ad p e s m args below meth c H A locs ls C hH oL oS hL ha hn
  have o2 := ok_cons.mp oS
  have q : Int32.ofInt a < 0 ↔ (a < 0) := wr_lt o2.1 (by decide : r32 0)
  exact lv_if_lt C.1 C.2.1 hd ht (fun z => k (q.mp z) ad0 ad p e s m args below meth c H A locs ls C hH oL o2.2 hL ha hn) (fun z => k2 (fun y => z (q.mpr y)) ad0 ad p e s m args below meth c H A locs ls C hH oL o2.2 hL ha hn)
theorem T_icmp_lt {a b : Int} {off : Int} (hd : decode mi.2.1 pc = .ok (.if_icmp .lt off, 3)) (ht : (pc : Int) + off = (pc' : Int)) {pf : Nat} (hp : pc + 3 = pf) (k : a < b → T E mi d n0 nc ns Q pc' L st S M cells slots) (k2 : ¬ (a < b) → T E mi d n0 nc ns Q pf L st S M cells slots) : T E mi d n0 nc ns Q pc L ((0, b) :: (0, a) :: st) S M cells slots := by
  subst hp
  intro ad0 ad p e s m args below meth c H A locs ls C hH oL oS hL ha hn
  have o2 := ok_cons.mp oS
  have o3 := ok_cons.mp o2.2
  have q : Int32.ofInt a < Int32.ofInt b ↔ (a < b) := wr_lt o3.1 o2.1
  exact lv_icmp_lt C.1 C.2.1 hd ht (fun z => k (q.mp z) ad0 ad p e s m args below meth c H A locs ls C hH oL o3.2 hL ha hn) (fun z => k2 (fun y => z (q.mpr y)) ad0 ad p e s m args below meth c H A locs ls C hH oL o3.2 hL ha hn)

theorem T_if_ge {a : Int} {off : Int} (hd : decode mi.2.1 pc = .ok (.ifCond .ge off, 3)) (ht : (pc : Int) + off = (pc' : Int)) {pf : Nat} (hp : pc + 3 = pf) (k : 0 ≤ a → T E mi d n0 nc ns Q pc' L st S M cells slots) (k2 : ¬ (0 ≤ a) → T E mi d n0 nc ns Q pf L st S M cells slots) : T E mi d n0 nc ns Q pc L ((0, a) :: st) S M cells slots := by
  subst hp
  intro ad0 ad p e s m args below meth c H A locs ls C hH oL oS hL ha hn
  have o2 := ok_cons.mp oS
  have q : 0 ≤ Int32.ofInt a ↔ (0 ≤ a) := wr_le (by decide : r32 0) o2.1
  exact lv_if_ge C.1 C.2.1 hd ht (fun z => k (q.mp z) ad0 ad p e s m args below meth c H A locs ls C hH oL o2.2 hL ha hn) (fun z => k2 (fun y => z (q.mpr y)) ad0 ad p e s m args below meth c H A locs ls C hH oL o2.2 hL ha hn)
theorem T_icmp_ge {a b : Int} {off : Int} (hd : decode mi.2.1 pc = .ok (.if_icmp .ge off, 3)) (ht : (pc : Int) + off = (pc' : Int)) {pf : Nat} (hp : pc + 3 = pf) (k : b ≤ a → T E mi d n0 nc ns Q pc' L st S M cells slots) (k2 : ¬ (b ≤ a) → T E mi d n0 nc ns Q pf L st S M cells slots) : T E mi d n0 nc ns Q pc L ((0, b) :: (0, a) :: st) S M cells slots := by
  subst hp
  intro ad0 ad p e s m args below meth c H A locs ls C hH oL oS hL ha hn
  have o2 := ok_cons.mp oS
  have o3 := ok_cons.mp o2.2
  have q : Int32.ofInt b ≤ Int32.ofInt a ↔ (b ≤ a) := wr_le o2.1 o3.1
  exact lv_icmp_ge C.1 C.2.1 hd ht (fun z => k (q.mp z) ad0 ad p e s m args below meth c H A locs ls C hH oL o3.2 hL ha hn) (fun z => k2 (fun y => z (q.mpr y)) ad0 ad p e s m args below meth c H A locs ls C hH oL o3.2 hL ha hn)

theorem T_if_gt {a : Int} {off : Int} (hd : decode mi.2.1 pc = .ok (.ifCond .gt off, 3)) (ht : (pc : Int) + off = (pc' : Int)) {pf : Nat} (hp : pc + 3 = pf) (k : 0 < a → T E mi d n0 nc ns Q pc' L st S M cells slots) (k2 : ¬ (0 < a) → T E mi d n0 nc ns Q pf L st S M cells slots) : T E mi d n0 nc ns Q pc L ((0, a) :: st) S M cells slots := by
  subst hp
  intro ad0 ad p e s m args below meth c H A locs ls C hH oL oS hL ha hn
  have o2 := ok_cons.mp oS
  have q : 0 < Int32.ofInt a ↔ (0 < a) := wr_lt (by decide : r32 0) o2.1
  exact lv_if_gt C.1 C.2.1 hd ht (fun z => k (q.mp z) ad0 ad p e s m args below meth c H A locs ls C hH oL o2.2 hL ha hn) (fun z => k2 (fun y => z (q.mpr y)) ad0 ad p e s m args below meth c H A locs ls C hH oL o2.2 hL ha hn)
theorem T_icmp_gt {a b : Int} {off : Int} (hd : decode mi.2.1 pc = .ok (.if_icmp .gt off, 3)) (ht : (pc : Int) + off = (pc' : Int)) {pf : Nat} (hp : pc + 3 = pf) (k : b < a → T E mi d n0 nc ns Q pc' L st S M cells slots) (k2 : ¬ (b < a) → T E mi d n0 nc ns Q pf L st S M cells slots) : T E mi d n0 nc ns Q pc L ((0, b) :: (0, a) :: st) S M cells slots := by
  subst hp
  intro ad0 ad p e s m args below meth c H A locs ls C hH oL oS hL ha hn
  have o2 := ok_cons.mp oS
  have o3 := ok_cons.mp o2.2
  have q : Int32.ofInt b < Int32.ofInt a ↔ (b < a) := wr_lt o2.1 o3.1
  exact lv_icmp_gt C.1 C.2.1 hd ht (fun z => k (q.mp z) ad0 ad p e s m args below meth c H A locs ls C hH oL o3.2 hL ha hn) (fun z => k2 (fun y => z (q.mpr y)) ad0 ad p e s m args below meth c H A locs ls C hH oL o3.2 hL ha hn)

theorem T_if_le {a : Int} {off : Int} (hd : decode mi.2.1 pc = .ok (.ifCond .le off, 3)) (ht : (pc : Int) + off = (pc' : Int)) {pf : Nat} (hp : pc + 3 = pf) (k : a ≤ 0 → T E mi d n0 nc ns Q pc' L st S M cells slots) (k2 : ¬ (a ≤ 0) → T E mi d n0 nc ns Q pf L st S M cells slots) : T E mi d n0 nc ns Q pc L ((0, a) :: st) S M cells slots := by
  subst hp
  intro ad0 ad p e s m args below meth c H A locs ls C hH oL oS hL ha hn
  have o2 := ok_cons.mp oS
  have q : Int32.ofInt a ≤ 0 ↔ (a ≤ 0) := wr_le o2.1 (by decide : r32 0)
  exact lv_if_le C.1 C.2.1 hd ht (fun z => k (q.mp z) ad0 ad p e s m args below meth c H A locs ls C hH oL o2.2 hL ha hn) (fun z => k2 (fun y => z (q.mpr y)) ad0 ad p e s m args below meth c H A locs ls C hH oL o2.2 hL ha hn)
theorem T_icmp_le {a b : Int} {off : Int} (hd : decode mi.2.1 pc = .ok (.if_icmp .le off, 3)) (ht : (pc : Int) + off = (pc' : Int)) {pf : Nat} (hp : pc + 3 = pf) (k : a ≤ b → T E mi d n0 nc ns Q pc' L st S M cells slots) (k2 : ¬ (a ≤ b) → T E mi d n0 nc ns Q pf L st S M cells slots) : T E mi d n0 nc ns Q pc L ((0, b) :: (0, a) :: st) S M cells slots := by
  subst hp
  intro ad0 ad p e s m args below meth c H A locs ls C hH oL oS hL ha hn
  have o2 := ok_cons.mp oS
  have o3 := ok_cons.mp o2.2
  have q : Int32.ofInt a ≤ Int32.ofInt b ↔ (a ≤ b) := wr_le o3.1 o2.1
  exact lv_icmp_le C.1 C.2.1 hd ht (fun z => k (q.mp z) ad0 ad p e s m args below meth c H A locs ls C hH oL o3.2 hL ha hn) (fun z => k2 (fun y => z (q.mpr y)) ad0 ad p e s m args below meth c H A locs ls C hH oL o3.2 hL ha hn)

theorem T_lookup {dflt : Int} {ps : Array (Int × Int)} {len : Nat} {a off : Int} (hd : decode mi.2.1 pc = .ok (.lookupswitch dflt ps, len)) (hs : (ps.toList.zip (ps.toList.drop 1)).all (fun (a, next) => a.1 < next.1) = true) (ho : Op.lookupswitch.offset ps.toList dflt a = off) (ht : (pc : Int) + off = (pc' : Int)) (k : T E mi d n0 nc ns Q pc' L st S M cells slots) : T E mi d n0 nc ns Q pc L ((0, a) :: st) S M cells slots := by
  intro ad0 ad p e s m args below meth c H A locs ls C hH oL oS hL ha hn
  have o2 := ok_cons.mp oS
  exact lv_lookup C.1 C.2.1 hd hs (by rw [i32_tr o2.1]; exact ho) ht (k ad0 ad p e s m args below meth c H A locs ls C hH oL o2.2 hL ha hn)
theorem T_tableOut {dflt lo hi : Int} {offs : Array Int} {len : Nat} {a : Int} (hd : decode mi.2.1 pc = .ok (.tableswitch dflt lo hi offs, len)) (h : a < lo ∨ hi < a) (ht : (pc : Int) + dflt = (pc' : Int)) (k : T E mi d n0 nc ns Q pc' L st S M cells slots) : T E mi d n0 nc ns Q pc L ((0, a) :: st) S M cells slots := by
  intro ad0 ad p e s m args below meth c H A locs ls C hH oL oS hL ha hn
  have o2 := ok_cons.mp oS
  exact lv_tableOut C.1 C.2.1 hd (by rw [i32_tr o2.1]; exact h) ht (k ad0 ad p e s m args below meth c H A locs ls C hH oL o2.2 hL ha hn)
theorem T_tableIn {dflt lo hi : Int} {offs : Array Int} {len : Nat} {a off : Int} (hd : decode mi.2.1 pc = .ok (.tableswitch dflt lo hi offs, len)) (h1 : ¬ a < lo) (h2 : ¬ hi < a) (ho : offs[(a - lo).toNat]? = some off) (ht : (pc : Int) + off = (pc' : Int)) (k : T E mi d n0 nc ns Q pc' L st S M cells slots) : T E mi d n0 nc ns Q pc L ((0, a) :: st) S M cells slots := by
  intro ad0 ad p e s m args below meth c H A locs ls C hH oL oS hL ha hn
  have o2 := ok_cons.mp oS
  exact lv_tableIn C.1 C.2.1 hd (by rw [i32_tr o2.1]; exact h1) (by rw [i32_tr o2.1]; exact h2) (by rw [i32_tr o2.1]; exact ho) ht (k ad0 ad p e s m args below meth c H A locs ls C hH oL o2.2 hL ha hn)
end INSTR
