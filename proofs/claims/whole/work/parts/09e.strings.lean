/-! the String constants: length() and charAt(k), by the JDK's own code -/
def slen (i : Nat) : Int := ((lenS.getD i 0 : Nat) : Int)
def sch (i : Nat) (j : Int) : Int := ((bytS.getD i []).getD j.toNat 0).toInt
theorem str_ok : ∀ i, i < 15 → lenS.getD i 0 = (bytS.getD i []).length ∧ lenS.getD i 0 < 1000 ∧ ∀ b ∈ bytS.getD i [], 0 ≤ b.toInt ∧ b.toInt < 128 := by decide +kernel
theorem slen_r {i : Nat} (hi : i < 15) : 0 ≤ slen i ∧ slen i < 1000 := by
  have := (str_ok i hi).2.1
  unfold slen
  omega
theorem sch_r {i : Nat} {j : Int} (hi : i < 15) (h0 : 0 ≤ j) (h1 : j < slen i) : 0 ≤ sch i j ∧ sch i j < 128 := by
  obtain ⟨a, b, c⟩ := str_ok i hi
  unfold slen at h1
  have hj : j.toNat < (bytS.getD i []).length := by omega
  have e : (bytS.getD i []).getD j.toNat 0 = (bytS.getD i [])[j.toNat] := by
    rw [List.getD_eq_getElem?_getD, List.getElem?_eq_getElem hj]; rfl
  unfold sch
  rw [e]
  exact c _ (List.getElem_mem hj)
theorem m_shr_0 {a : Int} (h : r32 a) : m_shr a 0 = a := by
  unfold m_shr
  have e : (Int32.ofInt 0 &&& 31) = 0 := by decide
  rw [e]
  have : Int32.ofInt a >>> (0 : Int32) = Int32.ofInt a := by
    apply Int32.toInt_inj.mp
    rw [pk_shr (Int32.ofInt a) 0 0 (by decide)]
    simp
  rw [this, i32_tr h]
section STR
variable {E : EV} {mi mi2 : MI} {d d2 n0 nc ns nc2 ns2 : Nat} {Q Q2 : Option MV → List Sh → Mem → Prop} {pc pc' : Nat} {L st st0 av : List MV} {S : List Sh} {M : Mem} {cells slots : Nat}
theorem T_gsC {own : String} {idx : Nat} (hd : decode mi.2.1 pc = .ok (.getstatic idx, 3)) (ho : mi.1.cls = own) (hlink : Cond.fieldLink own idx "java/lang/String" "COMPACT_STRINGS" "Z" ∈ lw_ok) (hp : pc + 3 = pc') (k : T E mi d n0 nc ns Q pc' L ((0, 1) :: st) S M cells slots) : T E mi d n0 nc ns Q pc L st S M cells slots := by
  subst hp
  intro ad0 ad p e s m args below meth c H A locs ls C hH oL oS hL ha hn
  exact va_gets C.1 C.2.1 hH.2.2.2.2.2.2.2.1.2.1 hH.2.2.2.1 (own := own) (by rw [← ho]; exact C.2.2.2.2.1) (C.2.2.2.2.2.1 _ hlink) (fun _ h => h) hd (k ad0 ad p e s m args below meth c H A locs ls C hH oL (ok_cons.mpr ⟨(by decide : r32 1), oS⟩) hL ha hn)
theorem T_gsF {own : String} {idx : Nat} (hd : decode mi.2.1 pc = .ok (.getstatic idx, 3)) (ho : mi.1.cls = own) (hlink : Cond.fieldLink own idx R_prec "SIOOBE_FORMATTER" "Ljava/util/function/BiFunction;" ∈ lw_ok) (hp : pc + 3 = pc') (k : T E mi d n0 nc ns Q pc' L ((3, 0) :: st) S M cells slots) (k2 : T E mi d n0 nc ns Q pc' L ((2, 1200) :: st) S M cells slots) : T E mi d n0 nc ns Q pc L st S M cells slots := by
  subst hp
  intro ad0 ad p e s m args below meth c H A locs ls C hH oL oS hL ha hn
  rcases hH.2.2.2.2.2.2.2.1.2.2 with hz | hz
  · exact va_gets C.1 C.2.1 hz hH.2.2.2.1 (own := own) (by rw [← ho]; exact C.2.2.2.2.1) (C.2.2.2.2.2.1 _ hlink) (fun _ h => h) hd (k ad0 ad p e s m args below meth c H A locs ls C hH oL (ok_cons.mpr ⟨trivial, oS⟩) hL ha hn)
  · exact va_gets C.1 C.2.1 hz hH.2.2.2.1 (own := own) (by rw [← ho]; exact C.2.2.2.2.1) (C.2.2.2.2.2.1 _ hlink) (fun _ h => h) hd (k2 ad0 ad p e s m args below meth c H A locs ls C hH oL (ok_cons.mpr ⟨⟨by decide, Or.inr (by decide)⟩, oS⟩) hL ha hn)
theorem T_sval {own : String} {idx i : Nat} {x y : Int} (hd : decode mi.2.1 pc = .ok (.getfield idx, 3)) (ho : mi.1.cls = own) (hlink : Cond.fieldLink own idx "java/lang/String" "value" "[B" ∈ lw_ok) (hi : i < 15) (hx : x.toNat = 1000 + i) (hy : y = ((1100 + i : Nat) : Int)) (hp : pc + 3 = pc') (k : T E mi d n0 nc ns Q pc' L ((2, y) :: st) S M cells slots) : T E mi d n0 nc ns Q pc L ((2, x) :: st) S M cells slots := by
  subst hp; subst hy
  intro ad0 ad p e s m args below meth c H A locs ls C hH oL oS hL ha hn
  have o2 := ok_cons.mp oS
  have hE := (hH.2.2.2.2.2.2.2.1.1.1 i hi).2.2.1
  have k := k ad0 ad p e s m args below meth c H A locs ls C hH oL (ok_cons.mpr ⟨⟨by omega, Or.inr (by omega)⟩, o2.2⟩) hL ha hn
  have e1 : rv ad (2, x) = .ref (ad (1000 + i)) := by show Value.ref _ = _; rw [hx]
  have e2 : rv ad (2, ((1100 + i : Nat) : Int)) = .ref (ad (1100 + i)) := rfl
  rw [List.map_cons, e2] at k
  rw [List.map_cons, e1]
  exact vk_getf C.1 C.2.1 hE hH.2.2.2.1 (own := own) (by rw [← ho]; exact C.2.2.2.2.1) (C.2.2.2.2.2.1 _ hlink) (fun _ h => h) hd k
theorem T_scod {own : String} {idx i : Nat} {x : Int} (hd : decode mi.2.1 pc = .ok (.getfield idx, 3)) (ho : mi.1.cls = own) (hlink : Cond.fieldLink own idx "java/lang/String" "coder" "B" ∈ lw_ok) (hi : i < 15) (hx : x.toNat = 1000 + i) (hp : pc + 3 = pc') (k : T E mi d n0 nc ns Q pc' L ((0, 0) :: st) S M cells slots) : T E mi d n0 nc ns Q pc L ((2, x) :: st) S M cells slots := by
  subst hp
  intro ad0 ad p e s m args below meth c H A locs ls C hH oL oS hL ha hn
  have o2 := ok_cons.mp oS
  have hE := (hH.2.2.2.2.2.2.2.1.1.1 i hi).2.1
  have k := k ad0 ad p e s m args below meth c H A locs ls C hH oL (ok_cons.mpr ⟨(by decide : r32 0), o2.2⟩) hL ha hn
  have e1 : rv ad (2, x) = .ref (ad (1000 + i)) := by show Value.ref _ = _; rw [hx]
  rw [List.map_cons, e1]
  exact vk_getf C.1 C.2.1 hE hH.2.2.2.1 (own := own) (by rw [← ho]; exact C.2.2.2.2.1) (C.2.2.2.2.2.1 _ hlink) (fun _ h => h) hd k
theorem T_salen {i : Nat} {x : Int} (hd : decode mi.2.1 pc = .ok (.arraylength, 1)) (hi : i < 15) (hx : x.toNat = 1100 + i) (hp : pc + 1 = pc') (k : T E mi d n0 nc ns Q pc' L ((0, slen i) :: st) S M cells slots) : T E mi d n0 nc ns Q pc L ((2, x) :: st) S M cells slots := by
  subst hp
  intro ad0 ad p e s m args below meth c H A locs ls C hH oL oS hL ha hn
  have o2 := ok_cons.mp oS
  have hr := slen_r hi
  have k := k ad0 ad p e s m args below meth c H A locs ls C hH oL (ok_cons.mpr ⟨(show r32 (slen i) by unfold r32; omega), o2.2⟩) hL ha hn
  obtain ⟨cell, h1, h2, h3, h4, h5, h6, h7⟩ := ((hH.2.2.2.2.2.2.2.1.1.1 i hi).2.2.2).kept hH.2.2.2.1.2.1
  have e1 : rv ad (2, x) = .ref (ad (1100 + i)) := by show Value.ref _ = _; rw [hx]
  rw [List.map_cons, e1]
  exact W.alen (n := Int32.ofInt (slen i)) C.1 C.2.1 h1 h2 h5 rfl rfl hd k
theorem T_sbald {i : Nat} {x j : Int} (hd : decode mi.2.1 pc = .ok (.baload, 1)) (hi : i < 15) (hx : x.toNat = 1100 + i) (h0 : 0 ≤ j) (hj : j < slen i) (hp : pc + 1 = pc') (k : T E mi d n0 nc ns Q pc' L ((0, sch i j) :: st) S M cells slots) : T E mi d n0 nc ns Q pc L ((0, j) :: (2, x) :: st) S M cells slots := by
  subst hp
  intro ad0 ad p e s m args below meth c H A locs ls C hH oL oS hL ha hn
  have o2 := ok_cons.mp oS
  have o3 := ok_cons.mp o2.2
  have hr := sch_r hi h0 hj
  have k := k ad0 ad p e s m args below meth c H A locs ls C hH oL (ok_cons.mpr ⟨(show r32 (sch i j) by unfold r32; omega), o3.2⟩) hL ha hn
  obtain ⟨cell, h1, h2, h3, h4, h5, h6, h7⟩ := ((hH.2.2.2.2.2.2.2.1.1.1 i hi).2.2.2).kept hH.2.2.2.1.2.1
  have e1 : rv ad (2, x) = .ref (ad (1100 + i)) := by show Value.ref _ = _; rw [hx]
  have hjn : j.toNat < lenS.getD i 0 := by unfold slen at hj; omega
  have hin := vp_in_i (n := cell.slots.size) o2.1 h0 (by unfold slen at hj; omega)
  have e2 : rv ad (0, sch i j) = .int ((bytS.getD i []).getD j.toNat 0) := by
    show Value.int (Int32.ofInt (sch i j)) = _
    unfold sch
    rw [Int32.ofInt_toInt]
  rw [List.map_cons, e2] at k
  rw [List.map_cons, List.map_cons, e1]
  exact W.bald C.1 C.2.1 h1 h2 h3 hin (by rw [cl_i o2.1]; exact h6 _ hjn) rfl rfl hd k
theorem T_nret {v : Int} {ty : FieldType} (hd : decode mi.2.1 pc = .ok (.ireturn, 1)) (hr : mi.2.2.2 = some ty) (hv : narrow ty (.int (Int32.ofInt v)) = .int (Int32.ofInt v)) (hq : Q (some (0, v)) S M) : T E mi d n0 cells slots Q pc L [(0, v)] S M cells slots := by
  intro ad0 ad p e s m args below meth c H A locs ls C0 hH oL oS hL ha hn
  exact W.zret C0.1 C0.2.1 (C0.2.2.2.1.trans hr) hv (fun t ht _ => T_ret (row := True) hq hH (fun w hw => by cases hw; exact (ok_cons.mp oS).1) ha hn ht) hH.2.2.2.1.2.2 hd C0.2.2.2.2.2.2.1
theorem T_callVs {own : String} {idx n i : Nat} {x : Int} (hd : decode mi.2.1 pc = .ok (.invokevirtual idx, 3)) (ho : mi.1.cls = own) (hm : Mt mi2 n) (hV : Cond.instanceMethod mi2.1 ∈ lw_ok ∧ Cond.selects mi2.1.cls mi2.1 mi2.1 ∈ lw_ok) (hlink : Cond.methodLink own idx mi2.1 ∈ lw_ok) (hcl : mi2.1.cls = "java/lang/String") (hi : i < 15) (hx : x.toNat = 1000 + i)
    (hst : st0 = av.reverse ++ (2, x) :: st) (hn : av.length = n) (hfit : (st.map (fun v => if v.1 = 1 then 2 else 1)).sum ≤ 8) (hd2 : d2 < d) (hcs : cells + nc2 ≤ nc ∧ slots + ns2 ≤ ns) (hp : pc + 3 = pc') (hC : Ct E mi2 d2 nc2 ns2 ((2, x) :: av) S M Q2)
    (kk : ∀ r S' M', Q2 r S' M' → S.length ≤ S'.length → T E mi d n0 nc ns Q pc' L (r.toList ++ st) S' M' (cells + nc2) (slots + ns2)) : T E mi d n0 nc ns Q pc L st0 S M cells slots := by
  subst hp; subst hst
  intro ad0 ad p e s m args below meth c H A locs ls C0 hH oL oS hL ha hn0
  have oS1 : ∀ v ∈ (2, x) :: av, okv S.length v := fun v hv => oS v (by rcases List.mem_cons.mp hv with rfl | hv <;> simp [*])
  have oS2 : ∀ v ∈ st, okv S.length v := fun v hv => oS v (by simp [hv])
  refine T_back C0 hH oL oS2 hL ha hn0 (va_runV (As := av.map (rv ad)) (b := ad x.toNat) ⟨C0.1, C0.2.1, C0.2.2.1, by rw [← ho]; exact C0.2.2.2.2.1, C0.2.2.2.2.2.1⟩ (hC ad H.size) ⟨cw_of C0 hm hlink hd2, C0.2.2.2.2.2.1 _ hV.1, C0.2.2.2.2.2.1 _ hV.2⟩
    ⟨Ps_blind, by rw [hcl, hx]; exact vk_recv (adK := fun k => ad (1000 + k)) (i := i) hH.2.2.2.2.2.2.2.1.1 hi hH.2.2.2.1, fun U hU hW => ⟨rfl, Ps_of hH oS1 hU hW⟩⟩ rfl (by simpa using hn) hL.1 (by simp [rv]) (lv_room (fit_of st ad hfit)) hd hcs) kk
end STR
set_option maxRecDepth 100000 in
theorem pcoder {E : EV} {S : List Sh} {M : Mem} {i : Nat} {x : Int} (hi : i < 15) (hx : x.toNat = 1000 + i) : Ct E miJ0_coder_7d493 1 0 0 [(2, x)] S M (fun r S' M' => S' = S ∧ r = some (0, 0) ∧ M' = M) := by
  refine Ct_of (L := [(2, x)]) (by decide +kernel) (Nat.le_of_ble_eq_true rfl) rfl ?_
  refine T_gsC (pc' := 3) dJ0_coder_7d493_0 rfl flJ0_38 rfl ?_
  refine T_if_eq (pc' := 13) dJ0_coder_7d493_3 (by decide) (pf := 6) rfl (fun c => absurd c (by decide)) (fun _ => ?_)
  refine T_aload_n (i := 0) (pc' := 7) dJ0_coder_7d493_6 rfl rfl rfl ?_
  refine T_scod (pc' := 10) dJ0_coder_7d493_7 rfl flJ0_15 hi hx rfl ?_
  refine T_goto (pc' := 14) dJ0_coder_7d493_10 (by decide) ?_
  exact T_nret dJ0_coder_7d493_14 rfl rfl ⟨rfl, rfl, rfl⟩
theorem platin {E : EV} {S : List Sh} {M : Mem} {i : Nat} {x : Int} (hi : i < 15) (hx : x.toNat = 1000 + i) : Ct E miJ0_isLatin1_aae02 1 0 0 [(2, x)] S M (fun r S' M' => S' = S ∧ r = some (0, 1) ∧ M' = M) := by
  refine Ct_of (L := [(2, x)]) (by decide +kernel) (Nat.le_of_ble_eq_true rfl) rfl ?_
  refine T_gsC (pc' := 3) dJ0_isLatin1_aae02_0 rfl flJ0_38 rfl ?_
  refine T_if_eq (pc' := 17) dJ0_isLatin1_aae02_3 (by decide) (pf := 6) rfl (fun c => absurd c (by decide)) (fun _ => ?_)
  refine T_aload_n (i := 0) (pc' := 7) dJ0_isLatin1_aae02_6 rfl rfl rfl ?_
  refine T_scod (pc' := 10) dJ0_isLatin1_aae02_7 rfl flJ0_15 hi hx rfl ?_
  refine T_if_ne (pc' := 17) dJ0_isLatin1_aae02_10 (by decide) (pf := 13) rfl (fun c => absurd rfl c) (fun _ => ?_)
  refine T_iconst (pc' := 14) dJ0_isLatin1_aae02_13 (by decide) rfl ?_
  refine T_goto (pc' := 18) dJ0_isLatin1_aae02_14 (by decide) ?_
  exact T_zret dJ0_isLatin1_aae02_18 rfl (by decide) ⟨rfl, rfl, rfl⟩
theorem plen {E : EV} {S : List Sh} {M : Mem} {i : Nat} {x : Int} (hi : i < 15) (hx : x.toNat = 1000 + i) : Ct E miJ0_length_8abf5 2 0 0 [(2, x)] S M (fun r S' M' => S' = S ∧ r = some (0, slen i) ∧ M' = M) := by
  have hr := slen_r hi
  refine Ct_of (L := [(2, x)]) (by decide +kernel) (Nat.le_of_ble_eq_true rfl) rfl ?_
  refine T_aload_n (i := 0) (pc' := 1) dJ0_length_8abf5_0 rfl rfl rfl ?_
  refine T_sval (y := ((1100 + i : Nat) : Int)) (pc' := 4) dJ0_length_8abf5_1 rfl flJ0_9 hi hx rfl rfl ?_
  refine T_salen (pc' := 5) dJ0_length_8abf5_4 hi (by omega) rfl ?_
  refine T_aload_n (i := 0) (pc' := 6) dJ0_length_8abf5_5 rfl rfl rfl ?_
  refine T_callVs (av := []) (st := [(0, slen i)]) (d2 := 1) (nc2 := 0) (ns2 := 0) (pc' := 9) dJ0_length_8abf5_6 rfl mtJ0_coder_7d493 mvJ0_coder_7d493 mlJ0_335 rfl hi hx rfl rfl (Nat.le_of_ble_eq_true rfl) (by decide) ⟨by decide, by decide⟩ rfl (pcoder hi hx) ?_
  rintro _ _ _ ⟨rfl, rfl, rfl⟩ _
  refine T_ishr (pc' := 10) dJ0_length_8abf5_9 rfl ?_
  rw [m_shr_0 (by unfold r32; omega)]
  exact T_iret dJ0_length_8abf5_10 rfl ⟨rfl, rfl, rfl⟩
theorem pprec {E : EV} {S : List Sh} {M : Mem} {j n : Int} {v : MV} (hv : v.1 ≠ 1) (h0 : 0 ≤ j) (h1 : j < n) : Ct E miJ3_checkIndex_8e157 1 0 0 [(0, j), (0, n), v] S M (fun r S' M' => S' = S ∧ r = some (0, j) ∧ M' = M) := by
  refine Ct_of (L := [(0, j), (0, n), v]) (by decide +kernel) (by simp [aL, hv, miJ3_checkIndex_8e157]) (by simp [aL, hv, miJ3_checkIndex_8e157]) ?_
  refine T_iload_n (i := 0) (pc' := 1) dJ3_checkIndex_8e157_0 rfl rfl rfl ?_
  refine T_if_lt (pc' := 9) dJ3_checkIndex_8e157_1 (by decide) (pf := 4) rfl (fun c => absurd c (by omega)) (fun _ => ?_)
  refine T_iload_n (i := 0) (pc' := 5) dJ3_checkIndex_8e157_4 rfl rfl rfl ?_
  refine T_iload_n (i := 1) (pc' := 6) dJ3_checkIndex_8e157_5 rfl rfl rfl ?_
  refine T_icmp_lt (pc' := 16) dJ3_checkIndex_8e157_6 (by decide) (pf := 9) rfl (fun _ => ?_) (fun c => absurd h1 c)
  refine T_iload_n (i := 0) (pc' := 17) dJ3_checkIndex_8e157_16 rfl rfl rfl ?_
  exact T_iret dJ3_checkIndex_8e157_17 rfl ⟨rfl, rfl, rfl⟩
theorem pcheck {E : EV} {S : List Sh} {M : Mem} {j n : Int} (h0 : 0 ≤ j) (h1 : j < n) : Ct E miJ0_checkIndex_df160 2 0 0 [(0, j), (0, n)] S M (fun r S' M' => S' = S ∧ r = none ∧ M' = M) := by
  refine Ct_of (L := [(0, j), (0, n)]) (by decide +kernel) (Nat.le_of_ble_eq_true rfl) rfl ?_
  refine T_iload_n (i := 0) (pc' := 1) dJ0_checkIndex_df160_0 rfl rfl rfl ?_
  refine T_iload_n (i := 1) (pc' := 2) dJ0_checkIndex_df160_1 rfl rfl rfl ?_
  have go : ∀ v : MV, v.1 ≠ 1 → T E miJ0_checkIndex_df160 2 S.length 0 0 (fun r S' M' => S' = S ∧ r = none ∧ M' = M) 5 [(0, j), (0, n)] [v, (0, n), (0, j)] S M 0 0 := by
    intro v hv
    refine T_callS (av := [(0, j), (0, n), v]) (st := []) (d2 := 1) (nc2 := 0) (ns2 := 0) (pc' := 8) dJ0_checkIndex_df160_5 rfl mtJ3_checkIndex_8e157 mvJ3_checkIndex_8e157 mlJ0_1059 rfl rfl (Nat.le_of_ble_eq_true rfl) (by decide) ⟨by decide, by decide⟩ rfl (pprec hv h0 h1) ?_
    rintro _ _ _ ⟨rfl, rfl, rfl⟩ _
    refine T_pop (pc' := 9) dJ0_checkIndex_df160_8 (Nat.ne_of_beq_eq_false rfl) rfl ?_
    exact T_vret dJ0_checkIndex_df160_9 rfl ⟨rfl, rfl, rfl⟩
  exact T_gsF (pc' := 5) dJ0_checkIndex_df160_2 rfl flJ0_1053 rfl (go _ (by decide)) (go _ (by decide))
theorem m_ch : ∀ k : Nat, k < 128 → m_i2c (m_and (k : Nat) 255) = (k : Nat) ∧ narrow .char (.int (Int32.ofInt (k : Nat))) = .int (Int32.ofInt (k : Nat)) := by decide +kernel
theorem pl1 {E : EV} {S : List Sh} {M : Mem} {i : Nat} {x j : Int} (hi : i < 15) (hx : x.toNat = 1100 + i) (h0 : 0 ≤ j) (h1 : j < slen i) : Ct E miJ1_charAt_3b067 3 0 0 [(2, x), (0, j)] S M (fun r S' M' => S' = S ∧ r = some (0, sch i j) ∧ M' = M) := by
  obtain ⟨q0, q1⟩ := sch_r hi h0 h1
  obtain ⟨e1, e2⟩ := m_ch (sch i j).toNat (by omega)
  rw [Int.toNat_of_nonneg q0] at e1 e2
  refine Ct_of (L := [(2, x), (0, j)]) (by decide +kernel) (Nat.le_of_ble_eq_true rfl) rfl ?_
  refine T_iload_n (i := 1) (pc' := 1) dJ1_charAt_3b067_0 rfl rfl rfl ?_
  refine T_aload_n (i := 0) (pc' := 2) dJ1_charAt_3b067_1 rfl rfl rfl ?_
  refine T_salen (pc' := 3) dJ1_charAt_3b067_2 hi hx rfl ?_
  refine T_callS (av := [(0, j), (0, slen i)]) (st := []) (d2 := 2) (nc2 := 0) (ns2 := 0) (pc' := 6) dJ1_charAt_3b067_3 rfl mtJ0_checkIndex_df160 mvJ0_checkIndex_df160 mlJ1_9 rfl rfl (Nat.le_of_ble_eq_true rfl) (by decide) ⟨by decide, by decide⟩ rfl (pcheck h0 h1) ?_
  rintro _ _ _ ⟨rfl, rfl, rfl⟩ _
  refine T_aload_n (i := 0) (pc' := 7) dJ1_charAt_3b067_6 rfl rfl rfl ?_
  refine T_iload_n (i := 1) (pc' := 8) dJ1_charAt_3b067_7 rfl rfl rfl ?_
  refine T_sbald (pc' := 9) dJ1_charAt_3b067_8 hi hx h0 h1 rfl ?_
  refine T_sipush (pc' := 12) dJ1_charAt_3b067_9 (n := 255) rfl (by decide) rfl ?_
  refine T_iand (pc' := 13) dJ1_charAt_3b067_12 rfl ?_
  refine T_i2c (pc' := 14) dJ1_charAt_3b067_13 rfl ?_
  rw [e1]
  exact T_nret dJ1_charAt_3b067_14 rfl e2 ⟨rfl, rfl, rfl⟩
theorem pchar {E : EV} {S : List Sh} {M : Mem} {i : Nat} {x j : Int} (hi : i < 15) (hx : x.toNat = 1000 + i) (h0 : 0 ≤ j) (h1 : j < slen i) : Ct E miJ0_charAt_5068e 4 0 0 [(2, x), (0, j)] S M (fun r S' M' => S' = S ∧ r = some (0, sch i j) ∧ M' = M) := by
  obtain ⟨q0, q1⟩ := sch_r hi h0 h1
  obtain ⟨e1, e2⟩ := m_ch (sch i j).toNat (by omega)
  rw [Int.toNat_of_nonneg q0] at e1 e2
  refine Ct_of (L := [(2, x), (0, j)]) (by decide +kernel) (Nat.le_of_ble_eq_true rfl) rfl ?_
  refine T_aload_n (i := 0) (pc' := 1) dJ0_charAt_5068e_0 rfl rfl rfl ?_
  refine T_callVs (av := []) (st := []) (d2 := 1) (nc2 := 0) (ns2 := 0) (pc' := 4) dJ0_charAt_5068e_1 rfl mtJ0_isLatin1_aae02 mvJ0_isLatin1_aae02 mlJ0_492 rfl hi hx rfl rfl (Nat.le_of_ble_eq_true rfl) (by decide) ⟨by decide, by decide⟩ rfl (platin hi hx) ?_
  rintro _ _ _ ⟨rfl, rfl, rfl⟩ _
  refine T_if_eq (pc' := 16) dJ0_charAt_5068e_4 (by decide) (pf := 7) rfl (fun c => absurd c (by decide)) (fun _ => ?_)
  refine T_aload_n (i := 0) (pc' := 8) dJ0_charAt_5068e_7 rfl rfl rfl ?_
  refine T_sval (y := ((1100 + i : Nat) : Int)) (pc' := 11) dJ0_charAt_5068e_8 rfl flJ0_9 hi hx rfl rfl ?_
  refine T_iload_n (i := 1) (pc' := 12) dJ0_charAt_5068e_11 rfl rfl rfl ?_
  refine T_callS (av := [(2, ((1100 + i : Nat) : Int)), (0, j)]) (st := []) (d2 := 3) (nc2 := 0) (ns2 := 0) (pc' := 15) dJ0_charAt_5068e_12 rfl mtJ1_charAt_3b067 mvJ1_charAt_3b067 mlJ0_495 rfl rfl (Nat.le_of_ble_eq_true rfl) (by decide) ⟨by decide, by decide⟩ rfl (pl1 hi (by omega) h0 h1) ?_
  rintro _ _ _ ⟨rfl, rfl, rfl⟩ _
  exact T_nret dJ0_charAt_5068e_15 rfl e2 ⟨rfl, rfl, rfl⟩
