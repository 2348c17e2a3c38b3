/-! arrays, ends, calls -/
theorem vp_in_i {i : Int} {n : Nat} (hr : r32 i) (h0 : 0 ≤ i) (h1 : i < (n : Nat)) : vp_in (Int32.ofInt i) n := by
  rw [vp_in_iff, i32_tr hr]
  exact ⟨h0, h1⟩
theorem cl_i {i : Int} (hr : r32 i) : (Int32.ofInt i).toNatClampNeg = i.toNat := by
  show (Int32.ofInt i).toInt.toNat = _
  rw [i32_tr hr]
theorem cell_a {ad : Nat → Nat} {cA : Nat → ClassId} {et n : Nat} {f : Int → Int} (h : et ≠ 1) : cellE ad cA (0, et, n) f = .inl (cA et, n, .inl (fun j => Int32.ofInt (f (j : Nat)))) := by
  simp [cellE, h]
theorem cell_l {ad : Nat → Nat} {cA : Nat → ClassId} {n : Nat} {f : Int → Int} : cellE ad cA (0, 1, n) f = .inl (cA 1, n, .inr (.inl (fun j => Int64.ofInt (f (j : Nat))))) := rfl
theorem upd_i (f : Int → Int) (k : Nat) (y : Int) : upd (fun j => Int32.ofInt (f (j : Nat))) k (Int32.ofInt y) = fun j => Int32.ofInt ((fun q : Int => if q = (k : Nat) then y else f q) (j : Nat)) := by
  funext j
  unfold upd
  by_cases h : j = k
  · subst h; simp
  · have : ¬ ((j : Nat) : Int) = (k : Nat) := fun z => h (by omega)
    simp [h, this]
theorem upd_l (f : Int → Int) (k : Nat) (y : Int) : vp_updL (fun j => Int64.ofInt (f (j : Nat))) k (Int64.ofInt y) = fun j => Int64.ofInt ((fun q : Int => if q = (k : Nat) then y else f q) (j : Nat)) := by
  funext j
  unfold vp_updL
  by_cases h : j = k
  · subst h; simp
  · have : ¬ ((j : Nat) : Int) = (k : Nat) := fun z => h (by omega)
    simp [h, this]
theorem nar_z {y : Int} (h : 0 ≤ y ∧ y ≤ 1) : vp_nar .boolean (Int32.ofInt y) = Int32.ofInt y := by
  have : y = 0 ∨ y = 1 := by omega
  rcases this with rfl | rfl <;> rfl
theorem nar_c {y : Int} (h : 0 ≤ y ∧ y < 65536) : vp_nar .char (Int32.ofInt y) = Int32.ofInt y := by
  obtain ⟨n, rfl⟩ := Int.eq_ofNat_of_zero_le h.1
  have h2 : n < 65536 := by omega
  have := (pk_charN h2).1
  have e : Int32.ofInt (n : Int) = nI n := rfl
  rw [e]
  unfold vp_nar
  rw [this]
section ARR
variable {E : EV} {mi : MI} {d n0 nc ns : Nat} {Q : Option MV → List Sh → Mem → Prop} {pc pc' : Nat} {L L' st : List MV} {S : List Sh} {M : Mem} {cells slots : Nat}
theorem T_iald {i x : Int} {n : Nat} (hd : decode mi.2.1 pc = .ok (.iaload, 1)) (hx : 0 ≤ x) (hS : S[x.toNat]? = some (0, 0, n)) (h0 : 0 ≤ i) (h1 : i < (n : Nat)) (hp : pc + 1 = pc') (kk : T E mi d n0 nc ns Q pc' L ((0, M x i) :: st) S M cells slots) : T E mi d n0 nc ns Q pc L ((0, i) :: (2, x) :: st) S M cells slots := by
  subst hp
  intro ad0 ad p e s m args below meth c H A locs ls C0 hH oL oS hL ha hn
  have o2 := ok_cons.mp oS
  have o3 := ok_cons.mp o2.2
  have hxx : ((x.toNat : Nat) : Int) = x := Int.toNat_of_nonneg hx
  have hii : ((i.toNat : Nat) : Int) = i := Int.toNat_of_nonneg h0
  have hok := hH.2.2.2.2.1 _ _ hS i.toNat
  rw [hxx, hii] at hok
  have g1 := wo_get (ad := ad) (cA := E.2.2) (M := M) hS
  rw [hxx, cell_a (by decide)] at g1
  refine va_iald C0.1 C0.2.1 hH.2.2.1 hH.1 x.toNat 0 g1 (by rfl) (vp_in_i o2.1 h0 h1) hd ?_
  rw [cl_i o2.1]
  rw [hii]
  exact kk ad0 ad p e s m args below meth c H A locs ls C0 hH oL (ok_cons.mpr ⟨hok, o3.2⟩) hL ha hn
theorem T_zald {i x : Int} {n : Nat} (hd : decode mi.2.1 pc = .ok (.baload, 1)) (hx : 0 ≤ x) (hS : S[x.toNat]? = some (0, 3, n)) (h0 : 0 ≤ i) (h1 : i < (n : Nat)) (hp : pc + 1 = pc') (kk : T E mi d n0 nc ns Q pc' L ((0, M x i) :: st) S M cells slots) : T E mi d n0 nc ns Q pc L ((0, i) :: (2, x) :: st) S M cells slots := by
  subst hp
  intro ad0 ad p e s m args below meth c H A locs ls C0 hH oL oS hL ha hn
  have o2 := ok_cons.mp oS
  have o3 := ok_cons.mp o2.2
  have hxx : ((x.toNat : Nat) : Int) = x := Int.toNat_of_nonneg hx
  have hii : ((i.toNat : Nat) : Int) = i := Int.toNat_of_nonneg h0
  have hok := hH.2.2.2.2.1 _ _ hS i.toNat
  rw [hxx, hii] at hok
  have g1 := wo_get (ad := ad) (cA := E.2.2) (M := M) hS
  rw [hxx, cell_a (by decide)] at g1
  refine va_zald C0.1 C0.2.1 hH.2.2.1 hH.1 x.toNat 2 g1 (by rfl) (vp_in_i o2.1 h0 h1) hd ?_
  rw [cl_i o2.1]
  rw [hii]
  exact kk ad0 ad p e s m args below meth c H A locs ls C0 hH oL (ok_cons.mpr ⟨(show r32 (M x i) by have h : 0 ≤ M x i ∧ M x i ≤ 1 := hok; unfold r32; omega), o3.2⟩) hL ha hn
theorem T_cald {i x : Int} {n : Nat} (hd : decode mi.2.1 pc = .ok (.caload, 1)) (hx : 0 ≤ x) (hS : S[x.toNat]? = some (0, 4, n)) (h0 : 0 ≤ i) (h1 : i < (n : Nat)) (hp : pc + 1 = pc') (kk : T E mi d n0 nc ns Q pc' L ((0, M x i) :: st) S M cells slots) : T E mi d n0 nc ns Q pc L ((0, i) :: (2, x) :: st) S M cells slots := by
  subst hp
  intro ad0 ad p e s m args below meth c H A locs ls C0 hH oL oS hL ha hn
  have o2 := ok_cons.mp oS
  have o3 := ok_cons.mp o2.2
  have hxx : ((x.toNat : Nat) : Int) = x := Int.toNat_of_nonneg hx
  have hii : ((i.toNat : Nat) : Int) = i := Int.toNat_of_nonneg h0
  have hok := hH.2.2.2.2.1 _ _ hS i.toNat
  rw [hxx, hii] at hok
  have g1 := wo_get (ad := ad) (cA := E.2.2) (M := M) hS
  rw [hxx, cell_a (by decide)] at g1
  refine va_cald C0.1 C0.2.1 hH.2.2.1 hH.1 x.toNat 3 g1 (by rfl) (vp_in_i o2.1 h0 h1) hd ?_
  rw [cl_i o2.1]
  rw [hii]
  exact kk ad0 ad p e s m args below meth c H A locs ls C0 hH oL (ok_cons.mpr ⟨(show r32 (M x i) by have h : 0 ≤ M x i ∧ M x i < 65536 := hok; unfold r32; omega), o3.2⟩) hL ha hn
theorem T_lald {i x : Int} {n : Nat} (hd : decode mi.2.1 pc = .ok (.laload, 1)) (hx : 0 ≤ x) (hS : S[x.toNat]? = some (0, 1, n)) (h0 : 0 ≤ i) (h1 : i < (n : Nat)) (hp : pc + 1 = pc') (kk : T E mi d n0 nc ns Q pc' L ((1, M x i) :: st) S M cells slots) : T E mi d n0 nc ns Q pc L ((0, i) :: (2, x) :: st) S M cells slots := by
  subst hp
  intro ad0 ad p e s m args below meth c H A locs ls C0 hH oL oS hL ha hn
  have o2 := ok_cons.mp oS
  have o3 := ok_cons.mp o2.2
  have hxx : ((x.toNat : Nat) : Int) = x := Int.toNat_of_nonneg hx
  have hii : ((i.toNat : Nat) : Int) = i := Int.toNat_of_nonneg h0
  have hok := hH.2.2.2.2.1 _ _ hS i.toNat
  rw [hxx, hii] at hok
  have g1 := wo_get (ad := ad) (cA := E.2.2) (M := M) hS
  rw [hxx, cell_l] at g1
  refine va_lald C0.1 C0.2.1 hH.2.2.1 hH.1 x.toNat 1 g1 (by rfl) (vp_in_i o2.1 h0 h1) hd ?_
  rw [cl_i o2.1]
  rw [hii]
  exact kk ad0 ad p e s m args below meth c H A locs ls C0 hH oL (ok_cons.mpr ⟨hok, o3.2⟩) hL ha hn
theorem T_iast {i x y : Int} {n : Nat} (hd : decode mi.2.1 pc = .ok (.iastore, 1)) (hx : 0 ≤ x) (hS : S[x.toNat]? = some (0, 0, n)) (h0 : 0 ≤ i) (h1 : i < (n : Nat)) (hp : pc + 1 = pc') (kk : T E mi d n0 nc ns Q pc' L st S (mset M x i y) cells slots) : T E mi d n0 nc ns Q pc L ((0, y) :: (0, i) :: (2, x) :: st) S M cells slots := by
  subst hp
  intro ad0 ad p e s m args below meth c H A locs ls C0 hH oL oS hL ha hn
  have o2 := ok_cons.mp oS
  have o3 := ok_cons.mp o2.2
  have o4 := ok_cons.mp o3.2
  have hxx : ((x.toNat : Nat) : Int) = x := Int.toNat_of_nonneg hx
  have hii : ((i.toNat : Nat) : Int) = i := Int.toNat_of_nonneg h0
  have g1 := wo_get (ad := ad) (cA := E.2.2) (M := M) hS
  rw [hxx, cell_a (by decide)] at g1
  refine va_iast C0.1 C0.2.1 hH.2.2.1 hH.1 hH.2.1 hH.2.2.2.1 x.toNat 0 g1 (by rfl) (vp_in_i o3.1 h0 h1) hd (fun H1 locs1 q1 q2 q3 => ?_)
  rw [cl_i o3.1, upd_i] at q1 q2
  have hH' := Hd_set hH (k := i.toNat) (x := y) hS o2.1 (by rw [cell_a (by decide), mset_self, hxx]) q1 q2 q3
  rw [hxx, hii] at hH'
  exact kk ad0 ad p e s m args below meth c H1 A locs1 ls C0 hH' oL o4.2 hL ha hn
theorem T_zast {i x y : Int} {n : Nat} (hd : decode mi.2.1 pc = .ok (.bastore, 1)) (hx : 0 ≤ x) (hS : S[x.toNat]? = some (0, 3, n)) (h0 : 0 ≤ i) (h1 : i < (n : Nat)) (hy : 0 ≤ y ∧ y ≤ 1) (hp : pc + 1 = pc') (kk : T E mi d n0 nc ns Q pc' L st S (mset M x i y) cells slots) : T E mi d n0 nc ns Q pc L ((0, y) :: (0, i) :: (2, x) :: st) S M cells slots := by
  subst hp
  intro ad0 ad p e s m args below meth c H A locs ls C0 hH oL oS hL ha hn
  have o2 := ok_cons.mp oS
  have o3 := ok_cons.mp o2.2
  have o4 := ok_cons.mp o3.2
  have hxx : ((x.toNat : Nat) : Int) = x := Int.toNat_of_nonneg hx
  have hii : ((i.toNat : Nat) : Int) = i := Int.toNat_of_nonneg h0
  have g1 := wo_get (ad := ad) (cA := E.2.2) (M := M) hS
  rw [hxx, cell_a (by decide)] at g1
  refine va_zast C0.1 C0.2.1 hH.2.2.1 hH.1 hH.2.1 hH.2.2.2.1 x.toNat 2 g1 (by rfl) (vp_in_i o3.1 h0 h1) hd (fun H1 locs1 q1 q2 q3 => ?_)
  rw [nar_z hy] at q1 q2
  rw [cl_i o3.1, upd_i] at q1 q2
  have hH' := Hd_set hH (k := i.toNat) (x := y) hS hy (by rw [cell_a (by decide), mset_self, hxx]) q1 q2 q3
  rw [hxx, hii] at hH'
  exact kk ad0 ad p e s m args below meth c H1 A locs1 ls C0 hH' oL o4.2 hL ha hn
theorem T_cast {i x y : Int} {n : Nat} (hd : decode mi.2.1 pc = .ok (.castore, 1)) (hx : 0 ≤ x) (hS : S[x.toNat]? = some (0, 4, n)) (h0 : 0 ≤ i) (h1 : i < (n : Nat)) (hy : 0 ≤ y ∧ y < 65536) (hp : pc + 1 = pc') (kk : T E mi d n0 nc ns Q pc' L st S (mset M x i y) cells slots) : T E mi d n0 nc ns Q pc L ((0, y) :: (0, i) :: (2, x) :: st) S M cells slots := by
  subst hp
  intro ad0 ad p e s m args below meth c H A locs ls C0 hH oL oS hL ha hn
  have o2 := ok_cons.mp oS
  have o3 := ok_cons.mp o2.2
  have o4 := ok_cons.mp o3.2
  have hxx : ((x.toNat : Nat) : Int) = x := Int.toNat_of_nonneg hx
  have hii : ((i.toNat : Nat) : Int) = i := Int.toNat_of_nonneg h0
  have g1 := wo_get (ad := ad) (cA := E.2.2) (M := M) hS
  rw [hxx, cell_a (by decide)] at g1
  refine va_cast C0.1 C0.2.1 hH.2.2.1 hH.1 hH.2.1 hH.2.2.2.1 x.toNat 3 g1 (by rfl) (vp_in_i o3.1 h0 h1) hd (fun H1 locs1 q1 q2 q3 => ?_)
  rw [nar_c hy] at q1 q2
  rw [cl_i o3.1, upd_i] at q1 q2
  have hH' := Hd_set hH (k := i.toNat) (x := y) hS hy (by rw [cell_a (by decide), mset_self, hxx]) q1 q2 q3
  rw [hxx, hii] at hH'
  exact kk ad0 ad p e s m args below meth c H1 A locs1 ls C0 hH' oL o4.2 hL ha hn
theorem T_last {i x y : Int} {n : Nat} (hd : decode mi.2.1 pc = .ok (.lastore, 1)) (hx : 0 ≤ x) (hS : S[x.toNat]? = some (0, 1, n)) (h0 : 0 ≤ i) (h1 : i < (n : Nat)) (hp : pc + 1 = pc') (kk : T E mi d n0 nc ns Q pc' L st S (mset M x i y) cells slots) : T E mi d n0 nc ns Q pc L ((1, y) :: (0, i) :: (2, x) :: st) S M cells slots := by
  subst hp
  intro ad0 ad p e s m args below meth c H A locs ls C0 hH oL oS hL ha hn
  have o2 := ok_cons.mp oS
  have o3 := ok_cons.mp o2.2
  have o4 := ok_cons.mp o3.2
  have hxx : ((x.toNat : Nat) : Int) = x := Int.toNat_of_nonneg hx
  have hii : ((i.toNat : Nat) : Int) = i := Int.toNat_of_nonneg h0
  have g1 := wo_get (ad := ad) (cA := E.2.2) (M := M) hS
  rw [hxx, cell_l] at g1
  refine va_last C0.1 C0.2.1 hH.2.2.1 hH.1 hH.2.1 hH.2.2.2.1 x.toNat 1 g1 (by rfl) (vp_in_i o3.1 h0 h1) hd (fun H1 locs1 q1 q2 q3 => ?_)
  rw [cl_i o3.1, upd_l] at q1 q2
  have hH' := Hd_set hH (k := i.toNat) (x := y) hS o2.1 (by rw [cell_l, mset_self, hxx]) q1 q2 q3
  rw [hxx, hii] at hH'
  exact kk ad0 ad p e s m args below meth c H1 A locs1 ls C0 hH' oL o4.2 hL ha hn
theorem T_alen {x : Int} {et n : Nat} (hd : decode mi.2.1 pc = .ok (.arraylength, 1)) (het : et = 0 ∨ et = 1 ∨ et = 3 ∨ et = 4) (hn : n < 2147483648) (hS : S[x.toNat]? = some (0, et, n)) (hp : pc + 1 = pc') (kk : T E mi d n0 nc ns Q pc' L ((0, (n : Nat)) :: st) S M cells slots) : T E mi d n0 nc ns Q pc L ((2, x) :: st) S M cells slots := by
  subst hp
  intro ad0 ad p e s m args below meth c H A locs ls C0 hH oL oS hL ha hn0
  have o2 := ok_cons.mp oS
  have h1 := wo_get (ad := ad) (cA := E.2.2) (M := M) hS
  have k := kk ad0 ad p e s m args below meth c H A locs ls C0 hH oL (ok_cons.mpr ⟨(show r32 ((n : Nat) : Int) by unfold r32; omega), o2.2⟩) hL ha hn0
  rcases het with rfl | rfl | rfl | rfl
  · rw [cell_a (by decide)] at h1
    exact va_alen C0.1 C0.2.1 hH.2.2.1 hH.1 x.toNat 0 h1 (by rfl) rfl hd k
  · rw [cell_l] at h1
    exact va_alen C0.1 C0.2.1 hH.2.2.1 hH.1 x.toNat 1 h1 (by rfl) rfl hd k
  · rw [cell_a (by decide)] at h1
    exact va_alen C0.1 C0.2.1 hH.2.2.1 hH.1 x.toNat 2 h1 (by rfl) rfl hd k
  · rw [cell_a (by decide)] at h1
    exact va_alen C0.1 C0.2.1 hH.2.2.1 hH.1 x.toNat 3 h1 (by rfl) rfl hd k
/-- ends -/
theorem T_ret {r : Option MV} {row : Prop} (hq : Q r S M) {E : EV} {A : Nat → Prop} {ad0 ad : Nat → Nat} {s t : State} {H : Heap} {locs : List Loc} {av : Array Value} (hH : Hd E ad S M A s H locs) (hr : ∀ v, r = some v → okv S.length v) (ha : ∀ k, k < n0 ∨ 1000 ≤ k → ad k = ad0 k) (hn : n0 ≤ S.length) (ht : t.heap = H) : Qc E A ad0 n0 Q av s (.returned (r.map (rv ad))) t :=
  ⟨⟨r, S, M, ad, rfl, hr, hq, ha, by rw [ht]; exact hH.1, hH.2.1, hH.2.2.2.2.1, hH.2.2.2.2.2.2.2.2, hn⟩, hH.2.2.2.1.F ht⟩
theorem T_iret {v : Int} (hd : decode mi.2.1 pc = .ok (.ireturn, 1)) (hr : mi.2.2.2 = some .int) (hq : Q (some (0, v)) S M) : T E mi d n0 cells slots Q pc L [(0, v)] S M cells slots := by
  intro ad0 ad p e s m args below meth c H A locs ls C0 hH oL oS hL ha hn
  exact W.iret C0.1 C0.2.1 (C0.2.2.2.1.trans hr) (fun t ht _ => T_ret (row := True) hq hH (fun w hw => by cases hw; exact (ok_cons.mp oS).1) ha hn ht) hH.2.2.2.1.2.2 hd C0.2.2.2.2.2.2.1
theorem T_zret {v : Int} (hd : decode mi.2.1 pc = .ok (.ireturn, 1)) (hr : mi.2.2.2 = some .boolean) (hv : v = 0 ∨ v = 1) (hq : Q (some (0, v)) S M) : T E mi d n0 cells slots Q pc L [(0, v)] S M cells slots := by
  intro ad0 ad p e s m args below meth c H A locs ls C0 hH oL oS hL ha hn
  exact W.zret C0.1 C0.2.1 (C0.2.2.2.1.trans hr) (by rcases hv with rfl | rfl <;> rfl) (fun t ht _ => T_ret (row := True) hq hH (fun w hw => by cases hw; exact (ok_cons.mp oS).1) ha hn ht) hH.2.2.2.1.2.2 hd C0.2.2.2.2.2.2.1
theorem T_lret {v : Int} (hd : decode mi.2.1 pc = .ok (.lreturn, 1)) (hr : mi.2.2.2 = some .long) (hq : Q (some (1, v)) S M) : T E mi d n0 cells slots Q pc L [(1, v)] S M cells slots := by
  intro ad0 ad p e s m args below meth c H A locs ls C0 hH oL oS hL ha hn
  exact W.lret C0.1 C0.2.1 (C0.2.2.2.1.trans hr) (fun t ht _ => T_ret (row := True) hq hH (fun w hw => by cases hw; exact (ok_cons.mp oS).1) ha hn ht) hH.2.2.2.1.2.2 hd C0.2.2.2.2.2.2.1
theorem T_vret (hd : decode mi.2.1 pc = .ok (.return_, 1)) (hr : mi.2.2.2 = none) (hq : Q none S M) : T E mi d n0 cells slots Q pc L [] S M cells slots := by
  intro ad0 ad p e s m args below meth c H A locs ls C0 hH oL oS hL ha hn
  exact W.vret C0.1 C0.2.1 (C0.2.2.2.1.trans hr) (fun t ht _ => T_ret (row := True) hq hH (fun w hw => by cases hw) ha hn ht) hH.2.2.2.1.2.2 hd C0.2.2.2.2.2.2.1
theorem T_aret {v : Int} {rt : FieldType} (hd : decode mi.2.1 pc = .ok (.areturn, 1)) (hr : mi.2.2.2 = some rt) (hrt : (∃ n, rt = .object n) ∨ ∃ t, rt = .array t) (hq : Q (some (2, v)) S M) : T E mi d n0 cells slots Q pc L [(2, v)] S M cells slots := by
  intro ad0 ad p e s m args below meth c H A locs ls C0 hH oL oS hL ha hn
  exact W.aret C0.1 C0.2.1 (C0.2.2.2.1.trans hr) hrt (Or.inr ⟨_, rfl⟩) (fun t ht _ => T_ret (row := True) hq hH (fun w hw => by cases hw; exact (ok_cons.mp oS).1) ha hn ht) hH.2.2.2.1.2.2 hd C0.2.2.2.2.2.2.1
theorem T_widen {k n : Nat} (h1 : cells ≤ k) (h2 : slots ≤ n) (h : T E mi d n0 nc ns Q pc L st S M k n) : T E mi d n0 nc ns Q pc L st S M cells slots := by
  intro ad0 ad p e s m args below meth c H A locs ls C0 hH oL oS hL ha hn
  exact W.widen h1 h2 (h ad0 ad p e s m args below meth c H A locs ls C0 hH oL oS hL ha hn)
end ARR
/-! contracts -/
def wds (mi : MI) : List Cond := .code mi.1 mi.2.1 mi.2.2.1 mi.2.2.2 :: lw_ok
def Ps (E : EV) (av : List MV) (S : List Sh) (M : Mem) (ad : Nat → Nat) (sz : Nat) : State → Prop := fun U => U.heap.size = sz ∧ va_P E.2.1 vwCl (wo ad E.2.2 S M) U.heap ∧ va_K E.2.1 vwCl (tysO E.2.2) U ∧ va_D (fun _ => True) (wo ad E.2.2 S M) ∧ okS S M ∧ Tb ad U ∧ Sx ad (va_A (wo ad E.2.2 S M) sz) U U.heap ∧ S.length < 1000 ∧ ∀ v ∈ av, okv S.length v
/-- the method y, from the world M with these arguments, comes to its end with Q -/
def Ct (E : EV) (mi : MI) (d nc ns : Nat) (av : List MV) (S : List Sh) (M : Mem) (Q : Option MV → List Sh → Mem → Prop) : Prop :=
  ∀ (ad : Nat → Nat) (sz : Nat), Met E.1 mi.1 (wds mi) (rm d nc ns) (va_Pc (av.map (rv ad)) (Ps E av S M ad sz)) (Qc E (va_A (wo ad E.2.2 S M) sz) ad S.length Q) nc ns (va_A (wo ad E.2.2 S M) sz)
def aL : List MV → List MV
  | [] => []
  | v :: l => if v.1 = 1 then v :: (3, 0) :: aL l else v :: aL l
theorem aL_mem {ad : Nat → Nat} : ∀ (av : List MV) (k i : Nat) (v : MV), (aL av)[i]? = some v → v.1 < 3 → (k + i, rv ad v) ∈ lv_args k (av.map (rv ad))
  | [], k, i, v, h, _ => by simp [aL] at h
  | w :: l, k, i, v, h, h3 => by
    simp only [List.map_cons, lv_args]
    by_cases hw : w.1 = 1
    · have e : (rv ad w).category = 2 := by
        obtain ⟨t, x⟩ := w
        have : t = 1 := hw
        subst this
        rfl
      rw [if_pos e]
      simp only [aL, hw, if_true] at h
      match i, h with
      | 0, h =>
        rw [List.getElem?_cons_zero] at h
        cases h
        exact List.mem_cons_self
      | 1, h =>
        rw [List.getElem?_cons_succ, List.getElem?_cons_zero] at h
        cases h
        exact absurd h3 (show ¬ (3 : Nat) < 3 by decide)
      | i + 2, h =>
        rw [List.getElem?_cons_succ, List.getElem?_cons_succ] at h
        have := aL_mem (ad := ad) l (k + 2) i v h h3
        rw [show k + 2 + i = k + (i + 2) by omega] at this
        exact List.mem_cons_of_mem _ this
    · have e : ¬ (rv ad w).category = 2 := fun z => hw (rv_cat2 z)
      rw [if_neg e]
      simp only [aL, hw, if_false] at h
      match i, h with
      | 0, h =>
        rw [List.getElem?_cons_zero] at h
        cases h
        exact List.mem_cons_self
      | i + 1, h =>
        rw [List.getElem?_cons_succ] at h
        have := aL_mem (ad := ad) l (k + 1) i v h h3
        rw [show k + 1 + i = k + (i + 1) by omega] at this
        exact List.mem_cons_of_mem _ this
theorem aL_len {ad : Nat → Nat} : ∀ av : List MV, (lg_sl (av.map (rv ad))).length = (aL av).length
  | [] => rfl
  | w :: l => by
    have ih := aL_len (ad := ad) l
    unfold lg_sl at *
    simp only [List.map_cons, List.flatMap_cons, List.length_append, ih]
    by_cases hw : w.1 = 1
    · have e : (rv ad w).category = 2 := by
        obtain ⟨t, x⟩ := w
        have : t = 1 := hw
        subst this
        rfl
      rw [if_pos e]
      simp only [aL, hw, if_true, List.length_cons, List.length_nil]
      omega
    · have e : ¬ (rv ad w).category = 2 := fun z => hw (rv_cat2 z)
      rw [if_neg e]
      simp only [aL, hw, if_false, List.length_cons, List.length_nil]
      omega
theorem aL_ok {n : Nat} : ∀ av : List MV, (∀ v ∈ av, okv n v) → ∀ v ∈ aL av, okv n v
  | [], _, v, h => by simp [aL] at h
  | w :: l, h, v, hv => by
    have ih := aL_ok l (fun v hv => h v (List.mem_cons_of_mem _ hv))
    by_cases hw : w.1 = 1
    · simp only [aL, hw, if_true] at hv
      rcases List.mem_cons.mp hv with e | hv
      · rw [e]; exact h w List.mem_cons_self
      · rcases List.mem_cons.mp hv with e | hv
        · rw [e]; trivial
        · exact ih v hv
    · simp only [aL, hw, if_false] at hv
      rcases List.mem_cons.mp hv with e | hv
      · rw [e]; exact h w List.mem_cons_self
      · exact ih v hv
theorem Ct_of {E : EV} {mi : MI} {d nc ns : Nat} {av L : List MV} {S : List Sh} {M : Mem} {Q : Option MV → List Sh → Mem → Prop} (hpl : plainName mi.1.cls = true) (hn : (aL av).length ≤ mi.2.2.1) (hL : aL av ++ List.replicate (mi.2.2.1 - (aL av).length) (3, 0) = L)
    (h : T E mi d S.length nc ns Q 0 L [] S M 0 0) : Ct E mi d nc ns av S M Q := by
  intro ad sz
  refine Met.ofW (cc := mi.2.1) (maxL := mi.2.2.1) (ret := mi.2.2.2) hpl rfl ?_
  intro p e s m args below meth c s₁ B hml hv
  obtain ⟨rfl, hsz, hP, hK, hD0, hok, hTb, hSx, hlen, hav⟩ := hv
  have hts := atoms_spec (ws := wds mi) B.pre
  have hown : s.vm.findClass mi.1.cls = some m.cls := findClass_of_methodNamed B.named
  subst hsz
  have hD := hD0.self (sz := s.heap.size)
  have hl := lv_entry (av.map (rv ad)) (n := mi.2.2.1) (by rw [aL_len]; exact hn)
  rw [lg_entry_eq]
  refine h ad ad p e s m _ below meth c s.heap _ [] _ ⟨B.exec, B.bytes, hml, B.returns, hown, fun w hw => hts w (List.mem_cons_of_mem _ hw), B.notSynchronized, (name_of_methodNamed B.named B.method).1⟩ ⟨hP, hD, hK, va_S.rf, hok, fun q hq => Or.inr hq, hTb, hSx, hlen⟩ ?_ (fun v hv => by cases hv) ?_ (fun _ _ => rfl) (Nat.le_refl _)
  · intro v hv
    rw [← hL] at hv
    rcases List.mem_append.mp hv with hv | hv
    · exact aL_ok av hav v hv
    · rw [List.eq_of_mem_replicate hv]; trivial
  · refine has_of hl fun i v hi hv => ?_
    rw [← hL] at hi
    by_cases hlt : i < (aL av).length
    · rw [List.getElem?_append_left hlt] at hi
      have := aL_mem (ad := ad) av 0 i v hi hv
      rwa [Nat.zero_add] at this
    · rw [List.getElem?_append_right (by omega)] at hi
      have := List.eq_of_mem_replicate (List.mem_of_getElem? hi)
      rw [this] at hv
      exact absurd hv (show ¬ (3 : Nat) < 3 by decide)
