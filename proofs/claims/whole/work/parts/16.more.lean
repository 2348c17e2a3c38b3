/-! rows that the walks use -/
theorem G_ite {h : Int} {c : Prop} [Decidable c] {A B : Mem} (h1 : G h A) (h2 : G h B) : G h (if c then A else B) := by
  split
  · exact h1
  · exact h2
def jkok : List MV → List MV → Prop
  | [], [] => True
  | a :: l, b :: l' => (b.1 = 3 ∨ a = b) ∧ jkok l l'
  | _, _ => False
theorem jkok_len : ∀ {L L' : List MV}, jkok L L' → L'.length = L.length
  | [], [], _ => rfl
  | a :: l, b :: l', h => by rw [List.length_cons, List.length_cons, jkok_len h.2]
  | [], b :: l', h => by cases h
  | a :: l, [], h => by cases h
theorem jkok_get : ∀ {L L' : List MV}, jkok L L' → ∀ (i : Nat) (v : MV), L'[i]? = some v → v.1 < 3 → L[i]? = some v
  | [], [], _, i, v, h, _ => by simp at h
  | a :: l, b :: l', h, 0, v, hv, h3 => by
    rw [List.getElem?_cons_zero] at hv ⊢
    cases hv
    rcases h.1 with h | h
    · omega
    · rw [h]
  | a :: l, b :: l', h, i + 1, v, hv, h3 => by
    rw [List.getElem?_cons_succ] at hv ⊢
    exact jkok_get h.2 i v hv h3
  | [], b :: l', h, _, _, _, _ => by cases h
  | a :: l, [], h, _, _, _, _ => by cases h
theorem T_wk {E : EV} {mi : MI} {d n0 nc ns : Nat} {Q : Option MV → List Sh → Mem → Prop} {pc : Nat} {L L' st : List MV} {S : List Sh} {M : Mem} {cells slots : Nat} (h : T E mi d n0 nc ns Q pc L' st S M cells slots) (hj : jkok L L') : T E mi d n0 nc ns Q pc L st S M cells slots :=
  T_weak h (jkok_len hj) (jkok_get hj)
theorem T_ldcw {E : EV} {mi : MI} {d n0 nc ns : Nat} {Q : Option MV → List Sh → Mem → Prop} {pc pc' : Nat} {L st : List MV} {S : List Sh} {M : Mem} {cells slots : Nat} {own : String} {idx : Nat} {v : Int32} {n : Int} (hd : decode mi.2.1 pc = .ok (.ldc_w idx, 3)) (ho : mi.1.cls = own) (hw : Cond.constant own idx v ∈ lw_ok) (hv : v = Int32.ofInt n) (hr : r32 n) (hp : pc + 3 = pc') (k : T E mi d n0 nc ns Q pc' L ((0, n) :: st) S M cells slots) : T E mi d n0 nc ns Q pc L st S M cells slots := by
  subst hp
  intro ad0 ad p e s m args below meth c H A locs ls C hH oL oS hL ha hn
  exact lv_ldcw C.1 C.2.1 (own := own) (by rw [← ho]; exact C.2.2.2.2.1) (by rw [← hv]; exact C.2.2.2.2.2.1 _ hw) hd (k ad0 ad p e s m args below meth c H A locs ls C hH oL (ok_cons.mpr ⟨hr, oS⟩) hL ha hn)
theorem kF {E : EV} {mi : MI} {d : Nat} {h : Int} {Q : Option MV → List Sh → Mem → Prop} {pc' cells slots : Nat} {L st st2 : List MV} {S : List Sh} {r0 : Option MV} {M0 : Mem} (hst : r0.toList ++ st = st2) (k : G h M0 → T E mi d 126 0 0 Q pc' L st2 S0 M0 cells slots) : ∀ (r : Option MV) (S' : List Sh) (M' : Mem), (S' = S0 ∧ G h M' ∧ r = r0 ∧ M' = M0) → S.length ≤ S'.length → T E mi d 126 0 0 Q pc' L (r.toList ++ st) S' M' cells slots := by
  rintro r S' M' ⟨h1, h2, h3, h4⟩ _
  rw [h1, h3, h4, hst]
  exact k (by rw [← h4]; exact h2)
theorem bi {c : Prop} [Decidable c] {a b : Int} (h1 : a = 0 ∨ a = 1) (h2 : b = 0 ∨ b = 1) : (if c then a else b) = 0 ∨ (if c then a else b) = 1 := by
  split
  · exact h1
  · exact h2
theorem G_oth {h : Int} {M M' : Mem} {x : Int} {et n : Nat} (hS : S0[x.toNat]? = some (0, et, n)) (hx : 0 ≤ x) (hM : ∀ q, q ≠ x → M' q = M q) (hG : G h M) : G h M' := by
  have h0 : x ≠ 0 := by
    rintro rfl
    exact absurd (show some ((1 : Nat), 11, 18) = some (0, et, n) from hS) (by simp)
  refine ⟨fun e he => ?_, ?_, ?_, hG.2.2.2⟩
  · obtain ⟨ci, N, h1, h2, h3, h4⟩ := gtab_ok e he
    have : e.1 ≠ x := by
      rintro rfl
      rw [h1] at hS
      cases hS
    rw [hM _ this]
    exact hG.1 e he
  · rw [hM _ (fun z => h0 z.symm)]; exact hG.2.1
  · rw [hM _ (fun z => h0 z.symm)]; exact hG.2.2.1
theorem T_zrng {E : EV} {mi : MI} {d n0 nc ns : Nat} {Q : Option MV → List Sh → Mem → Prop} {pc : Nat} {L st : List MV} {S : List Sh} {M : Mem} {cells slots : Nat} {x i : Int} {n : Nat} (hS : S[x.toNat]? = some (0, 3, n)) (hx : 0 ≤ x) (hi : 0 ≤ i) (k : (M x i = 0 ∨ M x i = 1) → T E mi d n0 nc ns Q pc L st S M cells slots) : T E mi d n0 nc ns Q pc L st S M cells slots := T_rng fun _ _ ok => k (by
  have h := ok _ _ hS i.toNat
  rw [Int.toNat_of_nonneg hx, Int.toNat_of_nonneg hi] at h
  have h : 0 ≤ M x i ∧ M x i ≤ 1 := h
  omega)
theorem ite_ap {c : Prop} [Decidable c] {A B : Mem} {q : Int} : (if c then A else B) q = if c then A q else B q := by
  split <;> rfl
theorem mset_p {M : Mem} {p k x q : Int} (h : q ≠ p) : mset M p k x q = M q := by unfold mset; rw [if_neg h]
theorem ite_q {c : Prop} [Decidable c] {A B : Mem} {q : Int} {y : Int → Int} (h1 : A q = y) (h2 : B q = y) : (if c then A else B) q = y := by
  split
  · exact h1
  · exact h2
section MATH
variable {E : EV} {mi : MI} {d n0 nc ns : Nat} {Q : Option MV → List Sh → Mem → Prop} {pc pc' : Nat} {L st : List MV} {S : List Sh} {M : Mem} {cells slots : Nat}
theorem U_alen {x nI : Int} {et n : Nat} (hd : decode mi.2.1 pc = .ok (.arraylength, 1)) (het : et = 0 ∨ et = 1 ∨ et = 3 ∨ et = 4) (hn : n < 2147483648) (hS : S[x.toNat]? = some (0, et, n)) (hnI : ((n : Nat) : Int) = nI) (hp : pc + 1 = pc') (kk : T E mi d n0 nc ns Q pc' L ((0, nI) :: st) S M cells slots) : T E mi d n0 nc ns Q pc L ((2, x) :: st) S M cells slots := T_alen hd het hn hS hp (by rw [hnI]; exact kk)
theorem mth_in : Cond.initialized "java/lang/Math" ∈ lw_ok := mtJ9_abs_0f7a4.2.1
theorem U_mmax {own : String} {idx : Nat} {a b : Int} (hd : decode mi.2.1 pc = .ok (.invokestatic idx, 3)) (ho : mi.1.cls = own) (hlink : Cond.methodLink own idx miJ9_max_7cf53.1 ∈ lw_ok) (hfit : (st.map (fun v => if v.1 = 1 then 2 else 1)).sum ≤ 8) (hd2 : 1 ≤ d) (hc : cells ≤ nc ∧ slots ≤ ns) (hp : pc + 3 = pc') (kk : T E mi d n0 nc ns Q pc' L ((0, if a < b then b else a) :: st) S M cells slots) : T E mi d n0 nc ns Q pc L ((0, b) :: (0, a) :: st) S M cells slots := by
  subst hp
  intro ad0 ad p e s m args below meth c H A locs ls C hH oL oS hL ha hn
  have o2 := ok_cons.mp oS
  have o3 := ok_cons.mp o2.2
  have ht := C.2.2.2.2.2.1
  have hf := fit_of st ad hfit
  refine va_mmax C.1 C.2.1 (C.2.2.1.trans hL.1.symm) (own := own) (by rw [← ho]; exact C.2.2.2.2.1) (ht _ hlink) (ht _ mvJ9_max_7cf53) (ht _ mth_in) (ht _ mtJ9_max_7cf53.1) hd2 (by show _ + 13 ≤ 64 * d; omega) hc.1 hc.2 hd ?_
  have k := kk ad0 ad p e s m args below meth c H A locs ls C hH oL (ok_cons.mpr ⟨(by show okv _ (0, if a < b then b else a); split; exact o2.1; exact o3.1), o3.2⟩) hL ha hn
  have e1 : (if Int32.ofInt a < Int32.ofInt b then Int32.ofInt b else Int32.ofInt a) = Int32.ofInt (if a < b then b else a) := by
    by_cases h : a < b
    · rw [if_pos h, if_pos ((wr_lt o3.1 o2.1).mpr h)]
    · rw [if_neg h, if_neg (fun z => h ((wr_lt o3.1 o2.1).mp z))]
  rw [e1]
  exact k
theorem U_mmin {own : String} {idx : Nat} {a b : Int} (hd : decode mi.2.1 pc = .ok (.invokestatic idx, 3)) (ho : mi.1.cls = own) (hlink : Cond.methodLink own idx miJ9_min_7cf53.1 ∈ lw_ok) (hfit : (st.map (fun v => if v.1 = 1 then 2 else 1)).sum ≤ 8) (hd2 : 1 ≤ d) (hc : cells ≤ nc ∧ slots ≤ ns) (hp : pc + 3 = pc') (kk : T E mi d n0 nc ns Q pc' L ((0, if b < a then b else a) :: st) S M cells slots) : T E mi d n0 nc ns Q pc L ((0, b) :: (0, a) :: st) S M cells slots := by
  subst hp
  intro ad0 ad p e s m args below meth c H A locs ls C hH oL oS hL ha hn
  have o2 := ok_cons.mp oS
  have o3 := ok_cons.mp o2.2
  have ht := C.2.2.2.2.2.1
  have hf := fit_of st ad hfit
  refine va_mmin C.1 C.2.1 (C.2.2.1.trans hL.1.symm) (own := own) (by rw [← ho]; exact C.2.2.2.2.1) (ht _ hlink) (ht _ mvJ9_min_7cf53) (ht _ mth_in) (ht _ mtJ9_min_7cf53.1) hd2 (by show _ + 13 ≤ 64 * d; omega) hc.1 hc.2 hd ?_
  have k := kk ad0 ad p e s m args below meth c H A locs ls C hH oL (ok_cons.mpr ⟨(by show okv _ (0, if b < a then b else a); split; exact o2.1; exact o3.1), o3.2⟩) hL ha hn
  have e1 : (if Int32.ofInt b < Int32.ofInt a then Int32.ofInt b else Int32.ofInt a) = Int32.ofInt (if b < a then b else a) := by
    by_cases h : b < a
    · rw [if_pos h, if_pos ((wr_lt o2.1 o3.1).mpr h)]
    · rw [if_neg h, if_neg (fun z => h ((wr_lt o2.1 o3.1).mp z))]
  rw [e1]
  exact k
theorem U_mabs {own : String} {idx : Nat} {a : Int} (hd : decode mi.2.1 pc = .ok (.invokestatic idx, 3)) (ho : mi.1.cls = own) (hlink : Cond.methodLink own idx miJ9_abs_0f7a4.1 ∈ lw_ok) (hfit : (st.map (fun v => if v.1 = 1 then 2 else 1)).sum ≤ 8) (hd2 : 1 ≤ d) (hc : cells ≤ nc ∧ slots ≤ ns) (hp : pc + 3 = pc') (kk : T E mi d n0 nc ns Q pc' L ((0, if 0 ≤ a then a else wr32 (0 - a)) :: st) S M cells slots) : T E mi d n0 nc ns Q pc L ((0, a) :: st) S M cells slots := by
  subst hp
  intro ad0 ad p e s m args below meth c H A locs ls C hH oL oS hL ha hn
  have o2 := ok_cons.mp oS
  have ht := C.2.2.2.2.2.1
  have hf := fit_of st ad hfit
  refine va_mabs C.1 C.2.1 (C.2.2.1.trans hL.1.symm) (own := own) (by rw [← ho]; exact C.2.2.2.2.1) (ht _ hlink) (ht _ mvJ9_abs_0f7a4) (ht _ mth_in) (ht _ mtJ9_abs_0f7a4.1) hd2 (by show _ + 13 ≤ 64 * d; omega) hc.1 hc.2 hd ?_
  have k := kk ad0 ad p e s m args below meth c H A locs ls C hH oL (ok_cons.mpr ⟨(by show okv _ (0, if 0 ≤ a then a else wr32 (0 - a)); split; exact o2.1; exact wr32_r _), o2.2⟩) hL ha hn
  have e1 : (if 0 ≤ Int32.ofInt a then Int32.ofInt a else 0 - Int32.ofInt a) = Int32.ofInt (if 0 ≤ a then a else wr32 (0 - a)) := by
    have q : (0 : Int32) ≤ Int32.ofInt a ↔ 0 ≤ a := wr_le (a := 0) (b := a) (by decide) o2.1
    by_cases h : 0 ≤ a
    · rw [if_pos h, if_pos (q.mpr h)]
    · rw [if_neg h, if_neg (fun z => h (q.mp z)), ← wr_sub]; rfl
  rw [e1]
  exact k
theorem U_mmaxL {own : String} {idx : Nat} {a b : Int} (hd : decode mi.2.1 pc = .ok (.invokestatic idx, 3)) (ho : mi.1.cls = own) (hlink : Cond.methodLink own idx miJ9_max_f86c9.1 ∈ lw_ok) (hfit : (st.map (fun v => if v.1 = 1 then 2 else 1)).sum ≤ 8) (hd2 : 1 ≤ d) (hc : cells ≤ nc ∧ slots ≤ ns) (hp : pc + 3 = pc') (kk : T E mi d n0 nc ns Q pc' L ((1, if b < a then a else b) :: st) S M cells slots) : T E mi d n0 nc ns Q pc L ((1, b) :: (1, a) :: st) S M cells slots := by
  subst hp
  intro ad0 ad p e s m args below meth c H A locs ls C hH oL oS hL ha hn
  have o2 := ok_cons.mp oS
  have o3 := ok_cons.mp o2.2
  have ht := C.2.2.2.2.2.1
  have hf := fit_of st ad hfit
  refine va_mmax_long C.1 C.2.1 (C.2.2.1.trans hL.1.symm) (own := own) (by rw [← ho]; exact C.2.2.2.2.1) (ht _ hlink) (ht _ mvJ9_max_f86c9) (ht _ mth_in) (ht _ mtJ9_max_f86c9.1) hd2 (by show _ + 15 ≤ 64 * d; omega) hc.1 hc.2 hd ?_
  have k := kk ad0 ad p e s m args below meth c H A locs ls C hH oL (ok_cons.mpr ⟨(by show okv _ (1, if b < a then a else b); split; exact o3.1; exact o2.1), o3.2⟩) hL ha hn
  have e1 : (if Int64.ofInt b < Int64.ofInt a then Int64.ofInt a else Int64.ofInt b) = Int64.ofInt (if b < a then a else b) := by
    by_cases h : b < a
    · rw [if_pos h, if_pos ((wl_lt o2.1 o3.1).mpr h)]
    · rw [if_neg h, if_neg (fun z => h ((wl_lt o2.1 o3.1).mp z))]
  rw [e1]
  exact k
theorem U_mminL {own : String} {idx : Nat} {a b : Int} (hd : decode mi.2.1 pc = .ok (.invokestatic idx, 3)) (ho : mi.1.cls = own) (hlink : Cond.methodLink own idx miJ9_min_f86c9.1 ∈ lw_ok) (hfit : (st.map (fun v => if v.1 = 1 then 2 else 1)).sum ≤ 8) (hd2 : 1 ≤ d) (hc : cells ≤ nc ∧ slots ≤ ns) (hp : pc + 3 = pc') (kk : T E mi d n0 nc ns Q pc' L ((1, if b < a then b else a) :: st) S M cells slots) : T E mi d n0 nc ns Q pc L ((1, b) :: (1, a) :: st) S M cells slots := by
  subst hp
  intro ad0 ad p e s m args below meth c H A locs ls C hH oL oS hL ha hn
  have o2 := ok_cons.mp oS
  have o3 := ok_cons.mp o2.2
  have ht := C.2.2.2.2.2.1
  have hf := fit_of st ad hfit
  refine va_mmin_long C.1 C.2.1 (C.2.2.1.trans hL.1.symm) (own := own) (by rw [← ho]; exact C.2.2.2.2.1) (ht _ hlink) (ht _ mvJ9_min_f86c9) (ht _ mth_in) (ht _ mtJ9_min_f86c9.1) hd2 (by show _ + 15 ≤ 64 * d; omega) hc.1 hc.2 hd ?_
  have k := kk ad0 ad p e s m args below meth c H A locs ls C hH oL (ok_cons.mpr ⟨(by show okv _ (1, if b < a then b else a); split; exact o2.1; exact o3.1), o3.2⟩) hL ha hn
  have e1 : (if Int64.ofInt b < Int64.ofInt a then Int64.ofInt b else Int64.ofInt a) = Int64.ofInt (if b < a then b else a) := by
    by_cases h : b < a
    · rw [if_pos h, if_pos ((wl_lt o2.1 o3.1).mpr h)]
    · rw [if_neg h, if_neg (fun z => h ((wl_lt o2.1 o3.1).mp z))]
  rw [e1]
  exact k
/-- System.arraycopy of a row of ints -/
def mcpy (M : Mem) (y sp x dp n : Int) : Mem := fun q => if q = x then (fun k => if dp ≤ k ∧ k < dp + n then M y (sp + (k - dp)) else M x k) else M q
theorem mcpy_p {M : Mem} {y sp x dp n q : Int} (h : q ≠ x) : mcpy M y sp x dp n q = M q := by unfold mcpy; rw [if_neg h]
theorem ac_in : Cond.native arraycopyName ∈ lw_ok := tbi5 63 rfl rfl
theorem ac_st : Cond.static arraycopyName ∈ lw_ok := tbi5 62 rfl rfl
theorem ac_sy : Cond.initialized "java/lang/System" ∈ lw_ok := tbi1 20 rfl rfl
theorem U_copy {own : String} {idx : Nat} {x y sp dp n : Int} {nx ny : Nat} (hd : decode mi.2.1 pc = .ok (.invokestatic idx, 3)) (ho : mi.1.cls = own) (hlink : Cond.methodLink own idx arraycopyName ∈ lw_ok) (hx : 0 ≤ x) (hy : 0 ≤ y) (hSx : S[x.toNat]? = some (0, 0, nx)) (hSy : S[y.toNat]? = some (0, 0, ny))
    (h1 : 0 ≤ sp) (h2 : 0 ≤ dp) (h3 : 0 ≤ n) (h4 : sp + n ≤ (ny : Nat)) (h5 : dp + n ≤ (nx : Nat)) (hfit : (st.map (fun v => if v.1 = 1 then 2 else 1)).sum ≤ 8) (hd2 : 1 ≤ d) (hp : pc + 3 = pc') (kk : T E mi d n0 nc ns Q pc' L st S (mcpy M y sp x dp n) cells slots) : T E mi d n0 nc ns Q pc L ((0, n) :: (0, dp) :: (2, x) :: (0, sp) :: (2, y) :: st) S M cells slots := by
  subst hp
  intro ad0 ad p e s m args below meth c H A locs ls C hH oL oS hL ha hn
  have o1 := ok_cons.mp oS
  have o2 := ok_cons.mp o1.2
  have o3 := ok_cons.mp o2.2
  have o4 := ok_cons.mp o3.2
  have o5 := ok_cons.mp o4.2
  have ht := C.2.2.2.2.2.1
  have hf := fit_of st ad hfit
  have hxx : ((x.toNat : Nat) : Int) = x := Int.toNat_of_nonneg hx
  have hyy : ((y.toNat : Nat) : Int) = y := Int.toNat_of_nonneg hy
  have g1 := wo_get (ad := ad) (cA := E.2.2) (M := M) hSx
  have g2 := wo_get (ad := ad) (cA := E.2.2) (M := M) hSy
  rw [hxx, cell_a (by decide)] at g1
  rw [hyy, cell_a (by decide)] at g2
  have ng : ∀ z : Int, r32 z → 0 ≤ z → ¬ Int32.ofInt z < 0 := fun z hr hz q => by
    rw [show (0 : Int32) = Int32.ofInt 0 from rfl, wr_lt hr (by decide)] at q; omega
  have hroom : ((st.map (rv ad)).map fun v => v.category).sum + (nativeFrameWords "java/lang/System" "arraycopy" 5 + 11) ≤ (rm d nc ns).locals := by
    have h9 : nativeFrameWords "java/lang/System" "arraycopy" 5 ≤ 30 := by decide +kernel
    show _ ≤ 64 * d
    omega
  refine va_copyi C.1 C.2.1 (C.2.2.1.trans hL.1.symm) (own := own) (by rw [← ho]; exact C.2.2.2.2.1) (ht _ hlink) (ht _ ac_in) (ht _ ac_st) (ht _ ac_sy) hH.2.2.1 hH.1 hH.2.1 hH.2.2.2.1 y.toNat x.toNat 0 0 g2 g1 (by rfl) (by rfl) rfl (ng sp o4.1 h1) (ng dp o2.1 h2) (ng n o1.1 h3) ?_ ?_ (fun _ _ => rfl) hd2 hroom hd (fun H1 locs1 q1 q2 q3 => ?_)
  · rw [cl_i o4.1, cl_i o1.1]; omega
  · rw [cl_i o2.1, cl_i o1.1]; omega
  rw [cl_i o4.1, cl_i o2.1, cl_i o1.1] at q1 q2
  have ef : va_cpy (fun j => Int32.ofInt (M y (j : Nat))) (fun j => Int32.ofInt (M x (j : Nat))) sp.toNat dp.toNat n.toNat = fun j => Int32.ofInt ((mcpy M y sp x dp n) x (j : Nat)) := by
    funext j
    unfold va_cpy mcpy
    rw [if_pos rfl]
    by_cases hj : dp.toNat ≤ j ∧ j < dp.toNat + n.toNat
    · have e9 : ((sp.toNat + (j - dp.toNat) : Nat) : Int) = sp + (((j : Nat) : Int) - dp) := by
        have h6 := hj.1
        have h7 : ((dp.toNat : Nat) : Int) = dp := Int.toNat_of_nonneg h2
        have h8 : ((sp.toNat : Nat) : Int) = sp := Int.toNat_of_nonneg h1
        omega
      rw [if_pos hj, if_pos (by omega)]
      show Int32.ofInt (M y ((sp.toNat + (j - dp.toNat) : Nat) : Int)) = _
      rw [e9]
    · rw [if_neg hj, if_neg (by omega)]
  rw [ef] at q1 q2
  have key : (wo ad E.2.2 S M).set x.toNat (ad x.toNat, .inl (E.2.2 0, nx, .inl (fun j => Int32.ofInt ((mcpy M y sp x dp n) x (j : Nat))))) = wo ad E.2.2 S (mcpy M y sp x dp n) := by
    have := wo_set (ad := ad) (cA := E.2.2) (M := M) hSx ((mcpy M y sp x dp n) x)
    rw [cell_a (by decide), hxx] at this
    rw [this]
    congr 1
    funext q
    by_cases hq : q = x
    · subst hq; rw [if_pos rfl]
    · rw [if_neg hq]; unfold mcpy; rw [if_neg hq]
  rw [key] at q1 q2
  have hok : okS S (mcpy M y sp x dp n) := by
    intro q sh hq j
    unfold mcpy
    by_cases hqx : ((q : Nat) : Int) = x
    · rw [if_pos hqx]
      have e2 : q = x.toNat := by omega
      subst e2
      rw [hSx] at hq
      cases hq
      by_cases hj : dp ≤ (j : Nat) ∧ ((j : Nat) : Int) < dp + n
      · simp only [if_pos hj]
        have := hH.2.2.2.2.1 _ _ hSy (sp + ((j : Nat) - dp)).toNat
        rw [hyy, Int.toNat_of_nonneg (by omega)] at this
        exact this
      · simp only [if_neg hj]
        have := hH.2.2.2.2.1 _ _ hSx j
        rw [hxx] at this
        exact this
    · rw [if_neg hqx]
      exact hH.2.2.2.2.1 q sh hq j
  exact kk ad0 ad p e s m args below meth c H1 A locs1 ls C ⟨q1, q2, hH.2.2.1, q3, hok, hH.2.2.2.2.2.1, hH.2.2.2.2.2.2.1, hH.2.2.2.2.2.2.2.1, hH.2.2.2.2.2.2.2.2⟩ oL o5.2 hL ha hn
end MATH
theorem G_cpy {h : Int} {M : Mem} {y sp x dp n : Int} {et nn : Nat} (hS : S0[x.toNat]? = some (0, et, nn)) (hx : 0 ≤ x) (hG : G h M) : G h (mcpy M y sp x dp n) := G_oth hS hx (fun q hq => by unfold mcpy; rw [if_neg hq]) hG
/-- Math.floorDiv -/
theorem xor_l {P A B : Prop} [Decidable P] [Decidable A] [Decidable B] (h : decide P = (decide A ^^ decide B)) : P ↔ ¬ (A ↔ B) := by
  by_cases p : P <;> by_cases q : A <;> by_cases r : B <;> simp_all
theorem m_xor_neg {a b : Int} (ha : -2147483648 ≤ a ∧ a ≤ 2147483647) (hb : -2147483648 ≤ b ∧ b ≤ 2147483647) : m_xor a b < 0 ↔ ¬ (a < 0 ↔ b < 0) := by
  have key : ∀ x : Int32, x.toBitVec.msb = decide (x.toInt < 0) := fun x => BitVec.msb_eq_toInt
  have ea : (Int32.ofInt a).toInt = a := Int32.toInt_ofInt_of_le (by omega) (by omega)
  have eb : (Int32.ofInt b).toInt = b := Int32.toInt_ofInt_of_le (by omega) (by omega)
  have h1 := key (Int32.ofInt a ^^^ Int32.ofInt b)
  rw [Int32.toBitVec_xor, BitVec.msb_xor, key, key, ea, eb] at h1
  exact xor_l h1.symm
theorem fdiv_same {a b : Int} (h0 : ¬ b = 0) (h : a < 0 ↔ b < 0) : a.fdiv b = a.tdiv b := by
  rw [Int.fdiv_eq_tdiv]
  by_cases hd : b ∣ a
  · rw [if_pos hd]; omega
  · rw [if_neg hd]
    by_cases h1 : 0 ≤ a
    · rw [if_pos h1, if_pos (by omega)]; omega
    · rw [if_neg h1, if_neg (by omega), Int.sign_eq_neg_one_of_neg (by omega)]; omega
theorem fdiv_diff {a b : Int} (h0 : ¬ b = 0) (h : ¬ (a < 0 ↔ b < 0)) : a.fdiv b = if a.tdiv b * b = a then a.tdiv b else a.tdiv b - 1 := by
  rw [Int.fdiv_eq_tdiv]
  by_cases hd : b ∣ a
  · rw [if_pos hd, if_pos (Int.tdiv_mul_cancel hd)]; omega
  · rw [if_neg hd, if_neg (c := a.tdiv b * b = a) (fun z => hd ⟨a.tdiv b, by rw [Int.mul_comm]; exact z.symm⟩)]
    by_cases h1 : 0 ≤ a
    · rw [if_pos h1, if_neg (by omega)]
    · rw [if_neg h1, if_pos (by omega), Int.sign_eq_one_of_pos (by omega)]
theorem tdiv_diff {a b : Int} (h0 : ¬ b = 0) (h : ¬ (a < 0 ↔ b < 0)) (ha : -2147483648 ≤ a ∧ a ≤ 2147483647) : -2147483648 ≤ a.tdiv b ∧ a.tdiv b ≤ 0 ∧ -2147483648 ≤ a.tdiv b * b ∧ a.tdiv b * b ≤ 2147483647 := by
  by_cases h1 : 0 ≤ a
  · have hb : b < 0 := by omega
    have e : a.tdiv b = -(a / -b) := by rw [Int.tdiv_eq_ediv_of_nonneg h1, Int.ediv_neg, Int.neg_neg]
    have k0 : 0 ≤ a / -b := Int.ediv_nonneg h1 (by omega)
    have k1 : a / -b ≤ a := Int.ediv_le_self _ h1
    have k2 : a / -b * -b ≤ a := Int.ediv_mul_le a (by omega)
    have k3 : 0 ≤ a / -b * -b := Int.mul_nonneg k0 (by omega)
    have e2 : a.tdiv b * b = a / -b * -b := by rw [e, Int.neg_mul, Int.mul_neg]
    rw [e2, e]
    omega
  · have hb : 0 < b := by omega
    have e : a.tdiv b = -(-a / b) := by rw [← Int.tdiv_eq_ediv_of_nonneg (a := -a) (by omega), Int.neg_tdiv, Int.neg_neg]
    have k0 : 0 ≤ -a / b := Int.ediv_nonneg (by omega) (by omega)
    have k1 : -a / b ≤ -a := Int.ediv_le_self _ (by omega)
    have k2 : -a / b * b ≤ -a := Int.ediv_mul_le (-a) (by omega)
    have k3 : 0 ≤ -a / b * b := Int.mul_nonneg k0 (by omega)
    have e2 : a.tdiv b * b = -(-a / b * b) := by rw [e, Int.neg_mul]
    rw [e2, e]
    omega
theorem wr_id {x : Int} (h : -2147483648 ≤ x ∧ x ≤ 2147483647) : wr32 x = x := by unfold wr32; omega
def fdv (a b : Int) : Int := wr32 (a.fdiv b)
theorem fdv_same {a b : Int} (h0 : ¬ b = 0) (h : a < 0 ↔ b < 0) : wr32 (a.tdiv b) = fdv a b := by unfold fdv; rw [fdiv_same h0 h]
theorem fdv_diff {a b : Int} (h0 : ¬ b = 0) (h : ¬ (a < 0 ↔ b < 0)) (ha : -2147483648 ≤ a ∧ a ≤ 2147483647) : (if wr32 (wr32 (a.tdiv b) * b) = a then wr32 (a.tdiv b) else wr32 (wr32 (a.tdiv b) - 1)) = fdv a b := by
  obtain ⟨q1, q2, q3, q4⟩ := tdiv_diff h0 h ha
  have e1 := wr_id (x := a.tdiv b) ⟨q1, by omega⟩
  have e2 := wr_id (x := a.tdiv b * b) ⟨q3, q4⟩
  unfold fdv
  rw [fdiv_diff h0 h, e1, e2]
  split
  · exact e1.symm
  · rfl
theorem math_rows : (Jvm.natives.all fun r => r.cls != "java/lang/Math" || !(r.name == "floorDiv")) = true := by decide +kernel
theorem math_plain : plainFor yJ9_floorDiv_7cf53 = true := by
  unfold plainFor
  rw [Bool.or_eq_true]; right
  rw [Option.isNone_iff_eq_none, NativeRow.find?, List.find?_eq_none]
  intro r hr h
  have h2 := List.all_eq_true.mp math_rows r hr
  simp only [Bool.and_eq_true, beq_iff_eq] at h
  simp only [h.1.1, h.1.2] at h2
  revert h2; decide
theorem Ct_ofF {E : EV} {mi : MI} {d nc ns : Nat} {av L : List MV} {S : List Sh} {M : Mem} {Q : Option MV → List Sh → Mem → Prop} (hpl : plainFor mi.1 = true) (hn : (aL av).length ≤ mi.2.2.1) (hL : aL av ++ List.replicate (mi.2.2.1 - (aL av).length) (3, 0) = L)
    (h : T E mi d S.length nc ns Q 0 L [] S M 0 0) : Ct E mi d nc ns av S M Q := by
  intro ad sz
  refine MetFree.of_bodySF (code := mi.2.1) (maxLocals := mi.2.2.1) (ret := mi.2.2.2) hpl (fun args s m h hn => by
    obtain ⟨meth, c, h1, h2, h3, h4, h5, h6, -, -⟩ := Cond.code_spec hn (atoms_spec (ws := wds mi) h _ List.mem_cons_self)
    exact ⟨meth, c, h1, h2, h3, h4, h5, h6⟩) ?_
  intro p e s m args below meth c s₁ B hml hv _
  have hh0 : s₁.heap = s.heap := by rw [B.state]; rfl
  suffices hW : W p E.1 e (rm d nc ns) s m args below meth c s.heap [] 0 0 (MQ below (Qc E (va_A (wo ad E.2.2 S M) sz) ad S.length Q) args s nc ns (va_A (wo ad E.2.2 S M) sz)) (entryFrame m args mi.2.2.1) by
    obtain ⟨t, a1, o, b1, b2, b3⟩ := hW s₁ hh0 (Stand.of_body B)
    exact ⟨t, o, a1, b1, b2, ⟨b3.1, b3.2⟩⟩
  obtain ⟨rfl, hsz, hP, hK, hD0, hok, hTb, hSx, hlen, hav⟩ := hv
  have hts := atoms_spec (ws := wds mi) B.pre
  have hown : s.vm.findClass mi.1.cls = some m.cls := findClass_of_methodNamed B.named
  subst hsz
  have hD := hD0.self (sz := s.heap.size)
  have hl := lv_entry (av.map (rv ad)) (n := mi.2.2.1) (by rw [aL_len]; exact hn)
  rw [lg_entry_eq]
  refine h ad ad p e s m _ below meth c s.heap _ [] _ ⟨B.exec, B.bytes, hml, B.returns, hown, fun w hw => hts w (List.mem_cons_of_mem _ hw), B.notSynchronized, (name_of_methodNamed B.named B.method).1⟩ ⟨hP, hD, hK, va_S.rf, hok, fun q hq => Or.inr hq, hTb, hSx, hlen⟩ ?_ (fun v hv => by cases hv) ?_ (fun _ _ => rfl) (Nat.le_refl _)
  · intro v hv
    rw [← hL] at hv
    rcases List.mem_append.mp hv with hv | hv
    · exact aL_ok av hav v hv
    · rw [List.eq_of_mem_replicate hv]; trivial
  · refine has_of hl fun i v hi hv => ?_
    rw [← hL] at hi
    by_cases hlt : i < (aL av).length
    · rw [List.getElem?_append_left hlt] at hi
      have := aL_mem (ad := ad) av 0 i v hi hv
      rwa [Nat.zero_add] at this
    · rw [List.getElem?_append_right (by omega)] at hi
      have := List.eq_of_mem_replicate (List.mem_of_getElem? hi)
      rw [this] at hv
      exact absurd hv (show ¬ (3 : Nat) < 3 by decide)

theorem pfdiv {E : EV} {S : List Sh} {M : Mem} {a b : Int} (h0 : ¬ b = 0) : Ct E miJ9_floorDiv_7cf53 0 0 0 [(0, a), (0, b)] S M (fun r S' M' => S' = S ∧ r = some (0, fdv a b) ∧ M' = M) := by
  refine Ct_ofF (L := [(0, a), (0, b), (3, 0)]) math_plain (Nat.le_of_ble_eq_true rfl) rfl ?_
  refine T_rng fun oL oS ok => ?_
  have ha : -2147483648 ≤ a ∧ a ≤ 2147483647 := by
    have h : -2147483648 ≤ a ∧ a < 2147483648 := oL (0, a) (by simp)
    omega
  have hb : -2147483648 ≤ b ∧ b ≤ 2147483647 := by
    have h : -2147483648 ≤ b ∧ b < 2147483648 := oL (0, b) (by simp)
    omega
  refine T_iload_n (i := 0) (pc' := 1) dJ9_floorDiv_7cf53_0 rfl rfl rfl ?_
  refine T_iload_n (i := 1) (pc' := 2) dJ9_floorDiv_7cf53_1 rfl rfl rfl ?_
  refine T_idiv (pc' := 3) dJ9_floorDiv_7cf53_2 h0 rfl ?_
  refine T_istore_n (i := 2) (L' := [(0, a), (0, b), (0, wr32 (a.tdiv b))]) (pc' := 4) dJ9_floorDiv_7cf53_3 rfl (by decide) rfl rfl ?_
  refine T_iload_n (i := 0) (pc' := 5) dJ9_floorDiv_7cf53_4 rfl rfl rfl ?_
  refine T_iload_n (i := 1) (pc' := 6) dJ9_floorDiv_7cf53_5 rfl rfl rfl ?_
  refine T_ixor (pc' := 7) dJ9_floorDiv_7cf53_6 rfl ?_
  refine T_if_ge (pc' := 21) (pf := 10) dJ9_floorDiv_7cf53_7 (by decide) rfl (fun h => ?_) (fun h => ?_)
  · have hs : a < 0 ↔ b < 0 := Classical.byContradiction fun z => absurd ((m_xor_neg ha hb).mpr z) (by omega)
    refine T_iload_n (i := 2) (pc' := 22) dJ9_floorDiv_7cf53_21 rfl rfl rfl ?_
    exact T_iret dJ9_floorDiv_7cf53_22 rfl ⟨rfl, by rw [fdv_same h0 hs], rfl⟩
  · have hs : ¬ (a < 0 ↔ b < 0) := (m_xor_neg ha hb).mp (by omega)
    have key := fdv_diff h0 hs ha
    refine T_iload_n (i := 2) (pc' := 11) dJ9_floorDiv_7cf53_10 rfl rfl rfl ?_
    refine T_iload_n (i := 1) (pc' := 12) dJ9_floorDiv_7cf53_11 rfl rfl rfl ?_
    refine T_imul (pc' := 13) dJ9_floorDiv_7cf53_12 rfl ?_
    refine T_iload_n (i := 0) (pc' := 14) dJ9_floorDiv_7cf53_13 rfl rfl rfl ?_
    refine T_icmp_eq (pc' := 21) (pf := 17) dJ9_floorDiv_7cf53_14 (by decide) rfl (fun h2 => ?_) (fun h2 => ?_)
    · rw [if_pos h2] at key
      refine T_iload_n (i := 2) (pc' := 22) dJ9_floorDiv_7cf53_21 rfl rfl rfl ?_
      exact T_iret dJ9_floorDiv_7cf53_22 rfl ⟨rfl, by rw [key], rfl⟩
    · rw [if_neg h2] at key
      refine T_iload_n (i := 2) (pc' := 18) dJ9_floorDiv_7cf53_17 rfl rfl rfl ?_
      refine T_iconst (pc' := 19) dJ9_floorDiv_7cf53_18 (by decide) rfl ?_
      refine T_isub (pc' := 20) dJ9_floorDiv_7cf53_19 rfl ?_
      exact T_iret dJ9_floorDiv_7cf53_20 rfl ⟨rfl, by rw [key], rfl⟩
theorem U_fdiv {E : EV} {mi : MI} {d n0 nc ns : Nat} {Q : Option MV → List Sh → Mem → Prop} {pc pc' : Nat} {L st : List MV} {S : List Sh} {M : Mem} {cells slots : Nat} {own : String} {idx : Nat} {a b : Int} (hd : decode mi.2.1 pc = .ok (.invokestatic idx, 3)) (ho : mi.1.cls = own) (hlink : Cond.methodLink own idx miJ9_floorDiv_7cf53.1 ∈ lw_ok) (hb : ¬ b = 0) (hfit : (st.map (fun v => if v.1 = 1 then 2 else 1)).sum ≤ 8) (hd2 : 1 ≤ d) (hc : cells ≤ nc ∧ slots ≤ ns) (hp : pc + 3 = pc') (kk : T E mi d n0 nc ns Q pc' L ((0, fdv a b) :: st) S M cells slots) : T E mi d n0 nc ns Q pc L ((0, b) :: (0, a) :: st) S M cells slots := by
  refine T_callS (av := [(0, a), (0, b)]) (st := st) (d2 := 0) (nc2 := 0) (ns2 := 0) (n := 2) (pc' := pc') hd ho mtJ9_floorDiv_7cf53 mvJ9_floorDiv_7cf53 hlink rfl rfl hfit hd2 ⟨by omega, by omega⟩ hp (pfdiv hb) ?_
  rintro _ _ _ ⟨rfl, rfl, rfl⟩ _
  exact kk
