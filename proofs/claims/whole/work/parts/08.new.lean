/-! what is made -/
def mnew (M : Mem) (p : Int) (f : Int → Int) : Mem := fun q => if q = p then f else M q
def adn (ad : Nat → Nat) (n q : Nat) : Nat → Nat := fun k => if k = n then q else ad k
theorem adn_agree {ad : Nat → Nat} {n q : Nat} (hn : n < 1000) : ∀ k, k < n ∨ 1000 ≤ k → adn ad n q k = ad k := by
  intro k hk
  unfold adn
  rw [if_neg (by omega)]
theorem fv_agree {ad ad' : Nat → Nat} {n t : Nat} (ha : ∀ k, k < n ∨ 1000 ≤ k → ad' k = ad k) {x : Int} (h : okt n t x) : fv ad' t x = fv ad t x := by
  match t, h with
  | 0, _ => rfl
  | 1, _ => rfl
  | 2, h =>
    have h : x < (n : Nat) := h
    show (if x < 0 then Value.null else .ref (ad' x.toNat)) = (if x < 0 then Value.null else .ref (ad x.toNat))
    by_cases h0 : x < 0
    · rw [if_pos h0, if_pos h0]
    · rw [if_neg h0, if_neg h0, ha _ (Or.inl (by omega))]
  | k + 3, _ => rfl
theorem cellE_agree {ad ad' : Nat → Nat} {n : Nat} {cA : Nat → ClassId} {sh : Sh} {f : Int → Int} (ha : ∀ k, k < n ∨ 1000 ≤ k → ad' k = ad k) (h : ∀ j : Nat, okt n (shT sh j) (f (j : Nat))) : cellE ad' cA sh f = cellE ad cA sh f := by
  unfold cellE
  by_cases h0 : sh.1 = 0
  · rw [if_pos h0, if_pos h0]
  · rw [if_neg h0, if_neg h0]
    congr 2
    refine List.map_congr_left fun k _ => ?_
    have := h k
    unfold shT at this
    rw [if_neg h0] at this
    exact fv_agree ha this
theorem okt_mono {n n' t : Nat} {x : Int} (hn : n ≤ n') (h : okt n t x) : okt n' t x := by
  match t, h with
  | 0, h => exact h
  | 1, h => exact h
  | 2, h =>
    have h : x < (n : Nat) := h
    show x < (n' : Nat)
    omega
  | 3, h => exact h
  | 4, h => exact h
  | k + 5, _ => trivial
theorem wo_push {ad : Nat → Nat} {q : Nat} {cA : Nat → ClassId} {S : List Sh} {M : Mem} {sh : Sh} {f : Int → Int} (hok : okS S M) (hn : S.length < 1000) :
    wo (adn ad S.length q) cA (S ++ [sh]) (mnew M (S.length : Nat) f) = wo ad cA S M ++ [(q, cellE (adn ad S.length q) cA sh f)] := by
  apply List.ext_getElem?
  intro i
  by_cases hi : i < S.length
  · rw [List.getElem?_append_left (by simp [wo, hi])]
    have hs : (S ++ [sh])[i]? = some S[i] := by rw [List.getElem?_append_left hi, List.getElem?_eq_getElem hi]
    have hs2 : S[i]? = some S[i] := List.getElem?_eq_getElem hi
    rw [wo_get hs, wo_get hs2]
    have e1 : adn ad S.length q i = ad i := by unfold adn; rw [if_neg (by omega)]
    have e2 : mnew M (S.length : Nat) f (i : Nat) = M (i : Nat) := by unfold mnew; rw [if_neg (by omega)]
    rw [e1, e2, cellE_agree (adn_agree hn) (fun j => hok i _ hs2 j)]
  · rw [List.getElem?_append_right (by simp [wo]; omega)]
    have hl : (wo ad cA S M).length = S.length := by simp [wo]
    rw [hl]
    by_cases hi2 : i = S.length
    · subst hi2
      have hs : (S ++ [sh])[S.length]? = some sh := by simp
      rw [wo_get hs, Nat.sub_self]
      have e1 : adn ad S.length q S.length = q := by unfold adn; rw [if_pos rfl]
      have e2 : mnew M (S.length : Nat) f (S.length : Nat) = f := by unfold mnew; rw [if_pos rfl]
      rw [e1, e2]
      rfl
    · have h1 : (wo (adn ad S.length q) cA (S ++ [sh]) (mnew M (S.length : Nat) f))[i]? = none := by
        rw [List.getElem?_eq_none_iff]; simp [wo]; omega
      have h2 : ([(q, cellE (adn ad S.length q) cA sh f)])[i - S.length]? = none := by
        rw [List.getElem?_eq_none_iff]; simp; omega
      rw [h1, h2]
theorem okS_push {S : List Sh} {M : Mem} {sh : Sh} {f : Int → Int} (hok : okS S M) (hf : ∀ j : Nat, okt (S.length + 1) (shT sh j) (f (j : Nat))) : okS (S ++ [sh]) (mnew M (S.length : Nat) f) := by
  intro p sh' hp j
  have hl : (S ++ [sh]).length = S.length + 1 := by simp
  rw [hl]
  by_cases h : p < S.length
  · rw [List.getElem?_append_left h] at hp
    have e2 : mnew M (S.length : Nat) f (p : Nat) = M (p : Nat) := by unfold mnew; rw [if_neg (by omega)]
    rw [e2]
    exact okt_mono (by omega) (hok p sh' hp j)
  · have hp2 : p < (S ++ [sh]).length := (List.getElem?_eq_some_iff.mp hp).1
    rw [hl] at hp2
    have : p = S.length := by omega
    subst this
    rw [List.getElem?_append_right (Nat.le_refl _), Nat.sub_self] at hp
    cases hp
    have e2 : mnew M (S.length : Nat) f (S.length : Nat) = f := by unfold mnew; rw [if_pos rfl]
    rw [e2]
    exact hf j
/-- what a new object's fields hold -/
def dfl (t : Nat) : Int := if t = 2 then -1 else 0
def nobj (ci : Nat) : Int → Int := fun j => dfl (ftc ci j.toNat)
def nzero : Int → Int := fun _ => 0
theorem dfl_ok {n ci k : Nat} : okt n (ftc ci k) (dfl (ftc ci k)) := by
  rcases tcode_lt (ftyO ci k) with e | e | e | e <;> (rw [show ftc ci k = _ from e])
  · exact (by decide : r32 0)
  · exact (by decide : r64 0)
  · show (-1 : Int) < (n : Nat); omega
  · exact ⟨by decide, by decide⟩
theorem dfl_val {ad : Nat → Nat} {ci k : Nat} (h : okty (ftyO ci k) = true) : defaultValue (ftyO ci k) = fv ad (ftc ci k) (dfl (ftc ci k)) := by
  unfold ftc
  cases hh : ftyO ci k <;> first | rfl | (rw [hh] at h; simp [okty] at h)
section NEW
variable {E : EV} {mi : MI} {d n0 nc ns : Nat} {Q : Option MV → List Sh → Mem → Prop} {pc pc' : Nat} {L L' st : List MV} {S : List Sh} {M : Mem} {cells slots : Nat}
theorem T_new {own C : String} {Tf : u_T} {N ci idx : Nat} (hd : decode mi.2.1 pc = .ok (.new idx, 3)) (ho : mi.1.cls = own) (hc : Cl ci C Tf N) (hcl : Cond.classLink own idx C ∈ lw_ok) (hty : ∀ k, k < N → okty (ftyO ci k) = true) (hcs : cells + 1 ≤ nc ∧ slots + N ≤ ns) (hlen : S.length + 1 < 1000) (hp : pc + 3 = pc')
    (kk : T E mi d n0 nc ns Q pc' L ((2, (S.length : Nat)) :: st) (S ++ [(1, ci, N)]) (mnew M (S.length : Nat) (nobj ci)) (cells + 1) (slots + N)) : T E mi d n0 nc ns Q pc L st S M cells slots := by
  subst hp
  intro ad0 ad p e s m args below meth c H A locs ls C0 hH oL oS hL ha hn
  have ht := C0.2.2.2.2.2.1
  have hlt : S.length < 1000 := by omega
  refine va_new C0.1 C0.2.1 (own := own) (ci := ci) (fs := (List.range N).map (fun k => fv ad (ftc ci k) (nobj ci (k : Nat)))) ht hc.2.1 (ftyO ci) hc.2.2.1 (by rw [← ho]; exact C0.2.2.2.2.1) (ht _ hcl) (ht _ hc.2.2.2.2.1) (ht _ hc.2.2.2.2.2) hH.2.2.1 hH.1 hH.2.1 hH.2.2.2.1 hH.2.2.2.2.2.1 hc.1 ?_ hcs.1 hcs.2 hd (fun q H1 h1 h2 h3 => ?_)
  · intro j hj
    unfold vp_V
    rw [List.getD_eq_getElem?_getD, fs_get hj]
    exact dfl_val (hty j hj)
  · have hag := adn_agree (ad := ad) (q := q) hlt
    have hokn : ∀ j : Nat, okt (S.length + 1) (shT (1, ci, N) j) (nobj ci (j : Nat)) := fun j => dfl_ok
    have ec : (List.range N).map (fun k => fv ad (ftc ci k) (nobj ci (k : Nat))) = (List.range N).map (fun k => fv (adn ad S.length q) (ftc ci k) (nobj ci (k : Nat))) := by
      refine List.map_congr_left fun k _ => (fv_agree (n := 0) (fun k hk => hag k (hk.imp (fun z => absurd z (Nat.not_lt_zero _)) id)) dfl_ok).symm
    have hw : wo ad E.2.2 S M ++ [(q, .inr (ci, (List.range N).map (fun k => fv ad (ftc ci k) (nobj ci (k : Nat)))))] = wo (adn ad S.length q) E.2.2 (S ++ [(1, ci, N)]) (mnew M (S.length : Nat) (nobj ci)) := by
      rw [wo_push hH.2.2.2.2.1 hlt, ec]
      rfl
    rw [hw] at h1 h2
    have hl2 : (S ++ [((1 : Nat), ci, N)]).length = S.length + 1 := by simp
    have hle : S.length ≤ (S ++ [((1 : Nat), ci, N)]).length := by omega
    have key := kk ad0 (adn ad S.length q) p e s m args below meth c H1 A locs ls C0 ⟨h1, h2, hH.2.2.1, h3, okS_push hH.2.2.2.2.1 hokn, hH.2.2.2.2.2.1, Tb_agree hag hH.2.2.2.2.2.2.1, Sx_agree hag hH.2.2.2.2.2.2.2.1, by omega⟩ (fun v hv => okv_mono hle (oL v hv)) (fun v hv => by
        rcases List.mem_cons.mp hv with rfl | hv
        · exact ⟨Int.natCast_nonneg _, Or.inl (by rw [hl2]; omega)⟩
        · exact okv_mono hle (oS v hv)) (by rw [prs_agree hag oL]; exact hL) (fun k hk => by rw [hag k (hk.imp (fun q => Nat.lt_of_lt_of_le q hn) id)]; exact ha k hk) (Nat.le_trans hn hle)
    rw [List.map_cons, map_agree hag oS] at key
    have er : rv (adn ad S.length q) (2, (S.length : Nat)) = .ref q := by
      show Value.ref (adn ad S.length q _) = _
      unfold adn
      simp
    rw [er] at key
    exact key
theorem va_uniq {s : State} {cA cB : ClassId} {ty : FieldType} (hp : ∀ C, ty ≠ .object C) (h1 : va_RA s cA ty) (h2 : va_RA s cB ty) : cA = cB := by
  cases ty <;> first | (exact Option.some.inj (Eq.trans (Eq.symm h1) h2)) | (exact absurd rfl (hp _))
theorem T_newarr {atype : ArrayType} {ty : FieldType} {et t0 n : Nat} {x : Int} (hd : decode mi.2.1 pc = .ok (.newarray atype, 2)) (hw : ∀ (A : Array Value) (s : State), (∀ w ∈ lw_ok, w.before A s = true) → (Cond.arrayClass (newarray.typeOf atype)).before A s = true) (hty : newarray.typeOf atype = ty)
    (het : (et = 0 ∧ ty = .int ∧ t0 = 0) ∨ (et = 1 ∧ ty = .long ∧ t0 = 1) ∨ (et = 3 ∧ ty = .boolean ∧ t0 = 2) ∨ (et = 4 ∧ ty = .char ∧ t0 = 3)) (hx : x = (n : Nat)) (hn2 : n < 100000) (hcs : cells + 1 ≤ nc ∧ slots + n ≤ ns) (hlen : S.length + 1 < 1000) (hp : pc + 2 = pc')
    (kk : T E mi d n0 nc ns Q pc' L ((2, (S.length : Nat)) :: st) (S ++ [(0, et, n)]) (mnew M (S.length : Nat) nzero) (cells + 1) (slots + n)) : T E mi d n0 nc ns Q pc L ((0, x) :: st) S M cells slots := by
  subst hp; subst hx
  intro ad0 ad p e s m args below meth c H A locs ls C0 hH oL oS hL ha hn
  have o2 := ok_cons.mp oS
  have hlt : S.length < 1000 := by omega
  have hr : r32 ((n : Nat) : Int) := by unfold r32; omega
  have hn' : (Int32.ofInt ((n : Nat) : Int)).toNatClampNeg = n := by rw [cl_i hr]; simp
  have hneg : ¬ Int32.ofInt ((n : Nat) : Int) < 0 := by
    rw [show (0 : Int32) = Int32.ofInt 0 from rfl, wr_lt hr (by decide)]; omega
  have main : ∀ (a0 : vp_A), (∀ cA : ClassId, vp_cell cA a0 = arrV cA n (fun _ => defaultValue ty)) → (cellE (ad) E.2.2 (0, et, n) nzero = .inl (E.2.2 et, a0)) → (∀ ad', cellE ad' E.2.2 (0, et, n) nzero = cellE ad E.2.2 (0, et, n) nzero) → n * componentBytes ty ≤ 536870912 → (∀ C, ty ≠ .object C) → (tysO E.2.2)[t0]? = some (E.2.2 et, ty) → (∀ j : Nat, okt (S.length + 1) et 0) →
      W p E.1 e (rm d nc ns) s m args below meth c H locs cells slots (MQ below (Qc E A ad0 n0 Q) args s nc ns A) (F0 m pc ls (.int (Int32.ofInt ((n : Nat) : Int)) :: st.map (rv ad))) := by
    intro a0 hcell he1 he2 hby hpr ht0 hok0
    refine va_newa C0.1 C0.2.1 (hw _ _ C0.2.2.2.2.2.1) hty hH.2.2.1 hH.1 hH.2.1 hH.2.2.2.1 hH.2.2.2.2.2.1 hcell hneg hn' hby hcs.1 hcs.2 hd (fun q cA H1 hK h1 h2 h3 => ?_)
    have hag := adn_agree (ad := ad) (q := q) hlt
    have hca : cA = E.2.2 et := va_uniq hpr (hK.2 4 (cA, ty) (by rfl)).2 (hH.2.2.1.2 t0 _ ht0).2
    subst hca
    have hw : wo ad E.2.2 S M ++ [(q, .inl (E.2.2 et, a0))] = wo (adn ad S.length q) E.2.2 (S ++ [(0, et, n)]) (mnew M (S.length : Nat) nzero) := by
      rw [wo_push hH.2.2.2.2.1 hlt, he2, he1]
    rw [hw] at h1 h2
    have hl2 : (S ++ [((0 : Nat), et, n)]).length = S.length + 1 := by simp
    have hle : S.length ≤ (S ++ [((0 : Nat), et, n)]).length := by omega
    have key := kk ad0 (adn ad S.length q) p e s m args below meth c H1 A locs ls C0 ⟨h1, h2, hH.2.2.1, h3, okS_push hH.2.2.2.2.1 (fun j => hok0 j), hH.2.2.2.2.2.1, Tb_agree hag hH.2.2.2.2.2.2.1, Sx_agree hag hH.2.2.2.2.2.2.2.1, by omega⟩ (fun v hv => okv_mono hle (oL v hv)) (fun v hv => by
        rcases List.mem_cons.mp hv with rfl | hv
        · exact ⟨Int.natCast_nonneg _, Or.inl (by rw [hl2]; omega)⟩
        · exact okv_mono hle (o2.2 v hv)) (by rw [prs_agree hag oL]; exact hL) (fun k hk => by rw [hag k (hk.imp (fun q => Nat.lt_of_lt_of_le q hn) id)]; exact ha k hk) (Nat.le_trans hn hle)
    rw [List.map_cons, map_agree hag o2.2] at key
    have er : rv (adn ad S.length q) (2, (S.length : Nat)) = .ref q := by
      show Value.ref (adn ad S.length q _) = _
      unfold adn
      simp
    rw [er] at key
    exact key
  rcases het with ⟨rfl, rfl, rfl⟩ | ⟨rfl, rfl, rfl⟩ | ⟨rfl, rfl, rfl⟩ | ⟨rfl, rfl, rfl⟩
  · exact main (n, .inl (fun _ => 0)) (fun _ => rfl) rfl (fun _ => rfl) (by show n * 4 ≤ _; omega) (fun C z => by cases z) rfl (fun _ => (by decide : r32 0))
  · exact main (n, .inr (.inl (fun _ => 0))) (fun _ => rfl) rfl (fun _ => rfl) (by show n * 8 ≤ _; omega) (fun C z => by cases z) rfl (fun _ => (by decide : r64 0))
  · exact main (n, .inl (fun _ => 0)) (fun _ => rfl) rfl (fun _ => rfl) (by show n * 1 ≤ _; omega) (fun C z => by cases z) rfl (fun _ => ⟨by decide, by decide⟩)
  · exact main (n, .inl (fun _ => 0)) (fun _ => rfl) rfl (fun _ => rfl) (by show n * 2 ≤ _; omega) (fun C z => by cases z) rfl (fun _ => ⟨by decide, by decide⟩)
/-- Object's constructor -/
theorem T_objInit {own : String} {idx : Nat} {x : Int} (hd : decode mi.2.1 pc = .ok (.invokespecial idx, 3)) (ho : mi.1.cls = own) (hw : Cond.methodLink own idx Lib.objectInit ∈ lw_ok ∧ Cond.instanceMethod Lib.objectInit ∈ lw_ok ∧ Cond.code Lib.objectInit ⟨#[0xb1]⟩ 1 none ∈ lw_ok) (hfit : (st.map (fun v => if v.1 = 1 then 2 else 1)).sum ≤ 8) (hd2 : 1 ≤ d) (hp : pc + 3 = pc') (kk : T E mi d n0 nc ns Q pc' L st S M cells slots) : T E mi d n0 nc ns Q pc L ((2, x) :: st) S M cells slots := by
  subst hp
  intro ad0 ad p e s m args below meth c H A locs ls C0 hH oL oS hL ha hn
  have o2 := ok_cons.mp oS
  have ht := C0.2.2.2.2.2.1
  have hf := fit_of st ad hfit
  exact W.objInit C0.1 C0.2.1 (by rw [← ho]; exact C0.2.2.2.2.1) (ht _ hw.1) (ht _ hw.2.1) (ht _ hw.2.2) rfl (hL.1.trans C0.2.2.1.symm) rfl hd hd2 (by show 2 * _ + _ + 12 ≤ 64 * d; have : (F0 m pc ls (List.map (rv ad) ((2, x) :: st))).monitorRoom = 0 := rfl; omega) (kk ad0 ad p e s m args below meth c H A locs ls C0 hH oL o2.2 hL ha hn)
end NEW
