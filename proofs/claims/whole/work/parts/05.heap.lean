/-! the heap's instructions -/
theorem in_ok {ws : List Cond} (ps : List Nat) (hp : ws = ps.filterMap (fun i => lw_tbl[i]?)) (h : ws.all goodWord = true) : ∀ w ∈ ws, w ∈ lw_ok := by
  intro w hw
  refine List.mem_filter.mpr ⟨?_, List.all_eq_true.mp h w hw⟩
  rw [hp] at hw
  obtain ⟨i, -, hi⟩ := List.mem_filterMap.mp hw
  exact List.mem_of_getElem? hi
theorem in_ok1 {w : Cond} (i : Nat) (hp : lw_tbl[i]? = some w) (h : goodWord w = true) : w ∈ lw_ok := List.mem_filter.mpr ⟨List.mem_of_getElem? hp, h⟩
theorem in_nest {w : Cond} (i : Nat) (hp : lw_tbl[i]? = some w) (h : isNest w = true) : w ∈ lw_nest := List.mem_filter.mpr ⟨List.mem_of_getElem? hp, h⟩
theorem good_ok : GoodIn lw_ok lw_ok := fun w hw => ⟨hw, good_of_word (List.mem_filter.mp hw).2⟩
theorem wo_get {ad : Nat → Nat} {cA : Nat → ClassId} {S : List Sh} {M : Mem} {p : Nat} {sh : Sh} (h : S[p]? = some sh) : (wo ad cA S M)[p]? = some (ad p, cellE ad cA sh (M (p : Nat))) := by
  simp [wo, List.getElem?_mapIdx, h]
theorem wo_set {ad : Nat → Nat} {cA : Nat → ClassId} {S : List Sh} {M : Mem} {p : Nat} {sh : Sh} (h : S[p]? = some sh) (f : Int → Int) : (wo ad cA S M).set p (ad p, cellE ad cA sh f) = wo ad cA S (fun q => if q = (p : Nat) then f else M q) := by
  apply List.ext_getElem?
  intro i
  rw [List.getElem?_set]
  by_cases hi : p = i
  · subst hi
    have hl : p < (wo ad cA S M).length := (List.getElem?_eq_some_iff.mp (wo_get h)).1
    rw [if_pos rfl, if_pos hl, wo_get h, if_pos rfl]
  · rw [if_neg hi]
    simp only [wo, List.getElem?_mapIdx]
    cases hS : S[i]? with
    | none => rfl
    | some x =>
      have : ¬ ((i : Nat) : Int) = (p : Nat) := fun z => hi (by omega)
      simp [this]
def fvm (t : Nat) (x : Int) : MV := match t with
  | 1 => (1, x)
  | 2 => (2, x)
  | _ => (0, x)
theorem tcode_lt (ty : FieldType) : tcode ty = 0 ∨ tcode ty = 1 ∨ tcode ty = 2 ∨ tcode ty = 3 := by cases ty <;> simp [tcode]
theorem fvm_ok {n ci k : Nat} {x : Int} (h : okt n (ftc ci k) x) (h2 : ftc ci k = 2 → 0 ≤ x) : okv n (fvm (ftc ci k) x) := by
  rcases tcode_lt (ftyO ci k) with e | e | e | e <;> (rw [show ftc ci k = _ from e] at h h2 ⊢)
  · exact h
  · exact h
  · have h : x < (n : Nat) := h
    have h3 := h2 rfl
    exact ⟨h3, Or.inl (by omega)⟩
  · show r32 x
    have h : 0 ≤ x ∧ x ≤ 1 := h
    unfold r32; omega
theorem fvm_rv {ad : Nat → Nat} {ci k : Nat} {x : Int} (h : ftc ci k = 2 → 0 ≤ x) : fv ad (ftc ci k) x = rv ad (fvm (ftc ci k) x) := by
  rcases tcode_lt (ftyO ci k) with e | e | e | e <;> (rw [show ftc ci k = _ from e] at h ⊢)
  · rfl
  · rfl
  · show (if x < 0 then Value.null else .ref (ad x.toNat)) = .ref (ad x.toNat)
    rw [if_neg (by have := h rfl; omega)]
  · rfl
/-- what is known of a class whose objects the worlds hold -/
def Cl (ci : Nat) (C : String) (Tf : u_T) (N : Nat) : Prop := vwCl[ci]? = some (C, Tf, N) ∧ (∀ w ∈ u_ws C Tf N, w ∈ lw_ok) ∧ (∀ k, k < N → parseFieldDescriptor (Tf k).2.2.1 = some (ftyO ci k)) ∧ (∀ a, a < N → ∀ b, b < N → a ≠ b → (Tf a).2.1 ≠ (Tf b).2.1) ∧ Cond.instantiable C N ∈ lw_ok ∧ Cond.initialized C ∈ lw_ok
def okty : FieldType → Bool
  | .int | .long | .boolean | .object _ | .array _ => true
  | _ => false
theorem narrow_fv {n : Nat} {ad : Nat → Nat} {ty : FieldType} {x : Int} (h : okty ty = true) (hx : okt n (tcode ty) x) : narrow ty (fv ad (tcode ty) x) = fv ad (tcode ty) x ∧ fits ty (fv ad (tcode ty) x) = true := by
  cases ty <;> first | (exact ⟨rfl, rfl⟩; done) | (simp [okty] at h; done) | skip
  · have hx : 0 ≤ x ∧ x ≤ 1 := hx
    have : x = 0 ∨ x = 1 := by omega
    rcases this with rfl | rfl <;> exact ⟨rfl, rfl⟩
  all_goals
    show narrow _ (if x < 0 then Value.null else .ref (ad x.toNat)) = _ ∧ fits _ (if x < 0 then Value.null else .ref (ad x.toNat)) = true
    by_cases hx0 : x < 0
    · rw [if_pos hx0]
      refine ⟨?_, rfl⟩
      show _ = (if x < 0 then Value.null else .ref (ad x.toNat))
      rw [if_pos hx0]; rfl
    · rw [if_neg hx0]
      refine ⟨?_, rfl⟩
      show _ = (if x < 0 then Value.null else .ref (ad x.toNat))
      rw [if_neg hx0]; rfl
theorem cell_o {ad : Nat → Nat} {cA : Nat → ClassId} {ci N : Nat} {f : Int → Int} : cellE ad cA (1, ci, N) f = .inr (ci, (List.range N).map (fun k => fv ad (ftc ci k) (f (k : Nat)))) := rfl
theorem fs_get {ad : Nat → Nat} {ci N k : Nat} {f : Int → Int} (hk : k < N) : ((List.range N).map (fun k => fv ad (ftc ci k) (f (k : Nat))))[k]? = some (fv ad (ftc ci k) (f (k : Nat))) := by
  simp [hk]
theorem fs_set {ad : Nat → Nat} {ci N k : Nat} {f : Int → Int} {x : Int} (hk : k < N) : ((List.range N).map (fun k => fv ad (ftc ci k) (f (k : Nat)))).set k (fv ad (ftc ci k) x) = (List.range N).map (fun j => fv ad (ftc ci j) ((fun q : Int => if q = (k : Nat) then x else f q) (j : Nat))) := by
  apply List.ext_getElem?
  intro i
  rw [List.getElem?_set]
  by_cases hi : k = i
  · subst hi
    rw [if_pos rfl]
    simp [hk]
  · rw [if_neg hi]
    have : ¬ ((i : Nat) : Int) = (k : Nat) := fun z => hi (by omega)
    simp only [List.getElem?_map]
    by_cases hiN : i < N
    · simp [hiN, this]
    · simp [hiN]
theorem okS_set {S : List Sh} {M : Mem} {p k : Nat} {sh : Sh} {x : Int} (h : okS S M) (hp : S[p]? = some sh) (hx : okt S.length (shT sh k) x) : okS S (mset M p k x) := by
  intro q sh' hq j
  unfold mset
  by_cases hqp : ((q : Nat) : Int) = (p : Nat)
  · have : q = p := by omega
    subst this
    rw [if_pos rfl]
    rw [hp] at hq
    cases hq
    by_cases hj : ((j : Nat) : Int) = (k : Nat)
    · have : j = k := by omega
      subst this
      simp only [if_true]
      exact hx
    · simp only [hj, if_false]
      exact h q sh hp j
  · rw [if_neg hqp]
    exact h q sh' hq j
section HEAP
variable {E : EV} {mi : MI} {d n0 nc ns : Nat} {Q : Option MV → List Sh → Mem → Prop} {pc pc' : Nat} {L L' st : List MV} {S : List Sh} {M : Mem} {cells slots : Nat}
theorem T_gf {own ref C : String} {Tf : u_T} {N ci idx k : Nat} {x : Int} {v : MV} (hd : decode mi.2.1 pc = .ok (.getfield idx, 3)) (ho : mi.1.cls = own) (hc : Cl ci C Tf N) (hx : 0 ≤ x) (hS : S[x.toNat]? = some (1, ci, N)) (hk : k < N)
    (hlink : Cond.fieldLink own idx ref (Tf k).2.1 (Tf k).2.2.1 ∈ lw_ok) (hsame : (Tf k).1 = ref) (hv : fvm (ftc ci k) (M x (k : Nat)) = v) (hr : ftc ci k = 2 → 0 ≤ M x (k : Nat)) (hp : pc + 3 = pc') (kk : T E mi d n0 nc ns Q pc' L (v :: st) S M cells slots) : T E mi d n0 nc ns Q pc L ((2, x) :: st) S M cells slots := by
  subst hp; subst hv
  intro ad0 ad p e s m args below meth c H A locs ls C0 hH oL oS hL ha hn
  have o2 := ok_cons.mp oS
  have hxx : ((x.toNat : Nat) : Int) = x := Int.toNat_of_nonneg hx
  have h1 := wo_get (ad := ad) (cA := E.2.2) (M := M) hS
  rw [hxx, cell_o] at h1
  have hok : okt S.length (ftc ci k) (M x (k : Nat)) := by
    have := hH.2.2.2.2.1 _ _ hS k
    rw [hxx] at this
    exact this
  refine va_get C0.1 C0.2.1 C0.2.2.2.2.2.1 hc.2.1 (own := own) (by rw [← ho]; exact C0.2.2.2.2.1) hH.2.2.1 hH.1 x.toNat h1 hc.1 k hk (C0.2.2.2.2.2.1 _ hlink) (fun y hy => by rw [← hsame]; exact hy) (v := rv ad (fvm (ftc ci k) (M x (k : Nat)))) ?_ hd
    (kk ad0 ad p e s m args below meth c H A locs ls C0 hH oL (ok_cons.mpr ⟨fvm_ok hok hr, o2.2⟩) hL ha hn)
  rw [fs_get hk, fvm_rv hr]
theorem T_gfN {own ref C host : String} {Tf : u_T} {N ci idx k : Nat} {x : Int} {v : MV} (hd : decode mi.2.1 pc = .ok (.getfield idx, 3)) (ho : mi.1.cls = own) (hc : Cl ci C Tf N) (hx : 0 ≤ x) (hS : S[x.toNat]? = some (1, ci, N)) (hk : k < N)
    (hlink : Cond.fieldLinkNest own idx ref (Tf k).2.1 (Tf k).2.2.1 host ∈ lw_nest) (hsame : (Tf k).1 = ref) (hv : fvm (ftc ci k) (M x (k : Nat)) = v) (hr : ftc ci k = 2 → 0 ≤ M x (k : Nat)) (hp : pc + 3 = pc') (kk : T E mi d n0 nc ns Q pc' L (v :: st) S M cells slots) : T E mi d n0 nc ns Q pc L ((2, x) :: st) S M cells slots := by
  subst hp; subst hv
  intro ad0 ad p e s m args below meth c H A locs ls C0 hH oL oS hL ha hn
  have o2 := ok_cons.mp oS
  have hxx : ((x.toNat : Nat) : Int) = x := Int.toNat_of_nonneg hx
  have h1 := wo_get (ad := ad) (cA := E.2.2) (M := M) hS
  rw [hxx, cell_o] at h1
  have hok : okt S.length (ftc ci k) (M x (k : Nat)) := by
    have := hH.2.2.2.2.1 _ _ hS k
    rw [hxx] at this
    exact this
  refine va_getN C0.1 C0.2.1 C0.2.2.2.2.2.1 hc.2.1 (own := own) (by rw [← ho]; exact C0.2.2.2.2.1) hH.2.2.1 hH.1 x.toNat h1 hc.1 k hk (va_Nw.use rfl (hH.2.2.2.2.2.2.1.1 _ hlink)) (fun y hy => by rw [← hsame]; exact hy) (v := rv ad (fvm (ftc ci k) (M x (k : Nat)))) ?_ hd
    (kk ad0 ad p e s m args below meth c H A locs ls C0 hH oL (ok_cons.mpr ⟨fvm_ok hok hr, o2.2⟩) hL ha hn)
  rw [fs_get hk, fvm_rv hr]
/-- the world behind a write -/
theorem Hd_set {E : EV} {ad : Nat → Nat} {S : List Sh} {M : Mem} {A : Nat → Prop} {s : State} {H H1 : Heap} {locs locs1 : List Loc} (hH : Hd E ad S M A s H locs) {p k : Nat} {sh : Sh} {x : Int} (hp : S[p]? = some sh) (hx : okt S.length (shT sh k) x) {e : va_E} (he : e = cellE ad E.2.2 sh ((mset M p k x) (p : Nat)))
    (h1 : va_P E.2.1 vwCl ((wo ad E.2.2 S M).set p (ad p, e)) H1) (h2 : va_D A ((wo ad E.2.2 S M).set p (ad p, e))) (h3 : va_S A s.heap H1 locs1) : Hd E ad S (mset M p k x) A s H1 locs1 := by
  have key : (wo ad E.2.2 S M).set p (ad p, e) = wo ad E.2.2 S (mset M p k x) := by
    rw [he, wo_set hp]
    congr 1
    funext q
    unfold mset
    by_cases hq : q = (p : Nat)
    · rw [if_pos hq, if_pos hq, if_pos rfl]
    · rw [if_neg hq, if_neg hq]
  rw [key] at h1 h2
  exact ⟨h1, h2, hH.2.2.1, h3, okS_set hH.2.2.2.2.1 hp hx, hH.2.2.2.2.2.1, hH.2.2.2.2.2.2.1, hH.2.2.2.2.2.2.2.1, hH.2.2.2.2.2.2.2.2⟩
theorem mset_self {M : Mem} {p k : Nat} {x : Int} : (mset M (p : Nat) (k : Nat) x) (p : Nat) = fun q : Int => if q = (k : Nat) then x else M (p : Nat) q := by
  unfold mset
  rw [if_pos rfl]
theorem T_pf {own ref C : String} {Tf : u_T} {N ci idx k : Nat} {x y : Int} {v : MV} (hd : decode mi.2.1 pc = .ok (.putfield idx, 3)) (ho : mi.1.cls = own) (hc : Cl ci C Tf N) (hx : 0 ≤ x) (hS : S[x.toNat]? = some (1, ci, N)) (hk : k < N)
    (hlink : Cond.fieldLink own idx ref (Tf k).2.1 (Tf k).2.2.1 ∈ lw_ok) (hsame : (Tf k).1 = ref) (hfin : (Tf k).2.2.2 = false) (hty : okty (ftyO ci k) = true) (hv : fvm (ftc ci k) y = v) (hr : ftc ci k = 2 → 0 ≤ y) (hy : okv S.length v → okt S.length (ftc ci k) y) (hp : pc + 3 = pc') (kk : T E mi d n0 nc ns Q pc' L st S (mset M x (k : Nat) y) cells slots) : T E mi d n0 nc ns Q pc L (v :: (2, x) :: st) S M cells slots := by
  subst hp; subst hv
  intro ad0 ad p e s m args below meth c H A locs ls C0 hH oL oS hL ha hn
  have o2 := ok_cons.mp oS
  have o3 := ok_cons.mp o2.2
  have hxx : ((x.toNat : Nat) : Int) = x := Int.toNat_of_nonneg hx
  have h1 := wo_get (ad := ad) (cA := E.2.2) (M := M) hS
  rw [hxx, cell_o] at h1
  have hy := hy o2.1
  have hnf := narrow_fv (ad := ad) hty hy
  have ev : rv ad (fvm (ftc ci k) y) = fv ad (ftc ci k) y := (fvm_rv hr).symm
  rw [List.map_cons, ev]
  refine va_put C0.1 C0.2.1 C0.2.2.2.2.2.1 hc.2.1 (ftyO ci) hc.2.2.1 hc.2.2.2.1 (own := own) (by rw [← ho]; exact C0.2.2.2.2.1) hH.2.2.1 hH.1 hH.2.1 hH.2.2.2.1 x.toNat h1 hc.1 k hk (C0.2.2.2.2.2.1 _ hlink) (fun y hy => by rw [← hsame]; exact hy) hfin (hc.2.2.1 k hk) hnf.1 hnf.2 (by simpa using hk) hd (fun H1 locs1 g1 g2 g3 => ?_)
  have hH' := Hd_set hH (k := k) (x := y) hS hy (by rw [cell_o, fs_set hk, mset_self, hxx]) g1 g2 g3
  rw [hxx] at hH'
  exact kk ad0 ad p e s m args below meth c H1 A locs1 ls C0 hH' oL o3.2 hL ha hn
theorem T_pfN {own ref C host : String} {Tf : u_T} {N ci idx k : Nat} {x y : Int} {v : MV} (hd : decode mi.2.1 pc = .ok (.putfield idx, 3)) (ho : mi.1.cls = own) (hc : Cl ci C Tf N) (hx : 0 ≤ x) (hS : S[x.toNat]? = some (1, ci, N)) (hk : k < N)
    (hlink : Cond.fieldLinkNest own idx ref (Tf k).2.1 (Tf k).2.2.1 host ∈ lw_nest) (hsame : (Tf k).1 = ref) (hfin : (Tf k).2.2.2 = false) (hty : okty (ftyO ci k) = true) (hv : fvm (ftc ci k) y = v) (hr : ftc ci k = 2 → 0 ≤ y) (hy : okv S.length v → okt S.length (ftc ci k) y) (hp : pc + 3 = pc') (kk : T E mi d n0 nc ns Q pc' L st S (mset M x (k : Nat) y) cells slots) : T E mi d n0 nc ns Q pc L (v :: (2, x) :: st) S M cells slots := by
  subst hp; subst hv
  intro ad0 ad p e s m args below meth c H A locs ls C0 hH oL oS hL ha hn
  have o2 := ok_cons.mp oS
  have o3 := ok_cons.mp o2.2
  have hxx : ((x.toNat : Nat) : Int) = x := Int.toNat_of_nonneg hx
  have h1 := wo_get (ad := ad) (cA := E.2.2) (M := M) hS
  rw [hxx, cell_o] at h1
  have hy := hy o2.1
  have hnf := narrow_fv (ad := ad) hty hy
  have ev : rv ad (fvm (ftc ci k) y) = fv ad (ftc ci k) y := (fvm_rv hr).symm
  rw [List.map_cons, ev]
  refine va_putN C0.1 C0.2.1 C0.2.2.2.2.2.1 hc.2.1 (ftyO ci) hc.2.2.1 hc.2.2.2.1 (own := own) (by rw [← ho]; exact C0.2.2.2.2.1) hH.2.2.1 hH.1 hH.2.1 hH.2.2.2.1 x.toNat h1 hc.1 k hk (va_Nw.use rfl (hH.2.2.2.2.2.2.1.1 _ hlink)) (fun y hy => by rw [← hsame]; exact hy) hfin (hc.2.2.1 k hk) hnf.1 hnf.2 (by simpa using hk) hd (fun H1 locs1 g1 g2 g3 => ?_)
  have hH' := Hd_set hH (k := k) (x := y) hS hy (by rw [cell_o, fs_set hk, mset_self, hxx]) g1 g2 g3
  rw [hxx] at hH'
  exact kk ad0 ad p e s m args below meth c H1 A locs1 ls C0 hH' oL o3.2 hL ha hn
/-- a final field, in its constructor -/
theorem T_pfF {own ref C : String} {Tf : u_T} {N ci idx k : Nat} {x y : Int} {v : MV} (hd : decode mi.2.1 pc = .ok (.putfield idx, 3)) (ho : mi.1.cls = own) (hc : Cl ci C Tf N) (hx : 0 ≤ x) (hS : S[x.toNat]? = some (1, ci, N)) (hk : k < N)
    (hlink : Cond.fieldLink own idx ref (Tf k).2.1 (Tf k).2.2.1 ∈ lw_ok) (hsame : (Tf k).1 = ref) (hfin : (Tf k).2.2.2 = true) (hin : mi.1.name = "<init>") (hdecl : (Tf k).1 = own) (hty : okty (ftyO ci k) = true) (hv : fvm (ftc ci k) y = v) (hr : ftc ci k = 2 → 0 ≤ y) (hy : okv S.length v → okt S.length (ftc ci k) y) (hp : pc + 3 = pc') (kk : T E mi d n0 nc ns Q pc' L st S (mset M x (k : Nat) y) cells slots) : T E mi d n0 nc ns Q pc L (v :: (2, x) :: st) S M cells slots := by
  subst hp; subst hv
  intro ad0 ad p e s m args below meth c H A locs ls C0 hH oL oS hL ha hn
  have o2 := ok_cons.mp oS
  have o3 := ok_cons.mp o2.2
  have hxx : ((x.toNat : Nat) : Int) = x := Int.toNat_of_nonneg hx
  have h1 := wo_get (ad := ad) (cA := E.2.2) (M := M) hS
  rw [hxx, cell_o] at h1
  have hy := hy o2.1
  have hnf := narrow_fv (ad := ad) hty hy
  have ev : rv ad (fvm (ftc ci k) y) = fv ad (ftc ci k) y := (fvm_rv hr).symm
  rw [List.map_cons, ev]
  refine va_putF C0.1 C0.2.1 C0.2.2.2.2.2.1 hc.2.1 (ftyO ci) hc.2.2.1 hc.2.2.2.1 (own := own) (by rw [← ho]; exact C0.2.2.2.2.1) hH.2.2.1 hH.1 hH.2.1 hH.2.2.2.1 x.toNat h1 hc.1 k hk (C0.2.2.2.2.2.1 _ hlink) (fun y hy => by rw [← hsame]; exact hy) hfin (by rw [← hin]; exact C0.2.2.2.2.2.2.2) hdecl (hc.2.2.1 k hk) hnf.1 hnf.2 (by simpa using hk) hd (fun H1 locs1 g1 g2 g3 => ?_)
  have hH' := Hd_set hH (k := k) (x := y) hS hy (by rw [cell_o, fs_set hk, mset_self, hxx]) g1 g2 g3
  rw [hxx] at hH'
  exact kk ad0 ad p e s m args below meth c H1 A locs1 ls C0 hH' oL o3.2 hL ha hn
end HEAP
