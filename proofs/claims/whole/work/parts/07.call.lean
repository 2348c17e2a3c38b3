/-! calls -/
theorem nest_tab {w : Cond} (h : isNest w = true) : w.onTables = true := by
  cases w <;> first | rfl | (simp [isNest] at h)
theorem nest_warm {w : Cond} (h : isNest w = true) {s U : State} (hW : s.WarmedH U.vm) (hz : va_Nw w s) : va_Nw w U := by
  cases w <;> first | exact va_Nw.warmF hW hz | exact va_Nw.warmM hW hz | (simp [isNest] at h)
theorem Tb_warm {ad : Nat → Nat} {s U : State} (hW : s.WarmedH U.vm) (h : Tb ad s) : Tb ad U :=
  ⟨fun w hw => nest_warm (List.mem_filter.mp hw).2 hW (h.1 w hw), fun i q hq => (h.2 i q hq).warm hW⟩
theorem Tb_same {ad : Nat → Nat} {s U : State} (hv : U.vm = s.vm) (h : Tb ad s) : Tb ad U :=
  ⟨fun w hw => va_Nw.same (nest_tab (List.mem_filter.mp hw).2) hv.symm (h.1 w hw), fun i q hq => (h.2 i q hq).same hv⟩
theorem Tb_agree {ad ad' : Nat → Nat} {n : Nat} {s : State} (ha : ∀ k, k < n ∨ 1000 ≤ k → ad' k = ad k) (h : Tb ad s) : Tb ad' s :=
  ⟨h.1, fun i q hq => by rw [ha _ (Or.inr (Nat.le_add_right _ _))]; exact h.2 i q hq⟩
theorem Sx_agree {ad ad' : Nat → Nat} {n : Nat} {A : Nat → Prop} {s : State} {H : Heap} (ha : ∀ k, k < n ∨ 1000 ≤ k → ad' k = ad k) (h : Sx ad A s H) : Sx ad' A s H := by
  have e1 : (fun k => ad' (1000 + k)) = fun k => ad (1000 + k) := funext fun k => ha _ (Or.inr (Nat.le_add_right _ _))
  have e2 : (fun k => ad' (1100 + k)) = fun k => ad (1100 + k) := funext fun k => ha _ (Or.inr (by omega))
  have e3 : ad' 1200 = ad 1200 := ha _ (Or.inr (by decide))
  unfold Sx
  rw [e1, e2, e3]
  exact h
theorem rv_agree {ad ad' : Nat → Nat} {n : Nat} (ha : ∀ k, k < n ∨ 1000 ≤ k → ad' k = ad k) {v : MV} (hv : okv n v) : rv ad' v = rv ad v := by
  obtain ⟨t, x⟩ := v
  match t, hv with
  | 0, _ => rfl
  | 1, _ => rfl
  | 2, hv =>
    show Value.ref _ = Value.ref _
    rw [ha _ hv.2]
  | n + 3, _ => rfl
theorem prs_agree {ad ad' : Nat → Nat} {n : Nat} (ha : ∀ k, k < n ∨ 1000 ≤ k → ad' k = ad k) {L : List MV} (hL : ∀ v ∈ L, okv n v) : prs ad' L = prs ad L := by
  unfold prs
  congr 1
  funext j
  cases h : L[j]? with
  | none => rfl
  | some v =>
    simp only
    rw [rv_agree ha (hL v (List.mem_of_getElem? h))]
theorem map_agree {ad ad' : Nat → Nat} {n : Nat} (ha : ∀ k, k < n ∨ 1000 ≤ k → ad' k = ad k) {L : List MV} (hL : ∀ v ∈ L, okv n v) : L.map (rv ad') = L.map (rv ad) :=
  List.map_congr_left fun v hv => rv_agree ha (hL v hv)
theorem okv_mono {n n' : Nat} (h : n ≤ n') {v : MV} (hv : okv n v) : okv n' v := by
  obtain ⟨t, x⟩ := v
  match t, hv with
  | 0, hv => exact hv
  | 1, hv => exact hv
  | 2, hv => exact ⟨hv.1, hv.2.imp (fun q => Nat.lt_of_lt_of_le q h) id⟩
  | n + 3, _ => trivial
/-- the callee's cells are the caller's, or new -/
theorem A_of {E : EV} {ad : Nat → Nat} {S : List Sh} {M : Mem} {A : Nat → Prop} {s : State} {H : Heap} {locs : List Loc} (hH : Hd E ad S M A s H locs) : ∀ q, va_A (wo ad E.2.2 S M) H.size q → A q := by
  intro q h
  rcases h with ⟨k, e, h⟩ | h
  · exact hH.2.1.2 k (q, e) h
  · exact hH.2.2.2.2.2.1 q (Nat.le_trans hH.2.2.2.1.1 h)
theorem Ps_of {E : EV} {ad : Nat → Nat} {S : List Sh} {M : Mem} {A : Nat → Prop} {s U : State} {H : Heap} {locs : List Loc} {av : List MV} (hH : Hd E ad S M A s H locs) (hav : ∀ v ∈ av, okv S.length v) (hU : U.heap = H) (hW : s.WarmedH U.vm) : Ps E av S M ad H.size U := by
  have hX := hH.2.2.2.2.2.2.2.1
  refine ⟨by rw [hU], by rw [hU]; exact hH.1, va_K.moved hW.alike hH.2.2.1, hH.2.1.weaken (fun _ _ _ _ => trivial), hH.2.2.2.2.1, Tb_warm hW hH.2.2.2.2.2.2.1, ?_, hH.2.2.2.2.2.2.2.2, hav⟩
  rw [hU]
  exact Sx_narrow (Sx_kept (Sx_moved hW.alike hX) (fun a h1 h2 => hH.2.2.2.1.2.1 a h1 h2)) (A_of hH)
theorem Ps_blind {E : EV} {av : List MV} {S : List Sh} {M : Mem} {ad : Nat → Nat} {sz : Nat} : FrameBlind (va_Pc (av.map (rv ad)) (Ps E av S M ad sz)) := by
  intro a U g mk h
  obtain ⟨h0, h1, h2, h3, h4, h5, h6, h7, h8, h9⟩ := h
  exact ⟨h0, h1, h2, va_K.moved (u := U) (U := U.calling g mk a) (Vm.Alike.refl U.vm) h3, h4, h5, Tb_same (s := U) (U := U.calling g mk a) rfl h6, Sx_moved (u := U) (U := U.calling g mk a) (Vm.Alike.refl U.vm) h7, h8, h9⟩
/-- facts of a method that is called -/
def Mt (mi : MI) (n : Nat) : Prop := Cond.code mi.1 mi.2.1 mi.2.2.1 mi.2.2.2 ∈ lw_ok ∧ Cond.initialized mi.1.cls ∈ lw_ok ∧ (mi.1.cls ≠ "java/lang/invoke/MethodHandle" ∧ mi.1.cls ≠ "java/lang/invoke/VarHandle") ∧ (parseMethodDescriptor mi.1.desc).map (fun d => d.parameters.length) = some n ∧ mi.2.2.1 ≤ 40
theorem wds_good {mi : MI} {n : Nat} (h : Mt mi n) : GoodIn lw_ok (wds mi) := by
  intro w hw
  rcases List.mem_cons.mp hw with rfl | hw
  · exact good_ok _ h.1
  · exact good_ok _ hw
section CALL
variable {E : EV} {mi mi2 : MI} {d d2 n0 nc ns nc2 ns2 : Nat} {Q Q2 : Option MV → List Sh → Mem → Prop} {pc pc' : Nat} {L L' st st0 av : List MV} {S : List Sh} {M : Mem} {cells slots : Nat}
/-- behind a call -/
theorem T_back {ad0 ad : Nat → Nat} {p : Program} {e : Env} {s : State} {m : MethodId} {args : Array Value} {below : List Frame} {meth : Method} {c : Code} {H : Heap} {A : Nat → Prop} {locs : List Loc} {ls : Array Slot} {av2 : Array Value} {stv : List Value}
    (C0 : Cx mi p s m args meth c) (hH : Hd E ad S M A s H locs) (oL : ∀ v ∈ L, okv S.length v) (oS : ∀ v ∈ st, okv S.length v) (hL : lv_has ls mi.2.2.1 (prs ad L)) (ha : ∀ k, k < n0 ∨ 1000 ≤ k → ad k = ad0 k) (hn : n0 ≤ S.length)
    (hr : va_Run p E.1 e (rm d nc ns) s m args below meth c H locs cells slots nc2 ns2 (F0 m pc ls stv) (st.map (rv ad)) (Qc E (va_A (wo ad E.2.2 S M) H.size) ad S.length Q2 av2) (va_A (wo ad E.2.2 S M) H.size))
    (kk : ∀ r S' M', Q2 r S' M' → S.length ≤ S'.length → T E mi d n0 nc ns Q (pc + 3) L (r.toList ++ st) S' M' (cells + nc2) (slots + ns2)) :
    W p E.1 e (rm d nc ns) s m args below meth c H locs cells slots (MQ below (Qc E A ad0 n0 Q) args s nc ns A) (F0 m pc ls stv) := by
  intro T hT X
  obtain ⟨v, st₀, t, T', L1, h0, X', hL1, e1, e2, ⟨⟨r, S', M', ad', hoc, hok, hq, hag, hP', hD', hS', hlen, hle⟩, hz, hk⟩, hst⟩ := hr T hT X
  rw [h0] at hz hk
  have hv : v = r.map (rv ad') := by injection hoc
  have hA := A_of hH
  have hH' : Hd E ad' S' M' A s T'.heap (locs ++ L1) := by
    refine ⟨by rw [e1]; exact hP', hD'.weaken (fun k q _ h => hA q.1 h), hH.2.2.1, ⟨Nat.le_trans hH.2.2.2.1.1 (by rw [e1]; exact hz), fun q h1 h2 => ?_, fun q hq => ?_⟩, hS', hH.2.2.2.2.2.1, Tb_agree hag hH.2.2.2.2.2.2.1, Sx_agree hag hH.2.2.2.2.2.2.2.1, hlen⟩
    · rw [e1, hk q (Nat.lt_of_lt_of_le h1 hH.2.2.2.1.1) (fun z => h2 (hA q z))]
      exact hH.2.2.2.1.2.1 q h1 h2
    · rcases List.mem_append.mp hq with h | h
      · exact hH.2.2.2.1.2.2 q h
      · exact hA _ (hL1 q h)
  have oS' : ∀ v ∈ r.toList ++ st, okv S'.length v := by
    intro w hw
    rcases List.mem_append.mp hw with h | h
    · exact hok w (by simpa using h)
    · exact okv_mono hle (oS w h)
  have key := kk r S' M' hq hle ad0 ad' p e s m args below meth c T'.heap A (locs ++ L1) ls C0 hH' (fun v hv => okv_mono hle (oL v hv)) oS' (by rw [prs_agree hag oL]; exact hL) (fun k hk => by rw [hag k (hk.imp (fun q => Nat.lt_of_lt_of_le q hn) id)]; exact ha k hk) (Nat.le_trans hn hle)
  obtain ⟨t2, a1, b1⟩ := key T' rfl X'
  refine ⟨t2, hst t2 ?_, b1⟩
  rw [List.map_append, map_agree hag oS] at a1
  have e3 : v.toList = r.toList.map (rv ad') := by rw [hv]; cases r <;> rfl
  rw [e3]
  exact a1
theorem cw_of {p : Program} {s : State} {m : MethodId} {args : Array Value} {meth : Method} {c : Code} {own : String} {idx n : Nat} (C0 : Cx mi p s m args meth c) (hm : Mt mi2 n) (hlink : Cond.methodLink own idx mi2.1 ∈ lw_ok) (hd2 : d2 < d) :
    CallB (rm d nc ns) s args own idx mi2.1 mi2.2.1 mi2.2.2.1 mi2.2.2.2 (wds mi2) (rm d2 nc2 ns2) nc2 ns2 n := by
  have ht := C0.2.2.2.2.2.1
  refine callB_of (ws' := lw_ok) n ht (wds_good hm) rfl rfl rfl (ht _ hm.2.1) (ht _ hlink) ⟨hm.2.2.1.1, hm.2.2.1.2, hm.2.2.2.1⟩ ⟨hd2, ?_⟩
  have := hm.2.2.2.2
  show 8 + (mi2.2.2.1 + 11) + 64 * d2 ≤ 64 * d
  omega
theorem fit_of (st : List MV) (ad : Nat → Nat) (h : (st.map (fun v => if v.1 = 1 then 2 else 1)).sum ≤ 8) : ((st.map (rv ad)).map fun v => v.category).sum ≤ 8 := by
  refine Nat.le_trans ?_ h
  rw [List.map_map]
  clear h
  induction st with
  | nil => exact Nat.le_refl _
  | cons v l ih =>
    simp only [List.map_cons, List.sum_cons]
    refine Nat.add_le_add ?_ ih
    by_cases hv : v.1 = 1
    · rw [if_pos hv]
      rcases lv_cat (rv ad v) with q | q <;> (show (rv ad v).category ≤ 2) <;> omega
    · rw [if_neg hv]
      have := rv_cat1 (ad := ad) hv
      show (rv ad v).category ≤ 1
      omega
/-- a call of an object's method -/
theorem T_callV {own : String} {idx ci N n : Nat} {Tf : u_T} {x : Int} (hd : decode mi.2.1 pc = .ok (.invokevirtual idx, 3)) (ho : mi.1.cls = own) (hm : Mt mi2 n) (hV : Cond.instanceMethod mi2.1 ∈ lw_ok ∧ Cond.selects mi2.1.cls mi2.1 mi2.1 ∈ lw_ok) (hlink : Cond.methodLink own idx mi2.1 ∈ lw_ok) (hc : Cl ci mi2.1.cls Tf N) (hS : S[x.toNat]? = some (1, ci, N))
    (hst : st0 = av.reverse ++ (2, x) :: st) (hn : av.length = n) (hfit : (st.map (fun v => if v.1 = 1 then 2 else 1)).sum ≤ 8) (hd2 : d2 < d) (hcs : cells + nc2 ≤ nc ∧ slots + ns2 ≤ ns) (hp : pc + 3 = pc') (hC : Ct E mi2 d2 nc2 ns2 ((2, x) :: av) S M Q2)
    (kk : ∀ r S' M', Q2 r S' M' → S.length ≤ S'.length → T E mi d n0 nc ns Q pc' L (r.toList ++ st) S' M' (cells + nc2) (slots + ns2)) : T E mi d n0 nc ns Q pc L st0 S M cells slots := by
  subst hp; subst hst
  intro ad0 ad p e s m args below meth c H A locs ls C0 hH oL oS hL ha hn0
  have oS1 : ∀ v ∈ (2, x) :: av, okv S.length v := fun v hv => oS v (by rcases List.mem_cons.mp hv with rfl | hv <;> simp [*])
  have oS2 : ∀ v ∈ st, okv S.length v := fun v hv => oS v (by simp [hv])
  refine T_back C0 hH oL oS2 hL ha hn0 (va_runV (As := av.map (rv ad)) (b := ad x.toNat) ⟨C0.1, C0.2.1, C0.2.2.1, by rw [← ho]; exact C0.2.2.2.2.1, C0.2.2.2.2.2.1⟩ (hC ad H.size) ⟨cw_of C0 hm hlink hd2, C0.2.2.2.2.2.1 _ hV.1, C0.2.2.2.2.2.1 _ hV.2⟩
    ⟨Ps_blind, va_recv hH.2.2.1 hH.1 hc.1 (wo_get hS), fun U hU hW => ⟨rfl, Ps_of hH oS1 hU hW⟩⟩ rfl (by simpa using hn) hL.1 (by simp [rv]) (lv_room (fit_of st ad hfit)) hd hcs) kk
theorem T_callS {own : String} {idx n : Nat} (hd : decode mi.2.1 pc = .ok (.invokestatic idx, 3)) (ho : mi.1.cls = own) (hm : Mt mi2 n) (hV : Cond.static mi2.1 ∈ lw_ok) (hlink : Cond.methodLink own idx mi2.1 ∈ lw_ok)
    (hst : st0 = av.reverse ++ st) (hn : av.length = n) (hfit : (st.map (fun v => if v.1 = 1 then 2 else 1)).sum ≤ 8) (hd2 : d2 < d) (hcs : cells + nc2 ≤ nc ∧ slots + ns2 ≤ ns) (hp : pc + 3 = pc') (hC : Ct E mi2 d2 nc2 ns2 av S M Q2)
    (kk : ∀ r S' M', Q2 r S' M' → S.length ≤ S'.length → T E mi d n0 nc ns Q pc' L (r.toList ++ st) S' M' (cells + nc2) (slots + ns2)) : T E mi d n0 nc ns Q pc L st0 S M cells slots := by
  subst hp; subst hst
  intro ad0 ad p e s m args below meth c H A locs ls C0 hH oL oS hL ha hn0
  have oS1 : ∀ v ∈ av, okv S.length v := fun v hv => oS v (by simp [hv])
  have oS2 : ∀ v ∈ st, okv S.length v := fun v hv => oS v (by simp [hv])
  refine T_back C0 hH oL oS2 hL ha hn0 (va_runS (As := av.map (rv ad)) ⟨C0.1, C0.2.1, C0.2.2.1, by rw [← ho]; exact C0.2.2.2.2.1, C0.2.2.2.2.2.1⟩ (hC ad H.size) ⟨cw_of C0 hm hlink hd2, C0.2.2.2.2.2.1 _ hV⟩
    ⟨Ps_blind, fun U hU hW => ⟨rfl, Ps_of hH oS1 hU hW⟩⟩ rfl (by simpa using hn) hL.1 (by simp [rv]) (lv_room (fit_of st ad hfit)) hd hcs) kk
theorem T_callSN {own host : String} {idx n : Nat} (hd : decode mi.2.1 pc = .ok (.invokestatic idx, 3)) (ho : mi.1.cls = own) (hm : Mt mi2 n) (hV : Cond.static mi2.1 ∈ lw_ok) (hlink : Cond.methodLinkNest own idx mi2.1 host ∈ lw_nest)
    (hst : st0 = av.reverse ++ st) (hn : av.length = n) (hfit : (st.map (fun v => if v.1 = 1 then 2 else 1)).sum ≤ 8) (hd2 : d2 < d) (hcs : cells + nc2 ≤ nc ∧ slots + ns2 ≤ ns) (hp : pc + 3 = pc') (hC : Ct E mi2 d2 nc2 ns2 av S M Q2)
    (kk : ∀ r S' M', Q2 r S' M' → S.length ≤ S'.length → T E mi d n0 nc ns Q pc' L (r.toList ++ st) S' M' (cells + nc2) (slots + ns2)) : T E mi d n0 nc ns Q pc L st0 S M cells slots := by
  subst hp; subst hst
  intro ad0 ad p e s m args below meth c H A locs ls C0 hH oL oS hL ha hn0
  have oS1 : ∀ v ∈ av, okv S.length v := fun v hv => oS v (by simp [hv])
  have oS2 : ∀ v ∈ st, okv S.length v := fun v hv => oS v (by simp [hv])
  have ht := C0.2.2.2.2.2.1
  have hrl : 8 + (mi2.2.2.1 + 11) + (rm d2 nc2 ns2).locals ≤ (rm d nc ns).locals := by
    have := hm.2.2.2.2
    show 8 + (mi2.2.2.1 + 11) + 64 * d2 ≤ 64 * d
    omega
  refine T_back C0 hH oL oS2 hL ha hn0 (va_runSN (As := av.map (rv ad)) ⟨C0.1, C0.2.1, C0.2.2.1, by rw [← ho]; exact C0.2.2.2.2.1, C0.2.2.2.2.2.1⟩ (hC ad H.size) ⟨va_cnB (ws' := lw_ok) n ht (wds_good hm) rfl rfl rfl (hH.2.2.2.2.2.2.1.1 _ hlink) (ht _ hm.2.1) ⟨hm.2.2.1.1, hm.2.2.1.2, hm.2.2.2.1⟩ ⟨hd2, hrl⟩, ht _ hV, trivial⟩
    ⟨Ps_blind, fun U hU hW => ⟨rfl, Ps_of hH oS1 hU hW⟩⟩ rfl (by simpa using hn) hL.1 (by simp [rv]) (lv_room (fit_of st ad hfit)) hd hcs) kk
theorem T_callI {own : String} {idx n : Nat} {x : Int} (hd : decode mi.2.1 pc = .ok (.invokespecial idx, 3)) (ho : mi.1.cls = own) (hm : Mt mi2 n) (hV : Cond.instanceMethod mi2.1 ∈ lw_ok) (hin : mi2.1.name = "<init>") (hret : mi2.2.2.2 = none) (hlink : Cond.methodLink own idx mi2.1 ∈ lw_ok)
    (hst : st0 = av.reverse ++ (2, x) :: st) (hn : av.length = n) (hfit : (st.map (fun v => if v.1 = 1 then 2 else 1)).sum ≤ 8) (hd2 : d2 < d) (hcs : cells + nc2 ≤ nc ∧ slots + ns2 ≤ ns) (hp : pc + 3 = pc') (hC : Ct E mi2 d2 nc2 ns2 ((2, x) :: av) S M Q2)
    (kk : ∀ r S' M', Q2 r S' M' → S.length ≤ S'.length → T E mi d n0 nc ns Q pc' L (r.toList ++ st) S' M' (cells + nc2) (slots + ns2)) : T E mi d n0 nc ns Q pc L st0 S M cells slots := by
  subst hp; subst hst
  intro ad0 ad p e s m args below meth c H A locs ls C0 hH oL oS hL ha hn0
  have oS1 : ∀ v ∈ (2, x) :: av, okv S.length v := fun v hv => oS v (by rcases List.mem_cons.mp hv with rfl | hv <;> simp [*])
  have oS2 : ∀ v ∈ st, okv S.length v := fun v hv => oS v (by simp [hv])
  have hcb := cw_of (nc := nc) (ns := ns) (nc2 := nc2) (ns2 := ns2) C0 hm hlink hd2
  rw [hret] at hcb
  refine T_back C0 hH oL oS2 hL ha hn0 (va_runI (As := av.map (rv ad)) (b := ad x.toNat) ⟨C0.1, C0.2.1, C0.2.2.1, by rw [← ho]; exact C0.2.2.2.2.1, C0.2.2.2.2.2.1⟩ (hC ad H.size) ⟨hcb, hin, C0.2.2.2.2.2.1 _ hV⟩
    ⟨Ps_blind, fun U hU hW => ⟨rfl, Ps_of hH oS1 hU hW⟩⟩ rfl (by simpa using hn) hL.1 (by simp [rv]) (lv_room (fit_of st ad hfit)) hd hcs) kk
theorem Ct_mono {d d' nc ns : Nat} {av : List MV} (h : Ct E mi d nc ns av S M Q2) (hq : ∀ r S' M', Q2 r S' M' → Q r S' M') : Ct E mi d nc ns av S M Q := by
  intro ad sz
  have h0 := h ad sz
  intro p e ha hc hk s m args below hf happ hP htr
  obtain ⟨k, o, h1, h2, h3, h4⟩ := h0 p e ha hc hk s m args below hf happ hP htr
  refine ⟨k, o, h1, h2, h3, ?_⟩
  obtain ⟨⟨⟨r, S', M', ad', g1, g2, g3, g4⟩, g5⟩, g6⟩ := h4
  exact ⟨⟨⟨r, S', M', ad', g1, g2, hq _ _ _ g3, g4⟩, g5⟩, g6⟩
end CALL
