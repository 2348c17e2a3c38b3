def R_law : String := "StrokeHallLaw"
/-! THE CLAIM OUT OF ONE WALK OF THE LAW'S BODY. Your part is whole_start (and what it stands on); all else here is the same for every law, but numbers. -/
def lw_P (b : Addr) (xs : List Int32) (args : Array Value) (s : State) : Prop := args = #[.ref b] ∧ s.IntsAt b xs ∧ xs.length ≤ 3072 ∧ (Jvm.Cond.and given_1 narrow_1).before args s = true
def lw_Q (_ : Array Value) (s : State) (o : Outcome) (t : State) : Prop := o = .returned (some (.int 1)) ∧ Framed s o t [] 600000 7302249
def lw_Z (below : List Frame) (a : Array Value) (s : State) : State → Prop := fun t => ∃ o, t.status = .running ∧ Ended t below o ∧ lw_Q a s o t
/-- the law's own end, with 1 on the stack, nothing written that was there before, its room as the claim has it -/
theorem lw_ret {p : Program} {l : Launch} {e : Env} {s : State} {m : MethodId} {below : List Frame} {meth : Method} {c : Code} {b : Nat} (hx : p.tables.exec = Jvm.exec) (hb : c.code = code) (hr : meth.sig.returnType = ret) (hlocks : meth.locks = false) {pc : Nat} {H : Heap} {ls : Array Slot} (hdg : decode code pc = .ok (.ireturn, 1)) : W p l e room_1 s m #[Value.ref b] below meth c H [] 600000 7302249 (lw_Z below #[Value.ref b] s) (F0 m pc ls [.int 1]) := by
  intro T hT X
  obtain ⟨fs, hret, hrun, hended, hW, hframe⟩ := X.leave (v := some (.int 1)) (hlocks := hlocks) (fun h => by rw [hr] at h; cases h)
  have hmeth' : T.vm.method? m = some meth := X.method'
  refine ⟨T.setFrames fs, ?_, .returned (some (.int 1)), hrun, hended, rfl, ⟨_, rfl⟩, hW, hframe⟩
  jvm_step X.here [X.here.top, hx, hb, hdg, hmeth', hr, ret, narrow_b1]
  (try refine ⟨rfl, ?_⟩); (try refine ⟨rfl, ?_⟩)
  first | (intro acts; rw [hret _ acts rfl rfl rfl]) | rw [hret _ _ rfl rfl rfl]
  exact Steps.refl _
/-- what holds at the law's entry: the machine, the code, the tables' words (any of lw_tbl by 'hts w (by decide +kernel)'), the script of L ints xs at the cell b, what the Statement gives of the start (any of its parts by flat_of_before) -/
def lw_At (p : Program) (s : State) (m : MethodId) (meth : Method) (c : Code) (b L : Nat) (xs : Nat → Int32) : Prop :=
  p.tables.exec = Jvm.exec ∧ c.code = code ∧ meth.sig.returnType = ret ∧ c.maxLocals = 4 ∧ s.vm.findClass R_law = some m.cls ∧ (∀ w ∈ lw_tbl, w.before #[Value.ref b] s = true) ∧ va_X b L xs s s.heap ∧ b < s.heap.size ∧ meth.locks = false ∧ (Jvm.Cond.and given_1 narrow_1).before #[Value.ref b] s = true
/-! the law's body: the same rows at its own room and end -/
def AL (s : State) : Nat → Prop := fun q => s.heap.size ≤ q
def TL (E : EV) (b Ln : Nat) (xs : Nat → Int32) (p : Program) (e : Env) (s : State) (m : MethodId) (below : List Frame) (meth : Method) (c : Code) (pc : Nat) (L st : List MV) (S : List Sh) (M : Mem) (cells slots : Nat) : Prop :=
  ∀ (ad : Nat → Nat) (H : Heap) (ls : Array Slot) (locs : List Loc), Hd E ad S M (AL s) s H locs → ad 1015 = b → (∀ v ∈ L, okv S.length v) → (∀ v ∈ st, okv S.length v) → lv_has ls 4 (prs ad L) →
    W p E.1 e room_1 s m #[Value.ref b] below meth c H locs cells slots (lw_Z below #[Value.ref b] s) (F0 m pc ls (st.map (rv ad)))
/-- what is known of the law's start -/
def LA (E : EV) (b Ln : Nat) (xs : Nat → Int32) (p : Program) (s : State) (m : MethodId) (meth : Method) (c : Code) : Prop := lw_At p s m meth c b Ln xs ∧ Ln ≤ 3072
section LAW
variable {E : EV} {b Ln : Nat} {xs : Nat → Int32} {p : Program} {e : Env} {s : State} {m : MethodId} {below : List Frame} {meth : Method} {c : Code}
variable {pc pc' : Nat} {L L' st st0 av : List MV} {S S' : List Sh} {M : Mem} {cells slots : Nat}
theorem LA_ok (C : LA E b Ln xs p s m meth c) : ∀ w ∈ lw_ok, w.before #[Value.ref b] s = true := fun w hw => C.1.2.2.2.2.2.1 w (List.mem_filter.mp hw).1
theorem L_iconst (C : LA E b Ln xs p s m meth c) {n : Int} (hd : decode code pc = .ok (.iconst n, 1)) (hr : r32 n) (hp : pc + 1 = pc') (k : TL E b Ln xs p e s m below meth c pc' L ((0, n) :: st) S M cells slots) : TL E b Ln xs p e s m below meth c pc L st S M cells slots := by
  subst hp
  intro ad H ls locs hH hb0 oL oS hL
  exact lv_iconst C.1.1 C.1.2.1 hd rfl (k ad H ls locs hH hb0 oL (ok_cons.mpr ⟨hr, oS⟩) hL)
theorem L_bipush (C : LA E b Ln xs p s m meth c) {n : Int} (hd : decode code pc = .ok (.bipush n, 2)) (hv : (Int8.ofInt n).toInt32 = Int32.ofInt n) (hr : r32 n) (hp : pc + 2 = pc') (k : TL E b Ln xs p e s m below meth c pc' L ((0, n) :: st) S M cells slots) : TL E b Ln xs p e s m below meth c pc L st S M cells slots := by
  subst hp
  intro ad H ls locs hH hb0 oL oS hL
  exact lv_bipush C.1.1 C.1.2.1 hd hv (k ad H ls locs hH hb0 oL (ok_cons.mpr ⟨hr, oS⟩) hL)
theorem L_iload_n (C : LA E b Ln xs p s m meth c) {j : Fin 4} {i : Nat} {x : Int} (hd : decode code pc = .ok (.iload_n j, 1)) (hj : (j : Nat) = i) (hi : L[i]? = some (0, x)) (hp : pc + 1 = pc') (k : TL E b Ln xs p e s m below meth c pc' L ((0, x) :: st) S M cells slots) : TL E b Ln xs p e s m below meth c pc L st S M cells slots := by
  subst hp
  intro ad H ls locs hH hb0 oL oS hL
  exact lv_iload_n C.1.1 C.1.2.1 hd hj (prs_at hL hi (show (0 : Nat) < 3 by decide)) (k ad H ls locs hH hb0 oL (ok_cons.mpr ⟨oL _ (List.mem_of_getElem? hi), oS⟩) hL)
theorem L_aload_n (C : LA E b Ln xs p s m meth c) {j : Fin 4} {i : Nat} {x : Int} (hd : decode code pc = .ok (.aload_n j, 1)) (hj : (j : Nat) = i) (hi : L[i]? = some (2, x)) (hp : pc + 1 = pc') (k : TL E b Ln xs p e s m below meth c pc' L ((2, x) :: st) S M cells slots) : TL E b Ln xs p e s m below meth c pc L st S M cells slots := by
  subst hp
  intro ad H ls locs hH hb0 oL oS hL
  exact lv_aload_n C.1.1 C.1.2.1 hd hj (prs_at hL hi (show (2 : Nat) < 3 by decide)) (k ad H ls locs hH hb0 oL (ok_cons.mpr ⟨oL _ (List.mem_of_getElem? hi), oS⟩) hL)
theorem L_istore_n (C : LA E b Ln xs p s m meth c) {j : Fin 4} {i : Nat} {x : Int} (hd : decode code pc = .ok (.istore_n j, 1)) (hj : (j : Nat) = i) (hi : i < 4) (hL' : st1 L i (0, x) = L') (hp : pc + 1 = pc') (k : TL E b Ln xs p e s m below meth c pc' L' st S M cells slots) : TL E b Ln xs p e s m below meth c pc L ((0, x) :: st) S M cells slots := by
  subst hp
  intro ad H ls locs hH hb0 oL oS hL
  subst hL'
  have o2 := ok_cons.mp oS
  refine lv_istore_n C.1.1 C.1.2.1 hd hj hL hi rfl (fun ls hl => ?_)
  exact k ad H ls locs hH hb0 (st1_mem oL o2.1) o2.2 (has_of hl (fun q w hq hw => by
    rcases st1_get hq hw with ⟨rfl, rfl⟩ | ⟨h1, h2, h3⟩
    · exact List.mem_cons_self
    · refine List.mem_cons_of_mem _ (List.mem_filter.mpr ⟨?_, ?_⟩)
      · unfold prs
        refine List.mem_filterMap.mpr ⟨q, List.mem_range.mpr (List.getElem?_eq_some_iff.mp h2).1, ?_⟩
        rw [h2]
        simp [hw]
      · simp only [Bool.and_eq_true, Bool.not_eq_true', beq_eq_false_iff_ne, ne_eq, Bool.and_eq_false_iff]
        refine ⟨h1, ?_⟩
        by_cases z : q + 1 = i
        · exact Or.inr (fun y => h3 ⟨z, rv_cat2 y⟩)
        · exact Or.inl z))
theorem L_astore_n (C : LA E b Ln xs p s m meth c) {j : Fin 4} {i : Nat} {x : Int} (hd : decode code pc = .ok (.astore_n j, 1)) (hj : (j : Nat) = i) (hi : i < 4) (hL' : st1 L i (2, x) = L') (hp : pc + 1 = pc') (k : TL E b Ln xs p e s m below meth c pc' L' st S M cells slots) : TL E b Ln xs p e s m below meth c pc L ((2, x) :: st) S M cells slots := by
  subst hp
  intro ad H ls locs hH hb0 oL oS hL
  subst hL'
  have o2 := ok_cons.mp oS
  refine lv_astore_n C.1.1 C.1.2.1 hd hj hL hi rfl (fun ls hl => ?_)
  exact k ad H ls locs hH hb0 (st1_mem oL o2.1) o2.2 (has_of hl (fun q w hq hw => by
    rcases st1_get hq hw with ⟨rfl, rfl⟩ | ⟨h1, h2, h3⟩
    · exact List.mem_cons_self
    · refine List.mem_cons_of_mem _ (List.mem_filter.mpr ⟨?_, ?_⟩)
      · unfold prs
        refine List.mem_filterMap.mpr ⟨q, List.mem_range.mpr (List.getElem?_eq_some_iff.mp h2).1, ?_⟩
        rw [h2]
        simp [hw]
      · simp only [Bool.and_eq_true, Bool.not_eq_true', beq_eq_false_iff_ne, ne_eq, Bool.and_eq_false_iff]
        refine ⟨h1, ?_⟩
        by_cases z : q + 1 = i
        · exact Or.inr (fun y => h3 ⟨z, rv_cat2 y⟩)
        · exact Or.inl z))
theorem L_iinc (C : LA E b Ln xs p s m meth c) {i : Nat} {n x : Int} (hd : decode code pc = .ok (.iinc i n, 3)) (hx : L[i]? = some (0, x)) (hi : i < 4) (hL' : st1 L i (0, wr32 (x + n)) = L') (hp : pc + 3 = pc') (k : TL E b Ln xs p e s m below meth c pc' L' st S M cells slots) : TL E b Ln xs p e s m below meth c pc L st S M cells slots := by
  subst hp
  intro ad H ls locs hH hb0 oL oS hL
  subst hL'
  have hmem : (i, rv ad (0, x)) ∈ prs ad L := by
    unfold prs
    refine List.mem_filterMap.mpr ⟨i, List.mem_range.mpr (List.getElem?_eq_some_iff.mp hx).1, ?_⟩
    rw [hx]
    rfl
  obtain ⟨kk, hkk⟩ := List.getElem?_of_mem hmem
  refine lv_iinc C.1.1 C.1.2.1 hd hL hkk wr_add hi rfl (fun ls hl => ?_)
  exact k ad H ls locs hH hb0 (st1_mem oL (wr32_r _)) oS (has_of hl (fun q w hq hw => by
    rcases st1_get hq hw with ⟨rfl, rfl⟩ | ⟨h1, h2, h3⟩
    · exact List.mem_cons_self
    · refine List.mem_cons_of_mem _ (List.mem_filter.mpr ⟨?_, ?_⟩)
      · unfold prs
        refine List.mem_filterMap.mpr ⟨q, List.mem_range.mpr (List.getElem?_eq_some_iff.mp h2).1, ?_⟩
        rw [h2]
        simp [hw]
      · simp only [Bool.and_eq_true, Bool.not_eq_true', beq_eq_false_iff_ne, ne_eq, Bool.and_eq_false_iff]
        refine ⟨h1, ?_⟩
        by_cases z : q + 1 = i
        · exact Or.inr (fun y => h3 ⟨z, rv_cat2 y⟩)
        · exact Or.inl z))
theorem L_iadd (C : LA E b Ln xs p s m meth c) {a b9 : Int} (hd : decode code pc = .ok (.iadd, 1)) (hp : pc + 1 = pc') (k : TL E b Ln xs p e s m below meth c pc' L ((0, wr32 (a + b9)) :: st) S M cells slots) : TL E b Ln xs p e s m below meth c pc L ((0, b9) :: (0, a) :: st) S M cells slots := by
  subst hp
  intro ad H ls locs hH hb0 oL oS hL
  have o2 := ok_cons.mp oS
  have o3 := ok_cons.mp o2.2
  have k := k ad H ls locs hH hb0 oL (ok_cons.mpr ⟨wr32_r _, o3.2⟩) hL
  refine lv_iadd C.1.1 C.1.2.1 hd ?_
  have e1 := wr_add (a := a) (b := b9)
  first | (rw [e1]; exact k) | exact k
theorem L_isub (C : LA E b Ln xs p s m meth c) {a b9 : Int} (hd : decode code pc = .ok (.isub, 1)) (hp : pc + 1 = pc') (k : TL E b Ln xs p e s m below meth c pc' L ((0, wr32 (a - b9)) :: st) S M cells slots) : TL E b Ln xs p e s m below meth c pc L ((0, b9) :: (0, a) :: st) S M cells slots := by
  subst hp
  intro ad H ls locs hH hb0 oL oS hL
  have o2 := ok_cons.mp oS
  have o3 := ok_cons.mp o2.2
  have k := k ad H ls locs hH hb0 oL (ok_cons.mpr ⟨wr32_r _, o3.2⟩) hL
  refine lv_isub C.1.1 C.1.2.1 hd ?_
  have e1 := wr_sub (a := a) (b := b9)
  first | (rw [e1]; exact k) | exact k
theorem L_iand (C : LA E b Ln xs p s m meth c) {a b9 : Int} (hd : decode code pc = .ok (.iand, 1)) (hp : pc + 1 = pc') (k : TL E b Ln xs p e s m below meth c pc' L ((0, m_and a b9) :: st) S M cells slots) : TL E b Ln xs p e s m below meth c pc L ((0, b9) :: (0, a) :: st) S M cells slots := by
  subst hp
  intro ad H ls locs hH hb0 oL oS hL
  have o2 := ok_cons.mp oS
  have o3 := ok_cons.mp o2.2
  have k := k ad H ls locs hH hb0 oL (ok_cons.mpr ⟨i32_r _, o3.2⟩) hL
  refine lv_iand C.1.1 C.1.2.1 hd ?_
  have e1 := i32_eq (rfl : _ = m_and a b9)
  first | (rw [e1]; exact k) | exact k
theorem L_dup (C : LA E b Ln xs p s m meth c) {v : MV} (hd : decode code pc = .ok (.dup, 1)) (hv : v.1 ≠ 1) (hp : pc + 1 = pc') (k : TL E b Ln xs p e s m below meth c pc' L (v :: v :: st) S M cells slots) : TL E b Ln xs p e s m below meth c pc L (v :: st) S M cells slots := by
  subst hp
  intro ad H ls locs hH hb0 oL oS hL
  have o2 := ok_cons.mp oS
  exact lv_dup C.1.1 C.1.2.1 hd (rv_cat1 hv) (k ad H ls locs hH hb0 oL (ok_cons.mpr ⟨o2.1, oS⟩) hL)
theorem L_goto (C : LA E b Ln xs p s m meth c) {off : Int} (hd : decode code pc = .ok (.goto off, 3)) (hp : (pc : Int) + off = (pc' : Int)) (k : TL E b Ln xs p e s m below meth c pc' L st S M cells slots) : TL E b Ln xs p e s m below meth c pc L st S M cells slots := by
  intro ad H ls locs hH hb0 oL oS hL
  exact lv_goto C.1.1 C.1.2.1 hd hp (k ad H ls locs hH hb0 oL oS hL)
theorem L_lcmp (C : LA E b Ln xs p s m meth c) {a b9 : Int} (hd : decode code pc = .ok (.lcmp, 1)) (hp : pc + 1 = pc') (k : TL E b Ln xs p e s m below meth c pc' L ((0, m_cmp a b9) :: st) S M cells slots) : TL E b Ln xs p e s m below meth c pc L ((1, b9) :: (1, a) :: st) S M cells slots := by
  subst hp
  intro ad H ls locs hH hb0 oL oS hL
  have o2 := ok_cons.mp oS
  have o3 := ok_cons.mp o2.2
  have k := k ad H ls locs hH hb0 oL (ok_cons.mpr ⟨(show r32 (m_cmp a b9) by unfold m_cmp; split; decide; split <;> decide), o3.2⟩) hL
  refine W.lcmp C.1.1 C.1.2.1 hd ?_
  rw [lg_cmp_of o3.1 o2.1]
  exact k
theorem L_tableOut (C : LA E b Ln xs p s m meth c) {dflt lo hi : Int} {offs : Array Int} {len : Nat} {a : Int} (hd : decode code pc = .ok (.tableswitch dflt lo hi offs, len)) (h : a < lo ∨ hi < a) (ht : (pc : Int) + dflt = (pc' : Int)) (k : TL E b Ln xs p e s m below meth c pc' L st S M cells slots) : TL E b Ln xs p e s m below meth c pc L ((0, a) :: st) S M cells slots := by
  intro ad H ls locs hH hb0 oL oS hL
  have o2 := ok_cons.mp oS
  exact lv_tableOut C.1.1 C.1.2.1 hd (by rw [i32_tr o2.1]; exact h) ht (k ad H ls locs hH hb0 oL o2.2 hL)
theorem L_tableIn (C : LA E b Ln xs p s m meth c) {dflt lo hi : Int} {offs : Array Int} {len : Nat} {a off : Int} (hd : decode code pc = .ok (.tableswitch dflt lo hi offs, len)) (h1 : ¬ a < lo) (h2 : ¬ hi < a) (ho : offs[(a - lo).toNat]? = some off) (ht : (pc : Int) + off = (pc' : Int)) (k : TL E b Ln xs p e s m below meth c pc' L st S M cells slots) : TL E b Ln xs p e s m below meth c pc L ((0, a) :: st) S M cells slots := by
  intro ad H ls locs hH hb0 oL oS hL
  have o2 := ok_cons.mp oS
  exact lv_tableIn C.1.1 C.1.2.1 hd (by rw [i32_tr o2.1]; exact h1) (by rw [i32_tr o2.1]; exact h2) (by rw [i32_tr o2.1]; exact ho) ht (k ad H ls locs hH hb0 oL o2.2 hL)
theorem L_if_eq (C : LA E b Ln xs p s m meth c) {a : Int} {off : Int} (hd : decode code pc = .ok (.ifCond .eq off, 3)) (ht : (pc : Int) + off = (pc' : Int)) {pf : Nat} (hp : pc + 3 = pf) (k : a = 0 → TL E b Ln xs p e s m below meth c pc' L st S M cells slots) (k2 : ¬ (a = 0) → TL E b Ln xs p e s m below meth c pf L st S M cells slots) : TL E b Ln xs p e s m below meth c pc L ((0, a) :: st) S M cells slots := by
  subst hp
  intro ad H ls locs hH hb0 oL oS hL
  have o2 := ok_cons.mp oS
  have q : Int32.ofInt a = 0 ↔ (a = 0) := wr_eq o2.1 (by decide : r32 0)
  exact lv_if_eq C.1.1 C.1.2.1 hd ht (fun z => k (q.mp z) ad H ls locs hH hb0 oL o2.2 hL) (fun z => k2 (fun y => z (q.mpr y)) ad H ls locs hH hb0 oL o2.2 hL)
theorem L_icmp_eq (C : LA E b Ln xs p s m meth c) {a b9 : Int} {off : Int} (hd : decode code pc = .ok (.if_icmp .eq off, 3)) (ht : (pc : Int) + off = (pc' : Int)) {pf : Nat} (hp : pc + 3 = pf) (k : a = b9 → TL E b Ln xs p e s m below meth c pc' L st S M cells slots) (k2 : ¬ (a = b9) → TL E b Ln xs p e s m below meth c pf L st S M cells slots) : TL E b Ln xs p e s m below meth c pc L ((0, b9) :: (0, a) :: st) S M cells slots := by
  subst hp
  intro ad H ls locs hH hb0 oL oS hL
  have o2 := ok_cons.mp oS
  have o3 := ok_cons.mp o2.2
  have q : Int32.ofInt a = Int32.ofInt b9 ↔ (a = b9) := wr_eq o3.1 o2.1
  exact lv_icmp_eq C.1.1 C.1.2.1 hd ht (fun z => k (q.mp z) ad H ls locs hH hb0 oL o3.2 hL) (fun z => k2 (fun y => z (q.mpr y)) ad H ls locs hH hb0 oL o3.2 hL)
theorem L_if_ne (C : LA E b Ln xs p s m meth c) {a : Int} {off : Int} (hd : decode code pc = .ok (.ifCond .ne off, 3)) (ht : (pc : Int) + off = (pc' : Int)) {pf : Nat} (hp : pc + 3 = pf) (k : ¬ a = 0 → TL E b Ln xs p e s m below meth c pc' L st S M cells slots) (k2 : a = 0 → TL E b Ln xs p e s m below meth c pf L st S M cells slots) : TL E b Ln xs p e s m below meth c pc L ((0, a) :: st) S M cells slots := by
  subst hp
  intro ad H ls locs hH hb0 oL oS hL
  have o2 := ok_cons.mp oS
  have q : Int32.ofInt a = 0 ↔ (a = 0) := wr_eq o2.1 (by decide : r32 0)
  exact lv_if_ne C.1.1 C.1.2.1 hd ht (fun z => k (fun y => z (q.mpr y)) ad H ls locs hH hb0 oL o2.2 hL) (fun z => k2 (q.mp z) ad H ls locs hH hb0 oL o2.2 hL)
theorem L_icmp_ne (C : LA E b Ln xs p s m meth c) {a b9 : Int} {off : Int} (hd : decode code pc = .ok (.if_icmp .ne off, 3)) (ht : (pc : Int) + off = (pc' : Int)) {pf : Nat} (hp : pc + 3 = pf) (k : ¬ a = b9 → TL E b Ln xs p e s m below meth c pc' L st S M cells slots) (k2 : a = b9 → TL E b Ln xs p e s m below meth c pf L st S M cells slots) : TL E b Ln xs p e s m below meth c pc L ((0, b9) :: (0, a) :: st) S M cells slots := by
  subst hp
  intro ad H ls locs hH hb0 oL oS hL
  have o2 := ok_cons.mp oS
  have o3 := ok_cons.mp o2.2
  have q : Int32.ofInt a = Int32.ofInt b9 ↔ (a = b9) := wr_eq o3.1 o2.1
  exact lv_icmp_ne C.1.1 C.1.2.1 hd ht (fun z => k (fun y => z (q.mpr y)) ad H ls locs hH hb0 oL o3.2 hL) (fun z => k2 (q.mp z) ad H ls locs hH hb0 oL o3.2 hL)
theorem L_if_gt (C : LA E b Ln xs p s m meth c) {a : Int} {off : Int} (hd : decode code pc = .ok (.ifCond .gt off, 3)) (ht : (pc : Int) + off = (pc' : Int)) {pf : Nat} (hp : pc + 3 = pf) (k : 0 < a → TL E b Ln xs p e s m below meth c pc' L st S M cells slots) (k2 : ¬ (0 < a) → TL E b Ln xs p e s m below meth c pf L st S M cells slots) : TL E b Ln xs p e s m below meth c pc L ((0, a) :: st) S M cells slots := by
  subst hp
  intro ad H ls locs hH hb0 oL oS hL
  have o2 := ok_cons.mp oS
  have q : 0 < Int32.ofInt a ↔ (0 < a) := wr_lt (by decide : r32 0) o2.1
  exact lv_if_gt C.1.1 C.1.2.1 hd ht (fun z => k (q.mp z) ad H ls locs hH hb0 oL o2.2 hL) (fun z => k2 (fun y => z (q.mpr y)) ad H ls locs hH hb0 oL o2.2 hL)
theorem L_icmp_gt (C : LA E b Ln xs p s m meth c) {a b9 : Int} {off : Int} (hd : decode code pc = .ok (.if_icmp .gt off, 3)) (ht : (pc : Int) + off = (pc' : Int)) {pf : Nat} (hp : pc + 3 = pf) (k : b9 < a → TL E b Ln xs p e s m below meth c pc' L st S M cells slots) (k2 : ¬ (b9 < a) → TL E b Ln xs p e s m below meth c pf L st S M cells slots) : TL E b Ln xs p e s m below meth c pc L ((0, b9) :: (0, a) :: st) S M cells slots := by
  subst hp
  intro ad H ls locs hH hb0 oL oS hL
  have o2 := ok_cons.mp oS
  have o3 := ok_cons.mp o2.2
  have q : Int32.ofInt b9 < Int32.ofInt a ↔ (b9 < a) := wr_lt o2.1 o3.1
  exact lv_icmp_gt C.1.1 C.1.2.1 hd ht (fun z => k (q.mp z) ad H ls locs hH hb0 oL o3.2 hL) (fun z => k2 (fun y => z (q.mpr y)) ad H ls locs hH hb0 oL o3.2 hL)
theorem L_sld (C : LA E b Ln xs p s m meth c) {i : Int} (hd : decode code pc = .ok (.iaload, 1)) (h0 : 0 ≤ i) (h1 : i < (Ln : Nat)) (hp : pc + 1 = pc') (k : TL E b Ln xs p e s m below meth c pc' L ((0, (xs i.toNat).toInt) :: st) S M cells slots) : TL E b Ln xs p e s m below meth c pc L ((0, i) :: (2, 1015) :: st) S M cells slots := by
  subst hp
  intro ad H ls locs hH hb0 oL oS hL
  have o2 := ok_cons.mp oS
  have o3 := ok_cons.mp o2.2
  have k := k ad H ls locs hH hb0 oL (ok_cons.mpr ⟨i32_r _, o3.2⟩) hL
  have e1 : rv ad (2, 1015) = .ref b := by rw [← hb0]; rfl
  rw [List.map_cons, List.map_cons, e1]
  refine va_sld C.1.1 C.1.2.1 C.1.2.2.2.2.2.2.1 C.1.2.2.2.2.2.2.2.1 (show ¬ AL s b from Nat.not_le.mpr C.1.2.2.2.2.2.2.2.1) hH.2.2.2.1 (vp_in_i o2.1 h0 h1) hd ?_
  rw [cl_i o2.1]
  have e2 : rv ad (0, (xs i.toNat).toInt) = .int (xs i.toNat) := by
    show Value.int (Int32.ofInt (xs i.toNat).toInt) = _
    rw [Int32.ofInt_toInt]
  rw [List.map_cons, e2] at k
  exact k
theorem L_slen (C : LA E b Ln xs p s m meth c) (hd : decode code pc = .ok (.arraylength, 1)) (hp : pc + 1 = pc') (k : TL E b Ln xs p e s m below meth c pc' L ((0, (Ln : Nat)) :: st) S M cells slots) : TL E b Ln xs p e s m below meth c pc L ((2, 1015) :: st) S M cells slots := by
  subst hp
  intro ad H ls locs hH hb0 oL oS hL
  have o2 := ok_cons.mp oS
  have hl := C.2
  have k := k ad H ls locs hH hb0 oL (ok_cons.mpr ⟨(show r32 ((Ln : Nat) : Int) by unfold r32; omega), o2.2⟩) hL
  have e1 : rv ad (2, 1015) = .ref b := by rw [← hb0]; rfl
  rw [List.map_cons, e1]
  exact va_slen C.1.1 C.1.2.1 C.1.2.2.2.2.2.2.1 C.1.2.2.2.2.2.2.2.1 (show ¬ AL s b from Nat.not_le.mpr C.1.2.2.2.2.2.2.2.1) hH.2.2.2.1 hd k
theorem L_ret (C : LA E b Ln xs p s m meth c) (hd : decode code pc = .ok (.ireturn, 1)) (hcs : cells ≤ 600000 ∧ slots ≤ 7302249) : TL E b Ln xs p e s m below meth c pc L [(0, 1)] S M cells slots := by
  intro ad H ls locs hH hb0 oL oS hL
  refine va_forget (fun q hq => hH.2.2.2.1.2.2 q hq) ?_
  exact W.widen hcs.1 hcs.2 (lw_ret C.1.1 C.1.2.1 C.1.2.2.1 C.1.2.2.2.2.2.2.2.2.1 hd)
theorem L_new (C : LA E b Ln xs p s m meth c) {Cn : String} {Tf : u_T} {N ci idx c' s' : Nat} {nI : Int} (hd : decode code pc = .ok (.new idx, 3)) (hc : Cl ci Cn Tf N) (hcl : Cond.classLink RL idx Cn ∈ lw_ok) (hty : ∀ k, k < N → okty (ftyO ci k) = true) (hcs : cells + 1 ≤ 600000 ∧ slots + N ≤ 7302249) (hlen : S.length + 1 < 1000) (hp : pc + 3 = pc') (hS : S ++ [(1, ci, N)] = S') (hn : ((S.length : Nat) : Int) = nI) (hc2 : cells + 1 = c') (hs2 : slots + N = s')
    (k : TL E b Ln xs p e s m below meth c pc' L ((2, nI) :: st) S' (mnew M nI (nobj ci)) c' s') : TL E b Ln xs p e s m below meth c pc L st S M cells slots := by
  subst hp; subst hS; subst hn; subst hc2; subst hs2
  intro ad H ls locs hH hb0 oL oS hL
  have ht := LA_ok C
  have hlt : S.length < 1000 := by omega
  refine va_new C.1.1 C.1.2.1 (own := RL) (ci := ci) (fs := (List.range N).map (fun k => fv ad (ftc ci k) (nobj ci (k : Nat)))) ht hc.2.1 (ftyO ci) hc.2.2.1 C.1.2.2.2.2.1 (ht _ hcl) (ht _ hc.2.2.2.2.1) (ht _ hc.2.2.2.2.2) hH.2.2.1 hH.1 hH.2.1 hH.2.2.2.1 hH.2.2.2.2.2.1 hc.1 ?_ hcs.1 hcs.2 hd (fun q H1 h1 h2 h3 => ?_)
  · intro j hj
    unfold vp_V
    rw [List.getD_eq_getElem?_getD, fs_get hj]
    exact dfl_val (hty j hj)
  · have hag := adn_agree (ad := ad) (q := q) hlt
    have hokn : ∀ j : Nat, okt (S.length + 1) (shT (1, ci, N) j) (nobj ci (j : Nat)) := fun j => dfl_ok
    have ec : (List.range N).map (fun k => fv ad (ftc ci k) (nobj ci (k : Nat))) = (List.range N).map (fun k => fv (adn ad S.length q) (ftc ci k) (nobj ci (k : Nat))) := by
      refine List.map_congr_left fun k _ => (fv_agree (n := 0) (fun k hk => hag k (hk.imp (fun z => absurd z (Nat.not_lt_zero _)) id)) dfl_ok).symm
    have hw : wo ad E.2.2 S M ++ [(q, .inr (ci, (List.range N).map (fun k => fv ad (ftc ci k) (nobj ci (k : Nat)))))] = wo (adn ad S.length q) E.2.2 (S ++ [(1, ci, N)]) (mnew M (S.length : Nat) (nobj ci)) := by
      rw [wo_push hH.2.2.2.2.1 hlt, ec]
      rfl
    rw [hw] at h1 h2
    have hl2 : (S ++ [((1 : Nat), ci, N)]).length = S.length + 1 := by simp
    have hle : S.length ≤ (S ++ [((1 : Nat), ci, N)]).length := by omega
    have key := k (adn ad S.length q) H1 ls locs ⟨h1, h2, hH.2.2.1, h3, okS_push hH.2.2.2.2.1 hokn, hH.2.2.2.2.2.1, Tb_agree hag hH.2.2.2.2.2.2.1, Sx_agree hag hH.2.2.2.2.2.2.2.1, by omega⟩ ((hag 1015 (Or.inr (by decide))).trans hb0) (fun v hv => okv_mono hle (oL v hv)) (fun v hv => by
        rcases List.mem_cons.mp hv with rfl | hv
        · exact ⟨Int.natCast_nonneg _, Or.inl (by rw [hl2]; omega)⟩
        · exact okv_mono hle (oS v hv)) (by rw [prs_agree hag oL]; exact hL)
    rw [List.map_cons, map_agree hag oS] at key
    have er : rv (adn ad S.length q) (2, (S.length : Nat)) = .ref q := by
      show Value.ref (adn ad S.length q _) = _
      unfold adn
      simp
    rw [er] at key
    exact key

theorem L_back {Q2 : Option MV → List Sh → Mem → Prop} {nc2 ns2 : Nat} {ad : Nat → Nat} {H : Heap} {locs : List Loc} {ls : Array Slot} {av2 : Array Value} {stv : List Value}
    (hH : Hd E ad S M (AL s) s H locs) (hb0 : ad 1015 = b) (oL : ∀ v ∈ L, okv S.length v) (oS : ∀ v ∈ st, okv S.length v) (hL : lv_has ls 4 (prs ad L))
    (hr : va_Run p E.1 e room_1 s m #[Value.ref b] below meth c H locs cells slots nc2 ns2 (F0 m pc ls stv) (st.map (rv ad)) (Qc E (va_A (wo ad E.2.2 S M) H.size) ad S.length Q2 av2) (va_A (wo ad E.2.2 S M) H.size))
    (kk : ∀ r S' M', Q2 r S' M' → S.length ≤ S'.length → TL E b Ln xs p e s m below meth c (pc + 3) L (r.toList ++ st) S' M' (cells + nc2) (slots + ns2)) :
    W p E.1 e room_1 s m #[Value.ref b] below meth c H locs cells slots (lw_Z below #[Value.ref b] s) (F0 m pc ls stv) := by
  intro T hT X
  obtain ⟨v, st₀, t, T', L1, h0, X', hL1, e1, e2, ⟨⟨r, S', M', ad', hoc, hok, hq, hag, hP', hD', hS', hlen, hle⟩, hz, hk⟩, hst⟩ := hr T hT X
  rw [h0] at hz hk
  have hv : v = r.map (rv ad') := by injection hoc
  have hA := A_of hH
  have hH' : Hd E ad' S' M' (AL s) s T'.heap (locs ++ L1) := by
    refine ⟨by rw [e1]; exact hP', hD'.weaken (fun k q _ h => hA q.1 h), hH.2.2.1, ⟨Nat.le_trans hH.2.2.2.1.1 (by rw [e1]; exact hz), fun q h1 h2 => ?_, fun q hq => ?_⟩, hS', hH.2.2.2.2.2.1, Tb_agree hag hH.2.2.2.2.2.2.1, Sx_agree hag hH.2.2.2.2.2.2.2.1, hlen⟩
    · rw [e1, hk q (Nat.lt_of_lt_of_le h1 hH.2.2.2.1.1) (fun z => h2 (hA q z))]
      exact hH.2.2.2.1.2.1 q h1 h2
    · rcases List.mem_append.mp hq with h | h
      · exact hH.2.2.2.1.2.2 q h
      · exact hA _ (hL1 q h)
  have oS' : ∀ v ∈ r.toList ++ st, okv S'.length v := by
    intro w hw
    rcases List.mem_append.mp hw with h | h
    · exact hok w (by simpa using h)
    · exact okv_mono hle (oS w h)
  have key := kk r S' M' hq hle ad' T'.heap ls (locs ++ L1) hH' ((hag 1015 (Or.inr (by decide))).trans hb0) (fun v hv => okv_mono hle (oL v hv)) oS' (by rw [prs_agree hag oL]; exact hL)
  obtain ⟨t2, a1, b1⟩ := key T' rfl X'
  refine ⟨t2, hst t2 ?_, b1⟩
  rw [List.map_append, map_agree hag oS] at a1
  have e3 : v.toList = r.toList.map (rv ad') := by rw [hv]; cases r <;> rfl
  rw [e3]
  exact a1
theorem L_room {mi2 : MI} {n d2 : Nat} (hm : Mt mi2 n) (hd2 : d2 < 1000) : d2 + 1 ≤ room_1.frames ∧ 8 + (mi2.2.2.1 + 11) + 64 * d2 ≤ room_1.locals := by
  have := hm.2.2.2.2
  refine ⟨?_, ?_⟩
  · show d2 + 1 ≤ 2048; omega
  · show 8 + (mi2.2.2.1 + 11) + 64 * d2 ≤ 84000; omega
theorem L_callV (C : LA E b Ln xs p s m meth c) {mi2 : MI} {Q2 : Option MV → List Sh → Mem → Prop} {d2 nc2 ns2 idx ci N n : Nat} {Tf : u_T} {x : Int} (hd : decode code pc = .ok (.invokevirtual idx, 3)) (hm : Mt mi2 n) (hV : Cond.instanceMethod mi2.1 ∈ lw_ok ∧ Cond.selects mi2.1.cls mi2.1 mi2.1 ∈ lw_ok) (hlink : Cond.methodLink RL idx mi2.1 ∈ lw_ok) (hc : Cl ci mi2.1.cls Tf N) (hS : S[x.toNat]? = some (1, ci, N))
    (hst : st0 = av.reverse ++ (2, x) :: st) (hn : av.length = n) (hfit : (st.map (fun v => if v.1 = 1 then 2 else 1)).sum ≤ 8) (hd2 : d2 < 1000) (hcs : cells + nc2 ≤ 600000 ∧ slots + ns2 ≤ 7302249) (hp : pc + 3 = pc') (hC : (∀ v ∈ av, okv S.length v) → okS S M → Ct E mi2 d2 nc2 ns2 ((2, x) :: av) S M Q2)
    (kk : ∀ r S' M', Q2 r S' M' → S.length ≤ S'.length → TL E b Ln xs p e s m below meth c pc' L (r.toList ++ st) S' M' (cells + nc2) (slots + ns2)) : TL E b Ln xs p e s m below meth c pc L st0 S M cells slots := by
  subst hp; subst hst
  intro ad H ls locs hH hb0 oL oS hL
  have ht := LA_ok C
  have oS1 : ∀ v ∈ (2, x) :: av, okv S.length v := fun v hv => oS v (by rcases List.mem_cons.mp hv with rfl | hv <;> simp [*])
  have oS2 : ∀ v ∈ st, okv S.length v := fun v hv => oS v (by simp [hv])
  have hrm := L_room hm hd2
  refine L_back hH hb0 oL oS2 hL (va_runV (As := av.map (rv ad)) (b := ad x.toNat) (own := RL) ⟨C.1.1, C.1.2.1, C.1.2.2.2.1, C.1.2.2.2.2.1, ht⟩ (hC (fun v hv => oS1 v (List.mem_cons_of_mem _ hv)) hH.2.2.2.2.1 ad H.size) ⟨callB_of (ws' := lw_ok) n ht (wds_good hm) rfl rfl rfl (ht _ hm.2.1) (ht _ hlink) ⟨hm.2.2.1.1, hm.2.2.1.2, hm.2.2.2.1⟩ hrm, ht _ hV.1, ht _ hV.2⟩
    ⟨Ps_blind, va_recv hH.2.2.1 hH.1 hc.1 (wo_get hS), fun U hU hW => ⟨rfl, Ps_of hH oS1 hU hW⟩⟩ rfl (by simpa using hn) (hL.1) (by simp [rv]) (lv_room (fit_of st ad hfit)) hd hcs) kk
theorem L_callI (C : LA E b Ln xs p s m meth c) {mi2 : MI} {Q2 : Option MV → List Sh → Mem → Prop} {d2 nc2 ns2 idx n : Nat} {x : Int} (hd : decode code pc = .ok (.invokespecial idx, 3)) (hm : Mt mi2 n) (hV : Cond.instanceMethod mi2.1 ∈ lw_ok) (hin : mi2.1.name = "<init>") (hret : mi2.2.2.2 = none) (hlink : Cond.methodLink RL idx mi2.1 ∈ lw_ok)
    (hst : st0 = av.reverse ++ (2, x) :: st) (hn : av.length = n) (hfit : (st.map (fun v => if v.1 = 1 then 2 else 1)).sum ≤ 8) (hd2 : d2 < 1000) (hcs : cells + nc2 ≤ 600000 ∧ slots + ns2 ≤ 7302249) (hp : pc + 3 = pc') (hC : Ct E mi2 d2 nc2 ns2 ((2, x) :: av) S M Q2)
    (kk : ∀ r S' M', Q2 r S' M' → S.length ≤ S'.length → TL E b Ln xs p e s m below meth c pc' L (r.toList ++ st) S' M' (cells + nc2) (slots + ns2)) : TL E b Ln xs p e s m below meth c pc L st0 S M cells slots := by
  subst hp; subst hst
  intro ad H ls locs hH hb0 oL oS hL
  have ht := LA_ok C
  have oS1 : ∀ v ∈ (2, x) :: av, okv S.length v := fun v hv => oS v (by rcases List.mem_cons.mp hv with rfl | hv <;> simp [*])
  have oS2 : ∀ v ∈ st, okv S.length v := fun v hv => oS v (by simp [hv])
  have hrm := L_room hm hd2
  have hcb := callB_of (R := room_1) (mc := nc2) (ms := ns2) (rm := rm d2 nc2 ns2) (own := RL) (index := idx) (args := #[Value.ref b]) (ws := wds mi2) (ws' := lw_ok) n ht (wds_good hm) rfl rfl rfl (ht _ hm.2.1) (ht _ hlink) ⟨hm.2.2.1.1, hm.2.2.1.2, hm.2.2.2.1⟩ hrm
  rw [hret] at hcb
  refine L_back hH hb0 oL oS2 hL (va_runI (As := av.map (rv ad)) (b := ad x.toNat) (own := RL) ⟨C.1.1, C.1.2.1, C.1.2.2.2.1, C.1.2.2.2.2.1, ht⟩ (hC ad H.size) ⟨hcb, hin, ht _ hV⟩
    ⟨Ps_blind, fun U hU hW => ⟨rfl, Ps_of hH oS1 hU hW⟩⟩ rfl (by simpa using hn) hL.1 (by simp [rv]) (lv_room (fit_of st ad hfit)) hd hcs) kk
end LAW
