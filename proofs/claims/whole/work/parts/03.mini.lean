/-! A small machine over the kit's: values are pairs (kind, number), the heap is a function of place and slot; T says what a run from a point of a method comes to. -/
abbrev MV : Type := Nat × Int
abbrev Mem : Type := Int → Int → Int
abbrev Sh : Type := Nat × Nat × Nat
abbrev EV : Type := Launch × va_G × (Nat → ClassId)
abbrev MI : Type := MethodName × ByteArray × Nat × Option FieldType
def wr32 (x : Int) : Int := (x + 2147483648) % 4294967296 - 2147483648
def wr64 (x : Int) : Int := (x + 9223372036854775808) % 18446744073709551616 - 9223372036854775808
abbrev r32 (x : Int) : Prop := -2147483648 ≤ x ∧ x < 2147483648
abbrev r64 (x : Int) : Prop := -9223372036854775808 ≤ x ∧ x < 9223372036854775808
def rv (ad : Nat → Nat) : MV → Value
  | (0, x) => .int (Int32.ofInt x)
  | (1, x) => .long (Int64.ofInt x)
  | (2, x) => .ref (ad x.toNat)
  | _ => .null
def okv (n : Nat) : MV → Prop
  | (0, x) => r32 x
  | (1, x) => r64 x
  | (2, x) => 0 ≤ x ∧ (x.toNat < n ∨ 1000 ≤ x.toNat)
  | _ => True
def tcode : FieldType → Nat
  | .int => 0
  | .long => 1
  | .boolean => 3
  | _ => 2
def ftyO (ci : Nat) : Nat → FieldType := match ci with
  | 0 => tyX0
  | 1 => tyX1
  | 2 => tyX2
  | 3 => tyX3
  | 4 => tyX4
  | 5 => tyX5
  | 6 => tyX6
  | 7 => tyX7
  | 8 => tyX8
  | 9 => tyX9
  | 10 => tyX10
  | 11 => tyX11
  | _ => tyX12
def ftc (ci k : Nat) : Nat := tcode (ftyO ci k)
def fv (ad : Nat → Nat) (t : Nat) (x : Int) : Value := match t with
  | 1 => .long (Int64.ofInt x)
  | 2 => if x < 0 then .null else .ref (ad x.toNat)
  | _ => .int (Int32.ofInt x)
def okt (n : Nat) (t : Nat) (x : Int) : Prop := match t with
  | 0 => r32 x
  | 1 => r64 x
  | 2 => x < (n : Nat)
  | 3 => 0 ≤ x ∧ x ≤ 1
  | 4 => 0 ≤ x ∧ x < 65536
  | _ => True
def cellE (ad : Nat → Nat) (cA : Nat → ClassId) (sh : Sh) (f : Int → Int) : va_E :=
  if sh.1 = 0 then (if sh.2.1 = 1 then .inl (cA 1, sh.2.2, .inr (.inl (fun j => Int64.ofInt (f (j : Nat))))) else .inl (cA sh.2.1, sh.2.2, .inl (fun j => Int32.ofInt (f (j : Nat)))))
  else .inr (sh.2.1, (List.range sh.2.2).map (fun k => fv ad (ftc sh.2.1 k) (f (k : Nat))))
def shT (sh : Sh) (j : Nat) : Nat := if sh.1 = 0 then sh.2.1 else ftc sh.2.1 j
def okS (S : List Sh) (M : Mem) : Prop := ∀ (p : Nat) (sh : Sh), S[p]? = some sh → ∀ j : Nat, okt S.length (shT sh j) (M (p : Nat) (j : Nat))
def wo (ad : Nat → Nat) (cA : Nat → ClassId) (S : List Sh) (M : Mem) : va_W := S.mapIdx (fun p sh => (ad p, cellE ad cA sh (M (p : Nat))))
def mset (M : Mem) (p k : Int) (x : Int) : Mem := fun q => if q = p then (fun j => if j = k then x else M p j) else M q
def tysO (cA : Nat → ClassId) : List (ClassId × FieldType) := [(cA 0, .int), (cA 1, .long), (cA 3, .boolean), (cA 4, .char)]
def prs (ad : Nat → Nat) (L : List MV) : List (Nat × Value) := (List.range L.length).filterMap (fun j => match L[j]? with
  | some v => if v.1 < 3 then some (j, rv ad v) else none
  | none => none)
def rm (d nc ns : Nat) : Room := { frames := d, cells := nc, slots := ns, locals := 64 * d }
def isNest : Cond → Bool
  | .fieldLinkNest .. => true
  | .methodLinkNest .. => true
  | _ => false
def lw_ok : List Cond := lw_tbl.filter goodWord
def lw_nest : List Cond := lw_tbl.filter isNest
def lw_str : List (String × Nat × String) := [("StrokeHall$HallReader", 50, "hall wall door person guard stroke open near enough at slow dares comes walks passer sees looks "), ("StrokeHall$HallReader", 176, "at "), ("StrokeHall$HallReader", 210, "slow "), ("StrokeHall$HallReader", 182, "dares "), ("StrokeHall$HallReader", 188, "comes "), ("StrokeHall$HallReader", 218, "walks "), ("StrokeHall$HallReader", 205, "passer "), ("StrokeHall$HallReader", 229, "sees "), ("StrokeHall$HallReader", 231, "looks "), ("StrokeHall$Question", 34, "first last often total most least "), ("StrokeHall$Question", 78, "not "), ("StrokeHall$Question", 90, "all "), ("StrokeHall$Question", 108, "second open waits goes outs alarm at does min max "), ("StrokeHall$Question", 76, "and "), ("StrokeHall$Question", 67, "or ")]
def lenS : List Nat := lw_str.map (fun q => q.2.2.length)
def bytS : List (List Int32) := lw_str.map (fun q => q.2.2.toList.map (fun ch => Int32.ofNat ch.toNat))
/-- what the tables say of a state, beside the good words -/
def Tb (ad : Nat → Nat) (s : State) : Prop := (∀ w ∈ lw_nest, va_Nw w s) ∧ ∀ (i : Nat) (q : String × Nat × String), lw_str[i]? = some q → vk_R q.1 q.2.1 q.2.2 (ad (1000 + i)) s
def R_prec : String := "jdk/internal/util/Preconditions"
def Sx (ad : Nat → Nat) (A : Nat → Prop) (U : State) (H : Heap) : Prop := vk_S 15 lenS bytS (fun k => ad (1000 + k)) (fun k => ad (1100 + k)) A U H ∧ va_Z "java/lang/String" "COMPACT_STRINGS" "Z" (.int 1) A U H ∧ (va_Z R_prec "SIOOBE_FORMATTER" "Ljava/util/function/BiFunction;" .null A U H ∨ va_Z R_prec "SIOOBE_FORMATTER" "Ljava/util/function/BiFunction;" (.ref (ad 1200)) A U H)
theorem Sx_moved {ad : Nat → Nat} {A : Nat → Prop} {u U : State} {H : Heap} (hvm : u.vm.Alike U.vm) (h : Sx ad A u H) : Sx ad A U H := ⟨vk_S.moved hvm h.1, va_Z.moved hvm h.2.1, h.2.2.imp (va_Z.moved hvm) (va_Z.moved hvm)⟩
theorem Sx_kept {ad : Nat → Nat} {A : Nat → Prop} {U : State} {H H1 : Heap} (h : Sx ad A U H) (hq : ∀ a : Nat, a < H.size → ¬ A a → H1[a]? = H[a]?) : Sx ad A U H1 := ⟨h.1.kept hq, h.2.1.kept hq, h.2.2.imp (fun z => z.kept hq) (fun z => z.kept hq)⟩
theorem Sx_narrow {ad : Nat → Nat} {A B : Nat → Prop} {U : State} {H : Heap} (h : Sx ad A U H) (hAB : ∀ q, B q → A q) : Sx ad B U H := ⟨h.1.narrow hAB, h.2.1.narrow hAB, h.2.2.imp (fun z => z.narrow hAB) (fun z => z.narrow hAB)⟩
/-- the world: the heap holds M at the addresses ad, in the shape S -/
def Hd (E : EV) (ad : Nat → Nat) (S : List Sh) (M : Mem) (A : Nat → Prop) (s : State) (H : Heap) (locs : List Loc) : Prop :=
  va_P E.2.1 vwCl (wo ad E.2.2 S M) H ∧ va_D A (wo ad E.2.2 S M) ∧ va_K E.2.1 vwCl (tysO E.2.2) s ∧ va_S A s.heap H locs ∧ okS S M ∧ (∀ q : Nat, s.heap.size ≤ q → A q) ∧ Tb ad s ∧ Sx ad A s s.heap ∧ S.length < 1000
def Cx (mi : MI) (p : Program) (s : State) (m : MethodId) (args : Array Value) (meth : Method) (c : Code) : Prop :=
  p.tables.exec = Jvm.exec ∧ c.code = mi.2.1 ∧ c.maxLocals = mi.2.2.1 ∧ meth.sig.returnType = mi.2.2.2 ∧ s.vm.findClass mi.1.cls = some m.cls ∧ (∀ w ∈ lw_ok, w.before args s = true) ∧ meth.locks = false ∧ meth.name = mi.1.name
def Qc (E : EV) (A : Nat → Prop) (ad0 : Nat → Nat) (n0 : Nat) (Q : Option MV → List Sh → Mem → Prop) : Array Value → State → Outcome → State → Prop := fun _ st oc t =>
  (∃ (r : Option MV) (S : List Sh) (M : Mem) (ad : Nat → Nat), oc = .returned (r.map (rv ad)) ∧ (∀ v, r = some v → okv S.length v) ∧ Q r S M ∧ (∀ k, k < n0 ∨ 1000 ≤ k → ad k = ad0 k) ∧ va_P E.2.1 vwCl (wo ad E.2.2 S M) t.heap ∧ va_D A (wo ad E.2.2 S M) ∧ okS S M ∧ S.length < 1000 ∧ n0 ≤ S.length) ∧ va_F A st t
/-- from this point of the method the run comes to its end, with Q -/
def T (E : EV) (mi : MI) (d n0 nc ns : Nat) (Q : Option MV → List Sh → Mem → Prop) (pc : Nat) (L st : List MV) (S : List Sh) (M : Mem) (cells slots : Nat) : Prop :=
  ∀ (ad0 ad : Nat → Nat) (p : Program) (e : Env) (s : State) (m : MethodId) (args : Array Value) (below : List Frame) (meth : Method) (c : Code) (H : Heap) (A : Nat → Prop) (locs : List Loc) (ls : Array Slot),
    Cx mi p s m args meth c → Hd E ad S M A s H locs → (∀ v ∈ L, okv S.length v) → (∀ v ∈ st, okv S.length v) → lv_has ls mi.2.2.1 (prs ad L) → (∀ k, k < n0 ∨ 1000 ≤ k → ad k = ad0 k) → n0 ≤ S.length →
    W p E.1 e (rm d nc ns) s m args below meth c H locs cells slots (MQ below (Qc E A ad0 n0 Q) args s nc ns A) (F0 m pc ls (st.map (rv ad)))
theorem prs_at {ad : Nat → Nat} {L : List MV} {ls : Array Slot} {n : Nat} (h : lv_has ls n (prs ad L)) {i : Nat} {v : MV} (hi : L[i]? = some v) (hv : v.1 < 3) : ls[i]? = some (.val (rv ad v)) := by
  refine h.2.2 (i, rv ad v) ?_
  unfold prs
  refine List.mem_filterMap.mpr ⟨i, List.mem_range.mpr (List.getElem?_eq_some_iff.mp hi).1, ?_⟩
  rw [hi]
  simp [hv]
theorem prs_mem {ad : Nat → Nat} {L : List MV} {q : Nat × Value} (h : q ∈ prs ad L) : ∃ v, L[q.1]? = some v ∧ v.1 < 3 ∧ q.2 = rv ad v := by
  unfold prs at h
  obtain ⟨i, -, h2⟩ := List.mem_filterMap.mp h
  cases hv : L[i]? with
  | none => rw [hv] at h2; cases h2
  | some v =>
    rw [hv] at h2
    by_cases h3 : v.1 < 3
    · simp only [h3, if_true] at h2
      cases h2
      exact ⟨v, hv, h3, rfl⟩
    · simp only [h3, if_false] at h2
      cases h2
theorem has_of {ad : Nat → Nat} {L : List MV} {ls : Array Slot} {n : Nat} {l : List (Nat × Value)} (h : lv_has ls n l) (hl : ∀ (i : Nat) (v : MV), L[i]? = some v → v.1 < 3 → (i, rv ad v) ∈ l) : lv_has ls n (prs ad L) := by
  refine ⟨h.1, h.2.1, fun q hq => ?_⟩
  obtain ⟨v, h1, h2, h3⟩ := prs_mem hq
  have := h.2.2 _ (hl q.1 v h1 h2)
  rw [h3]
  exact this
theorem rv_cat2 {ad : Nat → Nat} {v : MV} (h : (rv ad v).category = 2) : v.1 = 1 := by
  obtain ⟨t, x⟩ := v
  match t with
  | 0 => cases h
  | 1 => rfl
  | 2 => cases h
  | n + 3 => cases h
theorem rv_cat1 {ad : Nat → Nat} {v : MV} (h : v.1 ≠ 1) : (rv ad v).category = 1 := by
  obtain ⟨t, x⟩ := v
  match t, h with
  | 0, _ => rfl
  | 1, h => exact absurd rfl h
  | 2, _ => rfl
  | n + 3, _ => rfl
/-- a store of a value of one slot, of two -/
def st1 (L : List MV) (i : Nat) (v : MV) : List MV := match i with
  | 0 => L.set 0 v
  | j + 1 => if (L.getD j (3, 0)).1 = 1 then (L.set j (3, 0)).set (j + 1) v else L.set (j + 1) v
def st2 (L : List MV) (i : Nat) (v : MV) : List MV := (st1 L i v).set (i + 1) (3, 0)
theorem st1_get {L : List MV} {i : Nat} {v : MV} {j : Nat} {w : MV} (h : (st1 L i v)[j]? = some w) (hw : w.1 < 3) : (j = i ∧ w = v) ∨ (j ≠ i ∧ L[j]? = some w ∧ ¬ (j + 1 = i ∧ w.1 = 1)) := by
  by_cases hj : j = i
  · subst hj
    refine Or.inl ⟨rfl, ?_⟩
    cases j with
    | zero =>
      simp only [st1, List.getElem?_set] at h
      simp at h
      exact h.2.symm
    | succ j =>
      simp only [st1] at h
      split at h <;> simp [List.getElem?_set] at h <;> exact h.2.symm
  · refine Or.inr ⟨hj, ?_⟩
    cases i with
    | zero =>
      simp only [st1, List.getElem?_set] at h
      rw [if_neg (fun z => hj z.symm)] at h
      exact ⟨h, by omega⟩
    | succ i =>
      simp only [st1] at h
      split at h
      · rename_i h1
        rw [List.getElem?_set, if_neg (fun z => hj z.symm), List.getElem?_set] at h
        by_cases hji : i = j
        · rw [if_pos hji] at h
          split at h
          · cases h
            exact absurd hw (by decide)
          · cases h
        · rw [if_neg hji] at h
          exact ⟨h, by omega⟩
      · rename_i h1
        rw [List.getElem?_set, if_neg (fun z => hj z.symm)] at h
        refine ⟨h, fun z => ?_⟩
        have : i = j := by omega
        subst this
        rw [List.getD_eq_getElem?_getD, h] at h1
        exact h1 z.2
theorem st1_mem {n : Nat} {L : List MV} {i : Nat} {v : MV} (hL : ∀ w ∈ L, okv n w) (hv : okv n v) : ∀ w ∈ st1 L i v, okv n w := by
  have key : ∀ (l : List MV) (k : Nat) (u : MV), (∀ w ∈ l, okv n w) → okv n u → ∀ w ∈ l.set k u, okv n w := by
    intro l k u h1 h2 w hw
    rcases List.mem_or_eq_of_mem_set hw with h | h
    · exact h1 w h
    · rw [h]; exact h2
  cases i with
  | zero => exact key L 0 v hL hv
  | succ i =>
    simp only [st1]
    split
    · exact key _ _ _ (key L i (3, 0) hL trivial) hv
    · exact key L _ v hL hv
theorem st2_mem {n : Nat} {L : List MV} {i : Nat} {v : MV} (hL : ∀ w ∈ L, okv n w) (hv : okv n v) : ∀ w ∈ st2 L i v, okv n w := by
  intro w hw
  rcases List.mem_or_eq_of_mem_set hw with h | h
  · exact st1_mem hL hv w h
  · rw [h]; exact trivial
/-- forgetting locals -/
theorem T_weak {E : EV} {mi : MI} {d n0 nc ns : Nat} {Q : Option MV → List Sh → Mem → Prop} {pc : Nat} {L L' st : List MV} {S : List Sh} {M : Mem} {cells slots : Nat} (h : T E mi d n0 nc ns Q pc L' st S M cells slots) (hl : L'.length = L.length) (hs : ∀ (i : Nat) (v : MV), L'[i]? = some v → v.1 < 3 → L[i]? = some v) : T E mi d n0 nc ns Q pc L st S M cells slots := by
  intro ad0 ad p e s m args below meth c H A locs ls C hH oL oS hL ha hn
  refine h ad0 ad p e s m args below meth c H A locs ls C hH ?_ oS ?_ ha hn
  · intro v hv
    by_cases h3 : v.1 < 3
    · obtain ⟨i, hi⟩ := List.getElem?_of_mem hv
      exact oL v (List.mem_of_getElem? (hs i v hi h3))
    · obtain ⟨t, x⟩ := v
      match t, h3 with
      | 0, h => exact absurd (show (0 : Nat) < 3 by decide) h
      | 1, h => exact absurd (show (1 : Nat) < 3 by decide) h
      | 2, h => exact absurd (show (2 : Nat) < 3 by decide) h
      | n + 3, _ => exact trivial
  · refine has_of hL fun i v hi hv => ?_
    have := hs i v hi hv
    unfold prs
    refine List.mem_filterMap.mpr ⟨i, List.mem_range.mpr (List.getElem?_eq_some_iff.mp this).1, ?_⟩
    rw [this]
    simp [hv]
/-- what is known of the numbers at a point -/
theorem T_rng {E : EV} {mi : MI} {d n0 nc ns : Nat} {Q : Option MV → List Sh → Mem → Prop} {pc : Nat} {L st : List MV} {S : List Sh} {M : Mem} {cells slots : Nat} (h : (∀ v ∈ L, okv S.length v) → (∀ v ∈ st, okv S.length v) → okS S M → T E mi d n0 nc ns Q pc L st S M cells slots) : T E mi d n0 nc ns Q pc L st S M cells slots := by
  intro ad0 ad p e s m args below meth c H A locs ls C hH oL oS hL ha hn
  exact h oL oS hH.2.2.2.2.1 ad0 ad p e s m args below meth c H A locs ls C hH oL oS hL ha hn
