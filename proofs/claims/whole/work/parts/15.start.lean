/-! the world behind the two constructors: its shape, the references that stay (by program) -/
def S0 : List Sh := [(1, 11, 18), (1, 8, 2), (0, 0, 1600), (1, 9, 6), (1, 2, 2), (1, 6, 3), (1, 5, 4), (0, 0, 1600), (0, 0, 64), (1, 7, 11), (0, 0, 1809), (0, 0, 804), (0, 0, 9), (0, 0, 9), (0, 0, 9), (0, 0, 9), (1, 3, 12), (0, 0, 1809), (0, 0, 804), (0, 0, 9), (0, 0, 9), (0, 0, 9), (0, 0, 9), (0, 0, 54), (0, 0, 54), (1, 10, 4), (0, 0, 9), (1, 0, 4), (0, 0, 20), (0, 0, 20), (0, 0, 20), (0, 0, 34), (1, 1, 18), (1, 4, 9), (0, 0, 9), (0, 0, 9), (0, 0, 9), (0, 0, 9), (0, 0, 9), (0, 0, 9), (0, 0, 108), (0, 0, 54), (0, 0, 6), (0, 0, 6), (0, 0, 4), (0, 0, 4), (0, 0, 4), (0, 0, 4), (0, 1, 54), (1, 1, 18), (1, 4, 9), (0, 0, 9), (0, 0, 9), (0, 0, 9), (0, 0, 9), (0, 0, 9), (0, 0, 9), (0, 0, 108), (0, 0, 54), (0, 0, 6), (0, 0, 6), (0, 0, 4), (0, 0, 4), (0, 0, 4), (0, 0, 4), (0, 1, 54), (1, 12, 90), (0, 0, 1600), (0, 4, 4), (0, 4, 4), (0, 4, 4), (0, 4, 6), (0, 4, 2), (0, 4, 4), (0, 4, 5), (0, 4, 5), (0, 4, 5), (0, 4, 6), (0, 4, 5), (0, 4, 4), (0, 4, 5), (0, 4, 6), (0, 4, 4), (0, 4, 4), (0, 4, 6), (0, 0, 6), (0, 1, 40), (0, 3, 108), (0, 0, 324), (0, 0, 24), (0, 0, 12), (0, 0, 8), (0, 0, 6), (0, 0, 54), (0, 0, 54), (0, 0, 1809), (0, 0, 9), (0, 0, 9), (0, 0, 9), (0, 0, 9), (0, 0, 660), (0, 0, 9), (0, 4, 5), (0, 4, 4), (0, 4, 5), (0, 4, 5), (0, 4, 4), (0, 4, 5), (0, 4, 3), (0, 4, 3), (0, 4, 2), (0, 4, 3), (0, 4, 3), (0, 4, 3), (0, 4, 6), (0, 4, 4), (0, 4, 5), (0, 4, 4), (0, 4, 4), (0, 4, 5), (0, 4, 2), (0, 4, 4), (0, 0, 1700), (0, 0, 1700), (0, 1, 1700), (0, 0, 34)]
def gtab : List (Int × Int × Int) := [(0, 0, 1), (0, 1, 3), (0, 2, 4), (0, 3, 5), (0, 4, 9), (0, 5, 16), (0, 6, 25), (0, 7, 27), (0, 8, 31), (1, 0, 2), (3, 0, 1), (4, 0, 3), (5, 0, 3), (5, 1, 6), (6, 0, 7), (6, 1, 8), (9, 0, 10), (9, 1, 11), (9, 2, 12), (9, 3, 13), (9, 4, 14), (9, 5, 15), (16, 0, 17), (16, 1, 18), (16, 2, 19), (16, 3, 20), (16, 4, 21), (16, 5, 22), (16, 6, 23), (16, 7, 24), (25, 0, 9), (25, 1, 26), (27, 0, 28), (27, 1, 29), (27, 2, 30), (32, 0, 33), (32, 1, 41), (32, 2, 42), (32, 3, 43), (32, 4, 44), (32, 5, 45), (32, 6, 46), (32, 7, 47), (32, 8, 48), (33, 0, 34), (33, 1, 35), (33, 2, 36), (33, 3, 37), (33, 4, 38), (33, 5, 39), (33, 6, 40), (49, 0, 50), (49, 1, 58), (49, 2, 59), (49, 3, 60), (49, 4, 61), (49, 5, 62), (49, 6, 63), (49, 7, 64), (49, 8, 65), (50, 0, 51), (50, 1, 52), (50, 2, 53), (50, 3, 54), (50, 4, 55), (50, 5, 56), (50, 6, 57), (66, 0, 67), (66, 10, 68), (66, 11, 69), (66, 12, 70), (66, 13, 71), (66, 14, 72), (66, 15, 73), (66, 16, 74), (66, 17, 75), (66, 18, 76), (66, 19, 77), (66, 20, 78), (66, 21, 79), (66, 22, 80), (66, 23, 81), (66, 24, 82), (66, 25, 83), (66, 26, 84), (66, 28, 85), (66, 29, 86), (66, 30, 87), (66, 31, 88), (66, 32, 89), (66, 33, 90), (66, 34, 91), (66, 41, 92), (66, 43, 93), (66, 44, 94), (66, 45, 95), (66, 46, 96), (66, 47, 97), (66, 48, 98), (66, 49, 99), (66, 53, 100), (66, 57, 101), (66, 58, 102), (66, 59, 103), (66, 60, 104), (66, 61, 105), (66, 62, 106), (66, 63, 107), (66, 64, 108), (66, 65, 109), (66, 66, 110), (66, 67, 111), (66, 68, 112), (66, 69, 113), (66, 70, 114), (66, 71, 115), (66, 72, 116), (66, 73, 117), (66, 74, 118), (66, 75, 119), (66, 76, 120), (66, 77, 121), (66, 78, 122), (66, 80, 123), (66, 84, 124), (66, 88, 125)]
def isG (g : Int) : Prop := g = 32 ∨ g = 49
def G (h : Int) (M : Mem) : Prop := (∀ e ∈ gtab, M e.1 e.2.1 = e.2.2) ∧ M 0 10 = h ∧ M 0 11 = 81 - h ∧ isG h
theorem G_at {h : Int} {M : Mem} (hG : G h M) (i : Nat) {p k q : Int} (hi : gtab[i]? = some (p, k, q)) : M p k = q := hG.1 _ (List.mem_of_getElem? hi)
theorem gtab_ok : ∀ e ∈ gtab, ∃ ci N, S0[e.1.toNat]? = some (1, ci, N) ∧ ftc ci e.2.1.toNat = 2 ∧ 0 ≤ e.1 ∧ 0 ≤ e.2.1 := by
  have key : gtab.all (fun e => match S0[e.1.toNat]? with
    | some (1, ci, N) => ftc ci e.2.1.toNat == 2 && decide (0 ≤ e.1) && decide (0 ≤ e.2.1)
    | _ => false) = true := by decide +kernel
  intro e he
  have h := List.all_eq_true.mp key e he
  split at h
  · rename_i ci N hS
    simp only [Bool.and_eq_true, decide_eq_true_eq, beq_iff_eq] at h
    exact ⟨ci, N, hS, h.1.1, h.1.2, h.2⟩
  · cases h
theorem G_arr {h : Int} {M : Mem} {x i y : Int} {et n : Nat} (hS : S0[x.toNat]? = some (0, et, n)) (hx : 0 ≤ x) (hG : G h M) : G h (mset M x i y) := by
  have h0 : x ≠ 0 := by
    rintro rfl
    exact absurd (show some ((1 : Nat), 11, 18) = some (0, et, n) from hS) (by simp)
  refine ⟨fun e he => ?_, ?_, ?_, hG.2.2.2⟩
  · obtain ⟨ci, N, h1, h2, h3, h4⟩ := gtab_ok e he
    have : e.1 ≠ x := by
      rintro rfl
      rw [h1] at hS
      cases hS
    unfold mset
    rw [if_neg this]
    exact hG.1 e he
  · unfold mset
    rw [if_neg (fun z => h0 z.symm)]
    exact hG.2.1
  · unfold mset
    rw [if_neg (fun z => h0 z.symm)]
    exact hG.2.2.1
theorem G_fld {h : Int} {M : Mem} {x i y : Int} {ci N : Nat} (hS : S0[x.toNat]? = some (1, ci, N)) (hi0 : 0 ≤ i) (ht : ftc ci i.toNat ≠ 2) (hx : 0 ≤ x) (hG : G h M) : G h (mset M x i y) := by
  have hh : ∀ k : Int, (k = 10 ∨ k = 11) → ¬ ((0 : Int) = x ∧ k = i) := by
    rintro k hk ⟨rfl, rfl⟩
    have hS : some ((1 : Nat), 11, 18) = some (1, ci, N) := hS
    cases hS
    rcases hk with rfl | rfl <;> exact ht (by decide)
  have get : ∀ a b : Int, ¬ (a = x ∧ b = i) → mset M x i y a b = M a b := by
    intro a b hab
    unfold mset
    by_cases h1 : a = x
    · subst h1
      have : ¬ b = i := fun z => hab ⟨rfl, z⟩
      simp [this]
    · rw [if_neg h1]
  refine ⟨fun e he => ?_, ?_, ?_, hG.2.2.2⟩
  · rw [get]
    · exact hG.1 e he
    · rintro ⟨e1, e2⟩
      obtain ⟨ci2, N2, h1, h2, h3, h4⟩ := gtab_ok e he
      rw [e1, hS] at h1
      cases h1
      rw [e2] at h2
      exact ht h2
  · rw [get _ _ (hh _ (Or.inl rfl))]; exact hG.2.1
  · rw [get _ _ (hh _ (Or.inr rfl))]; exact hG.2.2.1
abbrev TG (E : EV) (mi : MI) (d : Nat) (h : Int) (Q : Option MV → Mem → Prop) (pc : Nat) (L st : List MV) (M : Mem) : Prop := T E mi d 126 0 0 (fun r S M' => S = S0 ∧ G h M' ∧ Q r M') pc L st S0 M 0 0
/-- the method, from the world M, comes to its end with Q; the references stay -/
def C2 (E : EV) (mi : MI) (d : Nat) (h : Int) (av : List MV) (M : Mem) (Q : Option MV → Mem → Prop) : Prop := G h M → Ct E mi d 0 0 av S0 M (fun r S M' => S = S0 ∧ G h M' ∧ Q r M')
theorem C2_of {E : EV} {mi : MI} {d : Nat} {h : Int} {av L : List MV} {M : Mem} {Q : Option MV → Mem → Prop} (hpl : plainName mi.1.cls = true) (hn : (aL av).length ≤ mi.2.2.1) (hL : aL av ++ List.replicate (mi.2.2.1 - (aL av).length) (3, 0) = L) (hT : G h M → TG E mi d h Q 0 L [] M) : C2 E mi d h av M Q := fun hG => Ct_of hpl hn hL (hT hG)
theorem C2_mono {E : EV} {mi : MI} {d : Nat} {h : Int} {av : List MV} {M : Mem} {Q Q2 : Option MV → Mem → Prop} (hC : C2 E mi d h av M Q2) (hq : ∀ r M', Q2 r M' → Q r M') : C2 E mi d h av M Q := fun hG => Ct_mono (d' := 0) (nc := 0) (ns := 0) (hC hG) (fun _ _ _ z => ⟨z.1, z.2.1, hq _ _ z.2.2⟩)

theorem shg0 {g : Int} (hg : isG g) : S0[g.toNat]? = some (1, 1, 18) := by rcases hg with rfl | rfl <;> rfl
theorem pog0 {g : Int} (hg : isG g) : 0 ≤ g := by rcases hg with rfl | rfl <;> decide
theorem shg1 {g : Int} (hg : isG g) : S0[(g + 1).toNat]? = some (1, 4, 9) := by rcases hg with rfl | rfl <;> rfl
theorem pog1 {g : Int} (hg : isG g) : 0 ≤ (g + 1) := by rcases hg with rfl | rfl <;> decide
theorem shg2 {g : Int} (hg : isG g) : S0[(g + 2).toNat]? = some (0, 0, 9) := by rcases hg with rfl | rfl <;> rfl
theorem pog2 {g : Int} (hg : isG g) : 0 ≤ (g + 2) := by rcases hg with rfl | rfl <;> decide
theorem shg3 {g : Int} (hg : isG g) : S0[(g + 3).toNat]? = some (0, 0, 9) := by rcases hg with rfl | rfl <;> rfl
theorem pog3 {g : Int} (hg : isG g) : 0 ≤ (g + 3) := by rcases hg with rfl | rfl <;> decide
theorem shg4 {g : Int} (hg : isG g) : S0[(g + 4).toNat]? = some (0, 0, 9) := by rcases hg with rfl | rfl <;> rfl
theorem pog4 {g : Int} (hg : isG g) : 0 ≤ (g + 4) := by rcases hg with rfl | rfl <;> decide
theorem shg5 {g : Int} (hg : isG g) : S0[(g + 5).toNat]? = some (0, 0, 9) := by rcases hg with rfl | rfl <;> rfl
theorem pog5 {g : Int} (hg : isG g) : 0 ≤ (g + 5) := by rcases hg with rfl | rfl <;> decide
theorem shg6 {g : Int} (hg : isG g) : S0[(g + 6).toNat]? = some (0, 0, 9) := by rcases hg with rfl | rfl <;> rfl
theorem pog6 {g : Int} (hg : isG g) : 0 ≤ (g + 6) := by rcases hg with rfl | rfl <;> decide
theorem shg7 {g : Int} (hg : isG g) : S0[(g + 7).toNat]? = some (0, 0, 9) := by rcases hg with rfl | rfl <;> rfl
theorem pog7 {g : Int} (hg : isG g) : 0 ≤ (g + 7) := by rcases hg with rfl | rfl <;> decide
theorem shg8 {g : Int} (hg : isG g) : S0[(g + 8).toNat]? = some (0, 0, 108) := by rcases hg with rfl | rfl <;> rfl
theorem pog8 {g : Int} (hg : isG g) : 0 ≤ (g + 8) := by rcases hg with rfl | rfl <;> decide
theorem shg9 {g : Int} (hg : isG g) : S0[(g + 9).toNat]? = some (0, 0, 54) := by rcases hg with rfl | rfl <;> rfl
theorem pog9 {g : Int} (hg : isG g) : 0 ≤ (g + 9) := by rcases hg with rfl | rfl <;> decide
theorem shg10 {g : Int} (hg : isG g) : S0[(g + 10).toNat]? = some (0, 0, 6) := by rcases hg with rfl | rfl <;> rfl
theorem pog10 {g : Int} (hg : isG g) : 0 ≤ (g + 10) := by rcases hg with rfl | rfl <;> decide
theorem shg11 {g : Int} (hg : isG g) : S0[(g + 11).toNat]? = some (0, 0, 6) := by rcases hg with rfl | rfl <;> rfl
theorem pog11 {g : Int} (hg : isG g) : 0 ≤ (g + 11) := by rcases hg with rfl | rfl <;> decide
theorem shg12 {g : Int} (hg : isG g) : S0[(g + 12).toNat]? = some (0, 0, 4) := by rcases hg with rfl | rfl <;> rfl
theorem pog12 {g : Int} (hg : isG g) : 0 ≤ (g + 12) := by rcases hg with rfl | rfl <;> decide
theorem shg13 {g : Int} (hg : isG g) : S0[(g + 13).toNat]? = some (0, 0, 4) := by rcases hg with rfl | rfl <;> rfl
theorem pog13 {g : Int} (hg : isG g) : 0 ≤ (g + 13) := by rcases hg with rfl | rfl <;> decide
theorem shg14 {g : Int} (hg : isG g) : S0[(g + 14).toNat]? = some (0, 0, 4) := by rcases hg with rfl | rfl <;> rfl
theorem pog14 {g : Int} (hg : isG g) : 0 ≤ (g + 14) := by rcases hg with rfl | rfl <;> decide
theorem shg15 {g : Int} (hg : isG g) : S0[(g + 15).toNat]? = some (0, 0, 4) := by rcases hg with rfl | rfl <;> rfl
theorem pog15 {g : Int} (hg : isG g) : 0 ≤ (g + 15) := by rcases hg with rfl | rfl <;> decide
theorem shg16 {g : Int} (hg : isG g) : S0[(g + 16).toNat]? = some (0, 1, 54) := by rcases hg with rfl | rfl <;> rfl
theorem pog16 {g : Int} (hg : isG g) : 0 ≤ (g + 16) := by rcases hg with rfl | rfl <;> decide
theorem grg0_0 {g h : Int} {M : Mem} (hg : isG g) (hG : G h M) : M g 0 = g + 1 := by rcases hg with rfl | rfl; exact G_at hG 35 rfl; exact G_at hG 51 rfl
theorem grg0_1 {g h : Int} {M : Mem} (hg : isG g) (hG : G h M) : M g 1 = g + 9 := by rcases hg with rfl | rfl; exact G_at hG 36 rfl; exact G_at hG 52 rfl
theorem grg0_2 {g h : Int} {M : Mem} (hg : isG g) (hG : G h M) : M g 2 = g + 10 := by rcases hg with rfl | rfl; exact G_at hG 37 rfl; exact G_at hG 53 rfl
theorem grg0_3 {g h : Int} {M : Mem} (hg : isG g) (hG : G h M) : M g 3 = g + 11 := by rcases hg with rfl | rfl; exact G_at hG 38 rfl; exact G_at hG 54 rfl
theorem grg0_4 {g h : Int} {M : Mem} (hg : isG g) (hG : G h M) : M g 4 = g + 12 := by rcases hg with rfl | rfl; exact G_at hG 39 rfl; exact G_at hG 55 rfl
theorem grg0_5 {g h : Int} {M : Mem} (hg : isG g) (hG : G h M) : M g 5 = g + 13 := by rcases hg with rfl | rfl; exact G_at hG 40 rfl; exact G_at hG 56 rfl
theorem grg0_6 {g h : Int} {M : Mem} (hg : isG g) (hG : G h M) : M g 6 = g + 14 := by rcases hg with rfl | rfl; exact G_at hG 41 rfl; exact G_at hG 57 rfl
theorem grg0_7 {g h : Int} {M : Mem} (hg : isG g) (hG : G h M) : M g 7 = g + 15 := by rcases hg with rfl | rfl; exact G_at hG 42 rfl; exact G_at hG 58 rfl
theorem grg0_8 {g h : Int} {M : Mem} (hg : isG g) (hG : G h M) : M g 8 = g + 16 := by rcases hg with rfl | rfl; exact G_at hG 43 rfl; exact G_at hG 59 rfl
theorem grg1_0 {g h : Int} {M : Mem} (hg : isG g) (hG : G h M) : M (g + 1) 0 = g + 2 := by rcases hg with rfl | rfl; exact G_at hG 44 rfl; exact G_at hG 60 rfl
theorem grg1_1 {g h : Int} {M : Mem} (hg : isG g) (hG : G h M) : M (g + 1) 1 = g + 3 := by rcases hg with rfl | rfl; exact G_at hG 45 rfl; exact G_at hG 61 rfl
theorem grg1_2 {g h : Int} {M : Mem} (hg : isG g) (hG : G h M) : M (g + 1) 2 = g + 4 := by rcases hg with rfl | rfl; exact G_at hG 46 rfl; exact G_at hG 62 rfl
theorem grg1_3 {g h : Int} {M : Mem} (hg : isG g) (hG : G h M) : M (g + 1) 3 = g + 5 := by rcases hg with rfl | rfl; exact G_at hG 47 rfl; exact G_at hG 63 rfl
theorem grg1_4 {g h : Int} {M : Mem} (hg : isG g) (hG : G h M) : M (g + 1) 4 = g + 6 := by rcases hg with rfl | rfl; exact G_at hG 48 rfl; exact G_at hG 64 rfl
theorem grg1_5 {g h : Int} {M : Mem} (hg : isG g) (hG : G h M) : M (g + 1) 5 = g + 7 := by rcases hg with rfl | rfl; exact G_at hG 49 rfl; exact G_at hG 65 rfl
theorem grg1_6 {g h : Int} {M : Mem} (hg : isG g) (hG : G h M) : M (g + 1) 6 = g + 8 := by rcases hg with rfl | rfl; exact G_at hG 50 rfl; exact G_at hG 66 rfl
section U
variable {E : EV} {mi : MI} {d : Nat} {n0 nc ns cells slots : Nat} {Q : Option MV → List Sh → Mem → Prop} {pc pc' : Nat} {L st : List MV} {S : List Sh} {M : Mem}
theorem U_gf {own ref C : String} {Tf : u_T} {N ci idx k : Nat} {x kI : Int} {v : MV} (hd : decode mi.2.1 pc = .ok (.getfield idx, 3)) (ho : mi.1.cls = own) (hc : Cl ci C Tf N) (hx : 0 ≤ x) (hS : S[x.toNat]? = some (1, ci, N)) (hk : k < N)
    (hlink : Cond.fieldLink own idx ref (Tf k).2.1 (Tf k).2.2.1 ∈ lw_ok) (hsame : (Tf k).1 = ref) (hkI : ((k : Nat) : Int) = kI) (ht : ftc ci k ≠ 2) (hv : fvm (ftc ci k) (M x kI) = v) (hp : pc + 3 = pc') (kk : T E mi d n0 nc ns Q pc' L (v :: st) S M cells slots) : T E mi d n0 nc ns Q pc L ((2, x) :: st) S M cells slots :=
  T_gf hd ho hc hx hS hk hlink hsame (by rw [hkI]; exact hv) (fun z => absurd z ht) hp kk
theorem U_gfN {own ref C host : String} {Tf : u_T} {N ci idx k : Nat} {x kI : Int} {v : MV} (hd : decode mi.2.1 pc = .ok (.getfield idx, 3)) (ho : mi.1.cls = own) (hc : Cl ci C Tf N) (hx : 0 ≤ x) (hS : S[x.toNat]? = some (1, ci, N)) (hk : k < N)
    (hlink : Cond.fieldLinkNest own idx ref (Tf k).2.1 (Tf k).2.2.1 host ∈ lw_nest) (hsame : (Tf k).1 = ref) (hkI : ((k : Nat) : Int) = kI) (ht : ftc ci k ≠ 2) (hv : fvm (ftc ci k) (M x kI) = v) (hp : pc + 3 = pc') (kk : T E mi d n0 nc ns Q pc' L (v :: st) S M cells slots) : T E mi d n0 nc ns Q pc L ((2, x) :: st) S M cells slots :=
  T_gfN hd ho hc hx hS hk hlink hsame (by rw [hkI]; exact hv) (fun z => absurd z ht) hp kk
theorem U_gr {own ref C : String} {Tf : u_T} {N ci idx k : Nat} {x kI q : Int} (hd : decode mi.2.1 pc = .ok (.getfield idx, 3)) (ho : mi.1.cls = own) (hc : Cl ci C Tf N) (hx : 0 ≤ x) (hS : S[x.toNat]? = some (1, ci, N)) (hk : k < N)
    (hlink : Cond.fieldLink own idx ref (Tf k).2.1 (Tf k).2.2.1 ∈ lw_ok) (hsame : (Tf k).1 = ref) (hkI : ((k : Nat) : Int) = kI) (ht : ftc ci k = 2) (hM : M x kI = q) (hq : 0 ≤ q) (hp : pc + 3 = pc') (kk : T E mi d n0 nc ns Q pc' L ((2, q) :: st) S M cells slots) : T E mi d n0 nc ns Q pc L ((2, x) :: st) S M cells slots :=
  T_gf hd ho hc hx hS hk hlink hsame (by rw [hkI, hM, ht]; rfl) (fun _ => by rw [hkI, hM]; exact hq) hp kk
theorem U_grN {own ref C host : String} {Tf : u_T} {N ci idx k : Nat} {x kI q : Int} (hd : decode mi.2.1 pc = .ok (.getfield idx, 3)) (ho : mi.1.cls = own) (hc : Cl ci C Tf N) (hx : 0 ≤ x) (hS : S[x.toNat]? = some (1, ci, N)) (hk : k < N)
    (hlink : Cond.fieldLinkNest own idx ref (Tf k).2.1 (Tf k).2.2.1 host ∈ lw_nest) (hsame : (Tf k).1 = ref) (hkI : ((k : Nat) : Int) = kI) (ht : ftc ci k = 2) (hM : M x kI = q) (hq : 0 ≤ q) (hp : pc + 3 = pc') (kk : T E mi d n0 nc ns Q pc' L ((2, q) :: st) S M cells slots) : T E mi d n0 nc ns Q pc L ((2, x) :: st) S M cells slots :=
  T_gfN hd ho hc hx hS hk hlink hsame (by rw [hkI, hM, ht]; rfl) (fun _ => by rw [hkI, hM]; exact hq) hp kk
theorem U_pf {own ref C : String} {Tf : u_T} {N ci idx k : Nat} {x y kI : Int} {v : MV} (hd : decode mi.2.1 pc = .ok (.putfield idx, 3)) (ho : mi.1.cls = own) (hc : Cl ci C Tf N) (hx : 0 ≤ x) (hS : S[x.toNat]? = some (1, ci, N)) (hk : k < N)
    (hlink : Cond.fieldLink own idx ref (Tf k).2.1 (Tf k).2.2.1 ∈ lw_ok) (hsame : (Tf k).1 = ref) (hfin : (Tf k).2.2.2 = false) (hty : okty (ftyO ci k) = true) (hkI : ((k : Nat) : Int) = kI) (hv : fvm (ftc ci k) y = v) (ht : ftc ci k ≠ 2) (hy : okv S.length v → okt S.length (ftc ci k) y) (hp : pc + 3 = pc') (kk : T E mi d n0 nc ns Q pc' L st S (mset M x kI y) cells slots) : T E mi d n0 nc ns Q pc L (v :: (2, x) :: st) S M cells slots :=
  T_pf hd ho hc hx hS hk hlink hsame hfin hty hv (fun z => absurd z ht) hy hp (by rw [hkI]; exact kk)
theorem U_pfN {own ref C host : String} {Tf : u_T} {N ci idx k : Nat} {x y kI : Int} {v : MV} (hd : decode mi.2.1 pc = .ok (.putfield idx, 3)) (ho : mi.1.cls = own) (hc : Cl ci C Tf N) (hx : 0 ≤ x) (hS : S[x.toNat]? = some (1, ci, N)) (hk : k < N)
    (hlink : Cond.fieldLinkNest own idx ref (Tf k).2.1 (Tf k).2.2.1 host ∈ lw_nest) (hsame : (Tf k).1 = ref) (hfin : (Tf k).2.2.2 = false) (hty : okty (ftyO ci k) = true) (hkI : ((k : Nat) : Int) = kI) (hv : fvm (ftc ci k) y = v) (ht : ftc ci k ≠ 2) (hy : okv S.length v → okt S.length (ftc ci k) y) (hp : pc + 3 = pc') (kk : T E mi d n0 nc ns Q pc' L st S (mset M x kI y) cells slots) : T E mi d n0 nc ns Q pc L (v :: (2, x) :: st) S M cells slots :=
  T_pfN hd ho hc hx hS hk hlink hsame hfin hty hv (fun z => absurd z ht) hy hp (by rw [hkI]; exact kk)
/-- a reference field, in the midst of a method: hall and draft -/
theorem U_pr {own ref C : String} {Tf : u_T} {N ci idx k : Nat} {x y kI : Int} (hd : decode mi.2.1 pc = .ok (.putfield idx, 3)) (ho : mi.1.cls = own) (hc : Cl ci C Tf N) (hx : 0 ≤ x) (hS : S[x.toNat]? = some (1, ci, N)) (hk : k < N)
    (hlink : Cond.fieldLink own idx ref (Tf k).2.1 (Tf k).2.2.1 ∈ lw_ok) (hsame : (Tf k).1 = ref) (hfin : (Tf k).2.2.2 = false) (hty : okty (ftyO ci k) = true) (hkI : ((k : Nat) : Int) = kI) (ht : ftc ci k = 2) (hy0 : 0 ≤ y) (hy : y < (S.length : Nat)) (hp : pc + 3 = pc') (kk : T E mi d n0 nc ns Q pc' L st S (mset M x kI y) cells slots) : T E mi d n0 nc ns Q pc L ((2, y) :: (2, x) :: st) S M cells slots :=
  T_pf hd ho hc hx hS hk hlink hsame hfin hty (by rw [ht]; rfl) (fun _ => hy0) (fun _ => by rw [ht]; exact hy) hp (by rw [hkI]; exact kk)
end U
theorem bool_ok {n : Nat} {y : Int} (h : y = 0 ∨ y = 1) : okt n 3 y := by
  show 0 ≤ y ∧ y ≤ 1
  omega
