/-! from the law's entry to its loop -/
def Mini (M : Mem) : Mem := km15_X12_init (mnew (km14_X11_init (mnew M 0 (nobj 11))) 66 (nobj 12))
set_option maxHeartbeats 4000000 in
set_option maxRecDepth 100000 in
theorem law_go {E : EV} {b Ln : Nat} {xs : Nat → Int32} {p : Program} {e : Env} {s : State} {m : MethodId} {below : List Frame} {meth : Method} {c : Code} (C : LA E b Ln xs p s m meth c) (I : Mem → Prop) (hT : Twos E I) (M : Mem) (hI : I (Mini M)) : TL E b Ln xs p e s m below meth c 0 [(2, 1015), (3, 0), (3, 0), (3, 0)] [] (Sq 0) M 0 0 := by
  refine L_new C (S' := Sq 1) (nI := 0) (c' := 1) (s' := 18) (pc' := 3) dL_law_0 cl11 klL_7 oky11 ⟨by decide, by decide⟩ (by decide) rfl rfl rfl rfl rfl ?_
  refine L_dup C (pc' := 4) dL_law_3 (Nat.ne_of_beq_eq_false rfl) rfl ?_
  refine L_callI C (av := []) (st := [(2, 0)]) (d2 := 4) (nc2 := 65) (ns2 := 9471) (pc' := 7) dL_law_4 mtX11_init mvX11_init rfl rfl mlL_9 rfl rfl (Nat.le_of_ble_eq_true rfl) (by decide) ⟨by decide, by decide⟩ rfl (k14_X11_init (M := _)) ?_
  rintro _ _ _ ⟨rfl, rfl, rfl⟩ _
  show TL E b Ln xs p e s m below meth c 7 [(2, 1015), (3, 0), (3, 0), (3, 0)] [(2, 0)] (Sq 66) _ 66 9489
  refine L_astore_n C (i := 1) (L' := [(2, 1015), (2, 0), (3, 0), (3, 0)]) (pc' := 8) dL_law_7 rfl (by decide) rfl rfl ?_
  refine L_new C (S' := Sq 67) (nI := 66) (c' := 67) (s' := 9579) (pc' := 11) dL_law_8 cl12 klL_10 oky12 ⟨by decide, by decide⟩ (by decide) rfl rfl rfl rfl rfl ?_
  refine L_dup C (pc' := 12) dL_law_11 (Nat.ne_of_beq_eq_false rfl) rfl ?_
  refine L_callI C (av := []) (st := [(2, 66)]) (d2 := 1) (nc2 := 59) (ns2 := 10042) (pc' := 15) dL_law_12 mtX12_init mvX12_init rfl rfl mlL_12 rfl rfl (Nat.le_of_ble_eq_true rfl) (by decide) ⟨by decide, by decide⟩ rfl (k15_X12_init (M := _)) ?_
  rintro _ _ _ ⟨rfl, rfl, rfl⟩ _
  show TL E b Ln xs p e s m below meth c 15 [(2, 1015), (2, 0), (3, 0), (3, 0)] [(2, 66)] (Sq 126) _ 126 19621
  refine L_astore_n C (i := 2) (L' := [(2, 1015), (2, 0), (2, 66), (3, 0)]) (pc' := 16) dL_law_15 rfl (by decide) rfl rfl ?_
  refine L_iconst C (pc' := 17) dL_law_16 (by decide) rfl ?_
  refine L_istore_n C (i := 3) (L' := [(2, 1015), (2, 0), (2, 66), (0, 0)]) (pc' := 18) dL_law_17 rfl (by decide) rfl rfl ?_
  have hS : Sq 126 = S0 := rfl
  rw [hS]
  exact law_loop C I hT (Ln + 1) 0 (Mini M) (by decide) (by decide) (by omega) hI
theorem start_arr {args : Array Value} {s : State} {ty : FieldType} (h : (Cond.arrayClass ty).before args s = true) (hp : ∀ C, ty ≠ .object C) : ∃ cA : ClassId, ArrOfT s cA ty ∧ va_RA s cA ty := by
  obtain ⟨cA, kA, comp, h1, h2, h3⟩ := Cond.arrayClass_spec h
  refine ⟨cA, fun n z => ⟨fun k h => (by cases h), kA, h2, comp, h3⟩, ?_⟩
  cases ty <;> first | exact h1 | exact absurd rfl (hp _)
theorem start_K {args : Array Value} {s : State} (hts : ∀ w ∈ lw_ok, w.before args s = true) : ∃ (D : va_G) (cA : Nat → ClassId), va_K D vwCl (tysO cA) s := by
  have h : ∀ k : Nat, ∃ z : ClassId × (Nat → Nat), ∀ q, vwCl[k]? = some q → u_Kn s q.1 q.2.1 q.2.2 z.1 z.2 := by
    intro k
    match k with
    | 0 =>
      obtain ⟨cC, iS, hk⟩ := u_known (C := RX0) (T := TX0) (N := 4) (n := 4) hts clw0 (hts _ cl0.2.2.2.2.1)
      exact ⟨(cC, iS), fun q hq => by cases hq; exact hk⟩
    | 1 =>
      obtain ⟨cC, iS, hk⟩ := u_known (C := RX1) (T := TX1) (N := 18) (n := 18) hts clw1 (hts _ cl1.2.2.2.2.1)
      exact ⟨(cC, iS), fun q hq => by cases hq; exact hk⟩
    | 2 =>
      obtain ⟨cC, iS, hk⟩ := u_known (C := RX2) (T := TX2) (N := 2) (n := 2) hts clw2 (hts _ cl2.2.2.2.2.1)
      exact ⟨(cC, iS), fun q hq => by cases hq; exact hk⟩
    | 3 =>
      obtain ⟨cC, iS, hk⟩ := u_known (C := RX3) (T := TX3) (N := 12) (n := 12) hts clw3 (hts _ cl3.2.2.2.2.1)
      exact ⟨(cC, iS), fun q hq => by cases hq; exact hk⟩
    | 4 =>
      obtain ⟨cC, iS, hk⟩ := u_known (C := RX4) (T := TX4) (N := 9) (n := 9) hts clw4 (hts _ cl4.2.2.2.2.1)
      exact ⟨(cC, iS), fun q hq => by cases hq; exact hk⟩
    | 5 =>
      obtain ⟨cC, iS, hk⟩ := u_known (C := RX5) (T := TX5) (N := 4) (n := 4) hts clw5 (hts _ cl5.2.2.2.2.1)
      exact ⟨(cC, iS), fun q hq => by cases hq; exact hk⟩
    | 6 =>
      obtain ⟨cC, iS, hk⟩ := u_known (C := RX6) (T := TX6) (N := 3) (n := 3) hts clw6 (hts _ cl6.2.2.2.2.1)
      exact ⟨(cC, iS), fun q hq => by cases hq; exact hk⟩
    | 7 =>
      obtain ⟨cC, iS, hk⟩ := u_known (C := RX7) (T := TX7) (N := 11) (n := 11) hts clw7 (hts _ cl7.2.2.2.2.1)
      exact ⟨(cC, iS), fun q hq => by cases hq; exact hk⟩
    | 8 =>
      obtain ⟨cC, iS, hk⟩ := u_known (C := RX8) (T := TX8) (N := 2) (n := 2) hts clw8 (hts _ cl8.2.2.2.2.1)
      exact ⟨(cC, iS), fun q hq => by cases hq; exact hk⟩
    | 9 =>
      obtain ⟨cC, iS, hk⟩ := u_known (C := RX9) (T := TX9) (N := 6) (n := 6) hts clw9 (hts _ cl9.2.2.2.2.1)
      exact ⟨(cC, iS), fun q hq => by cases hq; exact hk⟩
    | 10 =>
      obtain ⟨cC, iS, hk⟩ := u_known (C := RX10) (T := TX10) (N := 4) (n := 4) hts clw10 (hts _ cl10.2.2.2.2.1)
      exact ⟨(cC, iS), fun q hq => by cases hq; exact hk⟩
    | 11 =>
      obtain ⟨cC, iS, hk⟩ := u_known (C := RX11) (T := TX11) (N := 18) (n := 18) hts clw11 (hts _ cl11.2.2.2.2.1)
      exact ⟨(cC, iS), fun q hq => by cases hq; exact hk⟩
    | 12 =>
      obtain ⟨cC, iS, hk⟩ := u_known (C := RX12) (T := TX12) (N := 90) (n := 90) hts clw12 (hts _ cl12.2.2.2.2.1)
      exact ⟨(cC, iS), fun q hq => by cases hq; exact hk⟩
    | n + 13 => exact ⟨(0, fun _ => 0), fun q hq => by simp [vwCl] at hq⟩
  obtain ⟨a0, b0, b0'⟩ := start_arr (hts _ acI) (fun C h => by cases h)
  obtain ⟨a1, b1, b1'⟩ := start_arr (hts _ acJ) (fun C h => by cases h)
  obtain ⟨a3, b3, b3'⟩ := start_arr (hts _ acZ) (fun C h => by cases h)
  obtain ⟨a4, b4, b4'⟩ := start_arr (hts _ acC) (fun C h => by cases h)
  refine ⟨(fun k => (Classical.choose (h k)).1, fun k => (Classical.choose (h k)).2), fun et => match et with
    | 0 => a0
    | 1 => a1
    | 3 => a3
    | _ => a4, fun k q hq => Classical.choose_spec (h k) q hq, fun k q hq => ?_⟩
  match k with
  | 0 => cases hq; exact ⟨b0, b0'⟩
  | 1 => cases hq; exact ⟨b1, b1'⟩
  | 2 => cases hq; exact ⟨b3, b3'⟩
  | 3 => cases hq; exact ⟨b4, b4'⟩
  | n + 4 => simp [tysO] at hq
/-- the String constants at the start -/
def tmS (i : Nat) : Term := match lw_str[i]? with
  | some q => Term.string q.1 q.2.1
  | none => Term.arg 0
set_option maxHeartbeats 8000000 in
set_option maxRecDepth 100000 in
set_option maxHeartbeats 8000000 in
set_option maxRecDepth 100000 in
theorem st_ex {args : Array Value} {s : State} (hgv : (Jvm.Cond.and given_1 narrow_1).before args s = true) : ∀ i : Nat, i < 15 → (Cond.exactly (tmS i) "java/lang/String").before args s = true := by
  rw [Cond.before_and, Bool.and_eq_true] at hgv
  have h := hgv.2
  simp only [narrow_1, Cond.before_and, Bool.and_eq_true] at h
  intro i hi
  match i, hi with
  | 0, _ => exact h.1.1.1.1.1.2.1.2.1
  | 1, _ => exact h.1.2.1.1.1.1.2.2.2
  | 2, _ => exact h.1.2.1.1.2.1.1.2.1
  | 3, _ => exact h.1.2.1.1.2.2.2.2.2
  | 4, _ => exact h.1.2.1.2.1.2.2.2.2
  | 5, _ => exact h.1.2.2.1.1.1.1.1
  | 6, _ => exact h.1.2.2.1.2.1.1.2.2
  | 7, _ => exact h.1.2.2.2.1.2.1.1
  | 8, _ => exact h.1.2.2.2.2.2.2.1.1
  | 9, _ => exact h.2.1.1.1.2.1.1.2.2
  | 10, _ => exact h.2.1.2.1.1.2.2.1.2
  | 11, _ => exact h.2.1.2.2.1.1.1.2.2
  | 12, _ => exact h.2.1.2.2.2.2.1.2.2
  | 13, _ => exact h.2.2.2.1.1.2.2.1.2
  | 14, _ => exact h.2.2.2.2.1.1.2.2.2
  | n + 15, hi => exact absurd hi (by omega)
set_option maxHeartbeats 8000000 in
set_option maxRecDepth 100000 in
theorem st_co {args : Array Value} {s : State} (hgv : (Jvm.Cond.and given_1 narrow_1).before args s = true) : ∀ i : Nat, i < 15 → (Cond.eq (.field (tmS i) "java/lang/String" "coder" "B") (.int 0)).before args s = true := by
  rw [Cond.before_and, Bool.and_eq_true] at hgv
  have h := hgv.2
  simp only [narrow_1, Cond.before_and, Bool.and_eq_true] at h
  intro i hi
  match i, hi with
  | 0, _ => exact h.1.1.1.1.1.2.1.2.2
  | 1, _ => exact h.1.2.1.1.1.2.1.1
  | 2, _ => exact h.1.2.1.1.2.1.1.2.2
  | 3, _ => exact h.1.2.1.2.1.1.1.1
  | 4, _ => exact h.1.2.1.2.2.1.1.1
  | 5, _ => exact h.1.2.2.1.1.1.1.2.1
  | 6, _ => exact h.1.2.2.1.2.1.2.1
  | 7, _ => exact h.1.2.2.2.1.2.1.2.1
  | 8, _ => exact h.1.2.2.2.2.2.2.1.2
  | 9, _ => exact h.2.1.1.1.2.1.2.1
  | 10, _ => exact h.2.1.2.1.1.2.2.2.1
  | 11, _ => exact h.2.1.2.2.1.1.2.1
  | 12, _ => exact h.2.1.2.2.2.2.2.1.1
  | 13, _ => exact h.2.2.2.1.1.2.2.2.1
  | 14, _ => exact h.2.2.2.2.1.2.1.1
  | n + 15, hi => exact absurd hi (by omega)
set_option maxHeartbeats 8000000 in
set_option maxRecDepth 100000 in
theorem st_ar {args : Array Value} {s : State} (hgv : (Jvm.Cond.and given_1 narrow_1).before args s = true) : ∀ i : Nat, i < 15 → (Cond.arrayOf (.field (tmS i) "java/lang/String" "value" "[B") .byte).before args s = true := by
  rw [Cond.before_and, Bool.and_eq_true] at hgv
  have h := hgv.2
  simp only [narrow_1, Cond.before_and, Bool.and_eq_true] at h
  intro i hi
  match i, hi with
  | 0, _ => exact h.1.1.1.1.1.2.2.1
  | 1, _ => exact h.1.2.1.1.1.2.1.2.1
  | 2, _ => exact h.1.2.1.1.2.1.2.1
  | 3, _ => exact h.1.2.1.2.1.1.1.2.1
  | 4, _ => exact h.1.2.1.2.2.1.1.2.1
  | 5, _ => exact h.1.2.2.1.1.1.1.2.2
  | 6, _ => exact h.1.2.2.1.2.1.2.2.1
  | 7, _ => exact h.1.2.2.2.1.2.1.2.2
  | 8, _ => exact h.1.2.2.2.2.2.2.2.1
  | 9, _ => exact h.2.1.1.1.2.1.2.2.1
  | 10, _ => exact h.2.1.2.1.1.2.2.2.2
  | 11, _ => exact h.2.1.2.2.1.1.2.2.1
  | 12, _ => exact h.2.1.2.2.2.2.2.1.2
  | 13, _ => exact h.2.2.2.1.1.2.2.2.2
  | 14, _ => exact h.2.2.2.2.1.2.1.2.1
  | n + 15, hi => exact absurd hi (by omega)
set_option maxHeartbeats 8000000 in
set_option maxRecDepth 100000 in
theorem st_le {args : Array Value} {s : State} (hgv : (Jvm.Cond.and given_1 narrow_1).before args s = true) : ∀ i : Nat, i < 15 → (Cond.eq (.length (.field (tmS i) "java/lang/String" "value" "[B")) (.int (Int32.ofNat (lenS.getD i 0)))).before args s = true := by
  rw [Cond.before_and, Bool.and_eq_true] at hgv
  have h := hgv.2
  simp only [narrow_1, Cond.before_and, Bool.and_eq_true] at h
  intro i hi
  match i, hi with
  | 0, _ => exact h.1.1.1.1.1.2.2.2.1
  | 1, _ => exact h.1.2.1.1.1.2.1.2.2
  | 2, _ => exact h.1.2.1.1.2.1.2.2.1
  | 3, _ => exact h.1.2.1.2.1.1.1.2.2
  | 4, _ => exact h.1.2.1.2.2.1.1.2.2
  | 5, _ => exact h.1.2.2.1.1.1.2.1
  | 6, _ => exact h.1.2.2.1.2.1.2.2.2
  | 7, _ => exact h.1.2.2.2.1.2.2.1.1
  | 8, _ => exact h.1.2.2.2.2.2.2.2.2
  | 9, _ => exact h.2.1.1.1.2.1.2.2.2
  | 10, _ => exact h.2.1.2.1.2.1.1.1
  | 11, _ => exact h.2.1.2.2.1.1.2.2.2
  | 12, _ => exact h.2.1.2.2.2.2.2.2.1
  | 13, _ => exact h.2.2.2.1.2.1.1.1
  | 14, _ => exact h.2.2.2.2.1.2.1.2.2
  | n + 15, hi => exact absurd hi (by omega)
set_option maxHeartbeats 8000000 in
set_option maxRecDepth 100000 in
theorem st_el {args : Array Value} {s : State} (hgv : (Jvm.Cond.and given_1 narrow_1).before args s = true) : ∀ i : Nat, i < 15 → ∀ j : Nat, j < lenS.getD i 0 → (Cond.eq (.elem (.field (tmS i) "java/lang/String" "value" "[B") (.int (Int32.ofNat j))) (.int ((bytS.getD i []).getD j 0))).before args s = true := by
  rw [Cond.before_and, Bool.and_eq_true] at hgv
  have h := hgv.2
  simp only [narrow_1, Cond.before_and, Bool.and_eq_true] at h
  intro i hi j hj
  match i, hi with
  | 0, _ =>
    have e : bytS.getD 0 [] = [104, 97, 108, 108, 32, 119, 97, 108, 108, 32, 100, 111, 111, 114, 32, 112, 101, 114, 115, 111, 110, 32, 103, 117, 97, 114, 100, 32, 115, 116, 114, 111, 107, 101, 32, 111, 112, 101, 110, 32, 110, 101, 97, 114, 32, 101, 110, 111, 117, 103, 104, 32, 97, 116, 32, 115, 108, 111, 119, 32, 100, 97, 114, 101, 115, 32, 99, 111, 109, 101, 115, 32, 119, 97, 108, 107, 115, 32, 112, 97, 115, 115, 101, 114, 32, 115, 101, 101, 115, 32, 108, 111, 111, 107, 115, 32] := by decide +kernel
    have e2 : lenS.getD 0 0 = 96 := by decide +kernel
    rw [e2] at hj; rw [e]
    match j, hj with
    | 0, _ => exact h.1.1.1.1.1.2.2.2.2
    | 1, _ => exact h.1.1.1.1.2.1.1.1
    | 2, _ => exact h.1.1.1.1.2.1.1.2.1
    | 3, _ => exact h.1.1.1.1.2.1.1.2.2
    | 4, _ => exact h.1.1.1.1.2.1.2.1
    | 5, _ => exact h.1.1.1.1.2.1.2.2.1
    | 6, _ => exact h.1.1.1.1.2.1.2.2.2
    | 7, _ => exact h.1.1.1.1.2.2.1.1
    | 8, _ => exact h.1.1.1.1.2.2.1.2.1
    | 9, _ => exact h.1.1.1.1.2.2.1.2.2
    | 10, _ => exact h.1.1.1.1.2.2.2.1.1
    | 11, _ => exact h.1.1.1.1.2.2.2.1.2
    | 12, _ => exact h.1.1.1.1.2.2.2.2.1
    | 13, _ => exact h.1.1.1.1.2.2.2.2.2
    | 14, _ => exact h.1.1.1.2.1.1.1.1
    | 15, _ => exact h.1.1.1.2.1.1.1.2.1
    | 16, _ => exact h.1.1.1.2.1.1.1.2.2
    | 17, _ => exact h.1.1.1.2.1.1.2.1
    | 18, _ => exact h.1.1.1.2.1.1.2.2.1
    | 19, _ => exact h.1.1.1.2.1.1.2.2.2
    | 20, _ => exact h.1.1.1.2.1.2.1.1
    | 21, _ => exact h.1.1.1.2.1.2.1.2.1
    | 22, _ => exact h.1.1.1.2.1.2.1.2.2
    | 23, _ => exact h.1.1.1.2.1.2.2.1.1
    | 24, _ => exact h.1.1.1.2.1.2.2.1.2
    | 25, _ => exact h.1.1.1.2.1.2.2.2.1
    | 26, _ => exact h.1.1.1.2.1.2.2.2.2
    | 27, _ => exact h.1.1.1.2.2.1.1.1
    | 28, _ => exact h.1.1.1.2.2.1.1.2.1
    | 29, _ => exact h.1.1.1.2.2.1.1.2.2
    | 30, _ => exact h.1.1.1.2.2.1.2.1
    | 31, _ => exact h.1.1.1.2.2.1.2.2.1
    | 32, _ => exact h.1.1.1.2.2.1.2.2.2
    | 33, _ => exact h.1.1.1.2.2.2.1.1
    | 34, _ => exact h.1.1.1.2.2.2.1.2.1
    | 35, _ => exact h.1.1.1.2.2.2.1.2.2
    | 36, _ => exact h.1.1.1.2.2.2.2.1.1
    | 37, _ => exact h.1.1.1.2.2.2.2.1.2
    | 38, _ => exact h.1.1.1.2.2.2.2.2.1
    | 39, _ => exact h.1.1.1.2.2.2.2.2.2
    | 40, _ => exact h.1.1.2.1.1.1.1.1
    | 41, _ => exact h.1.1.2.1.1.1.1.2.1
    | 42, _ => exact h.1.1.2.1.1.1.1.2.2
    | 43, _ => exact h.1.1.2.1.1.1.2.1
    | 44, _ => exact h.1.1.2.1.1.1.2.2.1
    | 45, _ => exact h.1.1.2.1.1.1.2.2.2
    | 46, _ => exact h.1.1.2.1.1.2.1.1
    | 47, _ => exact h.1.1.2.1.1.2.1.2.1
    | 48, _ => exact h.1.1.2.1.1.2.1.2.2
    | 49, _ => exact h.1.1.2.1.1.2.2.1
    | 50, _ => exact h.1.1.2.1.1.2.2.2.1
    | 51, _ => exact h.1.1.2.1.1.2.2.2.2
    | 52, _ => exact h.1.1.2.1.2.1.1.1
    | 53, _ => exact h.1.1.2.1.2.1.1.2.1
    | 54, _ => exact h.1.1.2.1.2.1.1.2.2
    | 55, _ => exact h.1.1.2.1.2.1.2.1
    | 56, _ => exact h.1.1.2.1.2.1.2.2.1
    | 57, _ => exact h.1.1.2.1.2.1.2.2.2
    | 58, _ => exact h.1.1.2.1.2.2.1.1
    | 59, _ => exact h.1.1.2.1.2.2.1.2.1
    | 60, _ => exact h.1.1.2.1.2.2.1.2.2
    | 61, _ => exact h.1.1.2.1.2.2.2.1.1
    | 62, _ => exact h.1.1.2.1.2.2.2.1.2
    | 63, _ => exact h.1.1.2.1.2.2.2.2.1
    | 64, _ => exact h.1.1.2.1.2.2.2.2.2
    | 65, _ => exact h.1.1.2.2.1.1.1.1
    | 66, _ => exact h.1.1.2.2.1.1.1.2.1
    | 67, _ => exact h.1.1.2.2.1.1.1.2.2
    | 68, _ => exact h.1.1.2.2.1.1.2.1
    | 69, _ => exact h.1.1.2.2.1.1.2.2.1
    | 70, _ => exact h.1.1.2.2.1.1.2.2.2
    | 71, _ => exact h.1.1.2.2.1.2.1.1
    | 72, _ => exact h.1.1.2.2.1.2.1.2.1
    | 73, _ => exact h.1.1.2.2.1.2.1.2.2
    | 74, _ => exact h.1.1.2.2.1.2.2.1.1
    | 75, _ => exact h.1.1.2.2.1.2.2.1.2
    | 76, _ => exact h.1.1.2.2.1.2.2.2.1
    | 77, _ => exact h.1.1.2.2.1.2.2.2.2
    | 78, _ => exact h.1.1.2.2.2.1.1.1
    | 79, _ => exact h.1.1.2.2.2.1.1.2.1
    | 80, _ => exact h.1.1.2.2.2.1.1.2.2
    | 81, _ => exact h.1.1.2.2.2.1.2.1
    | 82, _ => exact h.1.1.2.2.2.1.2.2.1
    | 83, _ => exact h.1.1.2.2.2.1.2.2.2
    | 84, _ => exact h.1.1.2.2.2.2.1.1
    | 85, _ => exact h.1.1.2.2.2.2.1.2.1
    | 86, _ => exact h.1.1.2.2.2.2.1.2.2
    | 87, _ => exact h.1.1.2.2.2.2.2.1.1
    | 88, _ => exact h.1.1.2.2.2.2.2.1.2
    | 89, _ => exact h.1.1.2.2.2.2.2.2.1
    | 90, _ => exact h.1.1.2.2.2.2.2.2.2
    | 91, _ => exact h.1.2.1.1.1.1.1.1
    | 92, _ => exact h.1.2.1.1.1.1.1.2.1
    | 93, _ => exact h.1.2.1.1.1.1.1.2.2
    | 94, _ => exact h.1.2.1.1.1.1.2.1
    | 95, _ => exact h.1.2.1.1.1.1.2.2.1
    | n + 96, hj => exact absurd hj (by omega)
  | 1, _ =>
    have e : bytS.getD 1 [] = [97, 116, 32] := by decide +kernel
    have e2 : lenS.getD 1 0 = 3 := by decide +kernel
    rw [e2] at hj; rw [e]
    match j, hj with
    | 0, _ => exact h.1.2.1.1.1.2.2.1
    | 1, _ => exact h.1.2.1.1.1.2.2.2.1
    | 2, _ => exact h.1.2.1.1.1.2.2.2.2
    | n + 3, hj => exact absurd hj (by omega)
  | 2, _ =>
    have e : bytS.getD 2 [] = [115, 108, 111, 119, 32] := by decide +kernel
    have e2 : lenS.getD 2 0 = 5 := by decide +kernel
    rw [e2] at hj; rw [e]
    match j, hj with
    | 0, _ => exact h.1.2.1.1.2.1.2.2.2
    | 1, _ => exact h.1.2.1.1.2.2.1.1
    | 2, _ => exact h.1.2.1.1.2.2.1.2.1
    | 3, _ => exact h.1.2.1.1.2.2.1.2.2
    | 4, _ => exact h.1.2.1.1.2.2.2.1.1
    | n + 5, hj => exact absurd hj (by omega)
  | 3, _ =>
    have e : bytS.getD 3 [] = [100, 97, 114, 101, 115, 32] := by decide +kernel
    have e2 : lenS.getD 3 0 = 6 := by decide +kernel
    rw [e2] at hj; rw [e]
    match j, hj with
    | 0, _ => exact h.1.2.1.2.1.1.2.1
    | 1, _ => exact h.1.2.1.2.1.1.2.2.1
    | 2, _ => exact h.1.2.1.2.1.1.2.2.2
    | 3, _ => exact h.1.2.1.2.1.2.1.1
    | 4, _ => exact h.1.2.1.2.1.2.1.2.1
    | 5, _ => exact h.1.2.1.2.1.2.1.2.2
    | n + 6, hj => exact absurd hj (by omega)
  | 4, _ =>
    have e : bytS.getD 4 [] = [99, 111, 109, 101, 115, 32] := by decide +kernel
    have e2 : lenS.getD 4 0 = 6 := by decide +kernel
    rw [e2] at hj; rw [e]
    match j, hj with
    | 0, _ => exact h.1.2.1.2.2.1.2.1
    | 1, _ => exact h.1.2.1.2.2.1.2.2.1
    | 2, _ => exact h.1.2.1.2.2.1.2.2.2
    | 3, _ => exact h.1.2.1.2.2.2.1.1
    | 4, _ => exact h.1.2.1.2.2.2.1.2.1
    | 5, _ => exact h.1.2.1.2.2.2.1.2.2
    | n + 6, hj => exact absurd hj (by omega)
  | 5, _ =>
    have e : bytS.getD 5 [] = [119, 97, 108, 107, 115, 32] := by decide +kernel
    have e2 : lenS.getD 5 0 = 6 := by decide +kernel
    rw [e2] at hj; rw [e]
    match j, hj with
    | 0, _ => exact h.1.2.2.1.1.1.2.2.1
    | 1, _ => exact h.1.2.2.1.1.1.2.2.2
    | 2, _ => exact h.1.2.2.1.1.2.1.1
    | 3, _ => exact h.1.2.2.1.1.2.1.2.1
    | 4, _ => exact h.1.2.2.1.1.2.1.2.2
    | 5, _ => exact h.1.2.2.1.1.2.2.1.1
    | n + 6, hj => exact absurd hj (by omega)
  | 6, _ =>
    have e : bytS.getD 6 [] = [112, 97, 115, 115, 101, 114, 32] := by decide +kernel
    have e2 : lenS.getD 6 0 = 7 := by decide +kernel
    rw [e2] at hj; rw [e]
    match j, hj with
    | 0, _ => exact h.1.2.2.1.2.2.1.1
    | 1, _ => exact h.1.2.2.1.2.2.1.2.1
    | 2, _ => exact h.1.2.2.1.2.2.1.2.2
    | 3, _ => exact h.1.2.2.1.2.2.2.1.1
    | 4, _ => exact h.1.2.2.1.2.2.2.1.2
    | 5, _ => exact h.1.2.2.1.2.2.2.2.1
    | 6, _ => exact h.1.2.2.1.2.2.2.2.2
    | n + 7, hj => exact absurd hj (by omega)
  | 7, _ =>
    have e : bytS.getD 7 [] = [115, 101, 101, 115, 32] := by decide +kernel
    have e2 : lenS.getD 7 0 = 5 := by decide +kernel
    rw [e2] at hj; rw [e]
    match j, hj with
    | 0, _ => exact h.1.2.2.2.1.2.2.1.2
    | 1, _ => exact h.1.2.2.2.1.2.2.2.1
    | 2, _ => exact h.1.2.2.2.1.2.2.2.2
    | 3, _ => exact h.1.2.2.2.2.1.1.1
    | 4, _ => exact h.1.2.2.2.2.1.1.2.1
    | n + 5, hj => exact absurd hj (by omega)
  | 8, _ =>
    have e : bytS.getD 8 [] = [108, 111, 111, 107, 115, 32] := by decide +kernel
    have e2 : lenS.getD 8 0 = 6 := by decide +kernel
    rw [e2] at hj; rw [e]
    match j, hj with
    | 0, _ => exact h.2.1.1.1.1.1.1.1
    | 1, _ => exact h.2.1.1.1.1.1.1.2.1
    | 2, _ => exact h.2.1.1.1.1.1.1.2.2
    | 3, _ => exact h.2.1.1.1.1.1.2.1
    | 4, _ => exact h.2.1.1.1.1.1.2.2.1
    | 5, _ => exact h.2.1.1.1.1.1.2.2.2
    | n + 6, hj => exact absurd hj (by omega)
  | 9, _ =>
    have e : bytS.getD 9 [] = [102, 105, 114, 115, 116, 32, 108, 97, 115, 116, 32, 111, 102, 116, 101, 110, 32, 116, 111, 116, 97, 108, 32, 109, 111, 115, 116, 32, 108, 101, 97, 115, 116, 32] := by decide +kernel
    have e2 : lenS.getD 9 0 = 34 := by decide +kernel
    rw [e2] at hj; rw [e]
    match j, hj with
    | 0, _ => exact h.2.1.1.1.2.2.1.1
    | 1, _ => exact h.2.1.1.1.2.2.1.2.1
    | 2, _ => exact h.2.1.1.1.2.2.1.2.2
    | 3, _ => exact h.2.1.1.1.2.2.2.1.1
    | 4, _ => exact h.2.1.1.1.2.2.2.1.2
    | 5, _ => exact h.2.1.1.1.2.2.2.2.1
    | 6, _ => exact h.2.1.1.1.2.2.2.2.2
    | 7, _ => exact h.2.1.1.2.1.1.1.1
    | 8, _ => exact h.2.1.1.2.1.1.1.2.1
    | 9, _ => exact h.2.1.1.2.1.1.1.2.2
    | 10, _ => exact h.2.1.1.2.1.1.2.1
    | 11, _ => exact h.2.1.1.2.1.1.2.2.1
    | 12, _ => exact h.2.1.1.2.1.1.2.2.2
    | 13, _ => exact h.2.1.1.2.1.2.1.1
    | 14, _ => exact h.2.1.1.2.1.2.1.2.1
    | 15, _ => exact h.2.1.1.2.1.2.1.2.2
    | 16, _ => exact h.2.1.1.2.1.2.2.1.1
    | 17, _ => exact h.2.1.1.2.1.2.2.1.2
    | 18, _ => exact h.2.1.1.2.1.2.2.2.1
    | 19, _ => exact h.2.1.1.2.1.2.2.2.2
    | 20, _ => exact h.2.1.1.2.2.1.1.1
    | 21, _ => exact h.2.1.1.2.2.1.1.2.1
    | 22, _ => exact h.2.1.1.2.2.1.1.2.2
    | 23, _ => exact h.2.1.1.2.2.1.2.1
    | 24, _ => exact h.2.1.1.2.2.1.2.2.1
    | 25, _ => exact h.2.1.1.2.2.1.2.2.2
    | 26, _ => exact h.2.1.1.2.2.2.1.1
    | 27, _ => exact h.2.1.1.2.2.2.1.2.1
    | 28, _ => exact h.2.1.1.2.2.2.1.2.2
    | 29, _ => exact h.2.1.1.2.2.2.2.1.1
    | 30, _ => exact h.2.1.1.2.2.2.2.1.2
    | 31, _ => exact h.2.1.1.2.2.2.2.2.1
    | 32, _ => exact h.2.1.1.2.2.2.2.2.2
    | 33, _ => exact h.2.1.2.1.1.1.1.1
    | n + 34, hj => exact absurd hj (by omega)
  | 10, _ =>
    have e : bytS.getD 10 [] = [110, 111, 116, 32] := by decide +kernel
    have e2 : lenS.getD 10 0 = 4 := by decide +kernel
    rw [e2] at hj; rw [e]
    match j, hj with
    | 0, _ => exact h.2.1.2.1.2.1.1.2.1
    | 1, _ => exact h.2.1.2.1.2.1.1.2.2
    | 2, _ => exact h.2.1.2.1.2.1.2.1
    | 3, _ => exact h.2.1.2.1.2.1.2.2.1
    | n + 4, hj => exact absurd hj (by omega)
  | 11, _ =>
    have e : bytS.getD 11 [] = [97, 108, 108, 32] := by decide +kernel
    have e2 : lenS.getD 11 0 = 4 := by decide +kernel
    rw [e2] at hj; rw [e]
    match j, hj with
    | 0, _ => exact h.2.1.2.2.1.2.1.1
    | 1, _ => exact h.2.1.2.2.1.2.1.2.1
    | 2, _ => exact h.2.1.2.2.1.2.1.2.2
    | 3, _ => exact h.2.1.2.2.1.2.2.1.1
    | n + 4, hj => exact absurd hj (by omega)
  | 12, _ =>
    have e : bytS.getD 12 [] = [115, 101, 99, 111, 110, 100, 32, 111, 112, 101, 110, 32, 119, 97, 105, 116, 115, 32, 103, 111, 101, 115, 32, 111, 117, 116, 115, 32, 97, 108, 97, 114, 109, 32, 97, 116, 32, 100, 111, 101, 115, 32, 109, 105, 110, 32, 109, 97, 120, 32] := by decide +kernel
    have e2 : lenS.getD 12 0 = 50 := by decide +kernel
    rw [e2] at hj; rw [e]
    match j, hj with
    | 0, _ => exact h.2.1.2.2.2.2.2.2.2
    | 1, _ => exact h.2.2.1.1.1.1.1.1
    | 2, _ => exact h.2.2.1.1.1.1.1.2.1
    | 3, _ => exact h.2.2.1.1.1.1.1.2.2
    | 4, _ => exact h.2.2.1.1.1.1.2.1
    | 5, _ => exact h.2.2.1.1.1.1.2.2.1
    | 6, _ => exact h.2.2.1.1.1.1.2.2.2
    | 7, _ => exact h.2.2.1.1.1.2.1.1
    | 8, _ => exact h.2.2.1.1.1.2.1.2.1
    | 9, _ => exact h.2.2.1.1.1.2.1.2.2
    | 10, _ => exact h.2.2.1.1.1.2.2.1
    | 11, _ => exact h.2.2.1.1.1.2.2.2.1
    | 12, _ => exact h.2.2.1.1.1.2.2.2.2
    | 13, _ => exact h.2.2.1.1.2.1.1.1
    | 14, _ => exact h.2.2.1.1.2.1.1.2.1
    | 15, _ => exact h.2.2.1.1.2.1.1.2.2
    | 16, _ => exact h.2.2.1.1.2.1.2.1
    | 17, _ => exact h.2.2.1.1.2.1.2.2.1
    | 18, _ => exact h.2.2.1.1.2.1.2.2.2
    | 19, _ => exact h.2.2.1.1.2.2.1.1
    | 20, _ => exact h.2.2.1.1.2.2.1.2.1
    | 21, _ => exact h.2.2.1.1.2.2.1.2.2
    | 22, _ => exact h.2.2.1.1.2.2.2.1.1
    | 23, _ => exact h.2.2.1.1.2.2.2.1.2
    | 24, _ => exact h.2.2.1.1.2.2.2.2.1
    | 25, _ => exact h.2.2.1.1.2.2.2.2.2
    | 26, _ => exact h.2.2.1.2.1.1.1.1
    | 27, _ => exact h.2.2.1.2.1.1.1.2.1
    | 28, _ => exact h.2.2.1.2.1.1.1.2.2
    | 29, _ => exact h.2.2.1.2.1.1.2.1
    | 30, _ => exact h.2.2.1.2.1.1.2.2.1
    | 31, _ => exact h.2.2.1.2.1.1.2.2.2
    | 32, _ => exact h.2.2.1.2.1.2.1.1
    | 33, _ => exact h.2.2.1.2.1.2.1.2.1
    | 34, _ => exact h.2.2.1.2.1.2.1.2.2
    | 35, _ => exact h.2.2.1.2.1.2.2.1.1
    | 36, _ => exact h.2.2.1.2.1.2.2.1.2
    | 37, _ => exact h.2.2.1.2.1.2.2.2.1
    | 38, _ => exact h.2.2.1.2.1.2.2.2.2
    | 39, _ => exact h.2.2.1.2.2.1.1.1
    | 40, _ => exact h.2.2.1.2.2.1.1.2.1
    | 41, _ => exact h.2.2.1.2.2.1.1.2.2
    | 42, _ => exact h.2.2.1.2.2.1.2.1
    | 43, _ => exact h.2.2.1.2.2.1.2.2.1
    | 44, _ => exact h.2.2.1.2.2.1.2.2.2
    | 45, _ => exact h.2.2.1.2.2.2.1.1
    | 46, _ => exact h.2.2.1.2.2.2.1.2.1
    | 47, _ => exact h.2.2.1.2.2.2.1.2.2
    | 48, _ => exact h.2.2.1.2.2.2.2.1.1
    | 49, _ => exact h.2.2.1.2.2.2.2.1.2
    | n + 50, hj => exact absurd hj (by omega)
  | 13, _ =>
    have e : bytS.getD 13 [] = [97, 110, 100, 32] := by decide +kernel
    have e2 : lenS.getD 13 0 = 4 := by decide +kernel
    rw [e2] at hj; rw [e]
    match j, hj with
    | 0, _ => exact h.2.2.2.1.2.1.1.2.1
    | 1, _ => exact h.2.2.2.1.2.1.1.2.2
    | 2, _ => exact h.2.2.2.1.2.1.2.1
    | 3, _ => exact h.2.2.2.1.2.1.2.2.1
    | n + 4, hj => exact absurd hj (by omega)
  | 14, _ =>
    have e : bytS.getD 14 [] = [111, 114, 32] := by decide +kernel
    have e2 : lenS.getD 14 0 = 3 := by decide +kernel
    rw [e2] at hj; rw [e]
    match j, hj with
    | 0, _ => exact h.2.2.2.2.1.2.2.1.1
    | 1, _ => exact h.2.2.2.2.1.2.2.1.2
    | 2, _ => exact h.2.2.2.2.1.2.2.2.1
    | n + 3, hj => exact absurd hj (by omega)
  | n + 15, hi => exact absurd hi (by omega)
set_option maxHeartbeats 8000000 in
set_option maxRecDepth 100000 in
theorem st_ne {args : Array Value} {s : State} (hgv : (Jvm.Cond.and given_1 narrow_1).before args s = true) : ∀ i j : Nat, i < 15 → j < 15 → i ≠ j → (Cond.not (Cond.eq (tmS i) (tmS j))).before args s = true ∨ (Cond.not (Cond.eq (tmS j) (tmS i))).before args s = true := by
  rw [Cond.before_and, Bool.and_eq_true] at hgv
  have h := hgv.2
  simp only [narrow_1, Cond.before_and, Bool.and_eq_true] at h
  intro i j hi hj hij
  match i, hi with
  | 0, _ =>
    match j, hj with
    | 0, _ => exact absurd rfl hij
    | 1, _ => exact Or.inl h.1.2.1.1.2.1.1.1
    | 2, _ => exact Or.inl h.1.2.1.1.2.2.2.1.2
    | 3, _ => exact Or.inl h.1.2.1.2.1.2.2.1.1
    | 4, _ => exact Or.inl h.1.2.1.2.2.2.2.1.1
    | 5, _ => exact Or.inl h.1.2.2.1.1.2.2.1.2
    | 6, _ => exact Or.inl h.1.2.2.2.1.1.1.1
    | 7, _ => exact Or.inl h.1.2.2.2.2.1.1.2.2
    | 8, _ => exact Or.inl h.2.1.1.1.1.2.1.1
    | 9, _ => exact Or.inl h.2.1.2.1.1.1.1.2.1
    | 10, _ => exact Or.inl h.2.1.2.1.2.1.2.2.2
    | 11, _ => exact Or.inl h.2.1.2.2.1.2.2.1.2
    | 12, _ => exact Or.inl h.2.2.1.2.2.2.2.2.1
    | 13, _ => exact Or.inl h.2.2.2.1.2.1.2.2.2
    | 14, _ => exact Or.inl h.2.2.2.2.1.2.2.2.2
    | n + 15, hj => exact absurd hj (by omega)
  | 1, _ =>
    match j, hj with
    | 0, _ => exact Or.inr h.1.2.1.1.2.1.1.1
    | 1, _ => exact absurd rfl hij
    | 2, _ => exact Or.inl h.1.2.1.1.2.2.2.2.1
    | 3, _ => exact Or.inl h.1.2.1.2.1.2.2.1.2
    | 4, _ => exact Or.inl h.1.2.1.2.2.2.2.1.2
    | 5, _ => exact Or.inl h.1.2.2.1.1.2.2.2.1
    | 6, _ => exact Or.inl h.1.2.2.2.1.1.1.2.1
    | 7, _ => exact Or.inl h.1.2.2.2.2.1.2.1
    | 8, _ => exact Or.inl h.2.1.1.1.1.2.1.2.1
    | 9, _ => exact Or.inl h.2.1.2.1.1.1.1.2.2
    | 10, _ => exact Or.inl h.2.1.2.1.2.2.1.1
    | 11, _ => exact Or.inl h.2.1.2.2.1.2.2.2.1
    | 12, _ => exact Or.inl h.2.2.1.2.2.2.2.2.2
    | 13, _ => exact Or.inl h.2.2.2.1.2.2.1.1
    | 14, _ => exact Or.inl h.2.2.2.2.2.1.1.1
    | n + 15, hj => exact absurd hj (by omega)
  | 2, _ =>
    match j, hj with
    | 0, _ => exact Or.inr h.1.2.1.1.2.2.2.1.2
    | 1, _ => exact Or.inr h.1.2.1.1.2.2.2.2.1
    | 2, _ => exact absurd rfl hij
    | 3, _ => exact Or.inl h.1.2.1.2.1.2.2.2.1
    | 4, _ => exact Or.inl h.1.2.1.2.2.2.2.2.1
    | 5, _ => exact Or.inl h.1.2.2.1.1.2.2.2.2
    | 6, _ => exact Or.inl h.1.2.2.2.1.1.1.2.2
    | 7, _ => exact Or.inl h.1.2.2.2.2.1.2.2.1
    | 8, _ => exact Or.inl h.2.1.1.1.1.2.1.2.2
    | 9, _ => exact Or.inl h.2.1.2.1.1.1.2.1
    | 10, _ => exact Or.inl h.2.1.2.1.2.2.1.2.1
    | 11, _ => exact Or.inl h.2.1.2.2.1.2.2.2.2
    | 12, _ => exact Or.inl h.2.2.2.1.1.1.1.1
    | 13, _ => exact Or.inl h.2.2.2.1.2.2.1.2.1
    | 14, _ => exact Or.inl h.2.2.2.2.2.1.1.2.1
    | n + 15, hj => exact absurd hj (by omega)
  | 3, _ =>
    match j, hj with
    | 0, _ => exact Or.inr h.1.2.1.2.1.2.2.1.1
    | 1, _ => exact Or.inr h.1.2.1.2.1.2.2.1.2
    | 2, _ => exact Or.inr h.1.2.1.2.1.2.2.2.1
    | 3, _ => exact absurd rfl hij
    | 4, _ => exact Or.inl h.1.2.1.2.2.2.2.2.2
    | 5, _ => exact Or.inl h.1.2.2.1.2.1.1.1
    | 6, _ => exact Or.inl h.1.2.2.2.1.1.2.1
    | 7, _ => exact Or.inl h.1.2.2.2.2.1.2.2.2
    | 8, _ => exact Or.inl h.2.1.1.1.1.2.2.1
    | 9, _ => exact Or.inl h.2.1.2.1.1.1.2.2.1
    | 10, _ => exact Or.inl h.2.1.2.1.2.2.1.2.2
    | 11, _ => exact Or.inl h.2.1.2.2.2.1.1.1
    | 12, _ => exact Or.inl h.2.2.2.1.1.1.1.2.1
    | 13, _ => exact Or.inl h.2.2.2.1.2.2.1.2.2
    | 14, _ => exact Or.inl h.2.2.2.2.2.1.1.2.2
    | n + 15, hj => exact absurd hj (by omega)
  | 4, _ =>
    match j, hj with
    | 0, _ => exact Or.inr h.1.2.1.2.2.2.2.1.1
    | 1, _ => exact Or.inr h.1.2.1.2.2.2.2.1.2
    | 2, _ => exact Or.inr h.1.2.1.2.2.2.2.2.1
    | 3, _ => exact Or.inr h.1.2.1.2.2.2.2.2.2
    | 4, _ => exact absurd rfl hij
    | 5, _ => exact Or.inl h.1.2.2.1.2.1.1.2.1
    | 6, _ => exact Or.inl h.1.2.2.2.1.1.2.2.1
    | 7, _ => exact Or.inl h.1.2.2.2.2.2.1.1
    | 8, _ => exact Or.inl h.2.1.1.1.1.2.2.2.1
    | 9, _ => exact Or.inl h.2.1.2.1.1.1.2.2.2
    | 10, _ => exact Or.inl h.2.1.2.1.2.2.2.1.1
    | 11, _ => exact Or.inl h.2.1.2.2.2.1.1.2.1
    | 12, _ => exact Or.inl h.2.2.2.1.1.1.1.2.2
    | 13, _ => exact Or.inl h.2.2.2.1.2.2.2.1.1
    | 14, _ => exact Or.inl h.2.2.2.2.2.1.2.1
    | n + 15, hj => exact absurd hj (by omega)
  | 5, _ =>
    match j, hj with
    | 0, _ => exact Or.inr h.1.2.2.1.1.2.2.1.2
    | 1, _ => exact Or.inr h.1.2.2.1.1.2.2.2.1
    | 2, _ => exact Or.inr h.1.2.2.1.1.2.2.2.2
    | 3, _ => exact Or.inr h.1.2.2.1.2.1.1.1
    | 4, _ => exact Or.inr h.1.2.2.1.2.1.1.2.1
    | 5, _ => exact absurd rfl hij
    | 6, _ => exact Or.inl h.1.2.2.2.1.1.2.2.2
    | 7, _ => exact Or.inl h.1.2.2.2.2.2.1.2.1
    | 8, _ => exact Or.inl h.2.1.1.1.1.2.2.2.2
    | 9, _ => exact Or.inl h.2.1.2.1.1.2.1.1
    | 10, _ => exact Or.inl h.2.1.2.1.2.2.2.1.2
    | 11, _ => exact Or.inl h.2.1.2.2.2.1.1.2.2
    | 12, _ => exact Or.inl h.2.2.2.1.1.1.2.1
    | 13, _ => exact Or.inl h.2.2.2.1.2.2.2.1.2
    | 14, _ => exact Or.inl h.2.2.2.2.2.1.2.2.1
    | n + 15, hj => exact absurd hj (by omega)
  | 6, _ =>
    match j, hj with
    | 0, _ => exact Or.inr h.1.2.2.2.1.1.1.1
    | 1, _ => exact Or.inr h.1.2.2.2.1.1.1.2.1
    | 2, _ => exact Or.inr h.1.2.2.2.1.1.1.2.2
    | 3, _ => exact Or.inr h.1.2.2.2.1.1.2.1
    | 4, _ => exact Or.inr h.1.2.2.2.1.1.2.2.1
    | 5, _ => exact Or.inr h.1.2.2.2.1.1.2.2.2
    | 6, _ => exact absurd rfl hij
    | 7, _ => exact Or.inl h.1.2.2.2.2.2.1.2.2
    | 8, _ => exact Or.inl h.2.1.1.1.2.1.1.1
    | 9, _ => exact Or.inl h.2.1.2.1.1.2.1.2.1
    | 10, _ => exact Or.inl h.2.1.2.1.2.2.2.2.1
    | 11, _ => exact Or.inl h.2.1.2.2.2.1.2.1
    | 12, _ => exact Or.inl h.2.2.2.1.1.1.2.2.1
    | 13, _ => exact Or.inl h.2.2.2.1.2.2.2.2.1
    | 14, _ => exact Or.inl h.2.2.2.2.2.1.2.2.2
    | n + 15, hj => exact absurd hj (by omega)
  | 7, _ =>
    match j, hj with
    | 0, _ => exact Or.inr h.1.2.2.2.2.1.1.2.2
    | 1, _ => exact Or.inr h.1.2.2.2.2.1.2.1
    | 2, _ => exact Or.inr h.1.2.2.2.2.1.2.2.1
    | 3, _ => exact Or.inr h.1.2.2.2.2.1.2.2.2
    | 4, _ => exact Or.inr h.1.2.2.2.2.2.1.1
    | 5, _ => exact Or.inr h.1.2.2.2.2.2.1.2.1
    | 6, _ => exact Or.inr h.1.2.2.2.2.2.1.2.2
    | 7, _ => exact absurd rfl hij
    | 8, _ => exact Or.inl h.2.1.1.1.2.1.1.2.1
    | 9, _ => exact Or.inl h.2.1.2.1.1.2.1.2.2
    | 10, _ => exact Or.inl h.2.1.2.1.2.2.2.2.2
    | 11, _ => exact Or.inl h.2.1.2.2.2.1.2.2.1
    | 12, _ => exact Or.inl h.2.2.2.1.1.1.2.2.2
    | 13, _ => exact Or.inl h.2.2.2.1.2.2.2.2.2
    | 14, _ => exact Or.inl h.2.2.2.2.2.2.1.1
    | n + 15, hj => exact absurd hj (by omega)
  | 8, _ =>
    match j, hj with
    | 0, _ => exact Or.inr h.2.1.1.1.1.2.1.1
    | 1, _ => exact Or.inr h.2.1.1.1.1.2.1.2.1
    | 2, _ => exact Or.inr h.2.1.1.1.1.2.1.2.2
    | 3, _ => exact Or.inr h.2.1.1.1.1.2.2.1
    | 4, _ => exact Or.inr h.2.1.1.1.1.2.2.2.1
    | 5, _ => exact Or.inr h.2.1.1.1.1.2.2.2.2
    | 6, _ => exact Or.inr h.2.1.1.1.2.1.1.1
    | 7, _ => exact Or.inr h.2.1.1.1.2.1.1.2.1
    | 8, _ => exact absurd rfl hij
    | 9, _ => exact Or.inl h.2.1.2.1.1.2.2.1.1
    | 10, _ => exact Or.inl h.2.1.2.2.1.1.1.1
    | 11, _ => exact Or.inl h.2.1.2.2.2.1.2.2.2
    | 12, _ => exact Or.inl h.2.2.2.1.1.2.1.1
    | 13, _ => exact Or.inl h.2.2.2.2.1.1.1.1
    | 14, _ => exact Or.inl h.2.2.2.2.2.2.1.2.1
    | n + 15, hj => exact absurd hj (by omega)
  | 9, _ =>
    match j, hj with
    | 0, _ => exact Or.inr h.2.1.2.1.1.1.1.2.1
    | 1, _ => exact Or.inr h.2.1.2.1.1.1.1.2.2
    | 2, _ => exact Or.inr h.2.1.2.1.1.1.2.1
    | 3, _ => exact Or.inr h.2.1.2.1.1.1.2.2.1
    | 4, _ => exact Or.inr h.2.1.2.1.1.1.2.2.2
    | 5, _ => exact Or.inr h.2.1.2.1.1.2.1.1
    | 6, _ => exact Or.inr h.2.1.2.1.1.2.1.2.1
    | 7, _ => exact Or.inr h.2.1.2.1.1.2.1.2.2
    | 8, _ => exact Or.inr h.2.1.2.1.1.2.2.1.1
    | 9, _ => exact absurd rfl hij
    | 10, _ => exact Or.inl h.2.1.2.2.1.1.1.2.1
    | 11, _ => exact Or.inl h.2.1.2.2.2.2.1.1
    | 12, _ => exact Or.inl h.2.2.2.1.1.2.1.2.1
    | 13, _ => exact Or.inl h.2.2.2.2.1.1.1.2.1
    | 14, _ => exact Or.inl h.2.2.2.2.2.2.1.2.2
    | n + 15, hj => exact absurd hj (by omega)
  | 10, _ =>
    match j, hj with
    | 0, _ => exact Or.inr h.2.1.2.1.2.1.2.2.2
    | 1, _ => exact Or.inr h.2.1.2.1.2.2.1.1
    | 2, _ => exact Or.inr h.2.1.2.1.2.2.1.2.1
    | 3, _ => exact Or.inr h.2.1.2.1.2.2.1.2.2
    | 4, _ => exact Or.inr h.2.1.2.1.2.2.2.1.1
    | 5, _ => exact Or.inr h.2.1.2.1.2.2.2.1.2
    | 6, _ => exact Or.inr h.2.1.2.1.2.2.2.2.1
    | 7, _ => exact Or.inr h.2.1.2.1.2.2.2.2.2
    | 8, _ => exact Or.inr h.2.1.2.2.1.1.1.1
    | 9, _ => exact Or.inr h.2.1.2.2.1.1.1.2.1
    | 10, _ => exact absurd rfl hij
    | 11, _ => exact Or.inl h.2.1.2.2.2.2.1.2.1
    | 12, _ => exact Or.inl h.2.2.2.1.1.2.1.2.2
    | 13, _ => exact Or.inl h.2.2.2.2.1.1.1.2.2
    | 14, _ => exact Or.inl h.2.2.2.2.2.2.2.1.1
    | n + 15, hj => exact absurd hj (by omega)
  | 11, _ =>
    match j, hj with
    | 0, _ => exact Or.inr h.2.1.2.2.1.2.2.1.2
    | 1, _ => exact Or.inr h.2.1.2.2.1.2.2.2.1
    | 2, _ => exact Or.inr h.2.1.2.2.1.2.2.2.2
    | 3, _ => exact Or.inr h.2.1.2.2.2.1.1.1
    | 4, _ => exact Or.inr h.2.1.2.2.2.1.1.2.1
    | 5, _ => exact Or.inr h.2.1.2.2.2.1.1.2.2
    | 6, _ => exact Or.inr h.2.1.2.2.2.1.2.1
    | 7, _ => exact Or.inr h.2.1.2.2.2.1.2.2.1
    | 8, _ => exact Or.inr h.2.1.2.2.2.1.2.2.2
    | 9, _ => exact Or.inr h.2.1.2.2.2.2.1.1
    | 10, _ => exact Or.inr h.2.1.2.2.2.2.1.2.1
    | 11, _ => exact absurd rfl hij
    | 12, _ => exact Or.inl h.2.2.2.1.1.2.2.1.1
    | 13, _ => exact Or.inl h.2.2.2.2.1.1.2.1
    | 14, _ => exact Or.inl h.2.2.2.2.2.2.2.1.2
    | n + 15, hj => exact absurd hj (by omega)
  | 12, _ =>
    match j, hj with
    | 0, _ => exact Or.inr h.2.2.1.2.2.2.2.2.1
    | 1, _ => exact Or.inr h.2.2.1.2.2.2.2.2.2
    | 2, _ => exact Or.inr h.2.2.2.1.1.1.1.1
    | 3, _ => exact Or.inr h.2.2.2.1.1.1.1.2.1
    | 4, _ => exact Or.inr h.2.2.2.1.1.1.1.2.2
    | 5, _ => exact Or.inr h.2.2.2.1.1.1.2.1
    | 6, _ => exact Or.inr h.2.2.2.1.1.1.2.2.1
    | 7, _ => exact Or.inr h.2.2.2.1.1.1.2.2.2
    | 8, _ => exact Or.inr h.2.2.2.1.1.2.1.1
    | 9, _ => exact Or.inr h.2.2.2.1.1.2.1.2.1
    | 10, _ => exact Or.inr h.2.2.2.1.1.2.1.2.2
    | 11, _ => exact Or.inr h.2.2.2.1.1.2.2.1.1
    | 12, _ => exact absurd rfl hij
    | 13, _ => exact Or.inl h.2.2.2.2.1.1.2.2.1
    | 14, _ => exact Or.inl h.2.2.2.2.2.2.2.2.1
    | n + 15, hj => exact absurd hj (by omega)
  | 13, _ =>
    match j, hj with
    | 0, _ => exact Or.inr h.2.2.2.1.2.1.2.2.2
    | 1, _ => exact Or.inr h.2.2.2.1.2.2.1.1
    | 2, _ => exact Or.inr h.2.2.2.1.2.2.1.2.1
    | 3, _ => exact Or.inr h.2.2.2.1.2.2.1.2.2
    | 4, _ => exact Or.inr h.2.2.2.1.2.2.2.1.1
    | 5, _ => exact Or.inr h.2.2.2.1.2.2.2.1.2
    | 6, _ => exact Or.inr h.2.2.2.1.2.2.2.2.1
    | 7, _ => exact Or.inr h.2.2.2.1.2.2.2.2.2
    | 8, _ => exact Or.inr h.2.2.2.2.1.1.1.1
    | 9, _ => exact Or.inr h.2.2.2.2.1.1.1.2.1
    | 10, _ => exact Or.inr h.2.2.2.2.1.1.1.2.2
    | 11, _ => exact Or.inr h.2.2.2.2.1.1.2.1
    | 12, _ => exact Or.inr h.2.2.2.2.1.1.2.2.1
    | 13, _ => exact absurd rfl hij
    | 14, _ => exact Or.inl h.2.2.2.2.2.2.2.2.2
    | n + 15, hj => exact absurd hj (by omega)
  | 14, _ =>
    match j, hj with
    | 0, _ => exact Or.inr h.2.2.2.2.1.2.2.2.2
    | 1, _ => exact Or.inr h.2.2.2.2.2.1.1.1
    | 2, _ => exact Or.inr h.2.2.2.2.2.1.1.2.1
    | 3, _ => exact Or.inr h.2.2.2.2.2.1.1.2.2
    | 4, _ => exact Or.inr h.2.2.2.2.2.1.2.1
    | 5, _ => exact Or.inr h.2.2.2.2.2.1.2.2.1
    | 6, _ => exact Or.inr h.2.2.2.2.2.1.2.2.2
    | 7, _ => exact Or.inr h.2.2.2.2.2.2.1.1
    | 8, _ => exact Or.inr h.2.2.2.2.2.2.1.2.1
    | 9, _ => exact Or.inr h.2.2.2.2.2.2.1.2.2
    | 10, _ => exact Or.inr h.2.2.2.2.2.2.2.1.1
    | 11, _ => exact Or.inr h.2.2.2.2.2.2.2.1.2
    | 12, _ => exact Or.inr h.2.2.2.2.2.2.2.2.1
    | 13, _ => exact Or.inr h.2.2.2.2.2.2.2.2.2
    | 14, _ => exact absurd rfl hij
    | n + 15, hj => exact absurd hj (by omega)
  | n + 15, hi => exact absurd hi (by omega)
set_option maxHeartbeats 8000000 in
set_option maxRecDepth 100000 in
theorem st_cs {args : Array Value} {s : State} (hgv : (Jvm.Cond.and given_1 narrow_1).before args s = true) : (Cond.eq (.static "java/lang/String" "COMPACT_STRINGS" "Z") (.int 1)).before args s = true := by
  rw [Cond.before_and, Bool.and_eq_true] at hgv
  have h := hgv.2
  simp only [narrow_1, Cond.before_and, Bool.and_eq_true] at h
  exact h.1.1.1.1.1.1.1.2.2
set_option maxHeartbeats 8000000 in
set_option maxRecDepth 100000 in
theorem st_fo {args : Array Value} {s : State} (hgv : (Jvm.Cond.and given_1 narrow_1).before args s = true) : (Cond.isRef (.static R_prec "SIOOBE_FORMATTER" "Ljava/util/function/BiFunction;")).before args s = true := by
  rw [Cond.before_and, Bool.and_eq_true] at hgv
  have h := hgv.2
  simp only [narrow_1, Cond.before_and, Bool.and_eq_true] at h
  exact h.1.1.1.1.1.1.2.1
theorem AL_no {s : State} : ∀ a : Nat, a < s.heap.size → ¬ AL s a := fun a h1 h2 => absurd h1 (Nat.not_lt.mpr h2)
theorem start_S {args : Array Value} {s : State} (hgv : (Jvm.Cond.and given_1 narrow_1).before args s = true) : ∃ adK adV : Nat → Nat, vk_S 15 lenS bytS adK adV (AL s) s s.heap ∧ ∀ (i : Nat) (q : String × Nat × String), lw_str[i]? = some q → (Term.string q.1 q.2.1).eval args s none [] s = some (.ref (adK i)) := by
  have hlen : lw_str.length = 15 := rfl
  obtain ⟨adK, adV, h1, h2⟩ := vk_Sof (N := 15) (tm := tmS) (len := lenS) (byt := bytS) (by decide +kernel) (st_ex hgv) (st_co hgv) (st_ar hgv) (st_le hgv) (st_el hgv) (st_ne hgv) AL_no
  refine ⟨adK, adV, h1, fun i q hq => ?_⟩
  have hi : i < 15 := by rw [← hlen]; exact (List.getElem?_eq_some_iff.mp hq).1
  have h3 := h2 i hi
  have e : tmS i = Term.string q.1 q.2.1 := by simp only [tmS, hq]
  rwa [e] at h3
theorem start_C {args : Array Value} {s : State} (hok : ∀ w ∈ lw_tbl, w.before args s = true) (hgv : (Jvm.Cond.and given_1 narrow_1).before args s = true) : va_Z "java/lang/String" "COMPACT_STRINGS" "Z" (.int 1) (AL s) s s.heap := by
  have h := st_cs hgv
  exact va_Zof (hok _ (tb_in _ (Or.inr (Or.inr (Or.inl (List.mem_of_getElem? (i := 88) rfl)))))) (hok _ (tb_in _ (Or.inl (List.mem_of_getElem? (i := 14) rfl)))) (va_eqt h) AL_no
theorem start_F {args : Array Value} {s : State} (hok : ∀ w ∈ lw_tbl, w.before args s = true) (hgv : (Jvm.Cond.and given_1 narrow_1).before args s = true) : ∃ adF : Nat, va_Z R_prec "SIOOBE_FORMATTER" "Ljava/util/function/BiFunction;" .null (AL s) s s.heap ∨ va_Z R_prec "SIOOBE_FORMATTER" "Ljava/util/function/BiFunction;" (.ref adF) (AL s) s s.heap := by
  rcases va_Zqof (C := R_prec) (hok _ (tb_in _ (Or.inr (Or.inr (Or.inl (List.mem_of_getElem? (i := 104) rfl)))))) (hok _ (tb_in _ (Or.inl (List.mem_of_getElem? (i := 16) rfl)))) (st_fo hgv) AL_no with h | ⟨t, h⟩
  · exact ⟨0, Or.inl h⟩
  · exact ⟨t, Or.inr h⟩
theorem str_in : ∀ (i : Nat) (q : String × Nat × String), lw_str[i]? = some q → Cond.stringRef q.1 q.2.1 q.2.2 ∈ lw_tbl := by
  intro i q hq
  match i with
  | 0 => cases hq; exact tb_in _ (Or.inr (Or.inr (Or.inl (List.mem_of_getElem? (i := 74) rfl))))
  | 1 => cases hq; exact tb_in _ (Or.inr (Or.inr (Or.inl (List.mem_of_getElem? (i := 205) rfl))))
  | 2 => cases hq; exact tb_in _ (Or.inr (Or.inr (Or.inl (List.mem_of_getElem? (i := 215) rfl))))
  | 3 => cases hq; exact tb_in _ (Or.inr (Or.inr (Or.inl (List.mem_of_getElem? (i := 220) rfl))))
  | 4 => cases hq; exact tb_in _ (Or.inr (Or.inr (Or.inl (List.mem_of_getElem? (i := 225) rfl))))
  | 5 => cases hq; exact tb_in _ (Or.inr (Or.inr (Or.inl (List.mem_of_getElem? (i := 230) rfl))))
  | 6 => cases hq; exact tb_in _ (Or.inr (Or.inr (Or.inl (List.mem_of_getElem? (i := 234) rfl))))
  | 7 => cases hq; exact tb_in _ (Or.inr (Or.inr (Or.inl (List.mem_of_getElem? (i := 239) rfl))))
  | 8 => cases hq; exact tb_in _ (Or.inr (Or.inr (Or.inr (Or.inl (List.mem_of_getElem? (i := 0) rfl)))))
  | 9 => cases hq; exact tb_in _ (Or.inr (Or.inr (Or.inr (Or.inr (Or.inl (List.mem_of_getElem? (i := 187) rfl))))))
  | 10 => cases hq; exact tb_in _ (Or.inr (Or.inr (Or.inr (Or.inr (Or.inl (List.mem_of_getElem? (i := 203) rfl))))))
  | 11 => cases hq; exact tb_in _ (Or.inr (Or.inr (Or.inr (Or.inr (Or.inl (List.mem_of_getElem? (i := 216) rfl))))))
  | 12 => cases hq; exact tb_in _ (Or.inr (Or.inr (Or.inr (Or.inr (Or.inl (List.mem_of_getElem? (i := 238) rfl))))))
  | 13 => cases hq; exact tb_in _ (Or.inr (Or.inr (Or.inr (Or.inr (Or.inr (Or.inl (List.mem_of_getElem? (i := 3) rfl)))))))
  | 14 => cases hq; exact tb_in _ (Or.inr (Or.inr (Or.inr (Or.inr (Or.inr (Or.inl (List.mem_of_getElem? (i := 4) rfl)))))))
  | n + 15 => simp [lw_str] at hq
set_option maxHeartbeats 4000000 in
theorem start_go (I : Mem → Prop) (hT : ∀ E, Twos E I) (hI : ∀ M, I (Mini M)) {p : Program} {e : Env} {s : State} {m : MethodId} {below : List Frame} {meth : Method} {c : Code} (l : Launch) {b L : Nat} {xs : Nat → Int32} (hL : L ≤ 3072) (C0 : lw_At p s m meth c b L xs) : W p l e room_1 s m #[Value.ref b] below meth c s.heap [] 0 0 (lw_Z below #[Value.ref b] s) (entryFrame m ([Value.ref b] : List Value).toArray 4) := by
  have hok : ∀ w ∈ lw_ok, w.before #[Value.ref b] s = true := fun w hw => C0.2.2.2.2.2.1 w (List.mem_filter.mp hw).1
  obtain ⟨D, cA, hK⟩ := start_K hok
  obtain ⟨adK, adV, hS, hE⟩ := start_S C0.2.2.2.2.2.2.2.2.2
  have C : LA (l, D, cA) b L xs p s m meth c := ⟨C0, hL⟩
  have key := law_go (e := e) (below := below) C I (hT _) (fun _ _ => 0) (hI _)
  obtain ⟨adF, hF⟩ := start_F (fun w hw => C0.2.2.2.2.2.1 w hw) C0.2.2.2.2.2.2.2.2.2
  let ad : Nat → Nat := fun k => if k = 1015 then b else if k = 1200 then adF else if 1100 ≤ k then adV (k - 1100) else adK (k - 1000)
  have hl := lv_entry ([.ref b]) (n := 4) (Nat.le_of_ble_eq_true rfl)
  rw [lg_entry_eq]
  have had : ∀ i, i < 15 → ad (1000 + i) = adK i := by
    intro i hi
    show (if 1000 + i = 1015 then b else if 1000 + i = 1200 then adF else if 1100 ≤ 1000 + i then adV (1000 + i - 1100) else adK (1000 + i - 1000)) = adK i
    rw [if_neg (by omega), if_neg (by omega), if_neg (by omega), Nat.add_sub_cancel_left]
  have havd : ∀ i, i < 15 → ad (1100 + i) = adV i := by
    intro i hi
    show (if 1100 + i = 1015 then b else if 1100 + i = 1200 then adF else if 1100 ≤ 1100 + i then adV (1100 + i - 1100) else adK (1100 + i - 1000)) = adV i
    rw [if_neg (by omega), if_neg (by omega), if_pos (by omega), Nat.add_sub_cancel_left]
  have hlen : lw_str.length = 15 := rfl
  refine key ad s.heap _ [] ⟨fun k q h => by simp [wo, Sq] at h, ⟨fun i j p q h => by simp [wo, Sq] at h, fun k q h => by simp [wo, Sq] at h⟩, hK, va_S.rf, fun p sh h => by simp [Sq] at h, fun q hq => hq, ⟨fun w hw => va_Nw.of (nest_tab (List.mem_filter.mp hw).2) (C0.2.2.2.2.2.1 w (List.mem_filter.mp hw).1), fun i q hq => ?_⟩, ⟨?_, start_C (fun w hw => C0.2.2.2.2.2.1 w hw) C0.2.2.2.2.2.2.2.2.2, hF⟩, by decide⟩ rfl ?_ (fun v hv => by cases hv) ?_
  · have hi : i < 15 := by rw [← hlen]; exact (List.getElem?_eq_some_iff.mp hq).1
    rw [had i hi]
    exact vk_R.of (C0.2.2.2.2.2.1 _ (str_in i q hq)) (hE i q hq)
  · have : ∀ i, i < 15 → (fun k => ad (1000 + k)) i = adK i := had
    have thisV : ∀ i, i < 15 → (fun k => ad (1100 + k)) i = adV i := havd
    refine ⟨fun i hi => ?_, fun i j hi hj h => ?_⟩
    · rw [this i hi, thisV i hi]; exact hS.1 i hi
    · rw [this i hi, this j hj] at h; exact hS.2 i j hi hj h
  · intro v hv
    rcases List.mem_cons.mp hv with rfl | hv
    · exact ⟨by decide, Or.inr (by decide)⟩
    · rcases List.mem_cons.mp hv with rfl | hv
      · trivial
      · rcases List.mem_cons.mp hv with rfl | hv
        · trivial
        · rcases List.mem_cons.mp hv with rfl | hv
          · trivial
          · cases hv
  · refine has_of hl fun i v hi hv => ?_
    match i with
    | 0 => cases hi; exact List.mem_cons_self
    | 1 => cases hi; exact absurd hv (show ¬ (3 : Nat) < 3 by decide)
    | 2 => cases hi; exact absurd hv (show ¬ (3 : Nat) < 3 by decide)
    | 3 => cases hi; exact absurd hv (show ¬ (3 : Nat) < 3 by decide)
    | n + 4 => simp at hi
