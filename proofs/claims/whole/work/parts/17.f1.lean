/-! methods by program, 1 -/
def fmX0_forget (M : Mem) : Mem :=
  (mset M 27 3 0)
theorem gX0_forget {h : Int} {M : Mem}   (hG : G h M) : G h (fmX0_forget M) := by
  unfold fmX0_forget
  exact (G_fld (x := 27) (i := 3) (y := 0) rfl (by decide) (by decide) (by decide) hG)
set_option maxRecDepth 100000 in
theorem pX0_forget {E : EV} {h : Int} {M : Mem}   : C2 E miX0_forget 1 h [(2, 27)] M (fun r M' => r = none ∧ M' = (fmX0_forget M)) := by
  obtain ⟨Q, hQ⟩ : ∃ Q : Option MV → Mem → Prop, Q = (fun r M' => r = none ∧ M' = (fmX0_forget M)) := ⟨_, rfl⟩
  rw [← hQ]
  refine C2_of (L := [(2, 27)]) (by decide +kernel) (Nat.le_of_ble_eq_true rfl) rfl (fun hG => ?_)
  refine T_aload_n (i := 0) (pc' := 1) dX0_forget_0 rfl rfl rfl ?_
  refine T_iconst (pc' := 2) dX0_forget_1 (by decide) rfl ?_
  refine U_pf (y := 0) (k := 3) (kI := 3) (pc' := 5) dX0_forget_2 rfl cl0 (by decide) rfl (by decide) flX0_21 rfl rfl rfl rfl rfl (by decide) (fun z => z) rfl ?_
  exact T_vret dX0_forget_5 rfl ⟨rfl, (G_fld (x := 27) (i := 3) (y := 0) rfl (by decide) (by decide) (by decide) hG), (by rw [hQ]; exact ⟨rfl, rfl⟩)⟩
theorem frX0_forget {M : Mem}  {q : Int} (hq0 : q ≠ 27) : (fmX0_forget M) q = M q := by
  unfold fmX0_forget
  repeat' (first | rfl | rw [mset_p hq0] | rw [mcpy_p hq0] | rw [ite_ap] | split)
def fmX11_put (M : Mem) (p0 : Int) (np0 : Nat) (v1 : Int) (v2 : Int) : Mem :=
  (if v1 < 0 then M else (if (np0 : Int) ≤ v1 then M else (mset M p0 v1 v2)))
theorem gX11_put {h : Int} {M : Mem} {p0 : Int} {np0 : Nat} {v1 : Int} {v2 : Int} (h0p0 : 0 ≤ p0) (hSp0 : S0[p0.toNat]? = some (0, 0, np0)) (hnp0 : np0 < 2147483648) (hG : G h M) : G h (fmX11_put M p0 np0 v1 v2) := by
  unfold fmX11_put
  exact (G_ite hG (G_ite hG (G_arr (x := p0) (i := v1) (y := v2) hSp0 h0p0 hG)))
set_option maxRecDepth 100000 in
theorem pX11_put {E : EV} {h : Int} {M : Mem} {p0 : Int} {np0 : Nat} {v1 : Int} {v2 : Int} (h0p0 : 0 ≤ p0) (hSp0 : S0[p0.toNat]? = some (0, 0, np0)) (hnp0 : np0 < 2147483648) : C2 E miX11_put 1 h [(2, p0), (0, v1), (0, v2)] M (fun r M' => r = none ∧ M' = (fmX11_put M p0 np0 v1 v2)) := by
  obtain ⟨Q, hQ⟩ : ∃ Q : Option MV → Mem → Prop, Q = (fun r M' => r = none ∧ M' = (fmX11_put M p0 np0 v1 v2)) := ⟨_, rfl⟩
  rw [← hQ]
  refine C2_of (L := [(2, p0), (0, v1), (0, v2)]) (by decide +kernel) (Nat.le_of_ble_eq_true rfl) rfl (fun hG => ?_)
  refine T_iload_n (i := 1) (pc' := 1) dX11_put_0 rfl rfl rfl ?_
  have HJ1 : T E miX11_put 1 126 0 0 (fun r S M' => S = S0 ∧ G h M' ∧ Q r M') 14 [(3, 0), (3, 0), (3, 0)] [] S0 (if v1 < 0 then M else (if (np0 : Int) ≤ v1 then M else (mset M p0 v1 v2))) 0 0 := by
    exact T_vret dX11_put_14 rfl ⟨rfl, (G_ite hG (G_ite hG (G_arr (x := p0) (i := v1) (y := v2) hSp0 h0p0 hG))), (by rw [hQ]; exact ⟨rfl, rfl⟩)⟩
  refine T_if_lt (pc' := 14) dX11_put_1 (by decide) (pf := 4) rfl (fun c2 => ?_) (fun c2 => ?_)
  · skip
    exact T_wk (L' := [(3, 0), (3, 0), (3, 0)]) (by have q := HJ1; try simp only [if_pos c2] at q; exact q) ⟨Or.inl rfl, Or.inl rfl, Or.inl rfl, trivial⟩
  · skip
    refine T_iload_n (i := 1) (pc' := 5) dX11_put_4 rfl rfl rfl ?_
    refine T_aload_n (i := 0) (pc' := 6) dX11_put_5 rfl rfl rfl ?_
    refine U_alen (nI := (np0 : Int)) (pc' := 7) dX11_put_6 (by decide) hnp0 hSp0 rfl rfl ?_
    refine T_icmp_ge (pc' := 14) dX11_put_7 (by decide) (pf := 10) rfl (fun c3 => ?_) (fun c3 => ?_)
    · skip
      exact T_wk (L' := [(3, 0), (3, 0), (3, 0)]) (by have q := HJ1; try simp only [if_neg c2] at q; try simp only [if_pos c3] at q; exact q) ⟨Or.inl rfl, Or.inl rfl, Or.inl rfl, trivial⟩
    · skip
      refine T_aload_n (i := 0) (pc' := 11) dX11_put_10 rfl rfl rfl ?_
      refine T_iload_n (i := 1) (pc' := 12) dX11_put_11 rfl rfl rfl ?_
      refine T_iload_n (i := 2) (pc' := 13) dX11_put_12 rfl rfl rfl ?_
      refine T_iast (pc' := 14) dX11_put_13 h0p0 hSp0 (by omega) (by omega) rfl ?_
      exact T_wk (L' := [(3, 0), (3, 0), (3, 0)]) (by have q := HJ1; try simp only [if_neg c2] at q; try simp only [if_neg c3] at q; exact q) ⟨Or.inl rfl, Or.inl rfl, Or.inl rfl, trivial⟩
theorem frX11_put {M : Mem} {p0 : Int} {np0 : Nat} {v1 : Int} {v2 : Int}  {q : Int} (hq0 : q ≠ p0) : (fmX11_put M p0 np0 v1 v2) q = M q := by
  unfold fmX11_put
  repeat' (first | rfl | rw [mset_p hq0] | rw [mcpy_p hq0] | rw [ite_ap] | split)
def fmX0_add (M : Mem) (v1 : Int) (v2 : Int) (v3 : Int) : Mem :=
  (mset (fmX11_put (fmX11_put (fmX11_put (if (M 27 3) = 20 then (mset (mcpy (mcpy (mcpy M 28 1 28 0 19) 29 1 29 0 19) 30 1 30 0 19) 27 3 (wr32 (((mcpy (mcpy (mcpy M 28 1 28 0 19) 29 1 29 0 19) 30 1 30 0 19) 27 3) - 1))) else M) 28 20 ((if (M 27 3) = 20 then (mset (mcpy (mcpy (mcpy M 28 1 28 0 19) 29 1 29 0 19) 30 1 30 0 19) 27 3 (wr32 (((mcpy (mcpy (mcpy M 28 1 28 0 19) 29 1 29 0 19) 30 1 30 0 19) 27 3) - 1))) else M) 27 3) v1) 29 20 ((fmX11_put (if (M 27 3) = 20 then (mset (mcpy (mcpy (mcpy M 28 1 28 0 19) 29 1 29 0 19) 30 1 30 0 19) 27 3 (wr32 (((mcpy (mcpy (mcpy M 28 1 28 0 19) 29 1 29 0 19) 30 1 30 0 19) 27 3) - 1))) else M) 28 20 ((if (M 27 3) = 20 then (mset (mcpy (mcpy (mcpy M 28 1 28 0 19) 29 1 29 0 19) 30 1 30 0 19) 27 3 (wr32 (((mcpy (mcpy (mcpy M 28 1 28 0 19) 29 1 29 0 19) 30 1 30 0 19) 27 3) - 1))) else M) 27 3) v1) 27 3) v2) 30 20 ((fmX11_put (fmX11_put (if (M 27 3) = 20 then (mset (mcpy (mcpy (mcpy M 28 1 28 0 19) 29 1 29 0 19) 30 1 30 0 19) 27 3 (wr32 (((mcpy (mcpy (mcpy M 28 1 28 0 19) 29 1 29 0 19) 30 1 30 0 19) 27 3) - 1))) else M) 28 20 ((if (M 27 3) = 20 then (mset (mcpy (mcpy (mcpy M 28 1 28 0 19) 29 1 29 0 19) 30 1 30 0 19) 27 3 (wr32 (((mcpy (mcpy (mcpy M 28 1 28 0 19) 29 1 29 0 19) 30 1 30 0 19) 27 3) - 1))) else M) 27 3) v1) 29 20 ((fmX11_put (if (M 27 3) = 20 then (mset (mcpy (mcpy (mcpy M 28 1 28 0 19) 29 1 29 0 19) 30 1 30 0 19) 27 3 (wr32 (((mcpy (mcpy (mcpy M 28 1 28 0 19) 29 1 29 0 19) 30 1 30 0 19) 27 3) - 1))) else M) 28 20 ((if (M 27 3) = 20 then (mset (mcpy (mcpy (mcpy M 28 1 28 0 19) 29 1 29 0 19) 30 1 30 0 19) 27 3 (wr32 (((mcpy (mcpy (mcpy M 28 1 28 0 19) 29 1 29 0 19) 30 1 30 0 19) 27 3) - 1))) else M) 27 3) v1) 27 3) v2) 27 3) v3) 27 3 (wr32 (((fmX11_put (fmX11_put (fmX11_put (if (M 27 3) = 20 then (mset (mcpy (mcpy (mcpy M 28 1 28 0 19) 29 1 29 0 19) 30 1 30 0 19) 27 3 (wr32 (((mcpy (mcpy (mcpy M 28 1 28 0 19) 29 1 29 0 19) 30 1 30 0 19) 27 3) - 1))) else M) 28 20 ((if (M 27 3) = 20 then (mset (mcpy (mcpy (mcpy M 28 1 28 0 19) 29 1 29 0 19) 30 1 30 0 19) 27 3 (wr32 (((mcpy (mcpy (mcpy M 28 1 28 0 19) 29 1 29 0 19) 30 1 30 0 19) 27 3) - 1))) else M) 27 3) v1) 29 20 ((fmX11_put (if (M 27 3) = 20 then (mset (mcpy (mcpy (mcpy M 28 1 28 0 19) 29 1 29 0 19) 30 1 30 0 19) 27 3 (wr32 (((mcpy (mcpy (mcpy M 28 1 28 0 19) 29 1 29 0 19) 30 1 30 0 19) 27 3) - 1))) else M) 28 20 ((if (M 27 3) = 20 then (mset (mcpy (mcpy (mcpy M 28 1 28 0 19) 29 1 29 0 19) 30 1 30 0 19) 27 3 (wr32 (((mcpy (mcpy (mcpy M 28 1 28 0 19) 29 1 29 0 19) 30 1 30 0 19) 27 3) - 1))) else M) 27 3) v1) 27 3) v2) 30 20 ((fmX11_put (fmX11_put (if (M 27 3) = 20 then (mset (mcpy (mcpy (mcpy M 28 1 28 0 19) 29 1 29 0 19) 30 1 30 0 19) 27 3 (wr32 (((mcpy (mcpy (mcpy M 28 1 28 0 19) 29 1 29 0 19) 30 1 30 0 19) 27 3) - 1))) else M) 28 20 ((if (M 27 3) = 20 then (mset (mcpy (mcpy (mcpy M 28 1 28 0 19) 29 1 29 0 19) 30 1 30 0 19) 27 3 (wr32 (((mcpy (mcpy (mcpy M 28 1 28 0 19) 29 1 29 0 19) 30 1 30 0 19) 27 3) - 1))) else M) 27 3) v1) 29 20 ((fmX11_put (if (M 27 3) = 20 then (mset (mcpy (mcpy (mcpy M 28 1 28 0 19) 29 1 29 0 19) 30 1 30 0 19) 27 3 (wr32 (((mcpy (mcpy (mcpy M 28 1 28 0 19) 29 1 29 0 19) 30 1 30 0 19) 27 3) - 1))) else M) 28 20 ((if (M 27 3) = 20 then (mset (mcpy (mcpy (mcpy M 28 1 28 0 19) 29 1 29 0 19) 30 1 30 0 19) 27 3 (wr32 (((mcpy (mcpy (mcpy M 28 1 28 0 19) 29 1 29 0 19) 30 1 30 0 19) 27 3) - 1))) else M) 27 3) v1) 27 3) v2) 27 3) v3) 27 3) + 1)))
theorem gX0_add {h : Int} {M : Mem} {v1 : Int} {v2 : Int} {v3 : Int}  (hG : G h M) : G h (fmX0_add M v1 v2 v3) := by
  unfold fmX0_add
  exact (G_fld (x := 27) (i := 3) (y := (wr32 (((fmX11_put (fmX11_put (fmX11_put (if (M 27 3) = 20 then (mset (mcpy (mcpy (mcpy M 28 1 28 0 19) 29 1 29 0 19) 30 1 30 0 19) 27 3 (wr32 (((mcpy (mcpy (mcpy M 28 1 28 0 19) 29 1 29 0 19) 30 1 30 0 19) 27 3) - 1))) else M) 28 20 ((if (M 27 3) = 20 then (mset (mcpy (mcpy (mcpy M 28 1 28 0 19) 29 1 29 0 19) 30 1 30 0 19) 27 3 (wr32 (((mcpy (mcpy (mcpy M 28 1 28 0 19) 29 1 29 0 19) 30 1 30 0 19) 27 3) - 1))) else M) 27 3) v1) 29 20 ((fmX11_put (if (M 27 3) = 20 then (mset (mcpy (mcpy (mcpy M 28 1 28 0 19) 29 1 29 0 19) 30 1 30 0 19) 27 3 (wr32 (((mcpy (mcpy (mcpy M 28 1 28 0 19) 29 1 29 0 19) 30 1 30 0 19) 27 3) - 1))) else M) 28 20 ((if (M 27 3) = 20 then (mset (mcpy (mcpy (mcpy M 28 1 28 0 19) 29 1 29 0 19) 30 1 30 0 19) 27 3 (wr32 (((mcpy (mcpy (mcpy M 28 1 28 0 19) 29 1 29 0 19) 30 1 30 0 19) 27 3) - 1))) else M) 27 3) v1) 27 3) v2) 30 20 ((fmX11_put (fmX11_put (if (M 27 3) = 20 then (mset (mcpy (mcpy (mcpy M 28 1 28 0 19) 29 1 29 0 19) 30 1 30 0 19) 27 3 (wr32 (((mcpy (mcpy (mcpy M 28 1 28 0 19) 29 1 29 0 19) 30 1 30 0 19) 27 3) - 1))) else M) 28 20 ((if (M 27 3) = 20 then (mset (mcpy (mcpy (mcpy M 28 1 28 0 19) 29 1 29 0 19) 30 1 30 0 19) 27 3 (wr32 (((mcpy (mcpy (mcpy M 28 1 28 0 19) 29 1 29 0 19) 30 1 30 0 19) 27 3) - 1))) else M) 27 3) v1) 29 20 ((fmX11_put (if (M 27 3) = 20 then (mset (mcpy (mcpy (mcpy M 28 1 28 0 19) 29 1 29 0 19) 30 1 30 0 19) 27 3 (wr32 (((mcpy (mcpy (mcpy M 28 1 28 0 19) 29 1 29 0 19) 30 1 30 0 19) 27 3) - 1))) else M) 28 20 ((if (M 27 3) = 20 then (mset (mcpy (mcpy (mcpy M 28 1 28 0 19) 29 1 29 0 19) 30 1 30 0 19) 27 3 (wr32 (((mcpy (mcpy (mcpy M 28 1 28 0 19) 29 1 29 0 19) 30 1 30 0 19) 27 3) - 1))) else M) 27 3) v1) 27 3) v2) 27 3) v3) 27 3) + 1))) rfl (by decide) (by decide) (by decide) (gX11_put (h := h) (M := (fmX11_put (fmX11_put (if (M 27 3) = 20 then (mset (mcpy (mcpy (mcpy M 28 1 28 0 19) 29 1 29 0 19) 30 1 30 0 19) 27 3 (wr32 (((mcpy (mcpy (mcpy M 28 1 28 0 19) 29 1 29 0 19) 30 1 30 0 19) 27 3) - 1))) else M) 28 20 ((if (M 27 3) = 20 then (mset (mcpy (mcpy (mcpy M 28 1 28 0 19) 29 1 29 0 19) 30 1 30 0 19) 27 3 (wr32 (((mcpy (mcpy (mcpy M 28 1 28 0 19) 29 1 29 0 19) 30 1 30 0 19) 27 3) - 1))) else M) 27 3) v1) 29 20 ((fmX11_put (if (M 27 3) = 20 then (mset (mcpy (mcpy (mcpy M 28 1 28 0 19) 29 1 29 0 19) 30 1 30 0 19) 27 3 (wr32 (((mcpy (mcpy (mcpy M 28 1 28 0 19) 29 1 29 0 19) 30 1 30 0 19) 27 3) - 1))) else M) 28 20 ((if (M 27 3) = 20 then (mset (mcpy (mcpy (mcpy M 28 1 28 0 19) 29 1 29 0 19) 30 1 30 0 19) 27 3 (wr32 (((mcpy (mcpy (mcpy M 28 1 28 0 19) 29 1 29 0 19) 30 1 30 0 19) 27 3) - 1))) else M) 27 3) v1) 27 3) v2)) (p0 := 30) (np0 := 20) (v1 := ((fmX11_put (fmX11_put (if (M 27 3) = 20 then (mset (mcpy (mcpy (mcpy M 28 1 28 0 19) 29 1 29 0 19) 30 1 30 0 19) 27 3 (wr32 (((mcpy (mcpy (mcpy M 28 1 28 0 19) 29 1 29 0 19) 30 1 30 0 19) 27 3) - 1))) else M) 28 20 ((if (M 27 3) = 20 then (mset (mcpy (mcpy (mcpy M 28 1 28 0 19) 29 1 29 0 19) 30 1 30 0 19) 27 3 (wr32 (((mcpy (mcpy (mcpy M 28 1 28 0 19) 29 1 29 0 19) 30 1 30 0 19) 27 3) - 1))) else M) 27 3) v1) 29 20 ((fmX11_put (if (M 27 3) = 20 then (mset (mcpy (mcpy (mcpy M 28 1 28 0 19) 29 1 29 0 19) 30 1 30 0 19) 27 3 (wr32 (((mcpy (mcpy (mcpy M 28 1 28 0 19) 29 1 29 0 19) 30 1 30 0 19) 27 3) - 1))) else M) 28 20 ((if (M 27 3) = 20 then (mset (mcpy (mcpy (mcpy M 28 1 28 0 19) 29 1 29 0 19) 30 1 30 0 19) 27 3 (wr32 (((mcpy (mcpy (mcpy M 28 1 28 0 19) 29 1 29 0 19) 30 1 30 0 19) 27 3) - 1))) else M) 27 3) v1) 27 3) v2) 27 3)) (v2 := v3) (by decide) rfl (by decide) (gX11_put (h := h) (M := (fmX11_put (if (M 27 3) = 20 then (mset (mcpy (mcpy (mcpy M 28 1 28 0 19) 29 1 29 0 19) 30 1 30 0 19) 27 3 (wr32 (((mcpy (mcpy (mcpy M 28 1 28 0 19) 29 1 29 0 19) 30 1 30 0 19) 27 3) - 1))) else M) 28 20 ((if (M 27 3) = 20 then (mset (mcpy (mcpy (mcpy M 28 1 28 0 19) 29 1 29 0 19) 30 1 30 0 19) 27 3 (wr32 (((mcpy (mcpy (mcpy M 28 1 28 0 19) 29 1 29 0 19) 30 1 30 0 19) 27 3) - 1))) else M) 27 3) v1)) (p0 := 29) (np0 := 20) (v1 := ((fmX11_put (if (M 27 3) = 20 then (mset (mcpy (mcpy (mcpy M 28 1 28 0 19) 29 1 29 0 19) 30 1 30 0 19) 27 3 (wr32 (((mcpy (mcpy (mcpy M 28 1 28 0 19) 29 1 29 0 19) 30 1 30 0 19) 27 3) - 1))) else M) 28 20 ((if (M 27 3) = 20 then (mset (mcpy (mcpy (mcpy M 28 1 28 0 19) 29 1 29 0 19) 30 1 30 0 19) 27 3 (wr32 (((mcpy (mcpy (mcpy M 28 1 28 0 19) 29 1 29 0 19) 30 1 30 0 19) 27 3) - 1))) else M) 27 3) v1) 27 3)) (v2 := v2) (by decide) rfl (by decide) (gX11_put (h := h) (M := (if (M 27 3) = 20 then (mset (mcpy (mcpy (mcpy M 28 1 28 0 19) 29 1 29 0 19) 30 1 30 0 19) 27 3 (wr32 (((mcpy (mcpy (mcpy M 28 1 28 0 19) 29 1 29 0 19) 30 1 30 0 19) 27 3) - 1))) else M)) (p0 := 28) (np0 := 20) (v1 := ((if (M 27 3) = 20 then (mset (mcpy (mcpy (mcpy M 28 1 28 0 19) 29 1 29 0 19) 30 1 30 0 19) 27 3 (wr32 (((mcpy (mcpy (mcpy M 28 1 28 0 19) 29 1 29 0 19) 30 1 30 0 19) 27 3) - 1))) else M) 27 3)) (v2 := v1) (by decide) rfl (by decide) (G_ite (G_fld (x := 27) (i := 3) (y := (wr32 (((mcpy (mcpy (mcpy M 28 1 28 0 19) 29 1 29 0 19) 30 1 30 0 19) 27 3) - 1))) rfl (by decide) (by decide) (by decide) (G_cpy (x := 30) (y := 30) (sp := 1) (dp := 0) (n := 19) rfl (by decide) (G_cpy (x := 29) (y := 29) (sp := 1) (dp := 0) (n := 19) rfl (by decide) (G_cpy (x := 28) (y := 28) (sp := 1) (dp := 0) (n := 19) rfl (by decide) hG)))) hG)))))
set_option maxRecDepth 100000 in
theorem pX0_add {E : EV} {h : Int} {M : Mem} {v1 : Int} {v2 : Int} {v3 : Int}  : C2 E miX0_add 2 h [(2, 27), (0, v1), (0, v2), (0, v3)] M (fun r M' => r = none ∧ M' = (fmX0_add M v1 v2 v3)) := by
  obtain ⟨Q, hQ⟩ : ∃ Q : Option MV → Mem → Prop, Q = (fun r M' => r = none ∧ M' = (fmX0_add M v1 v2 v3)) := ⟨_, rfl⟩
  rw [← hQ]
  refine C2_of (L := [(2, 27), (0, v1), (0, v2), (0, v3)]) (by decide +kernel) (Nat.le_of_ble_eq_true rfl) rfl (fun hG => ?_)
  refine T_aload_n (i := 0) (pc' := 1) dX0_add_0 rfl rfl rfl ?_
  refine U_gf (v := (0, (M 27 3))) (k := 3) (kI := 3) (pc' := 4) dX0_add_1 rfl cl0 (by decide) rfl (by decide) flX0_21 rfl rfl (by decide) rfl rfl ?_
  refine T_bipush (pc' := 6) dX0_add_4 rfl (by decide) rfl ?_
  have HJ1 : T E miX0_add 2 126 0 0 (fun r S M' => S = S0 ∧ G h M' ∧ Q r M') 64 [(2, 27), (0, v1), (0, v2), (0, v3)] [] S0 (if (M 27 3) = 20 then (mset (mcpy (mcpy (mcpy M 28 1 28 0 19) 29 1 29 0 19) 30 1 30 0 19) 27 3 (wr32 (((mcpy (mcpy (mcpy M 28 1 28 0 19) 29 1 29 0 19) 30 1 30 0 19) 27 3) - 1))) else M) 0 0 := by
    refine T_aload_n (i := 0) (pc' := 65) dX0_add_64 rfl rfl rfl ?_
    refine U_gr (q := 28) (k := 0) (kI := 0) (pc' := 68) dX0_add_65 rfl cl0 (by decide) rfl (by decide) flX0_9 rfl rfl rfl (G_at (G_ite (G_fld (x := 27) (i := 3) (y := (wr32 (((mcpy (mcpy (mcpy M 28 1 28 0 19) 29 1 29 0 19) 30 1 30 0 19) 27 3) - 1))) rfl (by decide) (by decide) (by decide) (G_cpy (x := 30) (y := 30) (sp := 1) (dp := 0) (n := 19) rfl (by decide) (G_cpy (x := 29) (y := 29) (sp := 1) (dp := 0) (n := 19) rfl (by decide) (G_cpy (x := 28) (y := 28) (sp := 1) (dp := 0) (n := 19) rfl (by decide) hG)))) hG) 32 rfl) (by decide) rfl ?_
    refine T_aload_n (i := 0) (pc' := 69) dX0_add_68 rfl rfl rfl ?_
    refine U_gf (v := (0, ((if (M 27 3) = 20 then (mset (mcpy (mcpy (mcpy M 28 1 28 0 19) 29 1 29 0 19) 30 1 30 0 19) 27 3 (wr32 (((mcpy (mcpy (mcpy M 28 1 28 0 19) 29 1 29 0 19) 30 1 30 0 19) 27 3) - 1))) else M) 27 3))) (k := 3) (kI := 3) (pc' := 72) dX0_add_69 rfl cl0 (by decide) rfl (by decide) flX0_21 rfl rfl (by decide) rfl rfl ?_
    refine T_iload_n (i := 1) (pc' := 73) dX0_add_72 rfl rfl rfl ?_
    refine T_callSN (av := [(2, 28), (0, ((if (M 27 3) = 20 then (mset (mcpy (mcpy (mcpy M 28 1 28 0 19) 29 1 29 0 19) 30 1 30 0 19) 27 3 (wr32 (((mcpy (mcpy (mcpy M 28 1 28 0 19) 29 1 29 0 19) 30 1 30 0 19) 27 3) - 1))) else M) 27 3)), (0, v1)]) (st := []) (d2 := 1) (nc2 := 0) (ns2 := 0) (pc' := 76) dX0_add_73 rfl mtX11_put mvX11_put mlX0_31 rfl rfl (Nat.le_of_ble_eq_true rfl) (by decide) ⟨by decide, by decide⟩ rfl (pX11_put (E := E) (h := h) (M := (if (M 27 3) = 20 then (mset (mcpy (mcpy (mcpy M 28 1 28 0 19) 29 1 29 0 19) 30 1 30 0 19) 27 3 (wr32 (((mcpy (mcpy (mcpy M 28 1 28 0 19) 29 1 29 0 19) 30 1 30 0 19) 27 3) - 1))) else M)) (p0 := 28) (np0 := 20) (v1 := ((if (M 27 3) = 20 then (mset (mcpy (mcpy (mcpy M 28 1 28 0 19) 29 1 29 0 19) 30 1 30 0 19) 27 3 (wr32 (((mcpy (mcpy (mcpy M 28 1 28 0 19) 29 1 29 0 19) 30 1 30 0 19) 27 3) - 1))) else M) 27 3)) (v2 := v1) (by decide) rfl (by decide) (G_ite (G_fld (x := 27) (i := 3) (y := (wr32 (((mcpy (mcpy (mcpy M 28 1 28 0 19) 29 1 29 0 19) 30 1 30 0 19) 27 3) - 1))) rfl (by decide) (by decide) (by decide) (G_cpy (x := 30) (y := 30) (sp := 1) (dp := 0) (n := 19) rfl (by decide) (G_cpy (x := 29) (y := 29) (sp := 1) (dp := 0) (n := 19) rfl (by decide) (G_cpy (x := 28) (y := 28) (sp := 1) (dp := 0) (n := 19) rfl (by decide) hG)))) hG)) (kF (st2 := []) rfl (fun hG2 => ?_))
    refine T_aload_n (i := 0) (pc' := 77) dX0_add_76 rfl rfl rfl ?_
    refine U_gr (q := 29) (k := 1) (kI := 1) (pc' := 80) dX0_add_77 rfl cl0 (by decide) rfl (by decide) flX0_15 rfl rfl rfl (G_at (gX11_put (h := h) (M := (if (M 27 3) = 20 then (mset (mcpy (mcpy (mcpy M 28 1 28 0 19) 29 1 29 0 19) 30 1 30 0 19) 27 3 (wr32 (((mcpy (mcpy (mcpy M 28 1 28 0 19) 29 1 29 0 19) 30 1 30 0 19) 27 3) - 1))) else M)) (p0 := 28) (np0 := 20) (v1 := ((if (M 27 3) = 20 then (mset (mcpy (mcpy (mcpy M 28 1 28 0 19) 29 1 29 0 19) 30 1 30 0 19) 27 3 (wr32 (((mcpy (mcpy (mcpy M 28 1 28 0 19) 29 1 29 0 19) 30 1 30 0 19) 27 3) - 1))) else M) 27 3)) (v2 := v1) (by decide) rfl (by decide) (G_ite (G_fld (x := 27) (i := 3) (y := (wr32 (((mcpy (mcpy (mcpy M 28 1 28 0 19) 29 1 29 0 19) 30 1 30 0 19) 27 3) - 1))) rfl (by decide) (by decide) (by decide) (G_cpy (x := 30) (y := 30) (sp := 1) (dp := 0) (n := 19) rfl (by decide) (G_cpy (x := 29) (y := 29) (sp := 1) (dp := 0) (n := 19) rfl (by decide) (G_cpy (x := 28) (y := 28) (sp := 1) (dp := 0) (n := 19) rfl (by decide) hG)))) hG)) 33 rfl) (by decide) rfl ?_
    refine T_aload_n (i := 0) (pc' := 81) dX0_add_80 rfl rfl rfl ?_
    refine U_gf (v := (0, ((fmX11_put (if (M 27 3) = 20 then (mset (mcpy (mcpy (mcpy M 28 1 28 0 19) 29 1 29 0 19) 30 1 30 0 19) 27 3 (wr32 (((mcpy (mcpy (mcpy M 28 1 28 0 19) 29 1 29 0 19) 30 1 30 0 19) 27 3) - 1))) else M) 28 20 ((if (M 27 3) = 20 then (mset (mcpy (mcpy (mcpy M 28 1 28 0 19) 29 1 29 0 19) 30 1 30 0 19) 27 3 (wr32 (((mcpy (mcpy (mcpy M 28 1 28 0 19) 29 1 29 0 19) 30 1 30 0 19) 27 3) - 1))) else M) 27 3) v1) 27 3))) (k := 3) (kI := 3) (pc' := 84) dX0_add_81 rfl cl0 (by decide) rfl (by decide) flX0_21 rfl rfl (by decide) rfl rfl ?_
    refine T_iload_n (i := 2) (pc' := 85) dX0_add_84 rfl rfl rfl ?_
    refine T_callSN (av := [(2, 29), (0, ((fmX11_put (if (M 27 3) = 20 then (mset (mcpy (mcpy (mcpy M 28 1 28 0 19) 29 1 29 0 19) 30 1 30 0 19) 27 3 (wr32 (((mcpy (mcpy (mcpy M 28 1 28 0 19) 29 1 29 0 19) 30 1 30 0 19) 27 3) - 1))) else M) 28 20 ((if (M 27 3) = 20 then (mset (mcpy (mcpy (mcpy M 28 1 28 0 19) 29 1 29 0 19) 30 1 30 0 19) 27 3 (wr32 (((mcpy (mcpy (mcpy M 28 1 28 0 19) 29 1 29 0 19) 30 1 30 0 19) 27 3) - 1))) else M) 27 3) v1) 27 3)), (0, v2)]) (st := []) (d2 := 1) (nc2 := 0) (ns2 := 0) (pc' := 88) dX0_add_85 rfl mtX11_put mvX11_put mlX0_31 rfl rfl (Nat.le_of_ble_eq_true rfl) (by decide) ⟨by decide, by decide⟩ rfl (pX11_put (E := E) (h := h) (M := (fmX11_put (if (M 27 3) = 20 then (mset (mcpy (mcpy (mcpy M 28 1 28 0 19) 29 1 29 0 19) 30 1 30 0 19) 27 3 (wr32 (((mcpy (mcpy (mcpy M 28 1 28 0 19) 29 1 29 0 19) 30 1 30 0 19) 27 3) - 1))) else M) 28 20 ((if (M 27 3) = 20 then (mset (mcpy (mcpy (mcpy M 28 1 28 0 19) 29 1 29 0 19) 30 1 30 0 19) 27 3 (wr32 (((mcpy (mcpy (mcpy M 28 1 28 0 19) 29 1 29 0 19) 30 1 30 0 19) 27 3) - 1))) else M) 27 3) v1)) (p0 := 29) (np0 := 20) (v1 := ((fmX11_put (if (M 27 3) = 20 then (mset (mcpy (mcpy (mcpy M 28 1 28 0 19) 29 1 29 0 19) 30 1 30 0 19) 27 3 (wr32 (((mcpy (mcpy (mcpy M 28 1 28 0 19) 29 1 29 0 19) 30 1 30 0 19) 27 3) - 1))) else M) 28 20 ((if (M 27 3) = 20 then (mset (mcpy (mcpy (mcpy M 28 1 28 0 19) 29 1 29 0 19) 30 1 30 0 19) 27 3 (wr32 (((mcpy (mcpy (mcpy M 28 1 28 0 19) 29 1 29 0 19) 30 1 30 0 19) 27 3) - 1))) else M) 27 3) v1) 27 3)) (v2 := v2) (by decide) rfl (by decide) (gX11_put (h := h) (M := (if (M 27 3) = 20 then (mset (mcpy (mcpy (mcpy M 28 1 28 0 19) 29 1 29 0 19) 30 1 30 0 19) 27 3 (wr32 (((mcpy (mcpy (mcpy M 28 1 28 0 19) 29 1 29 0 19) 30 1 30 0 19) 27 3) - 1))) else M)) (p0 := 28) (np0 := 20) (v1 := ((if (M 27 3) = 20 then (mset (mcpy (mcpy (mcpy M 28 1 28 0 19) 29 1 29 0 19) 30 1 30 0 19) 27 3 (wr32 (((mcpy (mcpy (mcpy M 28 1 28 0 19) 29 1 29 0 19) 30 1 30 0 19) 27 3) - 1))) else M) 27 3)) (v2 := v1) (by decide) rfl (by decide) (G_ite (G_fld (x := 27) (i := 3) (y := (wr32 (((mcpy (mcpy (mcpy M 28 1 28 0 19) 29 1 29 0 19) 30 1 30 0 19) 27 3) - 1))) rfl (by decide) (by decide) (by decide) (G_cpy (x := 30) (y := 30) (sp := 1) (dp := 0) (n := 19) rfl (by decide) (G_cpy (x := 29) (y := 29) (sp := 1) (dp := 0) (n := 19) rfl (by decide) (G_cpy (x := 28) (y := 28) (sp := 1) (dp := 0) (n := 19) rfl (by decide) hG)))) hG))) (kF (st2 := []) rfl (fun hG3 => ?_))
    refine T_aload_n (i := 0) (pc' := 89) dX0_add_88 rfl rfl rfl ?_
    refine U_gr (q := 30) (k := 2) (kI := 2) (pc' := 92) dX0_add_89 rfl cl0 (by decide) rfl (by decide) flX0_18 rfl rfl rfl (G_at (gX11_put (h := h) (M := (fmX11_put (if (M 27 3) = 20 then (mset (mcpy (mcpy (mcpy M 28 1 28 0 19) 29 1 29 0 19) 30 1 30 0 19) 27 3 (wr32 (((mcpy (mcpy (mcpy M 28 1 28 0 19) 29 1 29 0 19) 30 1 30 0 19) 27 3) - 1))) else M) 28 20 ((if (M 27 3) = 20 then (mset (mcpy (mcpy (mcpy M 28 1 28 0 19) 29 1 29 0 19) 30 1 30 0 19) 27 3 (wr32 (((mcpy (mcpy (mcpy M 28 1 28 0 19) 29 1 29 0 19) 30 1 30 0 19) 27 3) - 1))) else M) 27 3) v1)) (p0 := 29) (np0 := 20) (v1 := ((fmX11_put (if (M 27 3) = 20 then (mset (mcpy (mcpy (mcpy M 28 1 28 0 19) 29 1 29 0 19) 30 1 30 0 19) 27 3 (wr32 (((mcpy (mcpy (mcpy M 28 1 28 0 19) 29 1 29 0 19) 30 1 30 0 19) 27 3) - 1))) else M) 28 20 ((if (M 27 3) = 20 then (mset (mcpy (mcpy (mcpy M 28 1 28 0 19) 29 1 29 0 19) 30 1 30 0 19) 27 3 (wr32 (((mcpy (mcpy (mcpy M 28 1 28 0 19) 29 1 29 0 19) 30 1 30 0 19) 27 3) - 1))) else M) 27 3) v1) 27 3)) (v2 := v2) (by decide) rfl (by decide) (gX11_put (h := h) (M := (if (M 27 3) = 20 then (mset (mcpy (mcpy (mcpy M 28 1 28 0 19) 29 1 29 0 19) 30 1 30 0 19) 27 3 (wr32 (((mcpy (mcpy (mcpy M 28 1 28 0 19) 29 1 29 0 19) 30 1 30 0 19) 27 3) - 1))) else M)) (p0 := 28) (np0 := 20) (v1 := ((if (M 27 3) = 20 then (mset (mcpy (mcpy (mcpy M 28 1 28 0 19) 29 1 29 0 19) 30 1 30 0 19) 27 3 (wr32 (((mcpy (mcpy (mcpy M 28 1 28 0 19) 29 1 29 0 19) 30 1 30 0 19) 27 3) - 1))) else M) 27 3)) (v2 := v1) (by decide) rfl (by decide) (G_ite (G_fld (x := 27) (i := 3) (y := (wr32 (((mcpy (mcpy (mcpy M 28 1 28 0 19) 29 1 29 0 19) 30 1 30 0 19) 27 3) - 1))) rfl (by decide) (by decide) (by decide) (G_cpy (x := 30) (y := 30) (sp := 1) (dp := 0) (n := 19) rfl (by decide) (G_cpy (x := 29) (y := 29) (sp := 1) (dp := 0) (n := 19) rfl (by decide) (G_cpy (x := 28) (y := 28) (sp := 1) (dp := 0) (n := 19) rfl (by decide) hG)))) hG))) 34 rfl) (by decide) rfl ?_
    refine T_aload_n (i := 0) (pc' := 93) dX0_add_92 rfl rfl rfl ?_
    refine U_gf (v := (0, ((fmX11_put (fmX11_put (if (M 27 3) = 20 then (mset (mcpy (mcpy (mcpy M 28 1 28 0 19) 29 1 29 0 19) 30 1 30 0 19) 27 3 (wr32 (((mcpy (mcpy (mcpy M 28 1 28 0 19) 29 1 29 0 19) 30 1 30 0 19) 27 3) - 1))) else M) 28 20 ((if (M 27 3) = 20 then (mset (mcpy (mcpy (mcpy M 28 1 28 0 19) 29 1 29 0 19) 30 1 30 0 19) 27 3 (wr32 (((mcpy (mcpy (mcpy M 28 1 28 0 19) 29 1 29 0 19) 30 1 30 0 19) 27 3) - 1))) else M) 27 3) v1) 29 20 ((fmX11_put (if (M 27 3) = 20 then (mset (mcpy (mcpy (mcpy M 28 1 28 0 19) 29 1 29 0 19) 30 1 30 0 19) 27 3 (wr32 (((mcpy (mcpy (mcpy M 28 1 28 0 19) 29 1 29 0 19) 30 1 30 0 19) 27 3) - 1))) else M) 28 20 ((if (M 27 3) = 20 then (mset (mcpy (mcpy (mcpy M 28 1 28 0 19) 29 1 29 0 19) 30 1 30 0 19) 27 3 (wr32 (((mcpy (mcpy (mcpy M 28 1 28 0 19) 29 1 29 0 19) 30 1 30 0 19) 27 3) - 1))) else M) 27 3) v1) 27 3) v2) 27 3))) (k := 3) (kI := 3) (pc' := 96) dX0_add_93 rfl cl0 (by decide) rfl (by decide) flX0_21 rfl rfl (by decide) rfl rfl ?_
    refine T_iload_n (i := 3) (pc' := 97) dX0_add_96 rfl rfl rfl ?_
    refine T_callSN (av := [(2, 30), (0, ((fmX11_put (fmX11_put (if (M 27 3) = 20 then (mset (mcpy (mcpy (mcpy M 28 1 28 0 19) 29 1 29 0 19) 30 1 30 0 19) 27 3 (wr32 (((mcpy (mcpy (mcpy M 28 1 28 0 19) 29 1 29 0 19) 30 1 30 0 19) 27 3) - 1))) else M) 28 20 ((if (M 27 3) = 20 then (mset (mcpy (mcpy (mcpy M 28 1 28 0 19) 29 1 29 0 19) 30 1 30 0 19) 27 3 (wr32 (((mcpy (mcpy (mcpy M 28 1 28 0 19) 29 1 29 0 19) 30 1 30 0 19) 27 3) - 1))) else M) 27 3) v1) 29 20 ((fmX11_put (if (M 27 3) = 20 then (mset (mcpy (mcpy (mcpy M 28 1 28 0 19) 29 1 29 0 19) 30 1 30 0 19) 27 3 (wr32 (((mcpy (mcpy (mcpy M 28 1 28 0 19) 29 1 29 0 19) 30 1 30 0 19) 27 3) - 1))) else M) 28 20 ((if (M 27 3) = 20 then (mset (mcpy (mcpy (mcpy M 28 1 28 0 19) 29 1 29 0 19) 30 1 30 0 19) 27 3 (wr32 (((mcpy (mcpy (mcpy M 28 1 28 0 19) 29 1 29 0 19) 30 1 30 0 19) 27 3) - 1))) else M) 27 3) v1) 27 3) v2) 27 3)), (0, v3)]) (st := []) (d2 := 1) (nc2 := 0) (ns2 := 0) (pc' := 100) dX0_add_97 rfl mtX11_put mvX11_put mlX0_31 rfl rfl (Nat.le_of_ble_eq_true rfl) (by decide) ⟨by decide, by decide⟩ rfl (pX11_put (E := E) (h := h) (M := (fmX11_put (fmX11_put (if (M 27 3) = 20 then (mset (mcpy (mcpy (mcpy M 28 1 28 0 19) 29 1 29 0 19) 30 1 30 0 19) 27 3 (wr32 (((mcpy (mcpy (mcpy M 28 1 28 0 19) 29 1 29 0 19) 30 1 30 0 19) 27 3) - 1))) else M) 28 20 ((if (M 27 3) = 20 then (mset (mcpy (mcpy (mcpy M 28 1 28 0 19) 29 1 29 0 19) 30 1 30 0 19) 27 3 (wr32 (((mcpy (mcpy (mcpy M 28 1 28 0 19) 29 1 29 0 19) 30 1 30 0 19) 27 3) - 1))) else M) 27 3) v1) 29 20 ((fmX11_put (if (M 27 3) = 20 then (mset (mcpy (mcpy (mcpy M 28 1 28 0 19) 29 1 29 0 19) 30 1 30 0 19) 27 3 (wr32 (((mcpy (mcpy (mcpy M 28 1 28 0 19) 29 1 29 0 19) 30 1 30 0 19) 27 3) - 1))) else M) 28 20 ((if (M 27 3) = 20 then (mset (mcpy (mcpy (mcpy M 28 1 28 0 19) 29 1 29 0 19) 30 1 30 0 19) 27 3 (wr32 (((mcpy (mcpy (mcpy M 28 1 28 0 19) 29 1 29 0 19) 30 1 30 0 19) 27 3) - 1))) else M) 27 3) v1) 27 3) v2)) (p0 := 30) (np0 := 20) (v1 := ((fmX11_put (fmX11_put (if (M 27 3) = 20 then (mset (mcpy (mcpy (mcpy M 28 1 28 0 19) 29 1 29 0 19) 30 1 30 0 19) 27 3 (wr32 (((mcpy (mcpy (mcpy M 28 1 28 0 19) 29 1 29 0 19) 30 1 30 0 19) 27 3) - 1))) else M) 28 20 ((if (M 27 3) = 20 then (mset (mcpy (mcpy (mcpy M 28 1 28 0 19) 29 1 29 0 19) 30 1 30 0 19) 27 3 (wr32 (((mcpy (mcpy (mcpy M 28 1 28 0 19) 29 1 29 0 19) 30 1 30 0 19) 27 3) - 1))) else M) 27 3) v1) 29 20 ((fmX11_put (if (M 27 3) = 20 then (mset (mcpy (mcpy (mcpy M 28 1 28 0 19) 29 1 29 0 19) 30 1 30 0 19) 27 3 (wr32 (((mcpy (mcpy (mcpy M 28 1 28 0 19) 29 1 29 0 19) 30 1 30 0 19) 27 3) - 1))) else M) 28 20 ((if (M 27 3) = 20 then (mset (mcpy (mcpy (mcpy M 28 1 28 0 19) 29 1 29 0 19) 30 1 30 0 19) 27 3 (wr32 (((mcpy (mcpy (mcpy M 28 1 28 0 19) 29 1 29 0 19) 30 1 30 0 19) 27 3) - 1))) else M) 27 3) v1) 27 3) v2) 27 3)) (v2 := v3) (by decide) rfl (by decide) (gX11_put (h := h) (M := (fmX11_put (if (M 27 3) = 20 then (mset (mcpy (mcpy (mcpy M 28 1 28 0 19) 29 1 29 0 19) 30 1 30 0 19) 27 3 (wr32 (((mcpy (mcpy (mcpy M 28 1 28 0 19) 29 1 29 0 19) 30 1 30 0 19) 27 3) - 1))) else M) 28 20 ((if (M 27 3) = 20 then (mset (mcpy (mcpy (mcpy M 28 1 28 0 19) 29 1 29 0 19) 30 1 30 0 19) 27 3 (wr32 (((mcpy (mcpy (mcpy M 28 1 28 0 19) 29 1 29 0 19) 30 1 30 0 19) 27 3) - 1))) else M) 27 3) v1)) (p0 := 29) (np0 := 20) (v1 := ((fmX11_put (if (M 27 3) = 20 then (mset (mcpy (mcpy (mcpy M 28 1 28 0 19) 29 1 29 0 19) 30 1 30 0 19) 27 3 (wr32 (((mcpy (mcpy (mcpy M 28 1 28 0 19) 29 1 29 0 19) 30 1 30 0 19) 27 3) - 1))) else M) 28 20 ((if (M 27 3) = 20 then (mset (mcpy (mcpy (mcpy M 28 1 28 0 19) 29 1 29 0 19) 30 1 30 0 19) 27 3 (wr32 (((mcpy (mcpy (mcpy M 28 1 28 0 19) 29 1 29 0 19) 30 1 30 0 19) 27 3) - 1))) else M) 27 3) v1) 27 3)) (v2 := v2) (by decide) rfl (by decide) (gX11_put (h := h) (M := (if (M 27 3) = 20 then (mset (mcpy (mcpy (mcpy M 28 1 28 0 19) 29 1 29 0 19) 30 1 30 0 19) 27 3 (wr32 (((mcpy (mcpy (mcpy M 28 1 28 0 19) 29 1 29 0 19) 30 1 30 0 19) 27 3) - 1))) else M)) (p0 := 28) (np0 := 20) (v1 := ((if (M 27 3) = 20 then (mset (mcpy (mcpy (mcpy M 28 1 28 0 19) 29 1 29 0 19) 30 1 30 0 19) 27 3 (wr32 (((mcpy (mcpy (mcpy M 28 1 28 0 19) 29 1 29 0 19) 30 1 30 0 19) 27 3) - 1))) else M) 27 3)) (v2 := v1) (by decide) rfl (by decide) (G_ite (G_fld (x := 27) (i := 3) (y := (wr32 (((mcpy (mcpy (mcpy M 28 1 28 0 19) 29 1 29 0 19) 30 1 30 0 19) 27 3) - 1))) rfl (by decide) (by decide) (by decide) (G_cpy (x := 30) (y := 30) (sp := 1) (dp := 0) (n := 19) rfl (by decide) (G_cpy (x := 29) (y := 29) (sp := 1) (dp := 0) (n := 19) rfl (by decide) (G_cpy (x := 28) (y := 28) (sp := 1) (dp := 0) (n := 19) rfl (by decide) hG)))) hG)))) (kF (st2 := []) rfl (fun hG4 => ?_))
    refine T_aload_n (i := 0) (pc' := 101) dX0_add_100 rfl rfl rfl ?_
    refine T_dup (pc' := 102) dX0_add_101 (Nat.ne_of_beq_eq_false rfl) rfl ?_
    refine U_gf (v := (0, ((fmX11_put (fmX11_put (fmX11_put (if (M 27 3) = 20 then (mset (mcpy (mcpy (mcpy M 28 1 28 0 19) 29 1 29 0 19) 30 1 30 0 19) 27 3 (wr32 (((mcpy (mcpy (mcpy M 28 1 28 0 19) 29 1 29 0 19) 30 1 30 0 19) 27 3) - 1))) else M) 28 20 ((if (M 27 3) = 20 then (mset (mcpy (mcpy (mcpy M 28 1 28 0 19) 29 1 29 0 19) 30 1 30 0 19) 27 3 (wr32 (((mcpy (mcpy (mcpy M 28 1 28 0 19) 29 1 29 0 19) 30 1 30 0 19) 27 3) - 1))) else M) 27 3) v1) 29 20 ((fmX11_put (if (M 27 3) = 20 then (mset (mcpy (mcpy (mcpy M 28 1 28 0 19) 29 1 29 0 19) 30 1 30 0 19) 27 3 (wr32 (((mcpy (mcpy (mcpy M 28 1 28 0 19) 29 1 29 0 19) 30 1 30 0 19) 27 3) - 1))) else M) 28 20 ((if (M 27 3) = 20 then (mset (mcpy (mcpy (mcpy M 28 1 28 0 19) 29 1 29 0 19) 30 1 30 0 19) 27 3 (wr32 (((mcpy (mcpy (mcpy M 28 1 28 0 19) 29 1 29 0 19) 30 1 30 0 19) 27 3) - 1))) else M) 27 3) v1) 27 3) v2) 30 20 ((fmX11_put (fmX11_put (if (M 27 3) = 20 then (mset (mcpy (mcpy (mcpy M 28 1 28 0 19) 29 1 29 0 19) 30 1 30 0 19) 27 3 (wr32 (((mcpy (mcpy (mcpy M 28 1 28 0 19) 29 1 29 0 19) 30 1 30 0 19) 27 3) - 1))) else M) 28 20 ((if (M 27 3) = 20 then (mset (mcpy (mcpy (mcpy M 28 1 28 0 19) 29 1 29 0 19) 30 1 30 0 19) 27 3 (wr32 (((mcpy (mcpy (mcpy M 28 1 28 0 19) 29 1 29 0 19) 30 1 30 0 19) 27 3) - 1))) else M) 27 3) v1) 29 20 ((fmX11_put (if (M 27 3) = 20 then (mset (mcpy (mcpy (mcpy M 28 1 28 0 19) 29 1 29 0 19) 30 1 30 0 19) 27 3 (wr32 (((mcpy (mcpy (mcpy M 28 1 28 0 19) 29 1 29 0 19) 30 1 30 0 19) 27 3) - 1))) else M) 28 20 ((if (M 27 3) = 20 then (mset (mcpy (mcpy (mcpy M 28 1 28 0 19) 29 1 29 0 19) 30 1 30 0 19) 27 3 (wr32 (((mcpy (mcpy (mcpy M 28 1 28 0 19) 29 1 29 0 19) 30 1 30 0 19) 27 3) - 1))) else M) 27 3) v1) 27 3) v2) 27 3) v3) 27 3))) (k := 3) (kI := 3) (pc' := 105) dX0_add_102 rfl cl0 (by decide) rfl (by decide) flX0_21 rfl rfl (by decide) rfl rfl ?_
    refine T_iconst (pc' := 106) dX0_add_105 (by decide) rfl ?_
    refine T_iadd (pc' := 107) dX0_add_106 rfl ?_
    refine U_pf (y := (wr32 (((fmX11_put (fmX11_put (fmX11_put (if (M 27 3) = 20 then (mset (mcpy (mcpy (mcpy M 28 1 28 0 19) 29 1 29 0 19) 30 1 30 0 19) 27 3 (wr32 (((mcpy (mcpy (mcpy M 28 1 28 0 19) 29 1 29 0 19) 30 1 30 0 19) 27 3) - 1))) else M) 28 20 ((if (M 27 3) = 20 then (mset (mcpy (mcpy (mcpy M 28 1 28 0 19) 29 1 29 0 19) 30 1 30 0 19) 27 3 (wr32 (((mcpy (mcpy (mcpy M 28 1 28 0 19) 29 1 29 0 19) 30 1 30 0 19) 27 3) - 1))) else M) 27 3) v1) 29 20 ((fmX11_put (if (M 27 3) = 20 then (mset (mcpy (mcpy (mcpy M 28 1 28 0 19) 29 1 29 0 19) 30 1 30 0 19) 27 3 (wr32 (((mcpy (mcpy (mcpy M 28 1 28 0 19) 29 1 29 0 19) 30 1 30 0 19) 27 3) - 1))) else M) 28 20 ((if (M 27 3) = 20 then (mset (mcpy (mcpy (mcpy M 28 1 28 0 19) 29 1 29 0 19) 30 1 30 0 19) 27 3 (wr32 (((mcpy (mcpy (mcpy M 28 1 28 0 19) 29 1 29 0 19) 30 1 30 0 19) 27 3) - 1))) else M) 27 3) v1) 27 3) v2) 30 20 ((fmX11_put (fmX11_put (if (M 27 3) = 20 then (mset (mcpy (mcpy (mcpy M 28 1 28 0 19) 29 1 29 0 19) 30 1 30 0 19) 27 3 (wr32 (((mcpy (mcpy (mcpy M 28 1 28 0 19) 29 1 29 0 19) 30 1 30 0 19) 27 3) - 1))) else M) 28 20 ((if (M 27 3) = 20 then (mset (mcpy (mcpy (mcpy M 28 1 28 0 19) 29 1 29 0 19) 30 1 30 0 19) 27 3 (wr32 (((mcpy (mcpy (mcpy M 28 1 28 0 19) 29 1 29 0 19) 30 1 30 0 19) 27 3) - 1))) else M) 27 3) v1) 29 20 ((fmX11_put (if (M 27 3) = 20 then (mset (mcpy (mcpy (mcpy M 28 1 28 0 19) 29 1 29 0 19) 30 1 30 0 19) 27 3 (wr32 (((mcpy (mcpy (mcpy M 28 1 28 0 19) 29 1 29 0 19) 30 1 30 0 19) 27 3) - 1))) else M) 28 20 ((if (M 27 3) = 20 then (mset (mcpy (mcpy (mcpy M 28 1 28 0 19) 29 1 29 0 19) 30 1 30 0 19) 27 3 (wr32 (((mcpy (mcpy (mcpy M 28 1 28 0 19) 29 1 29 0 19) 30 1 30 0 19) 27 3) - 1))) else M) 27 3) v1) 27 3) v2) 27 3) v3) 27 3) + 1))) (k := 3) (kI := 3) (pc' := 110) dX0_add_107 rfl cl0 (by decide) rfl (by decide) flX0_21 rfl rfl rfl rfl rfl (by decide) (fun z => z) rfl ?_
    exact T_vret dX0_add_110 rfl ⟨rfl, (G_fld (x := 27) (i := 3) (y := (wr32 (((fmX11_put (fmX11_put (fmX11_put (if (M 27 3) = 20 then (mset (mcpy (mcpy (mcpy M 28 1 28 0 19) 29 1 29 0 19) 30 1 30 0 19) 27 3 (wr32 (((mcpy (mcpy (mcpy M 28 1 28 0 19) 29 1 29 0 19) 30 1 30 0 19) 27 3) - 1))) else M) 28 20 ((if (M 27 3) = 20 then (mset (mcpy (mcpy (mcpy M 28 1 28 0 19) 29 1 29 0 19) 30 1 30 0 19) 27 3 (wr32 (((mcpy (mcpy (mcpy M 28 1 28 0 19) 29 1 29 0 19) 30 1 30 0 19) 27 3) - 1))) else M) 27 3) v1) 29 20 ((fmX11_put (if (M 27 3) = 20 then (mset (mcpy (mcpy (mcpy M 28 1 28 0 19) 29 1 29 0 19) 30 1 30 0 19) 27 3 (wr32 (((mcpy (mcpy (mcpy M 28 1 28 0 19) 29 1 29 0 19) 30 1 30 0 19) 27 3) - 1))) else M) 28 20 ((if (M 27 3) = 20 then (mset (mcpy (mcpy (mcpy M 28 1 28 0 19) 29 1 29 0 19) 30 1 30 0 19) 27 3 (wr32 (((mcpy (mcpy (mcpy M 28 1 28 0 19) 29 1 29 0 19) 30 1 30 0 19) 27 3) - 1))) else M) 27 3) v1) 27 3) v2) 30 20 ((fmX11_put (fmX11_put (if (M 27 3) = 20 then (mset (mcpy (mcpy (mcpy M 28 1 28 0 19) 29 1 29 0 19) 30 1 30 0 19) 27 3 (wr32 (((mcpy (mcpy (mcpy M 28 1 28 0 19) 29 1 29 0 19) 30 1 30 0 19) 27 3) - 1))) else M) 28 20 ((if (M 27 3) = 20 then (mset (mcpy (mcpy (mcpy M 28 1 28 0 19) 29 1 29 0 19) 30 1 30 0 19) 27 3 (wr32 (((mcpy (mcpy (mcpy M 28 1 28 0 19) 29 1 29 0 19) 30 1 30 0 19) 27 3) - 1))) else M) 27 3) v1) 29 20 ((fmX11_put (if (M 27 3) = 20 then (mset (mcpy (mcpy (mcpy M 28 1 28 0 19) 29 1 29 0 19) 30 1 30 0 19) 27 3 (wr32 (((mcpy (mcpy (mcpy M 28 1 28 0 19) 29 1 29 0 19) 30 1 30 0 19) 27 3) - 1))) else M) 28 20 ((if (M 27 3) = 20 then (mset (mcpy (mcpy (mcpy M 28 1 28 0 19) 29 1 29 0 19) 30 1 30 0 19) 27 3 (wr32 (((mcpy (mcpy (mcpy M 28 1 28 0 19) 29 1 29 0 19) 30 1 30 0 19) 27 3) - 1))) else M) 27 3) v1) 27 3) v2) 27 3) v3) 27 3) + 1))) rfl (by decide) (by decide) (by decide) (gX11_put (h := h) (M := (fmX11_put (fmX11_put (if (M 27 3) = 20 then (mset (mcpy (mcpy (mcpy M 28 1 28 0 19) 29 1 29 0 19) 30 1 30 0 19) 27 3 (wr32 (((mcpy (mcpy (mcpy M 28 1 28 0 19) 29 1 29 0 19) 30 1 30 0 19) 27 3) - 1))) else M) 28 20 ((if (M 27 3) = 20 then (mset (mcpy (mcpy (mcpy M 28 1 28 0 19) 29 1 29 0 19) 30 1 30 0 19) 27 3 (wr32 (((mcpy (mcpy (mcpy M 28 1 28 0 19) 29 1 29 0 19) 30 1 30 0 19) 27 3) - 1))) else M) 27 3) v1) 29 20 ((fmX11_put (if (M 27 3) = 20 then (mset (mcpy (mcpy (mcpy M 28 1 28 0 19) 29 1 29 0 19) 30 1 30 0 19) 27 3 (wr32 (((mcpy (mcpy (mcpy M 28 1 28 0 19) 29 1 29 0 19) 30 1 30 0 19) 27 3) - 1))) else M) 28 20 ((if (M 27 3) = 20 then (mset (mcpy (mcpy (mcpy M 28 1 28 0 19) 29 1 29 0 19) 30 1 30 0 19) 27 3 (wr32 (((mcpy (mcpy (mcpy M 28 1 28 0 19) 29 1 29 0 19) 30 1 30 0 19) 27 3) - 1))) else M) 27 3) v1) 27 3) v2)) (p0 := 30) (np0 := 20) (v1 := ((fmX11_put (fmX11_put (if (M 27 3) = 20 then (mset (mcpy (mcpy (mcpy M 28 1 28 0 19) 29 1 29 0 19) 30 1 30 0 19) 27 3 (wr32 (((mcpy (mcpy (mcpy M 28 1 28 0 19) 29 1 29 0 19) 30 1 30 0 19) 27 3) - 1))) else M) 28 20 ((if (M 27 3) = 20 then (mset (mcpy (mcpy (mcpy M 28 1 28 0 19) 29 1 29 0 19) 30 1 30 0 19) 27 3 (wr32 (((mcpy (mcpy (mcpy M 28 1 28 0 19) 29 1 29 0 19) 30 1 30 0 19) 27 3) - 1))) else M) 27 3) v1) 29 20 ((fmX11_put (if (M 27 3) = 20 then (mset (mcpy (mcpy (mcpy M 28 1 28 0 19) 29 1 29 0 19) 30 1 30 0 19) 27 3 (wr32 (((mcpy (mcpy (mcpy M 28 1 28 0 19) 29 1 29 0 19) 30 1 30 0 19) 27 3) - 1))) else M) 28 20 ((if (M 27 3) = 20 then (mset (mcpy (mcpy (mcpy M 28 1 28 0 19) 29 1 29 0 19) 30 1 30 0 19) 27 3 (wr32 (((mcpy (mcpy (mcpy M 28 1 28 0 19) 29 1 29 0 19) 30 1 30 0 19) 27 3) - 1))) else M) 27 3) v1) 27 3) v2) 27 3)) (v2 := v3) (by decide) rfl (by decide) (gX11_put (h := h) (M := (fmX11_put (if (M 27 3) = 20 then (mset (mcpy (mcpy (mcpy M 28 1 28 0 19) 29 1 29 0 19) 30 1 30 0 19) 27 3 (wr32 (((mcpy (mcpy (mcpy M 28 1 28 0 19) 29 1 29 0 19) 30 1 30 0 19) 27 3) - 1))) else M) 28 20 ((if (M 27 3) = 20 then (mset (mcpy (mcpy (mcpy M 28 1 28 0 19) 29 1 29 0 19) 30 1 30 0 19) 27 3 (wr32 (((mcpy (mcpy (mcpy M 28 1 28 0 19) 29 1 29 0 19) 30 1 30 0 19) 27 3) - 1))) else M) 27 3) v1)) (p0 := 29) (np0 := 20) (v1 := ((fmX11_put (if (M 27 3) = 20 then (mset (mcpy (mcpy (mcpy M 28 1 28 0 19) 29 1 29 0 19) 30 1 30 0 19) 27 3 (wr32 (((mcpy (mcpy (mcpy M 28 1 28 0 19) 29 1 29 0 19) 30 1 30 0 19) 27 3) - 1))) else M) 28 20 ((if (M 27 3) = 20 then (mset (mcpy (mcpy (mcpy M 28 1 28 0 19) 29 1 29 0 19) 30 1 30 0 19) 27 3 (wr32 (((mcpy (mcpy (mcpy M 28 1 28 0 19) 29 1 29 0 19) 30 1 30 0 19) 27 3) - 1))) else M) 27 3) v1) 27 3)) (v2 := v2) (by decide) rfl (by decide) (gX11_put (h := h) (M := (if (M 27 3) = 20 then (mset (mcpy (mcpy (mcpy M 28 1 28 0 19) 29 1 29 0 19) 30 1 30 0 19) 27 3 (wr32 (((mcpy (mcpy (mcpy M 28 1 28 0 19) 29 1 29 0 19) 30 1 30 0 19) 27 3) - 1))) else M)) (p0 := 28) (np0 := 20) (v1 := ((if (M 27 3) = 20 then (mset (mcpy (mcpy (mcpy M 28 1 28 0 19) 29 1 29 0 19) 30 1 30 0 19) 27 3 (wr32 (((mcpy (mcpy (mcpy M 28 1 28 0 19) 29 1 29 0 19) 30 1 30 0 19) 27 3) - 1))) else M) 27 3)) (v2 := v1) (by decide) rfl (by decide) (G_ite (G_fld (x := 27) (i := 3) (y := (wr32 (((mcpy (mcpy (mcpy M 28 1 28 0 19) 29 1 29 0 19) 30 1 30 0 19) 27 3) - 1))) rfl (by decide) (by decide) (by decide) (G_cpy (x := 30) (y := 30) (sp := 1) (dp := 0) (n := 19) rfl (by decide) (G_cpy (x := 29) (y := 29) (sp := 1) (dp := 0) (n := 19) rfl (by decide) (G_cpy (x := 28) (y := 28) (sp := 1) (dp := 0) (n := 19) rfl (by decide) hG)))) hG))))), (by rw [hQ]; exact ⟨rfl, rfl⟩)⟩
  refine T_icmp_ne (pc' := 64) dX0_add_6 (by decide) (pf := 9) rfl (fun c5 => ?_) (fun c5 => ?_)
  · skip
    exact T_wk (L' := [(2, 27), (0, v1), (0, v2), (0, v3)]) (by have q := HJ1; try simp only [if_neg c5] at q; exact q) ⟨Or.inr rfl, Or.inr rfl, Or.inr rfl, Or.inr rfl, trivial⟩
  · skip
    refine T_aload_n (i := 0) (pc' := 10) dX0_add_9 rfl rfl rfl ?_
    refine U_gr (q := 28) (k := 0) (kI := 0) (pc' := 13) dX0_add_10 rfl cl0 (by decide) rfl (by decide) flX0_9 rfl rfl rfl (G_at hG 32 rfl) (by decide) rfl ?_
    refine T_iconst (pc' := 14) dX0_add_13 (by decide) rfl ?_
    refine T_aload_n (i := 0) (pc' := 15) dX0_add_14 rfl rfl rfl ?_
    refine U_gr (q := 28) (k := 0) (kI := 0) (pc' := 18) dX0_add_15 rfl cl0 (by decide) rfl (by decide) flX0_9 rfl rfl rfl (G_at hG 32 rfl) (by decide) rfl ?_
    refine T_iconst (pc' := 19) dX0_add_18 (by decide) rfl ?_
    refine T_bipush (pc' := 21) dX0_add_19 rfl (by decide) rfl ?_
    refine U_copy (pc' := 24) dX0_add_21 rfl mlX0_25 (by decide) (by decide) rfl rfl (by decide) (by decide) (by decide) (by decide) (by decide) (Nat.le_of_ble_eq_true rfl) (by decide) rfl ?_
    refine T_aload_n (i := 0) (pc' := 25) dX0_add_24 rfl rfl rfl ?_
    refine U_gr (q := 29) (k := 1) (kI := 1) (pc' := 28) dX0_add_25 rfl cl0 (by decide) rfl (by decide) flX0_15 rfl rfl rfl (G_at (G_cpy (x := 28) (y := 28) (sp := 1) (dp := 0) (n := 19) rfl (by decide) hG) 33 rfl) (by decide) rfl ?_
    refine T_iconst (pc' := 29) dX0_add_28 (by decide) rfl ?_
    refine T_aload_n (i := 0) (pc' := 30) dX0_add_29 rfl rfl rfl ?_
    refine U_gr (q := 29) (k := 1) (kI := 1) (pc' := 33) dX0_add_30 rfl cl0 (by decide) rfl (by decide) flX0_15 rfl rfl rfl (G_at (G_cpy (x := 28) (y := 28) (sp := 1) (dp := 0) (n := 19) rfl (by decide) hG) 33 rfl) (by decide) rfl ?_
    refine T_iconst (pc' := 34) dX0_add_33 (by decide) rfl ?_
    refine T_bipush (pc' := 36) dX0_add_34 rfl (by decide) rfl ?_
    refine U_copy (pc' := 39) dX0_add_36 rfl mlX0_25 (by decide) (by decide) rfl rfl (by decide) (by decide) (by decide) (by decide) (by decide) (Nat.le_of_ble_eq_true rfl) (by decide) rfl ?_
    refine T_aload_n (i := 0) (pc' := 40) dX0_add_39 rfl rfl rfl ?_
    refine U_gr (q := 30) (k := 2) (kI := 2) (pc' := 43) dX0_add_40 rfl cl0 (by decide) rfl (by decide) flX0_18 rfl rfl rfl (G_at (G_cpy (x := 29) (y := 29) (sp := 1) (dp := 0) (n := 19) rfl (by decide) (G_cpy (x := 28) (y := 28) (sp := 1) (dp := 0) (n := 19) rfl (by decide) hG)) 34 rfl) (by decide) rfl ?_
    refine T_iconst (pc' := 44) dX0_add_43 (by decide) rfl ?_
    refine T_aload_n (i := 0) (pc' := 45) dX0_add_44 rfl rfl rfl ?_
    refine U_gr (q := 30) (k := 2) (kI := 2) (pc' := 48) dX0_add_45 rfl cl0 (by decide) rfl (by decide) flX0_18 rfl rfl rfl (G_at (G_cpy (x := 29) (y := 29) (sp := 1) (dp := 0) (n := 19) rfl (by decide) (G_cpy (x := 28) (y := 28) (sp := 1) (dp := 0) (n := 19) rfl (by decide) hG)) 34 rfl) (by decide) rfl ?_
    refine T_iconst (pc' := 49) dX0_add_48 (by decide) rfl ?_
    refine T_bipush (pc' := 51) dX0_add_49 rfl (by decide) rfl ?_
    refine U_copy (pc' := 54) dX0_add_51 rfl mlX0_25 (by decide) (by decide) rfl rfl (by decide) (by decide) (by decide) (by decide) (by decide) (Nat.le_of_ble_eq_true rfl) (by decide) rfl ?_
    refine T_aload_n (i := 0) (pc' := 55) dX0_add_54 rfl rfl rfl ?_
    refine T_dup (pc' := 56) dX0_add_55 (Nat.ne_of_beq_eq_false rfl) rfl ?_
    refine U_gf (v := (0, ((mcpy (mcpy (mcpy M 28 1 28 0 19) 29 1 29 0 19) 30 1 30 0 19) 27 3))) (k := 3) (kI := 3) (pc' := 59) dX0_add_56 rfl cl0 (by decide) rfl (by decide) flX0_21 rfl rfl (by decide) rfl rfl ?_
    refine T_iconst (pc' := 60) dX0_add_59 (by decide) rfl ?_
    refine T_isub (pc' := 61) dX0_add_60 rfl ?_
    refine U_pf (y := (wr32 (((mcpy (mcpy (mcpy M 28 1 28 0 19) 29 1 29 0 19) 30 1 30 0 19) 27 3) - 1))) (k := 3) (kI := 3) (pc' := 64) dX0_add_61 rfl cl0 (by decide) rfl (by decide) flX0_21 rfl rfl rfl rfl rfl (by decide) (fun z => z) rfl ?_
    exact T_wk (L' := [(2, 27), (0, v1), (0, v2), (0, v3)]) (by have q := HJ1; try simp only [if_pos c5] at q; exact q) ⟨Or.inr rfl, Or.inr rfl, Or.inr rfl, Or.inr rfl, trivial⟩
theorem frX0_add {M : Mem} {v1 : Int} {v2 : Int} {v3 : Int}  {q : Int} (hq0 : q ≠ 28) (hq1 : q ≠ 29) (hq2 : q ≠ 30) (hq3 : q ≠ 27) : (fmX0_add M v1 v2 v3) q = M q := by
  unfold fmX0_add
  repeat' (first | rfl | rw [mset_p hq0] | rw [mset_p hq1] | rw [mset_p hq2] | rw [mset_p hq3] | rw [mcpy_p hq0] | rw [mcpy_p hq1] | rw [mcpy_p hq2] | rw [mcpy_p hq3] | (rw [frX11_put] <;> try assumption) | rw [ite_ap] | split)
def fX11_get (M : Mem) (p0 : Int) (np0 : Nat) (v1 : Int) : Int :=
  (if v1 < 0 then ((-1) : Int) else (if (np0 : Int) ≤ v1 then ((-1) : Int) else (M p0 v1)))
set_option maxRecDepth 100000 in
theorem pX11_get {E : EV} {h : Int} {M : Mem} {p0 : Int} {np0 : Nat} {v1 : Int} (h0p0 : 0 ≤ p0) (hSp0 : S0[p0.toNat]? = some (0, 0, np0)) (hnp0 : np0 < 2147483648) : C2 E miX11_get 1 h [(2, p0), (0, v1)] M (fun r M' => r = some (0, (fX11_get M p0 np0 v1)) ∧ M' = M) := by
  obtain ⟨Q, hQ⟩ : ∃ Q : Option MV → Mem → Prop, Q = (fun r M' => r = some (0, (fX11_get M p0 np0 v1)) ∧ M' = M) := ⟨_, rfl⟩
  rw [← hQ]
  refine C2_of (L := [(2, p0), (0, v1)]) (by decide +kernel) (Nat.le_of_ble_eq_true rfl) rfl (fun hG => ?_)
  refine T_iload_n (i := 1) (pc' := 1) dX11_get_0 rfl rfl rfl ?_
  have HJ1 : T E miX11_get 1 126 0 0 (fun r S M' => S = S0 ∧ G h M' ∧ Q r M') 17 [(3, 0), (3, 0)] [(0, (if v1 < 0 then ((-1) : Int) else (if (np0 : Int) ≤ v1 then ((-1) : Int) else (M p0 v1))))] S0 M 0 0 := by
    exact T_iret dX11_get_17 rfl ⟨rfl, hG, (by rw [hQ]; exact ⟨rfl, rfl⟩)⟩
  refine T_if_lt (pc' := 16) dX11_get_1 (by decide) (pf := 4) rfl (fun c2 => ?_) (fun c2 => ?_)
  · skip
    refine T_iconst (pc' := 17) dX11_get_16 (by decide) rfl ?_
    exact T_wk (L' := [(3, 0), (3, 0)]) (by have q := HJ1; try simp only [if_pos c2] at q; exact q) ⟨Or.inl rfl, Or.inl rfl, trivial⟩
  · skip
    refine T_iload_n (i := 1) (pc' := 5) dX11_get_4 rfl rfl rfl ?_
    refine T_aload_n (i := 0) (pc' := 6) dX11_get_5 rfl rfl rfl ?_
    refine U_alen (nI := (np0 : Int)) (pc' := 7) dX11_get_6 (by decide) hnp0 hSp0 rfl rfl ?_
    refine T_icmp_ge (pc' := 16) dX11_get_7 (by decide) (pf := 10) rfl (fun c3 => ?_) (fun c3 => ?_)
    · skip
      refine T_iconst (pc' := 17) dX11_get_16 (by decide) rfl ?_
      exact T_wk (L' := [(3, 0), (3, 0)]) (by have q := HJ1; try simp only [if_neg c2] at q; try simp only [if_pos c3] at q; exact q) ⟨Or.inl rfl, Or.inl rfl, trivial⟩
    · skip
      refine T_aload_n (i := 0) (pc' := 11) dX11_get_10 rfl rfl rfl ?_
      refine T_iload_n (i := 1) (pc' := 12) dX11_get_11 rfl rfl rfl ?_
      refine T_iald (pc' := 13) dX11_get_12 h0p0 hSp0 (by omega) (by omega) rfl ?_
      refine T_goto (pc' := 17) dX11_get_13 (by decide) ?_
      exact T_wk (L' := [(3, 0), (3, 0)]) (by have q := HJ1; try simp only [if_neg c2] at q; try simp only [if_neg c3] at q; exact q) ⟨Or.inl rfl, Or.inl rfl, trivial⟩
def lmX1_clear_18 (g : Int) : Nat → Int → Mem → Mem
  | 0, v1, M => (mset (mset (mset (mset (mset (mset (mset (mset (mset M g 9 0) g 10 0) g 11 0) g 12 0) g 13 0) g 14 60) g 15 20) g 16 1) g 17 3)
  | k + 1, v1, M => (lmX1_clear_18 g k (v1 + 1) (fmX11_put M (g + 9) 54 v1 0))
theorem frlX1_clear_18 {g : Int} {q : Int} (hq0 : q ≠ g) (hq1 : q ≠ (g + 9)) : ∀ {k : Nat} {v1 : Int} {M : Mem}, (lmX1_clear_18 g k v1 M) q = M q := by
  intro k
  induction k with
  | zero =>
    intro v1 M
    show (mset (mset (mset (mset (mset (mset (mset (mset (mset M g 9 0) g 10 0) g 11 0) g 12 0) g 13 0) g 14 60) g 15 20) g 16 1) g 17 3) q = M q
    repeat' (first | rfl | rw [mset_p hq0] | rw [mset_p hq1] | rw [mcpy_p hq0] | rw [mcpy_p hq1] | (rw [frX11_put] <;> try assumption) | rw [ite_ap] | split)
  | succ k ih =>
    intro v1 M
    show (lmX1_clear_18 g k (v1 + 1) (fmX11_put M (g + 9) 54 v1 0)) q = M q
    repeat' (first | rfl | rw [mset_p hq0] | rw [mset_p hq1] | rw [mcpy_p hq0] | rw [mcpy_p hq1] | (rw [frX11_put] <;> try assumption) | rw [ite_ap] | split | rw [ih])
theorem glX1_clear_18 {h : Int} {g : Int} (hg : isG g) : ∀ {k : Nat} {v1 : Int} {M : Mem}, G h M → G h (lmX1_clear_18 g k v1 M) := by
  intro k
  induction k with
  | zero =>
    intro v1 M hG
    show G h (mset (mset (mset (mset (mset (mset (mset (mset (mset M g 9 0) g 10 0) g 11 0) g 12 0) g 13 0) g 14 60) g 15 20) g 16 1) g 17 3)
    exact (G_fld (x := g) (i := 17) (y := 3) (shg0 hg) (by decide) (by decide) (pog0 hg) (G_fld (x := g) (i := 16) (y := 1) (shg0 hg) (by decide) (by decide) (pog0 hg) (G_fld (x := g) (i := 15) (y := 20) (shg0 hg) (by decide) (by decide) (pog0 hg) (G_fld (x := g) (i := 14) (y := 60) (shg0 hg) (by decide) (by decide) (pog0 hg) (G_fld (x := g) (i := 13) (y := 0) (shg0 hg) (by decide) (by decide) (pog0 hg) (G_fld (x := g) (i := 12) (y := 0) (shg0 hg) (by decide) (by decide) (pog0 hg) (G_fld (x := g) (i := 11) (y := 0) (shg0 hg) (by decide) (by decide) (pog0 hg) (G_fld (x := g) (i := 10) (y := 0) (shg0 hg) (by decide) (by decide) (pog0 hg) (G_fld (x := g) (i := 9) (y := 0) (shg0 hg) (by decide) (by decide) (pog0 hg) hG)))))))))
  | succ k ih =>
    intro v1 M hG
    show G h (lmX1_clear_18 g k (v1 + 1) (fmX11_put M (g + 9) 54 v1 0))
    exact (ih (gX11_put (h := h) (M := M) (p0 := (g + 9)) (np0 := 54) (v1 := v1) (v2 := 0) (pog9 hg) (shg9 hg) (by decide) hG))
set_option maxRecDepth 100000 in
set_option maxHeartbeats 2000000 in
theorem qX1_clear_18 {E : EV} {h : Int} {Q : Option MV → Mem → Prop} {g : Int} (hg : isG g) : ∀ (k : Nat) (v1 : Int) (M : Mem), 0 ≤ v1 → ((54) - v1).toNat = k → Q none (lmX1_clear_18 g k v1 M) → G h M → TG E miX1_clear 2 h Q 18 [(2, g), (0, v1)] [] M := by
  intro k
  induction k with
  | zero =>
    intro v1 M hv0 hk hQ hG
    have hQ : Q none (mset (mset (mset (mset (mset (mset (mset (mset (mset M g 9 0) g 10 0) g 11 0) g 12 0) g 13 0) g 14 60) g 15 20) g 16 1) g 17 3) := hQ
    refine T_iload_n (i := 1) (pc' := 19) dX1_clear_18 rfl rfl rfl ?_
    refine T_bipush (pc' := 21) dX1_clear_19 rfl (by decide) rfl ?_
    refine T_rng (fun _ z9 _ => ?_)
    have hB : r32 54 := (ok_cons.mp z9).1
    unfold r32 at hB
    refine T_icmp_ge (pc' := 39) dX1_clear_21 (by decide) (pf := 24) rfl (fun c1 => ?_) (fun c1 => ?_)
    · skip
      refine T_aload_n (i := 0) (pc' := 40) dX1_clear_39 rfl rfl rfl ?_
      refine T_iconst (pc' := 41) dX1_clear_40 (by decide) rfl ?_
      refine U_pf (y := 0) (k := 9) (kI := 9) (pc' := 44) dX1_clear_41 rfl cl1 (pog0 hg) (shg0 hg) (by decide) flX1_58 rfl rfl rfl rfl rfl (by decide) (fun z => z) rfl ?_
      refine T_aload_n (i := 0) (pc' := 45) dX1_clear_44 rfl rfl rfl ?_
      refine T_iconst (pc' := 46) dX1_clear_45 (by decide) rfl ?_
      refine U_pf (y := 0) (k := 10) (kI := 10) (pc' := 49) dX1_clear_46 rfl cl1 (pog0 hg) (shg0 hg) (by decide) flX1_61 rfl rfl rfl rfl rfl (by decide) (fun z => z) rfl ?_
      refine T_aload_n (i := 0) (pc' := 50) dX1_clear_49 rfl rfl rfl ?_
      refine T_iconst (pc' := 51) dX1_clear_50 (by decide) rfl ?_
      refine U_pf (y := 0) (k := 11) (kI := 11) (pc' := 54) dX1_clear_51 rfl cl1 (pog0 hg) (shg0 hg) (by decide) flX1_64 rfl rfl rfl rfl rfl (by decide) (fun z => z) rfl ?_
      refine T_aload_n (i := 0) (pc' := 55) dX1_clear_54 rfl rfl rfl ?_
      refine T_iconst (pc' := 56) dX1_clear_55 (by decide) rfl ?_
      refine U_pf (y := 0) (k := 12) (kI := 12) (pc' := 59) dX1_clear_56 rfl cl1 (pog0 hg) (shg0 hg) (by decide) flX1_67 rfl rfl rfl rfl rfl (by decide) (fun z => z) rfl ?_
      refine T_aload_n (i := 0) (pc' := 60) dX1_clear_59 rfl rfl rfl ?_
      refine T_iconst (pc' := 61) dX1_clear_60 (by decide) rfl ?_
      refine U_pf (y := 0) (k := 13) (kI := 13) (pc' := 64) dX1_clear_61 rfl cl1 (pog0 hg) (shg0 hg) (by decide) flX1_70 rfl rfl rfl rfl rfl (by decide) (fun z => z) rfl ?_
      refine T_aload_n (i := 0) (pc' := 65) dX1_clear_64 rfl rfl rfl ?_
      refine T_bipush (pc' := 67) dX1_clear_65 rfl (by decide) rfl ?_
      refine U_pf (y := 60) (k := 14) (kI := 14) (pc' := 70) dX1_clear_67 rfl cl1 (pog0 hg) (shg0 hg) (by decide) flX1_73 rfl rfl rfl rfl rfl (by decide) (fun z => z) rfl ?_
      refine T_aload_n (i := 0) (pc' := 71) dX1_clear_70 rfl rfl rfl ?_
      refine T_bipush (pc' := 73) dX1_clear_71 rfl (by decide) rfl ?_
      refine U_pf (y := 20) (k := 15) (kI := 15) (pc' := 76) dX1_clear_73 rfl cl1 (pog0 hg) (shg0 hg) (by decide) flX1_76 rfl rfl rfl rfl rfl (by decide) (fun z => z) rfl ?_
      refine T_aload_n (i := 0) (pc' := 77) dX1_clear_76 rfl rfl rfl ?_
      refine T_iconst (pc' := 78) dX1_clear_77 (by decide) rfl ?_
      refine U_pf (y := 1) (k := 16) (kI := 16) (pc' := 81) dX1_clear_78 rfl cl1 (pog0 hg) (shg0 hg) (by decide) flX1_79 rfl rfl rfl rfl rfl (by decide) (fun z => z) rfl ?_
      refine T_aload_n (i := 0) (pc' := 82) dX1_clear_81 rfl rfl rfl ?_
      refine T_iconst (pc' := 83) dX1_clear_82 (by decide) rfl ?_
      refine U_pf (y := 3) (k := 17) (kI := 17) (pc' := 86) dX1_clear_83 rfl cl1 (pog0 hg) (shg0 hg) (by decide) flX1_82 rfl rfl rfl rfl rfl (by decide) (fun z => z) rfl ?_
      exact T_vret dX1_clear_86 rfl ⟨rfl, (G_fld (x := g) (i := 17) (y := 3) (shg0 hg) (by decide) (by decide) (pog0 hg) (G_fld (x := g) (i := 16) (y := 1) (shg0 hg) (by decide) (by decide) (pog0 hg) (G_fld (x := g) (i := 15) (y := 20) (shg0 hg) (by decide) (by decide) (pog0 hg) (G_fld (x := g) (i := 14) (y := 60) (shg0 hg) (by decide) (by decide) (pog0 hg) (G_fld (x := g) (i := 13) (y := 0) (shg0 hg) (by decide) (by decide) (pog0 hg) (G_fld (x := g) (i := 12) (y := 0) (shg0 hg) (by decide) (by decide) (pog0 hg) (G_fld (x := g) (i := 11) (y := 0) (shg0 hg) (by decide) (by decide) (pog0 hg) (G_fld (x := g) (i := 10) (y := 0) (shg0 hg) (by decide) (by decide) (pog0 hg) (G_fld (x := g) (i := 9) (y := 0) (shg0 hg) (by decide) (by decide) (pog0 hg) hG))))))))), hQ⟩
    · exact absurd c1 (by omega)
  | succ k ih =>
    intro v1 M hv0 hk hQ hG
    have hQ : Q none (lmX1_clear_18 g k (v1 + 1) (fmX11_put M (g + 9) 54 v1 0)) := hQ
    refine T_iload_n (i := 1) (pc' := 19) dX1_clear_18 rfl rfl rfl ?_
    refine T_bipush (pc' := 21) dX1_clear_19 rfl (by decide) rfl ?_
    refine T_rng (fun _ z9 _ => ?_)
    have hB : r32 54 := (ok_cons.mp z9).1
    unfold r32 at hB
    refine T_icmp_ge (pc' := 39) dX1_clear_21 (by decide) (pf := 24) rfl (fun c1 => ?_) (fun c1 => ?_)
    · exact absurd c1 (by omega)
    · skip
      have hw : wr32 (v1 + 1) = v1 + 1 := wr32_id (by unfold r32; omega)
      refine T_aload_n (i := 0) (pc' := 25) dX1_clear_24 rfl rfl rfl ?_
      refine U_gr (q := (g + 9)) (k := 1) (kI := 1) (pc' := 28) dX1_clear_25 rfl cl1 (pog0 hg) (shg0 hg) (by decide) flX1_18 rfl rfl rfl (grg0_1 hg hG) (pog9 hg) rfl ?_
      refine T_iload_n (i := 1) (pc' := 29) dX1_clear_28 rfl rfl rfl ?_
      refine T_iconst (pc' := 30) dX1_clear_29 (by decide) rfl ?_
      refine T_callSN (av := [(2, (g + 9)), (0, v1), (0, 0)]) (st := []) (d2 := 1) (nc2 := 0) (ns2 := 0) (pc' := 33) dX1_clear_30 rfl mtX11_put mvX11_put mlX1_54 rfl rfl (Nat.le_of_ble_eq_true rfl) (by decide) ⟨by decide, by decide⟩ rfl (pX11_put (E := E) (h := h) (M := M) (p0 := (g + 9)) (np0 := 54) (v1 := v1) (v2 := 0) (pog9 hg) (shg9 hg) (by decide) hG) (kF (st2 := []) rfl (fun hG2 => ?_))
      refine T_iinc (L' := [(2, g), (0, (wr32 (v1 + 1)))]) (pc' := 36) dX1_clear_33 rfl (by decide) rfl rfl ?_
      refine T_goto (pc' := 18) dX1_clear_36 (by decide) ?_
      rw [hw]
      exact T_wk (ih (v1 + 1) _ (by omega) (by omega) hQ (gX11_put (h := h) (M := M) (p0 := (g + 9)) (np0 := 54) (v1 := v1) (v2 := 0) (pog9 hg) (shg9 hg) (by decide) hG)) ⟨Or.inr rfl, Or.inr rfl, trivial⟩
def fmX1_clear (M : Mem) (g : Int) : Mem :=
  (lmX1_clear_18 g 54 0 (mset (mset M (g + 1) 8 0) (g + 1) 7 0))
theorem frX1_clear {M : Mem} {g : Int} {q : Int} (hq0 : q ≠ (g + 1)) (hq1 : q ≠ g) (hq2 : q ≠ (g + 9)) : (fmX1_clear M g) q = M q := by
  unfold fmX1_clear
  repeat' (first | rfl | rw [mset_p hq0] | rw [mset_p hq1] | rw [mset_p hq2] | rw [mcpy_p hq0] | rw [mcpy_p hq1] | rw [mcpy_p hq2] | (rw [frX11_put] <;> try assumption) | (rw [frlX1_clear_18] <;> try assumption) | rw [ite_ap] | split)
theorem gX1_clear {h : Int} {M : Mem} {g : Int} (hg : isG g) (hG : G h M) : G h (fmX1_clear M g) := by
  unfold fmX1_clear
  exact (glX1_clear_18 hg (G_fld (x := (g + 1)) (i := 7) (y := 0) (shg1 hg) (by decide) (by decide) (pog1 hg) (G_fld (x := (g + 1)) (i := 8) (y := 0) (shg1 hg) (by decide) (by decide) (pog1 hg) hG)))
set_option maxRecDepth 100000 in
theorem pX1_clear {E : EV} {h : Int} {M : Mem} {g : Int} (hg : isG g) : C2 E miX1_clear 2 h [(2, g)] M (fun r M' => r = none ∧ M' = (fmX1_clear M g)) := by
  obtain ⟨Q, hQ0⟩ : ∃ Q : Option MV → Mem → Prop, Q = (fun r M' => r = none ∧ M' = (fmX1_clear M g)) := ⟨_, rfl⟩
  rw [← hQ0]
  have hQ : Q none (lmX1_clear_18 g 54 0 (mset (mset M (g + 1) 8 0) (g + 1) 7 0)) := by rw [hQ0]; exact ⟨rfl, rfl⟩
  refine C2_of (L := [(2, g), (3, 0)]) (by decide +kernel) (Nat.le_of_ble_eq_true rfl) rfl (fun hG => ?_)
  refine T_aload_n (i := 0) (pc' := 1) dX1_clear_0 rfl rfl rfl ?_
  refine U_gr (q := (g + 1)) (k := 0) (kI := 0) (pc' := 4) dX1_clear_1 rfl cl1 (pog0 hg) (shg0 hg) (by decide) flX1_12 rfl rfl rfl (grg0_0 hg hG) (pog1 hg) rfl ?_
  refine T_iconst (pc' := 5) dX1_clear_4 (by decide) rfl ?_
  refine U_pfN (y := 0) (k := 8) (kI := 8) (pc' := 8) dX1_clear_5 rfl cl4 (pog1 hg) (shg1 hg) (by decide) flX1_47 rfl rfl rfl rfl rfl (by decide) (fun z => z) rfl ?_
  refine T_aload_n (i := 0) (pc' := 9) dX1_clear_8 rfl rfl rfl ?_
  refine U_gr (q := (g + 1)) (k := 0) (kI := 0) (pc' := 12) dX1_clear_9 rfl cl1 (pog0 hg) (shg0 hg) (by decide) flX1_12 rfl rfl rfl (grg0_0 hg (G_fld (x := (g + 1)) (i := 8) (y := 0) (shg1 hg) (by decide) (by decide) (pog1 hg) hG)) (pog1 hg) rfl ?_
  refine T_iconst (pc' := 13) dX1_clear_12 (by decide) rfl ?_
  refine U_pfN (y := 0) (k := 7) (kI := 7) (pc' := 16) dX1_clear_13 rfl cl4 (pog1 hg) (shg1 hg) (by decide) flX1_51 rfl rfl rfl rfl rfl (by decide) (fun z => z) rfl ?_
  refine T_iconst (pc' := 17) dX1_clear_16 (by decide) rfl ?_
  refine T_istore_n (i := 1) (L' := [(2, g), (0, 0)]) (pc' := 18) dX1_clear_17 rfl (by decide) rfl rfl ?_
  exact T_wk (qX1_clear_18 hg 54 0 _ (by first | decide | omega) rfl hQ (G_fld (x := (g + 1)) (i := 7) (y := 0) (shg1 hg) (by decide) (by decide) (pog1 hg) (G_fld (x := (g + 1)) (i := 8) (y := 0) (shg1 hg) (by decide) (by decide) (pog1 hg) hG))) ⟨Or.inr rfl, Or.inr rfl, trivial⟩
def fX1_isTold (M : Mem) (g : Int) : Int :=
  (if (M g 9) ≤ 0 then (0 : Int) else 1)
set_option maxRecDepth 100000 in
theorem pX1_isTold {E : EV} {h : Int} {M : Mem} {g : Int} (hg : isG g) : C2 E miX1_isTold 1 h [(2, g)] M (fun r M' => r = some (0, (fX1_isTold M g)) ∧ M' = M) := by
  obtain ⟨Q, hQ⟩ : ∃ Q : Option MV → Mem → Prop, Q = (fun r M' => r = some (0, (fX1_isTold M g)) ∧ M' = M) := ⟨_, rfl⟩
  rw [← hQ]
  refine C2_of (L := [(2, g)]) (by decide +kernel) (Nat.le_of_ble_eq_true rfl) rfl (fun hG => ?_)
  refine T_aload_n (i := 0) (pc' := 1) dX1_isTold_0 rfl rfl rfl ?_
  refine U_gf (v := (0, (M g 9))) (k := 9) (kI := 9) (pc' := 4) dX1_isTold_1 rfl cl1 (pog0 hg) (shg0 hg) (by decide) flX1_58 rfl rfl (by decide) rfl rfl ?_
  have HJ1 : T E miX1_isTold 1 126 0 0 (fun r S M' => S = S0 ∧ G h M' ∧ Q r M') 12 [(3, 0)] [(0, (if (M g 9) ≤ 0 then (0 : Int) else 1))] S0 M 0 0 := by
    exact T_zret dX1_isTold_12 rfl (by repeat' (first | apply bi | exact Or.inl rfl | exact Or.inr rfl)) ⟨rfl, hG, (by rw [hQ]; exact ⟨rfl, rfl⟩)⟩
  refine T_if_le (pc' := 11) dX1_isTold_4 (by decide) (pf := 7) rfl (fun c2 => ?_) (fun c2 => ?_)
  · skip
    refine T_iconst (pc' := 12) dX1_isTold_11 (by decide) rfl ?_
    exact T_wk (L' := [(3, 0)]) (by have q := HJ1; try simp only [if_pos c2] at q; exact q) ⟨Or.inl rfl, trivial⟩
  · skip
    refine T_iconst (pc' := 8) dX1_isTold_7 (by decide) rfl ?_
    refine T_goto (pc' := 12) dX1_isTold_8 (by decide) ?_
    exact T_wk (L' := [(3, 0)]) (by have q := HJ1; try simp only [if_neg c2] at q; exact q) ⟨Or.inl rfl, trivial⟩
theorem fbX1_isTold (M : Mem) (g : Int) : (fX1_isTold M g) = 0 ∨ (fX1_isTold M g) = 1 := by
  unfold fX1_isTold
  repeat' (first | apply bi | exact Or.inl rfl | exact Or.inr rfl)
def fX1_cells (M : Mem) (g : Int) : Int :=
  (wr32 ((M g 9) * (M g 10)))
set_option maxRecDepth 100000 in
theorem pX1_cells {E : EV} {h : Int} {M : Mem} {g : Int} (hg : isG g) : C2 E miX1_cells 1 h [(2, g)] M (fun r M' => r = some (0, (fX1_cells M g)) ∧ M' = M) := by
  obtain ⟨Q, hQ⟩ : ∃ Q : Option MV → Mem → Prop, Q = (fun r M' => r = some (0, (fX1_cells M g)) ∧ M' = M) := ⟨_, rfl⟩
  rw [← hQ]
  refine C2_of (L := [(2, g)]) (by decide +kernel) (Nat.le_of_ble_eq_true rfl) rfl (fun hG => ?_)
  refine T_aload_n (i := 0) (pc' := 1) dX1_cells_0 rfl rfl rfl ?_
  refine U_gf (v := (0, (M g 9))) (k := 9) (kI := 9) (pc' := 4) dX1_cells_1 rfl cl1 (pog0 hg) (shg0 hg) (by decide) flX1_58 rfl rfl (by decide) rfl rfl ?_
  refine T_aload_n (i := 0) (pc' := 5) dX1_cells_4 rfl rfl rfl ?_
  refine U_gf (v := (0, (M g 10))) (k := 10) (kI := 10) (pc' := 8) dX1_cells_5 rfl cl1 (pog0 hg) (shg0 hg) (by decide) flX1_61 rfl rfl (by decide) rfl rfl ?_
  refine T_imul (pc' := 9) dX1_cells_8 rfl ?_
  exact T_iret dX1_cells_9 rfl ⟨rfl, hG, (by rw [hQ]; exact ⟨rfl, rfl⟩)⟩
def fX1_isFree (M : Mem) (g : Int) (v1 : Int) : Int :=
  (if v1 < 0 then (0 : Int) else (if (fX1_cells M g) ≤ v1 then (0 : Int) else (if (fX11_get M (g + 9) 54 v1) = 0 then (1 : Int) else 0)))
set_option maxRecDepth 100000 in
theorem pX1_isFree {E : EV} {h : Int} {M : Mem} {g : Int} {v1 : Int} (hg : isG g) : C2 E miX1_isFree 2 h [(2, g), (0, v1)] M (fun r M' => r = some (0, (fX1_isFree M g v1)) ∧ M' = M) := by
  obtain ⟨Q, hQ⟩ : ∃ Q : Option MV → Mem → Prop, Q = (fun r M' => r = some (0, (fX1_isFree M g v1)) ∧ M' = M) := ⟨_, rfl⟩
  rw [← hQ]
  refine C2_of (L := [(2, g), (0, v1)]) (by decide +kernel) (Nat.le_of_ble_eq_true rfl) rfl (fun hG => ?_)
  refine T_iload_n (i := 1) (pc' := 1) dX1_isFree_0 rfl rfl rfl ?_
  have HJ1 : T E miX1_isFree 2 126 0 0 (fun r S M' => S = S0 ∧ G h M' ∧ Q r M') 28 [(3, 0), (3, 0)] [(0, (if v1 < 0 then (0 : Int) else (if (fX1_cells M g) ≤ v1 then (0 : Int) else (if (fX11_get M (g + 9) 54 v1) = 0 then (1 : Int) else 0))))] S0 M 0 0 := by
    exact T_zret dX1_isFree_28 rfl (by repeat' (first | apply bi | exact Or.inl rfl | exact Or.inr rfl)) ⟨rfl, hG, (by rw [hQ]; exact ⟨rfl, rfl⟩)⟩
  refine T_if_lt (pc' := 27) dX1_isFree_1 (by decide) (pf := 4) rfl (fun c2 => ?_) (fun c2 => ?_)
  · skip
    refine T_iconst (pc' := 28) dX1_isFree_27 (by decide) rfl ?_
    exact T_wk (L' := [(3, 0), (3, 0)]) (by have q := HJ1; try simp only [if_pos c2] at q; exact q) ⟨Or.inl rfl, Or.inl rfl, trivial⟩
  · skip
    refine T_iload_n (i := 1) (pc' := 5) dX1_isFree_4 rfl rfl rfl ?_
    refine T_aload_n (i := 0) (pc' := 6) dX1_isFree_5 rfl rfl rfl ?_
    refine T_callV (av := []) (st := [(0, v1)]) (d2 := 1) (nc2 := 0) (ns2 := 0) (pc' := 9) dX1_isFree_6 rfl mtX1_cells mvX1_cells mlX1_85 cl1 (shg0 hg) rfl rfl (Nat.le_of_ble_eq_true rfl) (by decide) ⟨by decide, by decide⟩ rfl (pX1_cells (E := E) (h := h) (M := M) (g := g) hg hG) (kF (st2 := [(0, (fX1_cells M g)), (0, v1)]) rfl (fun hG3 => ?_))
    refine T_icmp_ge (pc' := 27) dX1_isFree_9 (by decide) (pf := 12) rfl (fun c4 => ?_) (fun c4 => ?_)
    · skip
      refine T_iconst (pc' := 28) dX1_isFree_27 (by decide) rfl ?_
      exact T_wk (L' := [(3, 0), (3, 0)]) (by have q := HJ1; try simp only [if_neg c2] at q; try simp only [if_pos c4] at q; exact q) ⟨Or.inl rfl, Or.inl rfl, trivial⟩
    · skip
      refine T_aload_n (i := 0) (pc' := 13) dX1_isFree_12 rfl rfl rfl ?_
      refine U_gr (q := (g + 9)) (k := 1) (kI := 1) (pc' := 16) dX1_isFree_13 rfl cl1 (pog0 hg) (shg0 hg) (by decide) flX1_18 rfl rfl rfl (grg0_1 hg hG) (pog9 hg) rfl ?_
      refine T_iload_n (i := 1) (pc' := 17) dX1_isFree_16 rfl rfl rfl ?_
      refine T_callSN (av := [(2, (g + 9)), (0, v1)]) (st := []) (d2 := 1) (nc2 := 0) (ns2 := 0) (pc' := 20) dX1_isFree_17 rfl mtX11_get mvX11_get mlX1_89 rfl rfl (Nat.le_of_ble_eq_true rfl) (by decide) ⟨by decide, by decide⟩ rfl (pX11_get (E := E) (h := h) (M := M) (p0 := (g + 9)) (np0 := 54) (v1 := v1) (pog9 hg) (shg9 hg) (by decide) hG) (kF (st2 := [(0, (fX11_get M (g + 9) 54 v1))]) rfl (fun hG5 => ?_))
      refine T_if_ne (pc' := 27) dX1_isFree_20 (by decide) (pf := 23) rfl (fun c6 => ?_) (fun c6 => ?_)
      · skip
        refine T_iconst (pc' := 28) dX1_isFree_27 (by decide) rfl ?_
        exact T_wk (L' := [(3, 0), (3, 0)]) (by have q := HJ1; try simp only [if_neg c2] at q; try simp only [if_neg c4] at q; try simp only [if_neg c6] at q; exact q) ⟨Or.inl rfl, Or.inl rfl, trivial⟩
      · skip
        refine T_iconst (pc' := 24) dX1_isFree_23 (by decide) rfl ?_
        refine T_goto (pc' := 28) dX1_isFree_24 (by decide) ?_
        exact T_wk (L' := [(3, 0), (3, 0)]) (by have q := HJ1; try simp only [if_neg c2] at q; try simp only [if_neg c4] at q; try simp only [if_pos c6] at q; exact q) ⟨Or.inl rfl, Or.inl rfl, trivial⟩
theorem fbX1_isFree (M : Mem) (g : Int) (v1 : Int) : (fX1_isFree M g v1) = 0 ∨ (fX1_isFree M g v1) = 1 := by
  unfold fX1_isFree
  repeat' (first | apply bi | exact Or.inl rfl | exact Or.inr rfl)
def fX1_hasGuard (M : Mem) (g : Int) (v1 : Int) : Int :=
  (if v1 < 0 then (0 : Int) else (if (M g 13) ≤ v1 then (0 : Int) else 1))
set_option maxRecDepth 100000 in
theorem pX1_hasGuard {E : EV} {h : Int} {M : Mem} {g : Int} {v1 : Int} (hg : isG g) : C2 E miX1_hasGuard 1 h [(2, g), (0, v1)] M (fun r M' => r = some (0, (fX1_hasGuard M g v1)) ∧ M' = M) := by
  obtain ⟨Q, hQ⟩ : ∃ Q : Option MV → Mem → Prop, Q = (fun r M' => r = some (0, (fX1_hasGuard M g v1)) ∧ M' = M) := ⟨_, rfl⟩
  rw [← hQ]
  refine C2_of (L := [(2, g), (0, v1)]) (by decide +kernel) (Nat.le_of_ble_eq_true rfl) rfl (fun hG => ?_)
  refine T_iload_n (i := 1) (pc' := 1) dX1_hasGuard_0 rfl rfl rfl ?_
  have HJ1 : T E miX1_hasGuard 1 126 0 0 (fun r S M' => S = S0 ∧ G h M' ∧ Q r M') 17 [(3, 0), (3, 0)] [(0, (if v1 < 0 then (0 : Int) else (if (M g 13) ≤ v1 then (0 : Int) else 1)))] S0 M 0 0 := by
    exact T_zret dX1_hasGuard_17 rfl (by repeat' (first | apply bi | exact Or.inl rfl | exact Or.inr rfl)) ⟨rfl, hG, (by rw [hQ]; exact ⟨rfl, rfl⟩)⟩
  refine T_if_lt (pc' := 16) dX1_hasGuard_1 (by decide) (pf := 4) rfl (fun c2 => ?_) (fun c2 => ?_)
  · skip
    refine T_iconst (pc' := 17) dX1_hasGuard_16 (by decide) rfl ?_
    exact T_wk (L' := [(3, 0), (3, 0)]) (by have q := HJ1; try simp only [if_pos c2] at q; exact q) ⟨Or.inl rfl, Or.inl rfl, trivial⟩
  · skip
    refine T_iload_n (i := 1) (pc' := 5) dX1_hasGuard_4 rfl rfl rfl ?_
    refine T_aload_n (i := 0) (pc' := 6) dX1_hasGuard_5 rfl rfl rfl ?_
    refine U_gf (v := (0, (M g 13))) (k := 13) (kI := 13) (pc' := 9) dX1_hasGuard_6 rfl cl1 (pog0 hg) (shg0 hg) (by decide) flX1_70 rfl rfl (by decide) rfl rfl ?_
    refine T_icmp_ge (pc' := 16) dX1_hasGuard_9 (by decide) (pf := 12) rfl (fun c3 => ?_) (fun c3 => ?_)
    · skip
      refine T_iconst (pc' := 17) dX1_hasGuard_16 (by decide) rfl ?_
      exact T_wk (L' := [(3, 0), (3, 0)]) (by have q := HJ1; try simp only [if_neg c2] at q; try simp only [if_pos c3] at q; exact q) ⟨Or.inl rfl, Or.inl rfl, trivial⟩
    · skip
      refine T_iconst (pc' := 13) dX1_hasGuard_12 (by decide) rfl ?_
      refine T_goto (pc' := 17) dX1_hasGuard_13 (by decide) ?_
      exact T_wk (L' := [(3, 0), (3, 0)]) (by have q := HJ1; try simp only [if_neg c2] at q; try simp only [if_neg c3] at q; exact q) ⟨Or.inl rfl, Or.inl rfl, trivial⟩
theorem fbX1_hasGuard (M : Mem) (g : Int) (v1 : Int) : (fX1_hasGuard M g v1) = 0 ∨ (fX1_hasGuard M g v1) = 1 := by
  unfold fX1_hasGuard
  repeat' (first | apply bi | exact Or.inl rfl | exact Or.inr rfl)
def fX1_hasDoor (M : Mem) (g : Int) (v1 : Int) : Int :=
  (if v1 < 0 then (0 : Int) else (if (M g 12) ≤ v1 then (0 : Int) else 1))
set_option maxRecDepth 100000 in
theorem pX1_hasDoor {E : EV} {h : Int} {M : Mem} {g : Int} {v1 : Int} (hg : isG g) : C2 E miX1_hasDoor 1 h [(2, g), (0, v1)] M (fun r M' => r = some (0, (fX1_hasDoor M g v1)) ∧ M' = M) := by
  obtain ⟨Q, hQ⟩ : ∃ Q : Option MV → Mem → Prop, Q = (fun r M' => r = some (0, (fX1_hasDoor M g v1)) ∧ M' = M) := ⟨_, rfl⟩
  rw [← hQ]
  refine C2_of (L := [(2, g), (0, v1)]) (by decide +kernel) (Nat.le_of_ble_eq_true rfl) rfl (fun hG => ?_)
  refine T_iload_n (i := 1) (pc' := 1) dX1_hasDoor_0 rfl rfl rfl ?_
  have HJ1 : T E miX1_hasDoor 1 126 0 0 (fun r S M' => S = S0 ∧ G h M' ∧ Q r M') 17 [(3, 0), (3, 0)] [(0, (if v1 < 0 then (0 : Int) else (if (M g 12) ≤ v1 then (0 : Int) else 1)))] S0 M 0 0 := by
    exact T_zret dX1_hasDoor_17 rfl (by repeat' (first | apply bi | exact Or.inl rfl | exact Or.inr rfl)) ⟨rfl, hG, (by rw [hQ]; exact ⟨rfl, rfl⟩)⟩
  refine T_if_lt (pc' := 16) dX1_hasDoor_1 (by decide) (pf := 4) rfl (fun c2 => ?_) (fun c2 => ?_)
  · skip
    refine T_iconst (pc' := 17) dX1_hasDoor_16 (by decide) rfl ?_
    exact T_wk (L' := [(3, 0), (3, 0)]) (by have q := HJ1; try simp only [if_pos c2] at q; exact q) ⟨Or.inl rfl, Or.inl rfl, trivial⟩
  · skip
    refine T_iload_n (i := 1) (pc' := 5) dX1_hasDoor_4 rfl rfl rfl ?_
    refine T_aload_n (i := 0) (pc' := 6) dX1_hasDoor_5 rfl rfl rfl ?_
    refine U_gf (v := (0, (M g 12))) (k := 12) (kI := 12) (pc' := 9) dX1_hasDoor_6 rfl cl1 (pog0 hg) (shg0 hg) (by decide) flX1_67 rfl rfl (by decide) rfl rfl ?_
    refine T_icmp_ge (pc' := 16) dX1_hasDoor_9 (by decide) (pf := 12) rfl (fun c3 => ?_) (fun c3 => ?_)
    · skip
      refine T_iconst (pc' := 17) dX1_hasDoor_16 (by decide) rfl ?_
      exact T_wk (L' := [(3, 0), (3, 0)]) (by have q := HJ1; try simp only [if_neg c2] at q; try simp only [if_pos c3] at q; exact q) ⟨Or.inl rfl, Or.inl rfl, trivial⟩
    · skip
      refine T_iconst (pc' := 13) dX1_hasDoor_12 (by decide) rfl ?_
      refine T_goto (pc' := 17) dX1_hasDoor_13 (by decide) ?_
      exact T_wk (L' := [(3, 0), (3, 0)]) (by have q := HJ1; try simp only [if_neg c2] at q; try simp only [if_neg c3] at q; exact q) ⟨Or.inl rfl, Or.inl rfl, trivial⟩
theorem fbX1_hasDoor (M : Mem) (g : Int) (v1 : Int) : (fX1_hasDoor M g v1) = 0 ∨ (fX1_hasDoor M g v1) = 1 := by
  unfold fX1_hasDoor
  repeat' (first | apply bi | exact Or.inl rfl | exact Or.inr rfl)
def lX1_wallCells_4 (g : Int) : Nat → Int → Int → Mem → Int
  | 0, v1, v2, M => v1
  | k + 1, v1, v2, M => (lX1_wallCells_4 g k (wr32 (v1 + (fX11_get M (g + 9) 54 v2))) (v2 + 1) M)
set_option maxRecDepth 100000 in
set_option maxHeartbeats 2000000 in
theorem qX1_wallCells_4 {E : EV} {h : Int} {Q : Option MV → Mem → Prop} {g : Int} (hg : isG g) : ∀ (k : Nat) (v1 v2 : Int) (M : Mem), 0 ≤ v2 → (((fX1_cells M g)) - v2).toNat = k → Q (some (0, (lX1_wallCells_4 g k v1 v2 M))) M → G h M → TG E miX1_wallCells 2 h Q 4 [(2, g), (0, v1), (0, v2)] [] M := by
  intro k
  induction k with
  | zero =>
    intro v1 v2 M hv0 hk hQ hG
    have hQ : Q (some (0, v1)) M := hQ
    refine T_iload_n (i := 2) (pc' := 5) dX1_wallCells_4 rfl rfl rfl ?_
    refine T_aload_n (i := 0) (pc' := 6) dX1_wallCells_5 rfl rfl rfl ?_
    refine T_callV (av := []) (st := [(0, v2)]) (d2 := 1) (nc2 := 0) (ns2 := 0) (pc' := 9) dX1_wallCells_6 rfl mtX1_cells mvX1_cells mlX1_85 cl1 (shg0 hg) rfl rfl (Nat.le_of_ble_eq_true rfl) (by decide) ⟨by decide, by decide⟩ rfl (pX1_cells (E := E) (h := h) (M := M) (g := g) hg hG) (kF (st2 := [(0, (fX1_cells M g)), (0, v2)]) rfl (fun hG1 => ?_))
    refine T_rng (fun _ z9 _ => ?_)
    have hB : r32 (fX1_cells M g) := (ok_cons.mp z9).1
    unfold r32 at hB
    refine T_icmp_ge (pc' := 29) dX1_wallCells_9 (by decide) (pf := 12) rfl (fun c2 => ?_) (fun c2 => ?_)
    · skip
      refine T_iload_n (i := 1) (pc' := 30) dX1_wallCells_29 rfl rfl rfl ?_
      exact T_iret dX1_wallCells_30 rfl ⟨rfl, hG, hQ⟩
    · exact absurd c2 (by omega)
  | succ k ih =>
    intro v1 v2 M hv0 hk hQ hG
    have hQ : Q (some (0, (lX1_wallCells_4 g k (wr32 (v1 + (fX11_get M (g + 9) 54 v2))) (v2 + 1) M))) M := hQ
    refine T_iload_n (i := 2) (pc' := 5) dX1_wallCells_4 rfl rfl rfl ?_
    refine T_aload_n (i := 0) (pc' := 6) dX1_wallCells_5 rfl rfl rfl ?_
    refine T_callV (av := []) (st := [(0, v2)]) (d2 := 1) (nc2 := 0) (ns2 := 0) (pc' := 9) dX1_wallCells_6 rfl mtX1_cells mvX1_cells mlX1_85 cl1 (shg0 hg) rfl rfl (Nat.le_of_ble_eq_true rfl) (by decide) ⟨by decide, by decide⟩ rfl (pX1_cells (E := E) (h := h) (M := M) (g := g) hg hG) (kF (st2 := [(0, (fX1_cells M g)), (0, v2)]) rfl (fun hG1 => ?_))
    refine T_rng (fun _ z9 _ => ?_)
    have hB : r32 (fX1_cells M g) := (ok_cons.mp z9).1
    unfold r32 at hB
    refine T_icmp_ge (pc' := 29) dX1_wallCells_9 (by decide) (pf := 12) rfl (fun c2 => ?_) (fun c2 => ?_)
    · exact absurd c2 (by omega)
    · skip
      have hw : wr32 (v2 + 1) = v2 + 1 := wr32_id (by unfold r32; omega)
      refine T_iload_n (i := 1) (pc' := 13) dX1_wallCells_12 rfl rfl rfl ?_
      refine T_aload_n (i := 0) (pc' := 14) dX1_wallCells_13 rfl rfl rfl ?_
      refine U_gr (q := (g + 9)) (k := 1) (kI := 1) (pc' := 17) dX1_wallCells_14 rfl cl1 (pog0 hg) (shg0 hg) (by decide) flX1_18 rfl rfl rfl (grg0_1 hg hG) (pog9 hg) rfl ?_
      refine T_iload_n (i := 2) (pc' := 18) dX1_wallCells_17 rfl rfl rfl ?_
      refine T_callSN (av := [(2, (g + 9)), (0, v2)]) (st := [(0, v1)]) (d2 := 1) (nc2 := 0) (ns2 := 0) (pc' := 21) dX1_wallCells_18 rfl mtX11_get mvX11_get mlX1_89 rfl rfl (Nat.le_of_ble_eq_true rfl) (by decide) ⟨by decide, by decide⟩ rfl (pX11_get (E := E) (h := h) (M := M) (p0 := (g + 9)) (np0 := 54) (v1 := v2) (pog9 hg) (shg9 hg) (by decide) hG) (kF (st2 := [(0, (fX11_get M (g + 9) 54 v2)), (0, v1)]) rfl (fun hG3 => ?_))
      refine T_iadd (pc' := 22) dX1_wallCells_21 rfl ?_
      refine T_istore_n (i := 1) (L' := [(2, g), (0, (wr32 (v1 + (fX11_get M (g + 9) 54 v2)))), (0, v2)]) (pc' := 23) dX1_wallCells_22 rfl (by decide) rfl rfl ?_
      refine T_iinc (L' := [(2, g), (0, (wr32 (v1 + (fX11_get M (g + 9) 54 v2)))), (0, (wr32 (v2 + 1)))]) (pc' := 26) dX1_wallCells_23 rfl (by decide) rfl rfl ?_
      refine T_goto (pc' := 4) dX1_wallCells_26 (by decide) ?_
      rw [hw]
      exact T_wk (ih _ (v2 + 1) _ (by omega) (by omega) hQ hG) ⟨Or.inr rfl, Or.inr rfl, Or.inr rfl, trivial⟩
def fX1_wallCells (M : Mem) (g : Int) : Int :=
  (lX1_wallCells_4 g ((((fX1_cells M g)) : Int) - 0).toNat 0 0 M)
set_option maxRecDepth 100000 in
theorem pX1_wallCells {E : EV} {h : Int} {M : Mem} {g : Int} (hg : isG g) : C2 E miX1_wallCells 2 h [(2, g)] M (fun r M' => r = some (0, (fX1_wallCells M g)) ∧ M' = M) := by
  obtain ⟨Q, hQ0⟩ : ∃ Q : Option MV → Mem → Prop, Q = (fun r M' => r = some (0, (fX1_wallCells M g)) ∧ M' = M) := ⟨_, rfl⟩
  rw [← hQ0]
  have hQ : Q (some (0, (lX1_wallCells_4 g ((((fX1_cells M g)) : Int) - 0).toNat 0 0 M))) M := by rw [hQ0]; exact ⟨rfl, rfl⟩
  refine C2_of (L := [(2, g), (3, 0), (3, 0)]) (by decide +kernel) (Nat.le_of_ble_eq_true rfl) rfl (fun hG => ?_)
  refine T_iconst (pc' := 1) dX1_wallCells_0 (by decide) rfl ?_
  refine T_istore_n (i := 1) (L' := [(2, g), (0, 0), (3, 0)]) (pc' := 2) dX1_wallCells_1 rfl (by decide) rfl rfl ?_
  refine T_iconst (pc' := 3) dX1_wallCells_2 (by decide) rfl ?_
  refine T_istore_n (i := 2) (L' := [(2, g), (0, 0), (0, 0)]) (pc' := 4) dX1_wallCells_3 rfl (by decide) rfl rfl ?_
  exact T_wk (qX1_wallCells_4 hg _ 0 0 _ (by first | decide | omega) rfl hQ hG) ⟨Or.inr rfl, Or.inr rfl, Or.inr rfl, trivial⟩
def lX1_closedDoors_4 (g : Int) : Nat → Int → Int → Mem → Int
  | 0, v1, v2, M => v1
  | k + 1, v1, v2, M => (lX1_closedDoors_4 g k (wr32 (v1 + (fX11_get M (g + 11) 6 v2))) (v2 + 1) M)
set_option maxRecDepth 100000 in
set_option maxHeartbeats 2000000 in
theorem qX1_closedDoors_4 {E : EV} {h : Int} {Q : Option MV → Mem → Prop} {g : Int} (hg : isG g) : ∀ (k : Nat) (v1 v2 : Int) (M : Mem), 0 ≤ v2 → (((M g 12)) - v2).toNat = k → Q (some (0, (lX1_closedDoors_4 g k v1 v2 M))) M → G h M → TG E miX1_closedDoors 2 h Q 4 [(2, g), (0, v1), (0, v2)] [] M := by
  intro k
  induction k with
  | zero =>
    intro v1 v2 M hv0 hk hQ hG
    have hQ : Q (some (0, v1)) M := hQ
    refine T_iload_n (i := 2) (pc' := 5) dX1_closedDoors_4 rfl rfl rfl ?_
    refine T_aload_n (i := 0) (pc' := 6) dX1_closedDoors_5 rfl rfl rfl ?_
    refine U_gf (v := (0, (M g 12))) (k := 12) (kI := 12) (pc' := 9) dX1_closedDoors_6 rfl cl1 (pog0 hg) (shg0 hg) (by decide) flX1_67 rfl rfl (by decide) rfl rfl ?_
    refine T_rng (fun _ z9 _ => ?_)
    have hB : r32 (M g 12) := (ok_cons.mp z9).1
    unfold r32 at hB
    refine T_icmp_ge (pc' := 29) dX1_closedDoors_9 (by decide) (pf := 12) rfl (fun c1 => ?_) (fun c1 => ?_)
    · skip
      refine T_iload_n (i := 1) (pc' := 30) dX1_closedDoors_29 rfl rfl rfl ?_
      exact T_iret dX1_closedDoors_30 rfl ⟨rfl, hG, hQ⟩
    · exact absurd c1 (by omega)
  | succ k ih =>
    intro v1 v2 M hv0 hk hQ hG
    have hQ : Q (some (0, (lX1_closedDoors_4 g k (wr32 (v1 + (fX11_get M (g + 11) 6 v2))) (v2 + 1) M))) M := hQ
    refine T_iload_n (i := 2) (pc' := 5) dX1_closedDoors_4 rfl rfl rfl ?_
    refine T_aload_n (i := 0) (pc' := 6) dX1_closedDoors_5 rfl rfl rfl ?_
    refine U_gf (v := (0, (M g 12))) (k := 12) (kI := 12) (pc' := 9) dX1_closedDoors_6 rfl cl1 (pog0 hg) (shg0 hg) (by decide) flX1_67 rfl rfl (by decide) rfl rfl ?_
    refine T_rng (fun _ z9 _ => ?_)
    have hB : r32 (M g 12) := (ok_cons.mp z9).1
    unfold r32 at hB
    refine T_icmp_ge (pc' := 29) dX1_closedDoors_9 (by decide) (pf := 12) rfl (fun c1 => ?_) (fun c1 => ?_)
    · exact absurd c1 (by omega)
    · skip
      have hw : wr32 (v2 + 1) = v2 + 1 := wr32_id (by unfold r32; omega)
      refine T_iload_n (i := 1) (pc' := 13) dX1_closedDoors_12 rfl rfl rfl ?_
      refine T_aload_n (i := 0) (pc' := 14) dX1_closedDoors_13 rfl rfl rfl ?_
      refine U_gr (q := (g + 11)) (k := 3) (kI := 3) (pc' := 17) dX1_closedDoors_14 rfl cl1 (pog0 hg) (shg0 hg) (by decide) flX1_25 rfl rfl rfl (grg0_3 hg hG) (pog11 hg) rfl ?_
      refine T_iload_n (i := 2) (pc' := 18) dX1_closedDoors_17 rfl rfl rfl ?_
      refine T_callSN (av := [(2, (g + 11)), (0, v2)]) (st := [(0, v1)]) (d2 := 1) (nc2 := 0) (ns2 := 0) (pc' := 21) dX1_closedDoors_18 rfl mtX11_get mvX11_get mlX1_89 rfl rfl (Nat.le_of_ble_eq_true rfl) (by decide) ⟨by decide, by decide⟩ rfl (pX11_get (E := E) (h := h) (M := M) (p0 := (g + 11)) (np0 := 6) (v1 := v2) (pog11 hg) (shg11 hg) (by decide) hG) (kF (st2 := [(0, (fX11_get M (g + 11) 6 v2)), (0, v1)]) rfl (fun hG2 => ?_))
      refine T_iadd (pc' := 22) dX1_closedDoors_21 rfl ?_
      refine T_istore_n (i := 1) (L' := [(2, g), (0, (wr32 (v1 + (fX11_get M (g + 11) 6 v2)))), (0, v2)]) (pc' := 23) dX1_closedDoors_22 rfl (by decide) rfl rfl ?_
      refine T_iinc (L' := [(2, g), (0, (wr32 (v1 + (fX11_get M (g + 11) 6 v2)))), (0, (wr32 (v2 + 1)))]) (pc' := 26) dX1_closedDoors_23 rfl (by decide) rfl rfl ?_
      refine T_goto (pc' := 4) dX1_closedDoors_26 (by decide) ?_
      rw [hw]
      exact T_wk (ih _ (v2 + 1) _ (by omega) (by omega) hQ hG) ⟨Or.inr rfl, Or.inr rfl, Or.inr rfl, trivial⟩
def fX1_closedDoors (M : Mem) (g : Int) : Int :=
  (lX1_closedDoors_4 g ((((M g 12)) : Int) - 0).toNat 0 0 M)
set_option maxRecDepth 100000 in
theorem pX1_closedDoors {E : EV} {h : Int} {M : Mem} {g : Int} (hg : isG g) : C2 E miX1_closedDoors 2 h [(2, g)] M (fun r M' => r = some (0, (fX1_closedDoors M g)) ∧ M' = M) := by
  obtain ⟨Q, hQ0⟩ : ∃ Q : Option MV → Mem → Prop, Q = (fun r M' => r = some (0, (fX1_closedDoors M g)) ∧ M' = M) := ⟨_, rfl⟩
  rw [← hQ0]
  have hQ : Q (some (0, (lX1_closedDoors_4 g ((((M g 12)) : Int) - 0).toNat 0 0 M))) M := by rw [hQ0]; exact ⟨rfl, rfl⟩
  refine C2_of (L := [(2, g), (3, 0), (3, 0)]) (by decide +kernel) (Nat.le_of_ble_eq_true rfl) rfl (fun hG => ?_)
  refine T_iconst (pc' := 1) dX1_closedDoors_0 (by decide) rfl ?_
  refine T_istore_n (i := 1) (L' := [(2, g), (0, 0), (3, 0)]) (pc' := 2) dX1_closedDoors_1 rfl (by decide) rfl rfl ?_
  refine T_iconst (pc' := 3) dX1_closedDoors_2 (by decide) rfl ?_
  refine T_istore_n (i := 2) (L' := [(2, g), (0, 0), (0, 0)]) (pc' := 4) dX1_closedDoors_3 rfl (by decide) rfl rfl ?_
  exact T_wk (qX1_closedDoors_4 hg _ 0 0 _ (by first | decide | omega) rfl hQ hG) ⟨Or.inr rfl, Or.inr rfl, Or.inr rfl, trivial⟩
def lX1_doorIn_2 (g : Int) : Nat → Int → Int → Mem → Int
  | 0, v1, v2, M => (-1)
  | k + 1, v1, v2, M => (if (fX11_get M (g + 10) 6 v2) = v1 then v2 else (lX1_doorIn_2 g k v1 (v2 + 1) M))
set_option maxRecDepth 100000 in
set_option maxHeartbeats 2000000 in
theorem qX1_doorIn_2 {E : EV} {h : Int} {Q : Option MV → Mem → Prop} {g : Int} (hg : isG g) : ∀ (k : Nat) (v1 v2 : Int) (M : Mem), 0 ≤ v2 → (((M g 12)) - v2).toNat = k → Q (some (0, (lX1_doorIn_2 g k v1 v2 M))) M → G h M → TG E miX1_doorIn 2 h Q 2 [(2, g), (0, v1), (0, v2)] [] M := by
  intro k
  induction k with
  | zero =>
    intro v1 v2 M hv0 hk hQ hG
    have hQ : Q (some (0, (-1))) M := hQ
    refine T_iload_n (i := 2) (pc' := 3) dX1_doorIn_2 rfl rfl rfl ?_
    refine T_aload_n (i := 0) (pc' := 4) dX1_doorIn_3 rfl rfl rfl ?_
    refine U_gf (v := (0, (M g 12))) (k := 12) (kI := 12) (pc' := 7) dX1_doorIn_4 rfl cl1 (pog0 hg) (shg0 hg) (by decide) flX1_67 rfl rfl (by decide) rfl rfl ?_
    refine T_rng (fun _ z9 _ => ?_)
    have hB : r32 (M g 12) := (ok_cons.mp z9).1
    unfold r32 at hB
    refine T_icmp_ge (pc' := 30) dX1_doorIn_7 (by decide) (pf := 10) rfl (fun c1 => ?_) (fun c1 => ?_)
    · skip
      refine T_iconst (pc' := 31) dX1_doorIn_30 (by decide) rfl ?_
      exact T_iret dX1_doorIn_31 rfl ⟨rfl, hG, hQ⟩
    · exact absurd c1 (by omega)
  | succ k ih =>
    intro v1 v2 M hv0 hk hQ hG
    have hQ : Q (some (0, (if (fX11_get M (g + 10) 6 v2) = v1 then v2 else (lX1_doorIn_2 g k v1 (v2 + 1) M)))) M := hQ
    refine T_iload_n (i := 2) (pc' := 3) dX1_doorIn_2 rfl rfl rfl ?_
    refine T_aload_n (i := 0) (pc' := 4) dX1_doorIn_3 rfl rfl rfl ?_
    refine U_gf (v := (0, (M g 12))) (k := 12) (kI := 12) (pc' := 7) dX1_doorIn_4 rfl cl1 (pog0 hg) (shg0 hg) (by decide) flX1_67 rfl rfl (by decide) rfl rfl ?_
    refine T_rng (fun _ z9 _ => ?_)
    have hB : r32 (M g 12) := (ok_cons.mp z9).1
    unfold r32 at hB
    refine T_icmp_ge (pc' := 30) dX1_doorIn_7 (by decide) (pf := 10) rfl (fun c1 => ?_) (fun c1 => ?_)
    · exact absurd c1 (by omega)
    · skip
      have hw : wr32 (v2 + 1) = v2 + 1 := wr32_id (by unfold r32; omega)
      refine T_aload_n (i := 0) (pc' := 11) dX1_doorIn_10 rfl rfl rfl ?_
      refine U_gr (q := (g + 10)) (k := 2) (kI := 2) (pc' := 14) dX1_doorIn_11 rfl cl1 (pog0 hg) (shg0 hg) (by decide) flX1_22 rfl rfl rfl (grg0_2 hg hG) (pog10 hg) rfl ?_
      refine T_iload_n (i := 2) (pc' := 15) dX1_doorIn_14 rfl rfl rfl ?_
      refine T_callSN (av := [(2, (g + 10)), (0, v2)]) (st := []) (d2 := 1) (nc2 := 0) (ns2 := 0) (pc' := 18) dX1_doorIn_15 rfl mtX11_get mvX11_get mlX1_89 rfl rfl (Nat.le_of_ble_eq_true rfl) (by decide) ⟨by decide, by decide⟩ rfl (pX11_get (E := E) (h := h) (M := M) (p0 := (g + 10)) (np0 := 6) (v1 := v2) (pog10 hg) (shg10 hg) (by decide) hG) (kF (st2 := [(0, (fX11_get M (g + 10) 6 v2))]) rfl (fun hG2 => ?_))
      refine T_iload_n (i := 1) (pc' := 19) dX1_doorIn_18 rfl rfl rfl ?_
      refine T_icmp_ne (pc' := 24) dX1_doorIn_19 (by decide) (pf := 22) rfl (fun c3 => ?_) (fun c3 => ?_)
      · skip
        refine T_iinc (L' := [(2, g), (0, v1), (0, (wr32 (v2 + 1)))]) (pc' := 27) dX1_doorIn_24 rfl (by decide) rfl rfl ?_
        refine T_goto (pc' := 2) dX1_doorIn_27 (by decide) ?_
        rw [hw]
        exact T_wk (ih _ (v2 + 1) _ (by omega) (by omega) (by have q := hQ; try simp only [if_neg c3] at q; exact q) hG) ⟨Or.inr rfl, Or.inr rfl, Or.inr rfl, trivial⟩
      · skip
        refine T_iload_n (i := 2) (pc' := 23) dX1_doorIn_22 rfl rfl rfl ?_
        exact T_iret dX1_doorIn_23 rfl ⟨rfl, hG, (by have q := hQ; try simp only [if_pos c3] at q; exact q)⟩
def fX1_doorIn (M : Mem) (g : Int) (v1 : Int) : Int :=
  (lX1_doorIn_2 g ((((M g 12)) : Int) - 0).toNat v1 0 M)
set_option maxRecDepth 100000 in
theorem pX1_doorIn {E : EV} {h : Int} {M : Mem} {g : Int} {v1 : Int} (hg : isG g) : C2 E miX1_doorIn 2 h [(2, g), (0, v1)] M (fun r M' => r = some (0, (fX1_doorIn M g v1)) ∧ M' = M) := by
  obtain ⟨Q, hQ0⟩ : ∃ Q : Option MV → Mem → Prop, Q = (fun r M' => r = some (0, (fX1_doorIn M g v1)) ∧ M' = M) := ⟨_, rfl⟩
  rw [← hQ0]
  have hQ : Q (some (0, (lX1_doorIn_2 g ((((M g 12)) : Int) - 0).toNat v1 0 M))) M := by rw [hQ0]; exact ⟨rfl, rfl⟩
  refine C2_of (L := [(2, g), (0, v1), (3, 0)]) (by decide +kernel) (Nat.le_of_ble_eq_true rfl) rfl (fun hG => ?_)
  refine T_iconst (pc' := 1) dX1_doorIn_0 (by decide) rfl ?_
  refine T_istore_n (i := 2) (L' := [(2, g), (0, v1), (0, 0)]) (pc' := 2) dX1_doorIn_1 rfl (by decide) rfl rfl ?_
  exact T_wk (qX1_doorIn_2 hg _ v1 0 _ (by first | decide | omega) rfl hQ hG) ⟨Or.inr rfl, Or.inr rfl, Or.inr rfl, trivial⟩
def fX1_openDoorIn (M : Mem) (g : Int) (v1 : Int) : Int :=
  (if (fX1_doorIn M g v1) = (-1) then ((-1) : Int) else (if (fX11_get M (g + 11) 6 (fX1_doorIn M g v1)) = 0 then (fX1_doorIn M g v1) else (-1)))
set_option maxRecDepth 100000 in
theorem pX1_openDoorIn {E : EV} {h : Int} {M : Mem} {g : Int} {v1 : Int} (hg : isG g) : C2 E miX1_openDoorIn 3 h [(2, g), (0, v1)] M (fun r M' => r = some (0, (fX1_openDoorIn M g v1)) ∧ M' = M) := by
  obtain ⟨Q, hQ⟩ : ∃ Q : Option MV → Mem → Prop, Q = (fun r M' => r = some (0, (fX1_openDoorIn M g v1)) ∧ M' = M) := ⟨_, rfl⟩
  rw [← hQ]
  refine C2_of (L := [(2, g), (0, v1), (3, 0)]) (by decide +kernel) (Nat.le_of_ble_eq_true rfl) rfl (fun hG => ?_)
  refine T_aload_n (i := 0) (pc' := 1) dX1_openDoorIn_0 rfl rfl rfl ?_
  refine T_iload_n (i := 1) (pc' := 2) dX1_openDoorIn_1 rfl rfl rfl ?_
  refine T_callV (av := [(0, v1)]) (st := []) (d2 := 2) (nc2 := 0) (ns2 := 0) (pc' := 5) dX1_openDoorIn_2 rfl mtX1_doorIn mvX1_doorIn mlX1_93 cl1 (shg0 hg) rfl rfl (Nat.le_of_ble_eq_true rfl) (by decide) ⟨by decide, by decide⟩ rfl (pX1_doorIn (E := E) (h := h) (M := M) (g := g) (v1 := v1) hg hG) (kF (st2 := [(0, (fX1_doorIn M g v1))]) rfl (fun hG1 => ?_))
  refine T_istore_n (i := 2) (L' := [(2, g), (0, v1), (0, (fX1_doorIn M g v1))]) (pc' := 6) dX1_openDoorIn_5 rfl (by decide) rfl rfl ?_
  refine T_iload_n (i := 2) (pc' := 7) dX1_openDoorIn_6 rfl rfl rfl ?_
  refine T_iconst (pc' := 8) dX1_openDoorIn_7 (by decide) rfl ?_
  have HJ2 : T E miX1_openDoorIn 3 126 0 0 (fun r S M' => S = S0 ∧ G h M' ∧ Q r M') 27 [(3, 0), (3, 0), (3, 0)] [(0, (if (fX1_doorIn M g v1) = (-1) then ((-1) : Int) else (if (fX11_get M (g + 11) 6 (fX1_doorIn M g v1)) = 0 then (fX1_doorIn M g v1) else (-1))))] S0 M 0 0 := by
    exact T_iret dX1_openDoorIn_27 rfl ⟨rfl, hG, (by rw [hQ]; exact ⟨rfl, rfl⟩)⟩
  refine T_icmp_eq (pc' := 26) dX1_openDoorIn_8 (by decide) (pf := 11) rfl (fun c3 => ?_) (fun c3 => ?_)
  · skip
    refine T_iconst (pc' := 27) dX1_openDoorIn_26 (by decide) rfl ?_
    exact T_wk (L' := [(3, 0), (3, 0), (3, 0)]) (by have q := HJ2; try simp only [if_pos c3] at q; exact q) ⟨Or.inl rfl, Or.inl rfl, Or.inl rfl, trivial⟩
  · skip
    refine T_aload_n (i := 0) (pc' := 12) dX1_openDoorIn_11 rfl rfl rfl ?_
    refine U_gr (q := (g + 11)) (k := 3) (kI := 3) (pc' := 15) dX1_openDoorIn_12 rfl cl1 (pog0 hg) (shg0 hg) (by decide) flX1_25 rfl rfl rfl (grg0_3 hg hG) (pog11 hg) rfl ?_
    refine T_iload_n (i := 2) (pc' := 16) dX1_openDoorIn_15 rfl rfl rfl ?_
    refine T_callSN (av := [(2, (g + 11)), (0, (fX1_doorIn M g v1))]) (st := []) (d2 := 1) (nc2 := 0) (ns2 := 0) (pc' := 19) dX1_openDoorIn_16 rfl mtX11_get mvX11_get mlX1_89 rfl rfl (Nat.le_of_ble_eq_true rfl) (by decide) ⟨by decide, by decide⟩ rfl (pX11_get (E := E) (h := h) (M := M) (p0 := (g + 11)) (np0 := 6) (v1 := (fX1_doorIn M g v1)) (pog11 hg) (shg11 hg) (by decide) hG) (kF (st2 := [(0, (fX11_get M (g + 11) 6 (fX1_doorIn M g v1)))]) rfl (fun hG4 => ?_))
    refine T_if_ne (pc' := 26) dX1_openDoorIn_19 (by decide) (pf := 22) rfl (fun c5 => ?_) (fun c5 => ?_)
    · skip
      refine T_iconst (pc' := 27) dX1_openDoorIn_26 (by decide) rfl ?_
      exact T_wk (L' := [(3, 0), (3, 0), (3, 0)]) (by have q := HJ2; try simp only [if_neg c3] at q; try simp only [if_neg c5] at q; exact q) ⟨Or.inl rfl, Or.inl rfl, Or.inl rfl, trivial⟩
    · skip
      refine T_iload_n (i := 2) (pc' := 23) dX1_openDoorIn_22 rfl rfl rfl ?_
      refine T_goto (pc' := 27) dX1_openDoorIn_23 (by decide) ?_
      exact T_wk (L' := [(3, 0), (3, 0), (3, 0)]) (by have q := HJ2; try simp only [if_neg c3] at q; try simp only [if_pos c5] at q; exact q) ⟨Or.inl rfl, Or.inl rfl, Or.inl rfl, trivial⟩
def lX1_isTaken_38 (g : Int) : Nat → Int → Int → Mem → Int
  | 0, v1, v2, M => 0
  | k + 1, v1, v2, M => (if (fX11_get M (g + 13) 4 v2) = v1 then 1 else (lX1_isTaken_38 g k v1 (v2 + 1) M))
set_option maxRecDepth 100000 in
set_option maxHeartbeats 2000000 in
theorem qX1_isTaken_38 {E : EV} {h : Int} {Q : Option MV → Mem → Prop} {g : Int} (hg : isG g) : ∀ (k : Nat) (v1 v2 : Int) (M : Mem), 0 ≤ v2 → (((M g 13)) - v2).toNat = k → Q (some (0, (lX1_isTaken_38 g k v1 v2 M))) M → G h M → TG E miX1_isTaken 2 h Q 38 [(2, g), (0, v1), (0, v2)] [] M := by
  intro k
  induction k with
  | zero =>
    intro v1 v2 M hv0 hk hQ hG
    have hQ : Q (some (0, 0)) M := hQ
    refine T_iload_n (i := 2) (pc' := 39) dX1_isTaken_38 rfl rfl rfl ?_
    refine T_aload_n (i := 0) (pc' := 40) dX1_isTaken_39 rfl rfl rfl ?_
    refine U_gf (v := (0, (M g 13))) (k := 13) (kI := 13) (pc' := 43) dX1_isTaken_40 rfl cl1 (pog0 hg) (shg0 hg) (by decide) flX1_70 rfl rfl (by decide) rfl rfl ?_
    refine T_rng (fun _ z9 _ => ?_)
    have hB : r32 (M g 13) := (ok_cons.mp z9).1
    unfold r32 at hB
    refine T_icmp_ge (pc' := 66) dX1_isTaken_43 (by decide) (pf := 46) rfl (fun c1 => ?_) (fun c1 => ?_)
    · skip
      refine T_iconst (pc' := 67) dX1_isTaken_66 (by decide) rfl ?_
      exact T_zret dX1_isTaken_67 rfl (by decide) ⟨rfl, hG, hQ⟩
    · exact absurd c1 (by omega)
  | succ k ih =>
    intro v1 v2 M hv0 hk hQ hG
    have hQ : Q (some (0, (if (fX11_get M (g + 13) 4 v2) = v1 then 1 else (lX1_isTaken_38 g k v1 (v2 + 1) M)))) M := hQ
    refine T_iload_n (i := 2) (pc' := 39) dX1_isTaken_38 rfl rfl rfl ?_
    refine T_aload_n (i := 0) (pc' := 40) dX1_isTaken_39 rfl rfl rfl ?_
    refine U_gf (v := (0, (M g 13))) (k := 13) (kI := 13) (pc' := 43) dX1_isTaken_40 rfl cl1 (pog0 hg) (shg0 hg) (by decide) flX1_70 rfl rfl (by decide) rfl rfl ?_
    refine T_rng (fun _ z9 _ => ?_)
    have hB : r32 (M g 13) := (ok_cons.mp z9).1
    unfold r32 at hB
    refine T_icmp_ge (pc' := 66) dX1_isTaken_43 (by decide) (pf := 46) rfl (fun c1 => ?_) (fun c1 => ?_)
    · exact absurd c1 (by omega)
    · skip
      have hw : wr32 (v2 + 1) = v2 + 1 := wr32_id (by unfold r32; omega)
      refine T_aload_n (i := 0) (pc' := 47) dX1_isTaken_46 rfl rfl rfl ?_
      refine U_gr (q := (g + 13)) (k := 5) (kI := 5) (pc' := 50) dX1_isTaken_47 rfl cl1 (pog0 hg) (shg0 hg) (by decide) flX1_31 rfl rfl rfl (grg0_5 hg hG) (pog13 hg) rfl ?_
      refine T_iload_n (i := 2) (pc' := 51) dX1_isTaken_50 rfl rfl rfl ?_
      refine T_callSN (av := [(2, (g + 13)), (0, v2)]) (st := []) (d2 := 1) (nc2 := 0) (ns2 := 0) (pc' := 54) dX1_isTaken_51 rfl mtX11_get mvX11_get mlX1_89 rfl rfl (Nat.le_of_ble_eq_true rfl) (by decide) ⟨by decide, by decide⟩ rfl (pX11_get (E := E) (h := h) (M := M) (p0 := (g + 13)) (np0 := 4) (v1 := v2) (pog13 hg) (shg13 hg) (by decide) hG) (kF (st2 := [(0, (fX11_get M (g + 13) 4 v2))]) rfl (fun hG2 => ?_))
      refine T_iload_n (i := 1) (pc' := 55) dX1_isTaken_54 rfl rfl rfl ?_
      refine T_icmp_ne (pc' := 60) dX1_isTaken_55 (by decide) (pf := 58) rfl (fun c3 => ?_) (fun c3 => ?_)
      · skip
        refine T_iinc (L' := [(2, g), (0, v1), (0, (wr32 (v2 + 1)))]) (pc' := 63) dX1_isTaken_60 rfl (by decide) rfl rfl ?_
        refine T_goto (pc' := 38) dX1_isTaken_63 (by decide) ?_
        rw [hw]
        exact T_wk (ih _ (v2 + 1) _ (by omega) (by omega) (by have q := hQ; try simp only [if_neg c3] at q; exact q) hG) ⟨Or.inr rfl, Or.inr rfl, Or.inr rfl, trivial⟩
      · skip
        refine T_iconst (pc' := 59) dX1_isTaken_58 (by decide) rfl ?_
        exact T_zret dX1_isTaken_59 rfl (by decide) ⟨rfl, hG, (by have q := hQ; try simp only [if_pos c3] at q; exact q)⟩
def lX1_isTaken_2 (g : Int) : Nat → Int → Int → Mem → Int
  | 0, v1, v2, M => (lX1_isTaken_38 g ((((M g 13)) : Int) - 0).toNat v1 0 M)
  | k + 1, v1, v2, M => (if (fX11_get M (g + 3) 9 v2) = v1 then 1 else (lX1_isTaken_2 g k v1 (v2 + 1) M))
set_option maxRecDepth 100000 in
set_option maxHeartbeats 2000000 in
theorem qX1_isTaken_2 {E : EV} {h : Int} {Q : Option MV → Mem → Prop} {g : Int} (hg : isG g) : ∀ (k : Nat) (v1 v2 : Int) (M : Mem), 0 ≤ v2 → (((M (g + 1) 8)) - v2).toNat = k → Q (some (0, (lX1_isTaken_2 g k v1 v2 M))) M → G h M → TG E miX1_isTaken 2 h Q 2 [(2, g), (0, v1), (0, v2)] [] M := by
  intro k
  induction k with
  | zero =>
    intro v1 v2 M hv0 hk hQ hG
    have hQ : Q (some (0, (lX1_isTaken_38 g ((((M g 13)) : Int) - 0).toNat v1 0 M))) M := hQ
    refine T_iload_n (i := 2) (pc' := 3) dX1_isTaken_2 rfl rfl rfl ?_
    refine T_aload_n (i := 0) (pc' := 4) dX1_isTaken_3 rfl rfl rfl ?_
    refine U_gr (q := (g + 1)) (k := 0) (kI := 0) (pc' := 7) dX1_isTaken_4 rfl cl1 (pog0 hg) (shg0 hg) (by decide) flX1_12 rfl rfl rfl (grg0_0 hg hG) (pog1 hg) rfl ?_
    refine U_gfN (v := (0, (M (g + 1) 8))) (k := 8) (kI := 8) (pc' := 10) dX1_isTaken_7 rfl cl4 (pog1 hg) (shg1 hg) (by decide) flX1_47 rfl rfl (by decide) rfl rfl ?_
    refine T_rng (fun _ z9 _ => ?_)
    have hB : r32 (M (g + 1) 8) := (ok_cons.mp z9).1
    unfold r32 at hB
    refine T_icmp_ge (pc' := 36) dX1_isTaken_10 (by decide) (pf := 13) rfl (fun c1 => ?_) (fun c1 => ?_)
    · skip
      refine T_iconst (pc' := 37) dX1_isTaken_36 (by decide) rfl ?_
      refine T_istore_n (i := 2) (L' := [(2, g), (0, v1), (0, 0)]) (pc' := 38) dX1_isTaken_37 rfl (by decide) rfl rfl ?_
      exact T_wk (qX1_isTaken_38 hg _ v1 0 _ (by first | decide | omega) rfl hQ hG) ⟨Or.inr rfl, Or.inr rfl, Or.inr rfl, trivial⟩
    · exact absurd c1 (by omega)
  | succ k ih =>
    intro v1 v2 M hv0 hk hQ hG
    have hQ : Q (some (0, (if (fX11_get M (g + 3) 9 v2) = v1 then 1 else (lX1_isTaken_2 g k v1 (v2 + 1) M)))) M := hQ
    refine T_iload_n (i := 2) (pc' := 3) dX1_isTaken_2 rfl rfl rfl ?_
    refine T_aload_n (i := 0) (pc' := 4) dX1_isTaken_3 rfl rfl rfl ?_
    refine U_gr (q := (g + 1)) (k := 0) (kI := 0) (pc' := 7) dX1_isTaken_4 rfl cl1 (pog0 hg) (shg0 hg) (by decide) flX1_12 rfl rfl rfl (grg0_0 hg hG) (pog1 hg) rfl ?_
    refine U_gfN (v := (0, (M (g + 1) 8))) (k := 8) (kI := 8) (pc' := 10) dX1_isTaken_7 rfl cl4 (pog1 hg) (shg1 hg) (by decide) flX1_47 rfl rfl (by decide) rfl rfl ?_
    refine T_rng (fun _ z9 _ => ?_)
    have hB : r32 (M (g + 1) 8) := (ok_cons.mp z9).1
    unfold r32 at hB
    refine T_icmp_ge (pc' := 36) dX1_isTaken_10 (by decide) (pf := 13) rfl (fun c1 => ?_) (fun c1 => ?_)
    · exact absurd c1 (by omega)
    · skip
      have hw : wr32 (v2 + 1) = v2 + 1 := wr32_id (by unfold r32; omega)
      refine T_aload_n (i := 0) (pc' := 14) dX1_isTaken_13 rfl rfl rfl ?_
      refine U_gr (q := (g + 1)) (k := 0) (kI := 0) (pc' := 17) dX1_isTaken_14 rfl cl1 (pog0 hg) (shg0 hg) (by decide) flX1_12 rfl rfl rfl (grg0_0 hg hG) (pog1 hg) rfl ?_
      refine U_grN (q := (g + 3)) (k := 1) (kI := 1) (pc' := 20) dX1_isTaken_17 rfl cl4 (pog1 hg) (shg1 hg) (by decide) flX1_97 rfl rfl rfl (grg1_1 hg hG) (pog3 hg) rfl ?_
      refine T_iload_n (i := 2) (pc' := 21) dX1_isTaken_20 rfl rfl rfl ?_
      refine T_callSN (av := [(2, (g + 3)), (0, v2)]) (st := []) (d2 := 1) (nc2 := 0) (ns2 := 0) (pc' := 24) dX1_isTaken_21 rfl mtX11_get mvX11_get mlX1_89 rfl rfl (Nat.le_of_ble_eq_true rfl) (by decide) ⟨by decide, by decide⟩ rfl (pX11_get (E := E) (h := h) (M := M) (p0 := (g + 3)) (np0 := 9) (v1 := v2) (pog3 hg) (shg3 hg) (by decide) hG) (kF (st2 := [(0, (fX11_get M (g + 3) 9 v2))]) rfl (fun hG2 => ?_))
      refine T_iload_n (i := 1) (pc' := 25) dX1_isTaken_24 rfl rfl rfl ?_
      refine T_icmp_ne (pc' := 30) dX1_isTaken_25 (by decide) (pf := 28) rfl (fun c3 => ?_) (fun c3 => ?_)
      · skip
        refine T_iinc (L' := [(2, g), (0, v1), (0, (wr32 (v2 + 1)))]) (pc' := 33) dX1_isTaken_30 rfl (by decide) rfl rfl ?_
        refine T_goto (pc' := 2) dX1_isTaken_33 (by decide) ?_
        rw [hw]
        exact T_wk (ih _ (v2 + 1) _ (by omega) (by omega) (by have q := hQ; try simp only [if_neg c3] at q; exact q) hG) ⟨Or.inr rfl, Or.inr rfl, Or.inr rfl, trivial⟩
      · skip
        refine T_iconst (pc' := 29) dX1_isTaken_28 (by decide) rfl ?_
        exact T_zret dX1_isTaken_29 rfl (by decide) ⟨rfl, hG, (by have q := hQ; try simp only [if_pos c3] at q; exact q)⟩
def fX1_isTaken (M : Mem) (g : Int) (v1 : Int) : Int :=
  (lX1_isTaken_2 g ((((M (g + 1) 8)) : Int) - 0).toNat v1 0 M)
set_option maxRecDepth 100000 in
theorem pX1_isTaken {E : EV} {h : Int} {M : Mem} {g : Int} {v1 : Int} (hg : isG g) : C2 E miX1_isTaken 2 h [(2, g), (0, v1)] M (fun r M' => r = some (0, (fX1_isTaken M g v1)) ∧ M' = M) := by
  obtain ⟨Q, hQ0⟩ : ∃ Q : Option MV → Mem → Prop, Q = (fun r M' => r = some (0, (fX1_isTaken M g v1)) ∧ M' = M) := ⟨_, rfl⟩
  rw [← hQ0]
  have hQ : Q (some (0, (lX1_isTaken_2 g ((((M (g + 1) 8)) : Int) - 0).toNat v1 0 M))) M := by rw [hQ0]; exact ⟨rfl, rfl⟩
  refine C2_of (L := [(2, g), (0, v1), (3, 0)]) (by decide +kernel) (Nat.le_of_ble_eq_true rfl) rfl (fun hG => ?_)
  refine T_iconst (pc' := 1) dX1_isTaken_0 (by decide) rfl ?_
  refine T_istore_n (i := 2) (L' := [(2, g), (0, v1), (0, 0)]) (pc' := 2) dX1_isTaken_1 rfl (by decide) rfl rfl ?_
  exact T_wk (qX1_isTaken_2 hg _ v1 0 _ (by first | decide | omega) rfl hQ hG) ⟨Or.inr rfl, Or.inr rfl, Or.inr rfl, trivial⟩
def lX1_hasName_38 (g : Int) : Nat → Int → Int → Mem → Int
  | 0, v1, v2, M => 0
  | k + 1, v1, v2, M => (if (fX11_get M (g + 12) 4 v2) = v1 then 1 else (lX1_hasName_38 g k v1 (v2 + 1) M))
set_option maxRecDepth 100000 in
set_option maxHeartbeats 2000000 in
theorem qX1_hasName_38 {E : EV} {h : Int} {Q : Option MV → Mem → Prop} {g : Int} (hg : isG g) : ∀ (k : Nat) (v1 v2 : Int) (M : Mem), 0 ≤ v2 → (((M g 13)) - v2).toNat = k → Q (some (0, (lX1_hasName_38 g k v1 v2 M))) M → G h M → TG E miX1_hasName 2 h Q 38 [(2, g), (0, v1), (0, v2)] [] M := by
  intro k
  induction k with
  | zero =>
    intro v1 v2 M hv0 hk hQ hG
    have hQ : Q (some (0, 0)) M := hQ
    refine T_iload_n (i := 2) (pc' := 39) dX1_hasName_38 rfl rfl rfl ?_
    refine T_aload_n (i := 0) (pc' := 40) dX1_hasName_39 rfl rfl rfl ?_
    refine U_gf (v := (0, (M g 13))) (k := 13) (kI := 13) (pc' := 43) dX1_hasName_40 rfl cl1 (pog0 hg) (shg0 hg) (by decide) flX1_70 rfl rfl (by decide) rfl rfl ?_
    refine T_rng (fun _ z9 _ => ?_)
    have hB : r32 (M g 13) := (ok_cons.mp z9).1
    unfold r32 at hB
    refine T_icmp_ge (pc' := 66) dX1_hasName_43 (by decide) (pf := 46) rfl (fun c1 => ?_) (fun c1 => ?_)
    · skip
      refine T_iconst (pc' := 67) dX1_hasName_66 (by decide) rfl ?_
      exact T_zret dX1_hasName_67 rfl (by decide) ⟨rfl, hG, hQ⟩
    · exact absurd c1 (by omega)
  | succ k ih =>
    intro v1 v2 M hv0 hk hQ hG
    have hQ : Q (some (0, (if (fX11_get M (g + 12) 4 v2) = v1 then 1 else (lX1_hasName_38 g k v1 (v2 + 1) M)))) M := hQ
    refine T_iload_n (i := 2) (pc' := 39) dX1_hasName_38 rfl rfl rfl ?_
    refine T_aload_n (i := 0) (pc' := 40) dX1_hasName_39 rfl rfl rfl ?_
    refine U_gf (v := (0, (M g 13))) (k := 13) (kI := 13) (pc' := 43) dX1_hasName_40 rfl cl1 (pog0 hg) (shg0 hg) (by decide) flX1_70 rfl rfl (by decide) rfl rfl ?_
    refine T_rng (fun _ z9 _ => ?_)
    have hB : r32 (M g 13) := (ok_cons.mp z9).1
    unfold r32 at hB
    refine T_icmp_ge (pc' := 66) dX1_hasName_43 (by decide) (pf := 46) rfl (fun c1 => ?_) (fun c1 => ?_)
    · exact absurd c1 (by omega)
    · skip
      have hw : wr32 (v2 + 1) = v2 + 1 := wr32_id (by unfold r32; omega)
      refine T_aload_n (i := 0) (pc' := 47) dX1_hasName_46 rfl rfl rfl ?_
      refine U_gr (q := (g + 12)) (k := 4) (kI := 4) (pc' := 50) dX1_hasName_47 rfl cl1 (pog0 hg) (shg0 hg) (by decide) flX1_28 rfl rfl rfl (grg0_4 hg hG) (pog12 hg) rfl ?_
      refine T_iload_n (i := 2) (pc' := 51) dX1_hasName_50 rfl rfl rfl ?_
      refine T_callSN (av := [(2, (g + 12)), (0, v2)]) (st := []) (d2 := 1) (nc2 := 0) (ns2 := 0) (pc' := 54) dX1_hasName_51 rfl mtX11_get mvX11_get mlX1_89 rfl rfl (Nat.le_of_ble_eq_true rfl) (by decide) ⟨by decide, by decide⟩ rfl (pX11_get (E := E) (h := h) (M := M) (p0 := (g + 12)) (np0 := 4) (v1 := v2) (pog12 hg) (shg12 hg) (by decide) hG) (kF (st2 := [(0, (fX11_get M (g + 12) 4 v2))]) rfl (fun hG2 => ?_))
      refine T_iload_n (i := 1) (pc' := 55) dX1_hasName_54 rfl rfl rfl ?_
      refine T_icmp_ne (pc' := 60) dX1_hasName_55 (by decide) (pf := 58) rfl (fun c3 => ?_) (fun c3 => ?_)
      · skip
        refine T_iinc (L' := [(2, g), (0, v1), (0, (wr32 (v2 + 1)))]) (pc' := 63) dX1_hasName_60 rfl (by decide) rfl rfl ?_
        refine T_goto (pc' := 38) dX1_hasName_63 (by decide) ?_
        rw [hw]
        exact T_wk (ih _ (v2 + 1) _ (by omega) (by omega) (by have q := hQ; try simp only [if_neg c3] at q; exact q) hG) ⟨Or.inr rfl, Or.inr rfl, Or.inr rfl, trivial⟩
      · skip
        refine T_iconst (pc' := 59) dX1_hasName_58 (by decide) rfl ?_
        exact T_zret dX1_hasName_59 rfl (by decide) ⟨rfl, hG, (by have q := hQ; try simp only [if_pos c3] at q; exact q)⟩
def lX1_hasName_2 (g : Int) : Nat → Int → Int → Mem → Int
  | 0, v1, v2, M => (lX1_hasName_38 g ((((M g 13)) : Int) - 0).toNat v1 0 M)
  | k + 1, v1, v2, M => (if (fX11_get M (g + 2) 9 v2) = v1 then 1 else (lX1_hasName_2 g k v1 (v2 + 1) M))
set_option maxRecDepth 100000 in
set_option maxHeartbeats 2000000 in
theorem qX1_hasName_2 {E : EV} {h : Int} {Q : Option MV → Mem → Prop} {g : Int} (hg : isG g) : ∀ (k : Nat) (v1 v2 : Int) (M : Mem), 0 ≤ v2 → (((M (g + 1) 8)) - v2).toNat = k → Q (some (0, (lX1_hasName_2 g k v1 v2 M))) M → G h M → TG E miX1_hasName 2 h Q 2 [(2, g), (0, v1), (0, v2)] [] M := by
  intro k
  induction k with
  | zero =>
    intro v1 v2 M hv0 hk hQ hG
    have hQ : Q (some (0, (lX1_hasName_38 g ((((M g 13)) : Int) - 0).toNat v1 0 M))) M := hQ
    refine T_iload_n (i := 2) (pc' := 3) dX1_hasName_2 rfl rfl rfl ?_
    refine T_aload_n (i := 0) (pc' := 4) dX1_hasName_3 rfl rfl rfl ?_
    refine U_gr (q := (g + 1)) (k := 0) (kI := 0) (pc' := 7) dX1_hasName_4 rfl cl1 (pog0 hg) (shg0 hg) (by decide) flX1_12 rfl rfl rfl (grg0_0 hg hG) (pog1 hg) rfl ?_
    refine U_gfN (v := (0, (M (g + 1) 8))) (k := 8) (kI := 8) (pc' := 10) dX1_hasName_7 rfl cl4 (pog1 hg) (shg1 hg) (by decide) flX1_47 rfl rfl (by decide) rfl rfl ?_
    refine T_rng (fun _ z9 _ => ?_)
    have hB : r32 (M (g + 1) 8) := (ok_cons.mp z9).1
    unfold r32 at hB
    refine T_icmp_ge (pc' := 36) dX1_hasName_10 (by decide) (pf := 13) rfl (fun c1 => ?_) (fun c1 => ?_)
    · skip
      refine T_iconst (pc' := 37) dX1_hasName_36 (by decide) rfl ?_
      refine T_istore_n (i := 2) (L' := [(2, g), (0, v1), (0, 0)]) (pc' := 38) dX1_hasName_37 rfl (by decide) rfl rfl ?_
      exact T_wk (qX1_hasName_38 hg _ v1 0 _ (by first | decide | omega) rfl hQ hG) ⟨Or.inr rfl, Or.inr rfl, Or.inr rfl, trivial⟩
    · exact absurd c1 (by omega)
  | succ k ih =>
    intro v1 v2 M hv0 hk hQ hG
    have hQ : Q (some (0, (if (fX11_get M (g + 2) 9 v2) = v1 then 1 else (lX1_hasName_2 g k v1 (v2 + 1) M)))) M := hQ
    refine T_iload_n (i := 2) (pc' := 3) dX1_hasName_2 rfl rfl rfl ?_
    refine T_aload_n (i := 0) (pc' := 4) dX1_hasName_3 rfl rfl rfl ?_
    refine U_gr (q := (g + 1)) (k := 0) (kI := 0) (pc' := 7) dX1_hasName_4 rfl cl1 (pog0 hg) (shg0 hg) (by decide) flX1_12 rfl rfl rfl (grg0_0 hg hG) (pog1 hg) rfl ?_
    refine U_gfN (v := (0, (M (g + 1) 8))) (k := 8) (kI := 8) (pc' := 10) dX1_hasName_7 rfl cl4 (pog1 hg) (shg1 hg) (by decide) flX1_47 rfl rfl (by decide) rfl rfl ?_
    refine T_rng (fun _ z9 _ => ?_)
    have hB : r32 (M (g + 1) 8) := (ok_cons.mp z9).1
    unfold r32 at hB
    refine T_icmp_ge (pc' := 36) dX1_hasName_10 (by decide) (pf := 13) rfl (fun c1 => ?_) (fun c1 => ?_)
    · exact absurd c1 (by omega)
    · skip
      have hw : wr32 (v2 + 1) = v2 + 1 := wr32_id (by unfold r32; omega)
      refine T_aload_n (i := 0) (pc' := 14) dX1_hasName_13 rfl rfl rfl ?_
      refine U_gr (q := (g + 1)) (k := 0) (kI := 0) (pc' := 17) dX1_hasName_14 rfl cl1 (pog0 hg) (shg0 hg) (by decide) flX1_12 rfl rfl rfl (grg0_0 hg hG) (pog1 hg) rfl ?_
      refine U_grN (q := (g + 2)) (k := 0) (kI := 0) (pc' := 20) dX1_hasName_17 rfl cl4 (pog1 hg) (shg1 hg) (by decide) flX1_100 rfl rfl rfl (grg1_0 hg hG) (pog2 hg) rfl ?_
      refine T_iload_n (i := 2) (pc' := 21) dX1_hasName_20 rfl rfl rfl ?_
      refine T_callSN (av := [(2, (g + 2)), (0, v2)]) (st := []) (d2 := 1) (nc2 := 0) (ns2 := 0) (pc' := 24) dX1_hasName_21 rfl mtX11_get mvX11_get mlX1_89 rfl rfl (Nat.le_of_ble_eq_true rfl) (by decide) ⟨by decide, by decide⟩ rfl (pX11_get (E := E) (h := h) (M := M) (p0 := (g + 2)) (np0 := 9) (v1 := v2) (pog2 hg) (shg2 hg) (by decide) hG) (kF (st2 := [(0, (fX11_get M (g + 2) 9 v2))]) rfl (fun hG2 => ?_))
      refine T_iload_n (i := 1) (pc' := 25) dX1_hasName_24 rfl rfl rfl ?_
      refine T_icmp_ne (pc' := 30) dX1_hasName_25 (by decide) (pf := 28) rfl (fun c3 => ?_) (fun c3 => ?_)
      · skip
        refine T_iinc (L' := [(2, g), (0, v1), (0, (wr32 (v2 + 1)))]) (pc' := 33) dX1_hasName_30 rfl (by decide) rfl rfl ?_
        refine T_goto (pc' := 2) dX1_hasName_33 (by decide) ?_
        rw [hw]
        exact T_wk (ih _ (v2 + 1) _ (by omega) (by omega) (by have q := hQ; try simp only [if_neg c3] at q; exact q) hG) ⟨Or.inr rfl, Or.inr rfl, Or.inr rfl, trivial⟩
      · skip
        refine T_iconst (pc' := 29) dX1_hasName_28 (by decide) rfl ?_
        exact T_zret dX1_hasName_29 rfl (by decide) ⟨rfl, hG, (by have q := hQ; try simp only [if_pos c3] at q; exact q)⟩
def fX1_hasName (M : Mem) (g : Int) (v1 : Int) : Int :=
  (lX1_hasName_2 g ((((M (g + 1) 8)) : Int) - 0).toNat v1 0 M)
set_option maxRecDepth 100000 in
theorem pX1_hasName {E : EV} {h : Int} {M : Mem} {g : Int} {v1 : Int} (hg : isG g) : C2 E miX1_hasName 2 h [(2, g), (0, v1)] M (fun r M' => r = some (0, (fX1_hasName M g v1)) ∧ M' = M) := by
  obtain ⟨Q, hQ0⟩ : ∃ Q : Option MV → Mem → Prop, Q = (fun r M' => r = some (0, (fX1_hasName M g v1)) ∧ M' = M) := ⟨_, rfl⟩
  rw [← hQ0]
  have hQ : Q (some (0, (lX1_hasName_2 g ((((M (g + 1) 8)) : Int) - 0).toNat v1 0 M))) M := by rw [hQ0]; exact ⟨rfl, rfl⟩
  refine C2_of (L := [(2, g), (0, v1), (3, 0)]) (by decide +kernel) (Nat.le_of_ble_eq_true rfl) rfl (fun hG => ?_)
  refine T_iconst (pc' := 1) dX1_hasName_0 (by decide) rfl ?_
  refine T_istore_n (i := 2) (L' := [(2, g), (0, v1), (0, 0)]) (pc' := 2) dX1_hasName_1 rfl (by decide) rfl rfl ?_
  exact T_wk (qX1_hasName_2 hg _ v1 0 _ (by first | decide | omega) rfl hQ hG) ⟨Or.inr rfl, Or.inr rfl, Or.inr rfl, trivial⟩
def fX1_across (M : Mem) (g : Int) (v1 : Int) : Int :=
  (if (M g 9) ≤ 0 then (0 : Int) else (Int.tmod v1 (M g 9)))
set_option maxRecDepth 100000 in
theorem pX1_across {E : EV} {h : Int} {M : Mem} {g : Int} {v1 : Int} (hg : isG g) : C2 E miX1_across 1 h [(2, g), (0, v1)] M (fun r M' => r = some (0, (fX1_across M g v1)) ∧ M' = M) := by
  obtain ⟨Q, hQ⟩ : ∃ Q : Option MV → Mem → Prop, Q = (fun r M' => r = some (0, (fX1_across M g v1)) ∧ M' = M) := ⟨_, rfl⟩
  rw [← hQ]
  refine C2_of (L := [(2, g), (0, v1)]) (by decide +kernel) (Nat.le_of_ble_eq_true rfl) rfl (fun hG => ?_)
  refine T_aload_n (i := 0) (pc' := 1) dX1_across_0 rfl rfl rfl ?_
  refine U_gf (v := (0, (M g 9))) (k := 9) (kI := 9) (pc' := 4) dX1_across_1 rfl cl1 (pog0 hg) (shg0 hg) (by decide) flX1_58 rfl rfl (by decide) rfl rfl ?_
  have HJ1 : T E miX1_across 1 126 0 0 (fun r S M' => S = S0 ∧ G h M' ∧ Q r M') 17 [(3, 0), (3, 0)] [(0, (if (M g 9) ≤ 0 then (0 : Int) else (Int.tmod v1 (M g 9))))] S0 M 0 0 := by
    exact T_iret dX1_across_17 rfl ⟨rfl, hG, (by rw [hQ]; exact ⟨rfl, rfl⟩)⟩
  refine T_if_le (pc' := 16) dX1_across_4 (by decide) (pf := 7) rfl (fun c2 => ?_) (fun c2 => ?_)
  · skip
    refine T_iconst (pc' := 17) dX1_across_16 (by decide) rfl ?_
    exact T_wk (L' := [(3, 0), (3, 0)]) (by have q := HJ1; try simp only [if_pos c2] at q; exact q) ⟨Or.inl rfl, Or.inl rfl, trivial⟩
  · skip
    refine T_iload_n (i := 1) (pc' := 8) dX1_across_7 rfl rfl rfl ?_
    refine T_aload_n (i := 0) (pc' := 9) dX1_across_8 rfl rfl rfl ?_
    refine U_gf (v := (0, (M g 9))) (k := 9) (kI := 9) (pc' := 12) dX1_across_9 rfl cl1 (pog0 hg) (shg0 hg) (by decide) flX1_58 rfl rfl (by decide) rfl rfl ?_
    refine T_irem (pc' := 13) dX1_across_12 (by omega) rfl ?_
    refine T_goto (pc' := 17) dX1_across_13 (by decide) ?_
    exact T_wk (L' := [(3, 0), (3, 0)]) (by have q := HJ1; try simp only [if_neg c2] at q; exact q) ⟨Or.inl rfl, Or.inl rfl, trivial⟩
def fX1_down (M : Mem) (g : Int) (v1 : Int) : Int :=
  (if (M g 9) ≤ 0 then (0 : Int) else (wr32 (Int.tdiv v1 (M g 9))))
set_option maxRecDepth 100000 in
theorem pX1_down {E : EV} {h : Int} {M : Mem} {g : Int} {v1 : Int} (hg : isG g) : C2 E miX1_down 1 h [(2, g), (0, v1)] M (fun r M' => r = some (0, (fX1_down M g v1)) ∧ M' = M) := by
  obtain ⟨Q, hQ⟩ : ∃ Q : Option MV → Mem → Prop, Q = (fun r M' => r = some (0, (fX1_down M g v1)) ∧ M' = M) := ⟨_, rfl⟩
  rw [← hQ]
  refine C2_of (L := [(2, g), (0, v1)]) (by decide +kernel) (Nat.le_of_ble_eq_true rfl) rfl (fun hG => ?_)
  refine T_aload_n (i := 0) (pc' := 1) dX1_down_0 rfl rfl rfl ?_
  refine U_gf (v := (0, (M g 9))) (k := 9) (kI := 9) (pc' := 4) dX1_down_1 rfl cl1 (pog0 hg) (shg0 hg) (by decide) flX1_58 rfl rfl (by decide) rfl rfl ?_
  have HJ1 : T E miX1_down 1 126 0 0 (fun r S M' => S = S0 ∧ G h M' ∧ Q r M') 17 [(3, 0), (3, 0)] [(0, (if (M g 9) ≤ 0 then (0 : Int) else (wr32 (Int.tdiv v1 (M g 9)))))] S0 M 0 0 := by
    exact T_iret dX1_down_17 rfl ⟨rfl, hG, (by rw [hQ]; exact ⟨rfl, rfl⟩)⟩
  refine T_if_le (pc' := 16) dX1_down_4 (by decide) (pf := 7) rfl (fun c2 => ?_) (fun c2 => ?_)
  · skip
    refine T_iconst (pc' := 17) dX1_down_16 (by decide) rfl ?_
    exact T_wk (L' := [(3, 0), (3, 0)]) (by have q := HJ1; try simp only [if_pos c2] at q; exact q) ⟨Or.inl rfl, Or.inl rfl, trivial⟩
  · skip
    refine T_iload_n (i := 1) (pc' := 8) dX1_down_7 rfl rfl rfl ?_
    refine T_aload_n (i := 0) (pc' := 9) dX1_down_8 rfl rfl rfl ?_
    refine U_gf (v := (0, (M g 9))) (k := 9) (kI := 9) (pc' := 12) dX1_down_9 rfl cl1 (pog0 hg) (shg0 hg) (by decide) flX1_58 rfl rfl (by decide) rfl rfl ?_
    refine T_idiv (pc' := 13) dX1_down_12 (by omega) rfl ?_
    refine T_goto (pc' := 17) dX1_down_13 (by decide) ?_
    exact T_wk (L' := [(3, 0), (3, 0)]) (by have q := HJ1; try simp only [if_neg c2] at q; exact q) ⟨Or.inl rfl, Or.inl rfl, trivial⟩
def fX1_distance (M : Mem) (g : Int) (v1 : Int) (v2 : Int) : Int :=
  (wr32 ((if 0 ≤ (wr32 ((fX1_across M g v1) - (fX1_across M g v2))) then (wr32 ((fX1_across M g v1) - (fX1_across M g v2))) else (wr32 (0 - (wr32 ((fX1_across M g v1) - (fX1_across M g v2)))))) + (if 0 ≤ (wr32 ((fX1_down M g v1) - (fX1_down M g v2))) then (wr32 ((fX1_down M g v1) - (fX1_down M g v2))) else (wr32 (0 - (wr32 ((fX1_down M g v1) - (fX1_down M g v2))))))))
set_option maxRecDepth 100000 in
theorem pX1_distance {E : EV} {h : Int} {M : Mem} {g : Int} {v1 : Int} {v2 : Int} (hg : isG g) : C2 E miX1_distance 2 h [(2, g), (0, v1), (0, v2)] M (fun r M' => r = some (0, (fX1_distance M g v1 v2)) ∧ M' = M) := by
  obtain ⟨Q, hQ⟩ : ∃ Q : Option MV → Mem → Prop, Q = (fun r M' => r = some (0, (fX1_distance M g v1 v2)) ∧ M' = M) := ⟨_, rfl⟩
  rw [← hQ]
  refine C2_of (L := [(2, g), (0, v1), (0, v2)]) (by decide +kernel) (Nat.le_of_ble_eq_true rfl) rfl (fun hG => ?_)
  refine T_aload_n (i := 0) (pc' := 1) dX1_distance_0 rfl rfl rfl ?_
  refine T_iload_n (i := 1) (pc' := 2) dX1_distance_1 rfl rfl rfl ?_
  refine T_callV (av := [(0, v1)]) (st := []) (d2 := 1) (nc2 := 0) (ns2 := 0) (pc' := 5) dX1_distance_2 rfl mtX1_across mvX1_across mlX1_103 cl1 (shg0 hg) rfl rfl (Nat.le_of_ble_eq_true rfl) (by decide) ⟨by decide, by decide⟩ rfl (pX1_across (E := E) (h := h) (M := M) (g := g) (v1 := v1) hg hG) (kF (st2 := [(0, (fX1_across M g v1))]) rfl (fun hG1 => ?_))
  refine T_aload_n (i := 0) (pc' := 6) dX1_distance_5 rfl rfl rfl ?_
  refine T_iload_n (i := 2) (pc' := 7) dX1_distance_6 rfl rfl rfl ?_
  refine T_callV (av := [(0, v2)]) (st := [(0, (fX1_across M g v1))]) (d2 := 1) (nc2 := 0) (ns2 := 0) (pc' := 10) dX1_distance_7 rfl mtX1_across mvX1_across mlX1_103 cl1 (shg0 hg) rfl rfl (Nat.le_of_ble_eq_true rfl) (by decide) ⟨by decide, by decide⟩ rfl (pX1_across (E := E) (h := h) (M := M) (g := g) (v1 := v2) hg hG) (kF (st2 := [(0, (fX1_across M g v2)), (0, (fX1_across M g v1))]) rfl (fun hG2 => ?_))
  refine T_isub (pc' := 11) dX1_distance_10 rfl ?_
  refine U_mabs (pc' := 14) dX1_distance_11 rfl mlX1_106 (Nat.le_of_ble_eq_true rfl) (by decide) ⟨by decide, by decide⟩ rfl ?_
  refine T_aload_n (i := 0) (pc' := 15) dX1_distance_14 rfl rfl rfl ?_
  refine T_iload_n (i := 1) (pc' := 16) dX1_distance_15 rfl rfl rfl ?_
  refine T_callV (av := [(0, v1)]) (st := [(0, (if 0 ≤ (wr32 ((fX1_across M g v1) - (fX1_across M g v2))) then (wr32 ((fX1_across M g v1) - (fX1_across M g v2))) else (wr32 (0 - (wr32 ((fX1_across M g v1) - (fX1_across M g v2)))))))]) (d2 := 1) (nc2 := 0) (ns2 := 0) (pc' := 19) dX1_distance_16 rfl mtX1_down mvX1_down mlX1_111 cl1 (shg0 hg) rfl rfl (Nat.le_of_ble_eq_true rfl) (by decide) ⟨by decide, by decide⟩ rfl (pX1_down (E := E) (h := h) (M := M) (g := g) (v1 := v1) hg hG) (kF (st2 := [(0, (fX1_down M g v1)), (0, (if 0 ≤ (wr32 ((fX1_across M g v1) - (fX1_across M g v2))) then (wr32 ((fX1_across M g v1) - (fX1_across M g v2))) else (wr32 (0 - (wr32 ((fX1_across M g v1) - (fX1_across M g v2)))))))]) rfl (fun hG3 => ?_))
  refine T_aload_n (i := 0) (pc' := 20) dX1_distance_19 rfl rfl rfl ?_
  refine T_iload_n (i := 2) (pc' := 21) dX1_distance_20 rfl rfl rfl ?_
  refine T_callV (av := [(0, v2)]) (st := [(0, (fX1_down M g v1)), (0, (if 0 ≤ (wr32 ((fX1_across M g v1) - (fX1_across M g v2))) then (wr32 ((fX1_across M g v1) - (fX1_across M g v2))) else (wr32 (0 - (wr32 ((fX1_across M g v1) - (fX1_across M g v2)))))))]) (d2 := 1) (nc2 := 0) (ns2 := 0) (pc' := 24) dX1_distance_21 rfl mtX1_down mvX1_down mlX1_111 cl1 (shg0 hg) rfl rfl (Nat.le_of_ble_eq_true rfl) (by decide) ⟨by decide, by decide⟩ rfl (pX1_down (E := E) (h := h) (M := M) (g := g) (v1 := v2) hg hG) (kF (st2 := [(0, (fX1_down M g v2)), (0, (fX1_down M g v1)), (0, (if 0 ≤ (wr32 ((fX1_across M g v1) - (fX1_across M g v2))) then (wr32 ((fX1_across M g v1) - (fX1_across M g v2))) else (wr32 (0 - (wr32 ((fX1_across M g v1) - (fX1_across M g v2)))))))]) rfl (fun hG4 => ?_))
  refine T_isub (pc' := 25) dX1_distance_24 rfl ?_
  refine U_mabs (pc' := 28) dX1_distance_25 rfl mlX1_106 (Nat.le_of_ble_eq_true rfl) (by decide) ⟨by decide, by decide⟩ rfl ?_
  refine T_iadd (pc' := 29) dX1_distance_28 rfl ?_
  exact T_iret dX1_distance_29 rfl ⟨rfl, hG, (by rw [hQ]; exact ⟨rfl, rfl⟩)⟩
def fX1_stepFrom (M : Mem) (g : Int) (v1 : Int) (v2 : Int) : Int :=
  (if (wr32 ((fX1_across M g v1) + (if v2 = 1 then (1 : Int) else (if v2 = 3 then ((-1) : Int) else 0)))) < 0 then (-1) else (if (M g 9) ≤ (wr32 ((fX1_across M g v1) + (if v2 = 1 then (1 : Int) else (if v2 = 3 then ((-1) : Int) else 0)))) then (-1) else (if (wr32 ((fX1_down M g v1) + (if v2 = 2 then (1 : Int) else (if v2 = 0 then ((-1) : Int) else 0)))) < 0 then (-1) else (if (wr32 ((fX1_down M g v1) + (if v2 = 2 then (1 : Int) else (if v2 = 0 then ((-1) : Int) else 0)))) < (M g 10) then (if (fX1_isFree M g (wr32 ((wr32 ((wr32 ((fX1_down M g v1) + (if v2 = 2 then (1 : Int) else (if v2 = 0 then ((-1) : Int) else 0)))) * (M g 9))) + (wr32 ((fX1_across M g v1) + (if v2 = 1 then (1 : Int) else (if v2 = 3 then ((-1) : Int) else 0))))))) = 0 then ((-1) : Int) else (wr32 ((wr32 ((wr32 ((fX1_down M g v1) + (if v2 = 2 then (1 : Int) else (if v2 = 0 then ((-1) : Int) else 0)))) * (M g 9))) + (wr32 ((fX1_across M g v1) + (if v2 = 1 then (1 : Int) else (if v2 = 3 then ((-1) : Int) else 0))))))) else (-1)))))
set_option maxRecDepth 100000 in
theorem pX1_stepFrom {E : EV} {h : Int} {M : Mem} {g : Int} {v1 : Int} {v2 : Int} (hg : isG g) : C2 E miX1_stepFrom 3 h [(2, g), (0, v1), (0, v2)] M (fun r M' => r = some (0, (fX1_stepFrom M g v1 v2)) ∧ M' = M) := by
  obtain ⟨Q, hQ⟩ : ∃ Q : Option MV → Mem → Prop, Q = (fun r M' => r = some (0, (fX1_stepFrom M g v1 v2)) ∧ M' = M) := ⟨_, rfl⟩
  rw [← hQ]
  refine C2_of (L := [(2, g), (0, v1), (0, v2), (3, 0), (3, 0)]) (by decide +kernel) (Nat.le_of_ble_eq_true rfl) rfl (fun hG => ?_)
  refine T_aload_n (i := 0) (pc' := 1) dX1_stepFrom_0 rfl rfl rfl ?_
  refine T_iload_n (i := 1) (pc' := 2) dX1_stepFrom_1 rfl rfl rfl ?_
  refine T_callV (av := [(0, v1)]) (st := []) (d2 := 1) (nc2 := 0) (ns2 := 0) (pc' := 5) dX1_stepFrom_2 rfl mtX1_across mvX1_across mlX1_103 cl1 (shg0 hg) rfl rfl (Nat.le_of_ble_eq_true rfl) (by decide) ⟨by decide, by decide⟩ rfl (pX1_across (E := E) (h := h) (M := M) (g := g) (v1 := v1) hg hG) (kF (st2 := [(0, (fX1_across M g v1))]) rfl (fun hG1 => ?_))
  refine T_iload_n (i := 2) (pc' := 6) dX1_stepFrom_5 rfl rfl rfl ?_
  refine T_iconst (pc' := 7) dX1_stepFrom_6 (by decide) rfl ?_
  have HJ2 : T E miX1_stepFrom 3 126 0 0 (fun r S M' => S = S0 ∧ G h M' ∧ Q r M') 24 [(2, g), (0, v1), (0, v2), (3, 0), (3, 0)] [(0, (if v2 = 1 then (1 : Int) else (if v2 = 3 then ((-1) : Int) else 0))), (0, (fX1_across M g v1))] S0 M 0 0 := by
    refine T_iadd (pc' := 25) dX1_stepFrom_24 rfl ?_
    refine T_istore_n (i := 3) (L' := [(2, g), (0, v1), (0, v2), (0, (wr32 ((fX1_across M g v1) + (if v2 = 1 then (1 : Int) else (if v2 = 3 then ((-1) : Int) else 0))))), (3, 0)]) (pc' := 26) dX1_stepFrom_25 rfl (by decide) rfl rfl ?_
    refine T_aload_n (i := 0) (pc' := 27) dX1_stepFrom_26 rfl rfl rfl ?_
    refine T_iload_n (i := 1) (pc' := 28) dX1_stepFrom_27 rfl rfl rfl ?_
    refine T_callV (av := [(0, v1)]) (st := []) (d2 := 1) (nc2 := 0) (ns2 := 0) (pc' := 31) dX1_stepFrom_28 rfl mtX1_down mvX1_down mlX1_111 cl1 (shg0 hg) rfl rfl (Nat.le_of_ble_eq_true rfl) (by decide) ⟨by decide, by decide⟩ rfl (pX1_down (E := E) (h := h) (M := M) (g := g) (v1 := v1) hg hG) (kF (st2 := [(0, (fX1_down M g v1))]) rfl (fun hG3 => ?_))
    refine T_iload_n (i := 2) (pc' := 32) dX1_stepFrom_31 rfl rfl rfl ?_
    refine T_iconst (pc' := 33) dX1_stepFrom_32 (by decide) rfl ?_
    have HJ4 : T E miX1_stepFrom 3 126 0 0 (fun r S M' => S = S0 ∧ G h M' ∧ Q r M') 49 [(2, g), (3, 0), (3, 0), (0, (wr32 ((fX1_across M g v1) + (if v2 = 1 then (1 : Int) else (if v2 = 3 then ((-1) : Int) else 0))))), (3, 0)] [(0, (if v2 = 2 then (1 : Int) else (if v2 = 0 then ((-1) : Int) else 0))), (0, (fX1_down M g v1))] S0 M 0 0 := by
      refine T_iadd (pc' := 50) dX1_stepFrom_49 rfl ?_
      refine T_istore (i := 4) (L' := [(2, g), (3, 0), (3, 0), (0, (wr32 ((fX1_across M g v1) + (if v2 = 1 then (1 : Int) else (if v2 = 3 then ((-1) : Int) else 0))))), (0, (wr32 ((fX1_down M g v1) + (if v2 = 2 then (1 : Int) else (if v2 = 0 then ((-1) : Int) else 0)))))]) (pc' := 52) dX1_stepFrom_50 (by decide) rfl rfl ?_
      refine T_iload_n (i := 3) (pc' := 53) dX1_stepFrom_52 rfl rfl rfl ?_
      refine T_if_lt (pc' := 78) dX1_stepFrom_53 (by decide) (pf := 56) rfl (fun c5 => ?_) (fun c5 => ?_)
      · skip
        refine T_iconst (pc' := 79) dX1_stepFrom_78 (by decide) rfl ?_
        exact T_iret dX1_stepFrom_79 rfl ⟨rfl, hG, (by rw [hQ]; exact ⟨(by unfold fX1_stepFrom; simp only [if_pos c5]), rfl⟩)⟩
      · skip
        refine T_iload_n (i := 3) (pc' := 57) dX1_stepFrom_56 rfl rfl rfl ?_
        refine T_aload_n (i := 0) (pc' := 58) dX1_stepFrom_57 rfl rfl rfl ?_
        refine U_gf (v := (0, (M g 9))) (k := 9) (kI := 9) (pc' := 61) dX1_stepFrom_58 rfl cl1 (pog0 hg) (shg0 hg) (by decide) flX1_58 rfl rfl (by decide) rfl rfl ?_
        refine T_icmp_ge (pc' := 78) dX1_stepFrom_61 (by decide) (pf := 64) rfl (fun c6 => ?_) (fun c6 => ?_)
        · skip
          refine T_iconst (pc' := 79) dX1_stepFrom_78 (by decide) rfl ?_
          exact T_iret dX1_stepFrom_79 rfl ⟨rfl, hG, (by rw [hQ]; exact ⟨(by unfold fX1_stepFrom; simp only [if_neg c5, if_pos c6]), rfl⟩)⟩
        · skip
          refine T_iload (i := 4) (pc' := 66) dX1_stepFrom_64 rfl rfl ?_
          refine T_if_lt (pc' := 78) dX1_stepFrom_66 (by decide) (pf := 69) rfl (fun c7 => ?_) (fun c7 => ?_)
          · skip
            refine T_iconst (pc' := 79) dX1_stepFrom_78 (by decide) rfl ?_
            exact T_iret dX1_stepFrom_79 rfl ⟨rfl, hG, (by rw [hQ]; exact ⟨(by unfold fX1_stepFrom; simp only [if_neg c5, if_neg c6, if_pos c7]), rfl⟩)⟩
          · skip
            refine T_iload (i := 4) (pc' := 71) dX1_stepFrom_69 rfl rfl ?_
            refine T_aload_n (i := 0) (pc' := 72) dX1_stepFrom_71 rfl rfl rfl ?_
            refine U_gf (v := (0, (M g 10))) (k := 10) (kI := 10) (pc' := 75) dX1_stepFrom_72 rfl cl1 (pog0 hg) (shg0 hg) (by decide) flX1_61 rfl rfl (by decide) rfl rfl ?_
            refine T_icmp_lt (pc' := 80) dX1_stepFrom_75 (by decide) (pf := 78) rfl (fun c8 => ?_) (fun c8 => ?_)
            · skip
              refine T_aload_n (i := 0) (pc' := 81) dX1_stepFrom_80 rfl rfl rfl ?_
              refine T_iload (i := 4) (pc' := 83) dX1_stepFrom_81 rfl rfl ?_
              refine T_aload_n (i := 0) (pc' := 84) dX1_stepFrom_83 rfl rfl rfl ?_
              refine U_gf (v := (0, (M g 9))) (k := 9) (kI := 9) (pc' := 87) dX1_stepFrom_84 rfl cl1 (pog0 hg) (shg0 hg) (by decide) flX1_58 rfl rfl (by decide) rfl rfl ?_
              refine T_imul (pc' := 88) dX1_stepFrom_87 rfl ?_
              refine T_iload_n (i := 3) (pc' := 89) dX1_stepFrom_88 rfl rfl rfl ?_
              refine T_iadd (pc' := 90) dX1_stepFrom_89 rfl ?_
              refine T_callV (av := [(0, (wr32 ((wr32 ((wr32 ((fX1_down M g v1) + (if v2 = 2 then (1 : Int) else (if v2 = 0 then ((-1) : Int) else 0)))) * (M g 9))) + (wr32 ((fX1_across M g v1) + (if v2 = 1 then (1 : Int) else (if v2 = 3 then ((-1) : Int) else 0)))))))]) (st := []) (d2 := 2) (nc2 := 0) (ns2 := 0) (pc' := 93) dX1_stepFrom_90 rfl mtX1_isFree mvX1_isFree mlX1_114 cl1 (shg0 hg) rfl rfl (Nat.le_of_ble_eq_true rfl) (by decide) ⟨by decide, by decide⟩ rfl (pX1_isFree (E := E) (h := h) (M := M) (g := g) (v1 := (wr32 ((wr32 ((wr32 ((fX1_down M g v1) + (if v2 = 2 then (1 : Int) else (if v2 = 0 then ((-1) : Int) else 0)))) * (M g 9))) + (wr32 ((fX1_across M g v1) + (if v2 = 1 then (1 : Int) else (if v2 = 3 then ((-1) : Int) else 0))))))) hg hG) (kF (st2 := [(0, (fX1_isFree M g (wr32 ((wr32 ((wr32 ((fX1_down M g v1) + (if v2 = 2 then (1 : Int) else (if v2 = 0 then ((-1) : Int) else 0)))) * (M g 9))) + (wr32 ((fX1_across M g v1) + (if v2 = 1 then (1 : Int) else (if v2 = 3 then ((-1) : Int) else 0))))))))]) rfl (fun hG9 => ?_))
              have HJ10 : T E miX1_stepFrom 3 126 0 0 (fun r S M' => S = S0 ∧ G h M' ∧ Q r M') 109 [(3, 0), (3, 0), (3, 0), (3, 0), (3, 0)] [(0, (if (fX1_isFree M g (wr32 ((wr32 ((wr32 ((fX1_down M g v1) + (if v2 = 2 then (1 : Int) else (if v2 = 0 then ((-1) : Int) else 0)))) * (M g 9))) + (wr32 ((fX1_across M g v1) + (if v2 = 1 then (1 : Int) else (if v2 = 3 then ((-1) : Int) else 0))))))) = 0 then ((-1) : Int) else (wr32 ((wr32 ((wr32 ((fX1_down M g v1) + (if v2 = 2 then (1 : Int) else (if v2 = 0 then ((-1) : Int) else 0)))) * (M g 9))) + (wr32 ((fX1_across M g v1) + (if v2 = 1 then (1 : Int) else (if v2 = 3 then ((-1) : Int) else 0))))))))] S0 M 0 0 := by
                exact T_iret dX1_stepFrom_109 rfl ⟨rfl, hG, (by rw [hQ]; exact ⟨(by unfold fX1_stepFrom; simp only [if_neg c5, if_neg c6, if_neg c7, if_pos c8]), rfl⟩)⟩
              refine T_if_eq (pc' := 108) dX1_stepFrom_93 (by decide) (pf := 96) rfl (fun c11 => ?_) (fun c11 => ?_)
              · skip
                refine T_iconst (pc' := 109) dX1_stepFrom_108 (by decide) rfl ?_
                exact T_wk (L' := [(3, 0), (3, 0), (3, 0), (3, 0), (3, 0)]) (by have q := HJ10; try simp only [if_pos c11] at q; exact q) ⟨Or.inl rfl, Or.inl rfl, Or.inl rfl, Or.inl rfl, Or.inl rfl, trivial⟩
              · skip
                refine T_iload (i := 4) (pc' := 98) dX1_stepFrom_96 rfl rfl ?_
                refine T_aload_n (i := 0) (pc' := 99) dX1_stepFrom_98 rfl rfl rfl ?_
                refine U_gf (v := (0, (M g 9))) (k := 9) (kI := 9) (pc' := 102) dX1_stepFrom_99 rfl cl1 (pog0 hg) (shg0 hg) (by decide) flX1_58 rfl rfl (by decide) rfl rfl ?_
                refine T_imul (pc' := 103) dX1_stepFrom_102 rfl ?_
                refine T_iload_n (i := 3) (pc' := 104) dX1_stepFrom_103 rfl rfl rfl ?_
                refine T_iadd (pc' := 105) dX1_stepFrom_104 rfl ?_
                refine T_goto (pc' := 109) dX1_stepFrom_105 (by decide) ?_
                exact T_wk (L' := [(3, 0), (3, 0), (3, 0), (3, 0), (3, 0)]) (by have q := HJ10; try simp only [if_neg c11] at q; exact q) ⟨Or.inl rfl, Or.inl rfl, Or.inl rfl, Or.inl rfl, Or.inl rfl, trivial⟩
            · skip
              refine T_iconst (pc' := 79) dX1_stepFrom_78 (by decide) rfl ?_
              exact T_iret dX1_stepFrom_79 rfl ⟨rfl, hG, (by rw [hQ]; exact ⟨(by unfold fX1_stepFrom; simp only [if_neg c5, if_neg c6, if_neg c7, if_neg c8]), rfl⟩)⟩
    refine T_icmp_ne (pc' := 40) dX1_stepFrom_33 (by decide) (pf := 36) rfl (fun c12 => ?_) (fun c12 => ?_)
    · skip
      refine T_iload_n (i := 2) (pc' := 41) dX1_stepFrom_40 rfl rfl rfl ?_
      refine T_if_ne (pc' := 48) dX1_stepFrom_41 (by decide) (pf := 44) rfl (fun c13 => ?_) (fun c13 => ?_)
      · skip
        refine T_iconst (pc' := 49) dX1_stepFrom_48 (by decide) rfl ?_
        exact T_wk (L' := [(2, g), (3, 0), (3, 0), (0, (wr32 ((fX1_across M g v1) + (if v2 = 1 then (1 : Int) else (if v2 = 3 then ((-1) : Int) else 0))))), (3, 0)]) (by have q := HJ4; try simp only [if_neg c12] at q; try simp only [if_neg c13] at q; exact q) ⟨Or.inr rfl, Or.inl rfl, Or.inl rfl, Or.inr rfl, Or.inl rfl, trivial⟩
      · skip
        refine T_iconst (pc' := 45) dX1_stepFrom_44 (by decide) rfl ?_
        refine T_goto (pc' := 49) dX1_stepFrom_45 (by decide) ?_
        exact T_wk (L' := [(2, g), (3, 0), (3, 0), (0, (wr32 ((fX1_across M g v1) + (if v2 = 1 then (1 : Int) else (if v2 = 3 then ((-1) : Int) else 0))))), (3, 0)]) (by have q := HJ4; try simp only [if_neg c12] at q; try simp only [if_pos c13] at q; exact q) ⟨Or.inr rfl, Or.inl rfl, Or.inl rfl, Or.inr rfl, Or.inl rfl, trivial⟩
    · skip
      refine T_iconst (pc' := 37) dX1_stepFrom_36 (by decide) rfl ?_
      refine T_goto (pc' := 49) dX1_stepFrom_37 (by decide) ?_
      exact T_wk (L' := [(2, g), (3, 0), (3, 0), (0, (wr32 ((fX1_across M g v1) + (if v2 = 1 then (1 : Int) else (if v2 = 3 then ((-1) : Int) else 0))))), (3, 0)]) (by have q := HJ4; try simp only [if_pos c12] at q; exact q) ⟨Or.inr rfl, Or.inl rfl, Or.inl rfl, Or.inr rfl, Or.inl rfl, trivial⟩
  refine T_icmp_ne (pc' := 14) dX1_stepFrom_7 (by decide) (pf := 10) rfl (fun c14 => ?_) (fun c14 => ?_)
  · skip
    refine T_iload_n (i := 2) (pc' := 15) dX1_stepFrom_14 rfl rfl rfl ?_
    refine T_iconst (pc' := 16) dX1_stepFrom_15 (by decide) rfl ?_
    refine T_icmp_ne (pc' := 23) dX1_stepFrom_16 (by decide) (pf := 19) rfl (fun c15 => ?_) (fun c15 => ?_)
    · skip
      refine T_iconst (pc' := 24) dX1_stepFrom_23 (by decide) rfl ?_
      exact T_wk (L' := [(2, g), (0, v1), (0, v2), (3, 0), (3, 0)]) (by have q := HJ2; try simp only [if_neg c14] at q; try simp only [if_neg c15] at q; exact q) ⟨Or.inr rfl, Or.inr rfl, Or.inr rfl, Or.inl rfl, Or.inl rfl, trivial⟩
    · skip
      refine T_iconst (pc' := 20) dX1_stepFrom_19 (by decide) rfl ?_
      refine T_goto (pc' := 24) dX1_stepFrom_20 (by decide) ?_
      exact T_wk (L' := [(2, g), (0, v1), (0, v2), (3, 0), (3, 0)]) (by have q := HJ2; try simp only [if_neg c14] at q; try simp only [if_pos c15] at q; exact q) ⟨Or.inr rfl, Or.inr rfl, Or.inr rfl, Or.inl rfl, Or.inl rfl, trivial⟩
  · skip
    refine T_iconst (pc' := 11) dX1_stepFrom_10 (by decide) rfl ?_
    refine T_goto (pc' := 24) dX1_stepFrom_11 (by decide) ?_
    exact T_wk (L' := [(2, g), (0, v1), (0, v2), (3, 0), (3, 0)]) (by have q := HJ2; try simp only [if_pos c14] at q; exact q) ⟨Or.inr rfl, Or.inr rfl, Or.inr rfl, Or.inl rfl, Or.inl rfl, trivial⟩
def lX1_cellsAround_5 (g : Int) : Nat → Int → Int → Int → Int → Mem → Int
  | 0, v1, v2, v3, v5, M => v3
  | k + 1, v1, v2, v3, v5, M => (lX1_cellsAround_5 g k v1 v2 (if v2 < (fX1_distance M g v1 v5) then v3 else (m_lor v3 (m_lshl 1 v5))) (v5 + 1) M)
set_option maxRecDepth 100000 in
set_option maxHeartbeats 2000000 in
theorem qX1_cellsAround_5 {E : EV} {h : Int} {Q : Option MV → Mem → Prop} {g : Int} (hg : isG g) : ∀ (k : Nat) (v1 v2 v3 v5 : Int) (M : Mem), 0 ≤ v5 → (((fX1_cells M g)) - v5).toNat = k → Q (some (1, (lX1_cellsAround_5 g k v1 v2 v3 v5 M))) M → G h M → TG E miX1_cellsAround 3 h Q 5 [(2, g), (0, v1), (0, v2), (1, v3), (3, 0), (0, v5)] [] M := by
  intro k
  induction k with
  | zero =>
    intro v1 v2 v3 v5 M hv0 hk hQ hG
    have hQ : Q (some (1, v3)) M := hQ
    refine T_iload (i := 5) (pc' := 7) dX1_cellsAround_5 rfl rfl ?_
    refine T_aload_n (i := 0) (pc' := 8) dX1_cellsAround_7 rfl rfl rfl ?_
    refine T_callV (av := []) (st := [(0, v5)]) (d2 := 1) (nc2 := 0) (ns2 := 0) (pc' := 11) dX1_cellsAround_8 rfl mtX1_cells mvX1_cells mlX1_85 cl1 (shg0 hg) rfl rfl (Nat.le_of_ble_eq_true rfl) (by decide) ⟨by decide, by decide⟩ rfl (pX1_cells (E := E) (h := h) (M := M) (g := g) hg hG) (kF (st2 := [(0, (fX1_cells M g)), (0, v5)]) rfl (fun hG1 => ?_))
    refine T_rng (fun _ z9 _ => ?_)
    have hB : r32 (fX1_cells M g) := (ok_cons.mp z9).1
    unfold r32 at hB
    refine T_icmp_ge (pc' := 38) dX1_cellsAround_11 (by decide) (pf := 14) rfl (fun c2 => ?_) (fun c2 => ?_)
    · skip
      refine T_lload_n (i := 3) (pc' := 39) dX1_cellsAround_38 rfl rfl rfl ?_
      exact T_lret dX1_cellsAround_39 rfl ⟨rfl, hG, hQ⟩
    · exact absurd c2 (by omega)
  | succ k ih =>
    intro v1 v2 v3 v5 M hv0 hk hQ hG
    have hQ : Q (some (1, (lX1_cellsAround_5 g k v1 v2 (if v2 < (fX1_distance M g v1 v5) then v3 else (m_lor v3 (m_lshl 1 v5))) (v5 + 1) M))) M := hQ
    refine T_iload (i := 5) (pc' := 7) dX1_cellsAround_5 rfl rfl ?_
    refine T_aload_n (i := 0) (pc' := 8) dX1_cellsAround_7 rfl rfl rfl ?_
    refine T_callV (av := []) (st := [(0, v5)]) (d2 := 1) (nc2 := 0) (ns2 := 0) (pc' := 11) dX1_cellsAround_8 rfl mtX1_cells mvX1_cells mlX1_85 cl1 (shg0 hg) rfl rfl (Nat.le_of_ble_eq_true rfl) (by decide) ⟨by decide, by decide⟩ rfl (pX1_cells (E := E) (h := h) (M := M) (g := g) hg hG) (kF (st2 := [(0, (fX1_cells M g)), (0, v5)]) rfl (fun hG1 => ?_))
    refine T_rng (fun _ z9 _ => ?_)
    have hB : r32 (fX1_cells M g) := (ok_cons.mp z9).1
    unfold r32 at hB
    refine T_icmp_ge (pc' := 38) dX1_cellsAround_11 (by decide) (pf := 14) rfl (fun c2 => ?_) (fun c2 => ?_)
    · exact absurd c2 (by omega)
    · skip
      have hw : wr32 (v5 + 1) = v5 + 1 := wr32_id (by unfold r32; omega)
      refine T_aload_n (i := 0) (pc' := 15) dX1_cellsAround_14 rfl rfl rfl ?_
      refine T_iload_n (i := 1) (pc' := 16) dX1_cellsAround_15 rfl rfl rfl ?_
      refine T_iload (i := 5) (pc' := 18) dX1_cellsAround_16 rfl rfl ?_
      refine T_callV (av := [(0, v1), (0, v5)]) (st := []) (d2 := 2) (nc2 := 0) (ns2 := 0) (pc' := 21) dX1_cellsAround_18 rfl mtX1_distance mvX1_distance mlX1_118 cl1 (shg0 hg) rfl rfl (Nat.le_of_ble_eq_true rfl) (by decide) ⟨by decide, by decide⟩ rfl (pX1_distance (E := E) (h := h) (M := M) (g := g) (v1 := v1) (v2 := v5) hg hG) (kF (st2 := [(0, (fX1_distance M g v1 v5))]) rfl (fun hG3 => ?_))
      refine T_iload_n (i := 2) (pc' := 22) dX1_cellsAround_21 rfl rfl rfl ?_
      have HJ4 : T E miX1_cellsAround 3 126 0 0 (fun r S M' => S = S0 ∧ G h M' ∧ Q r M') 32 [(2, g), (0, v1), (0, v2), (1, (if v2 < (fX1_distance M g v1 v5) then v3 else (m_lor v3 (m_lshl 1 v5)))), (3, 0), (0, v5)] [] S0 M 0 0 := by
        refine T_iinc (L' := [(2, g), (0, v1), (0, v2), (1, (if v2 < (fX1_distance M g v1 v5) then v3 else (m_lor v3 (m_lshl 1 v5)))), (3, 0), (0, (wr32 (v5 + 1)))]) (pc' := 35) dX1_cellsAround_32 rfl (by decide) rfl rfl ?_
        refine T_goto (pc' := 5) dX1_cellsAround_35 (by decide) ?_
        rw [hw]
        exact T_wk (ih _ _ _ (v5 + 1) _ (by omega) (by omega) hQ hG) ⟨Or.inr rfl, Or.inr rfl, Or.inr rfl, Or.inr rfl, Or.inl rfl, Or.inr rfl, trivial⟩
      refine T_icmp_gt (pc' := 32) dX1_cellsAround_22 (by decide) (pf := 25) rfl (fun c5 => ?_) (fun c5 => ?_)
      · skip
        exact T_wk (L' := [(2, g), (0, v1), (0, v2), (1, v3), (3, 0), (0, v5)]) (by have q := HJ4; try simp only [if_pos c5] at q; exact q) ⟨Or.inr rfl, Or.inr rfl, Or.inr rfl, Or.inr rfl, Or.inl rfl, Or.inr rfl, trivial⟩
      · skip
        refine T_lload_n (i := 3) (pc' := 26) dX1_cellsAround_25 rfl rfl rfl ?_
        refine T_lconst (v := 1) (pc' := 27) dX1_cellsAround_26 rfl (by decide) rfl ?_
        refine T_iload (i := 5) (pc' := 29) dX1_cellsAround_27 rfl rfl ?_
        refine T_lshl (pc' := 30) dX1_cellsAround_29 rfl ?_
        refine T_lor (pc' := 31) dX1_cellsAround_30 rfl ?_
        refine T_lstore_n (i := 3) (L' := [(2, g), (0, v1), (0, v2), (1, (m_lor v3 (m_lshl 1 v5))), (3, 0), (0, v5)]) (pc' := 32) dX1_cellsAround_31 rfl (by decide) rfl rfl ?_
        exact T_wk (L' := [(2, g), (0, v1), (0, v2), (1, (m_lor v3 (m_lshl 1 v5))), (3, 0), (0, v5)]) (by have q := HJ4; try simp only [if_neg c5] at q; exact q) ⟨Or.inr rfl, Or.inr rfl, Or.inr rfl, Or.inr rfl, Or.inl rfl, Or.inr rfl, trivial⟩
def fX1_cellsAround (M : Mem) (g : Int) (v1 : Int) (v2 : Int) : Int :=
  (lX1_cellsAround_5 g ((((fX1_cells M g)) : Int) - 0).toNat v1 v2 0 0 M)
set_option maxRecDepth 100000 in
theorem pX1_cellsAround {E : EV} {h : Int} {M : Mem} {g : Int} {v1 : Int} {v2 : Int} (hg : isG g) : C2 E miX1_cellsAround 3 h [(2, g), (0, v1), (0, v2)] M (fun r M' => r = some (1, (fX1_cellsAround M g v1 v2)) ∧ M' = M) := by
  obtain ⟨Q, hQ0⟩ : ∃ Q : Option MV → Mem → Prop, Q = (fun r M' => r = some (1, (fX1_cellsAround M g v1 v2)) ∧ M' = M) := ⟨_, rfl⟩
  rw [← hQ0]
  have hQ : Q (some (1, (lX1_cellsAround_5 g ((((fX1_cells M g)) : Int) - 0).toNat v1 v2 0 0 M))) M := by rw [hQ0]; exact ⟨rfl, rfl⟩
  refine C2_of (L := [(2, g), (0, v1), (0, v2), (3, 0), (3, 0), (3, 0)]) (by decide +kernel) (Nat.le_of_ble_eq_true rfl) rfl (fun hG => ?_)
  refine T_lconst (v := 0) (pc' := 1) dX1_cellsAround_0 rfl (by decide) rfl ?_
  refine T_lstore_n (i := 3) (L' := [(2, g), (0, v1), (0, v2), (1, 0), (3, 0), (3, 0)]) (pc' := 2) dX1_cellsAround_1 rfl (by decide) rfl rfl ?_
  refine T_iconst (pc' := 3) dX1_cellsAround_2 (by decide) rfl ?_
  refine T_istore (i := 5) (L' := [(2, g), (0, v1), (0, v2), (1, 0), (3, 0), (0, 0)]) (pc' := 5) dX1_cellsAround_3 (by decide) rfl rfl ?_
  exact T_wk (qX1_cellsAround_5 hg _ v1 v2 0 0 _ (by first | decide | omega) rfl hQ hG) ⟨Or.inr rfl, Or.inr rfl, Or.inr rfl, Or.inr rfl, Or.inl rfl, Or.inr rfl, trivial⟩
def fX1_isNear (M : Mem) (g : Int) (v1 : Int) (v2 : Int) : Int :=
  (if v1 < 0 then (0 : Int) else (if 54 ≤ v1 then (0 : Int) else (if (m_cmp (m_land (m_lshr (M (g + 16) v1) v2) 1) 1) = 0 then (1 : Int) else 0)))
set_option maxRecDepth 100000 in
theorem pX1_isNear {E : EV} {h : Int} {M : Mem} {g : Int} {v1 : Int} {v2 : Int} (hg : isG g) : C2 E miX1_isNear 1 h [(2, g), (0, v1), (0, v2)] M (fun r M' => r = some (0, (fX1_isNear M g v1 v2)) ∧ M' = M) := by
  obtain ⟨Q, hQ⟩ : ∃ Q : Option MV → Mem → Prop, Q = (fun r M' => r = some (0, (fX1_isNear M g v1 v2)) ∧ M' = M) := ⟨_, rfl⟩
  rw [← hQ]
  refine C2_of (L := [(2, g), (0, v1), (0, v2)]) (by decide +kernel) (Nat.le_of_ble_eq_true rfl) rfl (fun hG => ?_)
  refine T_iload_n (i := 1) (pc' := 1) dX1_isNear_0 rfl rfl rfl ?_
  have HJ1 : T E miX1_isNear 1 126 0 0 (fun r S M' => S = S0 ∧ G h M' ∧ Q r M') 33 [(3, 0), (3, 0), (3, 0)] [(0, (if v1 < 0 then (0 : Int) else (if 54 ≤ v1 then (0 : Int) else (if (m_cmp (m_land (m_lshr (M (g + 16) v1) v2) 1) 1) = 0 then (1 : Int) else 0))))] S0 M 0 0 := by
    exact T_zret dX1_isNear_33 rfl (by repeat' (first | apply bi | exact Or.inl rfl | exact Or.inr rfl)) ⟨rfl, hG, (by rw [hQ]; exact ⟨rfl, rfl⟩)⟩
  refine T_if_lt (pc' := 32) dX1_isNear_1 (by decide) (pf := 4) rfl (fun c2 => ?_) (fun c2 => ?_)
  · skip
    refine T_iconst (pc' := 33) dX1_isNear_32 (by decide) rfl ?_
    exact T_wk (L' := [(3, 0), (3, 0), (3, 0)]) (by have q := HJ1; try simp only [if_pos c2] at q; exact q) ⟨Or.inl rfl, Or.inl rfl, Or.inl rfl, trivial⟩
  · skip
    refine T_iload_n (i := 1) (pc' := 5) dX1_isNear_4 rfl rfl rfl ?_
    refine T_aload_n (i := 0) (pc' := 6) dX1_isNear_5 rfl rfl rfl ?_
    refine U_gr (q := (g + 16)) (k := 8) (kI := 8) (pc' := 9) dX1_isNear_6 rfl cl1 (pog0 hg) (shg0 hg) (by decide) flX1_40 rfl rfl rfl (grg0_8 hg hG) (pog16 hg) rfl ?_
    refine U_alen (nI := 54) (pc' := 10) dX1_isNear_9 (by decide) (by decide) (shg16 hg) rfl rfl ?_
    refine T_icmp_ge (pc' := 32) dX1_isNear_10 (by decide) (pf := 13) rfl (fun c3 => ?_) (fun c3 => ?_)
    · skip
      refine T_iconst (pc' := 33) dX1_isNear_32 (by decide) rfl ?_
      exact T_wk (L' := [(3, 0), (3, 0), (3, 0)]) (by have q := HJ1; try simp only [if_neg c2] at q; try simp only [if_pos c3] at q; exact q) ⟨Or.inl rfl, Or.inl rfl, Or.inl rfl, trivial⟩
    · skip
      refine T_aload_n (i := 0) (pc' := 14) dX1_isNear_13 rfl rfl rfl ?_
      refine U_gr (q := (g + 16)) (k := 8) (kI := 8) (pc' := 17) dX1_isNear_14 rfl cl1 (pog0 hg) (shg0 hg) (by decide) flX1_40 rfl rfl rfl (grg0_8 hg hG) (pog16 hg) rfl ?_
      refine T_iload_n (i := 1) (pc' := 18) dX1_isNear_17 rfl rfl rfl ?_
      refine T_lald (pc' := 19) dX1_isNear_18 (pog16 hg) (shg16 hg) (by omega) (by omega) rfl ?_
      refine T_iload_n (i := 2) (pc' := 20) dX1_isNear_19 rfl rfl rfl ?_
      refine T_lshr (pc' := 21) dX1_isNear_20 rfl ?_
      refine T_lconst (v := 1) (pc' := 22) dX1_isNear_21 rfl (by decide) rfl ?_
      refine T_land (pc' := 23) dX1_isNear_22 rfl ?_
      refine T_lconst (v := 1) (pc' := 24) dX1_isNear_23 rfl (by decide) rfl ?_
      refine T_lcmp (pc' := 25) dX1_isNear_24 rfl ?_
      refine T_if_ne (pc' := 32) dX1_isNear_25 (by decide) (pf := 28) rfl (fun c4 => ?_) (fun c4 => ?_)
      · skip
        refine T_iconst (pc' := 33) dX1_isNear_32 (by decide) rfl ?_
        exact T_wk (L' := [(3, 0), (3, 0), (3, 0)]) (by have q := HJ1; try simp only [if_neg c2] at q; try simp only [if_neg c3] at q; try simp only [if_neg c4] at q; exact q) ⟨Or.inl rfl, Or.inl rfl, Or.inl rfl, trivial⟩
      · skip
        refine T_iconst (pc' := 29) dX1_isNear_28 (by decide) rfl ?_
        refine T_goto (pc' := 33) dX1_isNear_29 (by decide) ?_
        exact T_wk (L' := [(3, 0), (3, 0), (3, 0)]) (by have q := HJ1; try simp only [if_neg c2] at q; try simp only [if_neg c3] at q; try simp only [if_pos c4] at q; exact q) ⟨Or.inl rfl, Or.inl rfl, Or.inl rfl, trivial⟩
theorem fbX1_isNear (M : Mem) (g : Int) (v1 : Int) (v2 : Int) : (fX1_isNear M g v1 v2) = 0 ∨ (fX1_isNear M g v1 v2) = 1 := by
  unfold fX1_isNear
  repeat' (first | apply bi | exact Or.inl rfl | exact Or.inr rfl)
def fX1_mayBe (M : Mem) (g : Int) (v1 : Int) (v2 : Int) : Int :=
  (if v1 = 0 then (if v2 < 0 then (0 : Int) else (if 120 < v2 then (0 : Int) else 1)) else (if v1 = 1 then (if v2 < 0 then (0 : Int) else (if 9 < v2 then (0 : Int) else 1)) else (if v1 = 2 then (fX1_isFree M g v2) else 0)))
set_option maxRecDepth 100000 in
theorem pX1_mayBe {E : EV} {h : Int} {M : Mem} {g : Int} {v1 : Int} {v2 : Int} (hg : isG g) : C2 E miX1_mayBe 3 h [(2, g), (0, v1), (0, v2)] M (fun r M' => r = some (0, (fX1_mayBe M g v1 v2)) ∧ M' = M) := by
  obtain ⟨Q, hQ⟩ : ∃ Q : Option MV → Mem → Prop, Q = (fun r M' => r = some (0, (fX1_mayBe M g v1 v2)) ∧ M' = M) := ⟨_, rfl⟩
  rw [← hQ]
  refine C2_of (L := [(2, g), (0, v1), (0, v2)]) (by decide +kernel) (Nat.le_of_ble_eq_true rfl) rfl (fun hG => ?_)
  refine T_iload_n (i := 1) (pc' := 1) dX1_mayBe_0 rfl rfl rfl ?_
  by_cases c1 : v1 = 0
  · skip
    refine T_tableIn (pc' := 28) dX1_mayBe_1 (by omega) (by omega) (by rw [c1]; rfl) (by decide) ?_
    refine T_iload_n (i := 2) (pc' := 29) dX1_mayBe_28 rfl rfl rfl ?_
    have HJ2 : T E miX1_mayBe 3 126 0 0 (fun r S M' => S = S0 ∧ G h M' ∧ Q r M') 43 [(3, 0), (3, 0), (3, 0)] [(0, (if v2 < 0 then (0 : Int) else (if 120 < v2 then (0 : Int) else 1)))] S0 M 0 0 := by
      exact T_zret dX1_mayBe_43 rfl (by repeat' (first | apply bi | exact Or.inl rfl | exact Or.inr rfl | apply fbX1_isFree)) ⟨rfl, hG, (by rw [hQ]; exact ⟨(by unfold fX1_mayBe; simp only [if_pos c1]), rfl⟩)⟩
    refine T_if_lt (pc' := 42) dX1_mayBe_29 (by decide) (pf := 32) rfl (fun c3 => ?_) (fun c3 => ?_)
    · skip
      refine T_iconst (pc' := 43) dX1_mayBe_42 (by decide) rfl ?_
      exact T_wk (L' := [(3, 0), (3, 0), (3, 0)]) (by have q := HJ2; try simp only [if_pos c3] at q; exact q) ⟨Or.inl rfl, Or.inl rfl, Or.inl rfl, trivial⟩
    · skip
      refine T_iload_n (i := 2) (pc' := 33) dX1_mayBe_32 rfl rfl rfl ?_
      refine T_bipush (pc' := 35) dX1_mayBe_33 rfl (by decide) rfl ?_
      refine T_icmp_gt (pc' := 42) dX1_mayBe_35 (by decide) (pf := 38) rfl (fun c4 => ?_) (fun c4 => ?_)
      · skip
        refine T_iconst (pc' := 43) dX1_mayBe_42 (by decide) rfl ?_
        exact T_wk (L' := [(3, 0), (3, 0), (3, 0)]) (by have q := HJ2; try simp only [if_neg c3] at q; try simp only [if_pos c4] at q; exact q) ⟨Or.inl rfl, Or.inl rfl, Or.inl rfl, trivial⟩
      · skip
        refine T_iconst (pc' := 39) dX1_mayBe_38 (by decide) rfl ?_
        refine T_goto (pc' := 43) dX1_mayBe_39 (by decide) ?_
        exact T_wk (L' := [(3, 0), (3, 0), (3, 0)]) (by have q := HJ2; try simp only [if_neg c3] at q; try simp only [if_neg c4] at q; exact q) ⟨Or.inl rfl, Or.inl rfl, Or.inl rfl, trivial⟩
  · skip
    by_cases c5 : v1 = 1
    · skip
      refine T_tableIn (pc' := 44) dX1_mayBe_1 (by omega) (by omega) (by rw [c5]; rfl) (by decide) ?_
      refine T_iload_n (i := 2) (pc' := 45) dX1_mayBe_44 rfl rfl rfl ?_
      have HJ6 : T E miX1_mayBe 3 126 0 0 (fun r S M' => S = S0 ∧ G h M' ∧ Q r M') 59 [(3, 0), (3, 0), (3, 0)] [(0, (if v2 < 0 then (0 : Int) else (if 9 < v2 then (0 : Int) else 1)))] S0 M 0 0 := by
        exact T_zret dX1_mayBe_59 rfl (by repeat' (first | apply bi | exact Or.inl rfl | exact Or.inr rfl | apply fbX1_isFree)) ⟨rfl, hG, (by rw [hQ]; exact ⟨(by unfold fX1_mayBe; simp only [if_neg c1, if_pos c5]), rfl⟩)⟩
      refine T_if_lt (pc' := 58) dX1_mayBe_45 (by decide) (pf := 48) rfl (fun c7 => ?_) (fun c7 => ?_)
      · skip
        refine T_iconst (pc' := 59) dX1_mayBe_58 (by decide) rfl ?_
        exact T_wk (L' := [(3, 0), (3, 0), (3, 0)]) (by have q := HJ6; try simp only [if_pos c7] at q; exact q) ⟨Or.inl rfl, Or.inl rfl, Or.inl rfl, trivial⟩
      · skip
        refine T_iload_n (i := 2) (pc' := 49) dX1_mayBe_48 rfl rfl rfl ?_
        refine T_bipush (pc' := 51) dX1_mayBe_49 rfl (by decide) rfl ?_
        refine T_icmp_gt (pc' := 58) dX1_mayBe_51 (by decide) (pf := 54) rfl (fun c8 => ?_) (fun c8 => ?_)
        · skip
          refine T_iconst (pc' := 59) dX1_mayBe_58 (by decide) rfl ?_
          exact T_wk (L' := [(3, 0), (3, 0), (3, 0)]) (by have q := HJ6; try simp only [if_neg c7] at q; try simp only [if_pos c8] at q; exact q) ⟨Or.inl rfl, Or.inl rfl, Or.inl rfl, trivial⟩
        · skip
          refine T_iconst (pc' := 55) dX1_mayBe_54 (by decide) rfl ?_
          refine T_goto (pc' := 59) dX1_mayBe_55 (by decide) ?_
          exact T_wk (L' := [(3, 0), (3, 0), (3, 0)]) (by have q := HJ6; try simp only [if_neg c7] at q; try simp only [if_neg c8] at q; exact q) ⟨Or.inl rfl, Or.inl rfl, Or.inl rfl, trivial⟩
    · skip
      by_cases c9 : v1 = 2
      · skip
        refine T_tableIn (pc' := 60) dX1_mayBe_1 (by omega) (by omega) (by rw [c9]; rfl) (by decide) ?_
        refine T_aload_n (i := 0) (pc' := 61) dX1_mayBe_60 rfl rfl rfl ?_
        refine T_iload_n (i := 2) (pc' := 62) dX1_mayBe_61 rfl rfl rfl ?_
        refine T_callV (av := [(0, v2)]) (st := []) (d2 := 2) (nc2 := 0) (ns2 := 0) (pc' := 65) dX1_mayBe_62 rfl mtX1_isFree mvX1_isFree mlX1_114 cl1 (shg0 hg) rfl rfl (Nat.le_of_ble_eq_true rfl) (by decide) ⟨by decide, by decide⟩ rfl (pX1_isFree (E := E) (h := h) (M := M) (g := g) (v1 := v2) hg hG) (kF (st2 := [(0, (fX1_isFree M g v2))]) rfl (fun hG10 => ?_))
        exact T_zret dX1_mayBe_65 rfl (by repeat' (first | apply bi | exact Or.inl rfl | exact Or.inr rfl | apply fbX1_isFree)) ⟨rfl, hG, (by rw [hQ]; exact ⟨(by unfold fX1_mayBe; simp only [if_neg c1, if_neg c5, if_pos c9]), rfl⟩)⟩
      · skip
        refine T_tableOut (pc' := 66) dX1_mayBe_1 (by omega) (by decide) ?_
        refine T_iconst (pc' := 67) dX1_mayBe_66 (by decide) rfl ?_
        exact T_zret dX1_mayBe_67 rfl (by decide) ⟨rfl, hG, (by rw [hQ]; exact ⟨(by unfold fX1_mayBe; simp only [if_neg c1, if_neg c5, if_neg c9]), rfl⟩)⟩
theorem fbX1_mayBe (M : Mem) (g : Int) (v1 : Int) (v2 : Int) : (fX1_mayBe M g v1 v2) = 0 ∨ (fX1_mayBe M g v1 v2) = 1 := by
  unfold fX1_mayBe
  repeat' (first | apply bi | exact Or.inl rfl | exact Or.inr rfl | apply fbX1_isFree)
def fX1_imageLength (M : Mem) (g : Int) : Int :=
  (wr32 ((wr32 ((wr32 (3 * (M (g + 1) 8))) + (M g 12))) + 1))
set_option maxRecDepth 100000 in
theorem pX1_imageLength {E : EV} {h : Int} {M : Mem} {g : Int} (hg : isG g) : C2 E miX1_imageLength 1 h [(2, g)] M (fun r M' => r = some (0, (fX1_imageLength M g)) ∧ M' = M) := by
  obtain ⟨Q, hQ⟩ : ∃ Q : Option MV → Mem → Prop, Q = (fun r M' => r = some (0, (fX1_imageLength M g)) ∧ M' = M) := ⟨_, rfl⟩
  rw [← hQ]
  refine C2_of (L := [(2, g)]) (by decide +kernel) (Nat.le_of_ble_eq_true rfl) rfl (fun hG => ?_)
  refine T_iconst (pc' := 1) dX1_imageLength_0 (by decide) rfl ?_
  refine T_aload_n (i := 0) (pc' := 2) dX1_imageLength_1 rfl rfl rfl ?_
  refine U_gr (q := (g + 1)) (k := 0) (kI := 0) (pc' := 5) dX1_imageLength_2 rfl cl1 (pog0 hg) (shg0 hg) (by decide) flX1_12 rfl rfl rfl (grg0_0 hg hG) (pog1 hg) rfl ?_
  refine U_gfN (v := (0, (M (g + 1) 8))) (k := 8) (kI := 8) (pc' := 8) dX1_imageLength_5 rfl cl4 (pog1 hg) (shg1 hg) (by decide) flX1_47 rfl rfl (by decide) rfl rfl ?_
  refine T_imul (pc' := 9) dX1_imageLength_8 rfl ?_
  refine T_aload_n (i := 0) (pc' := 10) dX1_imageLength_9 rfl rfl rfl ?_
  refine U_gf (v := (0, (M g 12))) (k := 12) (kI := 12) (pc' := 13) dX1_imageLength_10 rfl cl1 (pog0 hg) (shg0 hg) (by decide) flX1_67 rfl rfl (by decide) rfl rfl ?_
  refine T_iadd (pc' := 14) dX1_imageLength_13 rfl ?_
  refine T_iconst (pc' := 15) dX1_imageLength_14 (by decide) rfl ?_
  refine T_iadd (pc' := 16) dX1_imageLength_15 rfl ?_
  exact T_iret dX1_imageLength_16 rfl ⟨rfl, hG, (by rw [hQ]; exact ⟨rfl, rfl⟩)⟩
def fX1_checkWith (v0 : Int) (v1 : Int) : Int :=
  (Int.tmod (wr32 ((wr32 (3 * v0)) + v1)) 253)
set_option maxRecDepth 100000 in
theorem pX1_checkWith {E : EV} {h : Int} {M : Mem} {v0 : Int} {v1 : Int}  : C2 E miX1_checkWith 1 h [(0, v0), (0, v1)] M (fun r M' => r = some (0, (fX1_checkWith v0 v1)) ∧ M' = M) := by
  obtain ⟨Q, hQ⟩ : ∃ Q : Option MV → Mem → Prop, Q = (fun r M' => r = some (0, (fX1_checkWith v0 v1)) ∧ M' = M) := ⟨_, rfl⟩
  rw [← hQ]
  refine C2_of (L := [(0, v0), (0, v1)]) (by decide +kernel) (Nat.le_of_ble_eq_true rfl) rfl (fun hG => ?_)
  refine T_iconst (pc' := 1) dX1_checkWith_0 (by decide) rfl ?_
  refine T_iload_n (i := 0) (pc' := 2) dX1_checkWith_1 rfl rfl rfl ?_
  refine T_imul (pc' := 3) dX1_checkWith_2 rfl ?_
  refine T_iload_n (i := 1) (pc' := 4) dX1_checkWith_3 rfl rfl rfl ?_
  refine T_iadd (pc' := 5) dX1_checkWith_4 rfl ?_
  refine T_sipush (pc' := 8) dX1_checkWith_5 rfl (by decide) rfl ?_
  refine T_irem (pc' := 9) dX1_checkWith_8 (by decide) rfl ?_
  exact T_iret dX1_checkWith_9 rfl ⟨rfl, hG, (by rw [hQ]; exact ⟨rfl, rfl⟩)⟩
def fX8_byteAt (M : Mem) (v1 : Int) : Int :=
  (if v1 < 0 then ((-1) : Int) else (if (M 1 1) ≤ v1 then ((-1) : Int) else (if 1600 ≤ v1 then ((-1) : Int) else (M 2 v1))))
set_option maxRecDepth 100000 in
theorem pX8_byteAt {E : EV} {h : Int} {M : Mem} {v1 : Int}  : C2 E miX8_byteAt 1 h [(2, 1), (0, v1)] M (fun r M' => r = some (0, (fX8_byteAt M v1)) ∧ M' = M) := by
  obtain ⟨Q, hQ⟩ : ∃ Q : Option MV → Mem → Prop, Q = (fun r M' => r = some (0, (fX8_byteAt M v1)) ∧ M' = M) := ⟨_, rfl⟩
  rw [← hQ]
  refine C2_of (L := [(2, 1), (0, v1)]) (by decide +kernel) (Nat.le_of_ble_eq_true rfl) rfl (fun hG => ?_)
  refine T_iload_n (i := 1) (pc' := 1) dX8_byteAt_0 rfl rfl rfl ?_
  have HJ1 : T E miX8_byteAt 1 126 0 0 (fun r S M' => S = S0 ∧ G h M' ∧ Q r M') 31 [(3, 0), (3, 0)] [(0, (if v1 < 0 then ((-1) : Int) else (if (M 1 1) ≤ v1 then ((-1) : Int) else (if 1600 ≤ v1 then ((-1) : Int) else (M 2 v1)))))] S0 M 0 0 := by
    exact T_iret dX8_byteAt_31 rfl ⟨rfl, hG, (by rw [hQ]; exact ⟨rfl, rfl⟩)⟩
  refine T_if_lt (pc' := 30) dX8_byteAt_1 (by decide) (pf := 4) rfl (fun c2 => ?_) (fun c2 => ?_)
  · skip
    refine T_iconst (pc' := 31) dX8_byteAt_30 (by decide) rfl ?_
    exact T_wk (L' := [(3, 0), (3, 0)]) (by have q := HJ1; try simp only [if_pos c2] at q; exact q) ⟨Or.inl rfl, Or.inl rfl, trivial⟩
  · skip
    refine T_iload_n (i := 1) (pc' := 5) dX8_byteAt_4 rfl rfl rfl ?_
    refine T_aload_n (i := 0) (pc' := 6) dX8_byteAt_5 rfl rfl rfl ?_
    refine U_gf (v := (0, (M 1 1))) (k := 1) (kI := 1) (pc' := 9) dX8_byteAt_6 rfl cl8 (by decide) rfl (by decide) flX8_15 rfl rfl (by decide) rfl rfl ?_
    refine T_icmp_ge (pc' := 30) dX8_byteAt_9 (by decide) (pf := 12) rfl (fun c3 => ?_) (fun c3 => ?_)
    · skip
      refine T_iconst (pc' := 31) dX8_byteAt_30 (by decide) rfl ?_
      exact T_wk (L' := [(3, 0), (3, 0)]) (by have q := HJ1; try simp only [if_neg c2] at q; try simp only [if_pos c3] at q; exact q) ⟨Or.inl rfl, Or.inl rfl, trivial⟩
    · skip
      refine T_iload_n (i := 1) (pc' := 13) dX8_byteAt_12 rfl rfl rfl ?_
      refine T_aload_n (i := 0) (pc' := 14) dX8_byteAt_13 rfl rfl rfl ?_
      refine U_gr (q := 2) (k := 0) (kI := 0) (pc' := 17) dX8_byteAt_14 rfl cl8 (by decide) rfl (by decide) flX8_9 rfl rfl rfl (G_at hG 9 rfl) (by decide) rfl ?_
      refine U_alen (nI := 1600) (pc' := 18) dX8_byteAt_17 (by decide) (by decide) rfl rfl rfl ?_
      refine T_icmp_ge (pc' := 30) dX8_byteAt_18 (by decide) (pf := 21) rfl (fun c4 => ?_) (fun c4 => ?_)
      · skip
        refine T_iconst (pc' := 31) dX8_byteAt_30 (by decide) rfl ?_
        exact T_wk (L' := [(3, 0), (3, 0)]) (by have q := HJ1; try simp only [if_neg c2] at q; try simp only [if_neg c3] at q; try simp only [if_pos c4] at q; exact q) ⟨Or.inl rfl, Or.inl rfl, trivial⟩
      · skip
        refine T_aload_n (i := 0) (pc' := 22) dX8_byteAt_21 rfl rfl rfl ?_
        refine U_gr (q := 2) (k := 0) (kI := 0) (pc' := 25) dX8_byteAt_22 rfl cl8 (by decide) rfl (by decide) flX8_9 rfl rfl rfl (G_at hG 9 rfl) (by decide) rfl ?_
        refine T_iload_n (i := 1) (pc' := 26) dX8_byteAt_25 rfl rfl rfl ?_
        refine T_iald (pc' := 27) dX8_byteAt_26 (by decide) rfl (by omega) (by omega) rfl ?_
        refine T_goto (pc' := 31) dX8_byteAt_27 (by decide) ?_
        exact T_wk (L' := [(3, 0), (3, 0)]) (by have q := HJ1; try simp only [if_neg c2] at q; try simp only [if_neg c3] at q; try simp only [if_neg c4] at q; exact q) ⟨Or.inl rfl, Or.inl rfl, trivial⟩
def lX1_isImage_26 (g : Int) : Nat → Int → Int → Int → Mem → Int
  | 0, v2, v3, v4, M => (if (fX8_byteAt M v2) = v3 then (1 : Int) else 0)
  | k + 1, v2, v3, v4, M => (if (if (M (g + 1) 8) ≤ (wr32 (Int.tdiv v4 3)) then (if (fX8_byteAt M v4) = 0 then (1 : Int) else (if (fX8_byteAt M v4) = 1 then (1 : Int) else 0)) else (fX1_mayBe M g (Int.tmod v4 3) (fX8_byteAt M v4))) = 0 then 0 else (lX1_isImage_26 g k v2 (fX1_checkWith v3 (fX8_byteAt M v4)) (v4 + 1) M))
set_option maxRecDepth 100000 in
set_option maxHeartbeats 2000000 in
theorem qX1_isImage_26 {E : EV} {h : Int} {Q : Option MV → Mem → Prop} {g : Int} (hg : isG g) : ∀ (k : Nat) (v2 v3 v4 : Int) (M : Mem), 0 ≤ v4 → ((v2) - v4).toNat = k → Q (some (0, (lX1_isImage_26 g k v2 v3 v4 M))) M → G h M → TG E miX1_isImage 4 h Q 26 [(2, g), (2, 1), (0, v2), (0, v3), (0, v4), (3, 0), (3, 0)] [] M := by
  intro k
  induction k with
  | zero =>
    intro v2 v3 v4 M hv0 hk hQ hG
    have hQ : Q (some (0, (if (fX8_byteAt M v2) = v3 then (1 : Int) else 0))) M := hQ
    refine T_iload (i := 4) (pc' := 28) dX1_isImage_26 rfl rfl ?_
    refine T_iload_n (i := 2) (pc' := 29) dX1_isImage_28 rfl rfl rfl ?_
    refine T_rng (fun _ z9 _ => ?_)
    have hB : r32 v2 := (ok_cons.mp z9).1
    unfold r32 at hB
    refine T_icmp_ge (pc' := 105) dX1_isImage_29 (by decide) (pf := 32) rfl (fun c1 => ?_) (fun c1 => ?_)
    · skip
      refine T_aload_n (i := 1) (pc' := 106) dX1_isImage_105 rfl rfl rfl ?_
      refine T_iload_n (i := 2) (pc' := 107) dX1_isImage_106 rfl rfl rfl ?_
      refine T_callV (av := [(0, v2)]) (st := []) (d2 := 1) (nc2 := 0) (ns2 := 0) (pc' := 110) dX1_isImage_107 rfl mtX8_byteAt mvX8_byteAt mlX1_140 cl8 rfl rfl rfl (Nat.le_of_ble_eq_true rfl) (by decide) ⟨by decide, by decide⟩ rfl (pX8_byteAt (E := E) (h := h) (M := M) (v1 := v2) hG) (kF (st2 := [(0, (fX8_byteAt M v2))]) rfl (fun hG2 => ?_))
      refine T_iload_n (i := 3) (pc' := 111) dX1_isImage_110 rfl rfl rfl ?_
      have HJ3 : T E miX1_isImage 4 126 0 0 (fun r S M' => S = S0 ∧ G h M' ∧ Q r M') 119 [(3, 0), (3, 0), (3, 0), (3, 0), (3, 0), (3, 0), (3, 0)] [(0, (if (fX8_byteAt M v2) = v3 then (1 : Int) else 0))] S0 M 0 0 := by
        exact T_zret dX1_isImage_119 rfl (by repeat' (first | apply bi | exact Or.inl rfl | exact Or.inr rfl | apply fbX1_mayBe)) ⟨rfl, hG, hQ⟩
      refine T_icmp_ne (pc' := 118) dX1_isImage_111 (by decide) (pf := 114) rfl (fun c4 => ?_) (fun c4 => ?_)
      · skip
        refine T_iconst (pc' := 119) dX1_isImage_118 (by decide) rfl ?_
        exact T_wk (L' := [(3, 0), (3, 0), (3, 0), (3, 0), (3, 0), (3, 0), (3, 0)]) (by have q := HJ3; try simp only [if_neg c4] at q; exact q) ⟨Or.inl rfl, Or.inl rfl, Or.inl rfl, Or.inl rfl, Or.inl rfl, Or.inl rfl, Or.inl rfl, trivial⟩
      · skip
        refine T_iconst (pc' := 115) dX1_isImage_114 (by decide) rfl ?_
        refine T_goto (pc' := 119) dX1_isImage_115 (by decide) ?_
        exact T_wk (L' := [(3, 0), (3, 0), (3, 0), (3, 0), (3, 0), (3, 0), (3, 0)]) (by have q := HJ3; try simp only [if_pos c4] at q; exact q) ⟨Or.inl rfl, Or.inl rfl, Or.inl rfl, Or.inl rfl, Or.inl rfl, Or.inl rfl, Or.inl rfl, trivial⟩
    · exact absurd c1 (by omega)
  | succ k ih =>
    intro v2 v3 v4 M hv0 hk hQ hG
    have hQ : Q (some (0, (if (if (M (g + 1) 8) ≤ (wr32 (Int.tdiv v4 3)) then (if (fX8_byteAt M v4) = 0 then (1 : Int) else (if (fX8_byteAt M v4) = 1 then (1 : Int) else 0)) else (fX1_mayBe M g (Int.tmod v4 3) (fX8_byteAt M v4))) = 0 then 0 else (lX1_isImage_26 g k v2 (fX1_checkWith v3 (fX8_byteAt M v4)) (v4 + 1) M)))) M := hQ
    refine T_iload (i := 4) (pc' := 28) dX1_isImage_26 rfl rfl ?_
    refine T_iload_n (i := 2) (pc' := 29) dX1_isImage_28 rfl rfl rfl ?_
    refine T_rng (fun _ z9 _ => ?_)
    have hB : r32 v2 := (ok_cons.mp z9).1
    unfold r32 at hB
    refine T_icmp_ge (pc' := 105) dX1_isImage_29 (by decide) (pf := 32) rfl (fun c1 => ?_) (fun c1 => ?_)
    · exact absurd c1 (by omega)
    · skip
      have hw : wr32 (v4 + 1) = v4 + 1 := wr32_id (by unfold r32; omega)
      refine T_aload_n (i := 1) (pc' := 33) dX1_isImage_32 rfl rfl rfl ?_
      refine T_iload (i := 4) (pc' := 35) dX1_isImage_33 rfl rfl ?_
      refine T_callV (av := [(0, v4)]) (st := []) (d2 := 1) (nc2 := 0) (ns2 := 0) (pc' := 38) dX1_isImage_35 rfl mtX8_byteAt mvX8_byteAt mlX1_140 cl8 rfl rfl rfl (Nat.le_of_ble_eq_true rfl) (by decide) ⟨by decide, by decide⟩ rfl (pX8_byteAt (E := E) (h := h) (M := M) (v1 := v4) hG) (kF (st2 := [(0, (fX8_byteAt M v4))]) rfl (fun hG5 => ?_))
      refine T_istore (i := 5) (L' := [(2, g), (2, 1), (0, v2), (0, v3), (0, v4), (0, (fX8_byteAt M v4)), (3, 0)]) (pc' := 40) dX1_isImage_38 (by decide) rfl rfl ?_
      refine T_iload (i := 4) (pc' := 42) dX1_isImage_40 rfl rfl ?_
      refine T_iconst (pc' := 43) dX1_isImage_42 (by decide) rfl ?_
      refine T_idiv (pc' := 44) dX1_isImage_43 (by decide) rfl ?_
      refine T_aload_n (i := 0) (pc' := 45) dX1_isImage_44 rfl rfl rfl ?_
      refine U_gr (q := (g + 1)) (k := 0) (kI := 0) (pc' := 48) dX1_isImage_45 rfl cl1 (pog0 hg) (shg0 hg) (by decide) flX1_12 rfl rfl rfl (grg0_0 hg hG) (pog1 hg) rfl ?_
      refine U_gfN (v := (0, (M (g + 1) 8))) (k := 8) (kI := 8) (pc' := 51) dX1_isImage_48 rfl cl4 (pog1 hg) (shg1 hg) (by decide) flX1_47 rfl rfl (by decide) rfl rfl ?_
      have HJ6 : T E miX1_isImage 4 126 0 0 (fun r S M' => S = S0 ∧ G h M' ∧ Q r M') 83 [(2, g), (2, 1), (0, v2), (0, v3), (0, v4), (0, (fX8_byteAt M v4)), (3, 0)] [(0, (if (M (g + 1) 8) ≤ (wr32 (Int.tdiv v4 3)) then (if (fX8_byteAt M v4) = 0 then (1 : Int) else (if (fX8_byteAt M v4) = 1 then (1 : Int) else 0)) else (fX1_mayBe M g (Int.tmod v4 3) (fX8_byteAt M v4))))] S0 M 0 0 := by
        refine T_istore (i := 6) (L' := [(2, g), (2, 1), (0, v2), (0, v3), (0, v4), (0, (fX8_byteAt M v4)), (0, (if (M (g + 1) 8) ≤ (wr32 (Int.tdiv v4 3)) then (if (fX8_byteAt M v4) = 0 then (1 : Int) else (if (fX8_byteAt M v4) = 1 then (1 : Int) else 0)) else (fX1_mayBe M g (Int.tmod v4 3) (fX8_byteAt M v4))))]) (pc' := 85) dX1_isImage_83 (by decide) rfl rfl ?_
        refine T_iload (i := 6) (pc' := 87) dX1_isImage_85 rfl rfl ?_
        refine T_if_ne (pc' := 92) dX1_isImage_87 (by decide) (pf := 90) rfl (fun c7 => ?_) (fun c7 => ?_)
        · skip
          refine T_iload_n (i := 3) (pc' := 93) dX1_isImage_92 rfl rfl rfl ?_
          refine T_iload (i := 5) (pc' := 95) dX1_isImage_93 rfl rfl ?_
          refine T_callS (av := [(0, v3), (0, (fX8_byteAt M v4))]) (st := []) (d2 := 1) (nc2 := 0) (ns2 := 0) (pc' := 98) dX1_isImage_95 rfl mtX1_checkWith mvX1_checkWith mlX1_132 rfl rfl (Nat.le_of_ble_eq_true rfl) (by decide) ⟨by decide, by decide⟩ rfl (pX1_checkWith (E := E) (h := h) (M := M) (v0 := v3) (v1 := (fX8_byteAt M v4)) hG) (kF (st2 := [(0, (fX1_checkWith v3 (fX8_byteAt M v4)))]) rfl (fun hG8 => ?_))
          refine T_istore_n (i := 3) (L' := [(2, g), (2, 1), (0, v2), (0, (fX1_checkWith v3 (fX8_byteAt M v4))), (0, v4), (0, (fX8_byteAt M v4)), (0, (if (M (g + 1) 8) ≤ (wr32 (Int.tdiv v4 3)) then (if (fX8_byteAt M v4) = 0 then (1 : Int) else (if (fX8_byteAt M v4) = 1 then (1 : Int) else 0)) else (fX1_mayBe M g (Int.tmod v4 3) (fX8_byteAt M v4))))]) (pc' := 99) dX1_isImage_98 rfl (by decide) rfl rfl ?_
          refine T_iinc (L' := [(2, g), (2, 1), (0, v2), (0, (fX1_checkWith v3 (fX8_byteAt M v4))), (0, (wr32 (v4 + 1))), (0, (fX8_byteAt M v4)), (0, (if (M (g + 1) 8) ≤ (wr32 (Int.tdiv v4 3)) then (if (fX8_byteAt M v4) = 0 then (1 : Int) else (if (fX8_byteAt M v4) = 1 then (1 : Int) else 0)) else (fX1_mayBe M g (Int.tmod v4 3) (fX8_byteAt M v4))))]) (pc' := 102) dX1_isImage_99 rfl (by decide) rfl rfl ?_
          refine T_goto (pc' := 26) dX1_isImage_102 (by decide) ?_
          rw [hw]
          exact T_wk (ih _ _ (v4 + 1) _ (by omega) (by omega) (by have q := hQ; try simp only [if_neg c7] at q; exact q) hG) ⟨Or.inr rfl, Or.inr rfl, Or.inr rfl, Or.inr rfl, Or.inr rfl, Or.inl rfl, Or.inl rfl, trivial⟩
        · skip
          refine T_iconst (pc' := 91) dX1_isImage_90 (by decide) rfl ?_
          exact T_zret dX1_isImage_91 rfl (by decide) ⟨rfl, hG, (by have q := hQ; try simp only [if_pos c7] at q; exact q)⟩
      refine T_icmp_ge (pc' := 67) dX1_isImage_51 (by decide) (pf := 54) rfl (fun c9 => ?_) (fun c9 => ?_)
      · skip
        refine T_iload (i := 5) (pc' := 69) dX1_isImage_67 rfl rfl ?_
        refine T_if_eq (pc' := 78) dX1_isImage_69 (by decide) (pf := 72) rfl (fun c10 => ?_) (fun c10 => ?_)
        · skip
          refine T_iconst (pc' := 79) dX1_isImage_78 (by decide) rfl ?_
          refine T_goto (pc' := 83) dX1_isImage_79 (by decide) ?_
          exact T_wk (L' := [(2, g), (2, 1), (0, v2), (0, v3), (0, v4), (0, (fX8_byteAt M v4)), (3, 0)]) (by have q := HJ6; try simp only [if_pos c9] at q; try simp only [if_pos c10] at q; exact q) ⟨Or.inr rfl, Or.inr rfl, Or.inr rfl, Or.inr rfl, Or.inr rfl, Or.inr rfl, Or.inl rfl, trivial⟩
        · skip
          refine T_iload (i := 5) (pc' := 74) dX1_isImage_72 rfl rfl ?_
          refine T_iconst (pc' := 75) dX1_isImage_74 (by decide) rfl ?_
          refine T_icmp_ne (pc' := 82) dX1_isImage_75 (by decide) (pf := 78) rfl (fun c11 => ?_) (fun c11 => ?_)
          · skip
            refine T_iconst (pc' := 83) dX1_isImage_82 (by decide) rfl ?_
            exact T_wk (L' := [(2, g), (2, 1), (0, v2), (0, v3), (0, v4), (0, (fX8_byteAt M v4)), (3, 0)]) (by have q := HJ6; try simp only [if_pos c9] at q; try simp only [if_neg c10] at q; try simp only [if_neg c11] at q; exact q) ⟨Or.inr rfl, Or.inr rfl, Or.inr rfl, Or.inr rfl, Or.inr rfl, Or.inr rfl, Or.inl rfl, trivial⟩
          · skip
            refine T_iconst (pc' := 79) dX1_isImage_78 (by decide) rfl ?_
            refine T_goto (pc' := 83) dX1_isImage_79 (by decide) ?_
            exact T_wk (L' := [(2, g), (2, 1), (0, v2), (0, v3), (0, v4), (0, (fX8_byteAt M v4)), (3, 0)]) (by have q := HJ6; try simp only [if_pos c9] at q; try simp only [if_neg c10] at q; try simp only [if_pos c11] at q; exact q) ⟨Or.inr rfl, Or.inr rfl, Or.inr rfl, Or.inr rfl, Or.inr rfl, Or.inr rfl, Or.inl rfl, trivial⟩
      · skip
        refine T_aload_n (i := 0) (pc' := 55) dX1_isImage_54 rfl rfl rfl ?_
        refine T_iload (i := 4) (pc' := 57) dX1_isImage_55 rfl rfl ?_
        refine T_iconst (pc' := 58) dX1_isImage_57 (by decide) rfl ?_
        refine T_irem (pc' := 59) dX1_isImage_58 (by decide) rfl ?_
        refine T_iload (i := 5) (pc' := 61) dX1_isImage_59 rfl rfl ?_
        refine T_callV (av := [(0, (Int.tmod v4 3)), (0, (fX8_byteAt M v4))]) (st := []) (d2 := 3) (nc2 := 0) (ns2 := 0) (pc' := 64) dX1_isImage_61 rfl mtX1_mayBe mvX1_mayBe mlX1_143 cl1 (shg0 hg) rfl rfl (Nat.le_of_ble_eq_true rfl) (by decide) ⟨by decide, by decide⟩ rfl (pX1_mayBe (E := E) (h := h) (M := M) (g := g) (v1 := (Int.tmod v4 3)) (v2 := (fX8_byteAt M v4)) hg hG) (kF (st2 := [(0, (fX1_mayBe M g (Int.tmod v4 3) (fX8_byteAt M v4)))]) rfl (fun hG12 => ?_))
        refine T_goto (pc' := 83) dX1_isImage_64 (by decide) ?_
        exact T_wk (L' := [(2, g), (2, 1), (0, v2), (0, v3), (0, v4), (0, (fX8_byteAt M v4)), (3, 0)]) (by have q := HJ6; try simp only [if_neg c9] at q; exact q) ⟨Or.inr rfl, Or.inr rfl, Or.inr rfl, Or.inr rfl, Or.inr rfl, Or.inr rfl, Or.inl rfl, trivial⟩
def fX1_isImage (M : Mem) (g : Int) : Int :=
  (if (M 1 1) = (wr32 ((wr32 ((fX1_imageLength M g) - 1)) + 1)) then (lX1_isImage_26 g ((((wr32 ((fX1_imageLength M g) - 1))) : Int) - 0).toNat (wr32 ((fX1_imageLength M g) - 1)) 151 0 M) else 0)
set_option maxRecDepth 100000 in
theorem pX1_isImage {E : EV} {h : Int} {M : Mem} {g : Int} (hg : isG g) : C2 E miX1_isImage 4 h [(2, g), (2, 1)] M (fun r M' => r = some (0, (fX1_isImage M g)) ∧ M' = M) := by
  obtain ⟨Q, hQ0⟩ : ∃ Q : Option MV → Mem → Prop, Q = (fun r M' => r = some (0, (fX1_isImage M g)) ∧ M' = M) := ⟨_, rfl⟩
  rw [← hQ0]
  have hQ : Q (some (0, (if (M 1 1) = (wr32 ((wr32 ((fX1_imageLength M g) - 1)) + 1)) then (lX1_isImage_26 g ((((wr32 ((fX1_imageLength M g) - 1))) : Int) - 0).toNat (wr32 ((fX1_imageLength M g) - 1)) 151 0 M) else 0))) M := by rw [hQ0]; exact ⟨rfl, rfl⟩
  refine C2_of (L := [(2, g), (2, 1), (3, 0), (3, 0), (3, 0), (3, 0), (3, 0)]) (by decide +kernel) (Nat.le_of_ble_eq_true rfl) rfl (fun hG => ?_)
  refine T_aload_n (i := 0) (pc' := 1) dX1_isImage_0 rfl rfl rfl ?_
  refine T_callV (av := []) (st := []) (d2 := 1) (nc2 := 0) (ns2 := 0) (pc' := 4) dX1_isImage_1 rfl mtX1_imageLength mvX1_imageLength mlX1_126 cl1 (shg0 hg) rfl rfl (Nat.le_of_ble_eq_true rfl) (by decide) ⟨by decide, by decide⟩ rfl (pX1_imageLength (E := E) (h := h) (M := M) (g := g) hg hG) (kF (st2 := [(0, (fX1_imageLength M g))]) rfl (fun hG1 => ?_))
  refine T_iconst (pc' := 5) dX1_isImage_4 (by decide) rfl ?_
  refine T_isub (pc' := 6) dX1_isImage_5 rfl ?_
  refine T_istore_n (i := 2) (L' := [(2, g), (2, 1), (0, (wr32 ((fX1_imageLength M g) - 1))), (3, 0), (3, 0), (3, 0), (3, 0)]) (pc' := 7) dX1_isImage_6 rfl (by decide) rfl rfl ?_
  refine T_aload_n (i := 1) (pc' := 8) dX1_isImage_7 rfl rfl rfl ?_
  refine U_gfN (v := (0, (M 1 1))) (k := 1) (kI := 1) (pc' := 11) dX1_isImage_8 rfl cl8 (by decide) rfl (by decide) flX1_135 rfl rfl (by decide) rfl rfl ?_
  refine T_iload_n (i := 2) (pc' := 12) dX1_isImage_11 rfl rfl rfl ?_
  refine T_iconst (pc' := 13) dX1_isImage_12 (by decide) rfl ?_
  refine T_iadd (pc' := 14) dX1_isImage_13 rfl ?_
  refine T_icmp_eq (pc' := 19) dX1_isImage_14 (by decide) (pf := 17) rfl (fun c2 => ?_) (fun c2 => ?_)
  · skip
    refine T_sipush (pc' := 22) dX1_isImage_19 rfl (by decide) rfl ?_
    refine T_istore_n (i := 3) (L' := [(2, g), (2, 1), (0, (wr32 ((fX1_imageLength M g) - 1))), (0, 151), (3, 0), (3, 0), (3, 0)]) (pc' := 23) dX1_isImage_22 rfl (by decide) rfl rfl ?_
    refine T_iconst (pc' := 24) dX1_isImage_23 (by decide) rfl ?_
    refine T_istore (i := 4) (L' := [(2, g), (2, 1), (0, (wr32 ((fX1_imageLength M g) - 1))), (0, 151), (0, 0), (3, 0), (3, 0)]) (pc' := 26) dX1_isImage_24 (by decide) rfl rfl ?_
    exact T_wk (qX1_isImage_26 hg _ (wr32 ((fX1_imageLength M g) - 1)) 151 0 _ (by first | decide | omega) rfl (by have q := hQ; try simp only [if_pos c2] at q; exact q) hG) ⟨Or.inr rfl, Or.inr rfl, Or.inr rfl, Or.inr rfl, Or.inr rfl, Or.inl rfl, Or.inl rfl, trivial⟩
  · skip
    refine T_iconst (pc' := 18) dX1_isImage_17 (by decide) rfl ?_
    exact T_zret dX1_isImage_18 rfl (by decide) ⟨rfl, hG, (by have q := hQ; try simp only [if_neg c2] at q; exact q)⟩
def fX2_isFull (M : Mem) (g : Int) (v1 : Int) : Int :=
  (if v1 = 1 then (if (M g 11) < 15 then (0 : Int) else 1) else (if v1 = 2 then (if (M g 12) < 6 then (0 : Int) else 1) else (if v1 = 3 then (if (M (g + 1) 8) < 9 then (0 : Int) else 1) else (if v1 = 4 then (if (M g 13) < 4 then (0 : Int) else 1) else 0))))
set_option maxRecDepth 100000 in
theorem pX2_isFull {E : EV} {h : Int} {M : Mem} {g : Int} {v1 : Int} (hg : isG g) : C2 E miX2_isFull 1 h [(2, g), (0, v1)] M (fun r M' => r = some (0, (fX2_isFull M g v1)) ∧ M' = M) := by
  obtain ⟨Q, hQ⟩ : ∃ Q : Option MV → Mem → Prop, Q = (fun r M' => r = some (0, (fX2_isFull M g v1)) ∧ M' = M) := ⟨_, rfl⟩
  rw [← hQ]
  refine C2_of (L := [(2, g), (0, v1)]) (by decide +kernel) (Nat.le_of_ble_eq_true rfl) rfl (fun hG => ?_)
  refine T_iload_n (i := 1) (pc' := 1) dX2_isFull_0 rfl rfl rfl ?_
  by_cases c1 : v1 = 1
  · skip
    refine T_tableIn (pc' := 32) dX2_isFull_1 (by omega) (by omega) (by rw [c1]; rfl) (by decide) ?_
    refine T_aload_n (i := 0) (pc' := 33) dX2_isFull_32 rfl rfl rfl ?_
    refine U_gfN (v := (0, (M g 11))) (k := 11) (kI := 11) (pc' := 36) dX2_isFull_33 rfl cl1 (pog0 hg) (shg0 hg) (by decide) flX2_85 rfl rfl (by decide) rfl rfl ?_
    refine T_bipush (pc' := 38) dX2_isFull_36 rfl (by decide) rfl ?_
    have HJ2 : T E miX2_isFull 1 126 0 0 (fun r S M' => S = S0 ∧ G h M' ∧ Q r M') 46 [(3, 0), (3, 0)] [(0, (if (M g 11) < 15 then (0 : Int) else 1))] S0 M 0 0 := by
      exact T_zret dX2_isFull_46 rfl (by repeat' (first | apply bi | exact Or.inl rfl | exact Or.inr rfl)) ⟨rfl, hG, (by rw [hQ]; exact ⟨(by unfold fX2_isFull; simp only [if_pos c1]), rfl⟩)⟩
    refine T_icmp_lt (pc' := 45) dX2_isFull_38 (by decide) (pf := 41) rfl (fun c3 => ?_) (fun c3 => ?_)
    · skip
      refine T_iconst (pc' := 46) dX2_isFull_45 (by decide) rfl ?_
      exact T_wk (L' := [(3, 0), (3, 0)]) (by have q := HJ2; try simp only [if_pos c3] at q; exact q) ⟨Or.inl rfl, Or.inl rfl, trivial⟩
    · skip
      refine T_iconst (pc' := 42) dX2_isFull_41 (by decide) rfl ?_
      refine T_goto (pc' := 46) dX2_isFull_42 (by decide) ?_
      exact T_wk (L' := [(3, 0), (3, 0)]) (by have q := HJ2; try simp only [if_neg c3] at q; exact q) ⟨Or.inl rfl, Or.inl rfl, trivial⟩
  · skip
    by_cases c4 : v1 = 2
    · skip
      refine T_tableIn (pc' := 47) dX2_isFull_1 (by omega) (by omega) (by rw [c4]; rfl) (by decide) ?_
      refine T_aload_n (i := 0) (pc' := 48) dX2_isFull_47 rfl rfl rfl ?_
      refine U_gfN (v := (0, (M g 12))) (k := 12) (kI := 12) (pc' := 51) dX2_isFull_48 rfl cl1 (pog0 hg) (shg0 hg) (by decide) flX2_88 rfl rfl (by decide) rfl rfl ?_
      refine T_bipush (pc' := 53) dX2_isFull_51 rfl (by decide) rfl ?_
      have HJ5 : T E miX2_isFull 1 126 0 0 (fun r S M' => S = S0 ∧ G h M' ∧ Q r M') 61 [(3, 0), (3, 0)] [(0, (if (M g 12) < 6 then (0 : Int) else 1))] S0 M 0 0 := by
        exact T_zret dX2_isFull_61 rfl (by repeat' (first | apply bi | exact Or.inl rfl | exact Or.inr rfl)) ⟨rfl, hG, (by rw [hQ]; exact ⟨(by unfold fX2_isFull; simp only [if_neg c1, if_pos c4]), rfl⟩)⟩
      refine T_icmp_lt (pc' := 60) dX2_isFull_53 (by decide) (pf := 56) rfl (fun c6 => ?_) (fun c6 => ?_)
      · skip
        refine T_iconst (pc' := 61) dX2_isFull_60 (by decide) rfl ?_
        exact T_wk (L' := [(3, 0), (3, 0)]) (by have q := HJ5; try simp only [if_pos c6] at q; exact q) ⟨Or.inl rfl, Or.inl rfl, trivial⟩
      · skip
        refine T_iconst (pc' := 57) dX2_isFull_56 (by decide) rfl ?_
        refine T_goto (pc' := 61) dX2_isFull_57 (by decide) ?_
        exact T_wk (L' := [(3, 0), (3, 0)]) (by have q := HJ5; try simp only [if_neg c6] at q; exact q) ⟨Or.inl rfl, Or.inl rfl, trivial⟩
    · skip
      by_cases c7 : v1 = 3
      · skip
        refine T_tableIn (pc' := 62) dX2_isFull_1 (by omega) (by omega) (by rw [c7]; rfl) (by decide) ?_
        refine T_aload_n (i := 0) (pc' := 63) dX2_isFull_62 rfl rfl rfl ?_
        refine U_grN (q := (g + 1)) (k := 0) (kI := 0) (pc' := 66) dX2_isFull_63 rfl cl1 (pog0 hg) (shg0 hg) (by decide) flX2_91 rfl rfl rfl (grg0_0 hg hG) (pog1 hg) rfl ?_
        refine U_gfN (v := (0, (M (g + 1) 8))) (k := 8) (kI := 8) (pc' := 69) dX2_isFull_66 rfl cl4 (pog1 hg) (shg1 hg) (by decide) flX2_95 rfl rfl (by decide) rfl rfl ?_
        refine T_bipush (pc' := 71) dX2_isFull_69 rfl (by decide) rfl ?_
        have HJ8 : T E miX2_isFull 1 126 0 0 (fun r S M' => S = S0 ∧ G h M' ∧ Q r M') 79 [(3, 0), (3, 0)] [(0, (if (M (g + 1) 8) < 9 then (0 : Int) else 1))] S0 M 0 0 := by
          exact T_zret dX2_isFull_79 rfl (by repeat' (first | apply bi | exact Or.inl rfl | exact Or.inr rfl)) ⟨rfl, hG, (by rw [hQ]; exact ⟨(by unfold fX2_isFull; simp only [if_neg c1, if_neg c4, if_pos c7]), rfl⟩)⟩
        refine T_icmp_lt (pc' := 78) dX2_isFull_71 (by decide) (pf := 74) rfl (fun c9 => ?_) (fun c9 => ?_)
        · skip
          refine T_iconst (pc' := 79) dX2_isFull_78 (by decide) rfl ?_
          exact T_wk (L' := [(3, 0), (3, 0)]) (by have q := HJ8; try simp only [if_pos c9] at q; exact q) ⟨Or.inl rfl, Or.inl rfl, trivial⟩
        · skip
          refine T_iconst (pc' := 75) dX2_isFull_74 (by decide) rfl ?_
          refine T_goto (pc' := 79) dX2_isFull_75 (by decide) ?_
          exact T_wk (L' := [(3, 0), (3, 0)]) (by have q := HJ8; try simp only [if_neg c9] at q; exact q) ⟨Or.inl rfl, Or.inl rfl, trivial⟩
      · skip
        by_cases c10 : v1 = 4
        · skip
          refine T_tableIn (pc' := 80) dX2_isFull_1 (by omega) (by omega) (by rw [c10]; rfl) (by decide) ?_
          refine T_aload_n (i := 0) (pc' := 81) dX2_isFull_80 rfl rfl rfl ?_
          refine U_gfN (v := (0, (M g 13))) (k := 13) (kI := 13) (pc' := 84) dX2_isFull_81 rfl cl1 (pog0 hg) (shg0 hg) (by decide) flX2_100 rfl rfl (by decide) rfl rfl ?_
          refine T_iconst (pc' := 85) dX2_isFull_84 (by decide) rfl ?_
          have HJ11 : T E miX2_isFull 1 126 0 0 (fun r S M' => S = S0 ∧ G h M' ∧ Q r M') 93 [(3, 0), (3, 0)] [(0, (if (M g 13) < 4 then (0 : Int) else 1))] S0 M 0 0 := by
            exact T_zret dX2_isFull_93 rfl (by repeat' (first | apply bi | exact Or.inl rfl | exact Or.inr rfl)) ⟨rfl, hG, (by rw [hQ]; exact ⟨(by unfold fX2_isFull; simp only [if_neg c1, if_neg c4, if_neg c7, if_pos c10]), rfl⟩)⟩
          refine T_icmp_lt (pc' := 92) dX2_isFull_85 (by decide) (pf := 88) rfl (fun c12 => ?_) (fun c12 => ?_)
          · skip
            refine T_iconst (pc' := 93) dX2_isFull_92 (by decide) rfl ?_
            exact T_wk (L' := [(3, 0), (3, 0)]) (by have q := HJ11; try simp only [if_pos c12] at q; exact q) ⟨Or.inl rfl, Or.inl rfl, trivial⟩
          · skip
            refine T_iconst (pc' := 89) dX2_isFull_88 (by decide) rfl ?_
            refine T_goto (pc' := 93) dX2_isFull_89 (by decide) ?_
            exact T_wk (L' := [(3, 0), (3, 0)]) (by have q := HJ11; try simp only [if_neg c12] at q; exact q) ⟨Or.inl rfl, Or.inl rfl, trivial⟩
        · skip
          refine T_tableOut (pc' := 94) dX2_isFull_1 (by omega) (by decide) ?_
          refine T_iconst (pc' := 95) dX2_isFull_94 (by decide) rfl ?_
          exact T_zret dX2_isFull_95 rfl (by decide) ⟨rfl, hG, (by rw [hQ]; exact ⟨(by unfold fX2_isFull; simp only [if_neg c1, if_neg c4, if_neg c7, if_neg c10]), rfl⟩)⟩
theorem fbX2_isFull (M : Mem) (g : Int) (v1 : Int) : (fX2_isFull M g v1) = 0 ∨ (fX2_isFull M g v1) = 1 := by
  unfold fX2_isFull
  repeat' (first | apply bi | exact Or.inl rfl | exact Or.inr rfl)
def fX2_mayStand (M : Mem) (g : Int) (v1 : Int) (v2 : Int) : Int :=
  (if v1 = 1 then (if (fX1_doorIn M g v2) = (-1) then (if (fX1_isTaken M g v2) = 0 then (1 : Int) else 0) else 0) else (if v1 = 2 then (if (fX1_doorIn M g v2) = (-1) then (if (fX1_isFree M g v2) = 0 then (0 : Int) else 1) else 0) else (fX1_isFree M g v2)))
set_option maxRecDepth 100000 in
theorem pX2_mayStand {E : EV} {h : Int} {M : Mem} {g : Int} {v1 : Int} {v2 : Int} (hg : isG g) : C2 E miX2_mayStand 3 h [(2, g), (0, v1), (0, v2)] M (fun r M' => r = some (0, (fX2_mayStand M g v1 v2)) ∧ M' = M) := by
  obtain ⟨Q, hQ⟩ : ∃ Q : Option MV → Mem → Prop, Q = (fun r M' => r = some (0, (fX2_mayStand M g v1 v2)) ∧ M' = M) := ⟨_, rfl⟩
  rw [← hQ]
  refine C2_of (L := [(2, g), (0, v1), (0, v2)]) (by decide +kernel) (Nat.le_of_ble_eq_true rfl) rfl (fun hG => ?_)
  refine T_iload_n (i := 1) (pc' := 1) dX2_mayStand_0 rfl rfl rfl ?_
  by_cases c1 : v1 = 1
  · skip
    refine T_lookup (pc' := 28) dX2_mayStand_1 (by decide) (by rw [c1] <;> rfl) (by decide) ?_
    refine T_aload_n (i := 0) (pc' := 29) dX2_mayStand_28 rfl rfl rfl ?_
    refine T_iload_n (i := 2) (pc' := 30) dX2_mayStand_29 rfl rfl rfl ?_
    refine T_callV (av := [(0, v2)]) (st := []) (d2 := 2) (nc2 := 0) (ns2 := 0) (pc' := 33) dX2_mayStand_30 rfl mtX1_doorIn mvX1_doorIn mlX2_133 cl1 (shg0 hg) rfl rfl (Nat.le_of_ble_eq_true rfl) (by decide) ⟨by decide, by decide⟩ rfl (pX1_doorIn (E := E) (h := h) (M := M) (g := g) (v1 := v2) hg hG) (kF (st2 := [(0, (fX1_doorIn M g v2))]) rfl (fun hG2 => ?_))
    refine T_iconst (pc' := 34) dX2_mayStand_33 (by decide) rfl ?_
    have HJ3 : T E miX2_mayStand 3 126 0 0 (fun r S M' => S = S0 ∧ G h M' ∧ Q r M') 50 [(3, 0), (3, 0), (3, 0)] [(0, (if (fX1_doorIn M g v2) = (-1) then (if (fX1_isTaken M g v2) = 0 then (1 : Int) else 0) else 0))] S0 M 0 0 := by
      exact T_zret dX2_mayStand_50 rfl (by repeat' (first | apply bi | exact Or.inl rfl | exact Or.inr rfl | apply fbX1_isFree)) ⟨rfl, hG, (by rw [hQ]; exact ⟨(by unfold fX2_mayStand; simp only [if_pos c1]), rfl⟩)⟩
    refine T_icmp_ne (pc' := 49) dX2_mayStand_34 (by decide) (pf := 37) rfl (fun c4 => ?_) (fun c4 => ?_)
    · skip
      refine T_iconst (pc' := 50) dX2_mayStand_49 (by decide) rfl ?_
      exact T_wk (L' := [(3, 0), (3, 0), (3, 0)]) (by have q := HJ3; try simp only [if_neg c4] at q; exact q) ⟨Or.inl rfl, Or.inl rfl, Or.inl rfl, trivial⟩
    · skip
      refine T_aload_n (i := 0) (pc' := 38) dX2_mayStand_37 rfl rfl rfl ?_
      refine T_iload_n (i := 2) (pc' := 39) dX2_mayStand_38 rfl rfl rfl ?_
      refine T_callV (av := [(0, v2)]) (st := []) (d2 := 2) (nc2 := 0) (ns2 := 0) (pc' := 42) dX2_mayStand_39 rfl mtX1_isTaken mvX1_isTaken mlX2_137 cl1 (shg0 hg) rfl rfl (Nat.le_of_ble_eq_true rfl) (by decide) ⟨by decide, by decide⟩ rfl (pX1_isTaken (E := E) (h := h) (M := M) (g := g) (v1 := v2) hg hG) (kF (st2 := [(0, (fX1_isTaken M g v2))]) rfl (fun hG5 => ?_))
      refine T_if_ne (pc' := 49) dX2_mayStand_42 (by decide) (pf := 45) rfl (fun c6 => ?_) (fun c6 => ?_)
      · skip
        refine T_iconst (pc' := 50) dX2_mayStand_49 (by decide) rfl ?_
        exact T_wk (L' := [(3, 0), (3, 0), (3, 0)]) (by have q := HJ3; try simp only [if_pos c4] at q; try simp only [if_neg c6] at q; exact q) ⟨Or.inl rfl, Or.inl rfl, Or.inl rfl, trivial⟩
      · skip
        refine T_iconst (pc' := 46) dX2_mayStand_45 (by decide) rfl ?_
        refine T_goto (pc' := 50) dX2_mayStand_46 (by decide) ?_
        exact T_wk (L' := [(3, 0), (3, 0), (3, 0)]) (by have q := HJ3; try simp only [if_pos c4] at q; try simp only [if_pos c6] at q; exact q) ⟨Or.inl rfl, Or.inl rfl, Or.inl rfl, trivial⟩
  · skip
    by_cases c7 : v1 = 2
    · skip
      refine T_lookup (pc' := 51) dX2_mayStand_1 (by decide) (by rw [c7] <;> rfl) (by decide) ?_
      refine T_aload_n (i := 0) (pc' := 52) dX2_mayStand_51 rfl rfl rfl ?_
      refine T_iload_n (i := 2) (pc' := 53) dX2_mayStand_52 rfl rfl rfl ?_
      refine T_callV (av := [(0, v2)]) (st := []) (d2 := 2) (nc2 := 0) (ns2 := 0) (pc' := 56) dX2_mayStand_53 rfl mtX1_doorIn mvX1_doorIn mlX2_133 cl1 (shg0 hg) rfl rfl (Nat.le_of_ble_eq_true rfl) (by decide) ⟨by decide, by decide⟩ rfl (pX1_doorIn (E := E) (h := h) (M := M) (g := g) (v1 := v2) hg hG) (kF (st2 := [(0, (fX1_doorIn M g v2))]) rfl (fun hG8 => ?_))
      refine T_iconst (pc' := 57) dX2_mayStand_56 (by decide) rfl ?_
      have HJ9 : T E miX2_mayStand 3 126 0 0 (fun r S M' => S = S0 ∧ G h M' ∧ Q r M') 73 [(3, 0), (3, 0), (3, 0)] [(0, (if (fX1_doorIn M g v2) = (-1) then (if (fX1_isFree M g v2) = 0 then (0 : Int) else 1) else 0))] S0 M 0 0 := by
        exact T_zret dX2_mayStand_73 rfl (by repeat' (first | apply bi | exact Or.inl rfl | exact Or.inr rfl | apply fbX1_isFree)) ⟨rfl, hG, (by rw [hQ]; exact ⟨(by unfold fX2_mayStand; simp only [if_neg c1, if_pos c7]), rfl⟩)⟩
      refine T_icmp_ne (pc' := 72) dX2_mayStand_57 (by decide) (pf := 60) rfl (fun c10 => ?_) (fun c10 => ?_)
      · skip
        refine T_iconst (pc' := 73) dX2_mayStand_72 (by decide) rfl ?_
        exact T_wk (L' := [(3, 0), (3, 0), (3, 0)]) (by have q := HJ9; try simp only [if_neg c10] at q; exact q) ⟨Or.inl rfl, Or.inl rfl, Or.inl rfl, trivial⟩
      · skip
        refine T_aload_n (i := 0) (pc' := 61) dX2_mayStand_60 rfl rfl rfl ?_
        refine T_iload_n (i := 2) (pc' := 62) dX2_mayStand_61 rfl rfl rfl ?_
        refine T_callV (av := [(0, v2)]) (st := []) (d2 := 2) (nc2 := 0) (ns2 := 0) (pc' := 65) dX2_mayStand_62 rfl mtX1_isFree mvX1_isFree mlX2_141 cl1 (shg0 hg) rfl rfl (Nat.le_of_ble_eq_true rfl) (by decide) ⟨by decide, by decide⟩ rfl (pX1_isFree (E := E) (h := h) (M := M) (g := g) (v1 := v2) hg hG) (kF (st2 := [(0, (fX1_isFree M g v2))]) rfl (fun hG11 => ?_))
        refine T_if_eq (pc' := 72) dX2_mayStand_65 (by decide) (pf := 68) rfl (fun c12 => ?_) (fun c12 => ?_)
        · skip
          refine T_iconst (pc' := 73) dX2_mayStand_72 (by decide) rfl ?_
          exact T_wk (L' := [(3, 0), (3, 0), (3, 0)]) (by have q := HJ9; try simp only [if_pos c10] at q; try simp only [if_pos c12] at q; exact q) ⟨Or.inl rfl, Or.inl rfl, Or.inl rfl, trivial⟩
        · skip
          refine T_iconst (pc' := 69) dX2_mayStand_68 (by decide) rfl ?_
          refine T_goto (pc' := 73) dX2_mayStand_69 (by decide) ?_
          exact T_wk (L' := [(3, 0), (3, 0), (3, 0)]) (by have q := HJ9; try simp only [if_pos c10] at q; try simp only [if_neg c12] at q; exact q) ⟨Or.inl rfl, Or.inl rfl, Or.inl rfl, trivial⟩
    · skip
      refine T_lookup (off := 73) (pc' := 74) dX2_mayStand_1 (by decide) (by show (if 1 = v1 then 27 else if 2 = v1 then 50 else 73) = 73; rw [if_neg (fun z => c1 z.symm), if_neg (fun z => c7 z.symm)]) (by decide) ?_
      refine T_aload_n (i := 0) (pc' := 75) dX2_mayStand_74 rfl rfl rfl ?_
      refine T_iload_n (i := 2) (pc' := 76) dX2_mayStand_75 rfl rfl rfl ?_
      refine T_callV (av := [(0, v2)]) (st := []) (d2 := 2) (nc2 := 0) (ns2 := 0) (pc' := 79) dX2_mayStand_76 rfl mtX1_isFree mvX1_isFree mlX2_141 cl1 (shg0 hg) rfl rfl (Nat.le_of_ble_eq_true rfl) (by decide) ⟨by decide, by decide⟩ rfl (pX1_isFree (E := E) (h := h) (M := M) (g := g) (v1 := v2) hg hG) (kF (st2 := [(0, (fX1_isFree M g v2))]) rfl (fun hG13 => ?_))
      exact T_zret dX2_mayStand_79 rfl (by repeat' (first | apply bi | exact Or.inl rfl | exact Or.inr rfl | apply fbX1_isFree)) ⟨rfl, hG, (by rw [hQ]; exact ⟨(by unfold fX2_mayStand; simp only [if_neg c1, if_neg c7]), rfl⟩)⟩
theorem fbX2_mayStand (M : Mem) (g : Int) (v1 : Int) (v2 : Int) : (fX2_mayStand M g v1 v2) = 0 ∨ (fX2_mayStand M g v1 v2) = 1 := by
  unfold fX2_mayStand
  repeat' (first | apply bi | exact Or.inl rfl | exact Or.inr rfl | apply fbX1_isFree)
def fX9_fail  : Int :=
  0
def fmX9_fail (M : Mem) (v1 : Int) (v2 : Int) : Mem :=
  (if (M 3 4) = 0 then (mset (mset M 3 4 v1) 3 5 v2) else M)
theorem gX9_fail {h : Int} {M : Mem} {v1 : Int} {v2 : Int}  (hG : G h M) : G h (fmX9_fail M v1 v2) := by
  unfold fmX9_fail
  exact (G_ite (G_fld (x := 3) (i := 5) (y := v2) rfl (by decide) (by decide) (by decide) (G_fld (x := 3) (i := 4) (y := v1) rfl (by decide) (by decide) (by decide) hG)) hG)
set_option maxRecDepth 100000 in
theorem pX9_fail {E : EV} {h : Int} {M : Mem} {v1 : Int} {v2 : Int}  : C2 E miX9_fail 1 h [(2, 3), (0, v1), (0, v2)] M (fun r M' => r = some (0, fX9_fail) ∧ M' = (fmX9_fail M v1 v2)) := by
  obtain ⟨Q, hQ⟩ : ∃ Q : Option MV → Mem → Prop, Q = (fun r M' => r = some (0, fX9_fail) ∧ M' = (fmX9_fail M v1 v2)) := ⟨_, rfl⟩
  rw [← hQ]
  refine C2_of (L := [(2, 3), (0, v1), (0, v2)]) (by decide +kernel) (Nat.le_of_ble_eq_true rfl) rfl (fun hG => ?_)
  refine T_aload_n (i := 0) (pc' := 1) dX9_fail_0 rfl rfl rfl ?_
  refine U_gf (v := (0, (M 3 4))) (k := 4) (kI := 4) (pc' := 4) dX9_fail_1 rfl cl9 (by decide) rfl (by decide) flX9_25 rfl rfl (by decide) rfl rfl ?_
  have HJ1 : T E miX9_fail 1 126 0 0 (fun r S M' => S = S0 ∧ G h M' ∧ Q r M') 17 [(3, 0), (3, 0), (3, 0)] [] S0 (if (M 3 4) = 0 then (mset (mset M 3 4 v1) 3 5 v2) else M) 0 0 := by
    refine T_iconst (pc' := 18) dX9_fail_17 (by decide) rfl ?_
    exact T_zret dX9_fail_18 rfl (by decide) ⟨rfl, (G_ite (G_fld (x := 3) (i := 5) (y := v2) rfl (by decide) (by decide) (by decide) (G_fld (x := 3) (i := 4) (y := v1) rfl (by decide) (by decide) (by decide) hG)) hG), (by rw [hQ]; exact ⟨rfl, rfl⟩)⟩
  refine T_if_ne (pc' := 17) dX9_fail_4 (by decide) (pf := 7) rfl (fun c2 => ?_) (fun c2 => ?_)
  · skip
    exact T_wk (L' := [(3, 0), (3, 0), (3, 0)]) (by have q := HJ1; try simp only [if_neg c2] at q; exact q) ⟨Or.inl rfl, Or.inl rfl, Or.inl rfl, trivial⟩
  · skip
    refine T_aload_n (i := 0) (pc' := 8) dX9_fail_7 rfl rfl rfl ?_
    refine T_iload_n (i := 1) (pc' := 9) dX9_fail_8 rfl rfl rfl ?_
    refine U_pf (y := v1) (k := 4) (kI := 4) (pc' := 12) dX9_fail_9 rfl cl9 (by decide) rfl (by decide) flX9_25 rfl rfl rfl rfl rfl (by decide) (fun z => z) rfl ?_
    refine T_aload_n (i := 0) (pc' := 13) dX9_fail_12 rfl rfl rfl ?_
    refine T_iload_n (i := 2) (pc' := 14) dX9_fail_13 rfl rfl rfl ?_
    refine U_pf (y := v2) (k := 5) (kI := 5) (pc' := 17) dX9_fail_14 rfl cl9 (by decide) rfl (by decide) flX9_28 rfl rfl rfl rfl rfl (by decide) (fun z => z) rfl ?_
    exact T_wk (L' := [(3, 0), (3, 0), (3, 0)]) (by have q := HJ1; try simp only [if_pos c2] at q; exact q) ⟨Or.inl rfl, Or.inl rfl, Or.inl rfl, trivial⟩
theorem frX9_fail {M : Mem} {v1 : Int} {v2 : Int}  {q : Int} (hq0 : q ≠ 3) : (fmX9_fail M v1 v2) q = M q := by
  unfold fmX9_fail
  repeat' (first | rfl | rw [mset_p hq0] | rw [mcpy_p hq0] | rw [ite_ap] | split)
theorem fbX9_fail  : fX9_fail = 0 ∨ fX9_fail = 1 := by
  unfold fX9_fail
  repeat' (first | apply bi | exact Or.inl rfl | exact Or.inr rfl)
def fX9_letters (M : Mem) : Int :=
  (wr32 ((M 3 3) - (M 3 2)))
set_option maxRecDepth 100000 in
theorem pX9_letters {E : EV} {h : Int} {M : Mem}   : C2 E miX9_letters 1 h [(2, 3)] M (fun r M' => r = some (0, (fX9_letters M)) ∧ M' = M) := by
  obtain ⟨Q, hQ⟩ : ∃ Q : Option MV → Mem → Prop, Q = (fun r M' => r = some (0, (fX9_letters M)) ∧ M' = M) := ⟨_, rfl⟩
  rw [← hQ]
  refine C2_of (L := [(2, 3)]) (by decide +kernel) (Nat.le_of_ble_eq_true rfl) rfl (fun hG => ?_)
  refine T_aload_n (i := 0) (pc' := 1) dX9_letters_0 rfl rfl rfl ?_
  refine U_gf (v := (0, (M 3 3))) (k := 3) (kI := 3) (pc' := 4) dX9_letters_1 rfl cl9 (by decide) rfl (by decide) flX9_22 rfl rfl (by decide) rfl rfl ?_
  refine T_aload_n (i := 0) (pc' := 5) dX9_letters_4 rfl rfl rfl ?_
  refine U_gf (v := (0, (M 3 2))) (k := 2) (kI := 2) (pc' := 8) dX9_letters_5 rfl cl9 (by decide) rfl (by decide) flX9_19 rfl rfl (by decide) rfl rfl ?_
  refine T_isub (pc' := 9) dX9_letters_8 rfl ?_
  exact T_iret dX9_letters_9 rfl ⟨rfl, hG, (by rw [hQ]; exact ⟨rfl, rfl⟩)⟩
def fX9_isBlank (v0 : Int) : Int :=
  (if v0 = 10 then (1 : Int) else (if v0 = 32 then (1 : Int) else 0))
set_option maxRecDepth 100000 in
theorem pX9_isBlank {E : EV} {h : Int} {M : Mem} {v0 : Int}  : C2 E miX9_isBlank 1 h [(0, v0)] M (fun r M' => r = some (0, (fX9_isBlank v0)) ∧ M' = M) := by
  obtain ⟨Q, hQ⟩ : ∃ Q : Option MV → Mem → Prop, Q = (fun r M' => r = some (0, (fX9_isBlank v0)) ∧ M' = M) := ⟨_, rfl⟩
  rw [← hQ]
  refine C2_of (L := [(0, v0)]) (by decide +kernel) (Nat.le_of_ble_eq_true rfl) rfl (fun hG => ?_)
  refine T_iload_n (i := 0) (pc' := 1) dX9_isBlank_0 rfl rfl rfl ?_
  refine T_bipush (pc' := 3) dX9_isBlank_1 rfl (by decide) rfl ?_
  have HJ1 : T E miX9_isBlank 1 126 0 0 (fun r S M' => S = S0 ∧ G h M' ∧ Q r M') 17 [(3, 0)] [(0, (if v0 = 10 then (1 : Int) else (if v0 = 32 then (1 : Int) else 0)))] S0 M 0 0 := by
    exact T_zret dX9_isBlank_17 rfl (by repeat' (first | apply bi | exact Or.inl rfl | exact Or.inr rfl)) ⟨rfl, hG, (by rw [hQ]; exact ⟨rfl, rfl⟩)⟩
  refine T_icmp_eq (pc' := 12) dX9_isBlank_3 (by decide) (pf := 6) rfl (fun c2 => ?_) (fun c2 => ?_)
  · skip
    refine T_iconst (pc' := 13) dX9_isBlank_12 (by decide) rfl ?_
    refine T_goto (pc' := 17) dX9_isBlank_13 (by decide) ?_
    exact T_wk (L' := [(3, 0)]) (by have q := HJ1; try simp only [if_pos c2] at q; exact q) ⟨Or.inl rfl, trivial⟩
  · skip
    refine T_iload_n (i := 0) (pc' := 7) dX9_isBlank_6 rfl rfl rfl ?_
    refine T_bipush (pc' := 9) dX9_isBlank_7 rfl (by decide) rfl ?_
    refine T_icmp_ne (pc' := 16) dX9_isBlank_9 (by decide) (pf := 12) rfl (fun c3 => ?_) (fun c3 => ?_)
    · skip
      refine T_iconst (pc' := 17) dX9_isBlank_16 (by decide) rfl ?_
      exact T_wk (L' := [(3, 0)]) (by have q := HJ1; try simp only [if_neg c2] at q; try simp only [if_neg c3] at q; exact q) ⟨Or.inl rfl, trivial⟩
    · skip
      refine T_iconst (pc' := 13) dX9_isBlank_12 (by decide) rfl ?_
      refine T_goto (pc' := 17) dX9_isBlank_13 (by decide) ?_
      exact T_wk (L' := [(3, 0)]) (by have q := HJ1; try simp only [if_neg c2] at q; try simp only [if_pos c3] at q; exact q) ⟨Or.inl rfl, trivial⟩
theorem fbX9_isBlank (v0 : Int) : (fX9_isBlank v0) = 0 ∨ (fX9_isBlank v0) = 1 := by
  unfold fX9_isBlank
  repeat' (first | apply bi | exact Or.inl rfl | exact Or.inr rfl)
def fX9_kindOf (v0 : Int) : Int :=
  (if v0 = (-1) then 0 else (if v0 < 97 then (if v0 < 48 then (3 : Int) else (if 57 < v0 then (3 : Int) else 2)) else (if 122 < v0 then (if v0 < 48 then (3 : Int) else (if 57 < v0 then (3 : Int) else 2)) else 1)))
set_option maxRecDepth 100000 in
theorem pX9_kindOf {E : EV} {h : Int} {M : Mem} {v0 : Int}  : C2 E miX9_kindOf 1 h [(0, v0)] M (fun r M' => r = some (0, (fX9_kindOf v0)) ∧ M' = M) := by
  obtain ⟨Q, hQ⟩ : ∃ Q : Option MV → Mem → Prop, Q = (fun r M' => r = some (0, (fX9_kindOf v0)) ∧ M' = M) := ⟨_, rfl⟩
  rw [← hQ]
  refine C2_of (L := [(0, v0)]) (by decide +kernel) (Nat.le_of_ble_eq_true rfl) rfl (fun hG => ?_)
  refine T_iload_n (i := 0) (pc' := 1) dX9_kindOf_0 rfl rfl rfl ?_
  refine T_iconst (pc' := 2) dX9_kindOf_1 (by decide) rfl ?_
  refine T_icmp_ne (pc' := 7) dX9_kindOf_2 (by decide) (pf := 5) rfl (fun c1 => ?_) (fun c1 => ?_)
  · skip
    refine T_iload_n (i := 0) (pc' := 8) dX9_kindOf_7 rfl rfl rfl ?_
    refine T_bipush (pc' := 10) dX9_kindOf_8 rfl (by decide) rfl ?_
    refine T_icmp_lt (pc' := 21) dX9_kindOf_10 (by decide) (pf := 13) rfl (fun c2 => ?_) (fun c2 => ?_)
    · skip
      refine T_iload_n (i := 0) (pc' := 22) dX9_kindOf_21 rfl rfl rfl ?_
      refine T_bipush (pc' := 24) dX9_kindOf_22 rfl (by decide) rfl ?_
      have HJ3 : T E miX9_kindOf 1 126 0 0 (fun r S M' => S = S0 ∧ G h M' ∧ Q r M') 38 [(3, 0)] [(0, (if v0 < 48 then (3 : Int) else (if 57 < v0 then (3 : Int) else 2)))] S0 M 0 0 := by
        exact T_iret dX9_kindOf_38 rfl ⟨rfl, hG, (by rw [hQ]; exact ⟨(by unfold fX9_kindOf; simp only [if_neg c1, if_pos c2]), rfl⟩)⟩
      refine T_icmp_lt (pc' := 37) dX9_kindOf_24 (by decide) (pf := 27) rfl (fun c4 => ?_) (fun c4 => ?_)
      · skip
        refine T_iconst (pc' := 38) dX9_kindOf_37 (by decide) rfl ?_
        exact T_wk (L' := [(3, 0)]) (by have q := HJ3; try simp only [if_pos c4] at q; exact q) ⟨Or.inl rfl, trivial⟩
      · skip
        refine T_iload_n (i := 0) (pc' := 28) dX9_kindOf_27 rfl rfl rfl ?_
        refine T_bipush (pc' := 30) dX9_kindOf_28 rfl (by decide) rfl ?_
        refine T_icmp_gt (pc' := 37) dX9_kindOf_30 (by decide) (pf := 33) rfl (fun c5 => ?_) (fun c5 => ?_)
        · skip
          refine T_iconst (pc' := 38) dX9_kindOf_37 (by decide) rfl ?_
          exact T_wk (L' := [(3, 0)]) (by have q := HJ3; try simp only [if_neg c4] at q; try simp only [if_pos c5] at q; exact q) ⟨Or.inl rfl, trivial⟩
        · skip
          refine T_iconst (pc' := 34) dX9_kindOf_33 (by decide) rfl ?_
          refine T_goto (pc' := 38) dX9_kindOf_34 (by decide) ?_
          exact T_wk (L' := [(3, 0)]) (by have q := HJ3; try simp only [if_neg c4] at q; try simp only [if_neg c5] at q; exact q) ⟨Or.inl rfl, trivial⟩
    · skip
      refine T_iload_n (i := 0) (pc' := 14) dX9_kindOf_13 rfl rfl rfl ?_
      refine T_bipush (pc' := 16) dX9_kindOf_14 rfl (by decide) rfl ?_
      refine T_icmp_gt (pc' := 21) dX9_kindOf_16 (by decide) (pf := 19) rfl (fun c6 => ?_) (fun c6 => ?_)
      · skip
        refine T_iload_n (i := 0) (pc' := 22) dX9_kindOf_21 rfl rfl rfl ?_
        refine T_bipush (pc' := 24) dX9_kindOf_22 rfl (by decide) rfl ?_
        have HJ7 : T E miX9_kindOf 1 126 0 0 (fun r S M' => S = S0 ∧ G h M' ∧ Q r M') 38 [(3, 0)] [(0, (if v0 < 48 then (3 : Int) else (if 57 < v0 then (3 : Int) else 2)))] S0 M 0 0 := by
          exact T_iret dX9_kindOf_38 rfl ⟨rfl, hG, (by rw [hQ]; exact ⟨(by unfold fX9_kindOf; simp only [if_neg c1, if_neg c2, if_pos c6]), rfl⟩)⟩
        refine T_icmp_lt (pc' := 37) dX9_kindOf_24 (by decide) (pf := 27) rfl (fun c8 => ?_) (fun c8 => ?_)
        · skip
          refine T_iconst (pc' := 38) dX9_kindOf_37 (by decide) rfl ?_
          exact T_wk (L' := [(3, 0)]) (by have q := HJ7; try simp only [if_pos c8] at q; exact q) ⟨Or.inl rfl, trivial⟩
        · skip
          refine T_iload_n (i := 0) (pc' := 28) dX9_kindOf_27 rfl rfl rfl ?_
          refine T_bipush (pc' := 30) dX9_kindOf_28 rfl (by decide) rfl ?_
          refine T_icmp_gt (pc' := 37) dX9_kindOf_30 (by decide) (pf := 33) rfl (fun c9 => ?_) (fun c9 => ?_)
          · skip
            refine T_iconst (pc' := 38) dX9_kindOf_37 (by decide) rfl ?_
            exact T_wk (L' := [(3, 0)]) (by have q := HJ7; try simp only [if_neg c8] at q; try simp only [if_pos c9] at q; exact q) ⟨Or.inl rfl, trivial⟩
          · skip
            refine T_iconst (pc' := 34) dX9_kindOf_33 (by decide) rfl ?_
            refine T_goto (pc' := 38) dX9_kindOf_34 (by decide) ?_
            exact T_wk (L' := [(3, 0)]) (by have q := HJ7; try simp only [if_neg c8] at q; try simp only [if_neg c9] at q; exact q) ⟨Or.inl rfl, trivial⟩
      · skip
        refine T_iconst (pc' := 20) dX9_kindOf_19 (by decide) rfl ?_
        exact T_iret dX9_kindOf_20 rfl ⟨rfl, hG, (by rw [hQ]; exact ⟨(by unfold fX9_kindOf; simp only [if_neg c1, if_neg c2, if_neg c6]), rfl⟩)⟩
  · skip
    refine T_iconst (pc' := 6) dX9_kindOf_5 (by decide) rfl ?_
    exact T_iret dX9_kindOf_6 rfl ⟨rfl, hG, (by rw [hQ]; exact ⟨(by unfold fX9_kindOf; simp only [if_pos c1]), rfl⟩)⟩
def fX9_unasked  : Int :=
  fX9_fail
def fmX9_unasked (M : Mem) : Mem :=
  (fmX9_fail M 1 (M 3 2))
theorem gX9_unasked {h : Int} {M : Mem}   (hG : G h M) : G h (fmX9_unasked M) := by
  unfold fmX9_unasked
  exact (gX9_fail (h := h) (M := M) (v1 := 1) (v2 := (M 3 2)) hG)
set_option maxRecDepth 100000 in
theorem pX9_unasked {E : EV} {h : Int} {M : Mem}   : C2 E miX9_unasked 2 h [(2, 3)] M (fun r M' => r = some (0, fX9_unasked) ∧ M' = (fmX9_unasked M)) := by
  obtain ⟨Q, hQ⟩ : ∃ Q : Option MV → Mem → Prop, Q = (fun r M' => r = some (0, fX9_unasked) ∧ M' = (fmX9_unasked M)) := ⟨_, rfl⟩
  rw [← hQ]
  refine C2_of (L := [(2, 3)]) (by decide +kernel) (Nat.le_of_ble_eq_true rfl) rfl (fun hG => ?_)
  refine T_aload_n (i := 0) (pc' := 1) dX9_unasked_0 rfl rfl rfl ?_
  refine T_iconst (pc' := 2) dX9_unasked_1 (by decide) rfl ?_
  refine T_aload_n (i := 0) (pc' := 3) dX9_unasked_2 rfl rfl rfl ?_
  refine U_gf (v := (0, (M 3 2))) (k := 2) (kI := 2) (pc' := 6) dX9_unasked_3 rfl cl9 (by decide) rfl (by decide) flX9_19 rfl rfl (by decide) rfl rfl ?_
  refine T_callV (av := [(0, 1), (0, (M 3 2))]) (st := []) (d2 := 1) (nc2 := 0) (ns2 := 0) (pc' := 9) dX9_unasked_6 rfl mtX9_fail mvX9_fail mlX9_50 cl9 rfl rfl rfl (Nat.le_of_ble_eq_true rfl) (by decide) ⟨by decide, by decide⟩ rfl (pX9_fail (E := E) (h := h) (M := M) (v1 := 1) (v2 := (M 3 2)) hG) (kF (st2 := [(0, fX9_fail)]) rfl (fun hG1 => ?_))
  exact T_zret dX9_unasked_9 rfl (by repeat' (first | apply bi | exact Or.inl rfl | exact Or.inr rfl | apply fbX9_fail)) ⟨rfl, (gX9_fail (h := h) (M := M) (v1 := 1) (v2 := (M 3 2)) hG), (by rw [hQ]; exact ⟨rfl, rfl⟩)⟩
theorem frX9_unasked {M : Mem}  {q : Int} (hq0 : q ≠ 3) : (fmX9_unasked M) q = M q := by
  unfold fmX9_unasked
  repeat' (first | rfl | rw [mset_p hq0] | rw [mcpy_p hq0] | (rw [frX9_fail] <;> try assumption) | rw [ite_ap] | split)
theorem fbX9_unasked  : fX9_unasked = 0 ∨ fX9_unasked = 1 := by
  unfold fX9_unasked
  repeat' (first | apply bi | exact Or.inl rfl | exact Or.inr rfl | apply fbX9_fail)
def fX9_byteIn (M : Mem) (v1 : Int) : Int :=
  (fX8_byteAt M (wr32 ((M 3 2) + v1)))
set_option maxRecDepth 100000 in
theorem pX9_byteIn {E : EV} {h : Int} {M : Mem} {v1 : Int}  : C2 E miX9_byteIn 2 h [(2, 3), (0, v1)] M (fun r M' => r = some (0, (fX9_byteIn M v1)) ∧ M' = M) := by
  obtain ⟨Q, hQ⟩ : ∃ Q : Option MV → Mem → Prop, Q = (fun r M' => r = some (0, (fX9_byteIn M v1)) ∧ M' = M) := ⟨_, rfl⟩
  rw [← hQ]
  refine C2_of (L := [(2, 3), (0, v1)]) (by decide +kernel) (Nat.le_of_ble_eq_true rfl) rfl (fun hG => ?_)
  refine T_aload_n (i := 0) (pc' := 1) dX9_byteIn_0 rfl rfl rfl ?_
  refine U_gr (q := 1) (k := 0) (kI := 0) (pc' := 4) dX9_byteIn_1 rfl cl9 (by decide) rfl (by decide) flX9_9 rfl rfl rfl (G_at hG 10 rfl) (by decide) rfl ?_
  refine T_aload_n (i := 0) (pc' := 5) dX9_byteIn_4 rfl rfl rfl ?_
  refine U_gf (v := (0, (M 3 2))) (k := 2) (kI := 2) (pc' := 8) dX9_byteIn_5 rfl cl9 (by decide) rfl (by decide) flX9_19 rfl rfl (by decide) rfl rfl ?_
  refine T_iload_n (i := 1) (pc' := 9) dX9_byteIn_8 rfl rfl rfl ?_
  refine T_iadd (pc' := 10) dX9_byteIn_9 rfl ?_
  refine T_callV (av := [(0, (wr32 ((M 3 2) + v1)))]) (st := []) (d2 := 1) (nc2 := 0) (ns2 := 0) (pc' := 13) dX9_byteIn_10 rfl mtX8_byteAt mvX8_byteAt mlX9_39 cl8 rfl rfl rfl (Nat.le_of_ble_eq_true rfl) (by decide) ⟨by decide, by decide⟩ rfl (pX8_byteAt (E := E) (h := h) (M := M) (v1 := (wr32 ((M 3 2) + v1))) hG) (kF (st2 := [(0, (fX8_byteAt M (wr32 ((M 3 2) + v1))))]) rfl (fun hG1 => ?_))
  exact T_iret dX9_byteIn_13 rfl ⟨rfl, hG, (by rw [hQ]; exact ⟨rfl, rfl⟩)⟩
def fX9_isSign (M : Mem) (v1 : Int) : Int :=
  (if (M 3 1) = 3 then (if (fX8_byteAt M (M 3 2)) = v1 then (1 : Int) else 0) else 0)
set_option maxRecDepth 100000 in
theorem pX9_isSign {E : EV} {h : Int} {M : Mem} {v1 : Int}  : C2 E miX9_isSign 2 h [(2, 3), (0, v1)] M (fun r M' => r = some (0, (fX9_isSign M v1)) ∧ M' = M) := by
  obtain ⟨Q, hQ⟩ : ∃ Q : Option MV → Mem → Prop, Q = (fun r M' => r = some (0, (fX9_isSign M v1)) ∧ M' = M) := ⟨_, rfl⟩
  rw [← hQ]
  refine C2_of (L := [(2, 3), (0, v1)]) (by decide +kernel) (Nat.le_of_ble_eq_true rfl) rfl (fun hG => ?_)
  refine T_aload_n (i := 0) (pc' := 1) dX9_isSign_0 rfl rfl rfl ?_
  refine U_gf (v := (0, (M 3 1))) (k := 1) (kI := 1) (pc' := 4) dX9_isSign_1 rfl cl9 (by decide) rfl (by decide) flX9_15 rfl rfl (by decide) rfl rfl ?_
  refine T_iconst (pc' := 5) dX9_isSign_4 (by decide) rfl ?_
  have HJ1 : T E miX9_isSign 2 126 0 0 (fun r S M' => S = S0 ∧ G h M' ∧ Q r M') 28 [(3, 0), (3, 0)] [(0, (if (M 3 1) = 3 then (if (fX8_byteAt M (M 3 2)) = v1 then (1 : Int) else 0) else 0))] S0 M 0 0 := by
    exact T_zret dX9_isSign_28 rfl (by repeat' (first | apply bi | exact Or.inl rfl | exact Or.inr rfl)) ⟨rfl, hG, (by rw [hQ]; exact ⟨rfl, rfl⟩)⟩
  refine T_icmp_ne (pc' := 27) dX9_isSign_5 (by decide) (pf := 8) rfl (fun c2 => ?_) (fun c2 => ?_)
  · skip
    refine T_iconst (pc' := 28) dX9_isSign_27 (by decide) rfl ?_
    exact T_wk (L' := [(3, 0), (3, 0)]) (by have q := HJ1; try simp only [if_neg c2] at q; exact q) ⟨Or.inl rfl, Or.inl rfl, trivial⟩
  · skip
    refine T_aload_n (i := 0) (pc' := 9) dX9_isSign_8 rfl rfl rfl ?_
    refine U_gr (q := 1) (k := 0) (kI := 0) (pc' := 12) dX9_isSign_9 rfl cl9 (by decide) rfl (by decide) flX9_9 rfl rfl rfl (G_at hG 10 rfl) (by decide) rfl ?_
    refine T_aload_n (i := 0) (pc' := 13) dX9_isSign_12 rfl rfl rfl ?_
    refine U_gf (v := (0, (M 3 2))) (k := 2) (kI := 2) (pc' := 16) dX9_isSign_13 rfl cl9 (by decide) rfl (by decide) flX9_19 rfl rfl (by decide) rfl rfl ?_
    refine T_callV (av := [(0, (M 3 2))]) (st := []) (d2 := 1) (nc2 := 0) (ns2 := 0) (pc' := 19) dX9_isSign_16 rfl mtX8_byteAt mvX8_byteAt mlX9_39 cl8 rfl rfl rfl (Nat.le_of_ble_eq_true rfl) (by decide) ⟨by decide, by decide⟩ rfl (pX8_byteAt (E := E) (h := h) (M := M) (v1 := (M 3 2)) hG) (kF (st2 := [(0, (fX8_byteAt M (M 3 2)))]) rfl (fun hG3 => ?_))
    refine T_iload_n (i := 1) (pc' := 20) dX9_isSign_19 rfl rfl rfl ?_
    refine T_icmp_ne (pc' := 27) dX9_isSign_20 (by decide) (pf := 23) rfl (fun c4 => ?_) (fun c4 => ?_)
    · skip
      refine T_iconst (pc' := 28) dX9_isSign_27 (by decide) rfl ?_
      exact T_wk (L' := [(3, 0), (3, 0)]) (by have q := HJ1; try simp only [if_pos c2] at q; try simp only [if_neg c4] at q; exact q) ⟨Or.inl rfl, Or.inl rfl, trivial⟩
    · skip
      refine T_iconst (pc' := 24) dX9_isSign_23 (by decide) rfl ?_
      refine T_goto (pc' := 28) dX9_isSign_24 (by decide) ?_
      exact T_wk (L' := [(3, 0), (3, 0)]) (by have q := HJ1; try simp only [if_pos c2] at q; try simp only [if_pos c4] at q; exact q) ⟨Or.inl rfl, Or.inl rfl, trivial⟩
theorem fbX9_isSign (M : Mem) (v1 : Int) : (fX9_isSign M v1) = 0 ∨ (fX9_isSign M v1) = 1 := by
  unfold fX9_isSign
  repeat' (first | apply bi | exact Or.inl rfl | exact Or.inr rfl)
def fX2_wayOf (v0 : Int) : Int :=
  (if v0 = 101 then 1 else (if v0 = 110 then 0 else (if v0 = 115 then 2 else (if v0 = 119 then 3 else (if v0 = 120 then 4 else (-1))))))
set_option maxRecDepth 100000 in
theorem pX2_wayOf {E : EV} {h : Int} {M : Mem} {v0 : Int}  : C2 E miX2_wayOf 1 h [(0, v0)] M (fun r M' => r = some (0, (fX2_wayOf v0)) ∧ M' = M) := by
  obtain ⟨Q, hQ⟩ : ∃ Q : Option MV → Mem → Prop, Q = (fun r M' => r = some (0, (fX2_wayOf v0)) ∧ M' = M) := ⟨_, rfl⟩
  rw [← hQ]
  refine C2_of (L := [(0, v0)]) (by decide +kernel) (Nat.le_of_ble_eq_true rfl) rfl (fun hG => ?_)
  refine T_iload_n (i := 0) (pc' := 1) dX2_wayOf_0 rfl rfl rfl ?_
  by_cases c1 : v0 = 101
  · skip
    refine T_lookup (pc' := 54) dX2_wayOf_1 (by decide) (by rw [c1] <;> rfl) (by decide) ?_
    refine T_iconst (pc' := 55) dX2_wayOf_54 (by decide) rfl ?_
    exact T_iret dX2_wayOf_55 rfl ⟨rfl, hG, (by rw [hQ]; exact ⟨(by unfold fX2_wayOf; simp only [if_pos c1]), rfl⟩)⟩
  · skip
    by_cases c2 : v0 = 110
    · skip
      refine T_lookup (pc' := 52) dX2_wayOf_1 (by decide) (by rw [c2] <;> rfl) (by decide) ?_
      refine T_iconst (pc' := 53) dX2_wayOf_52 (by decide) rfl ?_
      exact T_iret dX2_wayOf_53 rfl ⟨rfl, hG, (by rw [hQ]; exact ⟨(by unfold fX2_wayOf; simp only [if_neg c1, if_pos c2]), rfl⟩)⟩
    · skip
      by_cases c3 : v0 = 115
      · skip
        refine T_lookup (pc' := 56) dX2_wayOf_1 (by decide) (by rw [c3] <;> rfl) (by decide) ?_
        refine T_iconst (pc' := 57) dX2_wayOf_56 (by decide) rfl ?_
        exact T_iret dX2_wayOf_57 rfl ⟨rfl, hG, (by rw [hQ]; exact ⟨(by unfold fX2_wayOf; simp only [if_neg c1, if_neg c2, if_pos c3]), rfl⟩)⟩
      · skip
        by_cases c4 : v0 = 119
        · skip
          refine T_lookup (pc' := 58) dX2_wayOf_1 (by decide) (by rw [c4] <;> rfl) (by decide) ?_
          refine T_iconst (pc' := 59) dX2_wayOf_58 (by decide) rfl ?_
          exact T_iret dX2_wayOf_59 rfl ⟨rfl, hG, (by rw [hQ]; exact ⟨(by unfold fX2_wayOf; simp only [if_neg c1, if_neg c2, if_neg c3, if_pos c4]), rfl⟩)⟩
        · skip
          by_cases c5 : v0 = 120
          · skip
            refine T_lookup (pc' := 60) dX2_wayOf_1 (by decide) (by rw [c5] <;> rfl) (by decide) ?_
            refine T_iconst (pc' := 61) dX2_wayOf_60 (by decide) rfl ?_
            exact T_iret dX2_wayOf_61 rfl ⟨rfl, hG, (by rw [hQ]; exact ⟨(by unfold fX2_wayOf; simp only [if_neg c1, if_neg c2, if_neg c3, if_neg c4, if_pos c5]), rfl⟩)⟩
          · skip
            refine T_lookup (off := 61) (pc' := 62) dX2_wayOf_1 (by decide) (by show (if 101 = v0 then 53 else if 110 = v0 then 51 else if 115 = v0 then 55 else if 119 = v0 then 57 else if 120 = v0 then 59 else 61) = 61; rw [if_neg (fun z => c1 z.symm), if_neg (fun z => c2 z.symm), if_neg (fun z => c3 z.symm), if_neg (fun z => c4 z.symm), if_neg (fun z => c5 z.symm)]) (by decide) ?_
            refine T_iconst (pc' := 63) dX2_wayOf_62 (by decide) rfl ?_
            exact T_iret dX2_wayOf_63 rfl ⟨rfl, hG, (by rw [hQ]; exact ⟨(by unfold fX2_wayOf; simp only [if_neg c1, if_neg c2, if_neg c3, if_neg c4, if_neg c5]), rfl⟩)⟩
def fX11_hasBit (v0 : Int) (v1 : Int) : Int :=
  (if v1 < 0 then (0 : Int) else (if 31 ≤ v1 then (0 : Int) else (if (m_and (m_shr v0 v1) 1) = 1 then (1 : Int) else 0)))
set_option maxRecDepth 100000 in
theorem pX11_hasBit {E : EV} {h : Int} {M : Mem} {v0 : Int} {v1 : Int}  : C2 E miX11_hasBit 1 h [(0, v0), (0, v1)] M (fun r M' => r = some (0, (fX11_hasBit v0 v1)) ∧ M' = M) := by
  obtain ⟨Q, hQ⟩ : ∃ Q : Option MV → Mem → Prop, Q = (fun r M' => r = some (0, (fX11_hasBit v0 v1)) ∧ M' = M) := ⟨_, rfl⟩
  rw [← hQ]
  refine C2_of (L := [(0, v0), (0, v1)]) (by decide +kernel) (Nat.le_of_ble_eq_true rfl) rfl (fun hG => ?_)
  refine T_iload_n (i := 1) (pc' := 1) dX11_hasBit_0 rfl rfl rfl ?_
  have HJ1 : T E miX11_hasBit 1 126 0 0 (fun r S M' => S = S0 ∧ G h M' ∧ Q r M') 24 [(3, 0), (3, 0)] [(0, (if v1 < 0 then (0 : Int) else (if 31 ≤ v1 then (0 : Int) else (if (m_and (m_shr v0 v1) 1) = 1 then (1 : Int) else 0))))] S0 M 0 0 := by
    exact T_zret dX11_hasBit_24 rfl (by repeat' (first | apply bi | exact Or.inl rfl | exact Or.inr rfl)) ⟨rfl, hG, (by rw [hQ]; exact ⟨rfl, rfl⟩)⟩
  refine T_if_lt (pc' := 23) dX11_hasBit_1 (by decide) (pf := 4) rfl (fun c2 => ?_) (fun c2 => ?_)
  · skip
    refine T_iconst (pc' := 24) dX11_hasBit_23 (by decide) rfl ?_
    exact T_wk (L' := [(3, 0), (3, 0)]) (by have q := HJ1; try simp only [if_pos c2] at q; exact q) ⟨Or.inl rfl, Or.inl rfl, trivial⟩
  · skip
    refine T_iload_n (i := 1) (pc' := 5) dX11_hasBit_4 rfl rfl rfl ?_
    refine T_bipush (pc' := 7) dX11_hasBit_5 rfl (by decide) rfl ?_
    refine T_icmp_ge (pc' := 23) dX11_hasBit_7 (by decide) (pf := 10) rfl (fun c3 => ?_) (fun c3 => ?_)
    · skip
      refine T_iconst (pc' := 24) dX11_hasBit_23 (by decide) rfl ?_
      exact T_wk (L' := [(3, 0), (3, 0)]) (by have q := HJ1; try simp only [if_neg c2] at q; try simp only [if_pos c3] at q; exact q) ⟨Or.inl rfl, Or.inl rfl, trivial⟩
    · skip
      refine T_iload_n (i := 0) (pc' := 11) dX11_hasBit_10 rfl rfl rfl ?_
      refine T_iload_n (i := 1) (pc' := 12) dX11_hasBit_11 rfl rfl rfl ?_
      refine T_ishr (pc' := 13) dX11_hasBit_12 rfl ?_
      refine T_iconst (pc' := 14) dX11_hasBit_13 (by decide) rfl ?_
      refine T_iand (pc' := 15) dX11_hasBit_14 rfl ?_
      refine T_iconst (pc' := 16) dX11_hasBit_15 (by decide) rfl ?_
      refine T_icmp_ne (pc' := 23) dX11_hasBit_16 (by decide) (pf := 19) rfl (fun c4 => ?_) (fun c4 => ?_)
      · skip
        refine T_iconst (pc' := 24) dX11_hasBit_23 (by decide) rfl ?_
        exact T_wk (L' := [(3, 0), (3, 0)]) (by have q := HJ1; try simp only [if_neg c2] at q; try simp only [if_neg c3] at q; try simp only [if_neg c4] at q; exact q) ⟨Or.inl rfl, Or.inl rfl, trivial⟩
      · skip
        refine T_iconst (pc' := 20) dX11_hasBit_19 (by decide) rfl ?_
        refine T_goto (pc' := 24) dX11_hasBit_20 (by decide) ?_
        exact T_wk (L' := [(3, 0), (3, 0)]) (by have q := HJ1; try simp only [if_neg c2] at q; try simp only [if_neg c3] at q; try simp only [if_pos c4] at q; exact q) ⟨Or.inl rfl, Or.inl rfl, trivial⟩
theorem fbX11_hasBit (v0 : Int) (v1 : Int) : (fX11_hasBit v0 v1) = 0 ∨ (fX11_hasBit v0 v1) = 1 := by
  unfold fX11_hasBit
  repeat' (first | apply bi | exact Or.inl rfl | exact Or.inr rfl)
def fX3_doingOf (M : Mem) (v1 : Int) (v2 : Int) : Int :=
  (if v1 < 0 then 0 else (if (fX11_hasBit (M 16 8) v1) = 0 then 0 else (if (fX11_get M 19 9 v1) = (-1) then 1 else (if (fX11_get M 19 9 v1) ≤ v2 then (if (wr32 ((fX11_get M 19 9 v1) + (M 16 9))) ≤ v2 then (if (fX11_get M 21 9 v1) = (-1) then (3 : Int) else (if (fX11_get M 21 9 v1) ≤ v2 then (4 : Int) else 3)) else 2) else 1))))
set_option maxRecDepth 100000 in
theorem pX3_doingOf {E : EV} {h : Int} {M : Mem} {v1 : Int} {v2 : Int}  : C2 E miX3_doingOf 2 h [(2, 16), (0, v1), (0, v2)] M (fun r M' => r = some (0, (fX3_doingOf M v1 v2)) ∧ M' = M) := by
  obtain ⟨Q, hQ⟩ : ∃ Q : Option MV → Mem → Prop, Q = (fun r M' => r = some (0, (fX3_doingOf M v1 v2)) ∧ M' = M) := ⟨_, rfl⟩
  rw [← hQ]
  refine C2_of (L := [(2, 16), (0, v1), (0, v2), (3, 0), (3, 0)]) (by decide +kernel) (Nat.le_of_ble_eq_true rfl) rfl (fun hG => ?_)
  refine T_iload_n (i := 1) (pc' := 1) dX3_doingOf_0 rfl rfl rfl ?_
  refine T_if_lt (pc' := 15) dX3_doingOf_1 (by decide) (pf := 4) rfl (fun c1 => ?_) (fun c1 => ?_)
  · skip
    refine T_iconst (pc' := 16) dX3_doingOf_15 (by decide) rfl ?_
    exact T_iret dX3_doingOf_16 rfl ⟨rfl, hG, (by rw [hQ]; exact ⟨(by unfold fX3_doingOf; simp only [if_pos c1]), rfl⟩)⟩
  · skip
    refine T_aload_n (i := 0) (pc' := 5) dX3_doingOf_4 rfl rfl rfl ?_
    refine U_gf (v := (0, (M 16 8))) (k := 8) (kI := 8) (pc' := 8) dX3_doingOf_5 rfl cl3 (by decide) rfl (by decide) flX3_36 rfl rfl (by decide) rfl rfl ?_
    refine T_iload_n (i := 1) (pc' := 9) dX3_doingOf_8 rfl rfl rfl ?_
    refine T_callSN (av := [(0, (M 16 8)), (0, v1)]) (st := []) (d2 := 1) (nc2 := 0) (ns2 := 0) (pc' := 12) dX3_doingOf_9 rfl mtX11_hasBit mvX11_hasBit mlX3_76 rfl rfl (Nat.le_of_ble_eq_true rfl) (by decide) ⟨by decide, by decide⟩ rfl (pX11_hasBit (E := E) (h := h) (M := M) (v0 := (M 16 8)) (v1 := v1) hG) (kF (st2 := [(0, (fX11_hasBit (M 16 8) v1))]) rfl (fun hG2 => ?_))
    refine T_if_ne (pc' := 17) dX3_doingOf_12 (by decide) (pf := 15) rfl (fun c3 => ?_) (fun c3 => ?_)
    · skip
      refine T_aload_n (i := 0) (pc' := 18) dX3_doingOf_17 rfl rfl rfl ?_
      refine U_gr (q := 19) (k := 2) (kI := 2) (pc' := 21) dX3_doingOf_18 rfl cl3 (by decide) rfl (by decide) flX3_18 rfl rfl rfl (G_at hG 24 rfl) (by decide) rfl ?_
      refine T_iload_n (i := 1) (pc' := 22) dX3_doingOf_21 rfl rfl rfl ?_
      refine T_callSN (av := [(2, 19), (0, v1)]) (st := []) (d2 := 1) (nc2 := 0) (ns2 := 0) (pc' := 25) dX3_doingOf_22 rfl mtX11_get mvX11_get mlX3_67 rfl rfl (Nat.le_of_ble_eq_true rfl) (by decide) ⟨by decide, by decide⟩ rfl (pX11_get (E := E) (h := h) (M := M) (p0 := 19) (np0 := 9) (v1 := v1) (by decide) rfl (by decide) hG) (kF (st2 := [(0, (fX11_get M 19 9 v1))]) rfl (fun hG4 => ?_))
      refine T_istore_n (i := 3) (L' := [(2, 16), (0, v1), (0, v2), (0, (fX11_get M 19 9 v1)), (3, 0)]) (pc' := 26) dX3_doingOf_25 rfl (by decide) rfl rfl ?_
      refine T_iload_n (i := 3) (pc' := 27) dX3_doingOf_26 rfl rfl rfl ?_
      refine T_iconst (pc' := 28) dX3_doingOf_27 (by decide) rfl ?_
      refine T_icmp_eq (pc' := 36) dX3_doingOf_28 (by decide) (pf := 31) rfl (fun c5 => ?_) (fun c5 => ?_)
      · skip
        refine T_iconst (pc' := 37) dX3_doingOf_36 (by decide) rfl ?_
        exact T_iret dX3_doingOf_37 rfl ⟨rfl, hG, (by rw [hQ]; exact ⟨(by unfold fX3_doingOf; simp only [if_neg c1, if_neg c3, if_pos c5]), rfl⟩)⟩
      · skip
        refine T_iload_n (i := 2) (pc' := 32) dX3_doingOf_31 rfl rfl rfl ?_
        refine T_iload_n (i := 3) (pc' := 33) dX3_doingOf_32 rfl rfl rfl ?_
        refine T_icmp_ge (pc' := 38) dX3_doingOf_33 (by decide) (pf := 36) rfl (fun c6 => ?_) (fun c6 => ?_)
        · skip
          refine T_iload_n (i := 2) (pc' := 39) dX3_doingOf_38 rfl rfl rfl ?_
          refine T_iload_n (i := 3) (pc' := 40) dX3_doingOf_39 rfl rfl rfl ?_
          refine T_aload_n (i := 0) (pc' := 41) dX3_doingOf_40 rfl rfl rfl ?_
          refine U_gf (v := (0, (M 16 9))) (k := 9) (kI := 9) (pc' := 44) dX3_doingOf_41 rfl cl3 (by decide) rfl (by decide) flX3_40 rfl rfl (by decide) rfl rfl ?_
          refine T_iadd (pc' := 45) dX3_doingOf_44 rfl ?_
          refine T_icmp_ge (pc' := 50) dX3_doingOf_45 (by decide) (pf := 48) rfl (fun c7 => ?_) (fun c7 => ?_)
          · skip
            refine T_aload_n (i := 0) (pc' := 51) dX3_doingOf_50 rfl rfl rfl ?_
            refine U_gr (q := 21) (k := 4) (kI := 4) (pc' := 54) dX3_doingOf_51 rfl cl3 (by decide) rfl (by decide) flX3_24 rfl rfl rfl (G_at hG 26 rfl) (by decide) rfl ?_
            refine T_iload_n (i := 1) (pc' := 55) dX3_doingOf_54 rfl rfl rfl ?_
            refine T_callSN (av := [(2, 21), (0, v1)]) (st := []) (d2 := 1) (nc2 := 0) (ns2 := 0) (pc' := 58) dX3_doingOf_55 rfl mtX11_get mvX11_get mlX3_67 rfl rfl (Nat.le_of_ble_eq_true rfl) (by decide) ⟨by decide, by decide⟩ rfl (pX11_get (E := E) (h := h) (M := M) (p0 := 21) (np0 := 9) (v1 := v1) (by decide) rfl (by decide) hG) (kF (st2 := [(0, (fX11_get M 21 9 v1))]) rfl (fun hG8 => ?_))
            refine T_istore (i := 4) (L' := [(2, 16), (0, v1), (0, v2), (0, (fX11_get M 19 9 v1)), (0, (fX11_get M 21 9 v1))]) (pc' := 60) dX3_doingOf_58 (by decide) rfl rfl ?_
            refine T_iload (i := 4) (pc' := 62) dX3_doingOf_60 rfl rfl ?_
            refine T_iconst (pc' := 63) dX3_doingOf_62 (by decide) rfl ?_
            have HJ9 : T E miX3_doingOf 2 126 0 0 (fun r S M' => S = S0 ∧ G h M' ∧ Q r M') 77 [(3, 0), (3, 0), (3, 0), (3, 0), (3, 0)] [(0, (if (fX11_get M 21 9 v1) = (-1) then (3 : Int) else (if (fX11_get M 21 9 v1) ≤ v2 then (4 : Int) else 3)))] S0 M 0 0 := by
              exact T_iret dX3_doingOf_77 rfl ⟨rfl, hG, (by rw [hQ]; exact ⟨(by unfold fX3_doingOf; simp only [if_neg c1, if_neg c3, if_neg c5, if_pos c6, if_pos c7]), rfl⟩)⟩
            refine T_icmp_eq (pc' := 72) dX3_doingOf_63 (by decide) (pf := 66) rfl (fun c10 => ?_) (fun c10 => ?_)
            · skip
              refine T_iconst (pc' := 73) dX3_doingOf_72 (by decide) rfl ?_
              refine T_goto (pc' := 77) dX3_doingOf_73 (by decide) ?_
              exact T_wk (L' := [(3, 0), (3, 0), (3, 0), (3, 0), (3, 0)]) (by have q := HJ9; try simp only [if_pos c10] at q; exact q) ⟨Or.inl rfl, Or.inl rfl, Or.inl rfl, Or.inl rfl, Or.inl rfl, trivial⟩
            · skip
              refine T_iload_n (i := 2) (pc' := 67) dX3_doingOf_66 rfl rfl rfl ?_
              refine T_iload (i := 4) (pc' := 69) dX3_doingOf_67 rfl rfl ?_
              refine T_icmp_ge (pc' := 76) dX3_doingOf_69 (by decide) (pf := 72) rfl (fun c11 => ?_) (fun c11 => ?_)
              · skip
                refine T_iconst (pc' := 77) dX3_doingOf_76 (by decide) rfl ?_
                exact T_wk (L' := [(3, 0), (3, 0), (3, 0), (3, 0), (3, 0)]) (by have q := HJ9; try simp only [if_neg c10] at q; try simp only [if_pos c11] at q; exact q) ⟨Or.inl rfl, Or.inl rfl, Or.inl rfl, Or.inl rfl, Or.inl rfl, trivial⟩
              · skip
                refine T_iconst (pc' := 73) dX3_doingOf_72 (by decide) rfl ?_
                refine T_goto (pc' := 77) dX3_doingOf_73 (by decide) ?_
                exact T_wk (L' := [(3, 0), (3, 0), (3, 0), (3, 0), (3, 0)]) (by have q := HJ9; try simp only [if_neg c10] at q; try simp only [if_neg c11] at q; exact q) ⟨Or.inl rfl, Or.inl rfl, Or.inl rfl, Or.inl rfl, Or.inl rfl, trivial⟩
          · skip
            refine T_iconst (pc' := 49) dX3_doingOf_48 (by decide) rfl ?_
            exact T_iret dX3_doingOf_49 rfl ⟨rfl, hG, (by rw [hQ]; exact ⟨(by unfold fX3_doingOf; simp only [if_neg c1, if_neg c3, if_neg c5, if_pos c6, if_neg c7]), rfl⟩)⟩
        · skip
          refine T_iconst (pc' := 37) dX3_doingOf_36 (by decide) rfl ?_
          exact T_iret dX3_doingOf_37 rfl ⟨rfl, hG, (by rw [hQ]; exact ⟨(by unfold fX3_doingOf; simp only [if_neg c1, if_neg c3, if_neg c5, if_neg c6]), rfl⟩)⟩
    · skip
      refine T_iconst (pc' := 16) dX3_doingOf_15 (by decide) rfl ?_
      exact T_iret dX3_doingOf_16 rfl ⟨rfl, hG, (by rw [hQ]; exact ⟨(by unfold fX3_doingOf; simp only [if_neg c1, if_pos c3]), rfl⟩)⟩
def lX3_nearer_12 (g : Int) : Nat → Int → Int → Int → Mem → Int
  | 0, v2, v3, v4, M => v2
  | k + 1, v2, v3, v4, M => (if (fX1_stepFrom M g v2 v4) = (-1) then (lX3_nearer_12 g k v2 v3 (v4 + 1) M) else (if v3 = (-1) then (lX3_nearer_12 g k v2 v3 (v4 + 1) M) else (if v3 ≤ (fX11_get M 23 54 (fX1_stepFrom M g v2 v4)) then (lX3_nearer_12 g k v2 v3 (v4 + 1) M) else (fX1_stepFrom M g v2 v4))))
set_option maxRecDepth 100000 in
set_option maxHeartbeats 2000000 in
theorem qX3_nearer_12 {E : EV} {h : Int} {Q : Option MV → Mem → Prop} {g : Int} (hg : isG g) : ∀ (k : Nat) (v2 v3 v4 : Int) (M : Mem), 0 ≤ v4 → ((4) - v4).toNat = k → Q (some (0, (lX3_nearer_12 g k v2 v3 v4 M))) M → G h M → TG E miX3_nearer 4 h Q 12 [(2, 16), (2, g), (0, v2), (0, v3), (0, v4), (3, 0)] [] M := by
  intro k
  induction k with
  | zero =>
    intro v2 v3 v4 M hv0 hk hQ hG
    have hQ : Q (some (0, v2)) M := hQ
    refine T_iload (i := 4) (pc' := 14) dX3_nearer_12 rfl rfl ?_
    refine T_iconst (pc' := 15) dX3_nearer_14 (by decide) rfl ?_
    refine T_rng (fun _ z9 _ => ?_)
    have hB : r32 3 := (ok_cons.mp z9).1
    unfold r32 at hB
    refine T_icmp_gt (pc' := 60) dX3_nearer_15 (by decide) (pf := 18) rfl (fun c1 => ?_) (fun c1 => ?_)
    · skip
      refine T_iload_n (i := 2) (pc' := 61) dX3_nearer_60 rfl rfl rfl ?_
      exact T_iret dX3_nearer_61 rfl ⟨rfl, hG, hQ⟩
    · exact absurd c1 (by omega)
  | succ k ih =>
    intro v2 v3 v4 M hv0 hk hQ hG
    have hQ : Q (some (0, (if (fX1_stepFrom M g v2 v4) = (-1) then (lX3_nearer_12 g k v2 v3 (v4 + 1) M) else (if v3 = (-1) then (lX3_nearer_12 g k v2 v3 (v4 + 1) M) else (if v3 ≤ (fX11_get M 23 54 (fX1_stepFrom M g v2 v4)) then (lX3_nearer_12 g k v2 v3 (v4 + 1) M) else (fX1_stepFrom M g v2 v4)))))) M := hQ
    refine T_iload (i := 4) (pc' := 14) dX3_nearer_12 rfl rfl ?_
    refine T_iconst (pc' := 15) dX3_nearer_14 (by decide) rfl ?_
    refine T_rng (fun _ z9 _ => ?_)
    have hB : r32 3 := (ok_cons.mp z9).1
    unfold r32 at hB
    refine T_icmp_gt (pc' := 60) dX3_nearer_15 (by decide) (pf := 18) rfl (fun c1 => ?_) (fun c1 => ?_)
    · exact absurd c1 (by omega)
    · skip
      have hw : wr32 (v4 + 1) = v4 + 1 := wr32_id (by unfold r32; omega)
      refine T_aload_n (i := 1) (pc' := 19) dX3_nearer_18 rfl rfl rfl ?_
      refine T_iload_n (i := 2) (pc' := 20) dX3_nearer_19 rfl rfl rfl ?_
      refine T_iload (i := 4) (pc' := 22) dX3_nearer_20 rfl rfl ?_
      refine T_callV (av := [(0, v2), (0, v4)]) (st := []) (d2 := 3) (nc2 := 0) (ns2 := 0) (pc' := 25) dX3_nearer_22 rfl mtX1_stepFrom mvX1_stepFrom mlX3_93 cl1 (shg0 hg) rfl rfl (Nat.le_of_ble_eq_true rfl) (by decide) ⟨by decide, by decide⟩ rfl (pX1_stepFrom (E := E) (h := h) (M := M) (g := g) (v1 := v2) (v2 := v4) hg hG) (kF (st2 := [(0, (fX1_stepFrom M g v2 v4))]) rfl (fun hG2 => ?_))
      refine T_istore (i := 5) (L' := [(2, 16), (2, g), (0, v2), (0, v3), (0, v4), (0, (fX1_stepFrom M g v2 v4))]) (pc' := 27) dX3_nearer_25 (by decide) rfl rfl ?_
      refine T_iload (i := 5) (pc' := 29) dX3_nearer_27 rfl rfl ?_
      refine T_iconst (pc' := 30) dX3_nearer_29 (by decide) rfl ?_
      refine T_icmp_eq (pc' := 54) dX3_nearer_30 (by decide) (pf := 33) rfl (fun c3 => ?_) (fun c3 => ?_)
      · skip
        refine T_iinc (L' := [(2, 16), (2, g), (0, v2), (0, v3), (0, (wr32 (v4 + 1))), (0, (fX1_stepFrom M g v2 v4))]) (pc' := 57) dX3_nearer_54 rfl (by decide) rfl rfl ?_
        refine T_goto (pc' := 12) dX3_nearer_57 (by decide) ?_
        rw [hw]
        exact T_wk (ih _ _ (v4 + 1) _ (by omega) (by omega) (by have q := hQ; try simp only [if_pos c3] at q; exact q) hG) ⟨Or.inr rfl, Or.inr rfl, Or.inr rfl, Or.inr rfl, Or.inr rfl, Or.inl rfl, trivial⟩
      · skip
        refine T_iload_n (i := 3) (pc' := 34) dX3_nearer_33 rfl rfl rfl ?_
        refine T_iconst (pc' := 35) dX3_nearer_34 (by decide) rfl ?_
        refine T_icmp_eq (pc' := 54) dX3_nearer_35 (by decide) (pf := 38) rfl (fun c4 => ?_) (fun c4 => ?_)
        · skip
          refine T_iinc (L' := [(2, 16), (2, g), (0, v2), (0, v3), (0, (wr32 (v4 + 1))), (0, (fX1_stepFrom M g v2 v4))]) (pc' := 57) dX3_nearer_54 rfl (by decide) rfl rfl ?_
          refine T_goto (pc' := 12) dX3_nearer_57 (by decide) ?_
          rw [hw]
          exact T_wk (ih _ _ (v4 + 1) _ (by omega) (by omega) (by have q := hQ; try simp only [if_neg c3] at q; try simp only [if_pos c4] at q; exact q) hG) ⟨Or.inr rfl, Or.inr rfl, Or.inr rfl, Or.inr rfl, Or.inr rfl, Or.inl rfl, trivial⟩
        · skip
          refine T_aload_n (i := 0) (pc' := 39) dX3_nearer_38 rfl rfl rfl ?_
          refine U_gr (q := 23) (k := 6) (kI := 6) (pc' := 42) dX3_nearer_39 rfl cl3 (by decide) rfl (by decide) flX3_30 rfl rfl rfl (G_at hG 28 rfl) (by decide) rfl ?_
          refine T_iload (i := 5) (pc' := 44) dX3_nearer_42 rfl rfl ?_
          refine T_callSN (av := [(2, 23), (0, (fX1_stepFrom M g v2 v4))]) (st := []) (d2 := 1) (nc2 := 0) (ns2 := 0) (pc' := 47) dX3_nearer_44 rfl mtX11_get mvX11_get mlX3_67 rfl rfl (Nat.le_of_ble_eq_true rfl) (by decide) ⟨by decide, by decide⟩ rfl (pX11_get (E := E) (h := h) (M := M) (p0 := 23) (np0 := 54) (v1 := (fX1_stepFrom M g v2 v4)) (by decide) rfl (by decide) hG) (kF (st2 := [(0, (fX11_get M 23 54 (fX1_stepFrom M g v2 v4)))]) rfl (fun hG5 => ?_))
          refine T_iload_n (i := 3) (pc' := 48) dX3_nearer_47 rfl rfl rfl ?_
          refine T_icmp_ge (pc' := 54) dX3_nearer_48 (by decide) (pf := 51) rfl (fun c6 => ?_) (fun c6 => ?_)
          · skip
            refine T_iinc (L' := [(2, 16), (2, g), (0, v2), (0, v3), (0, (wr32 (v4 + 1))), (0, (fX1_stepFrom M g v2 v4))]) (pc' := 57) dX3_nearer_54 rfl (by decide) rfl rfl ?_
            refine T_goto (pc' := 12) dX3_nearer_57 (by decide) ?_
            rw [hw]
            exact T_wk (ih _ _ (v4 + 1) _ (by omega) (by omega) (by have q := hQ; try simp only [if_neg c3] at q; try simp only [if_neg c4] at q; try simp only [if_pos c6] at q; exact q) hG) ⟨Or.inr rfl, Or.inr rfl, Or.inr rfl, Or.inr rfl, Or.inr rfl, Or.inl rfl, trivial⟩
          · skip
            refine T_iload (i := 5) (pc' := 53) dX3_nearer_51 rfl rfl ?_
            exact T_iret dX3_nearer_53 rfl ⟨rfl, hG, (by have q := hQ; try simp only [if_neg c3] at q; try simp only [if_neg c4] at q; try simp only [if_neg c6] at q; exact q)⟩
def fX3_nearer (M : Mem) (g : Int) (v2 : Int) : Int :=
  (lX3_nearer_12 g 4 v2 (fX11_get M 23 54 v2) 0 M)
set_option maxRecDepth 100000 in
theorem pX3_nearer {E : EV} {h : Int} {M : Mem} {g : Int} {v2 : Int} (hg : isG g) : C2 E miX3_nearer 4 h [(2, 16), (2, g), (0, v2)] M (fun r M' => r = some (0, (fX3_nearer M g v2)) ∧ M' = M) := by
  obtain ⟨Q, hQ0⟩ : ∃ Q : Option MV → Mem → Prop, Q = (fun r M' => r = some (0, (fX3_nearer M g v2)) ∧ M' = M) := ⟨_, rfl⟩
  rw [← hQ0]
  have hQ : Q (some (0, (lX3_nearer_12 g 4 v2 (fX11_get M 23 54 v2) 0 M))) M := by rw [hQ0]; exact ⟨rfl, rfl⟩
  refine C2_of (L := [(2, 16), (2, g), (0, v2), (3, 0), (3, 0), (3, 0)]) (by decide +kernel) (Nat.le_of_ble_eq_true rfl) rfl (fun hG => ?_)
  refine T_aload_n (i := 0) (pc' := 1) dX3_nearer_0 rfl rfl rfl ?_
  refine U_gr (q := 23) (k := 6) (kI := 6) (pc' := 4) dX3_nearer_1 rfl cl3 (by decide) rfl (by decide) flX3_30 rfl rfl rfl (G_at hG 28 rfl) (by decide) rfl ?_
  refine T_iload_n (i := 2) (pc' := 5) dX3_nearer_4 rfl rfl rfl ?_
  refine T_callSN (av := [(2, 23), (0, v2)]) (st := []) (d2 := 1) (nc2 := 0) (ns2 := 0) (pc' := 8) dX3_nearer_5 rfl mtX11_get mvX11_get mlX3_67 rfl rfl (Nat.le_of_ble_eq_true rfl) (by decide) ⟨by decide, by decide⟩ rfl (pX11_get (E := E) (h := h) (M := M) (p0 := 23) (np0 := 54) (v1 := v2) (by decide) rfl (by decide) hG) (kF (st2 := [(0, (fX11_get M 23 54 v2))]) rfl (fun hG1 => ?_))
  refine T_istore_n (i := 3) (L' := [(2, 16), (2, g), (0, v2), (0, (fX11_get M 23 54 v2)), (3, 0), (3, 0)]) (pc' := 9) dX3_nearer_8 rfl (by decide) rfl rfl ?_
  refine T_iconst (pc' := 10) dX3_nearer_9 (by decide) rfl ?_
  refine T_istore (i := 4) (L' := [(2, 16), (2, g), (0, v2), (0, (fX11_get M 23 54 v2)), (0, 0), (3, 0)]) (pc' := 12) dX3_nearer_10 (by decide) rfl rfl ?_
  exact T_wk (qX3_nearer_12 hg 4 v2 (fX11_get M 23 54 v2) 0 _ (by first | decide | omega) rfl hQ hG) ⟨Or.inr rfl, Or.inr rfl, Or.inr rfl, Or.inr rfl, Or.inr rfl, Or.inl rfl, trivial⟩
def fX3_onesOf (v0 : Int) : Int :=
  (if v0 = 1 then 1 else (if v0 = 2 then 0 else (if v0 = 3 then 2 else 3)))
set_option maxRecDepth 100000 in
theorem pX3_onesOf {E : EV} {h : Int} {M : Mem} {v0 : Int}  : C2 E miX3_onesOf 1 h [(0, v0)] M (fun r M' => r = some (0, (fX3_onesOf v0)) ∧ M' = M) := by
  obtain ⟨Q, hQ⟩ : ∃ Q : Option MV → Mem → Prop, Q = (fun r M' => r = some (0, (fX3_onesOf v0)) ∧ M' = M) := ⟨_, rfl⟩
  rw [← hQ]
  refine C2_of (L := [(0, v0)]) (by decide +kernel) (Nat.le_of_ble_eq_true rfl) rfl (fun hG => ?_)
  refine T_iload_n (i := 0) (pc' := 1) dX3_onesOf_0 rfl rfl rfl ?_
  by_cases c1 : v0 = 1
  · skip
    refine T_tableIn (pc' := 28) dX3_onesOf_1 (by omega) (by omega) (by rw [c1]; rfl) (by decide) ?_
    refine T_iconst (pc' := 29) dX3_onesOf_28 (by decide) rfl ?_
    exact T_iret dX3_onesOf_29 rfl ⟨rfl, hG, (by rw [hQ]; exact ⟨(by unfold fX3_onesOf; simp only [if_pos c1]), rfl⟩)⟩
  · skip
    by_cases c2 : v0 = 2
    · skip
      refine T_tableIn (pc' := 30) dX3_onesOf_1 (by omega) (by omega) (by rw [c2]; rfl) (by decide) ?_
      refine T_iconst (pc' := 31) dX3_onesOf_30 (by decide) rfl ?_
      exact T_iret dX3_onesOf_31 rfl ⟨rfl, hG, (by rw [hQ]; exact ⟨(by unfold fX3_onesOf; simp only [if_neg c1, if_pos c2]), rfl⟩)⟩
    · skip
      by_cases c3 : v0 = 3
      · skip
        refine T_tableIn (pc' := 32) dX3_onesOf_1 (by omega) (by omega) (by rw [c3]; rfl) (by decide) ?_
        refine T_iconst (pc' := 33) dX3_onesOf_32 (by decide) rfl ?_
        exact T_iret dX3_onesOf_33 rfl ⟨rfl, hG, (by rw [hQ]; exact ⟨(by unfold fX3_onesOf; simp only [if_neg c1, if_neg c2, if_pos c3]), rfl⟩)⟩
      · skip
        refine T_tableOut (pc' := 34) dX3_onesOf_1 (by omega) (by decide) ?_
        refine T_iconst (pc' := 35) dX3_onesOf_34 (by decide) rfl ?_
        exact T_iret dX3_onesOf_35 rfl ⟨rfl, hG, (by rw [hQ]; exact ⟨(by unfold fX3_onesOf; simp only [if_neg c1, if_neg c2, if_neg c3]), rfl⟩)⟩
def fX7_walkCell (M : Mem) (v1 : Int) (v2 : Int) : Int :=
  (fX11_get M 10 1809 (wr32 ((wr32 (v1 * 201)) + v2)))
set_option maxRecDepth 100000 in
theorem pX7_walkCell {E : EV} {h : Int} {M : Mem} {v1 : Int} {v2 : Int}  : C2 E miX7_walkCell 2 h [(2, 9), (0, v1), (0, v2)] M (fun r M' => r = some (0, (fX7_walkCell M v1 v2)) ∧ M' = M) := by
  obtain ⟨Q, hQ⟩ : ∃ Q : Option MV → Mem → Prop, Q = (fun r M' => r = some (0, (fX7_walkCell M v1 v2)) ∧ M' = M) := ⟨_, rfl⟩
  rw [← hQ]
  refine C2_of (L := [(2, 9), (0, v1), (0, v2)]) (by decide +kernel) (Nat.le_of_ble_eq_true rfl) rfl (fun hG => ?_)
  refine T_aload_n (i := 0) (pc' := 1) dX7_walkCell_0 rfl rfl rfl ?_
  refine U_gr (q := 10) (k := 0) (kI := 0) (pc' := 4) dX7_walkCell_1 rfl cl7 (by decide) rfl (by decide) flX7_9 rfl rfl rfl (G_at hG 16 rfl) (by decide) rfl ?_
  refine T_iload_n (i := 1) (pc' := 5) dX7_walkCell_4 rfl rfl rfl ?_
  refine T_sipush (pc' := 8) dX7_walkCell_5 rfl (by decide) rfl ?_
  refine T_imul (pc' := 9) dX7_walkCell_8 rfl ?_
  refine T_iload_n (i := 2) (pc' := 10) dX7_walkCell_9 rfl rfl rfl ?_
  refine T_iadd (pc' := 11) dX7_walkCell_10 rfl ?_
  refine T_callSN (av := [(2, 10), (0, (wr32 ((wr32 (v1 * 201)) + v2)))]) (st := []) (d2 := 1) (nc2 := 0) (ns2 := 0) (pc' := 14) dX7_walkCell_11 rfl mtX11_get mvX11_get mlX7_71 rfl rfl (Nat.le_of_ble_eq_true rfl) (by decide) ⟨by decide, by decide⟩ rfl (pX11_get (E := E) (h := h) (M := M) (p0 := 10) (np0 := 1809) (v1 := (wr32 ((wr32 (v1 * 201)) + v2))) (by decide) rfl (by decide) hG) (kF (st2 := [(0, (fX11_get M 10 1809 (wr32 ((wr32 (v1 * 201)) + v2))))]) rfl (fun hG1 => ?_))
  exact T_iret dX7_walkCell_14 rfl ⟨rfl, hG, (by rw [hQ]; exact ⟨rfl, rfl⟩)⟩
def lmX3_follow_11 (g : Int) : Nat → Int → Int → Int → Mem → Mem
  | 0, v3, v4, v5, M => M
  | k + 1, v3, v4, v5, M => (lmX3_follow_11 g k v3 (if (fX3_doingOf M v3 v5) = 1 then (fX7_walkCell M v3 v5) else (if (fX3_doingOf M v3 v5) = 3 then (if (fX1_openDoorIn M g v4) = (-1) then (fX3_nearer M g v4) else (-1)) else v4)) (v5 + 1) (fmX11_put (fmX11_put (if (fX3_doingOf M v3 v5) = 1 then M else (if (fX3_doingOf M v3 v5) = 3 then (if (fX1_openDoorIn M g v4) = (-1) then M else (fmX11_put (fmX11_put M 21 9 v3 v5) 22 9 v3 (fX1_openDoorIn M g v4))) else M)) 17 1809 (wr32 ((wr32 (v3 * 201)) + v5)) (if (fX3_doingOf M v3 v5) = 1 then (fX7_walkCell M v3 v5) else (if (fX3_doingOf M v3 v5) = 3 then (if (fX1_openDoorIn M g v4) = (-1) then (fX3_nearer M g v4) else (-1)) else v4))) 18 804 (wr32 ((wr32 ((fX3_onesOf (if (fX3_doingOf M v3 v5) = 1 then (fX3_doingOf M v3 v5) else (if (fX3_doingOf M v3 v5) = 3 then (if (fX1_openDoorIn M g v4) = (-1) then (fX3_doingOf M v3 v5) else 4) else (fX3_doingOf M v3 v5)))) * 201)) + v5)) (wr32 ((fX11_get (fmX11_put (if (fX3_doingOf M v3 v5) = 1 then M else (if (fX3_doingOf M v3 v5) = 3 then (if (fX1_openDoorIn M g v4) = (-1) then M else (fmX11_put (fmX11_put M 21 9 v3 v5) 22 9 v3 (fX1_openDoorIn M g v4))) else M)) 17 1809 (wr32 ((wr32 (v3 * 201)) + v5)) (if (fX3_doingOf M v3 v5) = 1 then (fX7_walkCell M v3 v5) else (if (fX3_doingOf M v3 v5) = 3 then (if (fX1_openDoorIn M g v4) = (-1) then (fX3_nearer M g v4) else (-1)) else v4))) 18 804 (wr32 ((wr32 ((fX3_onesOf (if (fX3_doingOf M v3 v5) = 1 then (fX3_doingOf M v3 v5) else (if (fX3_doingOf M v3 v5) = 3 then (if (fX1_openDoorIn M g v4) = (-1) then (fX3_doingOf M v3 v5) else 4) else (fX3_doingOf M v3 v5)))) * 201)) + v5))) + 1))))
theorem frlX3_follow_11 {g : Int} {q : Int} (hq0 : q ≠ 21) (hq1 : q ≠ 22) (hq2 : q ≠ 17) (hq3 : q ≠ 18) : ∀ {k : Nat} {v3 v4 v5 : Int} {M : Mem}, (lmX3_follow_11 g k v3 v4 v5 M) q = M q := by
  intro k
  induction k with
  | zero =>
    intro v3 v4 v5 M
    show M q = M q
    repeat' (first | rfl | rw [mset_p hq0] | rw [mset_p hq1] | rw [mset_p hq2] | rw [mset_p hq3] | rw [mcpy_p hq0] | rw [mcpy_p hq1] | rw [mcpy_p hq2] | rw [mcpy_p hq3] | (rw [frX11_put] <;> try assumption) | rw [ite_ap] | split)
  | succ k ih =>
    intro v3 v4 v5 M
    show (lmX3_follow_11 g k v3 (if (fX3_doingOf M v3 v5) = 1 then (fX7_walkCell M v3 v5) else (if (fX3_doingOf M v3 v5) = 3 then (if (fX1_openDoorIn M g v4) = (-1) then (fX3_nearer M g v4) else (-1)) else v4)) (v5 + 1) (fmX11_put (fmX11_put (if (fX3_doingOf M v3 v5) = 1 then M else (if (fX3_doingOf M v3 v5) = 3 then (if (fX1_openDoorIn M g v4) = (-1) then M else (fmX11_put (fmX11_put M 21 9 v3 v5) 22 9 v3 (fX1_openDoorIn M g v4))) else M)) 17 1809 (wr32 ((wr32 (v3 * 201)) + v5)) (if (fX3_doingOf M v3 v5) = 1 then (fX7_walkCell M v3 v5) else (if (fX3_doingOf M v3 v5) = 3 then (if (fX1_openDoorIn M g v4) = (-1) then (fX3_nearer M g v4) else (-1)) else v4))) 18 804 (wr32 ((wr32 ((fX3_onesOf (if (fX3_doingOf M v3 v5) = 1 then (fX3_doingOf M v3 v5) else (if (fX3_doingOf M v3 v5) = 3 then (if (fX1_openDoorIn M g v4) = (-1) then (fX3_doingOf M v3 v5) else 4) else (fX3_doingOf M v3 v5)))) * 201)) + v5)) (wr32 ((fX11_get (fmX11_put (if (fX3_doingOf M v3 v5) = 1 then M else (if (fX3_doingOf M v3 v5) = 3 then (if (fX1_openDoorIn M g v4) = (-1) then M else (fmX11_put (fmX11_put M 21 9 v3 v5) 22 9 v3 (fX1_openDoorIn M g v4))) else M)) 17 1809 (wr32 ((wr32 (v3 * 201)) + v5)) (if (fX3_doingOf M v3 v5) = 1 then (fX7_walkCell M v3 v5) else (if (fX3_doingOf M v3 v5) = 3 then (if (fX1_openDoorIn M g v4) = (-1) then (fX3_nearer M g v4) else (-1)) else v4))) 18 804 (wr32 ((wr32 ((fX3_onesOf (if (fX3_doingOf M v3 v5) = 1 then (fX3_doingOf M v3 v5) else (if (fX3_doingOf M v3 v5) = 3 then (if (fX1_openDoorIn M g v4) = (-1) then (fX3_doingOf M v3 v5) else 4) else (fX3_doingOf M v3 v5)))) * 201)) + v5))) + 1)))) q = M q
    repeat' (first | rfl | rw [mset_p hq0] | rw [mset_p hq1] | rw [mset_p hq2] | rw [mset_p hq3] | rw [mcpy_p hq0] | rw [mcpy_p hq1] | rw [mcpy_p hq2] | rw [mcpy_p hq3] | (rw [frX11_put] <;> try assumption) | rw [ite_ap] | split | rw [ih])
theorem glX3_follow_11 {h : Int} {g : Int} (hg : isG g) : ∀ {k : Nat} {v3 v4 v5 : Int} {M : Mem}, G h M → G h (lmX3_follow_11 g k v3 v4 v5 M) := by
  intro k
  induction k with
  | zero =>
    intro v3 v4 v5 M hG
    show G h M
    exact hG
  | succ k ih =>
    intro v3 v4 v5 M hG
    show G h (lmX3_follow_11 g k v3 (if (fX3_doingOf M v3 v5) = 1 then (fX7_walkCell M v3 v5) else (if (fX3_doingOf M v3 v5) = 3 then (if (fX1_openDoorIn M g v4) = (-1) then (fX3_nearer M g v4) else (-1)) else v4)) (v5 + 1) (fmX11_put (fmX11_put (if (fX3_doingOf M v3 v5) = 1 then M else (if (fX3_doingOf M v3 v5) = 3 then (if (fX1_openDoorIn M g v4) = (-1) then M else (fmX11_put (fmX11_put M 21 9 v3 v5) 22 9 v3 (fX1_openDoorIn M g v4))) else M)) 17 1809 (wr32 ((wr32 (v3 * 201)) + v5)) (if (fX3_doingOf M v3 v5) = 1 then (fX7_walkCell M v3 v5) else (if (fX3_doingOf M v3 v5) = 3 then (if (fX1_openDoorIn M g v4) = (-1) then (fX3_nearer M g v4) else (-1)) else v4))) 18 804 (wr32 ((wr32 ((fX3_onesOf (if (fX3_doingOf M v3 v5) = 1 then (fX3_doingOf M v3 v5) else (if (fX3_doingOf M v3 v5) = 3 then (if (fX1_openDoorIn M g v4) = (-1) then (fX3_doingOf M v3 v5) else 4) else (fX3_doingOf M v3 v5)))) * 201)) + v5)) (wr32 ((fX11_get (fmX11_put (if (fX3_doingOf M v3 v5) = 1 then M else (if (fX3_doingOf M v3 v5) = 3 then (if (fX1_openDoorIn M g v4) = (-1) then M else (fmX11_put (fmX11_put M 21 9 v3 v5) 22 9 v3 (fX1_openDoorIn M g v4))) else M)) 17 1809 (wr32 ((wr32 (v3 * 201)) + v5)) (if (fX3_doingOf M v3 v5) = 1 then (fX7_walkCell M v3 v5) else (if (fX3_doingOf M v3 v5) = 3 then (if (fX1_openDoorIn M g v4) = (-1) then (fX3_nearer M g v4) else (-1)) else v4))) 18 804 (wr32 ((wr32 ((fX3_onesOf (if (fX3_doingOf M v3 v5) = 1 then (fX3_doingOf M v3 v5) else (if (fX3_doingOf M v3 v5) = 3 then (if (fX1_openDoorIn M g v4) = (-1) then (fX3_doingOf M v3 v5) else 4) else (fX3_doingOf M v3 v5)))) * 201)) + v5))) + 1))))
    exact (ih (gX11_put (h := h) (M := (fmX11_put (if (fX3_doingOf M v3 v5) = 1 then M else (if (fX3_doingOf M v3 v5) = 3 then (if (fX1_openDoorIn M g v4) = (-1) then M else (fmX11_put (fmX11_put M 21 9 v3 v5) 22 9 v3 (fX1_openDoorIn M g v4))) else M)) 17 1809 (wr32 ((wr32 (v3 * 201)) + v5)) (if (fX3_doingOf M v3 v5) = 1 then (fX7_walkCell M v3 v5) else (if (fX3_doingOf M v3 v5) = 3 then (if (fX1_openDoorIn M g v4) = (-1) then (fX3_nearer M g v4) else (-1)) else v4)))) (p0 := 18) (np0 := 804) (v1 := (wr32 ((wr32 ((fX3_onesOf (if (fX3_doingOf M v3 v5) = 1 then (fX3_doingOf M v3 v5) else (if (fX3_doingOf M v3 v5) = 3 then (if (fX1_openDoorIn M g v4) = (-1) then (fX3_doingOf M v3 v5) else 4) else (fX3_doingOf M v3 v5)))) * 201)) + v5))) (v2 := (wr32 ((fX11_get (fmX11_put (if (fX3_doingOf M v3 v5) = 1 then M else (if (fX3_doingOf M v3 v5) = 3 then (if (fX1_openDoorIn M g v4) = (-1) then M else (fmX11_put (fmX11_put M 21 9 v3 v5) 22 9 v3 (fX1_openDoorIn M g v4))) else M)) 17 1809 (wr32 ((wr32 (v3 * 201)) + v5)) (if (fX3_doingOf M v3 v5) = 1 then (fX7_walkCell M v3 v5) else (if (fX3_doingOf M v3 v5) = 3 then (if (fX1_openDoorIn M g v4) = (-1) then (fX3_nearer M g v4) else (-1)) else v4))) 18 804 (wr32 ((wr32 ((fX3_onesOf (if (fX3_doingOf M v3 v5) = 1 then (fX3_doingOf M v3 v5) else (if (fX3_doingOf M v3 v5) = 3 then (if (fX1_openDoorIn M g v4) = (-1) then (fX3_doingOf M v3 v5) else 4) else (fX3_doingOf M v3 v5)))) * 201)) + v5))) + 1))) (by decide) rfl (by decide) (gX11_put (h := h) (M := (if (fX3_doingOf M v3 v5) = 1 then M else (if (fX3_doingOf M v3 v5) = 3 then (if (fX1_openDoorIn M g v4) = (-1) then M else (fmX11_put (fmX11_put M 21 9 v3 v5) 22 9 v3 (fX1_openDoorIn M g v4))) else M))) (p0 := 17) (np0 := 1809) (v1 := (wr32 ((wr32 (v3 * 201)) + v5))) (v2 := (if (fX3_doingOf M v3 v5) = 1 then (fX7_walkCell M v3 v5) else (if (fX3_doingOf M v3 v5) = 3 then (if (fX1_openDoorIn M g v4) = (-1) then (fX3_nearer M g v4) else (-1)) else v4))) (by decide) rfl (by decide) (G_ite hG (G_ite (G_ite hG (gX11_put (h := h) (M := (fmX11_put M 21 9 v3 v5)) (p0 := 22) (np0 := 9) (v1 := v3) (v2 := (fX1_openDoorIn M g v4)) (by decide) rfl (by decide) (gX11_put (h := h) (M := M) (p0 := 21) (np0 := 9) (v1 := v3) (v2 := v5) (by decide) rfl (by decide) hG))) hG)))))
set_option maxRecDepth 100000 in
set_option maxHeartbeats 2000000 in
theorem qX3_follow_11 {E : EV} {h : Int} {Q : Option MV → Mem → Prop} {g : Int} (hg : isG g) : ∀ (k : Nat) (v3 v4 v5 : Int) (M : Mem), 0 ≤ v5 → ((201) - v5).toNat = k → Q none (lmX3_follow_11 g k v3 v4 v5 M) → G h M → TG E miX3_follow 5 h Q 11 [(2, 16), (2, g), (2, 9), (0, v3), (0, v4), (0, v5), (3, 0), (3, 0)] [] M := by
  intro k
  induction k with
  | zero =>
    intro v3 v4 v5 M hv0 hk hQ hG
    have hQ : Q none M := hQ
    refine T_iload (i := 5) (pc' := 13) dX3_follow_11 rfl rfl ?_
    refine T_sipush (pc' := 16) dX3_follow_13 rfl (by decide) rfl ?_
    refine T_rng (fun _ z9 _ => ?_)
    have hB : r32 201 := (ok_cons.mp z9).1
    unfold r32 at hB
    refine T_icmp_ge (pc' := 161) dX3_follow_16 (by decide) (pf := 19) rfl (fun c1 => ?_) (fun c1 => ?_)
    · skip
      exact T_vret dX3_follow_161 rfl ⟨rfl, hG, hQ⟩
    · exact absurd c1 (by omega)
  | succ k ih =>
    intro v3 v4 v5 M hv0 hk hQ hG
    have hQ : Q none (lmX3_follow_11 g k v3 (if (fX3_doingOf M v3 v5) = 1 then (fX7_walkCell M v3 v5) else (if (fX3_doingOf M v3 v5) = 3 then (if (fX1_openDoorIn M g v4) = (-1) then (fX3_nearer M g v4) else (-1)) else v4)) (v5 + 1) (fmX11_put (fmX11_put (if (fX3_doingOf M v3 v5) = 1 then M else (if (fX3_doingOf M v3 v5) = 3 then (if (fX1_openDoorIn M g v4) = (-1) then M else (fmX11_put (fmX11_put M 21 9 v3 v5) 22 9 v3 (fX1_openDoorIn M g v4))) else M)) 17 1809 (wr32 ((wr32 (v3 * 201)) + v5)) (if (fX3_doingOf M v3 v5) = 1 then (fX7_walkCell M v3 v5) else (if (fX3_doingOf M v3 v5) = 3 then (if (fX1_openDoorIn M g v4) = (-1) then (fX3_nearer M g v4) else (-1)) else v4))) 18 804 (wr32 ((wr32 ((fX3_onesOf (if (fX3_doingOf M v3 v5) = 1 then (fX3_doingOf M v3 v5) else (if (fX3_doingOf M v3 v5) = 3 then (if (fX1_openDoorIn M g v4) = (-1) then (fX3_doingOf M v3 v5) else 4) else (fX3_doingOf M v3 v5)))) * 201)) + v5)) (wr32 ((fX11_get (fmX11_put (if (fX3_doingOf M v3 v5) = 1 then M else (if (fX3_doingOf M v3 v5) = 3 then (if (fX1_openDoorIn M g v4) = (-1) then M else (fmX11_put (fmX11_put M 21 9 v3 v5) 22 9 v3 (fX1_openDoorIn M g v4))) else M)) 17 1809 (wr32 ((wr32 (v3 * 201)) + v5)) (if (fX3_doingOf M v3 v5) = 1 then (fX7_walkCell M v3 v5) else (if (fX3_doingOf M v3 v5) = 3 then (if (fX1_openDoorIn M g v4) = (-1) then (fX3_nearer M g v4) else (-1)) else v4))) 18 804 (wr32 ((wr32 ((fX3_onesOf (if (fX3_doingOf M v3 v5) = 1 then (fX3_doingOf M v3 v5) else (if (fX3_doingOf M v3 v5) = 3 then (if (fX1_openDoorIn M g v4) = (-1) then (fX3_doingOf M v3 v5) else 4) else (fX3_doingOf M v3 v5)))) * 201)) + v5))) + 1)))) := hQ
    refine T_iload (i := 5) (pc' := 13) dX3_follow_11 rfl rfl ?_
    refine T_sipush (pc' := 16) dX3_follow_13 rfl (by decide) rfl ?_
    refine T_rng (fun _ z9 _ => ?_)
    have hB : r32 201 := (ok_cons.mp z9).1
    unfold r32 at hB
    refine T_icmp_ge (pc' := 161) dX3_follow_16 (by decide) (pf := 19) rfl (fun c1 => ?_) (fun c1 => ?_)
    · exact absurd c1 (by omega)
    · skip
      have hw : wr32 (v5 + 1) = v5 + 1 := wr32_id (by unfold r32; omega)
      refine T_aload_n (i := 0) (pc' := 20) dX3_follow_19 rfl rfl rfl ?_
      refine T_iload_n (i := 3) (pc' := 21) dX3_follow_20 rfl rfl rfl ?_
      refine T_iload (i := 5) (pc' := 23) dX3_follow_21 rfl rfl ?_
      refine T_callV (av := [(0, v3), (0, v5)]) (st := []) (d2 := 2) (nc2 := 0) (ns2 := 0) (pc' := 26) dX3_follow_23 rfl mtX3_doingOf mvX3_doingOf mlX3_100 cl3 rfl rfl rfl (Nat.le_of_ble_eq_true rfl) (by decide) ⟨by decide, by decide⟩ rfl (pX3_doingOf (E := E) (h := h) (M := M) (v1 := v3) (v2 := v5) hG) (kF (st2 := [(0, (fX3_doingOf M v3 v5))]) rfl (fun hG2 => ?_))
      refine T_istore (i := 6) (L' := [(2, 16), (2, g), (2, 9), (0, v3), (0, v4), (0, v5), (0, (fX3_doingOf M v3 v5)), (3, 0)]) (pc' := 28) dX3_follow_26 (by decide) rfl rfl ?_
      refine T_iload (i := 6) (pc' := 30) dX3_follow_28 rfl rfl ?_
      refine T_iconst (pc' := 31) dX3_follow_30 (by decide) rfl ?_
      have HJ3 : T E miX3_follow 5 126 0 0 (fun r S M' => S = S0 ∧ G h M' ∧ Q r M') 104 [(2, 16), (2, g), (2, 9), (0, v3), (0, (if (fX3_doingOf M v3 v5) = 1 then (fX7_walkCell M v3 v5) else (if (fX3_doingOf M v3 v5) = 3 then (if (fX1_openDoorIn M g v4) = (-1) then (fX3_nearer M g v4) else (-1)) else v4))), (0, v5), (0, (if (fX3_doingOf M v3 v5) = 1 then (fX3_doingOf M v3 v5) else (if (fX3_doingOf M v3 v5) = 3 then (if (fX1_openDoorIn M g v4) = (-1) then (fX3_doingOf M v3 v5) else 4) else (fX3_doingOf M v3 v5)))), (3, 0)] [] S0 (if (fX3_doingOf M v3 v5) = 1 then M else (if (fX3_doingOf M v3 v5) = 3 then (if (fX1_openDoorIn M g v4) = (-1) then M else (fmX11_put (fmX11_put M 21 9 v3 v5) 22 9 v3 (fX1_openDoorIn M g v4))) else M)) 0 0 := by
        refine T_aload_n (i := 0) (pc' := 105) dX3_follow_104 rfl rfl rfl ?_
        refine U_gr (q := 17) (k := 0) (kI := 0) (pc' := 108) dX3_follow_105 rfl cl3 (by decide) rfl (by decide) flX3_9 rfl rfl rfl (G_at (G_ite hG (G_ite (G_ite hG (gX11_put (h := h) (M := (fmX11_put M 21 9 v3 v5)) (p0 := 22) (np0 := 9) (v1 := v3) (v2 := (fX1_openDoorIn M g v4)) (by decide) rfl (by decide) (gX11_put (h := h) (M := M) (p0 := 21) (np0 := 9) (v1 := v3) (v2 := v5) (by decide) rfl (by decide) hG))) hG)) 22 rfl) (by decide) rfl ?_
        refine T_iload_n (i := 3) (pc' := 109) dX3_follow_108 rfl rfl rfl ?_
        refine T_sipush (pc' := 112) dX3_follow_109 rfl (by decide) rfl ?_
        refine T_imul (pc' := 113) dX3_follow_112 rfl ?_
        refine T_iload (i := 5) (pc' := 115) dX3_follow_113 rfl rfl ?_
        refine T_iadd (pc' := 116) dX3_follow_115 rfl ?_
        refine T_iload (i := 4) (pc' := 118) dX3_follow_116 rfl rfl ?_
        refine T_callSN (av := [(2, 17), (0, (wr32 ((wr32 (v3 * 201)) + v5))), (0, (if (fX3_doingOf M v3 v5) = 1 then (fX7_walkCell M v3 v5) else (if (fX3_doingOf M v3 v5) = 3 then (if (fX1_openDoorIn M g v4) = (-1) then (fX3_nearer M g v4) else (-1)) else v4)))]) (st := []) (d2 := 1) (nc2 := 0) (ns2 := 0) (pc' := 121) dX3_follow_118 rfl mtX11_put mvX11_put mlX3_71 rfl rfl (Nat.le_of_ble_eq_true rfl) (by decide) ⟨by decide, by decide⟩ rfl (pX11_put (E := E) (h := h) (M := (if (fX3_doingOf M v3 v5) = 1 then M else (if (fX3_doingOf M v3 v5) = 3 then (if (fX1_openDoorIn M g v4) = (-1) then M else (fmX11_put (fmX11_put M 21 9 v3 v5) 22 9 v3 (fX1_openDoorIn M g v4))) else M))) (p0 := 17) (np0 := 1809) (v1 := (wr32 ((wr32 (v3 * 201)) + v5))) (v2 := (if (fX3_doingOf M v3 v5) = 1 then (fX7_walkCell M v3 v5) else (if (fX3_doingOf M v3 v5) = 3 then (if (fX1_openDoorIn M g v4) = (-1) then (fX3_nearer M g v4) else (-1)) else v4))) (by decide) rfl (by decide) (G_ite hG (G_ite (G_ite hG (gX11_put (h := h) (M := (fmX11_put M 21 9 v3 v5)) (p0 := 22) (np0 := 9) (v1 := v3) (v2 := (fX1_openDoorIn M g v4)) (by decide) rfl (by decide) (gX11_put (h := h) (M := M) (p0 := 21) (np0 := 9) (v1 := v3) (v2 := v5) (by decide) rfl (by decide) hG))) hG))) (kF (st2 := []) rfl (fun hG4 => ?_))
        refine T_iload (i := 6) (pc' := 123) dX3_follow_121 rfl rfl ?_
        refine T_callS (av := [(0, (if (fX3_doingOf M v3 v5) = 1 then (fX3_doingOf M v3 v5) else (if (fX3_doingOf M v3 v5) = 3 then (if (fX1_openDoorIn M g v4) = (-1) then (fX3_doingOf M v3 v5) else 4) else (fX3_doingOf M v3 v5))))]) (st := []) (d2 := 1) (nc2 := 0) (ns2 := 0) (pc' := 126) dX3_follow_123 rfl mtX3_onesOf mvX3_onesOf mlX3_111 rfl rfl (Nat.le_of_ble_eq_true rfl) (by decide) ⟨by decide, by decide⟩ rfl (pX3_onesOf (E := E) (h := h) (M := (fmX11_put (if (fX3_doingOf M v3 v5) = 1 then M else (if (fX3_doingOf M v3 v5) = 3 then (if (fX1_openDoorIn M g v4) = (-1) then M else (fmX11_put (fmX11_put M 21 9 v3 v5) 22 9 v3 (fX1_openDoorIn M g v4))) else M)) 17 1809 (wr32 ((wr32 (v3 * 201)) + v5)) (if (fX3_doingOf M v3 v5) = 1 then (fX7_walkCell M v3 v5) else (if (fX3_doingOf M v3 v5) = 3 then (if (fX1_openDoorIn M g v4) = (-1) then (fX3_nearer M g v4) else (-1)) else v4)))) (v0 := (if (fX3_doingOf M v3 v5) = 1 then (fX3_doingOf M v3 v5) else (if (fX3_doingOf M v3 v5) = 3 then (if (fX1_openDoorIn M g v4) = (-1) then (fX3_doingOf M v3 v5) else 4) else (fX3_doingOf M v3 v5)))) (gX11_put (h := h) (M := (if (fX3_doingOf M v3 v5) = 1 then M else (if (fX3_doingOf M v3 v5) = 3 then (if (fX1_openDoorIn M g v4) = (-1) then M else (fmX11_put (fmX11_put M 21 9 v3 v5) 22 9 v3 (fX1_openDoorIn M g v4))) else M))) (p0 := 17) (np0 := 1809) (v1 := (wr32 ((wr32 (v3 * 201)) + v5))) (v2 := (if (fX3_doingOf M v3 v5) = 1 then (fX7_walkCell M v3 v5) else (if (fX3_doingOf M v3 v5) = 3 then (if (fX1_openDoorIn M g v4) = (-1) then (fX3_nearer M g v4) else (-1)) else v4))) (by decide) rfl (by decide) (G_ite hG (G_ite (G_ite hG (gX11_put (h := h) (M := (fmX11_put M 21 9 v3 v5)) (p0 := 22) (np0 := 9) (v1 := v3) (v2 := (fX1_openDoorIn M g v4)) (by decide) rfl (by decide) (gX11_put (h := h) (M := M) (p0 := 21) (np0 := 9) (v1 := v3) (v2 := v5) (by decide) rfl (by decide) hG))) hG)))) (kF (st2 := [(0, (fX3_onesOf (if (fX3_doingOf M v3 v5) = 1 then (fX3_doingOf M v3 v5) else (if (fX3_doingOf M v3 v5) = 3 then (if (fX1_openDoorIn M g v4) = (-1) then (fX3_doingOf M v3 v5) else 4) else (fX3_doingOf M v3 v5)))))]) rfl (fun hG5 => ?_))
        refine T_sipush (pc' := 129) dX3_follow_126 rfl (by decide) rfl ?_
        refine T_imul (pc' := 130) dX3_follow_129 rfl ?_
        refine T_iload (i := 5) (pc' := 132) dX3_follow_130 rfl rfl ?_
        refine T_iadd (pc' := 133) dX3_follow_132 rfl ?_
        refine T_istore (i := 7) (L' := [(2, 16), (2, g), (2, 9), (0, v3), (0, (if (fX3_doingOf M v3 v5) = 1 then (fX7_walkCell M v3 v5) else (if (fX3_doingOf M v3 v5) = 3 then (if (fX1_openDoorIn M g v4) = (-1) then (fX3_nearer M g v4) else (-1)) else v4))), (0, v5), (0, (if (fX3_doingOf M v3 v5) = 1 then (fX3_doingOf M v3 v5) else (if (fX3_doingOf M v3 v5) = 3 then (if (fX1_openDoorIn M g v4) = (-1) then (fX3_doingOf M v3 v5) else 4) else (fX3_doingOf M v3 v5)))), (0, (wr32 ((wr32 ((fX3_onesOf (if (fX3_doingOf M v3 v5) = 1 then (fX3_doingOf M v3 v5) else (if (fX3_doingOf M v3 v5) = 3 then (if (fX1_openDoorIn M g v4) = (-1) then (fX3_doingOf M v3 v5) else 4) else (fX3_doingOf M v3 v5)))) * 201)) + v5)))]) (pc' := 135) dX3_follow_133 (by decide) rfl rfl ?_
        refine T_aload_n (i := 0) (pc' := 136) dX3_follow_135 rfl rfl rfl ?_
        refine U_gr (q := 18) (k := 1) (kI := 1) (pc' := 139) dX3_follow_136 rfl cl3 (by decide) rfl (by decide) flX3_15 rfl rfl rfl (G_at (gX11_put (h := h) (M := (if (fX3_doingOf M v3 v5) = 1 then M else (if (fX3_doingOf M v3 v5) = 3 then (if (fX1_openDoorIn M g v4) = (-1) then M else (fmX11_put (fmX11_put M 21 9 v3 v5) 22 9 v3 (fX1_openDoorIn M g v4))) else M))) (p0 := 17) (np0 := 1809) (v1 := (wr32 ((wr32 (v3 * 201)) + v5))) (v2 := (if (fX3_doingOf M v3 v5) = 1 then (fX7_walkCell M v3 v5) else (if (fX3_doingOf M v3 v5) = 3 then (if (fX1_openDoorIn M g v4) = (-1) then (fX3_nearer M g v4) else (-1)) else v4))) (by decide) rfl (by decide) (G_ite hG (G_ite (G_ite hG (gX11_put (h := h) (M := (fmX11_put M 21 9 v3 v5)) (p0 := 22) (np0 := 9) (v1 := v3) (v2 := (fX1_openDoorIn M g v4)) (by decide) rfl (by decide) (gX11_put (h := h) (M := M) (p0 := 21) (np0 := 9) (v1 := v3) (v2 := v5) (by decide) rfl (by decide) hG))) hG))) 23 rfl) (by decide) rfl ?_
        refine T_iload (i := 7) (pc' := 141) dX3_follow_139 rfl rfl ?_
        refine T_aload_n (i := 0) (pc' := 142) dX3_follow_141 rfl rfl rfl ?_
        refine U_gr (q := 18) (k := 1) (kI := 1) (pc' := 145) dX3_follow_142 rfl cl3 (by decide) rfl (by decide) flX3_15 rfl rfl rfl (G_at (gX11_put (h := h) (M := (if (fX3_doingOf M v3 v5) = 1 then M else (if (fX3_doingOf M v3 v5) = 3 then (if (fX1_openDoorIn M g v4) = (-1) then M else (fmX11_put (fmX11_put M 21 9 v3 v5) 22 9 v3 (fX1_openDoorIn M g v4))) else M))) (p0 := 17) (np0 := 1809) (v1 := (wr32 ((wr32 (v3 * 201)) + v5))) (v2 := (if (fX3_doingOf M v3 v5) = 1 then (fX7_walkCell M v3 v5) else (if (fX3_doingOf M v3 v5) = 3 then (if (fX1_openDoorIn M g v4) = (-1) then (fX3_nearer M g v4) else (-1)) else v4))) (by decide) rfl (by decide) (G_ite hG (G_ite (G_ite hG (gX11_put (h := h) (M := (fmX11_put M 21 9 v3 v5)) (p0 := 22) (np0 := 9) (v1 := v3) (v2 := (fX1_openDoorIn M g v4)) (by decide) rfl (by decide) (gX11_put (h := h) (M := M) (p0 := 21) (np0 := 9) (v1 := v3) (v2 := v5) (by decide) rfl (by decide) hG))) hG))) 23 rfl) (by decide) rfl ?_
        refine T_iload (i := 7) (pc' := 147) dX3_follow_145 rfl rfl ?_
        refine T_callSN (av := [(2, 18), (0, (wr32 ((wr32 ((fX3_onesOf (if (fX3_doingOf M v3 v5) = 1 then (fX3_doingOf M v3 v5) else (if (fX3_doingOf M v3 v5) = 3 then (if (fX1_openDoorIn M g v4) = (-1) then (fX3_doingOf M v3 v5) else 4) else (fX3_doingOf M v3 v5)))) * 201)) + v5)))]) (st := [(0, (wr32 ((wr32 ((fX3_onesOf (if (fX3_doingOf M v3 v5) = 1 then (fX3_doingOf M v3 v5) else (if (fX3_doingOf M v3 v5) = 3 then (if (fX1_openDoorIn M g v4) = (-1) then (fX3_doingOf M v3 v5) else 4) else (fX3_doingOf M v3 v5)))) * 201)) + v5))), (2, 18)]) (d2 := 1) (nc2 := 0) (ns2 := 0) (pc' := 150) dX3_follow_147 rfl mtX11_get mvX11_get mlX3_67 rfl rfl (Nat.le_of_ble_eq_true rfl) (by decide) ⟨by decide, by decide⟩ rfl (pX11_get (E := E) (h := h) (M := (fmX11_put (if (fX3_doingOf M v3 v5) = 1 then M else (if (fX3_doingOf M v3 v5) = 3 then (if (fX1_openDoorIn M g v4) = (-1) then M else (fmX11_put (fmX11_put M 21 9 v3 v5) 22 9 v3 (fX1_openDoorIn M g v4))) else M)) 17 1809 (wr32 ((wr32 (v3 * 201)) + v5)) (if (fX3_doingOf M v3 v5) = 1 then (fX7_walkCell M v3 v5) else (if (fX3_doingOf M v3 v5) = 3 then (if (fX1_openDoorIn M g v4) = (-1) then (fX3_nearer M g v4) else (-1)) else v4)))) (p0 := 18) (np0 := 804) (v1 := (wr32 ((wr32 ((fX3_onesOf (if (fX3_doingOf M v3 v5) = 1 then (fX3_doingOf M v3 v5) else (if (fX3_doingOf M v3 v5) = 3 then (if (fX1_openDoorIn M g v4) = (-1) then (fX3_doingOf M v3 v5) else 4) else (fX3_doingOf M v3 v5)))) * 201)) + v5))) (by decide) rfl (by decide) (gX11_put (h := h) (M := (if (fX3_doingOf M v3 v5) = 1 then M else (if (fX3_doingOf M v3 v5) = 3 then (if (fX1_openDoorIn M g v4) = (-1) then M else (fmX11_put (fmX11_put M 21 9 v3 v5) 22 9 v3 (fX1_openDoorIn M g v4))) else M))) (p0 := 17) (np0 := 1809) (v1 := (wr32 ((wr32 (v3 * 201)) + v5))) (v2 := (if (fX3_doingOf M v3 v5) = 1 then (fX7_walkCell M v3 v5) else (if (fX3_doingOf M v3 v5) = 3 then (if (fX1_openDoorIn M g v4) = (-1) then (fX3_nearer M g v4) else (-1)) else v4))) (by decide) rfl (by decide) (G_ite hG (G_ite (G_ite hG (gX11_put (h := h) (M := (fmX11_put M 21 9 v3 v5)) (p0 := 22) (np0 := 9) (v1 := v3) (v2 := (fX1_openDoorIn M g v4)) (by decide) rfl (by decide) (gX11_put (h := h) (M := M) (p0 := 21) (np0 := 9) (v1 := v3) (v2 := v5) (by decide) rfl (by decide) hG))) hG)))) (kF (st2 := [(0, (fX11_get (fmX11_put (if (fX3_doingOf M v3 v5) = 1 then M else (if (fX3_doingOf M v3 v5) = 3 then (if (fX1_openDoorIn M g v4) = (-1) then M else (fmX11_put (fmX11_put M 21 9 v3 v5) 22 9 v3 (fX1_openDoorIn M g v4))) else M)) 17 1809 (wr32 ((wr32 (v3 * 201)) + v5)) (if (fX3_doingOf M v3 v5) = 1 then (fX7_walkCell M v3 v5) else (if (fX3_doingOf M v3 v5) = 3 then (if (fX1_openDoorIn M g v4) = (-1) then (fX3_nearer M g v4) else (-1)) else v4))) 18 804 (wr32 ((wr32 ((fX3_onesOf (if (fX3_doingOf M v3 v5) = 1 then (fX3_doingOf M v3 v5) else (if (fX3_doingOf M v3 v5) = 3 then (if (fX1_openDoorIn M g v4) = (-1) then (fX3_doingOf M v3 v5) else 4) else (fX3_doingOf M v3 v5)))) * 201)) + v5)))), (0, (wr32 ((wr32 ((fX3_onesOf (if (fX3_doingOf M v3 v5) = 1 then (fX3_doingOf M v3 v5) else (if (fX3_doingOf M v3 v5) = 3 then (if (fX1_openDoorIn M g v4) = (-1) then (fX3_doingOf M v3 v5) else 4) else (fX3_doingOf M v3 v5)))) * 201)) + v5))), (2, 18)]) rfl (fun hG6 => ?_))
        refine T_iconst (pc' := 151) dX3_follow_150 (by decide) rfl ?_
        refine T_iadd (pc' := 152) dX3_follow_151 rfl ?_
        refine T_callSN (av := [(2, 18), (0, (wr32 ((wr32 ((fX3_onesOf (if (fX3_doingOf M v3 v5) = 1 then (fX3_doingOf M v3 v5) else (if (fX3_doingOf M v3 v5) = 3 then (if (fX1_openDoorIn M g v4) = (-1) then (fX3_doingOf M v3 v5) else 4) else (fX3_doingOf M v3 v5)))) * 201)) + v5))), (0, (wr32 ((fX11_get (fmX11_put (if (fX3_doingOf M v3 v5) = 1 then M else (if (fX3_doingOf M v3 v5) = 3 then (if (fX1_openDoorIn M g v4) = (-1) then M else (fmX11_put (fmX11_put M 21 9 v3 v5) 22 9 v3 (fX1_openDoorIn M g v4))) else M)) 17 1809 (wr32 ((wr32 (v3 * 201)) + v5)) (if (fX3_doingOf M v3 v5) = 1 then (fX7_walkCell M v3 v5) else (if (fX3_doingOf M v3 v5) = 3 then (if (fX1_openDoorIn M g v4) = (-1) then (fX3_nearer M g v4) else (-1)) else v4))) 18 804 (wr32 ((wr32 ((fX3_onesOf (if (fX3_doingOf M v3 v5) = 1 then (fX3_doingOf M v3 v5) else (if (fX3_doingOf M v3 v5) = 3 then (if (fX1_openDoorIn M g v4) = (-1) then (fX3_doingOf M v3 v5) else 4) else (fX3_doingOf M v3 v5)))) * 201)) + v5))) + 1)))]) (st := []) (d2 := 1) (nc2 := 0) (ns2 := 0) (pc' := 155) dX3_follow_152 rfl mtX11_put mvX11_put mlX3_71 rfl rfl (Nat.le_of_ble_eq_true rfl) (by decide) ⟨by decide, by decide⟩ rfl (pX11_put (E := E) (h := h) (M := (fmX11_put (if (fX3_doingOf M v3 v5) = 1 then M else (if (fX3_doingOf M v3 v5) = 3 then (if (fX1_openDoorIn M g v4) = (-1) then M else (fmX11_put (fmX11_put M 21 9 v3 v5) 22 9 v3 (fX1_openDoorIn M g v4))) else M)) 17 1809 (wr32 ((wr32 (v3 * 201)) + v5)) (if (fX3_doingOf M v3 v5) = 1 then (fX7_walkCell M v3 v5) else (if (fX3_doingOf M v3 v5) = 3 then (if (fX1_openDoorIn M g v4) = (-1) then (fX3_nearer M g v4) else (-1)) else v4)))) (p0 := 18) (np0 := 804) (v1 := (wr32 ((wr32 ((fX3_onesOf (if (fX3_doingOf M v3 v5) = 1 then (fX3_doingOf M v3 v5) else (if (fX3_doingOf M v3 v5) = 3 then (if (fX1_openDoorIn M g v4) = (-1) then (fX3_doingOf M v3 v5) else 4) else (fX3_doingOf M v3 v5)))) * 201)) + v5))) (v2 := (wr32 ((fX11_get (fmX11_put (if (fX3_doingOf M v3 v5) = 1 then M else (if (fX3_doingOf M v3 v5) = 3 then (if (fX1_openDoorIn M g v4) = (-1) then M else (fmX11_put (fmX11_put M 21 9 v3 v5) 22 9 v3 (fX1_openDoorIn M g v4))) else M)) 17 1809 (wr32 ((wr32 (v3 * 201)) + v5)) (if (fX3_doingOf M v3 v5) = 1 then (fX7_walkCell M v3 v5) else (if (fX3_doingOf M v3 v5) = 3 then (if (fX1_openDoorIn M g v4) = (-1) then (fX3_nearer M g v4) else (-1)) else v4))) 18 804 (wr32 ((wr32 ((fX3_onesOf (if (fX3_doingOf M v3 v5) = 1 then (fX3_doingOf M v3 v5) else (if (fX3_doingOf M v3 v5) = 3 then (if (fX1_openDoorIn M g v4) = (-1) then (fX3_doingOf M v3 v5) else 4) else (fX3_doingOf M v3 v5)))) * 201)) + v5))) + 1))) (by decide) rfl (by decide) (gX11_put (h := h) (M := (if (fX3_doingOf M v3 v5) = 1 then M else (if (fX3_doingOf M v3 v5) = 3 then (if (fX1_openDoorIn M g v4) = (-1) then M else (fmX11_put (fmX11_put M 21 9 v3 v5) 22 9 v3 (fX1_openDoorIn M g v4))) else M))) (p0 := 17) (np0 := 1809) (v1 := (wr32 ((wr32 (v3 * 201)) + v5))) (v2 := (if (fX3_doingOf M v3 v5) = 1 then (fX7_walkCell M v3 v5) else (if (fX3_doingOf M v3 v5) = 3 then (if (fX1_openDoorIn M g v4) = (-1) then (fX3_nearer M g v4) else (-1)) else v4))) (by decide) rfl (by decide) (G_ite hG (G_ite (G_ite hG (gX11_put (h := h) (M := (fmX11_put M 21 9 v3 v5)) (p0 := 22) (np0 := 9) (v1 := v3) (v2 := (fX1_openDoorIn M g v4)) (by decide) rfl (by decide) (gX11_put (h := h) (M := M) (p0 := 21) (np0 := 9) (v1 := v3) (v2 := v5) (by decide) rfl (by decide) hG))) hG)))) (kF (st2 := []) rfl (fun hG7 => ?_))
        refine T_iinc (L' := [(2, 16), (2, g), (2, 9), (0, v3), (0, (if (fX3_doingOf M v3 v5) = 1 then (fX7_walkCell M v3 v5) else (if (fX3_doingOf M v3 v5) = 3 then (if (fX1_openDoorIn M g v4) = (-1) then (fX3_nearer M g v4) else (-1)) else v4))), (0, (wr32 (v5 + 1))), (0, (if (fX3_doingOf M v3 v5) = 1 then (fX3_doingOf M v3 v5) else (if (fX3_doingOf M v3 v5) = 3 then (if (fX1_openDoorIn M g v4) = (-1) then (fX3_doingOf M v3 v5) else 4) else (fX3_doingOf M v3 v5)))), (0, (wr32 ((wr32 ((fX3_onesOf (if (fX3_doingOf M v3 v5) = 1 then (fX3_doingOf M v3 v5) else (if (fX3_doingOf M v3 v5) = 3 then (if (fX1_openDoorIn M g v4) = (-1) then (fX3_doingOf M v3 v5) else 4) else (fX3_doingOf M v3 v5)))) * 201)) + v5)))]) (pc' := 158) dX3_follow_155 rfl (by decide) rfl rfl ?_
        refine T_goto (pc' := 11) dX3_follow_158 (by decide) ?_
        rw [hw]
        exact T_wk (ih _ _ (v5 + 1) _ (by omega) (by omega) hQ (gX11_put (h := h) (M := (fmX11_put (if (fX3_doingOf M v3 v5) = 1 then M else (if (fX3_doingOf M v3 v5) = 3 then (if (fX1_openDoorIn M g v4) = (-1) then M else (fmX11_put (fmX11_put M 21 9 v3 v5) 22 9 v3 (fX1_openDoorIn M g v4))) else M)) 17 1809 (wr32 ((wr32 (v3 * 201)) + v5)) (if (fX3_doingOf M v3 v5) = 1 then (fX7_walkCell M v3 v5) else (if (fX3_doingOf M v3 v5) = 3 then (if (fX1_openDoorIn M g v4) = (-1) then (fX3_nearer M g v4) else (-1)) else v4)))) (p0 := 18) (np0 := 804) (v1 := (wr32 ((wr32 ((fX3_onesOf (if (fX3_doingOf M v3 v5) = 1 then (fX3_doingOf M v3 v5) else (if (fX3_doingOf M v3 v5) = 3 then (if (fX1_openDoorIn M g v4) = (-1) then (fX3_doingOf M v3 v5) else 4) else (fX3_doingOf M v3 v5)))) * 201)) + v5))) (v2 := (wr32 ((fX11_get (fmX11_put (if (fX3_doingOf M v3 v5) = 1 then M else (if (fX3_doingOf M v3 v5) = 3 then (if (fX1_openDoorIn M g v4) = (-1) then M else (fmX11_put (fmX11_put M 21 9 v3 v5) 22 9 v3 (fX1_openDoorIn M g v4))) else M)) 17 1809 (wr32 ((wr32 (v3 * 201)) + v5)) (if (fX3_doingOf M v3 v5) = 1 then (fX7_walkCell M v3 v5) else (if (fX3_doingOf M v3 v5) = 3 then (if (fX1_openDoorIn M g v4) = (-1) then (fX3_nearer M g v4) else (-1)) else v4))) 18 804 (wr32 ((wr32 ((fX3_onesOf (if (fX3_doingOf M v3 v5) = 1 then (fX3_doingOf M v3 v5) else (if (fX3_doingOf M v3 v5) = 3 then (if (fX1_openDoorIn M g v4) = (-1) then (fX3_doingOf M v3 v5) else 4) else (fX3_doingOf M v3 v5)))) * 201)) + v5))) + 1))) (by decide) rfl (by decide) (gX11_put (h := h) (M := (if (fX3_doingOf M v3 v5) = 1 then M else (if (fX3_doingOf M v3 v5) = 3 then (if (fX1_openDoorIn M g v4) = (-1) then M else (fmX11_put (fmX11_put M 21 9 v3 v5) 22 9 v3 (fX1_openDoorIn M g v4))) else M))) (p0 := 17) (np0 := 1809) (v1 := (wr32 ((wr32 (v3 * 201)) + v5))) (v2 := (if (fX3_doingOf M v3 v5) = 1 then (fX7_walkCell M v3 v5) else (if (fX3_doingOf M v3 v5) = 3 then (if (fX1_openDoorIn M g v4) = (-1) then (fX3_nearer M g v4) else (-1)) else v4))) (by decide) rfl (by decide) (G_ite hG (G_ite (G_ite hG (gX11_put (h := h) (M := (fmX11_put M 21 9 v3 v5)) (p0 := 22) (np0 := 9) (v1 := v3) (v2 := (fX1_openDoorIn M g v4)) (by decide) rfl (by decide) (gX11_put (h := h) (M := M) (p0 := 21) (np0 := 9) (v1 := v3) (v2 := v5) (by decide) rfl (by decide) hG))) hG))))) ⟨Or.inr rfl, Or.inr rfl, Or.inr rfl, Or.inr rfl, Or.inr rfl, Or.inr rfl, Or.inl rfl, Or.inl rfl, trivial⟩
      refine T_icmp_ne (pc' := 46) dX3_follow_31 (by decide) (pf := 34) rfl (fun c8 => ?_) (fun c8 => ?_)
      · skip
        refine T_iload (i := 6) (pc' := 48) dX3_follow_46 rfl rfl ?_
        refine T_iconst (pc' := 49) dX3_follow_48 (by decide) rfl ?_
        refine T_icmp_ne (pc' := 104) dX3_follow_49 (by decide) (pf := 52) rfl (fun c9 => ?_) (fun c9 => ?_)
        · skip
          exact T_wk (L' := [(2, 16), (2, g), (2, 9), (0, v3), (0, v4), (0, v5), (0, (fX3_doingOf M v3 v5)), (3, 0)]) (by have q := HJ3; try simp only [if_neg c8] at q; try simp only [if_neg c9] at q; exact q) ⟨Or.inr rfl, Or.inr rfl, Or.inr rfl, Or.inr rfl, Or.inr rfl, Or.inr rfl, Or.inr rfl, Or.inl rfl, trivial⟩
        · skip
          refine T_aload_n (i := 1) (pc' := 53) dX3_follow_52 rfl rfl rfl ?_
          refine T_iload (i := 4) (pc' := 55) dX3_follow_53 rfl rfl ?_
          refine T_callV (av := [(0, v4)]) (st := []) (d2 := 3) (nc2 := 0) (ns2 := 0) (pc' := 58) dX3_follow_55 rfl mtX1_openDoorIn mvX1_openDoorIn mlX3_103 cl1 (shg0 hg) rfl rfl (Nat.le_of_ble_eq_true rfl) (by decide) ⟨by decide, by decide⟩ rfl (pX1_openDoorIn (E := E) (h := h) (M := M) (g := g) (v1 := v4) hg hG) (kF (st2 := [(0, (fX1_openDoorIn M g v4))]) rfl (fun hG10 => ?_))
          refine T_istore (i := 7) (L' := [(2, 16), (2, g), (2, 9), (0, v3), (0, v4), (0, v5), (0, (fX3_doingOf M v3 v5)), (0, (fX1_openDoorIn M g v4))]) (pc' := 60) dX3_follow_58 (by decide) rfl rfl ?_
          refine T_iload (i := 7) (pc' := 62) dX3_follow_60 rfl rfl ?_
          refine T_iconst (pc' := 63) dX3_follow_62 (by decide) rfl ?_
          refine T_icmp_eq (pc' := 95) dX3_follow_63 (by decide) (pf := 66) rfl (fun c11 => ?_) (fun c11 => ?_)
          · skip
            refine T_aload_n (i := 0) (pc' := 96) dX3_follow_95 rfl rfl rfl ?_
            refine T_aload_n (i := 1) (pc' := 97) dX3_follow_96 rfl rfl rfl ?_
            refine T_iload (i := 4) (pc' := 99) dX3_follow_97 rfl rfl ?_
            refine T_callV (av := [(2, g), (0, v4)]) (st := []) (d2 := 4) (nc2 := 0) (ns2 := 0) (pc' := 102) dX3_follow_99 rfl mtX3_nearer mvX3_nearer mlX3_107 cl3 rfl rfl rfl (Nat.le_of_ble_eq_true rfl) (by decide) ⟨by decide, by decide⟩ rfl (pX3_nearer (E := E) (h := h) (M := M) (g := g) (v2 := v4) hg hG) (kF (st2 := [(0, (fX3_nearer M g v4))]) rfl (fun hG12 => ?_))
            refine T_istore (i := 4) (L' := [(2, 16), (2, g), (2, 9), (0, v3), (0, (fX3_nearer M g v4)), (0, v5), (0, (fX3_doingOf M v3 v5)), (0, (fX1_openDoorIn M g v4))]) (pc' := 104) dX3_follow_102 (by decide) rfl rfl ?_
            exact T_wk (L' := [(2, 16), (2, g), (2, 9), (0, v3), (0, (fX3_nearer M g v4)), (0, v5), (0, (fX3_doingOf M v3 v5)), (3, 0)]) (by have q := HJ3; try simp only [if_neg c8] at q; try simp only [if_pos c9] at q; try simp only [if_pos c11] at q; exact q) ⟨Or.inr rfl, Or.inr rfl, Or.inr rfl, Or.inr rfl, Or.inr rfl, Or.inr rfl, Or.inr rfl, Or.inl rfl, trivial⟩
          · skip
            refine T_aload_n (i := 0) (pc' := 67) dX3_follow_66 rfl rfl rfl ?_
            refine U_gr (q := 21) (k := 4) (kI := 4) (pc' := 70) dX3_follow_67 rfl cl3 (by decide) rfl (by decide) flX3_24 rfl rfl rfl (G_at hG 26 rfl) (by decide) rfl ?_
            refine T_iload_n (i := 3) (pc' := 71) dX3_follow_70 rfl rfl rfl ?_
            refine T_iload (i := 5) (pc' := 73) dX3_follow_71 rfl rfl ?_
            refine T_callSN (av := [(2, 21), (0, v3), (0, v5)]) (st := []) (d2 := 1) (nc2 := 0) (ns2 := 0) (pc' := 76) dX3_follow_73 rfl mtX11_put mvX11_put mlX3_71 rfl rfl (Nat.le_of_ble_eq_true rfl) (by decide) ⟨by decide, by decide⟩ rfl (pX11_put (E := E) (h := h) (M := M) (p0 := 21) (np0 := 9) (v1 := v3) (v2 := v5) (by decide) rfl (by decide) hG) (kF (st2 := []) rfl (fun hG13 => ?_))
            refine T_aload_n (i := 0) (pc' := 77) dX3_follow_76 rfl rfl rfl ?_
            refine U_gr (q := 22) (k := 5) (kI := 5) (pc' := 80) dX3_follow_77 rfl cl3 (by decide) rfl (by decide) flX3_27 rfl rfl rfl (G_at (gX11_put (h := h) (M := M) (p0 := 21) (np0 := 9) (v1 := v3) (v2 := v5) (by decide) rfl (by decide) hG) 27 rfl) (by decide) rfl ?_
            refine T_iload_n (i := 3) (pc' := 81) dX3_follow_80 rfl rfl rfl ?_
            refine T_iload (i := 7) (pc' := 83) dX3_follow_81 rfl rfl ?_
            refine T_callSN (av := [(2, 22), (0, v3), (0, (fX1_openDoorIn M g v4))]) (st := []) (d2 := 1) (nc2 := 0) (ns2 := 0) (pc' := 86) dX3_follow_83 rfl mtX11_put mvX11_put mlX3_71 rfl rfl (Nat.le_of_ble_eq_true rfl) (by decide) ⟨by decide, by decide⟩ rfl (pX11_put (E := E) (h := h) (M := (fmX11_put M 21 9 v3 v5)) (p0 := 22) (np0 := 9) (v1 := v3) (v2 := (fX1_openDoorIn M g v4)) (by decide) rfl (by decide) (gX11_put (h := h) (M := M) (p0 := 21) (np0 := 9) (v1 := v3) (v2 := v5) (by decide) rfl (by decide) hG)) (kF (st2 := []) rfl (fun hG14 => ?_))
            refine T_iconst (pc' := 87) dX3_follow_86 (by decide) rfl ?_
            refine T_istore (i := 4) (L' := [(2, 16), (2, g), (2, 9), (0, v3), (0, (-1)), (0, v5), (0, (fX3_doingOf M v3 v5)), (0, (fX1_openDoorIn M g v4))]) (pc' := 89) dX3_follow_87 (by decide) rfl rfl ?_
            refine T_iconst (pc' := 90) dX3_follow_89 (by decide) rfl ?_
            refine T_istore (i := 6) (L' := [(2, 16), (2, g), (2, 9), (0, v3), (0, (-1)), (0, v5), (0, 4), (0, (fX1_openDoorIn M g v4))]) (pc' := 92) dX3_follow_90 (by decide) rfl rfl ?_
            refine T_goto (pc' := 104) dX3_follow_92 (by decide) ?_
            exact T_wk (L' := [(2, 16), (2, g), (2, 9), (0, v3), (0, (-1)), (0, v5), (0, 4), (3, 0)]) (by have q := HJ3; try simp only [if_neg c8] at q; try simp only [if_pos c9] at q; try simp only [if_neg c11] at q; exact q) ⟨Or.inr rfl, Or.inr rfl, Or.inr rfl, Or.inr rfl, Or.inr rfl, Or.inr rfl, Or.inr rfl, Or.inl rfl, trivial⟩
      · skip
        refine T_aload_n (i := 2) (pc' := 35) dX3_follow_34 rfl rfl rfl ?_
        refine T_iload_n (i := 3) (pc' := 36) dX3_follow_35 rfl rfl rfl ?_
        refine T_iload (i := 5) (pc' := 38) dX3_follow_36 rfl rfl ?_
        refine T_callV (av := [(0, v3), (0, v5)]) (st := []) (d2 := 2) (nc2 := 0) (ns2 := 0) (pc' := 41) dX3_follow_38 rfl mtX7_walkCell mvX7_walkCell mlX3_97 cl7 rfl rfl rfl (Nat.le_of_ble_eq_true rfl) (by decide) ⟨by decide, by decide⟩ rfl (pX7_walkCell (E := E) (h := h) (M := M) (v1 := v3) (v2 := v5) hG) (kF (st2 := [(0, (fX7_walkCell M v3 v5))]) rfl (fun hG15 => ?_))
        refine T_istore (i := 4) (L' := [(2, 16), (2, g), (2, 9), (0, v3), (0, (fX7_walkCell M v3 v5)), (0, v5), (0, (fX3_doingOf M v3 v5)), (3, 0)]) (pc' := 43) dX3_follow_41 (by decide) rfl rfl ?_
        refine T_goto (pc' := 104) dX3_follow_43 (by decide) ?_
        exact T_wk (L' := [(2, 16), (2, g), (2, 9), (0, v3), (0, (fX7_walkCell M v3 v5)), (0, v5), (0, (fX3_doingOf M v3 v5)), (3, 0)]) (by have q := HJ3; try simp only [if_pos c8] at q; exact q) ⟨Or.inr rfl, Or.inr rfl, Or.inr rfl, Or.inr rfl, Or.inr rfl, Or.inr rfl, Or.inr rfl, Or.inl rfl, trivial⟩
def fmX3_follow (M : Mem) (g : Int) (v3 : Int) : Mem :=
  (lmX3_follow_11 g 201 v3 (fX7_walkCell M v3 0) 0 M)
theorem frX3_follow {M : Mem} {g : Int} {v3 : Int} {q : Int} (hq0 : q ≠ 21) (hq1 : q ≠ 22) (hq2 : q ≠ 17) (hq3 : q ≠ 18) : (fmX3_follow M g v3) q = M q := by
  unfold fmX3_follow
  repeat' (first | rfl | rw [mset_p hq0] | rw [mset_p hq1] | rw [mset_p hq2] | rw [mset_p hq3] | rw [mcpy_p hq0] | rw [mcpy_p hq1] | rw [mcpy_p hq2] | rw [mcpy_p hq3] | (rw [frX11_put] <;> try assumption) | (rw [frlX3_follow_11] <;> try assumption) | rw [ite_ap] | split)
theorem gX3_follow {h : Int} {M : Mem} {g : Int} {v3 : Int} (hg : isG g) (hG : G h M) : G h (fmX3_follow M g v3) := by
  unfold fmX3_follow
  exact (glX3_follow_11 hg hG)
set_option maxRecDepth 100000 in
theorem pX3_follow {E : EV} {h : Int} {M : Mem} {g : Int} {v3 : Int} (hg : isG g) : C2 E miX3_follow 5 h [(2, 16), (2, g), (2, 9), (0, v3)] M (fun r M' => r = none ∧ M' = (fmX3_follow M g v3)) := by
  obtain ⟨Q, hQ0⟩ : ∃ Q : Option MV → Mem → Prop, Q = (fun r M' => r = none ∧ M' = (fmX3_follow M g v3)) := ⟨_, rfl⟩
  rw [← hQ0]
  have hQ : Q none (lmX3_follow_11 g 201 v3 (fX7_walkCell M v3 0) 0 M) := by rw [hQ0]; exact ⟨rfl, rfl⟩
  refine C2_of (L := [(2, 16), (2, g), (2, 9), (0, v3), (3, 0), (3, 0), (3, 0), (3, 0)]) (by decide +kernel) (Nat.le_of_ble_eq_true rfl) rfl (fun hG => ?_)
  refine T_aload_n (i := 2) (pc' := 1) dX3_follow_0 rfl rfl rfl ?_
  refine T_iload_n (i := 3) (pc' := 2) dX3_follow_1 rfl rfl rfl ?_
  refine T_iconst (pc' := 3) dX3_follow_2 (by decide) rfl ?_
  refine T_callV (av := [(0, v3), (0, 0)]) (st := []) (d2 := 2) (nc2 := 0) (ns2 := 0) (pc' := 6) dX3_follow_3 rfl mtX7_walkCell mvX7_walkCell mlX3_97 cl7 rfl rfl rfl (Nat.le_of_ble_eq_true rfl) (by decide) ⟨by decide, by decide⟩ rfl (pX7_walkCell (E := E) (h := h) (M := M) (v1 := v3) (v2 := 0) hG) (kF (st2 := [(0, (fX7_walkCell M v3 0))]) rfl (fun hG1 => ?_))
  refine T_istore (i := 4) (L' := [(2, 16), (2, g), (2, 9), (0, v3), (0, (fX7_walkCell M v3 0)), (3, 0), (3, 0), (3, 0)]) (pc' := 8) dX3_follow_6 (by decide) rfl rfl ?_
  refine T_iconst (pc' := 9) dX3_follow_8 (by decide) rfl ?_
  refine T_istore (i := 5) (L' := [(2, 16), (2, g), (2, 9), (0, v3), (0, (fX7_walkCell M v3 0)), (0, 0), (3, 0), (3, 0)]) (pc' := 11) dX3_follow_9 (by decide) rfl rfl ?_
  exact T_wk (qX3_follow_11 hg 201 v3 (fX7_walkCell M v3 0) 0 _ (by first | decide | omega) rfl hQ hG) ⟨Or.inr rfl, Or.inr rfl, Or.inr rfl, Or.inr rfl, Or.inr rfl, Or.inr rfl, Or.inl rfl, Or.inl rfl, trivial⟩
def fJ6_bitCount_0f7a4 (v0 : Int) : Int :=
  (m_and (wr32 ((wr32 ((m_and (wr32 ((wr32 ((m_and (wr32 (v0 - (m_and (m_ushr v0 1) 1431655765))) 858993459) + (m_and (m_ushr (wr32 (v0 - (m_and (m_ushr v0 1) 1431655765))) 2) 858993459))) + (m_ushr (wr32 ((m_and (wr32 (v0 - (m_and (m_ushr v0 1) 1431655765))) 858993459) + (m_and (m_ushr (wr32 (v0 - (m_and (m_ushr v0 1) 1431655765))) 2) 858993459))) 4))) 252645135) + (m_ushr (m_and (wr32 ((wr32 ((m_and (wr32 (v0 - (m_and (m_ushr v0 1) 1431655765))) 858993459) + (m_and (m_ushr (wr32 (v0 - (m_and (m_ushr v0 1) 1431655765))) 2) 858993459))) + (m_ushr (wr32 ((m_and (wr32 (v0 - (m_and (m_ushr v0 1) 1431655765))) 858993459) + (m_and (m_ushr (wr32 (v0 - (m_and (m_ushr v0 1) 1431655765))) 2) 858993459))) 4))) 252645135) 8))) + (m_ushr (wr32 ((m_and (wr32 ((wr32 ((m_and (wr32 (v0 - (m_and (m_ushr v0 1) 1431655765))) 858993459) + (m_and (m_ushr (wr32 (v0 - (m_and (m_ushr v0 1) 1431655765))) 2) 858993459))) + (m_ushr (wr32 ((m_and (wr32 (v0 - (m_and (m_ushr v0 1) 1431655765))) 858993459) + (m_and (m_ushr (wr32 (v0 - (m_and (m_ushr v0 1) 1431655765))) 2) 858993459))) 4))) 252645135) + (m_ushr (m_and (wr32 ((wr32 ((m_and (wr32 (v0 - (m_and (m_ushr v0 1) 1431655765))) 858993459) + (m_and (m_ushr (wr32 (v0 - (m_and (m_ushr v0 1) 1431655765))) 2) 858993459))) + (m_ushr (wr32 ((m_and (wr32 (v0 - (m_and (m_ushr v0 1) 1431655765))) 858993459) + (m_and (m_ushr (wr32 (v0 - (m_and (m_ushr v0 1) 1431655765))) 2) 858993459))) 4))) 252645135) 8))) 16))) 63)
set_option maxRecDepth 100000 in
theorem pJ6_bitCount_0f7a4 {E : EV} {h : Int} {M : Mem} {v0 : Int}  : C2 E miJ6_bitCount_0f7a4 1 h [(0, v0)] M (fun r M' => r = some (0, (fJ6_bitCount_0f7a4 v0)) ∧ M' = M) := by
  obtain ⟨Q, hQ⟩ : ∃ Q : Option MV → Mem → Prop, Q = (fun r M' => r = some (0, (fJ6_bitCount_0f7a4 v0)) ∧ M' = M) := ⟨_, rfl⟩
  rw [← hQ]
  refine C2_of (L := [(0, v0)]) (by decide +kernel) (Nat.le_of_ble_eq_true rfl) rfl (fun hG => ?_)
  refine T_iload_n (i := 0) (pc' := 1) dJ6_bitCount_0f7a4_0 rfl rfl rfl ?_
  refine T_iload_n (i := 0) (pc' := 2) dJ6_bitCount_0f7a4_1 rfl rfl rfl ?_
  refine T_iconst (pc' := 3) dJ6_bitCount_0f7a4_2 (by decide) rfl ?_
  refine T_iushr (pc' := 4) dJ6_bitCount_0f7a4_3 rfl ?_
  refine T_ldcw (n := 1431655765) (pc' := 7) dJ6_bitCount_0f7a4_4 rfl kiJ6_265 rfl (by decide) rfl ?_
  refine T_iand (pc' := 8) dJ6_bitCount_0f7a4_7 rfl ?_
  refine T_isub (pc' := 9) dJ6_bitCount_0f7a4_8 rfl ?_
  refine T_istore_n (i := 0) (L' := [(0, (wr32 (v0 - (m_and (m_ushr v0 1) 1431655765))))]) (pc' := 10) dJ6_bitCount_0f7a4_9 rfl (by decide) rfl rfl ?_
  refine T_iload_n (i := 0) (pc' := 11) dJ6_bitCount_0f7a4_10 rfl rfl rfl ?_
  refine T_ldcw (n := 858993459) (pc' := 14) dJ6_bitCount_0f7a4_11 rfl kiJ6_266 rfl (by decide) rfl ?_
  refine T_iand (pc' := 15) dJ6_bitCount_0f7a4_14 rfl ?_
  refine T_iload_n (i := 0) (pc' := 16) dJ6_bitCount_0f7a4_15 rfl rfl rfl ?_
  refine T_iconst (pc' := 17) dJ6_bitCount_0f7a4_16 (by decide) rfl ?_
  refine T_iushr (pc' := 18) dJ6_bitCount_0f7a4_17 rfl ?_
  refine T_ldcw (n := 858993459) (pc' := 21) dJ6_bitCount_0f7a4_18 rfl kiJ6_266 rfl (by decide) rfl ?_
  refine T_iand (pc' := 22) dJ6_bitCount_0f7a4_21 rfl ?_
  refine T_iadd (pc' := 23) dJ6_bitCount_0f7a4_22 rfl ?_
  refine T_istore_n (i := 0) (L' := [(0, (wr32 ((m_and (wr32 (v0 - (m_and (m_ushr v0 1) 1431655765))) 858993459) + (m_and (m_ushr (wr32 (v0 - (m_and (m_ushr v0 1) 1431655765))) 2) 858993459))))]) (pc' := 24) dJ6_bitCount_0f7a4_23 rfl (by decide) rfl rfl ?_
  refine T_iload_n (i := 0) (pc' := 25) dJ6_bitCount_0f7a4_24 rfl rfl rfl ?_
  refine T_iload_n (i := 0) (pc' := 26) dJ6_bitCount_0f7a4_25 rfl rfl rfl ?_
  refine T_iconst (pc' := 27) dJ6_bitCount_0f7a4_26 (by decide) rfl ?_
  refine T_iushr (pc' := 28) dJ6_bitCount_0f7a4_27 rfl ?_
  refine T_iadd (pc' := 29) dJ6_bitCount_0f7a4_28 rfl ?_
  refine T_ldcw (n := 252645135) (pc' := 32) dJ6_bitCount_0f7a4_29 rfl kiJ6_267 rfl (by decide) rfl ?_
  refine T_iand (pc' := 33) dJ6_bitCount_0f7a4_32 rfl ?_
  refine T_istore_n (i := 0) (L' := [(0, (m_and (wr32 ((wr32 ((m_and (wr32 (v0 - (m_and (m_ushr v0 1) 1431655765))) 858993459) + (m_and (m_ushr (wr32 (v0 - (m_and (m_ushr v0 1) 1431655765))) 2) 858993459))) + (m_ushr (wr32 ((m_and (wr32 (v0 - (m_and (m_ushr v0 1) 1431655765))) 858993459) + (m_and (m_ushr (wr32 (v0 - (m_and (m_ushr v0 1) 1431655765))) 2) 858993459))) 4))) 252645135))]) (pc' := 34) dJ6_bitCount_0f7a4_33 rfl (by decide) rfl rfl ?_
  refine T_iload_n (i := 0) (pc' := 35) dJ6_bitCount_0f7a4_34 rfl rfl rfl ?_
  refine T_iload_n (i := 0) (pc' := 36) dJ6_bitCount_0f7a4_35 rfl rfl rfl ?_
  refine T_bipush (pc' := 38) dJ6_bitCount_0f7a4_36 rfl (by decide) rfl ?_
  refine T_iushr (pc' := 39) dJ6_bitCount_0f7a4_38 rfl ?_
  refine T_iadd (pc' := 40) dJ6_bitCount_0f7a4_39 rfl ?_
  refine T_istore_n (i := 0) (L' := [(0, (wr32 ((m_and (wr32 ((wr32 ((m_and (wr32 (v0 - (m_and (m_ushr v0 1) 1431655765))) 858993459) + (m_and (m_ushr (wr32 (v0 - (m_and (m_ushr v0 1) 1431655765))) 2) 858993459))) + (m_ushr (wr32 ((m_and (wr32 (v0 - (m_and (m_ushr v0 1) 1431655765))) 858993459) + (m_and (m_ushr (wr32 (v0 - (m_and (m_ushr v0 1) 1431655765))) 2) 858993459))) 4))) 252645135) + (m_ushr (m_and (wr32 ((wr32 ((m_and (wr32 (v0 - (m_and (m_ushr v0 1) 1431655765))) 858993459) + (m_and (m_ushr (wr32 (v0 - (m_and (m_ushr v0 1) 1431655765))) 2) 858993459))) + (m_ushr (wr32 ((m_and (wr32 (v0 - (m_and (m_ushr v0 1) 1431655765))) 858993459) + (m_and (m_ushr (wr32 (v0 - (m_and (m_ushr v0 1) 1431655765))) 2) 858993459))) 4))) 252645135) 8))))]) (pc' := 41) dJ6_bitCount_0f7a4_40 rfl (by decide) rfl rfl ?_
  refine T_iload_n (i := 0) (pc' := 42) dJ6_bitCount_0f7a4_41 rfl rfl rfl ?_
  refine T_iload_n (i := 0) (pc' := 43) dJ6_bitCount_0f7a4_42 rfl rfl rfl ?_
  refine T_bipush (pc' := 45) dJ6_bitCount_0f7a4_43 rfl (by decide) rfl ?_
  refine T_iushr (pc' := 46) dJ6_bitCount_0f7a4_45 rfl ?_
  refine T_iadd (pc' := 47) dJ6_bitCount_0f7a4_46 rfl ?_
  refine T_istore_n (i := 0) (L' := [(0, (wr32 ((wr32 ((m_and (wr32 ((wr32 ((m_and (wr32 (v0 - (m_and (m_ushr v0 1) 1431655765))) 858993459) + (m_and (m_ushr (wr32 (v0 - (m_and (m_ushr v0 1) 1431655765))) 2) 858993459))) + (m_ushr (wr32 ((m_and (wr32 (v0 - (m_and (m_ushr v0 1) 1431655765))) 858993459) + (m_and (m_ushr (wr32 (v0 - (m_and (m_ushr v0 1) 1431655765))) 2) 858993459))) 4))) 252645135) + (m_ushr (m_and (wr32 ((wr32 ((m_and (wr32 (v0 - (m_and (m_ushr v0 1) 1431655765))) 858993459) + (m_and (m_ushr (wr32 (v0 - (m_and (m_ushr v0 1) 1431655765))) 2) 858993459))) + (m_ushr (wr32 ((m_and (wr32 (v0 - (m_and (m_ushr v0 1) 1431655765))) 858993459) + (m_and (m_ushr (wr32 (v0 - (m_and (m_ushr v0 1) 1431655765))) 2) 858993459))) 4))) 252645135) 8))) + (m_ushr (wr32 ((m_and (wr32 ((wr32 ((m_and (wr32 (v0 - (m_and (m_ushr v0 1) 1431655765))) 858993459) + (m_and (m_ushr (wr32 (v0 - (m_and (m_ushr v0 1) 1431655765))) 2) 858993459))) + (m_ushr (wr32 ((m_and (wr32 (v0 - (m_and (m_ushr v0 1) 1431655765))) 858993459) + (m_and (m_ushr (wr32 (v0 - (m_and (m_ushr v0 1) 1431655765))) 2) 858993459))) 4))) 252645135) + (m_ushr (m_and (wr32 ((wr32 ((m_and (wr32 (v0 - (m_and (m_ushr v0 1) 1431655765))) 858993459) + (m_and (m_ushr (wr32 (v0 - (m_and (m_ushr v0 1) 1431655765))) 2) 858993459))) + (m_ushr (wr32 ((m_and (wr32 (v0 - (m_and (m_ushr v0 1) 1431655765))) 858993459) + (m_and (m_ushr (wr32 (v0 - (m_and (m_ushr v0 1) 1431655765))) 2) 858993459))) 4))) 252645135) 8))) 16))))]) (pc' := 48) dJ6_bitCount_0f7a4_47 rfl (by decide) rfl rfl ?_
  refine T_iload_n (i := 0) (pc' := 49) dJ6_bitCount_0f7a4_48 rfl rfl rfl ?_
  refine T_bipush (pc' := 51) dJ6_bitCount_0f7a4_49 rfl (by decide) rfl ?_
  refine T_iand (pc' := 52) dJ6_bitCount_0f7a4_51 rfl ?_
  exact T_iret dJ6_bitCount_0f7a4_52 rfl ⟨rfl, hG, (by rw [hQ]; exact ⟨rfl, rfl⟩)⟩
