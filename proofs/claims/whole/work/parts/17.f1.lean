/-! methods by program, 1 -/
def fmX0_forget (M : Mem) : Mem :=
  (mset M 27 3 0)
theorem gX0_forget {h : Int} {M : Mem}   (hG : G h M) : G h (fmX0_forget M) := by
  unfold fmX0_forget
  exact (G_fld (x := 27) (i := 3) (y := 0) rfl (by decide) (by decide) (by decide) hG)
set_option maxRecDepth 100000 in
theorem pX0_forget {E : EV} {h : Int} {M : Mem}   : C2 E miX0_forget 1 h [(2, 27)] M (fun r M' => r = none ∧ M' = (fmX0_forget M)) := by
  obtain ⟨Q, hQ⟩ : ∃ Q : Option MV → Mem → Prop, Q = (fun r M' => r = none ∧ M' = (fmX0_forget M)) := ⟨_, rfl⟩
  rw [← hQ]
  refine C2_of (L := [(2, 27)]) (by decide +kernel) (Nat.le_of_ble_eq_true rfl) rfl (fun hG => ?_)
  refine T_aload_n (i := 0) (pc' := 1) dX0_forget_0 rfl rfl rfl ?_
  refine T_iconst (pc' := 2) dX0_forget_1 (by decide) rfl ?_
  refine U_pf (y := 0) (k := 3) (kI := 3) (pc' := 5) dX0_forget_2 rfl cl0 (by decide) rfl (by decide) flX0_21 rfl rfl rfl rfl rfl (by decide) (fun z => z) rfl ?_
  exact T_vret dX0_forget_5 rfl ⟨rfl, (G_fld (x := 27) (i := 3) (y := 0) rfl (by decide) (by decide) (by decide) hG), (by rw [hQ]; exact ⟨rfl, rfl⟩)⟩
theorem frX0_forget {M : Mem} {q : Int} (hq0 : q ≠ 27) : (fmX0_forget M) q = M q := by
  unfold fmX0_forget
  exact ((mset_p hq0).trans rfl)
def fmX11_put (M : Mem) (p0 : Int) (np0 : Nat) (v1 : Int) (v2 : Int) : Mem :=
  (if v1 < 0 then M else (if (np0 : Int) ≤ v1 then M else (mset M p0 v1 v2)))
theorem gX11_put {h : Int} {M : Mem} {p0 : Int} {np0 : Nat} {v1 : Int} {v2 : Int} (h0p0 : 0 ≤ p0) (hSp0 : S0[p0.toNat]? = some (0, 0, np0)) (hnp0 : np0 < 2147483648) (hG : G h M) : G h (fmX11_put M p0 np0 v1 v2) := by
  unfold fmX11_put
  exact (G_ite hG (G_ite hG (G_arr (x := p0) (i := v1) (y := v2) hSp0 h0p0 hG)))
set_option maxRecDepth 100000 in
theorem pX11_put {E : EV} {h : Int} {M : Mem} {p0 : Int} {np0 : Nat} {v1 : Int} {v2 : Int} (h0p0 : 0 ≤ p0) (hSp0 : S0[p0.toNat]? = some (0, 0, np0)) (hnp0 : np0 < 2147483648) : C2 E miX11_put 1 h [(2, p0), (0, v1), (0, v2)] M (fun r M' => r = none ∧ M' = (fmX11_put M p0 np0 v1 v2)) := by
  obtain ⟨Q, hQ⟩ : ∃ Q : Option MV → Mem → Prop, Q = (fun r M' => r = none ∧ M' = (fmX11_put M p0 np0 v1 v2)) := ⟨_, rfl⟩
  rw [← hQ]
  refine C2_of (L := [(2, p0), (0, v1), (0, v2)]) (by decide +kernel) (Nat.le_of_ble_eq_true rfl) rfl (fun hG => ?_)
  refine T_iload_n (i := 1) (pc' := 1) dX11_put_0 rfl rfl rfl ?_
  have HJ1 : T E miX11_put 1 126 0 0 (fun r S M' => S = S0 ∧ G h M' ∧ Q r M') 14 [(3, 0), (3, 0), (3, 0)] [] S0 (if v1 < 0 then M else (if (np0 : Int) ≤ v1 then M else (mset M p0 v1 v2))) 0 0 := by
    exact T_vret dX11_put_14 rfl ⟨rfl, (G_ite hG (G_ite hG (G_arr (x := p0) (i := v1) (y := v2) hSp0 h0p0 hG))), (by rw [hQ]; exact ⟨rfl, rfl⟩)⟩
  refine T_if_lt (pc' := 14) dX11_put_1 (by decide) (pf := 4) rfl (fun c2 => ?_) (fun c2 => ?_)
  · skip
    exact T_wk (L' := [(3, 0), (3, 0), (3, 0)]) (by have q := HJ1; try simp only [if_pos c2] at q; exact q) ⟨Or.inl rfl, Or.inl rfl, Or.inl rfl, trivial⟩
  · skip
    refine T_iload_n (i := 1) (pc' := 5) dX11_put_4 rfl rfl rfl ?_
    refine T_aload_n (i := 0) (pc' := 6) dX11_put_5 rfl rfl rfl ?_
    refine U_alen (nI := (np0 : Int)) (pc' := 7) dX11_put_6 (by decide) hnp0 hSp0 rfl rfl ?_
    refine T_icmp_ge (pc' := 14) dX11_put_7 (by decide) (pf := 10) rfl (fun c3 => ?_) (fun c3 => ?_)
    · skip
      exact T_wk (L' := [(3, 0), (3, 0), (3, 0)]) (by have q := HJ1; try simp only [if_neg c2] at q; try simp only [if_pos c3] at q; exact q) ⟨Or.inl rfl, Or.inl rfl, Or.inl rfl, trivial⟩
    · skip
      refine T_aload_n (i := 0) (pc' := 11) dX11_put_10 rfl rfl rfl ?_
      refine T_iload_n (i := 1) (pc' := 12) dX11_put_11 rfl rfl rfl ?_
      refine T_iload_n (i := 2) (pc' := 13) dX11_put_12 rfl rfl rfl ?_
      refine T_iast (pc' := 14) dX11_put_13 h0p0 hSp0 (by omega) (by omega) rfl ?_
      exact T_wk (L' := [(3, 0), (3, 0), (3, 0)]) (by have q := HJ1; try simp only [if_neg c2] at q; try simp only [if_neg c3] at q; exact q) ⟨Or.inl rfl, Or.inl rfl, Or.inl rfl, trivial⟩
theorem frX11_put {M : Mem} {p0 : Int} {np0 : Nat} {v1 : Int} {v2 : Int} {q : Int} (hq0 : q ≠ p0) : (fmX11_put M p0 np0 v1 v2) q = M q := by
  unfold fmX11_put
  exact (ite_q rfl (ite_q rfl ((mset_p hq0).trans rfl)))
def fmX0_add (M : Mem) (v1 : Int) (v2 : Int) (v3 : Int) : Mem :=
  (mset (fmX11_put (fmX11_put (fmX11_put (if (M 27 3) = 20 then (mset (mcpy (mcpy (mcpy M 28 1 28 0 19) 29 1 29 0 19) 30 1 30 0 19) 27 3 (wr32 (((mcpy (mcpy (mcpy M 28 1 28 0 19) 29 1 29 0 19) 30 1 30 0 19) 27 3) - 1))) else M) 28 20 ((if (M 27 3) = 20 then (mset (mcpy (mcpy (mcpy M 28 1 28 0 19) 29 1 29 0 19) 30 1 30 0 19) 27 3 (wr32 (((mcpy (mcpy (mcpy M 28 1 28 0 19) 29 1 29 0 19) 30 1 30 0 19) 27 3) - 1))) else M) 27 3) v1) 29 20 ((fmX11_put (if (M 27 3) = 20 then (mset (mcpy (mcpy (mcpy M 28 1 28 0 19) 29 1 29 0 19) 30 1 30 0 19) 27 3 (wr32 (((mcpy (mcpy (mcpy M 28 1 28 0 19) 29 1 29 0 19) 30 1 30 0 19) 27 3) - 1))) else M) 28 20 ((if (M 27 3) = 20 then (mset (mcpy (mcpy (mcpy M 28 1 28 0 19) 29 1 29 0 19) 30 1 30 0 19) 27 3 (wr32 (((mcpy (mcpy (mcpy M 28 1 28 0 19) 29 1 29 0 19) 30 1 30 0 19) 27 3) - 1))) else M) 27 3) v1) 27 3) v2) 30 20 ((fmX11_put (fmX11_put (if (M 27 3) = 20 then (mset (mcpy (mcpy (mcpy M 28 1 28 0 19) 29 1 29 0 19) 30 1 30 0 19) 27 3 (wr32 (((mcpy (mcpy (mcpy M 28 1 28 0 19) 29 1 29 0 19) 30 1 30 0 19) 27 3) - 1))) else M) 28 20 ((if (M 27 3) = 20 then (mset (mcpy (mcpy (mcpy M 28 1 28 0 19) 29 1 29 0 19) 30 1 30 0 19) 27 3 (wr32 (((mcpy (mcpy (mcpy M 28 1 28 0 19) 29 1 29 0 19) 30 1 30 0 19) 27 3) - 1))) else M) 27 3) v1) 29 20 ((fmX11_put (if (M 27 3) = 20 then (mset (mcpy (mcpy (mcpy M 28 1 28 0 19) 29 1 29 0 19) 30 1 30 0 19) 27 3 (wr32 (((mcpy (mcpy (mcpy M 28 1 28 0 19) 29 1 29 0 19) 30 1 30 0 19) 27 3) - 1))) else M) 28 20 ((if (M 27 3) = 20 then (mset (mcpy (mcpy (mcpy M 28 1 28 0 19) 29 1 29 0 19) 30 1 30 0 19) 27 3 (wr32 (((mcpy (mcpy (mcpy M 28 1 28 0 19) 29 1 29 0 19) 30 1 30 0 19) 27 3) - 1))) else M) 27 3) v1) 27 3) v2) 27 3) v3) 27 3 (wr32 (((fmX11_put (fmX11_put (fmX11_put (if (M 27 3) = 20 then (mset (mcpy (mcpy (mcpy M 28 1 28 0 19) 29 1 29 0 19) 30 1 30 0 19) 27 3 (wr32 (((mcpy (mcpy (mcpy M 28 1 28 0 19) 29 1 29 0 19) 30 1 30 0 19) 27 3) - 1))) else M) 28 20 ((if (M 27 3) = 20 then (mset (mcpy (mcpy (mcpy M 28 1 28 0 19) 29 1 29 0 19) 30 1 30 0 19) 27 3 (wr32 (((mcpy (mcpy (mcpy M 28 1 28 0 19) 29 1 29 0 19) 30 1 30 0 19) 27 3) - 1))) else M) 27 3) v1) 29 20 ((fmX11_put (if (M 27 3) = 20 then (mset (mcpy (mcpy (mcpy M 28 1 28 0 19) 29 1 29 0 19) 30 1 30 0 19) 27 3 (wr32 (((mcpy (mcpy (mcpy M 28 1 28 0 19) 29 1 29 0 19) 30 1 30 0 19) 27 3) - 1))) else M) 28 20 ((if (M 27 3) = 20 then (mset (mcpy (mcpy (mcpy M 28 1 28 0 19) 29 1 29 0 19) 30 1 30 0 19) 27 3 (wr32 (((mcpy (mcpy (mcpy M 28 1 28 0 19) 29 1 29 0 19) 30 1 30 0 19) 27 3) - 1))) else M) 27 3) v1) 27 3) v2) 30 20 ((fmX11_put (fmX11_put (if (M 27 3) = 20 then (mset (mcpy (mcpy (mcpy M 28 1 28 0 19) 29 1 29 0 19) 30 1 30 0 19) 27 3 (wr32 (((mcpy (mcpy (mcpy M 28 1 28 0 19) 29 1 29 0 19) 30 1 30 0 19) 27 3) - 1))) else M) 28 20 ((if (M 27 3) = 20 then (mset (mcpy (mcpy (mcpy M 28 1 28 0 19) 29 1 29 0 19) 30 1 30 0 19) 27 3 (wr32 (((mcpy (mcpy (mcpy M 28 1 28 0 19) 29 1 29 0 19) 30 1 30 0 19) 27 3) - 1))) else M) 27 3) v1) 29 20 ((fmX11_put (if (M 27 3) = 20 then (mset (mcpy (mcpy (mcpy M 28 1 28 0 19) 29 1 29 0 19) 30 1 30 0 19) 27 3 (wr32 (((mcpy (mcpy (mcpy M 28 1 28 0 19) 29 1 29 0 19) 30 1 30 0 19) 27 3) - 1))) else M) 28 20 ((if (M 27 3) = 20 then (mset (mcpy (mcpy (mcpy M 28 1 28 0 19) 29 1 29 0 19) 30 1 30 0 19) 27 3 (wr32 (((mcpy (mcpy (mcpy M 28 1 28 0 19) 29 1 29 0 19) 30 1 30 0 19) 27 3) - 1))) else M) 27 3) v1) 27 3) v2) 27 3) v3) 27 3) + 1)))
theorem gX0_add {h : Int} {M : Mem} {v1 : Int} {v2 : Int} {v3 : Int}  (hG : G h M) : G h (fmX0_add M v1 v2 v3) := by
  unfold fmX0_add
  exact (G_fld (x := 27) (i := 3) (y := (wr32 (((fmX11_put (fmX11_put (fmX11_put (if (M 27 3) = 20 then (mset (mcpy (mcpy (mcpy M 28 1 28 0 19) 29 1 29 0 19) 30 1 30 0 19) 27 3 (wr32 (((mcpy (mcpy (mcpy M 28 1 28 0 19) 29 1 29 0 19) 30 1 30 0 19) 27 3) - 1))) else M) 28 20 ((if (M 27 3) = 20 then (mset (mcpy (mcpy (mcpy M 28 1 28 0 19) 29 1 29 0 19) 30 1 30 0 19) 27 3 (wr32 (((mcpy (mcpy (mcpy M 28 1 28 0 19) 29 1 29 0 19) 30 1 30 0 19) 27 3) - 1))) else M) 27 3) v1) 29 20 ((fmX11_put (if (M 27 3) = 20 then (mset (mcpy (mcpy (mcpy M 28 1 28 0 19) 29 1 29 0 19) 30 1 30 0 19) 27 3 (wr32 (((mcpy (mcpy (mcpy M 28 1 28 0 19) 29 1 29 0 19) 30 1 30 0 19) 27 3) - 1))) else M) 28 20 ((if (M 27 3) = 20 then (mset (mcpy (mcpy (mcpy M 28 1 28 0 19) 29 1 29 0 19) 30 1 30 0 19) 27 3 (wr32 (((mcpy (mcpy (mcpy M 28 1 28 0 19) 29 1 29 0 19) 30 1 30 0 19) 27 3) - 1))) else M) 27 3) v1) 27 3) v2) 30 20 ((fmX11_put (fmX11_put (if (M 27 3) = 20 then (mset (mcpy (mcpy (mcpy M 28 1 28 0 19) 29 1 29 0 19) 30 1 30 0 19) 27 3 (wr32 (((mcpy (mcpy (mcpy M 28 1 28 0 19) 29 1 29 0 19) 30 1 30 0 19) 27 3) - 1))) else M) 28 20 ((if (M 27 3) = 20 then (mset (mcpy (mcpy (mcpy M 28 1 28 0 19) 29 1 29 0 19) 30 1 30 0 19) 27 3 (wr32 (((mcpy (mcpy (mcpy M 28 1 28 0 19) 29 1 29 0 19) 30 1 30 0 19) 27 3) - 1))) else M) 27 3) v1) 29 20 ((fmX11_put (if (M 27 3) = 20 then (mset (mcpy (mcpy (mcpy M 28 1 28 0 19) 29 1 29 0 19) 30 1 30 0 19) 27 3 (wr32 (((mcpy (mcpy (mcpy M 28 1 28 0 19) 29 1 29 0 19) 30 1 30 0 19) 27 3) - 1))) else M) 28 20 ((if (M 27 3) = 20 then (mset (mcpy (mcpy (mcpy M 28 1 28 0 19) 29 1 29 0 19) 30 1 30 0 19) 27 3 (wr32 (((mcpy (mcpy (mcpy M 28 1 28 0 19) 29 1 29 0 19) 30 1 30 0 19) 27 3) - 1))) else M) 27 3) v1) 27 3) v2) 27 3) v3) 27 3) + 1))) rfl (by decide) (by decide) (by decide) (gX11_put (h := h) (M := (fmX11_put (fmX11_put (if (M 27 3) = 20 then (mset (mcpy (mcpy (mcpy M 28 1 28 0 19) 29 1 29 0 19) 30 1 30 0 19) 27 3 (wr32 (((mcpy (mcpy (mcpy M 28 1 28 0 19) 29 1 29 0 19) 30 1 30 0 19) 27 3) - 1))) else M) 28 20 ((if (M 27 3) = 20 then (mset (mcpy (mcpy (mcpy M 28 1 28 0 19) 29 1 29 0 19) 30 1 30 0 19) 27 3 (wr32 (((mcpy (mcpy (mcpy M 28 1 28 0 19) 29 1 29 0 19) 30 1 30 0 19) 27 3) - 1))) else M) 27 3) v1) 29 20 ((fmX11_put (if (M 27 3) = 20 then (mset (mcpy (mcpy (mcpy M 28 1 28 0 19) 29 1 29 0 19) 30 1 30 0 19) 27 3 (wr32 (((mcpy (mcpy (mcpy M 28 1 28 0 19) 29 1 29 0 19) 30 1 30 0 19) 27 3) - 1))) else M) 28 20 ((if (M 27 3) = 20 then (mset (mcpy (mcpy (mcpy M 28 1 28 0 19) 29 1 29 0 19) 30 1 30 0 19) 27 3 (wr32 (((mcpy (mcpy (mcpy M 28 1 28 0 19) 29 1 29 0 19) 30 1 30 0 19) 27 3) - 1))) else M) 27 3) v1) 27 3) v2)) (p0 := 30) (np0 := 20) (v1 := ((fmX11_put (fmX11_put (if (M 27 3) = 20 then (mset (mcpy (mcpy (mcpy M 28 1 28 0 19) 29 1 29 0 19) 30 1 30 0 19) 27 3 (wr32 (((mcpy (mcpy (mcpy M 28 1 28 0 19) 29 1 29 0 19) 30 1 30 0 19) 27 3) - 1))) else M) 28 20 ((if (M 27 3) = 20 then (mset (mcpy (mcpy (mcpy M 28 1 28 0 19) 29 1 29 0 19) 30 1 30 0 19) 27 3 (wr32 (((mcpy (mcpy (mcpy M 28 1 28 0 19) 29 1 29 0 19) 30 1 30 0 19) 27 3) - 1))) else M) 27 3) v1) 29 20 ((fmX11_put (if (M 27 3) = 20 then (mset (mcpy (mcpy (mcpy M 28 1 28 0 19) 29 1 29 0 19) 30 1 30 0 19) 27 3 (wr32 (((mcpy (mcpy (mcpy M 28 1 28 0 19) 29 1 29 0 19) 30 1 30 0 19) 27 3) - 1))) else M) 28 20 ((if (M 27 3) = 20 then (mset (mcpy (mcpy (mcpy M 28 1 28 0 19) 29 1 29 0 19) 30 1 30 0 19) 27 3 (wr32 (((mcpy (mcpy (mcpy M 28 1 28 0 19) 29 1 29 0 19) 30 1 30 0 19) 27 3) - 1))) else M) 27 3) v1) 27 3) v2) 27 3)) (v2 := v3) (by decide) rfl (by decide) (gX11_put (h := h) (M := (fmX11_put (if (M 27 3) = 20 then (mset (mcpy (mcpy (mcpy M 28 1 28 0 19) 29 1 29 0 19) 30 1 30 0 19) 27 3 (wr32 (((mcpy (mcpy (mcpy M 28 1 28 0 19) 29 1 29 0 19) 30 1 30 0 19) 27 3) - 1))) else M) 28 20 ((if (M 27 3) = 20 then (mset (mcpy (mcpy (mcpy M 28 1 28 0 19) 29 1 29 0 19) 30 1 30 0 19) 27 3 (wr32 (((mcpy (mcpy (mcpy M 28 1 28 0 19) 29 1 29 0 19) 30 1 30 0 19) 27 3) - 1))) else M) 27 3) v1)) (p0 := 29) (np0 := 20) (v1 := ((fmX11_put (if (M 27 3) = 20 then (mset (mcpy (mcpy (mcpy M 28 1 28 0 19) 29 1 29 0 19) 30 1 30 0 19) 27 3 (wr32 (((mcpy (mcpy (mcpy M 28 1 28 0 19) 29 1 29 0 19) 30 1 30 0 19) 27 3) - 1))) else M) 28 20 ((if (M 27 3) = 20 then (mset (mcpy (mcpy (mcpy M 28 1 28 0 19) 29 1 29 0 19) 30 1 30 0 19) 27 3 (wr32 (((mcpy (mcpy (mcpy M 28 1 28 0 19) 29 1 29 0 19) 30 1 30 0 19) 27 3) - 1))) else M) 27 3) v1) 27 3)) (v2 := v2) (by decide) rfl (by decide) (gX11_put (h := h) (M := (if (M 27 3) = 20 then (mset (mcpy (mcpy (mcpy M 28 1 28 0 19) 29 1 29 0 19) 30 1 30 0 19) 27 3 (wr32 (((mcpy (mcpy (mcpy M 28 1 28 0 19) 29 1 29 0 19) 30 1 30 0 19) 27 3) - 1))) else M)) (p0 := 28) (np0 := 20) (v1 := ((if (M 27 3) = 20 then (mset (mcpy (mcpy (mcpy M 28 1 28 0 19) 29 1 29 0 19) 30 1 30 0 19) 27 3 (wr32 (((mcpy (mcpy (mcpy M 28 1 28 0 19) 29 1 29 0 19) 30 1 30 0 19) 27 3) - 1))) else M) 27 3)) (v2 := v1) (by decide) rfl (by decide) (G_ite (G_fld (x := 27) (i := 3) (y := (wr32 (((mcpy (mcpy (mcpy M 28 1 28 0 19) 29 1 29 0 19) 30 1 30 0 19) 27 3) - 1))) rfl (by decide) (by decide) (by decide) (G_cpy (x := 30) (y := 30) (sp := 1) (dp := 0) (n := 19) rfl (by decide) (G_cpy (x := 29) (y := 29) (sp := 1) (dp := 0) (n := 19) rfl (by decide) (G_cpy (x := 28) (y := 28) (sp := 1) (dp := 0) (n := 19) rfl (by decide) hG)))) hG)))))
set_option maxRecDepth 100000 in
theorem pX0_add {E : EV} {h : Int} {M : Mem} {v1 : Int} {v2 : Int} {v3 : Int}  : C2 E miX0_add 2 h [(2, 27), (0, v1), (0, v2), (0, v3)] M (fun r M' => r = none ∧ M' = (fmX0_add M v1 v2 v3)) := by
  obtain ⟨Q, hQ⟩ : ∃ Q : Option MV → Mem → Prop, Q = (fun r M' => r = none ∧ M' = (fmX0_add M v1 v2 v3)) := ⟨_, rfl⟩
  rw [← hQ]
  refine C2_of (L := [(2, 27), (0, v1), (0, v2), (0, v3)]) (by decide +kernel) (Nat.le_of_ble_eq_true rfl) rfl (fun hG => ?_)
  refine T_aload_n (i := 0) (pc' := 1) dX0_add_0 rfl rfl rfl ?_
  refine U_gf (v := (0, (M 27 3))) (k := 3) (kI := 3) (pc' := 4) dX0_add_1 rfl cl0 (by decide) rfl (by decide) flX0_21 rfl rfl (by decide) rfl rfl ?_
  refine T_bipush (pc' := 6) dX0_add_4 rfl (by decide) rfl ?_
  have HJ1 : T E miX0_add 2 126 0 0 (fun r S M' => S = S0 ∧ G h M' ∧ Q r M') 64 [(2, 27), (0, v1), (0, v2), (0, v3)] [] S0 (if (M 27 3) = 20 then (mset (mcpy (mcpy (mcpy M 28 1 28 0 19) 29 1 29 0 19) 30 1 30 0 19) 27 3 (wr32 (((mcpy (mcpy (mcpy M 28 1 28 0 19) 29 1 29 0 19) 30 1 30 0 19) 27 3) - 1))) else M) 0 0 := by
    refine T_aload_n (i := 0) (pc' := 65) dX0_add_64 rfl rfl rfl ?_
    refine U_gr (q := 28) (k := 0) (kI := 0) (pc' := 68) dX0_add_65 rfl cl0 (by decide) rfl (by decide) flX0_9 rfl rfl rfl (G_at (G_ite (G_fld (x := 27) (i := 3) (y := (wr32 (((mcpy (mcpy (mcpy M 28 1 28 0 19) 29 1 29 0 19) 30 1 30 0 19) 27 3) - 1))) rfl (by decide) (by decide) (by decide) (G_cpy (x := 30) (y := 30) (sp := 1) (dp := 0) (n := 19) rfl (by decide) (G_cpy (x := 29) (y := 29) (sp := 1) (dp := 0) (n := 19) rfl (by decide) (G_cpy (x := 28) (y := 28) (sp := 1) (dp := 0) (n := 19) rfl (by decide) hG)))) hG) 32 rfl) (by decide) rfl ?_
    refine T_aload_n (i := 0) (pc' := 69) dX0_add_68 rfl rfl rfl ?_
    refine U_gf (v := (0, ((if (M 27 3) = 20 then (mset (mcpy (mcpy (mcpy M 28 1 28 0 19) 29 1 29 0 19) 30 1 30 0 19) 27 3 (wr32 (((mcpy (mcpy (mcpy M 28 1 28 0 19) 29 1 29 0 19) 30 1 30 0 19) 27 3) - 1))) else M) 27 3))) (k := 3) (kI := 3) (pc' := 72) dX0_add_69 rfl cl0 (by decide) rfl (by decide) flX0_21 rfl rfl (by decide) rfl rfl ?_
    refine T_iload_n (i := 1) (pc' := 73) dX0_add_72 rfl rfl rfl ?_
    refine T_callSN (av := [(2, 28), (0, ((if (M 27 3) = 20 then (mset (mcpy (mcpy (mcpy M 28 1 28 0 19) 29 1 29 0 19) 30 1 30 0 19) 27 3 (wr32 (((mcpy (mcpy (mcpy M 28 1 28 0 19) 29 1 29 0 19) 30 1 30 0 19) 27 3) - 1))) else M) 27 3)), (0, v1)]) (st := []) (d2 := 1) (nc2 := 0) (ns2 := 0) (pc' := 76) dX0_add_73 rfl mtX11_put mvX11_put mlX0_31 rfl rfl (Nat.le_of_ble_eq_true rfl) (by decide) ⟨by decide, by decide⟩ rfl (pX11_put (E := E) (h := h) (M := (if (M 27 3) = 20 then (mset (mcpy (mcpy (mcpy M 28 1 28 0 19) 29 1 29 0 19) 30 1 30 0 19) 27 3 (wr32 (((mcpy (mcpy (mcpy M 28 1 28 0 19) 29 1 29 0 19) 30 1 30 0 19) 27 3) - 1))) else M)) (p0 := 28) (np0 := 20) (v1 := ((if (M 27 3) = 20 then (mset (mcpy (mcpy (mcpy M 28 1 28 0 19) 29 1 29 0 19) 30 1 30 0 19) 27 3 (wr32 (((mcpy (mcpy (mcpy M 28 1 28 0 19) 29 1 29 0 19) 30 1 30 0 19) 27 3) - 1))) else M) 27 3)) (v2 := v1) (by decide) rfl (by decide) (G_ite (G_fld (x := 27) (i := 3) (y := (wr32 (((mcpy (mcpy (mcpy M 28 1 28 0 19) 29 1 29 0 19) 30 1 30 0 19) 27 3) - 1))) rfl (by decide) (by decide) (by decide) (G_cpy (x := 30) (y := 30) (sp := 1) (dp := 0) (n := 19) rfl (by decide) (G_cpy (x := 29) (y := 29) (sp := 1) (dp := 0) (n := 19) rfl (by decide) (G_cpy (x := 28) (y := 28) (sp := 1) (dp := 0) (n := 19) rfl (by decide) hG)))) hG)) (kF (st2 := []) rfl (fun hG2 => ?_))
    refine T_aload_n (i := 0) (pc' := 77) dX0_add_76 rfl rfl rfl ?_
    refine U_gr (q := 29) (k := 1) (kI := 1) (pc' := 80) dX0_add_77 rfl cl0 (by decide) rfl (by decide) flX0_15 rfl rfl rfl (G_at (gX11_put (h := h) (M := (if (M 27 3) = 20 then (mset (mcpy (mcpy (mcpy M 28 1 28 0 19) 29 1 29 0 19) 30 1 30 0 19) 27 3 (wr32 (((mcpy (mcpy (mcpy M 28 1 28 0 19) 29 1 29 0 19) 30 1 30 0 19) 27 3) - 1))) else M)) (p0 := 28) (np0 := 20) (v1 := ((if (M 27 3) = 20 then (mset (mcpy (mcpy (mcpy M 28 1 28 0 19) 29 1 29 0 19) 30 1 30 0 19) 27 3 (wr32 (((mcpy (mcpy (mcpy M 28 1 28 0 19) 29 1 29 0 19) 30 1 30 0 19) 27 3) - 1))) else M) 27 3)) (v2 := v1) (by decide) rfl (by decide) (G_ite (G_fld (x := 27) (i := 3) (y := (wr32 (((mcpy (mcpy (mcpy M 28 1 28 0 19) 29 1 29 0 19) 30 1 30 0 19) 27 3) - 1))) rfl (by decide) (by decide) (by decide) (G_cpy (x := 30) (y := 30) (sp := 1) (dp := 0) (n := 19) rfl (by decide) (G_cpy (x := 29) (y := 29) (sp := 1) (dp := 0) (n := 19) rfl (by decide) (G_cpy (x := 28) (y := 28) (sp := 1) (dp := 0) (n := 19) rfl (by decide) hG)))) hG)) 33 rfl) (by decide) rfl ?_
    refine T_aload_n (i := 0) (pc' := 81) dX0_add_80 rfl rfl rfl ?_
    refine U_gf (v := (0, ((fmX11_put (if (M 27 3) = 20 then (mset (mcpy (mcpy (mcpy M 28 1 28 0 19) 29 1 29 0 19) 30 1 30 0 19) 27 3 (wr32 (((mcpy (mcpy (mcpy M 28 1 28 0 19) 29 1 29 0 19) 30 1 30 0 19) 27 3) - 1))) else M) 28 20 ((if (M 27 3) = 20 then (mset (mcpy (mcpy (mcpy M 28 1 28 0 19) 29 1 29 0 19) 30 1 30 0 19) 27 3 (wr32 (((mcpy (mcpy (mcpy M 28 1 28 0 19) 29 1 29 0 19) 30 1 30 0 19) 27 3) - 1))) else M) 27 3) v1) 27 3))) (k := 3) (kI := 3) (pc' := 84) dX0_add_81 rfl cl0 (by decide) rfl (by decide) flX0_21 rfl rfl (by decide) rfl rfl ?_
    refine T_iload_n (i := 2) (pc' := 85) dX0_add_84 rfl rfl rfl ?_
    refine T_callSN (av := [(2, 29), (0, ((fmX11_put (if (M 27 3) = 20 then (mset (mcpy (mcpy (mcpy M 28 1 28 0 19) 29 1 29 0 19) 30 1 30 0 19) 27 3 (wr32 (((mcpy (mcpy (mcpy M 28 1 28 0 19) 29 1 29 0 19) 30 1 30 0 19) 27 3) - 1))) else M) 28 20 ((if (M 27 3) = 20 then (mset (mcpy (mcpy (mcpy M 28 1 28 0 19) 29 1 29 0 19) 30 1 30 0 19) 27 3 (wr32 (((mcpy (mcpy (mcpy M 28 1 28 0 19) 29 1 29 0 19) 30 1 30 0 19) 27 3) - 1))) else M) 27 3) v1) 27 3)), (0, v2)]) (st := []) (d2 := 1) (nc2 := 0) (ns2 := 0) (pc' := 88) dX0_add_85 rfl mtX11_put mvX11_put mlX0_31 rfl rfl (Nat.le_of_ble_eq_true rfl) (by decide) ⟨by decide, by decide⟩ rfl (pX11_put (E := E) (h := h) (M := (fmX11_put (if (M 27 3) = 20 then (mset (mcpy (mcpy (mcpy M 28 1 28 0 19) 29 1 29 0 19) 30 1 30 0 19) 27 3 (wr32 (((mcpy (mcpy (mcpy M 28 1 28 0 19) 29 1 29 0 19) 30 1 30 0 19) 27 3) - 1))) else M) 28 20 ((if (M 27 3) = 20 then (mset (mcpy (mcpy (mcpy M 28 1 28 0 19) 29 1 29 0 19) 30 1 30 0 19) 27 3 (wr32 (((mcpy (mcpy (mcpy M 28 1 28 0 19) 29 1 29 0 19) 30 1 30 0 19) 27 3) - 1))) else M) 27 3) v1)) (p0 := 29) (np0 := 20) (v1 := ((fmX11_put (if (M 27 3) = 20 then (mset (mcpy (mcpy (mcpy M 28 1 28 0 19) 29 1 29 0 19) 30 1 30 0 19) 27 3 (wr32 (((mcpy (mcpy (mcpy M 28 1 28 0 19) 29 1 29 0 19) 30 1 30 0 19) 27 3) - 1))) else M) 28 20 ((if (M 27 3) = 20 then (mset (mcpy (mcpy (mcpy M 28 1 28 0 19) 29 1 29 0 19) 30 1 30 0 19) 27 3 (wr32 (((mcpy (mcpy (mcpy M 28 1 28 0 19) 29 1 29 0 19) 30 1 30 0 19) 27 3) - 1))) else M) 27 3) v1) 27 3)) (v2 := v2) (by decide) rfl (by decide) (gX11_put (h := h) (M := (if (M 27 3) = 20 then (mset (mcpy (mcpy (mcpy M 28 1 28 0 19) 29 1 29 0 19) 30 1 30 0 19) 27 3 (wr32 (((mcpy (mcpy (mcpy M 28 1 28 0 19) 29 1 29 0 19) 30 1 30 0 19) 27 3) - 1))) else M)) (p0 := 28) (np0 := 20) (v1 := ((if (M 27 3) = 20 then (mset (mcpy (mcpy (mcpy M 28 1 28 0 19) 29 1 29 0 19) 30 1 30 0 19) 27 3 (wr32 (((mcpy (mcpy (mcpy M 28 1 28 0 19) 29 1 29 0 19) 30 1 30 0 19) 27 3) - 1))) else M) 27 3)) (v2 := v1) (by decide) rfl (by decide) (G_ite (G_fld (x := 27) (i := 3) (y := (wr32 (((mcpy (mcpy (mcpy M 28 1 28 0 19) 29 1 29 0 19) 30 1 30 0 19) 27 3) - 1))) rfl (by decide) (by decide) (by decide) (G_cpy (x := 30) (y := 30) (sp := 1) (dp := 0) (n := 19) rfl (by decide) (G_cpy (x := 29) (y := 29) (sp := 1) (dp := 0) (n := 19) rfl (by decide) (G_cpy (x := 28) (y := 28) (sp := 1) (dp := 0) (n := 19) rfl (by decide) hG)))) hG))) (kF (st2 := []) rfl (fun hG3 => ?_))
    refine T_aload_n (i := 0) (pc' := 89) dX0_add_88 rfl rfl rfl ?_
    refine U_gr (q := 30) (k := 2) (kI := 2) (pc' := 92) dX0_add_89 rfl cl0 (by decide) rfl (by decide) flX0_18 rfl rfl rfl (G_at (gX11_put (h := h) (M := (fmX11_put (if (M 27 3) = 20 then (mset (mcpy (mcpy (mcpy M 28 1 28 0 19) 29 1 29 0 19) 30 1 30 0 19) 27 3 (wr32 (((mcpy (mcpy (mcpy M 28 1 28 0 19) 29 1 29 0 19) 30 1 30 0 19) 27 3) - 1))) else M) 28 20 ((if (M 27 3) = 20 then (mset (mcpy (mcpy (mcpy M 28 1 28 0 19) 29 1 29 0 19) 30 1 30 0 19) 27 3 (wr32 (((mcpy (mcpy (mcpy M 28 1 28 0 19) 29 1 29 0 19) 30 1 30 0 19) 27 3) - 1))) else M) 27 3) v1)) (p0 := 29) (np0 := 20) (v1 := ((fmX11_put (if (M 27 3) = 20 then (mset (mcpy (mcpy (mcpy M 28 1 28 0 19) 29 1 29 0 19) 30 1 30 0 19) 27 3 (wr32 (((mcpy (mcpy (mcpy M 28 1 28 0 19) 29 1 29 0 19) 30 1 30 0 19) 27 3) - 1))) else M) 28 20 ((if (M 27 3) = 20 then (mset (mcpy (mcpy (mcpy M 28 1 28 0 19) 29 1 29 0 19) 30 1 30 0 19) 27 3 (wr32 (((mcpy (mcpy (mcpy M 28 1 28 0 19) 29 1 29 0 19) 30 1 30 0 19) 27 3) - 1))) else M) 27 3) v1) 27 3)) (v2 := v2) (by decide) rfl (by decide) (gX11_put (h := h) (M := (if (M 27 3) = 20 then (mset (mcpy (mcpy (mcpy M 28 1 28 0 19) 29 1 29 0 19) 30 1 30 0 19) 27 3 (wr32 (((mcpy (mcpy (mcpy M 28 1 28 0 19) 29 1 29 0 19) 30 1 30 0 19) 27 3) - 1))) else M)) (p0 := 28) (np0 := 20) (v1 := ((if (M 27 3) = 20 then (mset (mcpy (mcpy (mcpy M 28 1 28 0 19) 29 1 29 0 19) 30 1 30 0 19) 27 3 (wr32 (((mcpy (mcpy (mcpy M 28 1 28 0 19) 29 1 29 0 19) 30 1 30 0 19) 27 3) - 1))) else M) 27 3)) (v2 := v1) (by decide) rfl (by decide) (G_ite (G_fld (x := 27) (i := 3) (y := (wr32 (((mcpy (mcpy (mcpy M 28 1 28 0 19) 29 1 29 0 19) 30 1 30 0 19) 27 3) - 1))) rfl (by decide) (by decide) (by decide) (G_cpy (x := 30) (y := 30) (sp := 1) (dp := 0) (n := 19) rfl (by decide) (G_cpy (x := 29) (y := 29) (sp := 1) (dp := 0) (n := 19) rfl (by decide) (G_cpy (x := 28) (y := 28) (sp := 1) (dp := 0) (n := 19) rfl (by decide) hG)))) hG))) 34 rfl) (by decide) rfl ?_
    refine T_aload_n (i := 0) (pc' := 93) dX0_add_92 rfl rfl rfl ?_
    refine U_gf (v := (0, ((fmX11_put (fmX11_put (if (M 27 3) = 20 then (mset (mcpy (mcpy (mcpy M 28 1 28 0 19) 29 1 29 0 19) 30 1 30 0 19) 27 3 (wr32 (((mcpy (mcpy (mcpy M 28 1 28 0 19) 29 1 29 0 19) 30 1 30 0 19) 27 3) - 1))) else M) 28 20 ((if (M 27 3) = 20 then (mset (mcpy (mcpy (mcpy M 28 1 28 0 19) 29 1 29 0 19) 30 1 30 0 19) 27 3 (wr32 (((mcpy (mcpy (mcpy M 28 1 28 0 19) 29 1 29 0 19) 30 1 30 0 19) 27 3) - 1))) else M) 27 3) v1) 29 20 ((fmX11_put (if (M 27 3) = 20 then (mset (mcpy (mcpy (mcpy M 28 1 28 0 19) 29 1 29 0 19) 30 1 30 0 19) 27 3 (wr32 (((mcpy (mcpy (mcpy M 28 1 28 0 19) 29 1 29 0 19) 30 1 30 0 19) 27 3) - 1))) else M) 28 20 ((if (M 27 3) = 20 then (mset (mcpy (mcpy (mcpy M 28 1 28 0 19) 29 1 29 0 19) 30 1 30 0 19) 27 3 (wr32 (((mcpy (mcpy (mcpy M 28 1 28 0 19) 29 1 29 0 19) 30 1 30 0 19) 27 3) - 1))) else M) 27 3) v1) 27 3) v2) 27 3))) (k := 3) (kI := 3) (pc' := 96) dX0_add_93 rfl cl0 (by decide) rfl (by decide) flX0_21 rfl rfl (by decide) rfl rfl ?_
    refine T_iload_n (i := 3) (pc' := 97) dX0_add_96 rfl rfl rfl ?_
    refine T_callSN (av := [(2, 30), (0, ((fmX11_put (fmX11_put (if (M 27 3) = 20 then (mset (mcpy (mcpy (mcpy M 28 1 28 0 19) 29 1 29 0 19) 30 1 30 0 19) 27 3 (wr32 (((mcpy (mcpy (mcpy M 28 1 28 0 19) 29 1 29 0 19) 30 1 30 0 19) 27 3) - 1))) else M) 28 20 ((if (M 27 3) = 20 then (mset (mcpy (mcpy (mcpy M 28 1 28 0 19) 29 1 29 0 19) 30 1 30 0 19) 27 3 (wr32 (((mcpy (mcpy (mcpy M 28 1 28 0 19) 29 1 29 0 19) 30 1 30 0 19) 27 3) - 1))) else M) 27 3) v1) 29 20 ((fmX11_put (if (M 27 3) = 20 then (mset (mcpy (mcpy (mcpy M 28 1 28 0 19) 29 1 29 0 19) 30 1 30 0 19) 27 3 (wr32 (((mcpy (mcpy (mcpy M 28 1 28 0 19) 29 1 29 0 19) 30 1 30 0 19) 27 3) - 1))) else M) 28 20 ((if (M 27 3) = 20 then (mset (mcpy (mcpy (mcpy M 28 1 28 0 19) 29 1 29 0 19) 30 1 30 0 19) 27 3 (wr32 (((mcpy (mcpy (mcpy M 28 1 28 0 19) 29 1 29 0 19) 30 1 30 0 19) 27 3) - 1))) else M) 27 3) v1) 27 3) v2) 27 3)), (0, v3)]) (st := []) (d2 := 1) (nc2 := 0) (ns2 := 0) (pc' := 100) dX0_add_97 rfl mtX11_put mvX11_put mlX0_31 rfl rfl (Nat.le_of_ble_eq_true rfl) (by decide) ⟨by decide, by decide⟩ rfl (pX11_put (E := E) (h := h) (M := (fmX11_put (fmX11_put (if (M 27 3) = 20 then (mset (mcpy (mcpy (mcpy M 28 1 28 0 19) 29 1 29 0 19) 30 1 30 0 19) 27 3 (wr32 (((mcpy (mcpy (mcpy M 28 1 28 0 19) 29 1 29 0 19) 30 1 30 0 19) 27 3) - 1))) else M) 28 20 ((if (M 27 3) = 20 then (mset (mcpy (mcpy (mcpy M 28 1 28 0 19) 29 1 29 0 19) 30 1 30 0 19) 27 3 (wr32 (((mcpy (mcpy (mcpy M 28 1 28 0 19) 29 1 29 0 19) 30 1 30 0 19) 27 3) - 1))) else M) 27 3) v1) 29 20 ((fmX11_put (if (M 27 3) = 20 then (mset (mcpy (mcpy (mcpy M 28 1 28 0 19) 29 1 29 0 19) 30 1 30 0 19) 27 3 (wr32 (((mcpy (mcpy (mcpy M 28 1 28 0 19) 29 1 29 0 19) 30 1 30 0 19) 27 3) - 1))) else M) 28 20 ((if (M 27 3) = 20 then (mset (mcpy (mcpy (mcpy M 28 1 28 0 19) 29 1 29 0 19) 30 1 30 0 19) 27 3 (wr32 (((mcpy (mcpy (mcpy M 28 1 28 0 19) 29 1 29 0 19) 30 1 30 0 19) 27 3) - 1))) else M) 27 3) v1) 27 3) v2)) (p0 := 30) (np0 := 20) (v1 := ((fmX11_put (fmX11_put (if (M 27 3) = 20 then (mset (mcpy (mcpy (mcpy M 28 1 28 0 19) 29 1 29 0 19) 30 1 30 0 19) 27 3 (wr32 (((mcpy (mcpy (mcpy M 28 1 28 0 19) 29 1 29 0 19) 30 1 30 0 19) 27 3) - 1))) else M) 28 20 ((if (M 27 3) = 20 then (mset (mcpy (mcpy (mcpy M 28 1 28 0 19) 29 1 29 0 19) 30 1 30 0 19) 27 3 (wr32 (((mcpy (mcpy (mcpy M 28 1 28 0 19) 29 1 29 0 19) 30 1 30 0 19) 27 3) - 1))) else M) 27 3) v1) 29 20 ((fmX11_put (if (M 27 3) = 20 then (mset (mcpy (mcpy (mcpy M 28 1 28 0 19) 29 1 29 0 19) 30 1 30 0 19) 27 3 (wr32 (((mcpy (mcpy (mcpy M 28 1 28 0 19) 29 1 29 0 19) 30 1 30 0 19) 27 3) - 1))) else M) 28 20 ((if (M 27 3) = 20 then (mset (mcpy (mcpy (mcpy M 28 1 28 0 19) 29 1 29 0 19) 30 1 30 0 19) 27 3 (wr32 (((mcpy (mcpy (mcpy M 28 1 28 0 19) 29 1 29 0 19) 30 1 30 0 19) 27 3) - 1))) else M) 27 3) v1) 27 3) v2) 27 3)) (v2 := v3) (by decide) rfl (by decide) (gX11_put (h := h) (M := (fmX11_put (if (M 27 3) = 20 then (mset (mcpy (mcpy (mcpy M 28 1 28 0 19) 29 1 29 0 19) 30 1 30 0 19) 27 3 (wr32 (((mcpy (mcpy (mcpy M 28 1 28 0 19) 29 1 29 0 19) 30 1 30 0 19) 27 3) - 1))) else M) 28 20 ((if (M 27 3) = 20 then (mset (mcpy (mcpy (mcpy M 28 1 28 0 19) 29 1 29 0 19) 30 1 30 0 19) 27 3 (wr32 (((mcpy (mcpy (mcpy M 28 1 28 0 19) 29 1 29 0 19) 30 1 30 0 19) 27 3) - 1))) else M) 27 3) v1)) (p0 := 29) (np0 := 20) (v1 := ((fmX11_put (if (M 27 3) = 20 then (mset (mcpy (mcpy (mcpy M 28 1 28 0 19) 29 1 29 0 19) 30 1 30 0 19) 27 3 (wr32 (((mcpy (mcpy (mcpy M 28 1 28 0 19) 29 1 29 0 19) 30 1 30 0 19) 27 3) - 1))) else M) 28 20 ((if (M 27 3) = 20 then (mset (mcpy (mcpy (mcpy M 28 1 28 0 19) 29 1 29 0 19) 30 1 30 0 19) 27 3 (wr32 (((mcpy (mcpy (mcpy M 28 1 28 0 19) 29 1 29 0 19) 30 1 30 0 19) 27 3) - 1))) else M) 27 3) v1) 27 3)) (v2 := v2) (by decide) rfl (by decide) (gX11_put (h := h) (M := (if (M 27 3) = 20 then (mset (mcpy (mcpy (mcpy M 28 1 28 0 19) 29 1 29 0 19) 30 1 30 0 19) 27 3 (wr32 (((mcpy (mcpy (mcpy M 28 1 28 0 19) 29 1 29 0 19) 30 1 30 0 19) 27 3) - 1))) else M)) (p0 := 28) (np0 := 20) (v1 := ((if (M 27 3) = 20 then (mset (mcpy (mcpy (mcpy M 28 1 28 0 19) 29 1 29 0 19) 30 1 30 0 19) 27 3 (wr32 (((mcpy (mcpy (mcpy M 28 1 28 0 19) 29 1 29 0 19) 30 1 30 0 19) 27 3) - 1))) else M) 27 3)) (v2 := v1) (by decide) rfl (by decide) (G_ite (G_fld (x := 27) (i := 3) (y := (wr32 (((mcpy (mcpy (mcpy M 28 1 28 0 19) 29 1 29 0 19) 30 1 30 0 19) 27 3) - 1))) rfl (by decide) (by decide) (by decide) (G_cpy (x := 30) (y := 30) (sp := 1) (dp := 0) (n := 19) rfl (by decide) (G_cpy (x := 29) (y := 29) (sp := 1) (dp := 0) (n := 19) rfl (by decide) (G_cpy (x := 28) (y := 28) (sp := 1) (dp := 0) (n := 19) rfl (by decide) hG)))) hG)))) (kF (st2 := []) rfl (fun hG4 => ?_))
    refine T_aload_n (i := 0) (pc' := 101) dX0_add_100 rfl rfl rfl ?_
    refine T_dup (pc' := 102) dX0_add_101 (Nat.ne_of_beq_eq_false rfl) rfl ?_
    refine U_gf (v := (0, ((fmX11_put (fmX11_put (fmX11_put (if (M 27 3) = 20 then (mset (mcpy (mcpy (mcpy M 28 1 28 0 19) 29 1 29 0 19) 30 1 30 0 19) 27 3 (wr32 (((mcpy (mcpy (mcpy M 28 1 28 0 19) 29 1 29 0 19) 30 1 30 0 19) 27 3) - 1))) else M) 28 20 ((if (M 27 3) = 20 then (mset (mcpy (mcpy (mcpy M 28 1 28 0 19) 29 1 29 0 19) 30 1 30 0 19) 27 3 (wr32 (((mcpy (mcpy (mcpy M 28 1 28 0 19) 29 1 29 0 19) 30 1 30 0 19) 27 3) - 1))) else M) 27 3) v1) 29 20 ((fmX11_put (if (M 27 3) = 20 then (mset (mcpy (mcpy (mcpy M 28 1 28 0 19) 29 1 29 0 19) 30 1 30 0 19) 27 3 (wr32 (((mcpy (mcpy (mcpy M 28 1 28 0 19) 29 1 29 0 19) 30 1 30 0 19) 27 3) - 1))) else M) 28 20 ((if (M 27 3) = 20 then (mset (mcpy (mcpy (mcpy M 28 1 28 0 19) 29 1 29 0 19) 30 1 30 0 19) 27 3 (wr32 (((mcpy (mcpy (mcpy M 28 1 28 0 19) 29 1 29 0 19) 30 1 30 0 19) 27 3) - 1))) else M) 27 3) v1) 27 3) v2) 30 20 ((fmX11_put (fmX11_put (if (M 27 3) = 20 then (mset (mcpy (mcpy (mcpy M 28 1 28 0 19) 29 1 29 0 19) 30 1 30 0 19) 27 3 (wr32 (((mcpy (mcpy (mcpy M 28 1 28 0 19) 29 1 29 0 19) 30 1 30 0 19) 27 3) - 1))) else M) 28 20 ((if (M 27 3) = 20 then (mset (mcpy (mcpy (mcpy M 28 1 28 0 19) 29 1 29 0 19) 30 1 30 0 19) 27 3 (wr32 (((mcpy (mcpy (mcpy M 28 1 28 0 19) 29 1 29 0 19) 30 1 30 0 19) 27 3) - 1))) else M) 27 3) v1) 29 20 ((fmX11_put (if (M 27 3) = 20 then (mset (mcpy (mcpy (mcpy M 28 1 28 0 19) 29 1 29 0 19) 30 1 30 0 19) 27 3 (wr32 (((mcpy (mcpy (mcpy M 28 1 28 0 19) 29 1 29 0 19) 30 1 30 0 19) 27 3) - 1))) else M) 28 20 ((if (M 27 3) = 20 then (mset (mcpy (mcpy (mcpy M 28 1 28 0 19) 29 1 29 0 19) 30 1 30 0 19) 27 3 (wr32 (((mcpy (mcpy (mcpy M 28 1 28 0 19) 29 1 29 0 19) 30 1 30 0 19) 27 3) - 1))) else M) 27 3) v1) 27 3) v2) 27 3) v3) 27 3))) (k := 3) (kI := 3) (pc' := 105) dX0_add_102 rfl cl0 (by decide) rfl (by decide) flX0_21 rfl rfl (by decide) rfl rfl ?_
    refine T_iconst (pc' := 106) dX0_add_105 (by decide) rfl ?_
    refine T_iadd (pc' := 107) dX0_add_106 rfl ?_
    refine U_pf (y := (wr32 (((fmX11_put (fmX11_put (fmX11_put (if (M 27 3) = 20 then (mset (mcpy (mcpy (mcpy M 28 1 28 0 19) 29 1 29 0 19) 30 1 30 0 19) 27 3 (wr32 (((mcpy (mcpy (mcpy M 28 1 28 0 19) 29 1 29 0 19) 30 1 30 0 19) 27 3) - 1))) else M) 28 20 ((if (M 27 3) = 20 then (mset (mcpy (mcpy (mcpy M 28 1 28 0 19) 29 1 29 0 19) 30 1 30 0 19) 27 3 (wr32 (((mcpy (mcpy (mcpy M 28 1 28 0 19) 29 1 29 0 19) 30 1 30 0 19) 27 3) - 1))) else M) 27 3) v1) 29 20 ((fmX11_put (if (M 27 3) = 20 then (mset (mcpy (mcpy (mcpy M 28 1 28 0 19) 29 1 29 0 19) 30 1 30 0 19) 27 3 (wr32 (((mcpy (mcpy (mcpy M 28 1 28 0 19) 29 1 29 0 19) 30 1 30 0 19) 27 3) - 1))) else M) 28 20 ((if (M 27 3) = 20 then (mset (mcpy (mcpy (mcpy M 28 1 28 0 19) 29 1 29 0 19) 30 1 30 0 19) 27 3 (wr32 (((mcpy (mcpy (mcpy M 28 1 28 0 19) 29 1 29 0 19) 30 1 30 0 19) 27 3) - 1))) else M) 27 3) v1) 27 3) v2) 30 20 ((fmX11_put (fmX11_put (if (M 27 3) = 20 then (mset (mcpy (mcpy (mcpy M 28 1 28 0 19) 29 1 29 0 19) 30 1 30 0 19) 27 3 (wr32 (((mcpy (mcpy (mcpy M 28 1 28 0 19) 29 1 29 0 19) 30 1 30 0 19) 27 3) - 1))) else M) 28 20 ((if (M 27 3) = 20 then (mset (mcpy (mcpy (mcpy M 28 1 28 0 19) 29 1 29 0 19) 30 1 30 0 19) 27 3 (wr32 (((mcpy (mcpy (mcpy M 28 1 28 0 19) 29 1 29 0 19) 30 1 30 0 19) 27 3) - 1))) else M) 27 3) v1) 29 20 ((fmX11_put (if (M 27 3) = 20 then (mset (mcpy (mcpy (mcpy M 28 1 28 0 19) 29 1 29 0 19) 30 1 30 0 19) 27 3 (wr32 (((mcpy (mcpy (mcpy M 28 1 28 0 19) 29 1 29 0 19) 30 1 30 0 19) 27 3) - 1))) else M) 28 20 ((if (M 27 3) = 20 then (mset (mcpy (mcpy (mcpy M 28 1 28 0 19) 29 1 29 0 19) 30 1 30 0 19) 27 3 (wr32 (((mcpy (mcpy (mcpy M 28 1 28 0 19) 29 1 29 0 19) 30 1 30 0 19) 27 3) - 1))) else M) 27 3) v1) 27 3) v2) 27 3) v3) 27 3) + 1))) (k := 3) (kI := 3) (pc' := 110) dX0_add_107 rfl cl0 (by decide) rfl (by decide) flX0_21 rfl rfl rfl rfl rfl (by decide) (fun z => z) rfl ?_
    exact T_vret dX0_add_110 rfl ⟨rfl, (G_fld (x := 27) (i := 3) (y := (wr32 (((fmX11_put (fmX11_put (fmX11_put (if (M 27 3) = 20 then (mset (mcpy (mcpy (mcpy M 28 1 28 0 19) 29 1 29 0 19) 30 1 30 0 19) 27 3 (wr32 (((mcpy (mcpy (mcpy M 28 1 28 0 19) 29 1 29 0 19) 30 1 30 0 19) 27 3) - 1))) else M) 28 20 ((if (M 27 3) = 20 then (mset (mcpy (mcpy (mcpy M 28 1 28 0 19) 29 1 29 0 19) 30 1 30 0 19) 27 3 (wr32 (((mcpy (mcpy (mcpy M 28 1 28 0 19) 29 1 29 0 19) 30 1 30 0 19) 27 3) - 1))) else M) 27 3) v1) 29 20 ((fmX11_put (if (M 27 3) = 20 then (mset (mcpy (mcpy (mcpy M 28 1 28 0 19) 29 1 29 0 19) 30 1 30 0 19) 27 3 (wr32 (((mcpy (mcpy (mcpy M 28 1 28 0 19) 29 1 29 0 19) 30 1 30 0 19) 27 3) - 1))) else M) 28 20 ((if (M 27 3) = 20 then (mset (mcpy (mcpy (mcpy M 28 1 28 0 19) 29 1 29 0 19) 30 1 30 0 19) 27 3 (wr32 (((mcpy (mcpy (mcpy M 28 1 28 0 19) 29 1 29 0 19) 30 1 30 0 19) 27 3) - 1))) else M) 27 3) v1) 27 3) v2) 30 20 ((fmX11_put (fmX11_put (if (M 27 3) = 20 then (mset (mcpy (mcpy (mcpy M 28 1 28 0 19) 29 1 29 0 19) 30 1 30 0 19) 27 3 (wr32 (((mcpy (mcpy (mcpy M 28 1 28 0 19) 29 1 29 0 19) 30 1 30 0 19) 27 3) - 1))) else M) 28 20 ((if (M 27 3) = 20 then (mset (mcpy (mcpy (mcpy M 28 1 28 0 19) 29 1 29 0 19) 30 1 30 0 19) 27 3 (wr32 (((mcpy (mcpy (mcpy M 28 1 28 0 19) 29 1 29 0 19) 30 1 30 0 19) 27 3) - 1))) else M) 27 3) v1) 29 20 ((fmX11_put (if (M 27 3) = 20 then (mset (mcpy (mcpy (mcpy M 28 1 28 0 19) 29 1 29 0 19) 30 1 30 0 19) 27 3 (wr32 (((mcpy (mcpy (mcpy M 28 1 28 0 19) 29 1 29 0 19) 30 1 30 0 19) 27 3) - 1))) else M) 28 20 ((if (M 27 3) = 20 then (mset (mcpy (mcpy (mcpy M 28 1 28 0 19) 29 1 29 0 19) 30 1 30 0 19) 27 3 (wr32 (((mcpy (mcpy (mcpy M 28 1 28 0 19) 29 1 29 0 19) 30 1 30 0 19) 27 3) - 1))) else M) 27 3) v1) 27 3) v2) 27 3) v3) 27 3) + 1))) rfl (by decide) (by decide) (by decide) (gX11_put (h := h) (M := (fmX11_put (fmX11_put (if (M 27 3) = 20 then (mset (mcpy (mcpy (mcpy M 28 1 28 0 19) 29 1 29 0 19) 30 1 30 0 19) 27 3 (wr32 (((mcpy (mcpy (mcpy M 28 1 28 0 19) 29 1 29 0 19) 30 1 30 0 19) 27 3) - 1))) else M) 28 20 ((if (M 27 3) = 20 then (mset (mcpy (mcpy (mcpy M 28 1 28 0 19) 29 1 29 0 19) 30 1 30 0 19) 27 3 (wr32 (((mcpy (mcpy (mcpy M 28 1 28 0 19) 29 1 29 0 19) 30 1 30 0 19) 27 3) - 1))) else M) 27 3) v1) 29 20 ((fmX11_put (if (M 27 3) = 20 then (mset (mcpy (mcpy (mcpy M 28 1 28 0 19) 29 1 29 0 19) 30 1 30 0 19) 27 3 (wr32 (((mcpy (mcpy (mcpy M 28 1 28 0 19) 29 1 29 0 19) 30 1 30 0 19) 27 3) - 1))) else M) 28 20 ((if (M 27 3) = 20 then (mset (mcpy (mcpy (mcpy M 28 1 28 0 19) 29 1 29 0 19) 30 1 30 0 19) 27 3 (wr32 (((mcpy (mcpy (mcpy M 28 1 28 0 19) 29 1 29 0 19) 30 1 30 0 19) 27 3) - 1))) else M) 27 3) v1) 27 3) v2)) (p0 := 30) (np0 := 20) (v1 := ((fmX11_put (fmX11_put (if (M 27 3) = 20 then (mset (mcpy (mcpy (mcpy M 28 1 28 0 19) 29 1 29 0 19) 30 1 30 0 19) 27 3 (wr32 (((mcpy (mcpy (mcpy M 28 1 28 0 19) 29 1 29 0 19) 30 1 30 0 19) 27 3) - 1))) else M) 28 20 ((if (M 27 3) = 20 then (mset (mcpy (mcpy (mcpy M 28 1 28 0 19) 29 1 29 0 19) 30 1 30 0 19) 27 3 (wr32 (((mcpy (mcpy (mcpy M 28 1 28 0 19) 29 1 29 0 19) 30 1 30 0 19) 27 3) - 1))) else M) 27 3) v1) 29 20 ((fmX11_put (if (M 27 3) = 20 then (mset (mcpy (mcpy (mcpy M 28 1 28 0 19) 29 1 29 0 19) 30 1 30 0 19) 27 3 (wr32 (((mcpy (mcpy (mcpy M 28 1 28 0 19) 29 1 29 0 19) 30 1 30 0 19) 27 3) - 1))) else M) 28 20 ((if (M 27 3) = 20 then (mset (mcpy (mcpy (mcpy M 28 1 28 0 19) 29 1 29 0 19) 30 1 30 0 19) 27 3 (wr32 (((mcpy (mcpy (mcpy M 28 1 28 0 19) 29 1 29 0 19) 30 1 30 0 19) 27 3) - 1))) else M) 27 3) v1) 27 3) v2) 27 3)) (v2 := v3) (by decide) rfl (by decide) (gX11_put (h := h) (M := (fmX11_put (if (M 27 3) = 20 then (mset (mcpy (mcpy (mcpy M 28 1 28 0 19) 29 1 29 0 19) 30 1 30 0 19) 27 3 (wr32 (((mcpy (mcpy (mcpy M 28 1 28 0 19) 29 1 29 0 19) 30 1 30 0 19) 27 3) - 1))) else M) 28 20 ((if (M 27 3) = 20 then (mset (mcpy (mcpy (mcpy M 28 1 28 0 19) 29 1 29 0 19) 30 1 30 0 19) 27 3 (wr32 (((mcpy (mcpy (mcpy M 28 1 28 0 19) 29 1 29 0 19) 30 1 30 0 19) 27 3) - 1))) else M) 27 3) v1)) (p0 := 29) (np0 := 20) (v1 := ((fmX11_put (if (M 27 3) = 20 then (mset (mcpy (mcpy (mcpy M 28 1 28 0 19) 29 1 29 0 19) 30 1 30 0 19) 27 3 (wr32 (((mcpy (mcpy (mcpy M 28 1 28 0 19) 29 1 29 0 19) 30 1 30 0 19) 27 3) - 1))) else M) 28 20 ((if (M 27 3) = 20 then (mset (mcpy (mcpy (mcpy M 28 1 28 0 19) 29 1 29 0 19) 30 1 30 0 19) 27 3 (wr32 (((mcpy (mcpy (mcpy M 28 1 28 0 19) 29 1 29 0 19) 30 1 30 0 19) 27 3) - 1))) else M) 27 3) v1) 27 3)) (v2 := v2) (by decide) rfl (by decide) (gX11_put (h := h) (M := (if (M 27 3) = 20 then (mset (mcpy (mcpy (mcpy M 28 1 28 0 19) 29 1 29 0 19) 30 1 30 0 19) 27 3 (wr32 (((mcpy (mcpy (mcpy M 28 1 28 0 19) 29 1 29 0 19) 30 1 30 0 19) 27 3) - 1))) else M)) (p0 := 28) (np0 := 20) (v1 := ((if (M 27 3) = 20 then (mset (mcpy (mcpy (mcpy M 28 1 28 0 19) 29 1 29 0 19) 30 1 30 0 19) 27 3 (wr32 (((mcpy (mcpy (mcpy M 28 1 28 0 19) 29 1 29 0 19) 30 1 30 0 19) 27 3) - 1))) else M) 27 3)) (v2 := v1) (by decide) rfl (by decide) (G_ite (G_fld (x := 27) (i := 3) (y := (wr32 (((mcpy (mcpy (mcpy M 28 1 28 0 19) 29 1 29 0 19) 30 1 30 0 19) 27 3) - 1))) rfl (by decide) (by decide) (by decide) (G_cpy (x := 30) (y := 30) (sp := 1) (dp := 0) (n := 19) rfl (by decide) (G_cpy (x := 29) (y := 29) (sp := 1) (dp := 0) (n := 19) rfl (by decide) (G_cpy (x := 28) (y := 28) (sp := 1) (dp := 0) (n := 19) rfl (by decide) hG)))) hG))))), (by rw [hQ]; exact ⟨rfl, rfl⟩)⟩
  refine T_icmp_ne (pc' := 64) dX0_add_6 (by decide) (pf := 9) rfl (fun c5 => ?_) (fun c5 => ?_)
  · skip
    exact T_wk (L' := [(2, 27), (0, v1), (0, v2), (0, v3)]) (by have q := HJ1; try simp only [if_neg c5] at q; exact q) ⟨Or.inr rfl, Or.inr rfl, Or.inr rfl, Or.inr rfl, trivial⟩
  · skip
    refine T_aload_n (i := 0) (pc' := 10) dX0_add_9 rfl rfl rfl ?_
    refine U_gr (q := 28) (k := 0) (kI := 0) (pc' := 13) dX0_add_10 rfl cl0 (by decide) rfl (by decide) flX0_9 rfl rfl rfl (G_at hG 32 rfl) (by decide) rfl ?_
    refine T_iconst (pc' := 14) dX0_add_13 (by decide) rfl ?_
    refine T_aload_n (i := 0) (pc' := 15) dX0_add_14 rfl rfl rfl ?_
    refine U_gr (q := 28) (k := 0) (kI := 0) (pc' := 18) dX0_add_15 rfl cl0 (by decide) rfl (by decide) flX0_9 rfl rfl rfl (G_at hG 32 rfl) (by decide) rfl ?_
    refine T_iconst (pc' := 19) dX0_add_18 (by decide) rfl ?_
    refine T_bipush (pc' := 21) dX0_add_19 rfl (by decide) rfl ?_
    refine U_copy (pc' := 24) dX0_add_21 rfl mlX0_25 (by decide) (by decide) rfl rfl (by decide) (by decide) (by decide) (by decide) (by decide) (Nat.le_of_ble_eq_true rfl) (by decide) rfl ?_
    refine T_aload_n (i := 0) (pc' := 25) dX0_add_24 rfl rfl rfl ?_
    refine U_gr (q := 29) (k := 1) (kI := 1) (pc' := 28) dX0_add_25 rfl cl0 (by decide) rfl (by decide) flX0_15 rfl rfl rfl (G_at (G_cpy (x := 28) (y := 28) (sp := 1) (dp := 0) (n := 19) rfl (by decide) hG) 33 rfl) (by decide) rfl ?_
    refine T_iconst (pc' := 29) dX0_add_28 (by decide) rfl ?_
    refine T_aload_n (i := 0) (pc' := 30) dX0_add_29 rfl rfl rfl ?_
    refine U_gr (q := 29) (k := 1) (kI := 1) (pc' := 33) dX0_add_30 rfl cl0 (by decide) rfl (by decide) flX0_15 rfl rfl rfl (G_at (G_cpy (x := 28) (y := 28) (sp := 1) (dp := 0) (n := 19) rfl (by decide) hG) 33 rfl) (by decide) rfl ?_
    refine T_iconst (pc' := 34) dX0_add_33 (by decide) rfl ?_
    refine T_bipush (pc' := 36) dX0_add_34 rfl (by decide) rfl ?_
    refine U_copy (pc' := 39) dX0_add_36 rfl mlX0_25 (by decide) (by decide) rfl rfl (by decide) (by decide) (by decide) (by decide) (by decide) (Nat.le_of_ble_eq_true rfl) (by decide) rfl ?_
    refine T_aload_n (i := 0) (pc' := 40) dX0_add_39 rfl rfl rfl ?_
    refine U_gr (q := 30) (k := 2) (kI := 2) (pc' := 43) dX0_add_40 rfl cl0 (by decide) rfl (by decide) flX0_18 rfl rfl rfl (G_at (G_cpy (x := 29) (y := 29) (sp := 1) (dp := 0) (n := 19) rfl (by decide) (G_cpy (x := 28) (y := 28) (sp := 1) (dp := 0) (n := 19) rfl (by decide) hG)) 34 rfl) (by decide) rfl ?_
    refine T_iconst (pc' := 44) dX0_add_43 (by decide) rfl ?_
    refine T_aload_n (i := 0) (pc' := 45) dX0_add_44 rfl rfl rfl ?_
    refine U_gr (q := 30) (k := 2) (kI := 2) (pc' := 48) dX0_add_45 rfl cl0 (by decide) rfl (by decide) flX0_18 rfl rfl rfl (G_at (G_cpy (x := 29) (y := 29) (sp := 1) (dp := 0) (n := 19) rfl (by decide) (G_cpy (x := 28) (y := 28) (sp := 1) (dp := 0) (n := 19) rfl (by decide) hG)) 34 rfl) (by decide) rfl ?_
    refine T_iconst (pc' := 49) dX0_add_48 (by decide) rfl ?_
    refine T_bipush (pc' := 51) dX0_add_49 rfl (by decide) rfl ?_
    refine U_copy (pc' := 54) dX0_add_51 rfl mlX0_25 (by decide) (by decide) rfl rfl (by decide) (by decide) (by decide) (by decide) (by decide) (Nat.le_of_ble_eq_true rfl) (by decide) rfl ?_
    refine T_aload_n (i := 0) (pc' := 55) dX0_add_54 rfl rfl rfl ?_
    refine T_dup (pc' := 56) dX0_add_55 (Nat.ne_of_beq_eq_false rfl) rfl ?_
    refine U_gf (v := (0, ((mcpy (mcpy (mcpy M 28 1 28 0 19) 29 1 29 0 19) 30 1 30 0 19) 27 3))) (k := 3) (kI := 3) (pc' := 59) dX0_add_56 rfl cl0 (by decide) rfl (by decide) flX0_21 rfl rfl (by decide) rfl rfl ?_
    refine T_iconst (pc' := 60) dX0_add_59 (by decide) rfl ?_
    refine T_isub (pc' := 61) dX0_add_60 rfl ?_
    refine U_pf (y := (wr32 (((mcpy (mcpy (mcpy M 28 1 28 0 19) 29 1 29 0 19) 30 1 30 0 19) 27 3) - 1))) (k := 3) (kI := 3) (pc' := 64) dX0_add_61 rfl cl0 (by decide) rfl (by decide) flX0_21 rfl rfl rfl rfl rfl (by decide) (fun z => z) rfl ?_
    exact T_wk (L' := [(2, 27), (0, v1), (0, v2), (0, v3)]) (by have q := HJ1; try simp only [if_pos c5] at q; exact q) ⟨Or.inr rfl, Or.inr rfl, Or.inr rfl, Or.inr rfl, trivial⟩
theorem frX0_add {M : Mem} {v1 : Int} {v2 : Int} {v3 : Int} {q : Int} (hq0 : q ≠ 28) (hq1 : q ≠ 29) (hq2 : q ≠ 30) (hq3 : q ≠ 27) : (fmX0_add M v1 v2 v3) q = M q := by
  unfold fmX0_add
  exact ((mset_p hq3).trans ((frX11_put hq2).trans ((frX11_put hq1).trans ((frX11_put hq0).trans (ite_q ((mset_p hq3).trans ((mcpy_p hq2).trans ((mcpy_p hq1).trans ((mcpy_p hq0).trans rfl)))) rfl)))))
def fX11_get (M : Mem) (p0 : Int) (np0 : Nat) (v1 : Int) : Int :=
  (if v1 < 0 then ((-1) : Int) else (if (np0 : Int) ≤ v1 then ((-1) : Int) else (M p0 v1)))
set_option maxRecDepth 100000 in
theorem pX11_get {E : EV} {h : Int} {M : Mem} {p0 : Int} {np0 : Nat} {v1 : Int} (h0p0 : 0 ≤ p0) (hSp0 : S0[p0.toNat]? = some (0, 0, np0)) (hnp0 : np0 < 2147483648) : C2 E miX11_get 1 h [(2, p0), (0, v1)] M (fun r M' => r = some (0, (fX11_get M p0 np0 v1)) ∧ M' = M) := by
  obtain ⟨Q, hQ⟩ : ∃ Q : Option MV → Mem → Prop, Q = (fun r M' => r = some (0, (fX11_get M p0 np0 v1)) ∧ M' = M) := ⟨_, rfl⟩
  rw [← hQ]
  refine C2_of (L := [(2, p0), (0, v1)]) (by decide +kernel) (Nat.le_of_ble_eq_true rfl) rfl (fun hG => ?_)
  refine T_iload_n (i := 1) (pc' := 1) dX11_get_0 rfl rfl rfl ?_
  have HJ1 : T E miX11_get 1 126 0 0 (fun r S M' => S = S0 ∧ G h M' ∧ Q r M') 17 [(3, 0), (3, 0)] [(0, (if v1 < 0 then ((-1) : Int) else (if (np0 : Int) ≤ v1 then ((-1) : Int) else (M p0 v1))))] S0 M 0 0 := by
    exact T_iret dX11_get_17 rfl ⟨rfl, hG, (by rw [hQ]; exact ⟨rfl, rfl⟩)⟩
  refine T_if_lt (pc' := 16) dX11_get_1 (by decide) (pf := 4) rfl (fun c2 => ?_) (fun c2 => ?_)
  · skip
    refine T_iconst (pc' := 17) dX11_get_16 (by decide) rfl ?_
    exact T_wk (L' := [(3, 0), (3, 0)]) (by have q := HJ1; try simp only [if_pos c2] at q; exact q) ⟨Or.inl rfl, Or.inl rfl, trivial⟩
  · skip
    refine T_iload_n (i := 1) (pc' := 5) dX11_get_4 rfl rfl rfl ?_
    refine T_aload_n (i := 0) (pc' := 6) dX11_get_5 rfl rfl rfl ?_
    refine U_alen (nI := (np0 : Int)) (pc' := 7) dX11_get_6 (by decide) hnp0 hSp0 rfl rfl ?_
    refine T_icmp_ge (pc' := 16) dX11_get_7 (by decide) (pf := 10) rfl (fun c3 => ?_) (fun c3 => ?_)
    · skip
      refine T_iconst (pc' := 17) dX11_get_16 (by decide) rfl ?_
      exact T_wk (L' := [(3, 0), (3, 0)]) (by have q := HJ1; try simp only [if_neg c2] at q; try simp only [if_pos c3] at q; exact q) ⟨Or.inl rfl, Or.inl rfl, trivial⟩
    · skip
      refine T_aload_n (i := 0) (pc' := 11) dX11_get_10 rfl rfl rfl ?_
      refine T_iload_n (i := 1) (pc' := 12) dX11_get_11 rfl rfl rfl ?_
      refine T_iald (pc' := 13) dX11_get_12 h0p0 hSp0 (by omega) (by omega) rfl ?_
      refine T_goto (pc' := 17) dX11_get_13 (by decide) ?_
      exact T_wk (L' := [(3, 0), (3, 0)]) (by have q := HJ1; try simp only [if_neg c2] at q; try simp only [if_neg c3] at q; exact q) ⟨Or.inl rfl, Or.inl rfl, trivial⟩
def fX4_rowOf (g : Int) (v1 : Int) : Int :=
  (if v1 = 0 then (g + 4) else (if v1 = 1 then (g + 5) else (g + 3)))
set_option maxRecDepth 100000 in
theorem pX4_rowOf {E : EV} {h : Int} {M : Mem} {g : Int} {v1 : Int} (hg : isG g) : C2 E miX4_rowOf 1 h [(2, (g + 1)), (0, v1)] M (fun r M' => r = some (2, (fX4_rowOf g v1)) ∧ M' = M) := by
  obtain ⟨Q, hQ⟩ : ∃ Q : Option MV → Mem → Prop, Q = (fun r M' => r = some (2, (fX4_rowOf g v1)) ∧ M' = M) := ⟨_, rfl⟩
  rw [← hQ]
  refine C2_of (L := [(2, (g + 1)), (0, v1)]) (by decide +kernel) (Nat.le_of_ble_eq_true rfl) rfl (fun hG => ?_)
  refine T_iload_n (i := 1) (pc' := 1) dX4_rowOf_0 rfl rfl rfl ?_
  by_cases c1 : v1 = 0
  · skip
    refine T_lookup (pc' := 28) dX4_rowOf_1 (by decide) (by rw [c1] <;> rfl) (by decide) ?_
    refine T_aload_n (i := 0) (pc' := 29) dX4_rowOf_28 rfl rfl rfl ?_
    refine U_gr (q := (g + 4)) (k := 2) (kI := 2) (pc' := 32) dX4_rowOf_29 rfl cl4 (pog1 hg) (shg1 hg) (by decide) flX4_18 rfl rfl rfl (grg1_2 hg hG) (pog4 hg) rfl ?_
    exact T_aret dX4_rowOf_32 rfl (by first | exact Or.inl ⟨_, rfl⟩ | exact Or.inr ⟨_, rfl⟩) ⟨rfl, hG, (by rw [hQ]; exact ⟨(by unfold fX4_rowOf; simp only [if_pos c1]), rfl⟩)⟩
  · skip
    by_cases c2 : v1 = 1
    · skip
      refine T_lookup (pc' := 33) dX4_rowOf_1 (by decide) (by rw [c2] <;> rfl) (by decide) ?_
      refine T_aload_n (i := 0) (pc' := 34) dX4_rowOf_33 rfl rfl rfl ?_
      refine U_gr (q := (g + 5)) (k := 3) (kI := 3) (pc' := 37) dX4_rowOf_34 rfl cl4 (pog1 hg) (shg1 hg) (by decide) flX4_21 rfl rfl rfl (grg1_3 hg hG) (pog5 hg) rfl ?_
      exact T_aret dX4_rowOf_37 rfl (by first | exact Or.inl ⟨_, rfl⟩ | exact Or.inr ⟨_, rfl⟩) ⟨rfl, hG, (by rw [hQ]; exact ⟨(by unfold fX4_rowOf; simp only [if_neg c1, if_pos c2]), rfl⟩)⟩
    · skip
      refine T_lookup (off := 37) (pc' := 38) dX4_rowOf_1 (by decide) (by show (if 0 = v1 then 27 else if 1 = v1 then 32 else 37) = 37; rw [if_neg (fun z => c1 z.symm), if_neg (fun z => c2 z.symm)]) (by decide) ?_
      refine T_aload_n (i := 0) (pc' := 39) dX4_rowOf_38 rfl rfl rfl ?_
      refine U_gr (q := (g + 3)) (k := 1) (kI := 1) (pc' := 42) dX4_rowOf_39 rfl cl4 (pog1 hg) (shg1 hg) (by decide) flX4_15 rfl rfl rfl (grg1_1 hg hG) (pog3 hg) rfl ?_
      exact T_aret dX4_rowOf_42 rfl (by first | exact Or.inl ⟨_, rfl⟩ | exact Or.inr ⟨_, rfl⟩) ⟨rfl, hG, (by rw [hQ]; exact ⟨(by unfold fX4_rowOf; simp only [if_neg c1, if_neg c2]), rfl⟩)⟩
theorem shrow {g v1 : Int} (hg : isG g) : S0[(fX4_rowOf g v1).toNat]? = some (0, 0, 9) := by
  unfold fX4_rowOf
  split
  · exact shg4 hg
  · split
    · exact shg5 hg
    · exact shg3 hg
theorem rowne {q g v1 : Int} (h3 : q ≠ g + 3) (h4 : q ≠ g + 4) (h5 : q ≠ g + 5) : q ≠ fX4_rowOf g v1 := by
  unfold fX4_rowOf
  split
  · exact h4
  · split
    · exact h5
    · exact h3
theorem porow {g v1 : Int} (hg : isG g) : 0 ≤ fX4_rowOf g v1 := by
  unfold fX4_rowOf
  split
  · exact pog4 hg
  · split
    · exact pog5 hg
    · exact pog3 hg
def fmX4_change (M : Mem) (g : Int) (v1 : Int) (v2 : Int) (v3 : Int) : Mem :=
  (fmX11_put M (fX4_rowOf g v2) 9 v1 v3)
theorem gX4_change {h : Int} {M : Mem} {g : Int} {v1 : Int} {v2 : Int} {v3 : Int} (hg : isG g) (hG : G h M) : G h (fmX4_change M g v1 v2 v3) := by
  unfold fmX4_change
  exact (gX11_put (h := h) (M := M) (p0 := (fX4_rowOf g v2)) (np0 := 9) (v1 := v1) (v2 := v3) (porow hg) (shrow hg) (by decide) hG)
set_option maxRecDepth 100000 in
theorem pX4_change {E : EV} {h : Int} {M : Mem} {g : Int} {v1 : Int} {v2 : Int} {v3 : Int} (hg : isG g) : C2 E miX4_change 2 h [(2, (g + 1)), (0, v1), (0, v2), (0, v3)] M (fun r M' => r = none ∧ M' = (fmX4_change M g v1 v2 v3)) := by
  obtain ⟨Q, hQ⟩ : ∃ Q : Option MV → Mem → Prop, Q = (fun r M' => r = none ∧ M' = (fmX4_change M g v1 v2 v3)) := ⟨_, rfl⟩
  rw [← hQ]
  refine C2_of (L := [(2, (g + 1)), (0, v1), (0, v2), (0, v3)]) (by decide +kernel) (Nat.le_of_ble_eq_true rfl) rfl (fun hG => ?_)
  refine T_aload_n (i := 0) (pc' := 1) dX4_change_0 rfl rfl rfl ?_
  refine T_iload_n (i := 2) (pc' := 2) dX4_change_1 rfl rfl rfl ?_
  refine T_callV (av := [(0, v2)]) (st := []) (d2 := 1) (nc2 := 0) (ns2 := 0) (pc' := 5) dX4_change_2 rfl mtX4_rowOf mvX4_rowOf mlX4_40 cl4 (shg1 hg) rfl rfl (Nat.le_of_ble_eq_true rfl) (by decide) ⟨by decide, by decide⟩ rfl (pX4_rowOf (E := E) (h := h) (M := M) (g := g) (v1 := v2) hg hG) (kF (st2 := [(2, (fX4_rowOf g v2))]) rfl (fun hG1 => ?_))
  refine T_iload_n (i := 1) (pc' := 6) dX4_change_5 rfl rfl rfl ?_
  refine T_iload_n (i := 3) (pc' := 7) dX4_change_6 rfl rfl rfl ?_
  refine T_callSN (av := [(2, (fX4_rowOf g v2)), (0, v1), (0, v3)]) (st := []) (d2 := 1) (nc2 := 0) (ns2 := 0) (pc' := 10) dX4_change_7 rfl mtX11_put mvX11_put mlX4_48 rfl rfl (Nat.le_of_ble_eq_true rfl) (by decide) ⟨by decide, by decide⟩ rfl (pX11_put (E := E) (h := h) (M := M) (p0 := (fX4_rowOf g v2)) (np0 := 9) (v1 := v1) (v2 := v3) (porow hg) (shrow hg) (by decide) hG) (kF (st2 := []) rfl (fun hG2 => ?_))
  exact T_vret dX4_change_10 rfl ⟨rfl, (gX11_put (h := h) (M := M) (p0 := (fX4_rowOf g v2)) (np0 := 9) (v1 := v1) (v2 := v3) (porow hg) (shrow hg) (by decide) hG), (by rw [hQ]; exact ⟨rfl, rfl⟩)⟩
theorem frX4_change {M : Mem} {g : Int} {v1 : Int} {v2 : Int} {v3 : Int} {q : Int} (hq0 : q ≠ (g + 3)) (hq1 : q ≠ (g + 4)) (hq2 : q ≠ (g + 5)) : (fmX4_change M g v1 v2 v3) q = M q := by
  unfold fmX4_change
  exact ((frX11_put (rowne hq0 hq1 hq2)).trans rfl)
def fmX0_takeBack (M : Mem) (g : Int) : Mem :=
  (if (fX11_get (mset M 27 3 (wr32 ((M 27 3) - 1))) 28 20 ((mset M 27 3 (wr32 ((M 27 3) - 1))) 27 3)) = 3 then (fmX11_put (mset M 27 3 (wr32 ((M 27 3) - 1))) (g + 11) 6 (fX11_get (mset M 27 3 (wr32 ((M 27 3) - 1))) 29 20 ((mset M 27 3 (wr32 ((M 27 3) - 1))) 27 3)) (fX11_get (mset M 27 3 (wr32 ((M 27 3) - 1))) 30 20 ((mset M 27 3 (wr32 ((M 27 3) - 1))) 27 3))) else (fmX4_change (mset M 27 3 (wr32 ((M 27 3) - 1))) g (fX11_get (mset M 27 3 (wr32 ((M 27 3) - 1))) 29 20 ((mset M 27 3 (wr32 ((M 27 3) - 1))) 27 3)) (fX11_get (mset M 27 3 (wr32 ((M 27 3) - 1))) 28 20 ((mset M 27 3 (wr32 ((M 27 3) - 1))) 27 3)) (fX11_get (mset M 27 3 (wr32 ((M 27 3) - 1))) 30 20 ((mset M 27 3 (wr32 ((M 27 3) - 1))) 27 3))))
theorem gX0_takeBack {h : Int} {M : Mem} {g : Int} (hg : isG g) (hG : G h M) : G h (fmX0_takeBack M g) := by
  unfold fmX0_takeBack
  exact (G_ite (gX11_put (h := h) (M := (mset M 27 3 (wr32 ((M 27 3) - 1)))) (p0 := (g + 11)) (np0 := 6) (v1 := (fX11_get (mset M 27 3 (wr32 ((M 27 3) - 1))) 29 20 ((mset M 27 3 (wr32 ((M 27 3) - 1))) 27 3))) (v2 := (fX11_get (mset M 27 3 (wr32 ((M 27 3) - 1))) 30 20 ((mset M 27 3 (wr32 ((M 27 3) - 1))) 27 3))) (pog11 hg) (shg11 hg) (by decide) (G_fld (x := 27) (i := 3) (y := (wr32 ((M 27 3) - 1))) rfl (by decide) (by decide) (by decide) hG)) (gX4_change (h := h) (M := (mset M 27 3 (wr32 ((M 27 3) - 1)))) (g := g) (v1 := (fX11_get (mset M 27 3 (wr32 ((M 27 3) - 1))) 29 20 ((mset M 27 3 (wr32 ((M 27 3) - 1))) 27 3))) (v2 := (fX11_get (mset M 27 3 (wr32 ((M 27 3) - 1))) 28 20 ((mset M 27 3 (wr32 ((M 27 3) - 1))) 27 3))) (v3 := (fX11_get (mset M 27 3 (wr32 ((M 27 3) - 1))) 30 20 ((mset M 27 3 (wr32 ((M 27 3) - 1))) 27 3))) hg (G_fld (x := 27) (i := 3) (y := (wr32 ((M 27 3) - 1))) rfl (by decide) (by decide) (by decide) hG)))
set_option maxRecDepth 100000 in
theorem pX0_takeBack {E : EV} {h : Int} {M : Mem} {g : Int} (hg : isG g) : C2 E miX0_takeBack 3 h [(2, 27), (2, g)] M (fun r M' => r = none ∧ M' = (fmX0_takeBack M g)) := by
  obtain ⟨Q, hQ⟩ : ∃ Q : Option MV → Mem → Prop, Q = (fun r M' => r = none ∧ M' = (fmX0_takeBack M g)) := ⟨_, rfl⟩
  rw [← hQ]
  refine C2_of (L := [(2, 27), (2, g), (3, 0)]) (by decide +kernel) (Nat.le_of_ble_eq_true rfl) rfl (fun hG => ?_)
  refine T_aload_n (i := 0) (pc' := 1) dX0_takeBack_0 rfl rfl rfl ?_
  refine T_dup (pc' := 2) dX0_takeBack_1 (Nat.ne_of_beq_eq_false rfl) rfl ?_
  refine U_gf (v := (0, (M 27 3))) (k := 3) (kI := 3) (pc' := 5) dX0_takeBack_2 rfl cl0 (by decide) rfl (by decide) flX0_21 rfl rfl (by decide) rfl rfl ?_
  refine T_iconst (pc' := 6) dX0_takeBack_5 (by decide) rfl ?_
  refine T_isub (pc' := 7) dX0_takeBack_6 rfl ?_
  refine U_pf (y := (wr32 ((M 27 3) - 1))) (k := 3) (kI := 3) (pc' := 10) dX0_takeBack_7 rfl cl0 (by decide) rfl (by decide) flX0_21 rfl rfl rfl rfl rfl (by decide) (fun z => z) rfl ?_
  refine T_aload_n (i := 0) (pc' := 11) dX0_takeBack_10 rfl rfl rfl ?_
  refine U_gr (q := 28) (k := 0) (kI := 0) (pc' := 14) dX0_takeBack_11 rfl cl0 (by decide) rfl (by decide) flX0_9 rfl rfl rfl (G_at (G_fld (x := 27) (i := 3) (y := (wr32 ((M 27 3) - 1))) rfl (by decide) (by decide) (by decide) hG) 32 rfl) (by decide) rfl ?_
  refine T_aload_n (i := 0) (pc' := 15) dX0_takeBack_14 rfl rfl rfl ?_
  refine U_gf (v := (0, ((mset M 27 3 (wr32 ((M 27 3) - 1))) 27 3))) (k := 3) (kI := 3) (pc' := 18) dX0_takeBack_15 rfl cl0 (by decide) rfl (by decide) flX0_21 rfl rfl (by decide) rfl rfl ?_
  refine T_callSN (av := [(2, 28), (0, ((mset M 27 3 (wr32 ((M 27 3) - 1))) 27 3))]) (st := []) (d2 := 1) (nc2 := 0) (ns2 := 0) (pc' := 21) dX0_takeBack_18 rfl mtX11_get mvX11_get mlX0_35 rfl rfl (Nat.le_of_ble_eq_true rfl) (by decide) ⟨by decide, by decide⟩ rfl (pX11_get (E := E) (h := h) (M := (mset M 27 3 (wr32 ((M 27 3) - 1)))) (p0 := 28) (np0 := 20) (v1 := ((mset M 27 3 (wr32 ((M 27 3) - 1))) 27 3)) (by decide) rfl (by decide) (G_fld (x := 27) (i := 3) (y := (wr32 ((M 27 3) - 1))) rfl (by decide) (by decide) (by decide) hG)) (kF (st2 := [(0, (fX11_get (mset M 27 3 (wr32 ((M 27 3) - 1))) 28 20 ((mset M 27 3 (wr32 ((M 27 3) - 1))) 27 3)))]) rfl (fun hG1 => ?_))
  refine T_istore_n (i := 2) (L' := [(2, 27), (2, g), (0, (fX11_get (mset M 27 3 (wr32 ((M 27 3) - 1))) 28 20 ((mset M 27 3 (wr32 ((M 27 3) - 1))) 27 3)))]) (pc' := 22) dX0_takeBack_21 rfl (by decide) rfl rfl ?_
  refine T_iload_n (i := 2) (pc' := 23) dX0_takeBack_22 rfl rfl rfl ?_
  refine T_iconst (pc' := 24) dX0_takeBack_23 (by decide) rfl ?_
  have HJ2 : T E miX0_takeBack 3 126 0 0 (fun r S M' => S = S0 ∧ G h M' ∧ Q r M') 89 [(3, 0), (3, 0), (3, 0)] [] S0 (if (fX11_get (mset M 27 3 (wr32 ((M 27 3) - 1))) 28 20 ((mset M 27 3 (wr32 ((M 27 3) - 1))) 27 3)) = 3 then (fmX11_put (mset M 27 3 (wr32 ((M 27 3) - 1))) (g + 11) 6 (fX11_get (mset M 27 3 (wr32 ((M 27 3) - 1))) 29 20 ((mset M 27 3 (wr32 ((M 27 3) - 1))) 27 3)) (fX11_get (mset M 27 3 (wr32 ((M 27 3) - 1))) 30 20 ((mset M 27 3 (wr32 ((M 27 3) - 1))) 27 3))) else (fmX4_change (mset M 27 3 (wr32 ((M 27 3) - 1))) g (fX11_get (mset M 27 3 (wr32 ((M 27 3) - 1))) 29 20 ((mset M 27 3 (wr32 ((M 27 3) - 1))) 27 3)) (fX11_get (mset M 27 3 (wr32 ((M 27 3) - 1))) 28 20 ((mset M 27 3 (wr32 ((M 27 3) - 1))) 27 3)) (fX11_get (mset M 27 3 (wr32 ((M 27 3) - 1))) 30 20 ((mset M 27 3 (wr32 ((M 27 3) - 1))) 27 3)))) 0 0 := by
    exact T_vret dX0_takeBack_89 rfl ⟨rfl, (G_ite (gX11_put (h := h) (M := (mset M 27 3 (wr32 ((M 27 3) - 1)))) (p0 := (g + 11)) (np0 := 6) (v1 := (fX11_get (mset M 27 3 (wr32 ((M 27 3) - 1))) 29 20 ((mset M 27 3 (wr32 ((M 27 3) - 1))) 27 3))) (v2 := (fX11_get (mset M 27 3 (wr32 ((M 27 3) - 1))) 30 20 ((mset M 27 3 (wr32 ((M 27 3) - 1))) 27 3))) (pog11 hg) (shg11 hg) (by decide) (G_fld (x := 27) (i := 3) (y := (wr32 ((M 27 3) - 1))) rfl (by decide) (by decide) (by decide) hG)) (gX4_change (h := h) (M := (mset M 27 3 (wr32 ((M 27 3) - 1)))) (g := g) (v1 := (fX11_get (mset M 27 3 (wr32 ((M 27 3) - 1))) 29 20 ((mset M 27 3 (wr32 ((M 27 3) - 1))) 27 3))) (v2 := (fX11_get (mset M 27 3 (wr32 ((M 27 3) - 1))) 28 20 ((mset M 27 3 (wr32 ((M 27 3) - 1))) 27 3))) (v3 := (fX11_get (mset M 27 3 (wr32 ((M 27 3) - 1))) 30 20 ((mset M 27 3 (wr32 ((M 27 3) - 1))) 27 3))) hg (G_fld (x := 27) (i := 3) (y := (wr32 ((M 27 3) - 1))) rfl (by decide) (by decide) (by decide) hG))), (by rw [hQ]; exact ⟨rfl, rfl⟩)⟩
  refine T_icmp_ne (pc' := 59) dX0_takeBack_24 (by decide) (pf := 27) rfl (fun c3 => ?_) (fun c3 => ?_)
  · skip
    refine T_aload_n (i := 1) (pc' := 60) dX0_takeBack_59 rfl rfl rfl ?_
    refine U_grN (q := (g + 1)) (k := 0) (kI := 0) (pc' := 63) dX0_takeBack_60 rfl cl1 (pog0 hg) (shg0 hg) (by decide) flX0_44 rfl rfl rfl (grg0_0 hg (G_fld (x := 27) (i := 3) (y := (wr32 ((M 27 3) - 1))) rfl (by decide) (by decide) (by decide) hG)) (pog1 hg) rfl ?_
    refine T_aload_n (i := 0) (pc' := 64) dX0_takeBack_63 rfl rfl rfl ?_
    refine U_gr (q := 29) (k := 1) (kI := 1) (pc' := 67) dX0_takeBack_64 rfl cl0 (by decide) rfl (by decide) flX0_15 rfl rfl rfl (G_at (G_fld (x := 27) (i := 3) (y := (wr32 ((M 27 3) - 1))) rfl (by decide) (by decide) (by decide) hG) 33 rfl) (by decide) rfl ?_
    refine T_aload_n (i := 0) (pc' := 68) dX0_takeBack_67 rfl rfl rfl ?_
    refine U_gf (v := (0, ((mset M 27 3 (wr32 ((M 27 3) - 1))) 27 3))) (k := 3) (kI := 3) (pc' := 71) dX0_takeBack_68 rfl cl0 (by decide) rfl (by decide) flX0_21 rfl rfl (by decide) rfl rfl ?_
    refine T_callSN (av := [(2, 29), (0, ((mset M 27 3 (wr32 ((M 27 3) - 1))) 27 3))]) (st := [(2, (g + 1))]) (d2 := 1) (nc2 := 0) (ns2 := 0) (pc' := 74) dX0_takeBack_71 rfl mtX11_get mvX11_get mlX0_35 rfl rfl (Nat.le_of_ble_eq_true rfl) (by decide) ⟨by decide, by decide⟩ rfl (pX11_get (E := E) (h := h) (M := (mset M 27 3 (wr32 ((M 27 3) - 1)))) (p0 := 29) (np0 := 20) (v1 := ((mset M 27 3 (wr32 ((M 27 3) - 1))) 27 3)) (by decide) rfl (by decide) (G_fld (x := 27) (i := 3) (y := (wr32 ((M 27 3) - 1))) rfl (by decide) (by decide) (by decide) hG)) (kF (st2 := [(0, (fX11_get (mset M 27 3 (wr32 ((M 27 3) - 1))) 29 20 ((mset M 27 3 (wr32 ((M 27 3) - 1))) 27 3))), (2, (g + 1))]) rfl (fun hG4 => ?_))
    refine T_iload_n (i := 2) (pc' := 75) dX0_takeBack_74 rfl rfl rfl ?_
    refine T_aload_n (i := 0) (pc' := 76) dX0_takeBack_75 rfl rfl rfl ?_
    refine U_gr (q := 30) (k := 2) (kI := 2) (pc' := 79) dX0_takeBack_76 rfl cl0 (by decide) rfl (by decide) flX0_18 rfl rfl rfl (G_at (G_fld (x := 27) (i := 3) (y := (wr32 ((M 27 3) - 1))) rfl (by decide) (by decide) (by decide) hG) 34 rfl) (by decide) rfl ?_
    refine T_aload_n (i := 0) (pc' := 80) dX0_takeBack_79 rfl rfl rfl ?_
    refine U_gf (v := (0, ((mset M 27 3 (wr32 ((M 27 3) - 1))) 27 3))) (k := 3) (kI := 3) (pc' := 83) dX0_takeBack_80 rfl cl0 (by decide) rfl (by decide) flX0_21 rfl rfl (by decide) rfl rfl ?_
    refine T_callSN (av := [(2, 30), (0, ((mset M 27 3 (wr32 ((M 27 3) - 1))) 27 3))]) (st := [(0, (fX11_get (mset M 27 3 (wr32 ((M 27 3) - 1))) 28 20 ((mset M 27 3 (wr32 ((M 27 3) - 1))) 27 3))), (0, (fX11_get (mset M 27 3 (wr32 ((M 27 3) - 1))) 29 20 ((mset M 27 3 (wr32 ((M 27 3) - 1))) 27 3))), (2, (g + 1))]) (d2 := 1) (nc2 := 0) (ns2 := 0) (pc' := 86) dX0_takeBack_83 rfl mtX11_get mvX11_get mlX0_35 rfl rfl (Nat.le_of_ble_eq_true rfl) (by decide) ⟨by decide, by decide⟩ rfl (pX11_get (E := E) (h := h) (M := (mset M 27 3 (wr32 ((M 27 3) - 1)))) (p0 := 30) (np0 := 20) (v1 := ((mset M 27 3 (wr32 ((M 27 3) - 1))) 27 3)) (by decide) rfl (by decide) (G_fld (x := 27) (i := 3) (y := (wr32 ((M 27 3) - 1))) rfl (by decide) (by decide) (by decide) hG)) (kF (st2 := [(0, (fX11_get (mset M 27 3 (wr32 ((M 27 3) - 1))) 30 20 ((mset M 27 3 (wr32 ((M 27 3) - 1))) 27 3))), (0, (fX11_get (mset M 27 3 (wr32 ((M 27 3) - 1))) 28 20 ((mset M 27 3 (wr32 ((M 27 3) - 1))) 27 3))), (0, (fX11_get (mset M 27 3 (wr32 ((M 27 3) - 1))) 29 20 ((mset M 27 3 (wr32 ((M 27 3) - 1))) 27 3))), (2, (g + 1))]) rfl (fun hG5 => ?_))
    refine T_callV (av := [(0, (fX11_get (mset M 27 3 (wr32 ((M 27 3) - 1))) 29 20 ((mset M 27 3 (wr32 ((M 27 3) - 1))) 27 3))), (0, (fX11_get (mset M 27 3 (wr32 ((M 27 3) - 1))) 28 20 ((mset M 27 3 (wr32 ((M 27 3) - 1))) 27 3))), (0, (fX11_get (mset M 27 3 (wr32 ((M 27 3) - 1))) 30 20 ((mset M 27 3 (wr32 ((M 27 3) - 1))) 27 3)))]) (st := []) (d2 := 2) (nc2 := 0) (ns2 := 0) (pc' := 89) dX0_takeBack_86 rfl mtX4_change mvX4_change mlX0_48 cl4 (shg1 hg) rfl rfl (Nat.le_of_ble_eq_true rfl) (by decide) ⟨by decide, by decide⟩ rfl (pX4_change (E := E) (h := h) (M := (mset M 27 3 (wr32 ((M 27 3) - 1)))) (g := g) (v1 := (fX11_get (mset M 27 3 (wr32 ((M 27 3) - 1))) 29 20 ((mset M 27 3 (wr32 ((M 27 3) - 1))) 27 3))) (v2 := (fX11_get (mset M 27 3 (wr32 ((M 27 3) - 1))) 28 20 ((mset M 27 3 (wr32 ((M 27 3) - 1))) 27 3))) (v3 := (fX11_get (mset M 27 3 (wr32 ((M 27 3) - 1))) 30 20 ((mset M 27 3 (wr32 ((M 27 3) - 1))) 27 3))) hg (G_fld (x := 27) (i := 3) (y := (wr32 ((M 27 3) - 1))) rfl (by decide) (by decide) (by decide) hG)) (kF (st2 := []) rfl (fun hG6 => ?_))
    exact T_wk (L' := [(3, 0), (3, 0), (3, 0)]) (by have q := HJ2; try simp only [if_neg c3] at q; exact q) ⟨Or.inl rfl, Or.inl rfl, Or.inl rfl, trivial⟩
  · skip
    refine T_aload_n (i := 1) (pc' := 28) dX0_takeBack_27 rfl rfl rfl ?_
    refine U_grN (q := (g + 11)) (k := 3) (kI := 3) (pc' := 31) dX0_takeBack_28 rfl cl1 (pog0 hg) (shg0 hg) (by decide) flX0_39 rfl rfl rfl (grg0_3 hg (G_fld (x := 27) (i := 3) (y := (wr32 ((M 27 3) - 1))) rfl (by decide) (by decide) (by decide) hG)) (pog11 hg) rfl ?_
    refine T_aload_n (i := 0) (pc' := 32) dX0_takeBack_31 rfl rfl rfl ?_
    refine U_gr (q := 29) (k := 1) (kI := 1) (pc' := 35) dX0_takeBack_32 rfl cl0 (by decide) rfl (by decide) flX0_15 rfl rfl rfl (G_at (G_fld (x := 27) (i := 3) (y := (wr32 ((M 27 3) - 1))) rfl (by decide) (by decide) (by decide) hG) 33 rfl) (by decide) rfl ?_
    refine T_aload_n (i := 0) (pc' := 36) dX0_takeBack_35 rfl rfl rfl ?_
    refine U_gf (v := (0, ((mset M 27 3 (wr32 ((M 27 3) - 1))) 27 3))) (k := 3) (kI := 3) (pc' := 39) dX0_takeBack_36 rfl cl0 (by decide) rfl (by decide) flX0_21 rfl rfl (by decide) rfl rfl ?_
    refine T_callSN (av := [(2, 29), (0, ((mset M 27 3 (wr32 ((M 27 3) - 1))) 27 3))]) (st := [(2, (g + 11))]) (d2 := 1) (nc2 := 0) (ns2 := 0) (pc' := 42) dX0_takeBack_39 rfl mtX11_get mvX11_get mlX0_35 rfl rfl (Nat.le_of_ble_eq_true rfl) (by decide) ⟨by decide, by decide⟩ rfl (pX11_get (E := E) (h := h) (M := (mset M 27 3 (wr32 ((M 27 3) - 1)))) (p0 := 29) (np0 := 20) (v1 := ((mset M 27 3 (wr32 ((M 27 3) - 1))) 27 3)) (by decide) rfl (by decide) (G_fld (x := 27) (i := 3) (y := (wr32 ((M 27 3) - 1))) rfl (by decide) (by decide) (by decide) hG)) (kF (st2 := [(0, (fX11_get (mset M 27 3 (wr32 ((M 27 3) - 1))) 29 20 ((mset M 27 3 (wr32 ((M 27 3) - 1))) 27 3))), (2, (g + 11))]) rfl (fun hG7 => ?_))
    refine T_aload_n (i := 0) (pc' := 43) dX0_takeBack_42 rfl rfl rfl ?_
    refine U_gr (q := 30) (k := 2) (kI := 2) (pc' := 46) dX0_takeBack_43 rfl cl0 (by decide) rfl (by decide) flX0_18 rfl rfl rfl (G_at (G_fld (x := 27) (i := 3) (y := (wr32 ((M 27 3) - 1))) rfl (by decide) (by decide) (by decide) hG) 34 rfl) (by decide) rfl ?_
    refine T_aload_n (i := 0) (pc' := 47) dX0_takeBack_46 rfl rfl rfl ?_
    refine U_gf (v := (0, ((mset M 27 3 (wr32 ((M 27 3) - 1))) 27 3))) (k := 3) (kI := 3) (pc' := 50) dX0_takeBack_47 rfl cl0 (by decide) rfl (by decide) flX0_21 rfl rfl (by decide) rfl rfl ?_
    refine T_callSN (av := [(2, 30), (0, ((mset M 27 3 (wr32 ((M 27 3) - 1))) 27 3))]) (st := [(0, (fX11_get (mset M 27 3 (wr32 ((M 27 3) - 1))) 29 20 ((mset M 27 3 (wr32 ((M 27 3) - 1))) 27 3))), (2, (g + 11))]) (d2 := 1) (nc2 := 0) (ns2 := 0) (pc' := 53) dX0_takeBack_50 rfl mtX11_get mvX11_get mlX0_35 rfl rfl (Nat.le_of_ble_eq_true rfl) (by decide) ⟨by decide, by decide⟩ rfl (pX11_get (E := E) (h := h) (M := (mset M 27 3 (wr32 ((M 27 3) - 1)))) (p0 := 30) (np0 := 20) (v1 := ((mset M 27 3 (wr32 ((M 27 3) - 1))) 27 3)) (by decide) rfl (by decide) (G_fld (x := 27) (i := 3) (y := (wr32 ((M 27 3) - 1))) rfl (by decide) (by decide) (by decide) hG)) (kF (st2 := [(0, (fX11_get (mset M 27 3 (wr32 ((M 27 3) - 1))) 30 20 ((mset M 27 3 (wr32 ((M 27 3) - 1))) 27 3))), (0, (fX11_get (mset M 27 3 (wr32 ((M 27 3) - 1))) 29 20 ((mset M 27 3 (wr32 ((M 27 3) - 1))) 27 3))), (2, (g + 11))]) rfl (fun hG8 => ?_))
    refine T_callSN (av := [(2, (g + 11)), (0, (fX11_get (mset M 27 3 (wr32 ((M 27 3) - 1))) 29 20 ((mset M 27 3 (wr32 ((M 27 3) - 1))) 27 3))), (0, (fX11_get (mset M 27 3 (wr32 ((M 27 3) - 1))) 30 20 ((mset M 27 3 (wr32 ((M 27 3) - 1))) 27 3)))]) (st := []) (d2 := 1) (nc2 := 0) (ns2 := 0) (pc' := 56) dX0_takeBack_53 rfl mtX11_put mvX11_put mlX0_31 rfl rfl (Nat.le_of_ble_eq_true rfl) (by decide) ⟨by decide, by decide⟩ rfl (pX11_put (E := E) (h := h) (M := (mset M 27 3 (wr32 ((M 27 3) - 1)))) (p0 := (g + 11)) (np0 := 6) (v1 := (fX11_get (mset M 27 3 (wr32 ((M 27 3) - 1))) 29 20 ((mset M 27 3 (wr32 ((M 27 3) - 1))) 27 3))) (v2 := (fX11_get (mset M 27 3 (wr32 ((M 27 3) - 1))) 30 20 ((mset M 27 3 (wr32 ((M 27 3) - 1))) 27 3))) (pog11 hg) (shg11 hg) (by decide) (G_fld (x := 27) (i := 3) (y := (wr32 ((M 27 3) - 1))) rfl (by decide) (by decide) (by decide) hG)) (kF (st2 := []) rfl (fun hG9 => ?_))
    refine T_goto (pc' := 89) dX0_takeBack_56 (by decide) ?_
    exact T_wk (L' := [(3, 0), (3, 0), (3, 0)]) (by have q := HJ2; try simp only [if_pos c3] at q; exact q) ⟨Or.inl rfl, Or.inl rfl, Or.inl rfl, trivial⟩
theorem frX0_takeBack {M : Mem} {g : Int} {q : Int} (hq0 : q ≠ 27) (hq1 : q ≠ (g + 3)) (hq2 : q ≠ (g + 4)) (hq3 : q ≠ (g + 5)) (hq4 : q ≠ (g + 11)) : (fmX0_takeBack M g) q = M q := by
  unfold fmX0_takeBack
  exact (ite_q ((frX11_put hq4).trans ((mset_p hq0).trans rfl)) ((frX4_change hq1 hq2 hq3).trans ((mset_p hq0).trans rfl)))
def lmX1_clear_18 (g : Int) : Nat → Int → Mem → Mem
  | 0, v1, M => (mset (mset (mset (mset (mset (mset (mset (mset (mset M g 9 0) g 10 0) g 11 0) g 12 0) g 13 0) g 14 60) g 15 20) g 16 1) g 17 3)
  | k + 1, v1, M => (lmX1_clear_18 g k (v1 + 1) (fmX11_put M (g + 9) 54 v1 0))
theorem frlX1_clear_18 {g : Int} {q : Int} (hq0 : q ≠ g) (hq1 : q ≠ (g + 9)) : ∀ {k : Nat} {v1 : Int} {M : Mem}, (lmX1_clear_18 g k v1 M) q = M q := by
  intro k
  induction k with
  | zero =>
    intro v1 M
    show (mset (mset (mset (mset (mset (mset (mset (mset (mset M g 9 0) g 10 0) g 11 0) g 12 0) g 13 0) g 14 60) g 15 20) g 16 1) g 17 3) q = M q
    exact ((mset_p hq0).trans ((mset_p hq0).trans ((mset_p hq0).trans ((mset_p hq0).trans ((mset_p hq0).trans ((mset_p hq0).trans ((mset_p hq0).trans ((mset_p hq0).trans ((mset_p hq0).trans rfl)))))))))
  | succ k ih =>
    intro v1 M
    show (lmX1_clear_18 g k (v1 + 1) (fmX11_put M (g + 9) 54 v1 0)) q = M q
    exact ((ih).trans ((frX11_put hq1).trans rfl))
theorem glX1_clear_18 {h : Int} {g : Int} (hg : isG g) : ∀ {k : Nat} {v1 : Int} {M : Mem}, G h M → G h (lmX1_clear_18 g k v1 M) := by
  intro k
  induction k with
  | zero =>
    intro v1 M hG
    show G h (mset (mset (mset (mset (mset (mset (mset (mset (mset M g 9 0) g 10 0) g 11 0) g 12 0) g 13 0) g 14 60) g 15 20) g 16 1) g 17 3)
    exact (G_fld (x := g) (i := 17) (y := 3) (shg0 hg) (by decide) (by decide) (pog0 hg) (G_fld (x := g) (i := 16) (y := 1) (shg0 hg) (by decide) (by decide) (pog0 hg) (G_fld (x := g) (i := 15) (y := 20) (shg0 hg) (by decide) (by decide) (pog0 hg) (G_fld (x := g) (i := 14) (y := 60) (shg0 hg) (by decide) (by decide) (pog0 hg) (G_fld (x := g) (i := 13) (y := 0) (shg0 hg) (by decide) (by decide) (pog0 hg) (G_fld (x := g) (i := 12) (y := 0) (shg0 hg) (by decide) (by decide) (pog0 hg) (G_fld (x := g) (i := 11) (y := 0) (shg0 hg) (by decide) (by decide) (pog0 hg) (G_fld (x := g) (i := 10) (y := 0) (shg0 hg) (by decide) (by decide) (pog0 hg) (G_fld (x := g) (i := 9) (y := 0) (shg0 hg) (by decide) (by decide) (pog0 hg) hG)))))))))
  | succ k ih =>
    intro v1 M hG
    show G h (lmX1_clear_18 g k (v1 + 1) (fmX11_put M (g + 9) 54 v1 0))
    exact (ih (gX11_put (h := h) (M := M) (p0 := (g + 9)) (np0 := 54) (v1 := v1) (v2 := 0) (pog9 hg) (shg9 hg) (by decide) hG))
set_option maxRecDepth 100000 in
set_option maxHeartbeats 2000000 in
theorem qX1_clear_18 {E : EV} {h : Int} {Q : Option MV → Mem → Prop} {g : Int} (hg : isG g) : ∀ (k : Nat) (v1 : Int) (M : Mem), 0 ≤ v1 → ((54) - v1).toNat = k → Q none (lmX1_clear_18 g k v1 M) → G h M → TG E miX1_clear 2 h Q 18 [(2, g), (0, v1)] [] M := by
  intro k
  induction k with
  | zero =>
    intro v1 M hv0 hk hQ hG
    have hQ : Q none (mset (mset (mset (mset (mset (mset (mset (mset (mset M g 9 0) g 10 0) g 11 0) g 12 0) g 13 0) g 14 60) g 15 20) g 16 1) g 17 3) := hQ
    refine T_iload_n (i := 1) (pc' := 19) dX1_clear_18 rfl rfl rfl ?_
    refine T_bipush (pc' := 21) dX1_clear_19 rfl (by decide) rfl ?_
    refine T_rng (fun _ z9 _ => ?_)
    have hB : r32 54 := (ok_cons.mp z9).1
    unfold r32 at hB
    refine T_icmp_ge (pc' := 39) dX1_clear_21 (by decide) (pf := 24) rfl (fun c1 => ?_) (fun c1 => ?_)
    · skip
      refine T_aload_n (i := 0) (pc' := 40) dX1_clear_39 rfl rfl rfl ?_
      refine T_iconst (pc' := 41) dX1_clear_40 (by decide) rfl ?_
      refine U_pf (y := 0) (k := 9) (kI := 9) (pc' := 44) dX1_clear_41 rfl cl1 (pog0 hg) (shg0 hg) (by decide) flX1_58 rfl rfl rfl rfl rfl (by decide) (fun z => z) rfl ?_
      refine T_aload_n (i := 0) (pc' := 45) dX1_clear_44 rfl rfl rfl ?_
      refine T_iconst (pc' := 46) dX1_clear_45 (by decide) rfl ?_
      refine U_pf (y := 0) (k := 10) (kI := 10) (pc' := 49) dX1_clear_46 rfl cl1 (pog0 hg) (shg0 hg) (by decide) flX1_61 rfl rfl rfl rfl rfl (by decide) (fun z => z) rfl ?_
      refine T_aload_n (i := 0) (pc' := 50) dX1_clear_49 rfl rfl rfl ?_
      refine T_iconst (pc' := 51) dX1_clear_50 (by decide) rfl ?_
      refine U_pf (y := 0) (k := 11) (kI := 11) (pc' := 54) dX1_clear_51 rfl cl1 (pog0 hg) (shg0 hg) (by decide) flX1_64 rfl rfl rfl rfl rfl (by decide) (fun z => z) rfl ?_
      refine T_aload_n (i := 0) (pc' := 55) dX1_clear_54 rfl rfl rfl ?_
      refine T_iconst (pc' := 56) dX1_clear_55 (by decide) rfl ?_
      refine U_pf (y := 0) (k := 12) (kI := 12) (pc' := 59) dX1_clear_56 rfl cl1 (pog0 hg) (shg0 hg) (by decide) flX1_67 rfl rfl rfl rfl rfl (by decide) (fun z => z) rfl ?_
      refine T_aload_n (i := 0) (pc' := 60) dX1_clear_59 rfl rfl rfl ?_
      refine T_iconst (pc' := 61) dX1_clear_60 (by decide) rfl ?_
      refine U_pf (y := 0) (k := 13) (kI := 13) (pc' := 64) dX1_clear_61 rfl cl1 (pog0 hg) (shg0 hg) (by decide) flX1_70 rfl rfl rfl rfl rfl (by decide) (fun z => z) rfl ?_
      refine T_aload_n (i := 0) (pc' := 65) dX1_clear_64 rfl rfl rfl ?_
      refine T_bipush (pc' := 67) dX1_clear_65 rfl (by decide) rfl ?_
      refine U_pf (y := 60) (k := 14) (kI := 14) (pc' := 70) dX1_clear_67 rfl cl1 (pog0 hg) (shg0 hg) (by decide) flX1_73 rfl rfl rfl rfl rfl (by decide) (fun z => z) rfl ?_
      refine T_aload_n (i := 0) (pc' := 71) dX1_clear_70 rfl rfl rfl ?_
      refine T_bipush (pc' := 73) dX1_clear_71 rfl (by decide) rfl ?_
      refine U_pf (y := 20) (k := 15) (kI := 15) (pc' := 76) dX1_clear_73 rfl cl1 (pog0 hg) (shg0 hg) (by decide) flX1_76 rfl rfl rfl rfl rfl (by decide) (fun z => z) rfl ?_
      refine T_aload_n (i := 0) (pc' := 77) dX1_clear_76 rfl rfl rfl ?_
      refine T_iconst (pc' := 78) dX1_clear_77 (by decide) rfl ?_
      refine U_pf (y := 1) (k := 16) (kI := 16) (pc' := 81) dX1_clear_78 rfl cl1 (pog0 hg) (shg0 hg) (by decide) flX1_79 rfl rfl rfl rfl rfl (by decide) (fun z => z) rfl ?_
      refine T_aload_n (i := 0) (pc' := 82) dX1_clear_81 rfl rfl rfl ?_
      refine T_iconst (pc' := 83) dX1_clear_82 (by decide) rfl ?_
      refine U_pf (y := 3) (k := 17) (kI := 17) (pc' := 86) dX1_clear_83 rfl cl1 (pog0 hg) (shg0 hg) (by decide) flX1_82 rfl rfl rfl rfl rfl (by decide) (fun z => z) rfl ?_
      exact T_vret dX1_clear_86 rfl ⟨rfl, (G_fld (x := g) (i := 17) (y := 3) (shg0 hg) (by decide) (by decide) (pog0 hg) (G_fld (x := g) (i := 16) (y := 1) (shg0 hg) (by decide) (by decide) (pog0 hg) (G_fld (x := g) (i := 15) (y := 20) (shg0 hg) (by decide) (by decide) (pog0 hg) (G_fld (x := g) (i := 14) (y := 60) (shg0 hg) (by decide) (by decide) (pog0 hg) (G_fld (x := g) (i := 13) (y := 0) (shg0 hg) (by decide) (by decide) (pog0 hg) (G_fld (x := g) (i := 12) (y := 0) (shg0 hg) (by decide) (by decide) (pog0 hg) (G_fld (x := g) (i := 11) (y := 0) (shg0 hg) (by decide) (by decide) (pog0 hg) (G_fld (x := g) (i := 10) (y := 0) (shg0 hg) (by decide) (by decide) (pog0 hg) (G_fld (x := g) (i := 9) (y := 0) (shg0 hg) (by decide) (by decide) (pog0 hg) hG))))))))), hQ⟩
    · exact absurd c1 (by omega)
  | succ k ih =>
    intro v1 M hv0 hk hQ hG
    have hQ : Q none (lmX1_clear_18 g k (v1 + 1) (fmX11_put M (g + 9) 54 v1 0)) := hQ
    refine T_iload_n (i := 1) (pc' := 19) dX1_clear_18 rfl rfl rfl ?_
    refine T_bipush (pc' := 21) dX1_clear_19 rfl (by decide) rfl ?_
    refine T_rng (fun _ z9 _ => ?_)
    have hB : r32 54 := (ok_cons.mp z9).1
    unfold r32 at hB
    refine T_icmp_ge (pc' := 39) dX1_clear_21 (by decide) (pf := 24) rfl (fun c1 => ?_) (fun c1 => ?_)
    · exact absurd c1 (by omega)
    · skip
      have hw : wr32 (v1 + 1) = v1 + 1 := wr32_id (by unfold r32; omega)
      refine T_aload_n (i := 0) (pc' := 25) dX1_clear_24 rfl rfl rfl ?_
      refine U_gr (q := (g + 9)) (k := 1) (kI := 1) (pc' := 28) dX1_clear_25 rfl cl1 (pog0 hg) (shg0 hg) (by decide) flX1_18 rfl rfl rfl (grg0_1 hg hG) (pog9 hg) rfl ?_
      refine T_iload_n (i := 1) (pc' := 29) dX1_clear_28 rfl rfl rfl ?_
      refine T_iconst (pc' := 30) dX1_clear_29 (by decide) rfl ?_
      refine T_callSN (av := [(2, (g + 9)), (0, v1), (0, 0)]) (st := []) (d2 := 1) (nc2 := 0) (ns2 := 0) (pc' := 33) dX1_clear_30 rfl mtX11_put mvX11_put mlX1_54 rfl rfl (Nat.le_of_ble_eq_true rfl) (by decide) ⟨by decide, by decide⟩ rfl (pX11_put (E := E) (h := h) (M := M) (p0 := (g + 9)) (np0 := 54) (v1 := v1) (v2 := 0) (pog9 hg) (shg9 hg) (by decide) hG) (kF (st2 := []) rfl (fun hG2 => ?_))
      refine T_iinc (L' := [(2, g), (0, (wr32 (v1 + 1)))]) (pc' := 36) dX1_clear_33 rfl (by decide) rfl rfl ?_
      refine T_goto (pc' := 18) dX1_clear_36 (by decide) ?_
      rw [hw]
      exact T_wk (ih (v1 + 1) _ (by omega) (by omega) hQ (gX11_put (h := h) (M := M) (p0 := (g + 9)) (np0 := 54) (v1 := v1) (v2 := 0) (pog9 hg) (shg9 hg) (by decide) hG)) ⟨Or.inr rfl, Or.inr rfl, trivial⟩
def fmX1_clear (M : Mem) (g : Int) : Mem :=
  (lmX1_clear_18 g 54 0 (mset (mset M (g + 1) 8 0) (g + 1) 7 0))
theorem frX1_clear {M : Mem} {g : Int} {q : Int} (hq0 : q ≠ (g + 1)) (hq1 : q ≠ g) (hq2 : q ≠ (g + 9)) : (fmX1_clear M g) q = M q := by
  unfold fmX1_clear
  exact ((frlX1_clear_18 hq1 hq2).trans ((mset_p hq0).trans ((mset_p hq0).trans rfl)))
theorem gX1_clear {h : Int} {M : Mem} {g : Int} (hg : isG g) (hG : G h M) : G h (fmX1_clear M g) := by
  unfold fmX1_clear
  exact (glX1_clear_18 hg (G_fld (x := (g + 1)) (i := 7) (y := 0) (shg1 hg) (by decide) (by decide) (pog1 hg) (G_fld (x := (g + 1)) (i := 8) (y := 0) (shg1 hg) (by decide) (by decide) (pog1 hg) hG)))
set_option maxRecDepth 100000 in
theorem pX1_clear {E : EV} {h : Int} {M : Mem} {g : Int} (hg : isG g) : C2 E miX1_clear 2 h [(2, g)] M (fun r M' => r = none ∧ M' = (fmX1_clear M g)) := by
  obtain ⟨Q, hQ0⟩ : ∃ Q : Option MV → Mem → Prop, Q = (fun r M' => r = none ∧ M' = (fmX1_clear M g)) := ⟨_, rfl⟩
  rw [← hQ0]
  have hQ : Q none (lmX1_clear_18 g 54 0 (mset (mset M (g + 1) 8 0) (g + 1) 7 0)) := by rw [hQ0]; exact ⟨rfl, rfl⟩
  refine C2_of (L := [(2, g), (3, 0)]) (by decide +kernel) (Nat.le_of_ble_eq_true rfl) rfl (fun hG => ?_)
  refine T_aload_n (i := 0) (pc' := 1) dX1_clear_0 rfl rfl rfl ?_
  refine U_gr (q := (g + 1)) (k := 0) (kI := 0) (pc' := 4) dX1_clear_1 rfl cl1 (pog0 hg) (shg0 hg) (by decide) flX1_12 rfl rfl rfl (grg0_0 hg hG) (pog1 hg) rfl ?_
  refine T_iconst (pc' := 5) dX1_clear_4 (by decide) rfl ?_
  refine U_pfN (y := 0) (k := 8) (kI := 8) (pc' := 8) dX1_clear_5 rfl cl4 (pog1 hg) (shg1 hg) (by decide) flX1_47 rfl rfl rfl rfl rfl (by decide) (fun z => z) rfl ?_
  refine T_aload_n (i := 0) (pc' := 9) dX1_clear_8 rfl rfl rfl ?_
  refine U_gr (q := (g + 1)) (k := 0) (kI := 0) (pc' := 12) dX1_clear_9 rfl cl1 (pog0 hg) (shg0 hg) (by decide) flX1_12 rfl rfl rfl (grg0_0 hg (G_fld (x := (g + 1)) (i := 8) (y := 0) (shg1 hg) (by decide) (by decide) (pog1 hg) hG)) (pog1 hg) rfl ?_
  refine T_iconst (pc' := 13) dX1_clear_12 (by decide) rfl ?_
  refine U_pfN (y := 0) (k := 7) (kI := 7) (pc' := 16) dX1_clear_13 rfl cl4 (pog1 hg) (shg1 hg) (by decide) flX1_51 rfl rfl rfl rfl rfl (by decide) (fun z => z) rfl ?_
  refine T_iconst (pc' := 17) dX1_clear_16 (by decide) rfl ?_
  refine T_istore_n (i := 1) (L' := [(2, g), (0, 0)]) (pc' := 18) dX1_clear_17 rfl (by decide) rfl rfl ?_
  exact T_wk (qX1_clear_18 hg 54 0 _ (by first | decide | omega) rfl hQ (G_fld (x := (g + 1)) (i := 7) (y := 0) (shg1 hg) (by decide) (by decide) (pog1 hg) (G_fld (x := (g + 1)) (i := 8) (y := 0) (shg1 hg) (by decide) (by decide) (pog1 hg) hG))) ⟨Or.inr rfl, Or.inr rfl, trivial⟩
def fX1_isTold (M : Mem) (g : Int) : Int :=
  (if (M g 9) ≤ 0 then (0 : Int) else 1)
set_option maxRecDepth 100000 in
theorem pX1_isTold {E : EV} {h : Int} {M : Mem} {g : Int} (hg : isG g) : C2 E miX1_isTold 1 h [(2, g)] M (fun r M' => r = some (0, (fX1_isTold M g)) ∧ M' = M) := by
  obtain ⟨Q, hQ⟩ : ∃ Q : Option MV → Mem → Prop, Q = (fun r M' => r = some (0, (fX1_isTold M g)) ∧ M' = M) := ⟨_, rfl⟩
  rw [← hQ]
  refine C2_of (L := [(2, g)]) (by decide +kernel) (Nat.le_of_ble_eq_true rfl) rfl (fun hG => ?_)
  refine T_aload_n (i := 0) (pc' := 1) dX1_isTold_0 rfl rfl rfl ?_
  refine U_gf (v := (0, (M g 9))) (k := 9) (kI := 9) (pc' := 4) dX1_isTold_1 rfl cl1 (pog0 hg) (shg0 hg) (by decide) flX1_58 rfl rfl (by decide) rfl rfl ?_
  have HJ1 : T E miX1_isTold 1 126 0 0 (fun r S M' => S = S0 ∧ G h M' ∧ Q r M') 12 [(3, 0)] [(0, (if (M g 9) ≤ 0 then (0 : Int) else 1))] S0 M 0 0 := by
    exact T_zret dX1_isTold_12 rfl (by repeat' (first | apply bi | exact Or.inl rfl | exact Or.inr rfl)) ⟨rfl, hG, (by rw [hQ]; exact ⟨rfl, rfl⟩)⟩
  refine T_if_le (pc' := 11) dX1_isTold_4 (by decide) (pf := 7) rfl (fun c2 => ?_) (fun c2 => ?_)
  · skip
    refine T_iconst (pc' := 12) dX1_isTold_11 (by decide) rfl ?_
    exact T_wk (L' := [(3, 0)]) (by have q := HJ1; try simp only [if_pos c2] at q; exact q) ⟨Or.inl rfl, trivial⟩
  · skip
    refine T_iconst (pc' := 8) dX1_isTold_7 (by decide) rfl ?_
    refine T_goto (pc' := 12) dX1_isTold_8 (by decide) ?_
    exact T_wk (L' := [(3, 0)]) (by have q := HJ1; try simp only [if_neg c2] at q; exact q) ⟨Or.inl rfl, trivial⟩
theorem fbX1_isTold (M : Mem) (g : Int) : (fX1_isTold M g) = 0 ∨ (fX1_isTold M g) = 1 := by
  unfold fX1_isTold
  repeat' (first | apply bi | exact Or.inl rfl | exact Or.inr rfl)
def fX1_cells (M : Mem) (g : Int) : Int :=
  (wr32 ((M g 9) * (M g 10)))
set_option maxRecDepth 100000 in
theorem pX1_cells {E : EV} {h : Int} {M : Mem} {g : Int} (hg : isG g) : C2 E miX1_cells 1 h [(2, g)] M (fun r M' => r = some (0, (fX1_cells M g)) ∧ M' = M) := by
  obtain ⟨Q, hQ⟩ : ∃ Q : Option MV → Mem → Prop, Q = (fun r M' => r = some (0, (fX1_cells M g)) ∧ M' = M) := ⟨_, rfl⟩
  rw [← hQ]
  refine C2_of (L := [(2, g)]) (by decide +kernel) (Nat.le_of_ble_eq_true rfl) rfl (fun hG => ?_)
  refine T_aload_n (i := 0) (pc' := 1) dX1_cells_0 rfl rfl rfl ?_
  refine U_gf (v := (0, (M g 9))) (k := 9) (kI := 9) (pc' := 4) dX1_cells_1 rfl cl1 (pog0 hg) (shg0 hg) (by decide) flX1_58 rfl rfl (by decide) rfl rfl ?_
  refine T_aload_n (i := 0) (pc' := 5) dX1_cells_4 rfl rfl rfl ?_
  refine U_gf (v := (0, (M g 10))) (k := 10) (kI := 10) (pc' := 8) dX1_cells_5 rfl cl1 (pog0 hg) (shg0 hg) (by decide) flX1_61 rfl rfl (by decide) rfl rfl ?_
  refine T_imul (pc' := 9) dX1_cells_8 rfl ?_
  exact T_iret dX1_cells_9 rfl ⟨rfl, hG, (by rw [hQ]; exact ⟨rfl, rfl⟩)⟩
def fX1_isFree (M : Mem) (g : Int) (v1 : Int) : Int :=
  (if v1 < 0 then (0 : Int) else (if (fX1_cells M g) ≤ v1 then (0 : Int) else (if (fX11_get M (g + 9) 54 v1) = 0 then (1 : Int) else 0)))
set_option maxRecDepth 100000 in
theorem pX1_isFree {E : EV} {h : Int} {M : Mem} {g : Int} {v1 : Int} (hg : isG g) : C2 E miX1_isFree 2 h [(2, g), (0, v1)] M (fun r M' => r = some (0, (fX1_isFree M g v1)) ∧ M' = M) := by
  obtain ⟨Q, hQ⟩ : ∃ Q : Option MV → Mem → Prop, Q = (fun r M' => r = some (0, (fX1_isFree M g v1)) ∧ M' = M) := ⟨_, rfl⟩
  rw [← hQ]
  refine C2_of (L := [(2, g), (0, v1)]) (by decide +kernel) (Nat.le_of_ble_eq_true rfl) rfl (fun hG => ?_)
  refine T_iload_n (i := 1) (pc' := 1) dX1_isFree_0 rfl rfl rfl ?_
  have HJ1 : T E miX1_isFree 2 126 0 0 (fun r S M' => S = S0 ∧ G h M' ∧ Q r M') 28 [(3, 0), (3, 0)] [(0, (if v1 < 0 then (0 : Int) else (if (fX1_cells M g) ≤ v1 then (0 : Int) else (if (fX11_get M (g + 9) 54 v1) = 0 then (1 : Int) else 0))))] S0 M 0 0 := by
    exact T_zret dX1_isFree_28 rfl (by repeat' (first | apply bi | exact Or.inl rfl | exact Or.inr rfl)) ⟨rfl, hG, (by rw [hQ]; exact ⟨rfl, rfl⟩)⟩
  refine T_if_lt (pc' := 27) dX1_isFree_1 (by decide) (pf := 4) rfl (fun c2 => ?_) (fun c2 => ?_)
  · skip
    refine T_iconst (pc' := 28) dX1_isFree_27 (by decide) rfl ?_
    exact T_wk (L' := [(3, 0), (3, 0)]) (by have q := HJ1; try simp only [if_pos c2] at q; exact q) ⟨Or.inl rfl, Or.inl rfl, trivial⟩
  · skip
    refine T_iload_n (i := 1) (pc' := 5) dX1_isFree_4 rfl rfl rfl ?_
    refine T_aload_n (i := 0) (pc' := 6) dX1_isFree_5 rfl rfl rfl ?_
    refine T_callV (av := []) (st := [(0, v1)]) (d2 := 1) (nc2 := 0) (ns2 := 0) (pc' := 9) dX1_isFree_6 rfl mtX1_cells mvX1_cells mlX1_85 cl1 (shg0 hg) rfl rfl (Nat.le_of_ble_eq_true rfl) (by decide) ⟨by decide, by decide⟩ rfl (pX1_cells (E := E) (h := h) (M := M) (g := g) hg hG) (kF (st2 := [(0, (fX1_cells M g)), (0, v1)]) rfl (fun hG3 => ?_))
    refine T_icmp_ge (pc' := 27) dX1_isFree_9 (by decide) (pf := 12) rfl (fun c4 => ?_) (fun c4 => ?_)
    · skip
      refine T_iconst (pc' := 28) dX1_isFree_27 (by decide) rfl ?_
      exact T_wk (L' := [(3, 0), (3, 0)]) (by have q := HJ1; try simp only [if_neg c2] at q; try simp only [if_pos c4] at q; exact q) ⟨Or.inl rfl, Or.inl rfl, trivial⟩
    · skip
      refine T_aload_n (i := 0) (pc' := 13) dX1_isFree_12 rfl rfl rfl ?_
      refine U_gr (q := (g + 9)) (k := 1) (kI := 1) (pc' := 16) dX1_isFree_13 rfl cl1 (pog0 hg) (shg0 hg) (by decide) flX1_18 rfl rfl rfl (grg0_1 hg hG) (pog9 hg) rfl ?_
      refine T_iload_n (i := 1) (pc' := 17) dX1_isFree_16 rfl rfl rfl ?_
      refine T_callSN (av := [(2, (g + 9)), (0, v1)]) (st := []) (d2 := 1) (nc2 := 0) (ns2 := 0) (pc' := 20) dX1_isFree_17 rfl mtX11_get mvX11_get mlX1_89 rfl rfl (Nat.le_of_ble_eq_true rfl) (by decide) ⟨by decide, by decide⟩ rfl (pX11_get (E := E) (h := h) (M := M) (p0 := (g + 9)) (np0 := 54) (v1 := v1) (pog9 hg) (shg9 hg) (by decide) hG) (kF (st2 := [(0, (fX11_get M (g + 9) 54 v1))]) rfl (fun hG5 => ?_))
      refine T_if_ne (pc' := 27) dX1_isFree_20 (by decide) (pf := 23) rfl (fun c6 => ?_) (fun c6 => ?_)
      · skip
        refine T_iconst (pc' := 28) dX1_isFree_27 (by decide) rfl ?_
        exact T_wk (L' := [(3, 0), (3, 0)]) (by have q := HJ1; try simp only [if_neg c2] at q; try simp only [if_neg c4] at q; try simp only [if_neg c6] at q; exact q) ⟨Or.inl rfl, Or.inl rfl, trivial⟩
      · skip
        refine T_iconst (pc' := 24) dX1_isFree_23 (by decide) rfl ?_
        refine T_goto (pc' := 28) dX1_isFree_24 (by decide) ?_
        exact T_wk (L' := [(3, 0), (3, 0)]) (by have q := HJ1; try simp only [if_neg c2] at q; try simp only [if_neg c4] at q; try simp only [if_pos c6] at q; exact q) ⟨Or.inl rfl, Or.inl rfl, trivial⟩
theorem fbX1_isFree (M : Mem) (g : Int) (v1 : Int) : (fX1_isFree M g v1) = 0 ∨ (fX1_isFree M g v1) = 1 := by
  unfold fX1_isFree
  repeat' (first | apply bi | exact Or.inl rfl | exact Or.inr rfl)
def fX1_hasGuard (M : Mem) (g : Int) (v1 : Int) : Int :=
  (if v1 < 0 then (0 : Int) else (if (M g 13) ≤ v1 then (0 : Int) else 1))
set_option maxRecDepth 100000 in
theorem pX1_hasGuard {E : EV} {h : Int} {M : Mem} {g : Int} {v1 : Int} (hg : isG g) : C2 E miX1_hasGuard 1 h [(2, g), (0, v1)] M (fun r M' => r = some (0, (fX1_hasGuard M g v1)) ∧ M' = M) := by
  obtain ⟨Q, hQ⟩ : ∃ Q : Option MV → Mem → Prop, Q = (fun r M' => r = some (0, (fX1_hasGuard M g v1)) ∧ M' = M) := ⟨_, rfl⟩
  rw [← hQ]
  refine C2_of (L := [(2, g), (0, v1)]) (by decide +kernel) (Nat.le_of_ble_eq_true rfl) rfl (fun hG => ?_)
  refine T_iload_n (i := 1) (pc' := 1) dX1_hasGuard_0 rfl rfl rfl ?_
  have HJ1 : T E miX1_hasGuard 1 126 0 0 (fun r S M' => S = S0 ∧ G h M' ∧ Q r M') 17 [(3, 0), (3, 0)] [(0, (if v1 < 0 then (0 : Int) else (if (M g 13) ≤ v1 then (0 : Int) else 1)))] S0 M 0 0 := by
    exact T_zret dX1_hasGuard_17 rfl (by repeat' (first | apply bi | exact Or.inl rfl | exact Or.inr rfl)) ⟨rfl, hG, (by rw [hQ]; exact ⟨rfl, rfl⟩)⟩
  refine T_if_lt (pc' := 16) dX1_hasGuard_1 (by decide) (pf := 4) rfl (fun c2 => ?_) (fun c2 => ?_)
  · skip
    refine T_iconst (pc' := 17) dX1_hasGuard_16 (by decide) rfl ?_
    exact T_wk (L' := [(3, 0), (3, 0)]) (by have q := HJ1; try simp only [if_pos c2] at q; exact q) ⟨Or.inl rfl, Or.inl rfl, trivial⟩
  · skip
    refine T_iload_n (i := 1) (pc' := 5) dX1_hasGuard_4 rfl rfl rfl ?_
    refine T_aload_n (i := 0) (pc' := 6) dX1_hasGuard_5 rfl rfl rfl ?_
    refine U_gf (v := (0, (M g 13))) (k := 13) (kI := 13) (pc' := 9) dX1_hasGuard_6 rfl cl1 (pog0 hg) (shg0 hg) (by decide) flX1_70 rfl rfl (by decide) rfl rfl ?_
    refine T_icmp_ge (pc' := 16) dX1_hasGuard_9 (by decide) (pf := 12) rfl (fun c3 => ?_) (fun c3 => ?_)
    · skip
      refine T_iconst (pc' := 17) dX1_hasGuard_16 (by decide) rfl ?_
      exact T_wk (L' := [(3, 0), (3, 0)]) (by have q := HJ1; try simp only [if_neg c2] at q; try simp only [if_pos c3] at q; exact q) ⟨Or.inl rfl, Or.inl rfl, trivial⟩
    · skip
      refine T_iconst (pc' := 13) dX1_hasGuard_12 (by decide) rfl ?_
      refine T_goto (pc' := 17) dX1_hasGuard_13 (by decide) ?_
      exact T_wk (L' := [(3, 0), (3, 0)]) (by have q := HJ1; try simp only [if_neg c2] at q; try simp only [if_neg c3] at q; exact q) ⟨Or.inl rfl, Or.inl rfl, trivial⟩
theorem fbX1_hasGuard (M : Mem) (g : Int) (v1 : Int) : (fX1_hasGuard M g v1) = 0 ∨ (fX1_hasGuard M g v1) = 1 := by
  unfold fX1_hasGuard
  repeat' (first | apply bi | exact Or.inl rfl | exact Or.inr rfl)
def fX1_hasDoor (M : Mem) (g : Int) (v1 : Int) : Int :=
  (if v1 < 0 then (0 : Int) else (if (M g 12) ≤ v1 then (0 : Int) else 1))
set_option maxRecDepth 100000 in
theorem pX1_hasDoor {E : EV} {h : Int} {M : Mem} {g : Int} {v1 : Int} (hg : isG g) : C2 E miX1_hasDoor 1 h [(2, g), (0, v1)] M (fun r M' => r = some (0, (fX1_hasDoor M g v1)) ∧ M' = M) := by
  obtain ⟨Q, hQ⟩ : ∃ Q : Option MV → Mem → Prop, Q = (fun r M' => r = some (0, (fX1_hasDoor M g v1)) ∧ M' = M) := ⟨_, rfl⟩
  rw [← hQ]
  refine C2_of (L := [(2, g), (0, v1)]) (by decide +kernel) (Nat.le_of_ble_eq_true rfl) rfl (fun hG => ?_)
  refine T_iload_n (i := 1) (pc' := 1) dX1_hasDoor_0 rfl rfl rfl ?_
  have HJ1 : T E miX1_hasDoor 1 126 0 0 (fun r S M' => S = S0 ∧ G h M' ∧ Q r M') 17 [(3, 0), (3, 0)] [(0, (if v1 < 0 then (0 : Int) else (if (M g 12) ≤ v1 then (0 : Int) else 1)))] S0 M 0 0 := by
    exact T_zret dX1_hasDoor_17 rfl (by repeat' (first | apply bi | exact Or.inl rfl | exact Or.inr rfl)) ⟨rfl, hG, (by rw [hQ]; exact ⟨rfl, rfl⟩)⟩
  refine T_if_lt (pc' := 16) dX1_hasDoor_1 (by decide) (pf := 4) rfl (fun c2 => ?_) (fun c2 => ?_)
  · skip
    refine T_iconst (pc' := 17) dX1_hasDoor_16 (by decide) rfl ?_
    exact T_wk (L' := [(3, 0), (3, 0)]) (by have q := HJ1; try simp only [if_pos c2] at q; exact q) ⟨Or.inl rfl, Or.inl rfl, trivial⟩
  · skip
    refine T_iload_n (i := 1) (pc' := 5) dX1_hasDoor_4 rfl rfl rfl ?_
    refine T_aload_n (i := 0) (pc' := 6) dX1_hasDoor_5 rfl rfl rfl ?_
    refine U_gf (v := (0, (M g 12))) (k := 12) (kI := 12) (pc' := 9) dX1_hasDoor_6 rfl cl1 (pog0 hg) (shg0 hg) (by decide) flX1_67 rfl rfl (by decide) rfl rfl ?_
    refine T_icmp_ge (pc' := 16) dX1_hasDoor_9 (by decide) (pf := 12) rfl (fun c3 => ?_) (fun c3 => ?_)
    · skip
      refine T_iconst (pc' := 17) dX1_hasDoor_16 (by decide) rfl ?_
      exact T_wk (L' := [(3, 0), (3, 0)]) (by have q := HJ1; try simp only [if_neg c2] at q; try simp only [if_pos c3] at q; exact q) ⟨Or.inl rfl, Or.inl rfl, trivial⟩
    · skip
      refine T_iconst (pc' := 13) dX1_hasDoor_12 (by decide) rfl ?_
      refine T_goto (pc' := 17) dX1_hasDoor_13 (by decide) ?_
      exact T_wk (L' := [(3, 0), (3, 0)]) (by have q := HJ1; try simp only [if_neg c2] at q; try simp only [if_neg c3] at q; exact q) ⟨Or.inl rfl, Or.inl rfl, trivial⟩
theorem fbX1_hasDoor (M : Mem) (g : Int) (v1 : Int) : (fX1_hasDoor M g v1) = 0 ∨ (fX1_hasDoor M g v1) = 1 := by
  unfold fX1_hasDoor
  repeat' (first | apply bi | exact Or.inl rfl | exact Or.inr rfl)
def lX1_wallCells_4 (g : Int) : Nat → Int → Int → Mem → Int
  | 0, v1, v2, M => v1
  | k + 1, v1, v2, M => (lX1_wallCells_4 g k (wr32 (v1 + (fX11_get M (g + 9) 54 v2))) (v2 + 1) M)
set_option maxRecDepth 100000 in
set_option maxHeartbeats 2000000 in
theorem qX1_wallCells_4 {E : EV} {h : Int} {Q : Option MV → Mem → Prop} {g : Int} (hg : isG g) : ∀ (k : Nat) (v1 v2 : Int) (M : Mem), 0 ≤ v2 → (((fX1_cells M g)) - v2).toNat = k → Q (some (0, (lX1_wallCells_4 g k v1 v2 M))) M → G h M → TG E miX1_wallCells 2 h Q 4 [(2, g), (0, v1), (0, v2)] [] M := by
  intro k
  induction k with
  | zero =>
    intro v1 v2 M hv0 hk hQ hG
    have hQ : Q (some (0, v1)) M := hQ
    refine T_iload_n (i := 2) (pc' := 5) dX1_wallCells_4 rfl rfl rfl ?_
    refine T_aload_n (i := 0) (pc' := 6) dX1_wallCells_5 rfl rfl rfl ?_
    refine T_callV (av := []) (st := [(0, v2)]) (d2 := 1) (nc2 := 0) (ns2 := 0) (pc' := 9) dX1_wallCells_6 rfl mtX1_cells mvX1_cells mlX1_85 cl1 (shg0 hg) rfl rfl (Nat.le_of_ble_eq_true rfl) (by decide) ⟨by decide, by decide⟩ rfl (pX1_cells (E := E) (h := h) (M := M) (g := g) hg hG) (kF (st2 := [(0, (fX1_cells M g)), (0, v2)]) rfl (fun hG1 => ?_))
    refine T_rng (fun _ z9 _ => ?_)
    have hB : r32 (fX1_cells M g) := (ok_cons.mp z9).1
    unfold r32 at hB
    refine T_icmp_ge (pc' := 29) dX1_wallCells_9 (by decide) (pf := 12) rfl (fun c2 => ?_) (fun c2 => ?_)
    · skip
      refine T_iload_n (i := 1) (pc' := 30) dX1_wallCells_29 rfl rfl rfl ?_
      exact T_iret dX1_wallCells_30 rfl ⟨rfl, hG, hQ⟩
    · exact absurd c2 (by omega)
  | succ k ih =>
    intro v1 v2 M hv0 hk hQ hG
    have hQ : Q (some (0, (lX1_wallCells_4 g k (wr32 (v1 + (fX11_get M (g + 9) 54 v2))) (v2 + 1) M))) M := hQ
    refine T_iload_n (i := 2) (pc' := 5) dX1_wallCells_4 rfl rfl rfl ?_
    refine T_aload_n (i := 0) (pc' := 6) dX1_wallCells_5 rfl rfl rfl ?_
    refine T_callV (av := []) (st := [(0, v2)]) (d2 := 1) (nc2 := 0) (ns2 := 0) (pc' := 9) dX1_wallCells_6 rfl mtX1_cells mvX1_cells mlX1_85 cl1 (shg0 hg) rfl rfl (Nat.le_of_ble_eq_true rfl) (by decide) ⟨by decide, by decide⟩ rfl (pX1_cells (E := E) (h := h) (M := M) (g := g) hg hG) (kF (st2 := [(0, (fX1_cells M g)), (0, v2)]) rfl (fun hG1 => ?_))
    refine T_rng (fun _ z9 _ => ?_)
    have hB : r32 (fX1_cells M g) := (ok_cons.mp z9).1
    unfold r32 at hB
    refine T_icmp_ge (pc' := 29) dX1_wallCells_9 (by decide) (pf := 12) rfl (fun c2 => ?_) (fun c2 => ?_)
    · exact absurd c2 (by omega)
    · skip
      have hw : wr32 (v2 + 1) = v2 + 1 := wr32_id (by unfold r32; omega)
      refine T_iload_n (i := 1) (pc' := 13) dX1_wallCells_12 rfl rfl rfl ?_
      refine T_aload_n (i := 0) (pc' := 14) dX1_wallCells_13 rfl rfl rfl ?_
      refine U_gr (q := (g + 9)) (k := 1) (kI := 1) (pc' := 17) dX1_wallCells_14 rfl cl1 (pog0 hg) (shg0 hg) (by decide) flX1_18 rfl rfl rfl (grg0_1 hg hG) (pog9 hg) rfl ?_
      refine T_iload_n (i := 2) (pc' := 18) dX1_wallCells_17 rfl rfl rfl ?_
      refine T_callSN (av := [(2, (g + 9)), (0, v2)]) (st := [(0, v1)]) (d2 := 1) (nc2 := 0) (ns2 := 0) (pc' := 21) dX1_wallCells_18 rfl mtX11_get mvX11_get mlX1_89 rfl rfl (Nat.le_of_ble_eq_true rfl) (by decide) ⟨by decide, by decide⟩ rfl (pX11_get (E := E) (h := h) (M := M) (p0 := (g + 9)) (np0 := 54) (v1 := v2) (pog9 hg) (shg9 hg) (by decide) hG) (kF (st2 := [(0, (fX11_get M (g + 9) 54 v2)), (0, v1)]) rfl (fun hG3 => ?_))
      refine T_iadd (pc' := 22) dX1_wallCells_21 rfl ?_
      refine T_istore_n (i := 1) (L' := [(2, g), (0, (wr32 (v1 + (fX11_get M (g + 9) 54 v2)))), (0, v2)]) (pc' := 23) dX1_wallCells_22 rfl (by decide) rfl rfl ?_
      refine T_iinc (L' := [(2, g), (0, (wr32 (v1 + (fX11_get M (g + 9) 54 v2)))), (0, (wr32 (v2 + 1)))]) (pc' := 26) dX1_wallCells_23 rfl (by decide) rfl rfl ?_
      refine T_goto (pc' := 4) dX1_wallCells_26 (by decide) ?_
      rw [hw]
      exact T_wk (ih _ (v2 + 1) _ (by omega) (by omega) hQ hG) ⟨Or.inr rfl, Or.inr rfl, Or.inr rfl, trivial⟩
def fX1_wallCells (M : Mem) (g : Int) : Int :=
  (lX1_wallCells_4 g ((((fX1_cells M g)) : Int) - 0).toNat 0 0 M)
set_option maxRecDepth 100000 in
theorem pX1_wallCells {E : EV} {h : Int} {M : Mem} {g : Int} (hg : isG g) : C2 E miX1_wallCells 2 h [(2, g)] M (fun r M' => r = some (0, (fX1_wallCells M g)) ∧ M' = M) := by
  obtain ⟨Q, hQ0⟩ : ∃ Q : Option MV → Mem → Prop, Q = (fun r M' => r = some (0, (fX1_wallCells M g)) ∧ M' = M) := ⟨_, rfl⟩
  rw [← hQ0]
  have hQ : Q (some (0, (lX1_wallCells_4 g ((((fX1_cells M g)) : Int) - 0).toNat 0 0 M))) M := by rw [hQ0]; exact ⟨rfl, rfl⟩
  refine C2_of (L := [(2, g), (3, 0), (3, 0)]) (by decide +kernel) (Nat.le_of_ble_eq_true rfl) rfl (fun hG => ?_)
  refine T_iconst (pc' := 1) dX1_wallCells_0 (by decide) rfl ?_
  refine T_istore_n (i := 1) (L' := [(2, g), (0, 0), (3, 0)]) (pc' := 2) dX1_wallCells_1 rfl (by decide) rfl rfl ?_
  refine T_iconst (pc' := 3) dX1_wallCells_2 (by decide) rfl ?_
  refine T_istore_n (i := 2) (L' := [(2, g), (0, 0), (0, 0)]) (pc' := 4) dX1_wallCells_3 rfl (by decide) rfl rfl ?_
  exact T_wk (qX1_wallCells_4 hg _ 0 0 _ (by first | decide | omega) rfl hQ hG) ⟨Or.inr rfl, Or.inr rfl, Or.inr rfl, trivial⟩
def lX1_closedDoors_4 (g : Int) : Nat → Int → Int → Mem → Int
  | 0, v1, v2, M => v1
  | k + 1, v1, v2, M => (lX1_closedDoors_4 g k (wr32 (v1 + (fX11_get M (g + 11) 6 v2))) (v2 + 1) M)
set_option maxRecDepth 100000 in
set_option maxHeartbeats 2000000 in
theorem qX1_closedDoors_4 {E : EV} {h : Int} {Q : Option MV → Mem → Prop} {g : Int} (hg : isG g) : ∀ (k : Nat) (v1 v2 : Int) (M : Mem), 0 ≤ v2 → (((M g 12)) - v2).toNat = k → Q (some (0, (lX1_closedDoors_4 g k v1 v2 M))) M → G h M → TG E miX1_closedDoors 2 h Q 4 [(2, g), (0, v1), (0, v2)] [] M := by
  intro k
  induction k with
  | zero =>
    intro v1 v2 M hv0 hk hQ hG
    have hQ : Q (some (0, v1)) M := hQ
    refine T_iload_n (i := 2) (pc' := 5) dX1_closedDoors_4 rfl rfl rfl ?_
    refine T_aload_n (i := 0) (pc' := 6) dX1_closedDoors_5 rfl rfl rfl ?_
    refine U_gf (v := (0, (M g 12))) (k := 12) (kI := 12) (pc' := 9) dX1_closedDoors_6 rfl cl1 (pog0 hg) (shg0 hg) (by decide) flX1_67 rfl rfl (by decide) rfl rfl ?_
    refine T_rng (fun _ z9 _ => ?_)
    have hB : r32 (M g 12) := (ok_cons.mp z9).1
    unfold r32 at hB
    refine T_icmp_ge (pc' := 29) dX1_closedDoors_9 (by decide) (pf := 12) rfl (fun c1 => ?_) (fun c1 => ?_)
    · skip
      refine T_iload_n (i := 1) (pc' := 30) dX1_closedDoors_29 rfl rfl rfl ?_
      exact T_iret dX1_closedDoors_30 rfl ⟨rfl, hG, hQ⟩
    · exact absurd c1 (by omega)
  | succ k ih =>
    intro v1 v2 M hv0 hk hQ hG
    have hQ : Q (some (0, (lX1_closedDoors_4 g k (wr32 (v1 + (fX11_get M (g + 11) 6 v2))) (v2 + 1) M))) M := hQ
    refine T_iload_n (i := 2) (pc' := 5) dX1_closedDoors_4 rfl rfl rfl ?_
    refine T_aload_n (i := 0) (pc' := 6) dX1_closedDoors_5 rfl rfl rfl ?_
    refine U_gf (v := (0, (M g 12))) (k := 12) (kI := 12) (pc' := 9) dX1_closedDoors_6 rfl cl1 (pog0 hg) (shg0 hg) (by decide) flX1_67 rfl rfl (by decide) rfl rfl ?_
    refine T_rng (fun _ z9 _ => ?_)
    have hB : r32 (M g 12) := (ok_cons.mp z9).1
    unfold r32 at hB
    refine T_icmp_ge (pc' := 29) dX1_closedDoors_9 (by decide) (pf := 12) rfl (fun c1 => ?_) (fun c1 => ?_)
    · exact absurd c1 (by omega)
    · skip
      have hw : wr32 (v2 + 1) = v2 + 1 := wr32_id (by unfold r32; omega)
      refine T_iload_n (i := 1) (pc' := 13) dX1_closedDoors_12 rfl rfl rfl ?_
      refine T_aload_n (i := 0) (pc' := 14) dX1_closedDoors_13 rfl rfl rfl ?_
      refine U_gr (q := (g + 11)) (k := 3) (kI := 3) (pc' := 17) dX1_closedDoors_14 rfl cl1 (pog0 hg) (shg0 hg) (by decide) flX1_25 rfl rfl rfl (grg0_3 hg hG) (pog11 hg) rfl ?_
      refine T_iload_n (i := 2) (pc' := 18) dX1_closedDoors_17 rfl rfl rfl ?_
      refine T_callSN (av := [(2, (g + 11)), (0, v2)]) (st := [(0, v1)]) (d2 := 1) (nc2 := 0) (ns2 := 0) (pc' := 21) dX1_closedDoors_18 rfl mtX11_get mvX11_get mlX1_89 rfl rfl (Nat.le_of_ble_eq_true rfl) (by decide) ⟨by decide, by decide⟩ rfl (pX11_get (E := E) (h := h) (M := M) (p0 := (g + 11)) (np0 := 6) (v1 := v2) (pog11 hg) (shg11 hg) (by decide) hG) (kF (st2 := [(0, (fX11_get M (g + 11) 6 v2)), (0, v1)]) rfl (fun hG2 => ?_))
      refine T_iadd (pc' := 22) dX1_closedDoors_21 rfl ?_
      refine T_istore_n (i := 1) (L' := [(2, g), (0, (wr32 (v1 + (fX11_get M (g + 11) 6 v2)))), (0, v2)]) (pc' := 23) dX1_closedDoors_22 rfl (by decide) rfl rfl ?_
      refine T_iinc (L' := [(2, g), (0, (wr32 (v1 + (fX11_get M (g + 11) 6 v2)))), (0, (wr32 (v2 + 1)))]) (pc' := 26) dX1_closedDoors_23 rfl (by decide) rfl rfl ?_
      refine T_goto (pc' := 4) dX1_closedDoors_26 (by decide) ?_
      rw [hw]
      exact T_wk (ih _ (v2 + 1) _ (by omega) (by omega) hQ hG) ⟨Or.inr rfl, Or.inr rfl, Or.inr rfl, trivial⟩
def fX1_closedDoors (M : Mem) (g : Int) : Int :=
  (lX1_closedDoors_4 g ((((M g 12)) : Int) - 0).toNat 0 0 M)
set_option maxRecDepth 100000 in
theorem pX1_closedDoors {E : EV} {h : Int} {M : Mem} {g : Int} (hg : isG g) : C2 E miX1_closedDoors 2 h [(2, g)] M (fun r M' => r = some (0, (fX1_closedDoors M g)) ∧ M' = M) := by
  obtain ⟨Q, hQ0⟩ : ∃ Q : Option MV → Mem → Prop, Q = (fun r M' => r = some (0, (fX1_closedDoors M g)) ∧ M' = M) := ⟨_, rfl⟩
  rw [← hQ0]
  have hQ : Q (some (0, (lX1_closedDoors_4 g ((((M g 12)) : Int) - 0).toNat 0 0 M))) M := by rw [hQ0]; exact ⟨rfl, rfl⟩
  refine C2_of (L := [(2, g), (3, 0), (3, 0)]) (by decide +kernel) (Nat.le_of_ble_eq_true rfl) rfl (fun hG => ?_)
  refine T_iconst (pc' := 1) dX1_closedDoors_0 (by decide) rfl ?_
  refine T_istore_n (i := 1) (L' := [(2, g), (0, 0), (3, 0)]) (pc' := 2) dX1_closedDoors_1 rfl (by decide) rfl rfl ?_
  refine T_iconst (pc' := 3) dX1_closedDoors_2 (by decide) rfl ?_
  refine T_istore_n (i := 2) (L' := [(2, g), (0, 0), (0, 0)]) (pc' := 4) dX1_closedDoors_3 rfl (by decide) rfl rfl ?_
  exact T_wk (qX1_closedDoors_4 hg _ 0 0 _ (by first | decide | omega) rfl hQ hG) ⟨Or.inr rfl, Or.inr rfl, Or.inr rfl, trivial⟩
def lX1_doorIn_2 (g : Int) : Nat → Int → Int → Mem → Int
  | 0, v1, v2, M => (-1)
  | k + 1, v1, v2, M => (if (fX11_get M (g + 10) 6 v2) = v1 then v2 else (lX1_doorIn_2 g k v1 (v2 + 1) M))
set_option maxRecDepth 100000 in
set_option maxHeartbeats 2000000 in
theorem qX1_doorIn_2 {E : EV} {h : Int} {Q : Option MV → Mem → Prop} {g : Int} (hg : isG g) : ∀ (k : Nat) (v1 v2 : Int) (M : Mem), 0 ≤ v2 → (((M g 12)) - v2).toNat = k → Q (some (0, (lX1_doorIn_2 g k v1 v2 M))) M → G h M → TG E miX1_doorIn 2 h Q 2 [(2, g), (0, v1), (0, v2)] [] M := by
  intro k
  induction k with
  | zero =>
    intro v1 v2 M hv0 hk hQ hG
    have hQ : Q (some (0, (-1))) M := hQ
    refine T_iload_n (i := 2) (pc' := 3) dX1_doorIn_2 rfl rfl rfl ?_
    refine T_aload_n (i := 0) (pc' := 4) dX1_doorIn_3 rfl rfl rfl ?_
    refine U_gf (v := (0, (M g 12))) (k := 12) (kI := 12) (pc' := 7) dX1_doorIn_4 rfl cl1 (pog0 hg) (shg0 hg) (by decide) flX1_67 rfl rfl (by decide) rfl rfl ?_
    refine T_rng (fun _ z9 _ => ?_)
    have hB : r32 (M g 12) := (ok_cons.mp z9).1
    unfold r32 at hB
    refine T_icmp_ge (pc' := 30) dX1_doorIn_7 (by decide) (pf := 10) rfl (fun c1 => ?_) (fun c1 => ?_)
    · skip
      refine T_iconst (pc' := 31) dX1_doorIn_30 (by decide) rfl ?_
      exact T_iret dX1_doorIn_31 rfl ⟨rfl, hG, hQ⟩
    · exact absurd c1 (by omega)
  | succ k ih =>
    intro v1 v2 M hv0 hk hQ hG
    have hQ : Q (some (0, (if (fX11_get M (g + 10) 6 v2) = v1 then v2 else (lX1_doorIn_2 g k v1 (v2 + 1) M)))) M := hQ
    refine T_iload_n (i := 2) (pc' := 3) dX1_doorIn_2 rfl rfl rfl ?_
    refine T_aload_n (i := 0) (pc' := 4) dX1_doorIn_3 rfl rfl rfl ?_
    refine U_gf (v := (0, (M g 12))) (k := 12) (kI := 12) (pc' := 7) dX1_doorIn_4 rfl cl1 (pog0 hg) (shg0 hg) (by decide) flX1_67 rfl rfl (by decide) rfl rfl ?_
    refine T_rng (fun _ z9 _ => ?_)
    have hB : r32 (M g 12) := (ok_cons.mp z9).1
    unfold r32 at hB
    refine T_icmp_ge (pc' := 30) dX1_doorIn_7 (by decide) (pf := 10) rfl (fun c1 => ?_) (fun c1 => ?_)
    · exact absurd c1 (by omega)
    · skip
      have hw : wr32 (v2 + 1) = v2 + 1 := wr32_id (by unfold r32; omega)
      refine T_aload_n (i := 0) (pc' := 11) dX1_doorIn_10 rfl rfl rfl ?_
      refine U_gr (q := (g + 10)) (k := 2) (kI := 2) (pc' := 14) dX1_doorIn_11 rfl cl1 (pog0 hg) (shg0 hg) (by decide) flX1_22 rfl rfl rfl (grg0_2 hg hG) (pog10 hg) rfl ?_
      refine T_iload_n (i := 2) (pc' := 15) dX1_doorIn_14 rfl rfl rfl ?_
      refine T_callSN (av := [(2, (g + 10)), (0, v2)]) (st := []) (d2 := 1) (nc2 := 0) (ns2 := 0) (pc' := 18) dX1_doorIn_15 rfl mtX11_get mvX11_get mlX1_89 rfl rfl (Nat.le_of_ble_eq_true rfl) (by decide) ⟨by decide, by decide⟩ rfl (pX11_get (E := E) (h := h) (M := M) (p0 := (g + 10)) (np0 := 6) (v1 := v2) (pog10 hg) (shg10 hg) (by decide) hG) (kF (st2 := [(0, (fX11_get M (g + 10) 6 v2))]) rfl (fun hG2 => ?_))
      refine T_iload_n (i := 1) (pc' := 19) dX1_doorIn_18 rfl rfl rfl ?_
      refine T_icmp_ne (pc' := 24) dX1_doorIn_19 (by decide) (pf := 22) rfl (fun c3 => ?_) (fun c3 => ?_)
      · skip
        refine T_iinc (L' := [(2, g), (0, v1), (0, (wr32 (v2 + 1)))]) (pc' := 27) dX1_doorIn_24 rfl (by decide) rfl rfl ?_
        refine T_goto (pc' := 2) dX1_doorIn_27 (by decide) ?_
        rw [hw]
        exact T_wk (ih _ (v2 + 1) _ (by omega) (by omega) (by have q := hQ; try simp only [if_neg c3] at q; exact q) hG) ⟨Or.inr rfl, Or.inr rfl, Or.inr rfl, trivial⟩
      · skip
        refine T_iload_n (i := 2) (pc' := 23) dX1_doorIn_22 rfl rfl rfl ?_
        exact T_iret dX1_doorIn_23 rfl ⟨rfl, hG, (by have q := hQ; try simp only [if_pos c3] at q; exact q)⟩
def fX1_doorIn (M : Mem) (g : Int) (v1 : Int) : Int :=
  (lX1_doorIn_2 g ((((M g 12)) : Int) - 0).toNat v1 0 M)
set_option maxRecDepth 100000 in
theorem pX1_doorIn {E : EV} {h : Int} {M : Mem} {g : Int} {v1 : Int} (hg : isG g) : C2 E miX1_doorIn 2 h [(2, g), (0, v1)] M (fun r M' => r = some (0, (fX1_doorIn M g v1)) ∧ M' = M) := by
  obtain ⟨Q, hQ0⟩ : ∃ Q : Option MV → Mem → Prop, Q = (fun r M' => r = some (0, (fX1_doorIn M g v1)) ∧ M' = M) := ⟨_, rfl⟩
  rw [← hQ0]
  have hQ : Q (some (0, (lX1_doorIn_2 g ((((M g 12)) : Int) - 0).toNat v1 0 M))) M := by rw [hQ0]; exact ⟨rfl, rfl⟩
  refine C2_of (L := [(2, g), (0, v1), (3, 0)]) (by decide +kernel) (Nat.le_of_ble_eq_true rfl) rfl (fun hG => ?_)
  refine T_iconst (pc' := 1) dX1_doorIn_0 (by decide) rfl ?_
  refine T_istore_n (i := 2) (L' := [(2, g), (0, v1), (0, 0)]) (pc' := 2) dX1_doorIn_1 rfl (by decide) rfl rfl ?_
  exact T_wk (qX1_doorIn_2 hg _ v1 0 _ (by first | decide | omega) rfl hQ hG) ⟨Or.inr rfl, Or.inr rfl, Or.inr rfl, trivial⟩
def fX1_openDoorIn (M : Mem) (g : Int) (v1 : Int) : Int :=
  (if (fX1_doorIn M g v1) = (-1) then ((-1) : Int) else (if (fX11_get M (g + 11) 6 (fX1_doorIn M g v1)) = 0 then (fX1_doorIn M g v1) else (-1)))
set_option maxRecDepth 100000 in
theorem pX1_openDoorIn {E : EV} {h : Int} {M : Mem} {g : Int} {v1 : Int} (hg : isG g) : C2 E miX1_openDoorIn 3 h [(2, g), (0, v1)] M (fun r M' => r = some (0, (fX1_openDoorIn M g v1)) ∧ M' = M) := by
  obtain ⟨Q, hQ⟩ : ∃ Q : Option MV → Mem → Prop, Q = (fun r M' => r = some (0, (fX1_openDoorIn M g v1)) ∧ M' = M) := ⟨_, rfl⟩
  rw [← hQ]
  refine C2_of (L := [(2, g), (0, v1), (3, 0)]) (by decide +kernel) (Nat.le_of_ble_eq_true rfl) rfl (fun hG => ?_)
  refine T_aload_n (i := 0) (pc' := 1) dX1_openDoorIn_0 rfl rfl rfl ?_
  refine T_iload_n (i := 1) (pc' := 2) dX1_openDoorIn_1 rfl rfl rfl ?_
  refine T_callV (av := [(0, v1)]) (st := []) (d2 := 2) (nc2 := 0) (ns2 := 0) (pc' := 5) dX1_openDoorIn_2 rfl mtX1_doorIn mvX1_doorIn mlX1_93 cl1 (shg0 hg) rfl rfl (Nat.le_of_ble_eq_true rfl) (by decide) ⟨by decide, by decide⟩ rfl (pX1_doorIn (E := E) (h := h) (M := M) (g := g) (v1 := v1) hg hG) (kF (st2 := [(0, (fX1_doorIn M g v1))]) rfl (fun hG1 => ?_))
  refine T_istore_n (i := 2) (L' := [(2, g), (0, v1), (0, (fX1_doorIn M g v1))]) (pc' := 6) dX1_openDoorIn_5 rfl (by decide) rfl rfl ?_
  refine T_iload_n (i := 2) (pc' := 7) dX1_openDoorIn_6 rfl rfl rfl ?_
  refine T_iconst (pc' := 8) dX1_openDoorIn_7 (by decide) rfl ?_
  have HJ2 : T E miX1_openDoorIn 3 126 0 0 (fun r S M' => S = S0 ∧ G h M' ∧ Q r M') 27 [(3, 0), (3, 0), (3, 0)] [(0, (if (fX1_doorIn M g v1) = (-1) then ((-1) : Int) else (if (fX11_get M (g + 11) 6 (fX1_doorIn M g v1)) = 0 then (fX1_doorIn M g v1) else (-1))))] S0 M 0 0 := by
    exact T_iret dX1_openDoorIn_27 rfl ⟨rfl, hG, (by rw [hQ]; exact ⟨rfl, rfl⟩)⟩
  refine T_icmp_eq (pc' := 26) dX1_openDoorIn_8 (by decide) (pf := 11) rfl (fun c3 => ?_) (fun c3 => ?_)
  · skip
    refine T_iconst (pc' := 27) dX1_openDoorIn_26 (by decide) rfl ?_
    exact T_wk (L' := [(3, 0), (3, 0), (3, 0)]) (by have q := HJ2; try simp only [if_pos c3] at q; exact q) ⟨Or.inl rfl, Or.inl rfl, Or.inl rfl, trivial⟩
  · skip
    refine T_aload_n (i := 0) (pc' := 12) dX1_openDoorIn_11 rfl rfl rfl ?_
    refine U_gr (q := (g + 11)) (k := 3) (kI := 3) (pc' := 15) dX1_openDoorIn_12 rfl cl1 (pog0 hg) (shg0 hg) (by decide) flX1_25 rfl rfl rfl (grg0_3 hg hG) (pog11 hg) rfl ?_
    refine T_iload_n (i := 2) (pc' := 16) dX1_openDoorIn_15 rfl rfl rfl ?_
    refine T_callSN (av := [(2, (g + 11)), (0, (fX1_doorIn M g v1))]) (st := []) (d2 := 1) (nc2 := 0) (ns2 := 0) (pc' := 19) dX1_openDoorIn_16 rfl mtX11_get mvX11_get mlX1_89 rfl rfl (Nat.le_of_ble_eq_true rfl) (by decide) ⟨by decide, by decide⟩ rfl (pX11_get (E := E) (h := h) (M := M) (p0 := (g + 11)) (np0 := 6) (v1 := (fX1_doorIn M g v1)) (pog11 hg) (shg11 hg) (by decide) hG) (kF (st2 := [(0, (fX11_get M (g + 11) 6 (fX1_doorIn M g v1)))]) rfl (fun hG4 => ?_))
    refine T_if_ne (pc' := 26) dX1_openDoorIn_19 (by decide) (pf := 22) rfl (fun c5 => ?_) (fun c5 => ?_)
    · skip
      refine T_iconst (pc' := 27) dX1_openDoorIn_26 (by decide) rfl ?_
      exact T_wk (L' := [(3, 0), (3, 0), (3, 0)]) (by have q := HJ2; try simp only [if_neg c3] at q; try simp only [if_neg c5] at q; exact q) ⟨Or.inl rfl, Or.inl rfl, Or.inl rfl, trivial⟩
    · skip
      refine T_iload_n (i := 2) (pc' := 23) dX1_openDoorIn_22 rfl rfl rfl ?_
      refine T_goto (pc' := 27) dX1_openDoorIn_23 (by decide) ?_
      exact T_wk (L' := [(3, 0), (3, 0), (3, 0)]) (by have q := HJ2; try simp only [if_neg c3] at q; try simp only [if_pos c5] at q; exact q) ⟨Or.inl rfl, Or.inl rfl, Or.inl rfl, trivial⟩
def lX1_isTaken_38 (g : Int) : Nat → Int → Int → Mem → Int
  | 0, v1, v2, M => 0
  | k + 1, v1, v2, M => (if (fX11_get M (g + 13) 4 v2) = v1 then 1 else (lX1_isTaken_38 g k v1 (v2 + 1) M))
set_option maxRecDepth 100000 in
set_option maxHeartbeats 2000000 in
theorem qX1_isTaken_38 {E : EV} {h : Int} {Q : Option MV → Mem → Prop} {g : Int} (hg : isG g) : ∀ (k : Nat) (v1 v2 : Int) (M : Mem), 0 ≤ v2 → (((M g 13)) - v2).toNat = k → Q (some (0, (lX1_isTaken_38 g k v1 v2 M))) M → G h M → TG E miX1_isTaken 2 h Q 38 [(2, g), (0, v1), (0, v2)] [] M := by
  intro k
  induction k with
  | zero =>
    intro v1 v2 M hv0 hk hQ hG
    have hQ : Q (some (0, 0)) M := hQ
    refine T_iload_n (i := 2) (pc' := 39) dX1_isTaken_38 rfl rfl rfl ?_
    refine T_aload_n (i := 0) (pc' := 40) dX1_isTaken_39 rfl rfl rfl ?_
    refine U_gf (v := (0, (M g 13))) (k := 13) (kI := 13) (pc' := 43) dX1_isTaken_40 rfl cl1 (pog0 hg) (shg0 hg) (by decide) flX1_70 rfl rfl (by decide) rfl rfl ?_
    refine T_rng (fun _ z9 _ => ?_)
    have hB : r32 (M g 13) := (ok_cons.mp z9).1
    unfold r32 at hB
    refine T_icmp_ge (pc' := 66) dX1_isTaken_43 (by decide) (pf := 46) rfl (fun c1 => ?_) (fun c1 => ?_)
    · skip
      refine T_iconst (pc' := 67) dX1_isTaken_66 (by decide) rfl ?_
      exact T_zret dX1_isTaken_67 rfl (by decide) ⟨rfl, hG, hQ⟩
    · exact absurd c1 (by omega)
  | succ k ih =>
    intro v1 v2 M hv0 hk hQ hG
    have hQ : Q (some (0, (if (fX11_get M (g + 13) 4 v2) = v1 then 1 else (lX1_isTaken_38 g k v1 (v2 + 1) M)))) M := hQ
    refine T_iload_n (i := 2) (pc' := 39) dX1_isTaken_38 rfl rfl rfl ?_
    refine T_aload_n (i := 0) (pc' := 40) dX1_isTaken_39 rfl rfl rfl ?_
    refine U_gf (v := (0, (M g 13))) (k := 13) (kI := 13) (pc' := 43) dX1_isTaken_40 rfl cl1 (pog0 hg) (shg0 hg) (by decide) flX1_70 rfl rfl (by decide) rfl rfl ?_
    refine T_rng (fun _ z9 _ => ?_)
    have hB : r32 (M g 13) := (ok_cons.mp z9).1
    unfold r32 at hB
    refine T_icmp_ge (pc' := 66) dX1_isTaken_43 (by decide) (pf := 46) rfl (fun c1 => ?_) (fun c1 => ?_)
    · exact absurd c1 (by omega)
    · skip
      have hw : wr32 (v2 + 1) = v2 + 1 := wr32_id (by unfold r32; omega)
      refine T_aload_n (i := 0) (pc' := 47) dX1_isTaken_46 rfl rfl rfl ?_
      refine U_gr (q := (g + 13)) (k := 5) (kI := 5) (pc' := 50) dX1_isTaken_47 rfl cl1 (pog0 hg) (shg0 hg) (by decide) flX1_31 rfl rfl rfl (grg0_5 hg hG) (pog13 hg) rfl ?_
      refine T_iload_n (i := 2) (pc' := 51) dX1_isTaken_50 rfl rfl rfl ?_
      refine T_callSN (av := [(2, (g + 13)), (0, v2)]) (st := []) (d2 := 1) (nc2 := 0) (ns2 := 0) (pc' := 54) dX1_isTaken_51 rfl mtX11_get mvX11_get mlX1_89 rfl rfl (Nat.le_of_ble_eq_true rfl) (by decide) ⟨by decide, by decide⟩ rfl (pX11_get (E := E) (h := h) (M := M) (p0 := (g + 13)) (np0 := 4) (v1 := v2) (pog13 hg) (shg13 hg) (by decide) hG) (kF (st2 := [(0, (fX11_get M (g + 13) 4 v2))]) rfl (fun hG2 => ?_))
      refine T_iload_n (i := 1) (pc' := 55) dX1_isTaken_54 rfl rfl rfl ?_
      refine T_icmp_ne (pc' := 60) dX1_isTaken_55 (by decide) (pf := 58) rfl (fun c3 => ?_) (fun c3 => ?_)
      · skip
        refine T_iinc (L' := [(2, g), (0, v1), (0, (wr32 (v2 + 1)))]) (pc' := 63) dX1_isTaken_60 rfl (by decide) rfl rfl ?_
        refine T_goto (pc' := 38) dX1_isTaken_63 (by decide) ?_
        rw [hw]
        exact T_wk (ih _ (v2 + 1) _ (by omega) (by omega) (by have q := hQ; try simp only [if_neg c3] at q; exact q) hG) ⟨Or.inr rfl, Or.inr rfl, Or.inr rfl, trivial⟩
      · skip
        refine T_iconst (pc' := 59) dX1_isTaken_58 (by decide) rfl ?_
        exact T_zret dX1_isTaken_59 rfl (by decide) ⟨rfl, hG, (by have q := hQ; try simp only [if_pos c3] at q; exact q)⟩
def lX1_isTaken_2 (g : Int) : Nat → Int → Int → Mem → Int
  | 0, v1, v2, M => (lX1_isTaken_38 g ((((M g 13)) : Int) - 0).toNat v1 0 M)
  | k + 1, v1, v2, M => (if (fX11_get M (g + 3) 9 v2) = v1 then 1 else (lX1_isTaken_2 g k v1 (v2 + 1) M))
set_option maxRecDepth 100000 in
set_option maxHeartbeats 2000000 in
theorem qX1_isTaken_2 {E : EV} {h : Int} {Q : Option MV → Mem → Prop} {g : Int} (hg : isG g) : ∀ (k : Nat) (v1 v2 : Int) (M : Mem), 0 ≤ v2 → (((M (g + 1) 8)) - v2).toNat = k → Q (some (0, (lX1_isTaken_2 g k v1 v2 M))) M → G h M → TG E miX1_isTaken 2 h Q 2 [(2, g), (0, v1), (0, v2)] [] M := by
  intro k
  induction k with
  | zero =>
    intro v1 v2 M hv0 hk hQ hG
    have hQ : Q (some (0, (lX1_isTaken_38 g ((((M g 13)) : Int) - 0).toNat v1 0 M))) M := hQ
    refine T_iload_n (i := 2) (pc' := 3) dX1_isTaken_2 rfl rfl rfl ?_
    refine T_aload_n (i := 0) (pc' := 4) dX1_isTaken_3 rfl rfl rfl ?_
    refine U_gr (q := (g + 1)) (k := 0) (kI := 0) (pc' := 7) dX1_isTaken_4 rfl cl1 (pog0 hg) (shg0 hg) (by decide) flX1_12 rfl rfl rfl (grg0_0 hg hG) (pog1 hg) rfl ?_
    refine U_gfN (v := (0, (M (g + 1) 8))) (k := 8) (kI := 8) (pc' := 10) dX1_isTaken_7 rfl cl4 (pog1 hg) (shg1 hg) (by decide) flX1_47 rfl rfl (by decide) rfl rfl ?_
    refine T_rng (fun _ z9 _ => ?_)
    have hB : r32 (M (g + 1) 8) := (ok_cons.mp z9).1
    unfold r32 at hB
    refine T_icmp_ge (pc' := 36) dX1_isTaken_10 (by decide) (pf := 13) rfl (fun c1 => ?_) (fun c1 => ?_)
    · skip
      refine T_iconst (pc' := 37) dX1_isTaken_36 (by decide) rfl ?_
      refine T_istore_n (i := 2) (L' := [(2, g), (0, v1), (0, 0)]) (pc' := 38) dX1_isTaken_37 rfl (by decide) rfl rfl ?_
      exact T_wk (qX1_isTaken_38 hg _ v1 0 _ (by first | decide | omega) rfl hQ hG) ⟨Or.inr rfl, Or.inr rfl, Or.inr rfl, trivial⟩
    · exact absurd c1 (by omega)
  | succ k ih =>
    intro v1 v2 M hv0 hk hQ hG
    have hQ : Q (some (0, (if (fX11_get M (g + 3) 9 v2) = v1 then 1 else (lX1_isTaken_2 g k v1 (v2 + 1) M)))) M := hQ
    refine T_iload_n (i := 2) (pc' := 3) dX1_isTaken_2 rfl rfl rfl ?_
    refine T_aload_n (i := 0) (pc' := 4) dX1_isTaken_3 rfl rfl rfl ?_
    refine U_gr (q := (g + 1)) (k := 0) (kI := 0) (pc' := 7) dX1_isTaken_4 rfl cl1 (pog0 hg) (shg0 hg) (by decide) flX1_12 rfl rfl rfl (grg0_0 hg hG) (pog1 hg) rfl ?_
    refine U_gfN (v := (0, (M (g + 1) 8))) (k := 8) (kI := 8) (pc' := 10) dX1_isTaken_7 rfl cl4 (pog1 hg) (shg1 hg) (by decide) flX1_47 rfl rfl (by decide) rfl rfl ?_
    refine T_rng (fun _ z9 _ => ?_)
    have hB : r32 (M (g + 1) 8) := (ok_cons.mp z9).1
    unfold r32 at hB
    refine T_icmp_ge (pc' := 36) dX1_isTaken_10 (by decide) (pf := 13) rfl (fun c1 => ?_) (fun c1 => ?_)
    · exact absurd c1 (by omega)
    · skip
      have hw : wr32 (v2 + 1) = v2 + 1 := wr32_id (by unfold r32; omega)
      refine T_aload_n (i := 0) (pc' := 14) dX1_isTaken_13 rfl rfl rfl ?_
      refine U_gr (q := (g + 1)) (k := 0) (kI := 0) (pc' := 17) dX1_isTaken_14 rfl cl1 (pog0 hg) (shg0 hg) (by decide) flX1_12 rfl rfl rfl (grg0_0 hg hG) (pog1 hg) rfl ?_
      refine U_grN (q := (g + 3)) (k := 1) (kI := 1) (pc' := 20) dX1_isTaken_17 rfl cl4 (pog1 hg) (shg1 hg) (by decide) flX1_97 rfl rfl rfl (grg1_1 hg hG) (pog3 hg) rfl ?_
      refine T_iload_n (i := 2) (pc' := 21) dX1_isTaken_20 rfl rfl rfl ?_
      refine T_callSN (av := [(2, (g + 3)), (0, v2)]) (st := []) (d2 := 1) (nc2 := 0) (ns2 := 0) (pc' := 24) dX1_isTaken_21 rfl mtX11_get mvX11_get mlX1_89 rfl rfl (Nat.le_of_ble_eq_true rfl) (by decide) ⟨by decide, by decide⟩ rfl (pX11_get (E := E) (h := h) (M := M) (p0 := (g + 3)) (np0 := 9) (v1 := v2) (pog3 hg) (shg3 hg) (by decide) hG) (kF (st2 := [(0, (fX11_get M (g + 3) 9 v2))]) rfl (fun hG2 => ?_))
      refine T_iload_n (i := 1) (pc' := 25) dX1_isTaken_24 rfl rfl rfl ?_
      refine T_icmp_ne (pc' := 30) dX1_isTaken_25 (by decide) (pf := 28) rfl (fun c3 => ?_) (fun c3 => ?_)
      · skip
        refine T_iinc (L' := [(2, g), (0, v1), (0, (wr32 (v2 + 1)))]) (pc' := 33) dX1_isTaken_30 rfl (by decide) rfl rfl ?_
        refine T_goto (pc' := 2) dX1_isTaken_33 (by decide) ?_
        rw [hw]
        exact T_wk (ih _ (v2 + 1) _ (by omega) (by omega) (by have q := hQ; try simp only [if_neg c3] at q; exact q) hG) ⟨Or.inr rfl, Or.inr rfl, Or.inr rfl, trivial⟩
      · skip
        refine T_iconst (pc' := 29) dX1_isTaken_28 (by decide) rfl ?_
        exact T_zret dX1_isTaken_29 rfl (by decide) ⟨rfl, hG, (by have q := hQ; try simp only [if_pos c3] at q; exact q)⟩
def fX1_isTaken (M : Mem) (g : Int) (v1 : Int) : Int :=
  (lX1_isTaken_2 g ((((M (g + 1) 8)) : Int) - 0).toNat v1 0 M)
set_option maxRecDepth 100000 in
theorem pX1_isTaken {E : EV} {h : Int} {M : Mem} {g : Int} {v1 : Int} (hg : isG g) : C2 E miX1_isTaken 2 h [(2, g), (0, v1)] M (fun r M' => r = some (0, (fX1_isTaken M g v1)) ∧ M' = M) := by
  obtain ⟨Q, hQ0⟩ : ∃ Q : Option MV → Mem → Prop, Q = (fun r M' => r = some (0, (fX1_isTaken M g v1)) ∧ M' = M) := ⟨_, rfl⟩
  rw [← hQ0]
  have hQ : Q (some (0, (lX1_isTaken_2 g ((((M (g + 1) 8)) : Int) - 0).toNat v1 0 M))) M := by rw [hQ0]; exact ⟨rfl, rfl⟩
  refine C2_of (L := [(2, g), (0, v1), (3, 0)]) (by decide +kernel) (Nat.le_of_ble_eq_true rfl) rfl (fun hG => ?_)
  refine T_iconst (pc' := 1) dX1_isTaken_0 (by decide) rfl ?_
  refine T_istore_n (i := 2) (L' := [(2, g), (0, v1), (0, 0)]) (pc' := 2) dX1_isTaken_1 rfl (by decide) rfl rfl ?_
  exact T_wk (qX1_isTaken_2 hg _ v1 0 _ (by first | decide | omega) rfl hQ hG) ⟨Or.inr rfl, Or.inr rfl, Or.inr rfl, trivial⟩
def lX1_hasName_38 (g : Int) : Nat → Int → Int → Mem → Int
  | 0, v1, v2, M => 0
  | k + 1, v1, v2, M => (if (fX11_get M (g + 12) 4 v2) = v1 then 1 else (lX1_hasName_38 g k v1 (v2 + 1) M))
set_option maxRecDepth 100000 in
set_option maxHeartbeats 2000000 in
theorem qX1_hasName_38 {E : EV} {h : Int} {Q : Option MV → Mem → Prop} {g : Int} (hg : isG g) : ∀ (k : Nat) (v1 v2 : Int) (M : Mem), 0 ≤ v2 → (((M g 13)) - v2).toNat = k → Q (some (0, (lX1_hasName_38 g k v1 v2 M))) M → G h M → TG E miX1_hasName 2 h Q 38 [(2, g), (0, v1), (0, v2)] [] M := by
  intro k
  induction k with
  | zero =>
    intro v1 v2 M hv0 hk hQ hG
    have hQ : Q (some (0, 0)) M := hQ
    refine T_iload_n (i := 2) (pc' := 39) dX1_hasName_38 rfl rfl rfl ?_
    refine T_aload_n (i := 0) (pc' := 40) dX1_hasName_39 rfl rfl rfl ?_
    refine U_gf (v := (0, (M g 13))) (k := 13) (kI := 13) (pc' := 43) dX1_hasName_40 rfl cl1 (pog0 hg) (shg0 hg) (by decide) flX1_70 rfl rfl (by decide) rfl rfl ?_
    refine T_rng (fun _ z9 _ => ?_)
    have hB : r32 (M g 13) := (ok_cons.mp z9).1
    unfold r32 at hB
    refine T_icmp_ge (pc' := 66) dX1_hasName_43 (by decide) (pf := 46) rfl (fun c1 => ?_) (fun c1 => ?_)
    · skip
      refine T_iconst (pc' := 67) dX1_hasName_66 (by decide) rfl ?_
      exact T_zret dX1_hasName_67 rfl (by decide) ⟨rfl, hG, hQ⟩
    · exact absurd c1 (by omega)
  | succ k ih =>
    intro v1 v2 M hv0 hk hQ hG
    have hQ : Q (some (0, (if (fX11_get M (g + 12) 4 v2) = v1 then 1 else (lX1_hasName_38 g k v1 (v2 + 1) M)))) M := hQ
    refine T_iload_n (i := 2) (pc' := 39) dX1_hasName_38 rfl rfl rfl ?_
    refine T_aload_n (i := 0) (pc' := 40) dX1_hasName_39 rfl rfl rfl ?_
    refine U_gf (v := (0, (M g 13))) (k := 13) (kI := 13) (pc' := 43) dX1_hasName_40 rfl cl1 (pog0 hg) (shg0 hg) (by decide) flX1_70 rfl rfl (by decide) rfl rfl ?_
    refine T_rng (fun _ z9 _ => ?_)
    have hB : r32 (M g 13) := (ok_cons.mp z9).1
    unfold r32 at hB
    refine T_icmp_ge (pc' := 66) dX1_hasName_43 (by decide) (pf := 46) rfl (fun c1 => ?_) (fun c1 => ?_)
    · exact absurd c1 (by omega)
    · skip
      have hw : wr32 (v2 + 1) = v2 + 1 := wr32_id (by unfold r32; omega)
      refine T_aload_n (i := 0) (pc' := 47) dX1_hasName_46 rfl rfl rfl ?_
      refine U_gr (q := (g + 12)) (k := 4) (kI := 4) (pc' := 50) dX1_hasName_47 rfl cl1 (pog0 hg) (shg0 hg) (by decide) flX1_28 rfl rfl rfl (grg0_4 hg hG) (pog12 hg) rfl ?_
      refine T_iload_n (i := 2) (pc' := 51) dX1_hasName_50 rfl rfl rfl ?_
      refine T_callSN (av := [(2, (g + 12)), (0, v2)]) (st := []) (d2 := 1) (nc2 := 0) (ns2 := 0) (pc' := 54) dX1_hasName_51 rfl mtX11_get mvX11_get mlX1_89 rfl rfl (Nat.le_of_ble_eq_true rfl) (by decide) ⟨by decide, by decide⟩ rfl (pX11_get (E := E) (h := h) (M := M) (p0 := (g + 12)) (np0 := 4) (v1 := v2) (pog12 hg) (shg12 hg) (by decide) hG) (kF (st2 := [(0, (fX11_get M (g + 12) 4 v2))]) rfl (fun hG2 => ?_))
      refine T_iload_n (i := 1) (pc' := 55) dX1_hasName_54 rfl rfl rfl ?_
      refine T_icmp_ne (pc' := 60) dX1_hasName_55 (by decide) (pf := 58) rfl (fun c3 => ?_) (fun c3 => ?_)
      · skip
        refine T_iinc (L' := [(2, g), (0, v1), (0, (wr32 (v2 + 1)))]) (pc' := 63) dX1_hasName_60 rfl (by decide) rfl rfl ?_
        refine T_goto (pc' := 38) dX1_hasName_63 (by decide) ?_
        rw [hw]
        exact T_wk (ih _ (v2 + 1) _ (by omega) (by omega) (by have q := hQ; try simp only [if_neg c3] at q; exact q) hG) ⟨Or.inr rfl, Or.inr rfl, Or.inr rfl, trivial⟩
      · skip
        refine T_iconst (pc' := 59) dX1_hasName_58 (by decide) rfl ?_
        exact T_zret dX1_hasName_59 rfl (by decide) ⟨rfl, hG, (by have q := hQ; try simp only [if_pos c3] at q; exact q)⟩
def lX1_hasName_2 (g : Int) : Nat → Int → Int → Mem → Int
  | 0, v1, v2, M => (lX1_hasName_38 g ((((M g 13)) : Int) - 0).toNat v1 0 M)
  | k + 1, v1, v2, M => (if (fX11_get M (g + 2) 9 v2) = v1 then 1 else (lX1_hasName_2 g k v1 (v2 + 1) M))
set_option maxRecDepth 100000 in
set_option maxHeartbeats 2000000 in
theorem qX1_hasName_2 {E : EV} {h : Int} {Q : Option MV → Mem → Prop} {g : Int} (hg : isG g) : ∀ (k : Nat) (v1 v2 : Int) (M : Mem), 0 ≤ v2 → (((M (g + 1) 8)) - v2).toNat = k → Q (some (0, (lX1_hasName_2 g k v1 v2 M))) M → G h M → TG E miX1_hasName 2 h Q 2 [(2, g), (0, v1), (0, v2)] [] M := by
  intro k
  induction k with
  | zero =>
    intro v1 v2 M hv0 hk hQ hG
    have hQ : Q (some (0, (lX1_hasName_38 g ((((M g 13)) : Int) - 0).toNat v1 0 M))) M := hQ
    refine T_iload_n (i := 2) (pc' := 3) dX1_hasName_2 rfl rfl rfl ?_
    refine T_aload_n (i := 0) (pc' := 4) dX1_hasName_3 rfl rfl rfl ?_
    refine U_gr (q := (g + 1)) (k := 0) (kI := 0) (pc' := 7) dX1_hasName_4 rfl cl1 (pog0 hg) (shg0 hg) (by decide) flX1_12 rfl rfl rfl (grg0_0 hg hG) (pog1 hg) rfl ?_
    refine U_gfN (v := (0, (M (g + 1) 8))) (k := 8) (kI := 8) (pc' := 10) dX1_hasName_7 rfl cl4 (pog1 hg) (shg1 hg) (by decide) flX1_47 rfl rfl (by decide) rfl rfl ?_
    refine T_rng (fun _ z9 _ => ?_)
    have hB : r32 (M (g + 1) 8) := (ok_cons.mp z9).1
    unfold r32 at hB
    refine T_icmp_ge (pc' := 36) dX1_hasName_10 (by decide) (pf := 13) rfl (fun c1 => ?_) (fun c1 => ?_)
    · skip
      refine T_iconst (pc' := 37) dX1_hasName_36 (by decide) rfl ?_
      refine T_istore_n (i := 2) (L' := [(2, g), (0, v1), (0, 0)]) (pc' := 38) dX1_hasName_37 rfl (by decide) rfl rfl ?_
      exact T_wk (qX1_hasName_38 hg _ v1 0 _ (by first | decide | omega) rfl hQ hG) ⟨Or.inr rfl, Or.inr rfl, Or.inr rfl, trivial⟩
    · exact absurd c1 (by omega)
  | succ k ih =>
    intro v1 v2 M hv0 hk hQ hG
    have hQ : Q (some (0, (if (fX11_get M (g + 2) 9 v2) = v1 then 1 else (lX1_hasName_2 g k v1 (v2 + 1) M)))) M := hQ
    refine T_iload_n (i := 2) (pc' := 3) dX1_hasName_2 rfl rfl rfl ?_
    refine T_aload_n (i := 0) (pc' := 4) dX1_hasName_3 rfl rfl rfl ?_
    refine U_gr (q := (g + 1)) (k := 0) (kI := 0) (pc' := 7) dX1_hasName_4 rfl cl1 (pog0 hg) (shg0 hg) (by decide) flX1_12 rfl rfl rfl (grg0_0 hg hG) (pog1 hg) rfl ?_
    refine U_gfN (v := (0, (M (g + 1) 8))) (k := 8) (kI := 8) (pc' := 10) dX1_hasName_7 rfl cl4 (pog1 hg) (shg1 hg) (by decide) flX1_47 rfl rfl (by decide) rfl rfl ?_
    refine T_rng (fun _ z9 _ => ?_)
    have hB : r32 (M (g + 1) 8) := (ok_cons.mp z9).1
    unfold r32 at hB
    refine T_icmp_ge (pc' := 36) dX1_hasName_10 (by decide) (pf := 13) rfl (fun c1 => ?_) (fun c1 => ?_)
    · exact absurd c1 (by omega)
    · skip
      have hw : wr32 (v2 + 1) = v2 + 1 := wr32_id (by unfold r32; omega)
      refine T_aload_n (i := 0) (pc' := 14) dX1_hasName_13 rfl rfl rfl ?_
      refine U_gr (q := (g + 1)) (k := 0) (kI := 0) (pc' := 17) dX1_hasName_14 rfl cl1 (pog0 hg) (shg0 hg) (by decide) flX1_12 rfl rfl rfl (grg0_0 hg hG) (pog1 hg) rfl ?_
      refine U_grN (q := (g + 2)) (k := 0) (kI := 0) (pc' := 20) dX1_hasName_17 rfl cl4 (pog1 hg) (shg1 hg) (by decide) flX1_100 rfl rfl rfl (grg1_0 hg hG) (pog2 hg) rfl ?_
      refine T_iload_n (i := 2) (pc' := 21) dX1_hasName_20 rfl rfl rfl ?_
      refine T_callSN (av := [(2, (g + 2)), (0, v2)]) (st := []) (d2 := 1) (nc2 := 0) (ns2 := 0) (pc' := 24) dX1_hasName_21 rfl mtX11_get mvX11_get mlX1_89 rfl rfl (Nat.le_of_ble_eq_true rfl) (by decide) ⟨by decide, by decide⟩ rfl (pX11_get (E := E) (h := h) (M := M) (p0 := (g + 2)) (np0 := 9) (v1 := v2) (pog2 hg) (shg2 hg) (by decide) hG) (kF (st2 := [(0, (fX11_get M (g + 2) 9 v2))]) rfl (fun hG2 => ?_))
      refine T_iload_n (i := 1) (pc' := 25) dX1_hasName_24 rfl rfl rfl ?_
      refine T_icmp_ne (pc' := 30) dX1_hasName_25 (by decide) (pf := 28) rfl (fun c3 => ?_) (fun c3 => ?_)
      · skip
        refine T_iinc (L' := [(2, g), (0, v1), (0, (wr32 (v2 + 1)))]) (pc' := 33) dX1_hasName_30 rfl (by decide) rfl rfl ?_
        refine T_goto (pc' := 2) dX1_hasName_33 (by decide) ?_
        rw [hw]
        exact T_wk (ih _ (v2 + 1) _ (by omega) (by omega) (by have q := hQ; try simp only [if_neg c3] at q; exact q) hG) ⟨Or.inr rfl, Or.inr rfl, Or.inr rfl, trivial⟩
      · skip
        refine T_iconst (pc' := 29) dX1_hasName_28 (by decide) rfl ?_
        exact T_zret dX1_hasName_29 rfl (by decide) ⟨rfl, hG, (by have q := hQ; try simp only [if_pos c3] at q; exact q)⟩
def fX1_hasName (M : Mem) (g : Int) (v1 : Int) : Int :=
  (lX1_hasName_2 g ((((M (g + 1) 8)) : Int) - 0).toNat v1 0 M)
set_option maxRecDepth 100000 in
theorem pX1_hasName {E : EV} {h : Int} {M : Mem} {g : Int} {v1 : Int} (hg : isG g) : C2 E miX1_hasName 2 h [(2, g), (0, v1)] M (fun r M' => r = some (0, (fX1_hasName M g v1)) ∧ M' = M) := by
  obtain ⟨Q, hQ0⟩ : ∃ Q : Option MV → Mem → Prop, Q = (fun r M' => r = some (0, (fX1_hasName M g v1)) ∧ M' = M) := ⟨_, rfl⟩
  rw [← hQ0]
  have hQ : Q (some (0, (lX1_hasName_2 g ((((M (g + 1) 8)) : Int) - 0).toNat v1 0 M))) M := by rw [hQ0]; exact ⟨rfl, rfl⟩
  refine C2_of (L := [(2, g), (0, v1), (3, 0)]) (by decide +kernel) (Nat.le_of_ble_eq_true rfl) rfl (fun hG => ?_)
  refine T_iconst (pc' := 1) dX1_hasName_0 (by decide) rfl ?_
  refine T_istore_n (i := 2) (L' := [(2, g), (0, v1), (0, 0)]) (pc' := 2) dX1_hasName_1 rfl (by decide) rfl rfl ?_
  exact T_wk (qX1_hasName_2 hg _ v1 0 _ (by first | decide | omega) rfl hQ hG) ⟨Or.inr rfl, Or.inr rfl, Or.inr rfl, trivial⟩
def fX1_across (M : Mem) (g : Int) (v1 : Int) : Int :=
  (if (M g 9) ≤ 0 then (0 : Int) else (Int.tmod v1 (M g 9)))
set_option maxRecDepth 100000 in
theorem pX1_across {E : EV} {h : Int} {M : Mem} {g : Int} {v1 : Int} (hg : isG g) : C2 E miX1_across 1 h [(2, g), (0, v1)] M (fun r M' => r = some (0, (fX1_across M g v1)) ∧ M' = M) := by
  obtain ⟨Q, hQ⟩ : ∃ Q : Option MV → Mem → Prop, Q = (fun r M' => r = some (0, (fX1_across M g v1)) ∧ M' = M) := ⟨_, rfl⟩
  rw [← hQ]
  refine C2_of (L := [(2, g), (0, v1)]) (by decide +kernel) (Nat.le_of_ble_eq_true rfl) rfl (fun hG => ?_)
  refine T_aload_n (i := 0) (pc' := 1) dX1_across_0 rfl rfl rfl ?_
  refine U_gf (v := (0, (M g 9))) (k := 9) (kI := 9) (pc' := 4) dX1_across_1 rfl cl1 (pog0 hg) (shg0 hg) (by decide) flX1_58 rfl rfl (by decide) rfl rfl ?_
  have HJ1 : T E miX1_across 1 126 0 0 (fun r S M' => S = S0 ∧ G h M' ∧ Q r M') 17 [(3, 0), (3, 0)] [(0, (if (M g 9) ≤ 0 then (0 : Int) else (Int.tmod v1 (M g 9))))] S0 M 0 0 := by
    exact T_iret dX1_across_17 rfl ⟨rfl, hG, (by rw [hQ]; exact ⟨rfl, rfl⟩)⟩
  refine T_if_le (pc' := 16) dX1_across_4 (by decide) (pf := 7) rfl (fun c2 => ?_) (fun c2 => ?_)
  · skip
    refine T_iconst (pc' := 17) dX1_across_16 (by decide) rfl ?_
    exact T_wk (L' := [(3, 0), (3, 0)]) (by have q := HJ1; try simp only [if_pos c2] at q; exact q) ⟨Or.inl rfl, Or.inl rfl, trivial⟩
  · skip
    refine T_iload_n (i := 1) (pc' := 8) dX1_across_7 rfl rfl rfl ?_
    refine T_aload_n (i := 0) (pc' := 9) dX1_across_8 rfl rfl rfl ?_
    refine U_gf (v := (0, (M g 9))) (k := 9) (kI := 9) (pc' := 12) dX1_across_9 rfl cl1 (pog0 hg) (shg0 hg) (by decide) flX1_58 rfl rfl (by decide) rfl rfl ?_
    refine T_irem (pc' := 13) dX1_across_12 (by omega) rfl ?_
    refine T_goto (pc' := 17) dX1_across_13 (by decide) ?_
    exact T_wk (L' := [(3, 0), (3, 0)]) (by have q := HJ1; try simp only [if_neg c2] at q; exact q) ⟨Or.inl rfl, Or.inl rfl, trivial⟩
def fX1_down (M : Mem) (g : Int) (v1 : Int) : Int :=
  (if (M g 9) ≤ 0 then (0 : Int) else (wr32 (Int.tdiv v1 (M g 9))))
set_option maxRecDepth 100000 in
theorem pX1_down {E : EV} {h : Int} {M : Mem} {g : Int} {v1 : Int} (hg : isG g) : C2 E miX1_down 1 h [(2, g), (0, v1)] M (fun r M' => r = some (0, (fX1_down M g v1)) ∧ M' = M) := by
  obtain ⟨Q, hQ⟩ : ∃ Q : Option MV → Mem → Prop, Q = (fun r M' => r = some (0, (fX1_down M g v1)) ∧ M' = M) := ⟨_, rfl⟩
  rw [← hQ]
  refine C2_of (L := [(2, g), (0, v1)]) (by decide +kernel) (Nat.le_of_ble_eq_true rfl) rfl (fun hG => ?_)
  refine T_aload_n (i := 0) (pc' := 1) dX1_down_0 rfl rfl rfl ?_
  refine U_gf (v := (0, (M g 9))) (k := 9) (kI := 9) (pc' := 4) dX1_down_1 rfl cl1 (pog0 hg) (shg0 hg) (by decide) flX1_58 rfl rfl (by decide) rfl rfl ?_
  have HJ1 : T E miX1_down 1 126 0 0 (fun r S M' => S = S0 ∧ G h M' ∧ Q r M') 17 [(3, 0), (3, 0)] [(0, (if (M g 9) ≤ 0 then (0 : Int) else (wr32 (Int.tdiv v1 (M g 9)))))] S0 M 0 0 := by
    exact T_iret dX1_down_17 rfl ⟨rfl, hG, (by rw [hQ]; exact ⟨rfl, rfl⟩)⟩
  refine T_if_le (pc' := 16) dX1_down_4 (by decide) (pf := 7) rfl (fun c2 => ?_) (fun c2 => ?_)
  · skip
    refine T_iconst (pc' := 17) dX1_down_16 (by decide) rfl ?_
    exact T_wk (L' := [(3, 0), (3, 0)]) (by have q := HJ1; try simp only [if_pos c2] at q; exact q) ⟨Or.inl rfl, Or.inl rfl, trivial⟩
  · skip
    refine T_iload_n (i := 1) (pc' := 8) dX1_down_7 rfl rfl rfl ?_
    refine T_aload_n (i := 0) (pc' := 9) dX1_down_8 rfl rfl rfl ?_
    refine U_gf (v := (0, (M g 9))) (k := 9) (kI := 9) (pc' := 12) dX1_down_9 rfl cl1 (pog0 hg) (shg0 hg) (by decide) flX1_58 rfl rfl (by decide) rfl rfl ?_
    refine T_idiv (pc' := 13) dX1_down_12 (by omega) rfl ?_
    refine T_goto (pc' := 17) dX1_down_13 (by decide) ?_
    exact T_wk (L' := [(3, 0), (3, 0)]) (by have q := HJ1; try simp only [if_neg c2] at q; exact q) ⟨Or.inl rfl, Or.inl rfl, trivial⟩
def fX1_distance (M : Mem) (g : Int) (v1 : Int) (v2 : Int) : Int :=
  (wr32 ((if 0 ≤ (wr32 ((fX1_across M g v1) - (fX1_across M g v2))) then (wr32 ((fX1_across M g v1) - (fX1_across M g v2))) else (wr32 (0 - (wr32 ((fX1_across M g v1) - (fX1_across M g v2)))))) + (if 0 ≤ (wr32 ((fX1_down M g v1) - (fX1_down M g v2))) then (wr32 ((fX1_down M g v1) - (fX1_down M g v2))) else (wr32 (0 - (wr32 ((fX1_down M g v1) - (fX1_down M g v2))))))))
set_option maxRecDepth 100000 in
theorem pX1_distance {E : EV} {h : Int} {M : Mem} {g : Int} {v1 : Int} {v2 : Int} (hg : isG g) : C2 E miX1_distance 2 h [(2, g), (0, v1), (0, v2)] M (fun r M' => r = some (0, (fX1_distance M g v1 v2)) ∧ M' = M) := by
  obtain ⟨Q, hQ⟩ : ∃ Q : Option MV → Mem → Prop, Q = (fun r M' => r = some (0, (fX1_distance M g v1 v2)) ∧ M' = M) := ⟨_, rfl⟩
  rw [← hQ]
  refine C2_of (L := [(2, g), (0, v1), (0, v2)]) (by decide +kernel) (Nat.le_of_ble_eq_true rfl) rfl (fun hG => ?_)
  refine T_aload_n (i := 0) (pc' := 1) dX1_distance_0 rfl rfl rfl ?_
  refine T_iload_n (i := 1) (pc' := 2) dX1_distance_1 rfl rfl rfl ?_
  refine T_callV (av := [(0, v1)]) (st := []) (d2 := 1) (nc2 := 0) (ns2 := 0) (pc' := 5) dX1_distance_2 rfl mtX1_across mvX1_across mlX1_103 cl1 (shg0 hg) rfl rfl (Nat.le_of_ble_eq_true rfl) (by decide) ⟨by decide, by decide⟩ rfl (pX1_across (E := E) (h := h) (M := M) (g := g) (v1 := v1) hg hG) (kF (st2 := [(0, (fX1_across M g v1))]) rfl (fun hG1 => ?_))
  refine T_aload_n (i := 0) (pc' := 6) dX1_distance_5 rfl rfl rfl ?_
  refine T_iload_n (i := 2) (pc' := 7) dX1_distance_6 rfl rfl rfl ?_
  refine T_callV (av := [(0, v2)]) (st := [(0, (fX1_across M g v1))]) (d2 := 1) (nc2 := 0) (ns2 := 0) (pc' := 10) dX1_distance_7 rfl mtX1_across mvX1_across mlX1_103 cl1 (shg0 hg) rfl rfl (Nat.le_of_ble_eq_true rfl) (by decide) ⟨by decide, by decide⟩ rfl (pX1_across (E := E) (h := h) (M := M) (g := g) (v1 := v2) hg hG) (kF (st2 := [(0, (fX1_across M g v2)), (0, (fX1_across M g v1))]) rfl (fun hG2 => ?_))
  refine T_isub (pc' := 11) dX1_distance_10 rfl ?_
  refine U_mabs (pc' := 14) dX1_distance_11 rfl mlX1_106 (Nat.le_of_ble_eq_true rfl) (by decide) ⟨by decide, by decide⟩ rfl ?_
  refine T_aload_n (i := 0) (pc' := 15) dX1_distance_14 rfl rfl rfl ?_
  refine T_iload_n (i := 1) (pc' := 16) dX1_distance_15 rfl rfl rfl ?_
  refine T_callV (av := [(0, v1)]) (st := [(0, (if 0 ≤ (wr32 ((fX1_across M g v1) - (fX1_across M g v2))) then (wr32 ((fX1_across M g v1) - (fX1_across M g v2))) else (wr32 (0 - (wr32 ((fX1_across M g v1) - (fX1_across M g v2)))))))]) (d2 := 1) (nc2 := 0) (ns2 := 0) (pc' := 19) dX1_distance_16 rfl mtX1_down mvX1_down mlX1_111 cl1 (shg0 hg) rfl rfl (Nat.le_of_ble_eq_true rfl) (by decide) ⟨by decide, by decide⟩ rfl (pX1_down (E := E) (h := h) (M := M) (g := g) (v1 := v1) hg hG) (kF (st2 := [(0, (fX1_down M g v1)), (0, (if 0 ≤ (wr32 ((fX1_across M g v1) - (fX1_across M g v2))) then (wr32 ((fX1_across M g v1) - (fX1_across M g v2))) else (wr32 (0 - (wr32 ((fX1_across M g v1) - (fX1_across M g v2)))))))]) rfl (fun hG3 => ?_))
  refine T_aload_n (i := 0) (pc' := 20) dX1_distance_19 rfl rfl rfl ?_
  refine T_iload_n (i := 2) (pc' := 21) dX1_distance_20 rfl rfl rfl ?_
  refine T_callV (av := [(0, v2)]) (st := [(0, (fX1_down M g v1)), (0, (if 0 ≤ (wr32 ((fX1_across M g v1) - (fX1_across M g v2))) then (wr32 ((fX1_across M g v1) - (fX1_across M g v2))) else (wr32 (0 - (wr32 ((fX1_across M g v1) - (fX1_across M g v2)))))))]) (d2 := 1) (nc2 := 0) (ns2 := 0) (pc' := 24) dX1_distance_21 rfl mtX1_down mvX1_down mlX1_111 cl1 (shg0 hg) rfl rfl (Nat.le_of_ble_eq_true rfl) (by decide) ⟨by decide, by decide⟩ rfl (pX1_down (E := E) (h := h) (M := M) (g := g) (v1 := v2) hg hG) (kF (st2 := [(0, (fX1_down M g v2)), (0, (fX1_down M g v1)), (0, (if 0 ≤ (wr32 ((fX1_across M g v1) - (fX1_across M g v2))) then (wr32 ((fX1_across M g v1) - (fX1_across M g v2))) else (wr32 (0 - (wr32 ((fX1_across M g v1) - (fX1_across M g v2)))))))]) rfl (fun hG4 => ?_))
  refine T_isub (pc' := 25) dX1_distance_24 rfl ?_
  refine U_mabs (pc' := 28) dX1_distance_25 rfl mlX1_106 (Nat.le_of_ble_eq_true rfl) (by decide) ⟨by decide, by decide⟩ rfl ?_
  refine T_iadd (pc' := 29) dX1_distance_28 rfl ?_
  exact T_iret dX1_distance_29 rfl ⟨rfl, hG, (by rw [hQ]; exact ⟨rfl, rfl⟩)⟩
def fX1_stepFrom (M : Mem) (g : Int) (v1 : Int) (v2 : Int) : Int :=
  (if (wr32 ((fX1_across M g v1) + (if v2 = 1 then (1 : Int) else (if v2 = 3 then ((-1) : Int) else 0)))) < 0 then (-1) else (if (M g 9) ≤ (wr32 ((fX1_across M g v1) + (if v2 = 1 then (1 : Int) else (if v2 = 3 then ((-1) : Int) else 0)))) then (-1) else (if (wr32 ((fX1_down M g v1) + (if v2 = 2 then (1 : Int) else (if v2 = 0 then ((-1) : Int) else 0)))) < 0 then (-1) else (if (wr32 ((fX1_down M g v1) + (if v2 = 2 then (1 : Int) else (if v2 = 0 then ((-1) : Int) else 0)))) < (M g 10) then (if (fX1_isFree M g (wr32 ((wr32 ((wr32 ((fX1_down M g v1) + (if v2 = 2 then (1 : Int) else (if v2 = 0 then ((-1) : Int) else 0)))) * (M g 9))) + (wr32 ((fX1_across M g v1) + (if v2 = 1 then (1 : Int) else (if v2 = 3 then ((-1) : Int) else 0))))))) = 0 then ((-1) : Int) else (wr32 ((wr32 ((wr32 ((fX1_down M g v1) + (if v2 = 2 then (1 : Int) else (if v2 = 0 then ((-1) : Int) else 0)))) * (M g 9))) + (wr32 ((fX1_across M g v1) + (if v2 = 1 then (1 : Int) else (if v2 = 3 then ((-1) : Int) else 0))))))) else (-1)))))
set_option maxRecDepth 100000 in
theorem pX1_stepFrom {E : EV} {h : Int} {M : Mem} {g : Int} {v1 : Int} {v2 : Int} (hg : isG g) : C2 E miX1_stepFrom 3 h [(2, g), (0, v1), (0, v2)] M (fun r M' => r = some (0, (fX1_stepFrom M g v1 v2)) ∧ M' = M) := by
  obtain ⟨Q, hQ⟩ : ∃ Q : Option MV → Mem → Prop, Q = (fun r M' => r = some (0, (fX1_stepFrom M g v1 v2)) ∧ M' = M) := ⟨_, rfl⟩
  rw [← hQ]
  refine C2_of (L := [(2, g), (0, v1), (0, v2), (3, 0), (3, 0)]) (by decide +kernel) (Nat.le_of_ble_eq_true rfl) rfl (fun hG => ?_)
  refine T_aload_n (i := 0) (pc' := 1) dX1_stepFrom_0 rfl rfl rfl ?_
  refine T_iload_n (i := 1) (pc' := 2) dX1_stepFrom_1 rfl rfl rfl ?_
  refine T_callV (av := [(0, v1)]) (st := []) (d2 := 1) (nc2 := 0) (ns2 := 0) (pc' := 5) dX1_stepFrom_2 rfl mtX1_across mvX1_across mlX1_103 cl1 (shg0 hg) rfl rfl (Nat.le_of_ble_eq_true rfl) (by decide) ⟨by decide, by decide⟩ rfl (pX1_across (E := E) (h := h) (M := M) (g := g) (v1 := v1) hg hG) (kF (st2 := [(0, (fX1_across M g v1))]) rfl (fun hG1 => ?_))
  refine T_iload_n (i := 2) (pc' := 6) dX1_stepFrom_5 rfl rfl rfl ?_
  refine T_iconst (pc' := 7) dX1_stepFrom_6 (by decide) rfl ?_
  have HJ2 : T E miX1_stepFrom 3 126 0 0 (fun r S M' => S = S0 ∧ G h M' ∧ Q r M') 24 [(2, g), (0, v1), (0, v2), (3, 0), (3, 0)] [(0, (if v2 = 1 then (1 : Int) else (if v2 = 3 then ((-1) : Int) else 0))), (0, (fX1_across M g v1))] S0 M 0 0 := by
    refine T_iadd (pc' := 25) dX1_stepFrom_24 rfl ?_
    refine T_istore_n (i := 3) (L' := [(2, g), (0, v1), (0, v2), (0, (wr32 ((fX1_across M g v1) + (if v2 = 1 then (1 : Int) else (if v2 = 3 then ((-1) : Int) else 0))))), (3, 0)]) (pc' := 26) dX1_stepFrom_25 rfl (by decide) rfl rfl ?_
    refine T_aload_n (i := 0) (pc' := 27) dX1_stepFrom_26 rfl rfl rfl ?_
    refine T_iload_n (i := 1) (pc' := 28) dX1_stepFrom_27 rfl rfl rfl ?_
    refine T_callV (av := [(0, v1)]) (st := []) (d2 := 1) (nc2 := 0) (ns2 := 0) (pc' := 31) dX1_stepFrom_28 rfl mtX1_down mvX1_down mlX1_111 cl1 (shg0 hg) rfl rfl (Nat.le_of_ble_eq_true rfl) (by decide) ⟨by decide, by decide⟩ rfl (pX1_down (E := E) (h := h) (M := M) (g := g) (v1 := v1) hg hG) (kF (st2 := [(0, (fX1_down M g v1))]) rfl (fun hG3 => ?_))
    refine T_iload_n (i := 2) (pc' := 32) dX1_stepFrom_31 rfl rfl rfl ?_
    refine T_iconst (pc' := 33) dX1_stepFrom_32 (by decide) rfl ?_
    have HJ4 : T E miX1_stepFrom 3 126 0 0 (fun r S M' => S = S0 ∧ G h M' ∧ Q r M') 49 [(2, g), (3, 0), (3, 0), (0, (wr32 ((fX1_across M g v1) + (if v2 = 1 then (1 : Int) else (if v2 = 3 then ((-1) : Int) else 0))))), (3, 0)] [(0, (if v2 = 2 then (1 : Int) else (if v2 = 0 then ((-1) : Int) else 0))), (0, (fX1_down M g v1))] S0 M 0 0 := by
      refine T_iadd (pc' := 50) dX1_stepFrom_49 rfl ?_
      refine T_istore (i := 4) (L' := [(2, g), (3, 0), (3, 0), (0, (wr32 ((fX1_across M g v1) + (if v2 = 1 then (1 : Int) else (if v2 = 3 then ((-1) : Int) else 0))))), (0, (wr32 ((fX1_down M g v1) + (if v2 = 2 then (1 : Int) else (if v2 = 0 then ((-1) : Int) else 0)))))]) (pc' := 52) dX1_stepFrom_50 (by decide) rfl rfl ?_
      refine T_iload_n (i := 3) (pc' := 53) dX1_stepFrom_52 rfl rfl rfl ?_
      refine T_if_lt (pc' := 78) dX1_stepFrom_53 (by decide) (pf := 56) rfl (fun c5 => ?_) (fun c5 => ?_)
      · skip
        refine T_iconst (pc' := 79) dX1_stepFrom_78 (by decide) rfl ?_
        exact T_iret dX1_stepFrom_79 rfl ⟨rfl, hG, (by rw [hQ]; exact ⟨(by unfold fX1_stepFrom; simp only [if_pos c5]), rfl⟩)⟩
      · skip
        refine T_iload_n (i := 3) (pc' := 57) dX1_stepFrom_56 rfl rfl rfl ?_
        refine T_aload_n (i := 0) (pc' := 58) dX1_stepFrom_57 rfl rfl rfl ?_
        refine U_gf (v := (0, (M g 9))) (k := 9) (kI := 9) (pc' := 61) dX1_stepFrom_58 rfl cl1 (pog0 hg) (shg0 hg) (by decide) flX1_58 rfl rfl (by decide) rfl rfl ?_
        refine T_icmp_ge (pc' := 78) dX1_stepFrom_61 (by decide) (pf := 64) rfl (fun c6 => ?_) (fun c6 => ?_)
        · skip
          refine T_iconst (pc' := 79) dX1_stepFrom_78 (by decide) rfl ?_
          exact T_iret dX1_stepFrom_79 rfl ⟨rfl, hG, (by rw [hQ]; exact ⟨(by unfold fX1_stepFrom; simp only [if_neg c5, if_pos c6]), rfl⟩)⟩
        · skip
          refine T_iload (i := 4) (pc' := 66) dX1_stepFrom_64 rfl rfl ?_
          refine T_if_lt (pc' := 78) dX1_stepFrom_66 (by decide) (pf := 69) rfl (fun c7 => ?_) (fun c7 => ?_)
          · skip
            refine T_iconst (pc' := 79) dX1_stepFrom_78 (by decide) rfl ?_
            exact T_iret dX1_stepFrom_79 rfl ⟨rfl, hG, (by rw [hQ]; exact ⟨(by unfold fX1_stepFrom; simp only [if_neg c5, if_neg c6, if_pos c7]), rfl⟩)⟩
          · skip
            refine T_iload (i := 4) (pc' := 71) dX1_stepFrom_69 rfl rfl ?_
            refine T_aload_n (i := 0) (pc' := 72) dX1_stepFrom_71 rfl rfl rfl ?_
            refine U_gf (v := (0, (M g 10))) (k := 10) (kI := 10) (pc' := 75) dX1_stepFrom_72 rfl cl1 (pog0 hg) (shg0 hg) (by decide) flX1_61 rfl rfl (by decide) rfl rfl ?_
            refine T_icmp_lt (pc' := 80) dX1_stepFrom_75 (by decide) (pf := 78) rfl (fun c8 => ?_) (fun c8 => ?_)
            · skip
              refine T_aload_n (i := 0) (pc' := 81) dX1_stepFrom_80 rfl rfl rfl ?_
              refine T_iload (i := 4) (pc' := 83) dX1_stepFrom_81 rfl rfl ?_
              refine T_aload_n (i := 0) (pc' := 84) dX1_stepFrom_83 rfl rfl rfl ?_
              refine U_gf (v := (0, (M g 9))) (k := 9) (kI := 9) (pc' := 87) dX1_stepFrom_84 rfl cl1 (pog0 hg) (shg0 hg) (by decide) flX1_58 rfl rfl (by decide) rfl rfl ?_
              refine T_imul (pc' := 88) dX1_stepFrom_87 rfl ?_
              refine T_iload_n (i := 3) (pc' := 89) dX1_stepFrom_88 rfl rfl rfl ?_
              refine T_iadd (pc' := 90) dX1_stepFrom_89 rfl ?_
              refine T_callV (av := [(0, (wr32 ((wr32 ((wr32 ((fX1_down M g v1) + (if v2 = 2 then (1 : Int) else (if v2 = 0 then ((-1) : Int) else 0)))) * (M g 9))) + (wr32 ((fX1_across M g v1) + (if v2 = 1 then (1 : Int) else (if v2 = 3 then ((-1) : Int) else 0)))))))]) (st := []) (d2 := 2) (nc2 := 0) (ns2 := 0) (pc' := 93) dX1_stepFrom_90 rfl mtX1_isFree mvX1_isFree mlX1_114 cl1 (shg0 hg) rfl rfl (Nat.le_of_ble_eq_true rfl) (by decide) ⟨by decide, by decide⟩ rfl (pX1_isFree (E := E) (h := h) (M := M) (g := g) (v1 := (wr32 ((wr32 ((wr32 ((fX1_down M g v1) + (if v2 = 2 then (1 : Int) else (if v2 = 0 then ((-1) : Int) else 0)))) * (M g 9))) + (wr32 ((fX1_across M g v1) + (if v2 = 1 then (1 : Int) else (if v2 = 3 then ((-1) : Int) else 0))))))) hg hG) (kF (st2 := [(0, (fX1_isFree M g (wr32 ((wr32 ((wr32 ((fX1_down M g v1) + (if v2 = 2 then (1 : Int) else (if v2 = 0 then ((-1) : Int) else 0)))) * (M g 9))) + (wr32 ((fX1_across M g v1) + (if v2 = 1 then (1 : Int) else (if v2 = 3 then ((-1) : Int) else 0))))))))]) rfl (fun hG9 => ?_))
              have HJ10 : T E miX1_stepFrom 3 126 0 0 (fun r S M' => S = S0 ∧ G h M' ∧ Q r M') 109 [(3, 0), (3, 0), (3, 0), (3, 0), (3, 0)] [(0, (if (fX1_isFree M g (wr32 ((wr32 ((wr32 ((fX1_down M g v1) + (if v2 = 2 then (1 : Int) else (if v2 = 0 then ((-1) : Int) else 0)))) * (M g 9))) + (wr32 ((fX1_across M g v1) + (if v2 = 1 then (1 : Int) else (if v2 = 3 then ((-1) : Int) else 0))))))) = 0 then ((-1) : Int) else (wr32 ((wr32 ((wr32 ((fX1_down M g v1) + (if v2 = 2 then (1 : Int) else (if v2 = 0 then ((-1) : Int) else 0)))) * (M g 9))) + (wr32 ((fX1_across M g v1) + (if v2 = 1 then (1 : Int) else (if v2 = 3 then ((-1) : Int) else 0))))))))] S0 M 0 0 := by
                exact T_iret dX1_stepFrom_109 rfl ⟨rfl, hG, (by rw [hQ]; exact ⟨(by unfold fX1_stepFrom; simp only [if_neg c5, if_neg c6, if_neg c7, if_pos c8]), rfl⟩)⟩
              refine T_if_eq (pc' := 108) dX1_stepFrom_93 (by decide) (pf := 96) rfl (fun c11 => ?_) (fun c11 => ?_)
              · skip
                refine T_iconst (pc' := 109) dX1_stepFrom_108 (by decide) rfl ?_
                exact T_wk (L' := [(3, 0), (3, 0), (3, 0), (3, 0), (3, 0)]) (by have q := HJ10; try simp only [if_pos c11] at q; exact q) ⟨Or.inl rfl, Or.inl rfl, Or.inl rfl, Or.inl rfl, Or.inl rfl, trivial⟩
              · skip
                refine T_iload (i := 4) (pc' := 98) dX1_stepFrom_96 rfl rfl ?_
                refine T_aload_n (i := 0) (pc' := 99) dX1_stepFrom_98 rfl rfl rfl ?_
                refine U_gf (v := (0, (M g 9))) (k := 9) (kI := 9) (pc' := 102) dX1_stepFrom_99 rfl cl1 (pog0 hg) (shg0 hg) (by decide) flX1_58 rfl rfl (by decide) rfl rfl ?_
                refine T_imul (pc' := 103) dX1_stepFrom_102 rfl ?_
                refine T_iload_n (i := 3) (pc' := 104) dX1_stepFrom_103 rfl rfl rfl ?_
                refine T_iadd (pc' := 105) dX1_stepFrom_104 rfl ?_
                refine T_goto (pc' := 109) dX1_stepFrom_105 (by decide) ?_
                exact T_wk (L' := [(3, 0), (3, 0), (3, 0), (3, 0), (3, 0)]) (by have q := HJ10; try simp only [if_neg c11] at q; exact q) ⟨Or.inl rfl, Or.inl rfl, Or.inl rfl, Or.inl rfl, Or.inl rfl, trivial⟩
            · skip
              refine T_iconst (pc' := 79) dX1_stepFrom_78 (by decide) rfl ?_
              exact T_iret dX1_stepFrom_79 rfl ⟨rfl, hG, (by rw [hQ]; exact ⟨(by unfold fX1_stepFrom; simp only [if_neg c5, if_neg c6, if_neg c7, if_neg c8]), rfl⟩)⟩
    refine T_icmp_ne (pc' := 40) dX1_stepFrom_33 (by decide) (pf := 36) rfl (fun c12 => ?_) (fun c12 => ?_)
    · skip
      refine T_iload_n (i := 2) (pc' := 41) dX1_stepFrom_40 rfl rfl rfl ?_
      refine T_if_ne (pc' := 48) dX1_stepFrom_41 (by decide) (pf := 44) rfl (fun c13 => ?_) (fun c13 => ?_)
      · skip
        refine T_iconst (pc' := 49) dX1_stepFrom_48 (by decide) rfl ?_
        exact T_wk (L' := [(2, g), (3, 0), (3, 0), (0, (wr32 ((fX1_across M g v1) + (if v2 = 1 then (1 : Int) else (if v2 = 3 then ((-1) : Int) else 0))))), (3, 0)]) (by have q := HJ4; try simp only [if_neg c12] at q; try simp only [if_neg c13] at q; exact q) ⟨Or.inr rfl, Or.inl rfl, Or.inl rfl, Or.inr rfl, Or.inl rfl, trivial⟩
      · skip
        refine T_iconst (pc' := 45) dX1_stepFrom_44 (by decide) rfl ?_
        refine T_goto (pc' := 49) dX1_stepFrom_45 (by decide) ?_
        exact T_wk (L' := [(2, g), (3, 0), (3, 0), (0, (wr32 ((fX1_across M g v1) + (if v2 = 1 then (1 : Int) else (if v2 = 3 then ((-1) : Int) else 0))))), (3, 0)]) (by have q := HJ4; try simp only [if_neg c12] at q; try simp only [if_pos c13] at q; exact q) ⟨Or.inr rfl, Or.inl rfl, Or.inl rfl, Or.inr rfl, Or.inl rfl, trivial⟩
    · skip
      refine T_iconst (pc' := 37) dX1_stepFrom_36 (by decide) rfl ?_
      refine T_goto (pc' := 49) dX1_stepFrom_37 (by decide) ?_
      exact T_wk (L' := [(2, g), (3, 0), (3, 0), (0, (wr32 ((fX1_across M g v1) + (if v2 = 1 then (1 : Int) else (if v2 = 3 then ((-1) : Int) else 0))))), (3, 0)]) (by have q := HJ4; try simp only [if_pos c12] at q; exact q) ⟨Or.inr rfl, Or.inl rfl, Or.inl rfl, Or.inr rfl, Or.inl rfl, trivial⟩
  refine T_icmp_ne (pc' := 14) dX1_stepFrom_7 (by decide) (pf := 10) rfl (fun c14 => ?_) (fun c14 => ?_)
  · skip
    refine T_iload_n (i := 2) (pc' := 15) dX1_stepFrom_14 rfl rfl rfl ?_
    refine T_iconst (pc' := 16) dX1_stepFrom_15 (by decide) rfl ?_
    refine T_icmp_ne (pc' := 23) dX1_stepFrom_16 (by decide) (pf := 19) rfl (fun c15 => ?_) (fun c15 => ?_)
    · skip
      refine T_iconst (pc' := 24) dX1_stepFrom_23 (by decide) rfl ?_
      exact T_wk (L' := [(2, g), (0, v1), (0, v2), (3, 0), (3, 0)]) (by have q := HJ2; try simp only [if_neg c14] at q; try simp only [if_neg c15] at q; exact q) ⟨Or.inr rfl, Or.inr rfl, Or.inr rfl, Or.inl rfl, Or.inl rfl, trivial⟩
    · skip
      refine T_iconst (pc' := 20) dX1_stepFrom_19 (by decide) rfl ?_
      refine T_goto (pc' := 24) dX1_stepFrom_20 (by decide) ?_
      exact T_wk (L' := [(2, g), (0, v1), (0, v2), (3, 0), (3, 0)]) (by have q := HJ2; try simp only [if_neg c14] at q; try simp only [if_pos c15] at q; exact q) ⟨Or.inr rfl, Or.inr rfl, Or.inr rfl, Or.inl rfl, Or.inl rfl, trivial⟩
  · skip
    refine T_iconst (pc' := 11) dX1_stepFrom_10 (by decide) rfl ?_
    refine T_goto (pc' := 24) dX1_stepFrom_11 (by decide) ?_
    exact T_wk (L' := [(2, g), (0, v1), (0, v2), (3, 0), (3, 0)]) (by have q := HJ2; try simp only [if_pos c14] at q; exact q) ⟨Or.inr rfl, Or.inr rfl, Or.inr rfl, Or.inl rfl, Or.inl rfl, trivial⟩
def lX1_cellsAround_5 (g : Int) : Nat → Int → Int → Int → Int → Mem → Int
  | 0, v1, v2, v3, v5, M => v3
  | k + 1, v1, v2, v3, v5, M => (lX1_cellsAround_5 g k v1 v2 (if v2 < (fX1_distance M g v1 v5) then v3 else (m_lor v3 (m_lshl 1 v5))) (v5 + 1) M)
set_option maxRecDepth 100000 in
set_option maxHeartbeats 2000000 in
theorem qX1_cellsAround_5 {E : EV} {h : Int} {Q : Option MV → Mem → Prop} {g : Int} (hg : isG g) : ∀ (k : Nat) (v1 v2 v3 v5 : Int) (M : Mem), 0 ≤ v5 → (((fX1_cells M g)) - v5).toNat = k → Q (some (1, (lX1_cellsAround_5 g k v1 v2 v3 v5 M))) M → G h M → TG E miX1_cellsAround 3 h Q 5 [(2, g), (0, v1), (0, v2), (1, v3), (3, 0), (0, v5)] [] M := by
  intro k
  induction k with
  | zero =>
    intro v1 v2 v3 v5 M hv0 hk hQ hG
    have hQ : Q (some (1, v3)) M := hQ
    refine T_iload (i := 5) (pc' := 7) dX1_cellsAround_5 rfl rfl ?_
    refine T_aload_n (i := 0) (pc' := 8) dX1_cellsAround_7 rfl rfl rfl ?_
    refine T_callV (av := []) (st := [(0, v5)]) (d2 := 1) (nc2 := 0) (ns2 := 0) (pc' := 11) dX1_cellsAround_8 rfl mtX1_cells mvX1_cells mlX1_85 cl1 (shg0 hg) rfl rfl (Nat.le_of_ble_eq_true rfl) (by decide) ⟨by decide, by decide⟩ rfl (pX1_cells (E := E) (h := h) (M := M) (g := g) hg hG) (kF (st2 := [(0, (fX1_cells M g)), (0, v5)]) rfl (fun hG1 => ?_))
    refine T_rng (fun _ z9 _ => ?_)
    have hB : r32 (fX1_cells M g) := (ok_cons.mp z9).1
    unfold r32 at hB
    refine T_icmp_ge (pc' := 38) dX1_cellsAround_11 (by decide) (pf := 14) rfl (fun c2 => ?_) (fun c2 => ?_)
    · skip
      refine T_lload_n (i := 3) (pc' := 39) dX1_cellsAround_38 rfl rfl rfl ?_
      exact T_lret dX1_cellsAround_39 rfl ⟨rfl, hG, hQ⟩
    · exact absurd c2 (by omega)
  | succ k ih =>
    intro v1 v2 v3 v5 M hv0 hk hQ hG
    have hQ : Q (some (1, (lX1_cellsAround_5 g k v1 v2 (if v2 < (fX1_distance M g v1 v5) then v3 else (m_lor v3 (m_lshl 1 v5))) (v5 + 1) M))) M := hQ
    refine T_iload (i := 5) (pc' := 7) dX1_cellsAround_5 rfl rfl ?_
    refine T_aload_n (i := 0) (pc' := 8) dX1_cellsAround_7 rfl rfl rfl ?_
    refine T_callV (av := []) (st := [(0, v5)]) (d2 := 1) (nc2 := 0) (ns2 := 0) (pc' := 11) dX1_cellsAround_8 rfl mtX1_cells mvX1_cells mlX1_85 cl1 (shg0 hg) rfl rfl (Nat.le_of_ble_eq_true rfl) (by decide) ⟨by decide, by decide⟩ rfl (pX1_cells (E := E) (h := h) (M := M) (g := g) hg hG) (kF (st2 := [(0, (fX1_cells M g)), (0, v5)]) rfl (fun hG1 => ?_))
    refine T_rng (fun _ z9 _ => ?_)
    have hB : r32 (fX1_cells M g) := (ok_cons.mp z9).1
    unfold r32 at hB
    refine T_icmp_ge (pc' := 38) dX1_cellsAround_11 (by decide) (pf := 14) rfl (fun c2 => ?_) (fun c2 => ?_)
    · exact absurd c2 (by omega)
    · skip
      have hw : wr32 (v5 + 1) = v5 + 1 := wr32_id (by unfold r32; omega)
      refine T_aload_n (i := 0) (pc' := 15) dX1_cellsAround_14 rfl rfl rfl ?_
      refine T_iload_n (i := 1) (pc' := 16) dX1_cellsAround_15 rfl rfl rfl ?_
      refine T_iload (i := 5) (pc' := 18) dX1_cellsAround_16 rfl rfl ?_
      refine T_callV (av := [(0, v1), (0, v5)]) (st := []) (d2 := 2) (nc2 := 0) (ns2 := 0) (pc' := 21) dX1_cellsAround_18 rfl mtX1_distance mvX1_distance mlX1_118 cl1 (shg0 hg) rfl rfl (Nat.le_of_ble_eq_true rfl) (by decide) ⟨by decide, by decide⟩ rfl (pX1_distance (E := E) (h := h) (M := M) (g := g) (v1 := v1) (v2 := v5) hg hG) (kF (st2 := [(0, (fX1_distance M g v1 v5))]) rfl (fun hG3 => ?_))
      refine T_iload_n (i := 2) (pc' := 22) dX1_cellsAround_21 rfl rfl rfl ?_
      have HJ4 : T E miX1_cellsAround 3 126 0 0 (fun r S M' => S = S0 ∧ G h M' ∧ Q r M') 32 [(2, g), (0, v1), (0, v2), (1, (if v2 < (fX1_distance M g v1 v5) then v3 else (m_lor v3 (m_lshl 1 v5)))), (3, 0), (0, v5)] [] S0 M 0 0 := by
        refine T_iinc (L' := [(2, g), (0, v1), (0, v2), (1, (if v2 < (fX1_distance M g v1 v5) then v3 else (m_lor v3 (m_lshl 1 v5)))), (3, 0), (0, (wr32 (v5 + 1)))]) (pc' := 35) dX1_cellsAround_32 rfl (by decide) rfl rfl ?_
        refine T_goto (pc' := 5) dX1_cellsAround_35 (by decide) ?_
        rw [hw]
        exact T_wk (ih _ _ _ (v5 + 1) _ (by omega) (by omega) hQ hG) ⟨Or.inr rfl, Or.inr rfl, Or.inr rfl, Or.inr rfl, Or.inl rfl, Or.inr rfl, trivial⟩
      refine T_icmp_gt (pc' := 32) dX1_cellsAround_22 (by decide) (pf := 25) rfl (fun c5 => ?_) (fun c5 => ?_)
      · skip
        exact T_wk (L' := [(2, g), (0, v1), (0, v2), (1, v3), (3, 0), (0, v5)]) (by have q := HJ4; try simp only [if_pos c5] at q; exact q) ⟨Or.inr rfl, Or.inr rfl, Or.inr rfl, Or.inr rfl, Or.inl rfl, Or.inr rfl, trivial⟩
      · skip
        refine T_lload_n (i := 3) (pc' := 26) dX1_cellsAround_25 rfl rfl rfl ?_
        refine T_lconst (v := 1) (pc' := 27) dX1_cellsAround_26 rfl (by decide) rfl ?_
        refine T_iload (i := 5) (pc' := 29) dX1_cellsAround_27 rfl rfl ?_
        refine T_lshl (pc' := 30) dX1_cellsAround_29 rfl ?_
        refine T_lor (pc' := 31) dX1_cellsAround_30 rfl ?_
        refine T_lstore_n (i := 3) (L' := [(2, g), (0, v1), (0, v2), (1, (m_lor v3 (m_lshl 1 v5))), (3, 0), (0, v5)]) (pc' := 32) dX1_cellsAround_31 rfl (by decide) rfl rfl ?_
        exact T_wk (L' := [(2, g), (0, v1), (0, v2), (1, (m_lor v3 (m_lshl 1 v5))), (3, 0), (0, v5)]) (by have q := HJ4; try simp only [if_neg c5] at q; exact q) ⟨Or.inr rfl, Or.inr rfl, Or.inr rfl, Or.inr rfl, Or.inl rfl, Or.inr rfl, trivial⟩
def fX1_cellsAround (M : Mem) (g : Int) (v1 : Int) (v2 : Int) : Int :=
  (lX1_cellsAround_5 g ((((fX1_cells M g)) : Int) - 0).toNat v1 v2 0 0 M)
set_option maxRecDepth 100000 in
theorem pX1_cellsAround {E : EV} {h : Int} {M : Mem} {g : Int} {v1 : Int} {v2 : Int} (hg : isG g) : C2 E miX1_cellsAround 3 h [(2, g), (0, v1), (0, v2)] M (fun r M' => r = some (1, (fX1_cellsAround M g v1 v2)) ∧ M' = M) := by
  obtain ⟨Q, hQ0⟩ : ∃ Q : Option MV → Mem → Prop, Q = (fun r M' => r = some (1, (fX1_cellsAround M g v1 v2)) ∧ M' = M) := ⟨_, rfl⟩
  rw [← hQ0]
  have hQ : Q (some (1, (lX1_cellsAround_5 g ((((fX1_cells M g)) : Int) - 0).toNat v1 v2 0 0 M))) M := by rw [hQ0]; exact ⟨rfl, rfl⟩
  refine C2_of (L := [(2, g), (0, v1), (0, v2), (3, 0), (3, 0), (3, 0)]) (by decide +kernel) (Nat.le_of_ble_eq_true rfl) rfl (fun hG => ?_)
  refine T_lconst (v := 0) (pc' := 1) dX1_cellsAround_0 rfl (by decide) rfl ?_
  refine T_lstore_n (i := 3) (L' := [(2, g), (0, v1), (0, v2), (1, 0), (3, 0), (3, 0)]) (pc' := 2) dX1_cellsAround_1 rfl (by decide) rfl rfl ?_
  refine T_iconst (pc' := 3) dX1_cellsAround_2 (by decide) rfl ?_
  refine T_istore (i := 5) (L' := [(2, g), (0, v1), (0, v2), (1, 0), (3, 0), (0, 0)]) (pc' := 5) dX1_cellsAround_3 (by decide) rfl rfl ?_
  exact T_wk (qX1_cellsAround_5 hg _ v1 v2 0 0 _ (by first | decide | omega) rfl hQ hG) ⟨Or.inr rfl, Or.inr rfl, Or.inr rfl, Or.inr rfl, Or.inl rfl, Or.inr rfl, trivial⟩
def lmX1_findNearCells_2 (g : Int) : Nat → Int → Mem → Mem
  | 0, v1, M => M
  | k + 1, v1, M => (if 54 ≤ v1 then M else (lmX1_findNearCells_2 g k (v1 + 1) (mset M (g + 16) v1 (fX1_cellsAround M g v1 (M g 16)))))
theorem frlX1_findNearCells_2 {g : Int} {q : Int} (hq0 : q ≠ (g + 16)) : ∀ {k : Nat} {v1 : Int} {M : Mem}, (lmX1_findNearCells_2 g k v1 M) q = M q := by
  intro k
  induction k with
  | zero =>
    intro v1 M
    show M q = M q
    exact rfl
  | succ k ih =>
    intro v1 M
    show (if 54 ≤ v1 then M else (lmX1_findNearCells_2 g k (v1 + 1) (mset M (g + 16) v1 (fX1_cellsAround M g v1 (M g 16))))) q = M q
    exact (ite_q rfl ((ih).trans ((mset_p hq0).trans rfl)))
theorem glX1_findNearCells_2 {h : Int} {g : Int} (hg : isG g) : ∀ {k : Nat} {v1 : Int} {M : Mem}, G h M → G h (lmX1_findNearCells_2 g k v1 M) := by
  intro k
  induction k with
  | zero =>
    intro v1 M hG
    show G h M
    exact hG
  | succ k ih =>
    intro v1 M hG
    show G h (if 54 ≤ v1 then M else (lmX1_findNearCells_2 g k (v1 + 1) (mset M (g + 16) v1 (fX1_cellsAround M g v1 (M g 16)))))
    exact (G_ite hG (ih (G_arr (x := (g + 16)) (i := v1) (y := (fX1_cellsAround M g v1 (M g 16))) (shg16 hg) (pog16 hg) hG)))
set_option maxRecDepth 100000 in
set_option maxHeartbeats 2000000 in
theorem qX1_findNearCells_2 {E : EV} {h : Int} {Q : Option MV → Mem → Prop} {g : Int} (hg : isG g) : ∀ (k : Nat) (v1 : Int) (M : Mem), 0 ≤ v1 → (((fX1_cells M g)) - v1).toNat = k → Q none (lmX1_findNearCells_2 g k v1 M) → G h M → TG E miX1_findNearCells 4 h Q 2 [(2, g), (0, v1)] [] M := by
  intro k
  induction k with
  | zero =>
    intro v1 M hv0 hk hQ hG
    have hQ : Q none M := hQ
    refine T_iload_n (i := 1) (pc' := 3) dX1_findNearCells_2 rfl rfl rfl ?_
    refine T_aload_n (i := 0) (pc' := 4) dX1_findNearCells_3 rfl rfl rfl ?_
    refine T_callV (av := []) (st := [(0, v1)]) (d2 := 1) (nc2 := 0) (ns2 := 0) (pc' := 7) dX1_findNearCells_4 rfl mtX1_cells mvX1_cells mlX1_85 cl1 (shg0 hg) rfl rfl (Nat.le_of_ble_eq_true rfl) (by decide) ⟨by decide, by decide⟩ rfl (pX1_cells (E := E) (h := h) (M := M) (g := g) hg hG) (kF (st2 := [(0, (fX1_cells M g)), (0, v1)]) rfl (fun hG1 => ?_))
    refine T_rng (fun _ z9 _ => ?_)
    have hB : r32 (fX1_cells M g) := (ok_cons.mp z9).1
    unfold r32 at hB
    refine T_icmp_ge (pc' := 40) dX1_findNearCells_7 (by decide) (pf := 10) rfl (fun c2 => ?_) (fun c2 => ?_)
    · skip
      exact T_vret dX1_findNearCells_40 rfl ⟨rfl, hG, hQ⟩
    · exact absurd c2 (by omega)
  | succ k ih =>
    intro v1 M hv0 hk hQ hG
    have hQ : Q none (if 54 ≤ v1 then M else (lmX1_findNearCells_2 g k (v1 + 1) (mset M (g + 16) v1 (fX1_cellsAround M g v1 (M g 16))))) := hQ
    refine T_iload_n (i := 1) (pc' := 3) dX1_findNearCells_2 rfl rfl rfl ?_
    refine T_aload_n (i := 0) (pc' := 4) dX1_findNearCells_3 rfl rfl rfl ?_
    refine T_callV (av := []) (st := [(0, v1)]) (d2 := 1) (nc2 := 0) (ns2 := 0) (pc' := 7) dX1_findNearCells_4 rfl mtX1_cells mvX1_cells mlX1_85 cl1 (shg0 hg) rfl rfl (Nat.le_of_ble_eq_true rfl) (by decide) ⟨by decide, by decide⟩ rfl (pX1_cells (E := E) (h := h) (M := M) (g := g) hg hG) (kF (st2 := [(0, (fX1_cells M g)), (0, v1)]) rfl (fun hG1 => ?_))
    refine T_rng (fun _ z9 _ => ?_)
    have hB : r32 (fX1_cells M g) := (ok_cons.mp z9).1
    unfold r32 at hB
    refine T_icmp_ge (pc' := 40) dX1_findNearCells_7 (by decide) (pf := 10) rfl (fun c2 => ?_) (fun c2 => ?_)
    · exact absurd c2 (by omega)
    · skip
      have hw : wr32 (v1 + 1) = v1 + 1 := wr32_id (by unfold r32; omega)
      refine T_iload_n (i := 1) (pc' := 11) dX1_findNearCells_10 rfl rfl rfl ?_
      refine T_aload_n (i := 0) (pc' := 12) dX1_findNearCells_11 rfl rfl rfl ?_
      refine U_gr (q := (g + 16)) (k := 8) (kI := 8) (pc' := 15) dX1_findNearCells_12 rfl cl1 (pog0 hg) (shg0 hg) (by decide) flX1_40 rfl rfl rfl (grg0_8 hg hG) (pog16 hg) rfl ?_
      refine U_alen (nI := 54) (pc' := 16) dX1_findNearCells_15 (by decide) (by decide) (shg16 hg) rfl rfl ?_
      refine T_icmp_ge (pc' := 40) dX1_findNearCells_16 (by decide) (pf := 19) rfl (fun c3 => ?_) (fun c3 => ?_)
      · skip
        exact T_vret dX1_findNearCells_40 rfl ⟨rfl, hG, (by have q := hQ; try simp only [if_pos c3] at q; exact q)⟩
      · skip
        refine T_aload_n (i := 0) (pc' := 20) dX1_findNearCells_19 rfl rfl rfl ?_
        refine U_gr (q := (g + 16)) (k := 8) (kI := 8) (pc' := 23) dX1_findNearCells_20 rfl cl1 (pog0 hg) (shg0 hg) (by decide) flX1_40 rfl rfl rfl (grg0_8 hg hG) (pog16 hg) rfl ?_
        refine T_iload_n (i := 1) (pc' := 24) dX1_findNearCells_23 rfl rfl rfl ?_
        refine T_aload_n (i := 0) (pc' := 25) dX1_findNearCells_24 rfl rfl rfl ?_
        refine T_iload_n (i := 1) (pc' := 26) dX1_findNearCells_25 rfl rfl rfl ?_
        refine T_aload_n (i := 0) (pc' := 27) dX1_findNearCells_26 rfl rfl rfl ?_
        refine U_gf (v := (0, (M g 16))) (k := 16) (kI := 16) (pc' := 30) dX1_findNearCells_27 rfl cl1 (pog0 hg) (shg0 hg) (by decide) flX1_79 rfl rfl (by decide) rfl rfl ?_
        refine T_callV (av := [(0, v1), (0, (M g 16))]) (st := [(0, v1), (2, (g + 16))]) (d2 := 3) (nc2 := 0) (ns2 := 0) (pc' := 33) dX1_findNearCells_30 rfl mtX1_cellsAround mvX1_cellsAround mlX1_122 cl1 (shg0 hg) rfl rfl (Nat.le_of_ble_eq_true rfl) (by decide) ⟨by decide, by decide⟩ rfl (pX1_cellsAround (E := E) (h := h) (M := M) (g := g) (v1 := v1) (v2 := (M g 16)) hg hG) (kF (st2 := [(1, (fX1_cellsAround M g v1 (M g 16))), (0, v1), (2, (g + 16))]) rfl (fun hG4 => ?_))
        refine T_last (pc' := 34) dX1_findNearCells_33 (pog16 hg) (shg16 hg) (by omega) (by omega) rfl ?_
        refine T_iinc (L' := [(2, g), (0, (wr32 (v1 + 1)))]) (pc' := 37) dX1_findNearCells_34 rfl (by decide) rfl rfl ?_
        refine T_goto (pc' := 2) dX1_findNearCells_37 (by decide) ?_
        rw [hw]
        have hp0 : (mset M (g + 16) v1 (fX1_cellsAround M g v1 (M g 16))) g = M g := by
          exact ((mset_p (by first | decide | (unfold isG at *; omega) | exact rowne (by unfold isG at *; omega) (by unfold isG at *; omega) (by unfold isG at *; omega))).trans rfl)
        have hbd : (fX1_cells (mset M (g + 16) v1 (fX1_cellsAround M g v1 (M g 16))) g) = (fX1_cells M g) := by
          simp only [fX1_cells, hp0]
        exact T_wk (ih (v1 + 1) _ (by omega) (by rw [hbd]; omega) (by have q := hQ; try simp only [if_neg c3] at q; exact q) (G_arr (x := (g + 16)) (i := v1) (y := (fX1_cellsAround M g v1 (M g 16))) (shg16 hg) (pog16 hg) hG)) ⟨Or.inr rfl, Or.inr rfl, trivial⟩
def fmX1_findNearCells (M : Mem) (g : Int) : Mem :=
  (lmX1_findNearCells_2 g ((((fX1_cells M g)) : Int) - 0).toNat 0 M)
theorem frX1_findNearCells {M : Mem} {g : Int} {q : Int} (hq0 : q ≠ (g + 16)) : (fmX1_findNearCells M g) q = M q := by
  unfold fmX1_findNearCells
  exact ((frlX1_findNearCells_2 hq0).trans rfl)
theorem gX1_findNearCells {h : Int} {M : Mem} {g : Int} (hg : isG g) (hG : G h M) : G h (fmX1_findNearCells M g) := by
  unfold fmX1_findNearCells
  exact (glX1_findNearCells_2 hg hG)
set_option maxRecDepth 100000 in
theorem pX1_findNearCells {E : EV} {h : Int} {M : Mem} {g : Int} (hg : isG g) : C2 E miX1_findNearCells 4 h [(2, g)] M (fun r M' => r = none ∧ M' = (fmX1_findNearCells M g)) := by
  obtain ⟨Q, hQ0⟩ : ∃ Q : Option MV → Mem → Prop, Q = (fun r M' => r = none ∧ M' = (fmX1_findNearCells M g)) := ⟨_, rfl⟩
  rw [← hQ0]
  have hQ : Q none (lmX1_findNearCells_2 g ((((fX1_cells M g)) : Int) - 0).toNat 0 M) := by rw [hQ0]; exact ⟨rfl, rfl⟩
  refine C2_of (L := [(2, g), (3, 0)]) (by decide +kernel) (Nat.le_of_ble_eq_true rfl) rfl (fun hG => ?_)
  refine T_iconst (pc' := 1) dX1_findNearCells_0 (by decide) rfl ?_
  refine T_istore_n (i := 1) (L' := [(2, g), (0, 0)]) (pc' := 2) dX1_findNearCells_1 rfl (by decide) rfl rfl ?_
  exact T_wk (qX1_findNearCells_2 hg _ 0 _ (by first | decide | omega) rfl hQ hG) ⟨Or.inr rfl, Or.inr rfl, trivial⟩
def fX1_isNear (M : Mem) (g : Int) (v1 : Int) (v2 : Int) : Int :=
  (if v1 < 0 then (0 : Int) else (if 54 ≤ v1 then (0 : Int) else (if (m_cmp (m_land (m_lshr (M (g + 16) v1) v2) 1) 1) = 0 then (1 : Int) else 0)))
set_option maxRecDepth 100000 in
theorem pX1_isNear {E : EV} {h : Int} {M : Mem} {g : Int} {v1 : Int} {v2 : Int} (hg : isG g) : C2 E miX1_isNear 1 h [(2, g), (0, v1), (0, v2)] M (fun r M' => r = some (0, (fX1_isNear M g v1 v2)) ∧ M' = M) := by
  obtain ⟨Q, hQ⟩ : ∃ Q : Option MV → Mem → Prop, Q = (fun r M' => r = some (0, (fX1_isNear M g v1 v2)) ∧ M' = M) := ⟨_, rfl⟩
  rw [← hQ]
  refine C2_of (L := [(2, g), (0, v1), (0, v2)]) (by decide +kernel) (Nat.le_of_ble_eq_true rfl) rfl (fun hG => ?_)
  refine T_iload_n (i := 1) (pc' := 1) dX1_isNear_0 rfl rfl rfl ?_
  have HJ1 : T E miX1_isNear 1 126 0 0 (fun r S M' => S = S0 ∧ G h M' ∧ Q r M') 33 [(3, 0), (3, 0), (3, 0)] [(0, (if v1 < 0 then (0 : Int) else (if 54 ≤ v1 then (0 : Int) else (if (m_cmp (m_land (m_lshr (M (g + 16) v1) v2) 1) 1) = 0 then (1 : Int) else 0))))] S0 M 0 0 := by
    exact T_zret dX1_isNear_33 rfl (by repeat' (first | apply bi | exact Or.inl rfl | exact Or.inr rfl)) ⟨rfl, hG, (by rw [hQ]; exact ⟨rfl, rfl⟩)⟩
  refine T_if_lt (pc' := 32) dX1_isNear_1 (by decide) (pf := 4) rfl (fun c2 => ?_) (fun c2 => ?_)
  · skip
    refine T_iconst (pc' := 33) dX1_isNear_32 (by decide) rfl ?_
    exact T_wk (L' := [(3, 0), (3, 0), (3, 0)]) (by have q := HJ1; try simp only [if_pos c2] at q; exact q) ⟨Or.inl rfl, Or.inl rfl, Or.inl rfl, trivial⟩
  · skip
    refine T_iload_n (i := 1) (pc' := 5) dX1_isNear_4 rfl rfl rfl ?_
    refine T_aload_n (i := 0) (pc' := 6) dX1_isNear_5 rfl rfl rfl ?_
    refine U_gr (q := (g + 16)) (k := 8) (kI := 8) (pc' := 9) dX1_isNear_6 rfl cl1 (pog0 hg) (shg0 hg) (by decide) flX1_40 rfl rfl rfl (grg0_8 hg hG) (pog16 hg) rfl ?_
    refine U_alen (nI := 54) (pc' := 10) dX1_isNear_9 (by decide) (by decide) (shg16 hg) rfl rfl ?_
    refine T_icmp_ge (pc' := 32) dX1_isNear_10 (by decide) (pf := 13) rfl (fun c3 => ?_) (fun c3 => ?_)
    · skip
      refine T_iconst (pc' := 33) dX1_isNear_32 (by decide) rfl ?_
      exact T_wk (L' := [(3, 0), (3, 0), (3, 0)]) (by have q := HJ1; try simp only [if_neg c2] at q; try simp only [if_pos c3] at q; exact q) ⟨Or.inl rfl, Or.inl rfl, Or.inl rfl, trivial⟩
    · skip
      refine T_aload_n (i := 0) (pc' := 14) dX1_isNear_13 rfl rfl rfl ?_
      refine U_gr (q := (g + 16)) (k := 8) (kI := 8) (pc' := 17) dX1_isNear_14 rfl cl1 (pog0 hg) (shg0 hg) (by decide) flX1_40 rfl rfl rfl (grg0_8 hg hG) (pog16 hg) rfl ?_
      refine T_iload_n (i := 1) (pc' := 18) dX1_isNear_17 rfl rfl rfl ?_
      refine T_lald (pc' := 19) dX1_isNear_18 (pog16 hg) (shg16 hg) (by omega) (by omega) rfl ?_
      refine T_iload_n (i := 2) (pc' := 20) dX1_isNear_19 rfl rfl rfl ?_
      refine T_lshr (pc' := 21) dX1_isNear_20 rfl ?_
      refine T_lconst (v := 1) (pc' := 22) dX1_isNear_21 rfl (by decide) rfl ?_
      refine T_land (pc' := 23) dX1_isNear_22 rfl ?_
      refine T_lconst (v := 1) (pc' := 24) dX1_isNear_23 rfl (by decide) rfl ?_
      refine T_lcmp (pc' := 25) dX1_isNear_24 rfl ?_
      refine T_if_ne (pc' := 32) dX1_isNear_25 (by decide) (pf := 28) rfl (fun c4 => ?_) (fun c4 => ?_)
      · skip
        refine T_iconst (pc' := 33) dX1_isNear_32 (by decide) rfl ?_
        exact T_wk (L' := [(3, 0), (3, 0), (3, 0)]) (by have q := HJ1; try simp only [if_neg c2] at q; try simp only [if_neg c3] at q; try simp only [if_neg c4] at q; exact q) ⟨Or.inl rfl, Or.inl rfl, Or.inl rfl, trivial⟩
      · skip
        refine T_iconst (pc' := 29) dX1_isNear_28 (by decide) rfl ?_
        refine T_goto (pc' := 33) dX1_isNear_29 (by decide) ?_
        exact T_wk (L' := [(3, 0), (3, 0), (3, 0)]) (by have q := HJ1; try simp only [if_neg c2] at q; try simp only [if_neg c3] at q; try simp only [if_pos c4] at q; exact q) ⟨Or.inl rfl, Or.inl rfl, Or.inl rfl, trivial⟩
theorem fbX1_isNear (M : Mem) (g : Int) (v1 : Int) (v2 : Int) : (fX1_isNear M g v1 v2) = 0 ∨ (fX1_isNear M g v1 v2) = 1 := by
  unfold fX1_isNear
  repeat' (first | apply bi | exact Or.inl rfl | exact Or.inr rfl)
def fX1_mayBe (M : Mem) (g : Int) (v1 : Int) (v2 : Int) : Int :=
  (if v1 = 0 then (if v2 < 0 then (0 : Int) else (if 120 < v2 then (0 : Int) else 1)) else (if v1 = 1 then (if v2 < 0 then (0 : Int) else (if 9 < v2 then (0 : Int) else 1)) else (if v1 = 2 then (fX1_isFree M g v2) else 0)))
set_option maxRecDepth 100000 in
theorem pX1_mayBe {E : EV} {h : Int} {M : Mem} {g : Int} {v1 : Int} {v2 : Int} (hg : isG g) : C2 E miX1_mayBe 3 h [(2, g), (0, v1), (0, v2)] M (fun r M' => r = some (0, (fX1_mayBe M g v1 v2)) ∧ M' = M) := by
  obtain ⟨Q, hQ⟩ : ∃ Q : Option MV → Mem → Prop, Q = (fun r M' => r = some (0, (fX1_mayBe M g v1 v2)) ∧ M' = M) := ⟨_, rfl⟩
  rw [← hQ]
  refine C2_of (L := [(2, g), (0, v1), (0, v2)]) (by decide +kernel) (Nat.le_of_ble_eq_true rfl) rfl (fun hG => ?_)
  refine T_iload_n (i := 1) (pc' := 1) dX1_mayBe_0 rfl rfl rfl ?_
  by_cases c1 : v1 = 0
  · skip
    refine T_tableIn (pc' := 28) dX1_mayBe_1 (by omega) (by omega) (by rw [c1]; rfl) (by decide) ?_
    refine T_iload_n (i := 2) (pc' := 29) dX1_mayBe_28 rfl rfl rfl ?_
    have HJ2 : T E miX1_mayBe 3 126 0 0 (fun r S M' => S = S0 ∧ G h M' ∧ Q r M') 43 [(3, 0), (3, 0), (3, 0)] [(0, (if v2 < 0 then (0 : Int) else (if 120 < v2 then (0 : Int) else 1)))] S0 M 0 0 := by
      exact T_zret dX1_mayBe_43 rfl (by repeat' (first | apply bi | exact Or.inl rfl | exact Or.inr rfl | apply fbX1_isFree)) ⟨rfl, hG, (by rw [hQ]; exact ⟨(by unfold fX1_mayBe; simp only [if_pos c1]), rfl⟩)⟩
    refine T_if_lt (pc' := 42) dX1_mayBe_29 (by decide) (pf := 32) rfl (fun c3 => ?_) (fun c3 => ?_)
    · skip
      refine T_iconst (pc' := 43) dX1_mayBe_42 (by decide) rfl ?_
      exact T_wk (L' := [(3, 0), (3, 0), (3, 0)]) (by have q := HJ2; try simp only [if_pos c3] at q; exact q) ⟨Or.inl rfl, Or.inl rfl, Or.inl rfl, trivial⟩
    · skip
      refine T_iload_n (i := 2) (pc' := 33) dX1_mayBe_32 rfl rfl rfl ?_
      refine T_bipush (pc' := 35) dX1_mayBe_33 rfl (by decide) rfl ?_
      refine T_icmp_gt (pc' := 42) dX1_mayBe_35 (by decide) (pf := 38) rfl (fun c4 => ?_) (fun c4 => ?_)
      · skip
        refine T_iconst (pc' := 43) dX1_mayBe_42 (by decide) rfl ?_
        exact T_wk (L' := [(3, 0), (3, 0), (3, 0)]) (by have q := HJ2; try simp only [if_neg c3] at q; try simp only [if_pos c4] at q; exact q) ⟨Or.inl rfl, Or.inl rfl, Or.inl rfl, trivial⟩
      · skip
        refine T_iconst (pc' := 39) dX1_mayBe_38 (by decide) rfl ?_
        refine T_goto (pc' := 43) dX1_mayBe_39 (by decide) ?_
        exact T_wk (L' := [(3, 0), (3, 0), (3, 0)]) (by have q := HJ2; try simp only [if_neg c3] at q; try simp only [if_neg c4] at q; exact q) ⟨Or.inl rfl, Or.inl rfl, Or.inl rfl, trivial⟩
  · skip
    by_cases c5 : v1 = 1
    · skip
      refine T_tableIn (pc' := 44) dX1_mayBe_1 (by omega) (by omega) (by rw [c5]; rfl) (by decide) ?_
      refine T_iload_n (i := 2) (pc' := 45) dX1_mayBe_44 rfl rfl rfl ?_
      have HJ6 : T E miX1_mayBe 3 126 0 0 (fun r S M' => S = S0 ∧ G h M' ∧ Q r M') 59 [(3, 0), (3, 0), (3, 0)] [(0, (if v2 < 0 then (0 : Int) else (if 9 < v2 then (0 : Int) else 1)))] S0 M 0 0 := by
        exact T_zret dX1_mayBe_59 rfl (by repeat' (first | apply bi | exact Or.inl rfl | exact Or.inr rfl | apply fbX1_isFree)) ⟨rfl, hG, (by rw [hQ]; exact ⟨(by unfold fX1_mayBe; simp only [if_neg c1, if_pos c5]), rfl⟩)⟩
      refine T_if_lt (pc' := 58) dX1_mayBe_45 (by decide) (pf := 48) rfl (fun c7 => ?_) (fun c7 => ?_)
      · skip
        refine T_iconst (pc' := 59) dX1_mayBe_58 (by decide) rfl ?_
        exact T_wk (L' := [(3, 0), (3, 0), (3, 0)]) (by have q := HJ6; try simp only [if_pos c7] at q; exact q) ⟨Or.inl rfl, Or.inl rfl, Or.inl rfl, trivial⟩
      · skip
        refine T_iload_n (i := 2) (pc' := 49) dX1_mayBe_48 rfl rfl rfl ?_
        refine T_bipush (pc' := 51) dX1_mayBe_49 rfl (by decide) rfl ?_
        refine T_icmp_gt (pc' := 58) dX1_mayBe_51 (by decide) (pf := 54) rfl (fun c8 => ?_) (fun c8 => ?_)
        · skip
          refine T_iconst (pc' := 59) dX1_mayBe_58 (by decide) rfl ?_
          exact T_wk (L' := [(3, 0), (3, 0), (3, 0)]) (by have q := HJ6; try simp only [if_neg c7] at q; try simp only [if_pos c8] at q; exact q) ⟨Or.inl rfl, Or.inl rfl, Or.inl rfl, trivial⟩
        · skip
          refine T_iconst (pc' := 55) dX1_mayBe_54 (by decide) rfl ?_
          refine T_goto (pc' := 59) dX1_mayBe_55 (by decide) ?_
          exact T_wk (L' := [(3, 0), (3, 0), (3, 0)]) (by have q := HJ6; try simp only [if_neg c7] at q; try simp only [if_neg c8] at q; exact q) ⟨Or.inl rfl, Or.inl rfl, Or.inl rfl, trivial⟩
    · skip
      by_cases c9 : v1 = 2
      · skip
        refine T_tableIn (pc' := 60) dX1_mayBe_1 (by omega) (by omega) (by rw [c9]; rfl) (by decide) ?_
        refine T_aload_n (i := 0) (pc' := 61) dX1_mayBe_60 rfl rfl rfl ?_
        refine T_iload_n (i := 2) (pc' := 62) dX1_mayBe_61 rfl rfl rfl ?_
        refine T_callV (av := [(0, v2)]) (st := []) (d2 := 2) (nc2 := 0) (ns2 := 0) (pc' := 65) dX1_mayBe_62 rfl mtX1_isFree mvX1_isFree mlX1_114 cl1 (shg0 hg) rfl rfl (Nat.le_of_ble_eq_true rfl) (by decide) ⟨by decide, by decide⟩ rfl (pX1_isFree (E := E) (h := h) (M := M) (g := g) (v1 := v2) hg hG) (kF (st2 := [(0, (fX1_isFree M g v2))]) rfl (fun hG10 => ?_))
        exact T_zret dX1_mayBe_65 rfl (by repeat' (first | apply bi | exact Or.inl rfl | exact Or.inr rfl | apply fbX1_isFree)) ⟨rfl, hG, (by rw [hQ]; exact ⟨(by unfold fX1_mayBe; simp only [if_neg c1, if_neg c5, if_pos c9]), rfl⟩)⟩
      · skip
        refine T_tableOut (pc' := 66) dX1_mayBe_1 (by omega) (by decide) ?_
        refine T_iconst (pc' := 67) dX1_mayBe_66 (by decide) rfl ?_
        exact T_zret dX1_mayBe_67 rfl (by decide) ⟨rfl, hG, (by rw [hQ]; exact ⟨(by unfold fX1_mayBe; simp only [if_neg c1, if_neg c5, if_neg c9]), rfl⟩)⟩
theorem fbX1_mayBe (M : Mem) (g : Int) (v1 : Int) (v2 : Int) : (fX1_mayBe M g v1 v2) = 0 ∨ (fX1_mayBe M g v1 v2) = 1 := by
  unfold fX1_mayBe
  repeat' (first | apply bi | exact Or.inl rfl | exact Or.inr rfl | apply fbX1_isFree)
def fX1_imageLength (M : Mem) (g : Int) : Int :=
  (wr32 ((wr32 ((wr32 (3 * (M (g + 1) 8))) + (M g 12))) + 1))
set_option maxRecDepth 100000 in
theorem pX1_imageLength {E : EV} {h : Int} {M : Mem} {g : Int} (hg : isG g) : C2 E miX1_imageLength 1 h [(2, g)] M (fun r M' => r = some (0, (fX1_imageLength M g)) ∧ M' = M) := by
  obtain ⟨Q, hQ⟩ : ∃ Q : Option MV → Mem → Prop, Q = (fun r M' => r = some (0, (fX1_imageLength M g)) ∧ M' = M) := ⟨_, rfl⟩
  rw [← hQ]
  refine C2_of (L := [(2, g)]) (by decide +kernel) (Nat.le_of_ble_eq_true rfl) rfl (fun hG => ?_)
  refine T_iconst (pc' := 1) dX1_imageLength_0 (by decide) rfl ?_
  refine T_aload_n (i := 0) (pc' := 2) dX1_imageLength_1 rfl rfl rfl ?_
  refine U_gr (q := (g + 1)) (k := 0) (kI := 0) (pc' := 5) dX1_imageLength_2 rfl cl1 (pog0 hg) (shg0 hg) (by decide) flX1_12 rfl rfl rfl (grg0_0 hg hG) (pog1 hg) rfl ?_
  refine U_gfN (v := (0, (M (g + 1) 8))) (k := 8) (kI := 8) (pc' := 8) dX1_imageLength_5 rfl cl4 (pog1 hg) (shg1 hg) (by decide) flX1_47 rfl rfl (by decide) rfl rfl ?_
  refine T_imul (pc' := 9) dX1_imageLength_8 rfl ?_
  refine T_aload_n (i := 0) (pc' := 10) dX1_imageLength_9 rfl rfl rfl ?_
  refine U_gf (v := (0, (M g 12))) (k := 12) (kI := 12) (pc' := 13) dX1_imageLength_10 rfl cl1 (pog0 hg) (shg0 hg) (by decide) flX1_67 rfl rfl (by decide) rfl rfl ?_
  refine T_iadd (pc' := 14) dX1_imageLength_13 rfl ?_
  refine T_iconst (pc' := 15) dX1_imageLength_14 (by decide) rfl ?_
  refine T_iadd (pc' := 16) dX1_imageLength_15 rfl ?_
  exact T_iret dX1_imageLength_16 rfl ⟨rfl, hG, (by rw [hQ]; exact ⟨rfl, rfl⟩)⟩
def fX1_checkWith (v0 : Int) (v1 : Int) : Int :=
  (Int.tmod (wr32 ((wr32 (3 * v0)) + v1)) 253)
set_option maxRecDepth 100000 in
theorem pX1_checkWith {E : EV} {h : Int} {M : Mem} {v0 : Int} {v1 : Int}  : C2 E miX1_checkWith 1 h [(0, v0), (0, v1)] M (fun r M' => r = some (0, (fX1_checkWith v0 v1)) ∧ M' = M) := by
  obtain ⟨Q, hQ⟩ : ∃ Q : Option MV → Mem → Prop, Q = (fun r M' => r = some (0, (fX1_checkWith v0 v1)) ∧ M' = M) := ⟨_, rfl⟩
  rw [← hQ]
  refine C2_of (L := [(0, v0), (0, v1)]) (by decide +kernel) (Nat.le_of_ble_eq_true rfl) rfl (fun hG => ?_)
  refine T_iconst (pc' := 1) dX1_checkWith_0 (by decide) rfl ?_
  refine T_iload_n (i := 0) (pc' := 2) dX1_checkWith_1 rfl rfl rfl ?_
  refine T_imul (pc' := 3) dX1_checkWith_2 rfl ?_
  refine T_iload_n (i := 1) (pc' := 4) dX1_checkWith_3 rfl rfl rfl ?_
  refine T_iadd (pc' := 5) dX1_checkWith_4 rfl ?_
  refine T_sipush (pc' := 8) dX1_checkWith_5 rfl (by decide) rfl ?_
  refine T_irem (pc' := 9) dX1_checkWith_8 (by decide) rfl ?_
  exact T_iret dX1_checkWith_9 rfl ⟨rfl, hG, (by rw [hQ]; exact ⟨rfl, rfl⟩)⟩
def fX4_valueOf (M : Mem) (g : Int) (v1 : Int) (v2 : Int) : Int :=
  (fX11_get M (fX4_rowOf g v2) 9 v1)
set_option maxRecDepth 100000 in
theorem pX4_valueOf {E : EV} {h : Int} {M : Mem} {g : Int} {v1 : Int} {v2 : Int} (hg : isG g) : C2 E miX4_valueOf 2 h [(2, (g + 1)), (0, v1), (0, v2)] M (fun r M' => r = some (0, (fX4_valueOf M g v1 v2)) ∧ M' = M) := by
  obtain ⟨Q, hQ⟩ : ∃ Q : Option MV → Mem → Prop, Q = (fun r M' => r = some (0, (fX4_valueOf M g v1 v2)) ∧ M' = M) := ⟨_, rfl⟩
  rw [← hQ]
  refine C2_of (L := [(2, (g + 1)), (0, v1), (0, v2)]) (by decide +kernel) (Nat.le_of_ble_eq_true rfl) rfl (fun hG => ?_)
  refine T_aload_n (i := 0) (pc' := 1) dX4_valueOf_0 rfl rfl rfl ?_
  refine T_iload_n (i := 2) (pc' := 2) dX4_valueOf_1 rfl rfl rfl ?_
  refine T_callV (av := [(0, v2)]) (st := []) (d2 := 1) (nc2 := 0) (ns2 := 0) (pc' := 5) dX4_valueOf_2 rfl mtX4_rowOf mvX4_rowOf mlX4_40 cl4 (shg1 hg) rfl rfl (Nat.le_of_ble_eq_true rfl) (by decide) ⟨by decide, by decide⟩ rfl (pX4_rowOf (E := E) (h := h) (M := M) (g := g) (v1 := v2) hg hG) (kF (st2 := [(2, (fX4_rowOf g v2))]) rfl (fun hG1 => ?_))
  refine T_iload_n (i := 1) (pc' := 6) dX4_valueOf_5 rfl rfl rfl ?_
  refine T_callSN (av := [(2, (fX4_rowOf g v2)), (0, v1)]) (st := []) (d2 := 1) (nc2 := 0) (ns2 := 0) (pc' := 9) dX4_valueOf_6 rfl mtX11_get mvX11_get mlX4_44 rfl rfl (Nat.le_of_ble_eq_true rfl) (by decide) ⟨by decide, by decide⟩ rfl (pX11_get (E := E) (h := h) (M := M) (p0 := (fX4_rowOf g v2)) (np0 := 9) (v1 := v1) (porow hg) (shrow hg) (by decide) hG) (kF (st2 := [(0, (fX11_get M (fX4_rowOf g v2) 9 v1))]) rfl (fun hG2 => ?_))
  exact T_iret dX4_valueOf_9 rfl ⟨rfl, hG, (by rw [hQ]; exact ⟨rfl, rfl⟩)⟩
def lmX1_writeImage_14 (g : Int) (p1 : Int) (np1 : Nat) : Nat → Int → Int → Int → Mem → Mem
  | 0, v2, v3, v4, M => (fmX11_put M p1 np1 v2 v3)
  | k + 1, v2, v3, v4, M => (lmX1_writeImage_14 g p1 np1 k v2 (fX1_checkWith v3 (if (M (g + 1) 8) ≤ (wr32 (Int.tdiv v4 3)) then (fX11_get M (g + 11) 6 (wr32 (v4 - (wr32 (3 * (M (g + 1) 8)))))) else (fX4_valueOf M g (wr32 (Int.tdiv v4 3)) (Int.tmod v4 3)))) (v4 + 1) (fmX11_put M p1 np1 v4 (if (M (g + 1) 8) ≤ (wr32 (Int.tdiv v4 3)) then (fX11_get M (g + 11) 6 (wr32 (v4 - (wr32 (3 * (M (g + 1) 8)))))) else (fX4_valueOf M g (wr32 (Int.tdiv v4 3)) (Int.tmod v4 3)))))
theorem frlX1_writeImage_14 {g : Int} {p1 : Int} {np1 : Nat} {q : Int} (hq0 : q ≠ p1) : ∀ {k : Nat} {v2 v3 v4 : Int} {M : Mem}, (lmX1_writeImage_14 g p1 np1 k v2 v3 v4 M) q = M q := by
  intro k
  induction k with
  | zero =>
    intro v2 v3 v4 M
    show (fmX11_put M p1 np1 v2 v3) q = M q
    exact ((frX11_put hq0).trans rfl)
  | succ k ih =>
    intro v2 v3 v4 M
    show (lmX1_writeImage_14 g p1 np1 k v2 (fX1_checkWith v3 (if (M (g + 1) 8) ≤ (wr32 (Int.tdiv v4 3)) then (fX11_get M (g + 11) 6 (wr32 (v4 - (wr32 (3 * (M (g + 1) 8)))))) else (fX4_valueOf M g (wr32 (Int.tdiv v4 3)) (Int.tmod v4 3)))) (v4 + 1) (fmX11_put M p1 np1 v4 (if (M (g + 1) 8) ≤ (wr32 (Int.tdiv v4 3)) then (fX11_get M (g + 11) 6 (wr32 (v4 - (wr32 (3 * (M (g + 1) 8)))))) else (fX4_valueOf M g (wr32 (Int.tdiv v4 3)) (Int.tmod v4 3))))) q = M q
    exact ((ih).trans ((frX11_put hq0).trans rfl))
theorem glX1_writeImage_14 {h : Int} {g : Int} {p1 : Int} {np1 : Nat} (hg : isG g) (h0p1 : 0 ≤ p1) (hSp1 : S0[p1.toNat]? = some (0, 0, np1)) (hnp1 : np1 < 2147483648) : ∀ {k : Nat} {v2 v3 v4 : Int} {M : Mem}, G h M → G h (lmX1_writeImage_14 g p1 np1 k v2 v3 v4 M) := by
  intro k
  induction k with
  | zero =>
    intro v2 v3 v4 M hG
    show G h (fmX11_put M p1 np1 v2 v3)
    exact (gX11_put (h := h) (M := M) (p0 := p1) (np0 := np1) (v1 := v2) (v2 := v3) h0p1 hSp1 hnp1 hG)
  | succ k ih =>
    intro v2 v3 v4 M hG
    show G h (lmX1_writeImage_14 g p1 np1 k v2 (fX1_checkWith v3 (if (M (g + 1) 8) ≤ (wr32 (Int.tdiv v4 3)) then (fX11_get M (g + 11) 6 (wr32 (v4 - (wr32 (3 * (M (g + 1) 8)))))) else (fX4_valueOf M g (wr32 (Int.tdiv v4 3)) (Int.tmod v4 3)))) (v4 + 1) (fmX11_put M p1 np1 v4 (if (M (g + 1) 8) ≤ (wr32 (Int.tdiv v4 3)) then (fX11_get M (g + 11) 6 (wr32 (v4 - (wr32 (3 * (M (g + 1) 8)))))) else (fX4_valueOf M g (wr32 (Int.tdiv v4 3)) (Int.tmod v4 3)))))
    exact (ih (gX11_put (h := h) (M := M) (p0 := p1) (np0 := np1) (v1 := v4) (v2 := (if (M (g + 1) 8) ≤ (wr32 (Int.tdiv v4 3)) then (fX11_get M (g + 11) 6 (wr32 (v4 - (wr32 (3 * (M (g + 1) 8)))))) else (fX4_valueOf M g (wr32 (Int.tdiv v4 3)) (Int.tmod v4 3)))) h0p1 hSp1 hnp1 hG))
set_option maxRecDepth 100000 in
set_option maxHeartbeats 2000000 in
theorem qX1_writeImage_14 {E : EV} {h : Int} {Q : Option MV → Mem → Prop} {g : Int} {p1 : Int} {np1 : Nat} (hg : isG g) (h0p1 : 0 ≤ p1) (hSp1 : S0[p1.toNat]? = some (0, 0, np1)) (hnp1 : np1 < 2147483648) : ∀ (k : Nat) (v2 v3 v4 : Int) (M : Mem), 0 ≤ v4 → ((v2) - v4).toNat = k → Q none (lmX1_writeImage_14 g p1 np1 k v2 v3 v4 M) → G h M → TG E miX1_writeImage 3 h Q 14 [(2, g), (2, p1), (0, v2), (0, v3), (0, v4), (3, 0), (3, 0)] [] M := by
  intro k
  induction k with
  | zero =>
    intro v2 v3 v4 M hv0 hk hQ hG
    have hQ : Q none (fmX11_put M p1 np1 v2 v3) := hQ
    refine T_iload (i := 4) (pc' := 16) dX1_writeImage_14 rfl rfl ?_
    refine T_iload_n (i := 2) (pc' := 17) dX1_writeImage_16 rfl rfl rfl ?_
    refine T_rng (fun _ z9 _ => ?_)
    have hB : r32 v2 := (ok_cons.mp z9).1
    unfold r32 at hB
    refine T_icmp_ge (pc' := 96) dX1_writeImage_17 (by decide) (pf := 20) rfl (fun c1 => ?_) (fun c1 => ?_)
    · skip
      refine T_aload_n (i := 1) (pc' := 97) dX1_writeImage_96 rfl rfl rfl ?_
      refine T_iload_n (i := 2) (pc' := 98) dX1_writeImage_97 rfl rfl rfl ?_
      refine T_iload_n (i := 3) (pc' := 99) dX1_writeImage_98 rfl rfl rfl ?_
      refine T_callSN (av := [(2, p1), (0, v2), (0, v3)]) (st := []) (d2 := 1) (nc2 := 0) (ns2 := 0) (pc' := 102) dX1_writeImage_99 rfl mtX11_put mvX11_put mlX1_54 rfl rfl (Nat.le_of_ble_eq_true rfl) (by decide) ⟨by decide, by decide⟩ rfl (pX11_put (E := E) (h := h) (M := M) (p0 := p1) (np0 := np1) (v1 := v2) (v2 := v3) h0p1 hSp1 hnp1 hG) (kF (st2 := []) rfl (fun hG2 => ?_))
      exact T_vret dX1_writeImage_102 rfl ⟨rfl, (gX11_put (h := h) (M := M) (p0 := p1) (np0 := np1) (v1 := v2) (v2 := v3) h0p1 hSp1 hnp1 hG), hQ⟩
    · exact absurd c1 (by omega)
  | succ k ih =>
    intro v2 v3 v4 M hv0 hk hQ hG
    have hQ : Q none (lmX1_writeImage_14 g p1 np1 k v2 (fX1_checkWith v3 (if (M (g + 1) 8) ≤ (wr32 (Int.tdiv v4 3)) then (fX11_get M (g + 11) 6 (wr32 (v4 - (wr32 (3 * (M (g + 1) 8)))))) else (fX4_valueOf M g (wr32 (Int.tdiv v4 3)) (Int.tmod v4 3)))) (v4 + 1) (fmX11_put M p1 np1 v4 (if (M (g + 1) 8) ≤ (wr32 (Int.tdiv v4 3)) then (fX11_get M (g + 11) 6 (wr32 (v4 - (wr32 (3 * (M (g + 1) 8)))))) else (fX4_valueOf M g (wr32 (Int.tdiv v4 3)) (Int.tmod v4 3))))) := hQ
    refine T_iload (i := 4) (pc' := 16) dX1_writeImage_14 rfl rfl ?_
    refine T_iload_n (i := 2) (pc' := 17) dX1_writeImage_16 rfl rfl rfl ?_
    refine T_rng (fun _ z9 _ => ?_)
    have hB : r32 v2 := (ok_cons.mp z9).1
    unfold r32 at hB
    refine T_icmp_ge (pc' := 96) dX1_writeImage_17 (by decide) (pf := 20) rfl (fun c1 => ?_) (fun c1 => ?_)
    · exact absurd c1 (by omega)
    · skip
      have hw : wr32 (v4 + 1) = v4 + 1 := wr32_id (by unfold r32; omega)
      refine T_iload (i := 4) (pc' := 22) dX1_writeImage_20 rfl rfl ?_
      refine T_iconst (pc' := 23) dX1_writeImage_22 (by decide) rfl ?_
      refine T_idiv (pc' := 24) dX1_writeImage_23 (by decide) rfl ?_
      refine T_istore (i := 5) (L' := [(2, g), (2, p1), (0, v2), (0, v3), (0, v4), (0, (wr32 (Int.tdiv v4 3))), (3, 0)]) (pc' := 26) dX1_writeImage_24 (by decide) rfl rfl ?_
      refine T_iload (i := 5) (pc' := 28) dX1_writeImage_26 rfl rfl ?_
      refine T_aload_n (i := 0) (pc' := 29) dX1_writeImage_28 rfl rfl rfl ?_
      refine U_gr (q := (g + 1)) (k := 0) (kI := 0) (pc' := 32) dX1_writeImage_29 rfl cl1 (pog0 hg) (shg0 hg) (by decide) flX1_12 rfl rfl rfl (grg0_0 hg hG) (pog1 hg) rfl ?_
      refine U_gfN (v := (0, (M (g + 1) 8))) (k := 8) (kI := 8) (pc' := 35) dX1_writeImage_32 rfl cl4 (pog1 hg) (shg1 hg) (by decide) flX1_47 rfl rfl (by decide) rfl rfl ?_
      have HJ3 : T E miX1_writeImage 3 126 0 0 (fun r S M' => S = S0 ∧ G h M' ∧ Q r M') 73 [(2, g), (2, p1), (0, v2), (0, v3), (0, v4), (3, 0), (3, 0)] [(0, (if (M (g + 1) 8) ≤ (wr32 (Int.tdiv v4 3)) then (fX11_get M (g + 11) 6 (wr32 (v4 - (wr32 (3 * (M (g + 1) 8)))))) else (fX4_valueOf M g (wr32 (Int.tdiv v4 3)) (Int.tmod v4 3))))] S0 M 0 0 := by
        refine T_istore (i := 6) (L' := [(2, g), (2, p1), (0, v2), (0, v3), (0, v4), (3, 0), (0, (if (M (g + 1) 8) ≤ (wr32 (Int.tdiv v4 3)) then (fX11_get M (g + 11) 6 (wr32 (v4 - (wr32 (3 * (M (g + 1) 8)))))) else (fX4_valueOf M g (wr32 (Int.tdiv v4 3)) (Int.tmod v4 3))))]) (pc' := 75) dX1_writeImage_73 (by decide) rfl rfl ?_
        refine T_aload_n (i := 1) (pc' := 76) dX1_writeImage_75 rfl rfl rfl ?_
        refine T_iload (i := 4) (pc' := 78) dX1_writeImage_76 rfl rfl ?_
        refine T_iload (i := 6) (pc' := 80) dX1_writeImage_78 rfl rfl ?_
        refine T_callSN (av := [(2, p1), (0, v4), (0, (if (M (g + 1) 8) ≤ (wr32 (Int.tdiv v4 3)) then (fX11_get M (g + 11) 6 (wr32 (v4 - (wr32 (3 * (M (g + 1) 8)))))) else (fX4_valueOf M g (wr32 (Int.tdiv v4 3)) (Int.tmod v4 3))))]) (st := []) (d2 := 1) (nc2 := 0) (ns2 := 0) (pc' := 83) dX1_writeImage_80 rfl mtX11_put mvX11_put mlX1_54 rfl rfl (Nat.le_of_ble_eq_true rfl) (by decide) ⟨by decide, by decide⟩ rfl (pX11_put (E := E) (h := h) (M := M) (p0 := p1) (np0 := np1) (v1 := v4) (v2 := (if (M (g + 1) 8) ≤ (wr32 (Int.tdiv v4 3)) then (fX11_get M (g + 11) 6 (wr32 (v4 - (wr32 (3 * (M (g + 1) 8)))))) else (fX4_valueOf M g (wr32 (Int.tdiv v4 3)) (Int.tmod v4 3)))) h0p1 hSp1 hnp1 hG) (kF (st2 := []) rfl (fun hG4 => ?_))
        refine T_iload_n (i := 3) (pc' := 84) dX1_writeImage_83 rfl rfl rfl ?_
        refine T_iload (i := 6) (pc' := 86) dX1_writeImage_84 rfl rfl ?_
        refine T_callS (av := [(0, v3), (0, (if (M (g + 1) 8) ≤ (wr32 (Int.tdiv v4 3)) then (fX11_get M (g + 11) 6 (wr32 (v4 - (wr32 (3 * (M (g + 1) 8)))))) else (fX4_valueOf M g (wr32 (Int.tdiv v4 3)) (Int.tmod v4 3))))]) (st := []) (d2 := 1) (nc2 := 0) (ns2 := 0) (pc' := 89) dX1_writeImage_86 rfl mtX1_checkWith mvX1_checkWith mlX1_132 rfl rfl (Nat.le_of_ble_eq_true rfl) (by decide) ⟨by decide, by decide⟩ rfl (pX1_checkWith (E := E) (h := h) (M := (fmX11_put M p1 np1 v4 (if (M (g + 1) 8) ≤ (wr32 (Int.tdiv v4 3)) then (fX11_get M (g + 11) 6 (wr32 (v4 - (wr32 (3 * (M (g + 1) 8)))))) else (fX4_valueOf M g (wr32 (Int.tdiv v4 3)) (Int.tmod v4 3))))) (v0 := v3) (v1 := (if (M (g + 1) 8) ≤ (wr32 (Int.tdiv v4 3)) then (fX11_get M (g + 11) 6 (wr32 (v4 - (wr32 (3 * (M (g + 1) 8)))))) else (fX4_valueOf M g (wr32 (Int.tdiv v4 3)) (Int.tmod v4 3)))) (gX11_put (h := h) (M := M) (p0 := p1) (np0 := np1) (v1 := v4) (v2 := (if (M (g + 1) 8) ≤ (wr32 (Int.tdiv v4 3)) then (fX11_get M (g + 11) 6 (wr32 (v4 - (wr32 (3 * (M (g + 1) 8)))))) else (fX4_valueOf M g (wr32 (Int.tdiv v4 3)) (Int.tmod v4 3)))) h0p1 hSp1 hnp1 hG)) (kF (st2 := [(0, (fX1_checkWith v3 (if (M (g + 1) 8) ≤ (wr32 (Int.tdiv v4 3)) then (fX11_get M (g + 11) 6 (wr32 (v4 - (wr32 (3 * (M (g + 1) 8)))))) else (fX4_valueOf M g (wr32 (Int.tdiv v4 3)) (Int.tmod v4 3)))))]) rfl (fun hG5 => ?_))
        refine T_istore_n (i := 3) (L' := [(2, g), (2, p1), (0, v2), (0, (fX1_checkWith v3 (if (M (g + 1) 8) ≤ (wr32 (Int.tdiv v4 3)) then (fX11_get M (g + 11) 6 (wr32 (v4 - (wr32 (3 * (M (g + 1) 8)))))) else (fX4_valueOf M g (wr32 (Int.tdiv v4 3)) (Int.tmod v4 3))))), (0, v4), (3, 0), (0, (if (M (g + 1) 8) ≤ (wr32 (Int.tdiv v4 3)) then (fX11_get M (g + 11) 6 (wr32 (v4 - (wr32 (3 * (M (g + 1) 8)))))) else (fX4_valueOf M g (wr32 (Int.tdiv v4 3)) (Int.tmod v4 3))))]) (pc' := 90) dX1_writeImage_89 rfl (by decide) rfl rfl ?_
        refine T_iinc (L' := [(2, g), (2, p1), (0, v2), (0, (fX1_checkWith v3 (if (M (g + 1) 8) ≤ (wr32 (Int.tdiv v4 3)) then (fX11_get M (g + 11) 6 (wr32 (v4 - (wr32 (3 * (M (g + 1) 8)))))) else (fX4_valueOf M g (wr32 (Int.tdiv v4 3)) (Int.tmod v4 3))))), (0, (wr32 (v4 + 1))), (3, 0), (0, (if (M (g + 1) 8) ≤ (wr32 (Int.tdiv v4 3)) then (fX11_get M (g + 11) 6 (wr32 (v4 - (wr32 (3 * (M (g + 1) 8)))))) else (fX4_valueOf M g (wr32 (Int.tdiv v4 3)) (Int.tmod v4 3))))]) (pc' := 93) dX1_writeImage_90 rfl (by decide) rfl rfl ?_
        refine T_goto (pc' := 14) dX1_writeImage_93 (by decide) ?_
        rw [hw]
        exact T_wk (ih _ _ (v4 + 1) _ (by omega) (by omega) hQ (gX11_put (h := h) (M := M) (p0 := p1) (np0 := np1) (v1 := v4) (v2 := (if (M (g + 1) 8) ≤ (wr32 (Int.tdiv v4 3)) then (fX11_get M (g + 11) 6 (wr32 (v4 - (wr32 (3 * (M (g + 1) 8)))))) else (fX4_valueOf M g (wr32 (Int.tdiv v4 3)) (Int.tmod v4 3)))) h0p1 hSp1 hnp1 hG)) ⟨Or.inr rfl, Or.inr rfl, Or.inr rfl, Or.inr rfl, Or.inr rfl, Or.inl rfl, Or.inl rfl, trivial⟩
      refine T_icmp_ge (pc' := 54) dX1_writeImage_35 (by decide) (pf := 38) rfl (fun c6 => ?_) (fun c6 => ?_)
      · skip
        refine T_aload_n (i := 0) (pc' := 55) dX1_writeImage_54 rfl rfl rfl ?_
        refine U_gr (q := (g + 11)) (k := 3) (kI := 3) (pc' := 58) dX1_writeImage_55 rfl cl1 (pog0 hg) (shg0 hg) (by decide) flX1_25 rfl rfl rfl (grg0_3 hg hG) (pog11 hg) rfl ?_
        refine T_iload (i := 4) (pc' := 60) dX1_writeImage_58 rfl rfl ?_
        refine T_iconst (pc' := 61) dX1_writeImage_60 (by decide) rfl ?_
        refine T_aload_n (i := 0) (pc' := 62) dX1_writeImage_61 rfl rfl rfl ?_
        refine U_gr (q := (g + 1)) (k := 0) (kI := 0) (pc' := 65) dX1_writeImage_62 rfl cl1 (pog0 hg) (shg0 hg) (by decide) flX1_12 rfl rfl rfl (grg0_0 hg hG) (pog1 hg) rfl ?_
        refine U_gfN (v := (0, (M (g + 1) 8))) (k := 8) (kI := 8) (pc' := 68) dX1_writeImage_65 rfl cl4 (pog1 hg) (shg1 hg) (by decide) flX1_47 rfl rfl (by decide) rfl rfl ?_
        refine T_imul (pc' := 69) dX1_writeImage_68 rfl ?_
        refine T_isub (pc' := 70) dX1_writeImage_69 rfl ?_
        refine T_callSN (av := [(2, (g + 11)), (0, (wr32 (v4 - (wr32 (3 * (M (g + 1) 8))))))]) (st := []) (d2 := 1) (nc2 := 0) (ns2 := 0) (pc' := 73) dX1_writeImage_70 rfl mtX11_get mvX11_get mlX1_89 rfl rfl (Nat.le_of_ble_eq_true rfl) (by decide) ⟨by decide, by decide⟩ rfl (pX11_get (E := E) (h := h) (M := M) (p0 := (g + 11)) (np0 := 6) (v1 := (wr32 (v4 - (wr32 (3 * (M (g + 1) 8)))))) (pog11 hg) (shg11 hg) (by decide) hG) (kF (st2 := [(0, (fX11_get M (g + 11) 6 (wr32 (v4 - (wr32 (3 * (M (g + 1) 8)))))))]) rfl (fun hG7 => ?_))
        exact T_wk (L' := [(2, g), (2, p1), (0, v2), (0, v3), (0, v4), (3, 0), (3, 0)]) (by have q := HJ3; try simp only [if_pos c6] at q; exact q) ⟨Or.inr rfl, Or.inr rfl, Or.inr rfl, Or.inr rfl, Or.inr rfl, Or.inl rfl, Or.inl rfl, trivial⟩
      · skip
        refine T_aload_n (i := 0) (pc' := 39) dX1_writeImage_38 rfl rfl rfl ?_
        refine U_gr (q := (g + 1)) (k := 0) (kI := 0) (pc' := 42) dX1_writeImage_39 rfl cl1 (pog0 hg) (shg0 hg) (by decide) flX1_12 rfl rfl rfl (grg0_0 hg hG) (pog1 hg) rfl ?_
        refine T_iload (i := 5) (pc' := 44) dX1_writeImage_42 rfl rfl ?_
        refine T_iload (i := 4) (pc' := 46) dX1_writeImage_44 rfl rfl ?_
        refine T_iconst (pc' := 47) dX1_writeImage_46 (by decide) rfl ?_
        refine T_irem (pc' := 48) dX1_writeImage_47 (by decide) rfl ?_
        refine T_callV (av := [(0, (wr32 (Int.tdiv v4 3))), (0, (Int.tmod v4 3))]) (st := []) (d2 := 2) (nc2 := 0) (ns2 := 0) (pc' := 51) dX1_writeImage_48 rfl mtX4_valueOf mvX4_valueOf mlX1_129 cl4 (shg1 hg) rfl rfl (Nat.le_of_ble_eq_true rfl) (by decide) ⟨by decide, by decide⟩ rfl (pX4_valueOf (E := E) (h := h) (M := M) (g := g) (v1 := (wr32 (Int.tdiv v4 3))) (v2 := (Int.tmod v4 3)) hg hG) (kF (st2 := [(0, (fX4_valueOf M g (wr32 (Int.tdiv v4 3)) (Int.tmod v4 3)))]) rfl (fun hG8 => ?_))
        refine T_goto (pc' := 73) dX1_writeImage_51 (by decide) ?_
        exact T_wk (L' := [(2, g), (2, p1), (0, v2), (0, v3), (0, v4), (3, 0), (3, 0)]) (by have q := HJ3; try simp only [if_neg c6] at q; exact q) ⟨Or.inr rfl, Or.inr rfl, Or.inr rfl, Or.inr rfl, Or.inr rfl, Or.inl rfl, Or.inl rfl, trivial⟩
def fmX1_writeImage (M : Mem) (g : Int) (p1 : Int) (np1 : Nat) : Mem :=
  (lmX1_writeImage_14 g p1 np1 ((((wr32 ((fX1_imageLength M g) - 1))) : Int) - 0).toNat (wr32 ((fX1_imageLength M g) - 1)) 151 0 M)
theorem frX1_writeImage {M : Mem} {g : Int} {p1 : Int} {np1 : Nat} {q : Int} (hq0 : q ≠ p1) : (fmX1_writeImage M g p1 np1) q = M q := by
  unfold fmX1_writeImage
  exact ((frlX1_writeImage_14 hq0).trans rfl)
theorem gX1_writeImage {h : Int} {M : Mem} {g : Int} {p1 : Int} {np1 : Nat} (hg : isG g) (h0p1 : 0 ≤ p1) (hSp1 : S0[p1.toNat]? = some (0, 0, np1)) (hnp1 : np1 < 2147483648) (hG : G h M) : G h (fmX1_writeImage M g p1 np1) := by
  unfold fmX1_writeImage
  exact (glX1_writeImage_14 hg h0p1 hSp1 hnp1 hG)
set_option maxRecDepth 100000 in
theorem pX1_writeImage {E : EV} {h : Int} {M : Mem} {g : Int} {p1 : Int} {np1 : Nat} (hg : isG g) (h0p1 : 0 ≤ p1) (hSp1 : S0[p1.toNat]? = some (0, 0, np1)) (hnp1 : np1 < 2147483648) : C2 E miX1_writeImage 3 h [(2, g), (2, p1)] M (fun r M' => r = none ∧ M' = (fmX1_writeImage M g p1 np1)) := by
  obtain ⟨Q, hQ0⟩ : ∃ Q : Option MV → Mem → Prop, Q = (fun r M' => r = none ∧ M' = (fmX1_writeImage M g p1 np1)) := ⟨_, rfl⟩
  rw [← hQ0]
  have hQ : Q none (lmX1_writeImage_14 g p1 np1 ((((wr32 ((fX1_imageLength M g) - 1))) : Int) - 0).toNat (wr32 ((fX1_imageLength M g) - 1)) 151 0 M) := by rw [hQ0]; exact ⟨rfl, rfl⟩
  refine C2_of (L := [(2, g), (2, p1), (3, 0), (3, 0), (3, 0), (3, 0), (3, 0)]) (by decide +kernel) (Nat.le_of_ble_eq_true rfl) rfl (fun hG => ?_)
  refine T_aload_n (i := 0) (pc' := 1) dX1_writeImage_0 rfl rfl rfl ?_
  refine T_callV (av := []) (st := []) (d2 := 1) (nc2 := 0) (ns2 := 0) (pc' := 4) dX1_writeImage_1 rfl mtX1_imageLength mvX1_imageLength mlX1_126 cl1 (shg0 hg) rfl rfl (Nat.le_of_ble_eq_true rfl) (by decide) ⟨by decide, by decide⟩ rfl (pX1_imageLength (E := E) (h := h) (M := M) (g := g) hg hG) (kF (st2 := [(0, (fX1_imageLength M g))]) rfl (fun hG1 => ?_))
  refine T_iconst (pc' := 5) dX1_writeImage_4 (by decide) rfl ?_
  refine T_isub (pc' := 6) dX1_writeImage_5 rfl ?_
  refine T_istore_n (i := 2) (L' := [(2, g), (2, p1), (0, (wr32 ((fX1_imageLength M g) - 1))), (3, 0), (3, 0), (3, 0), (3, 0)]) (pc' := 7) dX1_writeImage_6 rfl (by decide) rfl rfl ?_
  refine T_sipush (pc' := 10) dX1_writeImage_7 rfl (by decide) rfl ?_
  refine T_istore_n (i := 3) (L' := [(2, g), (2, p1), (0, (wr32 ((fX1_imageLength M g) - 1))), (0, 151), (3, 0), (3, 0), (3, 0)]) (pc' := 11) dX1_writeImage_10 rfl (by decide) rfl rfl ?_
  refine T_iconst (pc' := 12) dX1_writeImage_11 (by decide) rfl ?_
  refine T_istore (i := 4) (L' := [(2, g), (2, p1), (0, (wr32 ((fX1_imageLength M g) - 1))), (0, 151), (0, 0), (3, 0), (3, 0)]) (pc' := 14) dX1_writeImage_12 (by decide) rfl rfl ?_
  exact T_wk (qX1_writeImage_14 hg h0p1 hSp1 hnp1 _ (wr32 ((fX1_imageLength M g) - 1)) 151 0 _ (by first | decide | omega) rfl hQ hG) ⟨Or.inr rfl, Or.inr rfl, Or.inr rfl, Or.inr rfl, Or.inr rfl, Or.inl rfl, Or.inl rfl, trivial⟩
def fX8_byteAt (M : Mem) (v1 : Int) : Int :=
  (if v1 < 0 then ((-1) : Int) else (if (M 1 1) ≤ v1 then ((-1) : Int) else (if 1600 ≤ v1 then ((-1) : Int) else (M 2 v1))))
set_option maxRecDepth 100000 in
theorem pX8_byteAt {E : EV} {h : Int} {M : Mem} {v1 : Int}  : C2 E miX8_byteAt 1 h [(2, 1), (0, v1)] M (fun r M' => r = some (0, (fX8_byteAt M v1)) ∧ M' = M) := by
  obtain ⟨Q, hQ⟩ : ∃ Q : Option MV → Mem → Prop, Q = (fun r M' => r = some (0, (fX8_byteAt M v1)) ∧ M' = M) := ⟨_, rfl⟩
  rw [← hQ]
  refine C2_of (L := [(2, 1), (0, v1)]) (by decide +kernel) (Nat.le_of_ble_eq_true rfl) rfl (fun hG => ?_)
  refine T_iload_n (i := 1) (pc' := 1) dX8_byteAt_0 rfl rfl rfl ?_
  have HJ1 : T E miX8_byteAt 1 126 0 0 (fun r S M' => S = S0 ∧ G h M' ∧ Q r M') 31 [(3, 0), (3, 0)] [(0, (if v1 < 0 then ((-1) : Int) else (if (M 1 1) ≤ v1 then ((-1) : Int) else (if 1600 ≤ v1 then ((-1) : Int) else (M 2 v1)))))] S0 M 0 0 := by
    exact T_iret dX8_byteAt_31 rfl ⟨rfl, hG, (by rw [hQ]; exact ⟨rfl, rfl⟩)⟩
  refine T_if_lt (pc' := 30) dX8_byteAt_1 (by decide) (pf := 4) rfl (fun c2 => ?_) (fun c2 => ?_)
  · skip
    refine T_iconst (pc' := 31) dX8_byteAt_30 (by decide) rfl ?_
    exact T_wk (L' := [(3, 0), (3, 0)]) (by have q := HJ1; try simp only [if_pos c2] at q; exact q) ⟨Or.inl rfl, Or.inl rfl, trivial⟩
  · skip
    refine T_iload_n (i := 1) (pc' := 5) dX8_byteAt_4 rfl rfl rfl ?_
    refine T_aload_n (i := 0) (pc' := 6) dX8_byteAt_5 rfl rfl rfl ?_
    refine U_gf (v := (0, (M 1 1))) (k := 1) (kI := 1) (pc' := 9) dX8_byteAt_6 rfl cl8 (by decide) rfl (by decide) flX8_15 rfl rfl (by decide) rfl rfl ?_
    refine T_icmp_ge (pc' := 30) dX8_byteAt_9 (by decide) (pf := 12) rfl (fun c3 => ?_) (fun c3 => ?_)
    · skip
      refine T_iconst (pc' := 31) dX8_byteAt_30 (by decide) rfl ?_
      exact T_wk (L' := [(3, 0), (3, 0)]) (by have q := HJ1; try simp only [if_neg c2] at q; try simp only [if_pos c3] at q; exact q) ⟨Or.inl rfl, Or.inl rfl, trivial⟩
    · skip
      refine T_iload_n (i := 1) (pc' := 13) dX8_byteAt_12 rfl rfl rfl ?_
      refine T_aload_n (i := 0) (pc' := 14) dX8_byteAt_13 rfl rfl rfl ?_
      refine U_gr (q := 2) (k := 0) (kI := 0) (pc' := 17) dX8_byteAt_14 rfl cl8 (by decide) rfl (by decide) flX8_9 rfl rfl rfl (G_at hG 9 rfl) (by decide) rfl ?_
      refine U_alen (nI := 1600) (pc' := 18) dX8_byteAt_17 (by decide) (by decide) rfl rfl rfl ?_
      refine T_icmp_ge (pc' := 30) dX8_byteAt_18 (by decide) (pf := 21) rfl (fun c4 => ?_) (fun c4 => ?_)
      · skip
        refine T_iconst (pc' := 31) dX8_byteAt_30 (by decide) rfl ?_
        exact T_wk (L' := [(3, 0), (3, 0)]) (by have q := HJ1; try simp only [if_neg c2] at q; try simp only [if_neg c3] at q; try simp only [if_pos c4] at q; exact q) ⟨Or.inl rfl, Or.inl rfl, trivial⟩
      · skip
        refine T_aload_n (i := 0) (pc' := 22) dX8_byteAt_21 rfl rfl rfl ?_
        refine U_gr (q := 2) (k := 0) (kI := 0) (pc' := 25) dX8_byteAt_22 rfl cl8 (by decide) rfl (by decide) flX8_9 rfl rfl rfl (G_at hG 9 rfl) (by decide) rfl ?_
        refine T_iload_n (i := 1) (pc' := 26) dX8_byteAt_25 rfl rfl rfl ?_
        refine T_iald (pc' := 27) dX8_byteAt_26 (by decide) rfl (by omega) (by omega) rfl ?_
        refine T_goto (pc' := 31) dX8_byteAt_27 (by decide) ?_
        exact T_wk (L' := [(3, 0), (3, 0)]) (by have q := HJ1; try simp only [if_neg c2] at q; try simp only [if_neg c3] at q; try simp only [if_neg c4] at q; exact q) ⟨Or.inl rfl, Or.inl rfl, trivial⟩
def lX1_isImage_26 (g : Int) : Nat → Int → Int → Int → Mem → Int
  | 0, v2, v3, v4, M => (if (fX8_byteAt M v2) = v3 then (1 : Int) else 0)
  | k + 1, v2, v3, v4, M => (if (if (M (g + 1) 8) ≤ (wr32 (Int.tdiv v4 3)) then (if (fX8_byteAt M v4) = 0 then (1 : Int) else (if (fX8_byteAt M v4) = 1 then (1 : Int) else 0)) else (fX1_mayBe M g (Int.tmod v4 3) (fX8_byteAt M v4))) = 0 then 0 else (lX1_isImage_26 g k v2 (fX1_checkWith v3 (fX8_byteAt M v4)) (v4 + 1) M))
set_option maxRecDepth 100000 in
set_option maxHeartbeats 2000000 in
theorem qX1_isImage_26 {E : EV} {h : Int} {Q : Option MV → Mem → Prop} {g : Int} (hg : isG g) : ∀ (k : Nat) (v2 v3 v4 : Int) (M : Mem), 0 ≤ v4 → ((v2) - v4).toNat = k → Q (some (0, (lX1_isImage_26 g k v2 v3 v4 M))) M → G h M → TG E miX1_isImage 4 h Q 26 [(2, g), (2, 1), (0, v2), (0, v3), (0, v4), (3, 0), (3, 0)] [] M := by
  intro k
  induction k with
  | zero =>
    intro v2 v3 v4 M hv0 hk hQ hG
    have hQ : Q (some (0, (if (fX8_byteAt M v2) = v3 then (1 : Int) else 0))) M := hQ
    refine T_iload (i := 4) (pc' := 28) dX1_isImage_26 rfl rfl ?_
    refine T_iload_n (i := 2) (pc' := 29) dX1_isImage_28 rfl rfl rfl ?_
    refine T_rng (fun _ z9 _ => ?_)
    have hB : r32 v2 := (ok_cons.mp z9).1
    unfold r32 at hB
    refine T_icmp_ge (pc' := 105) dX1_isImage_29 (by decide) (pf := 32) rfl (fun c1 => ?_) (fun c1 => ?_)
    · skip
      refine T_aload_n (i := 1) (pc' := 106) dX1_isImage_105 rfl rfl rfl ?_
      refine T_iload_n (i := 2) (pc' := 107) dX1_isImage_106 rfl rfl rfl ?_
      refine T_callV (av := [(0, v2)]) (st := []) (d2 := 1) (nc2 := 0) (ns2 := 0) (pc' := 110) dX1_isImage_107 rfl mtX8_byteAt mvX8_byteAt mlX1_140 cl8 rfl rfl rfl (Nat.le_of_ble_eq_true rfl) (by decide) ⟨by decide, by decide⟩ rfl (pX8_byteAt (E := E) (h := h) (M := M) (v1 := v2) hG) (kF (st2 := [(0, (fX8_byteAt M v2))]) rfl (fun hG2 => ?_))
      refine T_iload_n (i := 3) (pc' := 111) dX1_isImage_110 rfl rfl rfl ?_
      have HJ3 : T E miX1_isImage 4 126 0 0 (fun r S M' => S = S0 ∧ G h M' ∧ Q r M') 119 [(3, 0), (3, 0), (3, 0), (3, 0), (3, 0), (3, 0), (3, 0)] [(0, (if (fX8_byteAt M v2) = v3 then (1 : Int) else 0))] S0 M 0 0 := by
        exact T_zret dX1_isImage_119 rfl (by repeat' (first | apply bi | exact Or.inl rfl | exact Or.inr rfl | apply fbX1_mayBe)) ⟨rfl, hG, hQ⟩
      refine T_icmp_ne (pc' := 118) dX1_isImage_111 (by decide) (pf := 114) rfl (fun c4 => ?_) (fun c4 => ?_)
      · skip
        refine T_iconst (pc' := 119) dX1_isImage_118 (by decide) rfl ?_
        exact T_wk (L' := [(3, 0), (3, 0), (3, 0), (3, 0), (3, 0), (3, 0), (3, 0)]) (by have q := HJ3; try simp only [if_neg c4] at q; exact q) ⟨Or.inl rfl, Or.inl rfl, Or.inl rfl, Or.inl rfl, Or.inl rfl, Or.inl rfl, Or.inl rfl, trivial⟩
      · skip
        refine T_iconst (pc' := 115) dX1_isImage_114 (by decide) rfl ?_
        refine T_goto (pc' := 119) dX1_isImage_115 (by decide) ?_
        exact T_wk (L' := [(3, 0), (3, 0), (3, 0), (3, 0), (3, 0), (3, 0), (3, 0)]) (by have q := HJ3; try simp only [if_pos c4] at q; exact q) ⟨Or.inl rfl, Or.inl rfl, Or.inl rfl, Or.inl rfl, Or.inl rfl, Or.inl rfl, Or.inl rfl, trivial⟩
    · exact absurd c1 (by omega)
  | succ k ih =>
    intro v2 v3 v4 M hv0 hk hQ hG
    have hQ : Q (some (0, (if (if (M (g + 1) 8) ≤ (wr32 (Int.tdiv v4 3)) then (if (fX8_byteAt M v4) = 0 then (1 : Int) else (if (fX8_byteAt M v4) = 1 then (1 : Int) else 0)) else (fX1_mayBe M g (Int.tmod v4 3) (fX8_byteAt M v4))) = 0 then 0 else (lX1_isImage_26 g k v2 (fX1_checkWith v3 (fX8_byteAt M v4)) (v4 + 1) M)))) M := hQ
    refine T_iload (i := 4) (pc' := 28) dX1_isImage_26 rfl rfl ?_
    refine T_iload_n (i := 2) (pc' := 29) dX1_isImage_28 rfl rfl rfl ?_
    refine T_rng (fun _ z9 _ => ?_)
    have hB : r32 v2 := (ok_cons.mp z9).1
    unfold r32 at hB
    refine T_icmp_ge (pc' := 105) dX1_isImage_29 (by decide) (pf := 32) rfl (fun c1 => ?_) (fun c1 => ?_)
    · exact absurd c1 (by omega)
    · skip
      have hw : wr32 (v4 + 1) = v4 + 1 := wr32_id (by unfold r32; omega)
      refine T_aload_n (i := 1) (pc' := 33) dX1_isImage_32 rfl rfl rfl ?_
      refine T_iload (i := 4) (pc' := 35) dX1_isImage_33 rfl rfl ?_
      refine T_callV (av := [(0, v4)]) (st := []) (d2 := 1) (nc2 := 0) (ns2 := 0) (pc' := 38) dX1_isImage_35 rfl mtX8_byteAt mvX8_byteAt mlX1_140 cl8 rfl rfl rfl (Nat.le_of_ble_eq_true rfl) (by decide) ⟨by decide, by decide⟩ rfl (pX8_byteAt (E := E) (h := h) (M := M) (v1 := v4) hG) (kF (st2 := [(0, (fX8_byteAt M v4))]) rfl (fun hG5 => ?_))
      refine T_istore (i := 5) (L' := [(2, g), (2, 1), (0, v2), (0, v3), (0, v4), (0, (fX8_byteAt M v4)), (3, 0)]) (pc' := 40) dX1_isImage_38 (by decide) rfl rfl ?_
      refine T_iload (i := 4) (pc' := 42) dX1_isImage_40 rfl rfl ?_
      refine T_iconst (pc' := 43) dX1_isImage_42 (by decide) rfl ?_
      refine T_idiv (pc' := 44) dX1_isImage_43 (by decide) rfl ?_
      refine T_aload_n (i := 0) (pc' := 45) dX1_isImage_44 rfl rfl rfl ?_
      refine U_gr (q := (g + 1)) (k := 0) (kI := 0) (pc' := 48) dX1_isImage_45 rfl cl1 (pog0 hg) (shg0 hg) (by decide) flX1_12 rfl rfl rfl (grg0_0 hg hG) (pog1 hg) rfl ?_
      refine U_gfN (v := (0, (M (g + 1) 8))) (k := 8) (kI := 8) (pc' := 51) dX1_isImage_48 rfl cl4 (pog1 hg) (shg1 hg) (by decide) flX1_47 rfl rfl (by decide) rfl rfl ?_
      have HJ6 : T E miX1_isImage 4 126 0 0 (fun r S M' => S = S0 ∧ G h M' ∧ Q r M') 83 [(2, g), (2, 1), (0, v2), (0, v3), (0, v4), (0, (fX8_byteAt M v4)), (3, 0)] [(0, (if (M (g + 1) 8) ≤ (wr32 (Int.tdiv v4 3)) then (if (fX8_byteAt M v4) = 0 then (1 : Int) else (if (fX8_byteAt M v4) = 1 then (1 : Int) else 0)) else (fX1_mayBe M g (Int.tmod v4 3) (fX8_byteAt M v4))))] S0 M 0 0 := by
        refine T_istore (i := 6) (L' := [(2, g), (2, 1), (0, v2), (0, v3), (0, v4), (0, (fX8_byteAt M v4)), (0, (if (M (g + 1) 8) ≤ (wr32 (Int.tdiv v4 3)) then (if (fX8_byteAt M v4) = 0 then (1 : Int) else (if (fX8_byteAt M v4) = 1 then (1 : Int) else 0)) else (fX1_mayBe M g (Int.tmod v4 3) (fX8_byteAt M v4))))]) (pc' := 85) dX1_isImage_83 (by decide) rfl rfl ?_
        refine T_iload (i := 6) (pc' := 87) dX1_isImage_85 rfl rfl ?_
        refine T_if_ne (pc' := 92) dX1_isImage_87 (by decide) (pf := 90) rfl (fun c7 => ?_) (fun c7 => ?_)
        · skip
          refine T_iload_n (i := 3) (pc' := 93) dX1_isImage_92 rfl rfl rfl ?_
          refine T_iload (i := 5) (pc' := 95) dX1_isImage_93 rfl rfl ?_
          refine T_callS (av := [(0, v3), (0, (fX8_byteAt M v4))]) (st := []) (d2 := 1) (nc2 := 0) (ns2 := 0) (pc' := 98) dX1_isImage_95 rfl mtX1_checkWith mvX1_checkWith mlX1_132 rfl rfl (Nat.le_of_ble_eq_true rfl) (by decide) ⟨by decide, by decide⟩ rfl (pX1_checkWith (E := E) (h := h) (M := M) (v0 := v3) (v1 := (fX8_byteAt M v4)) hG) (kF (st2 := [(0, (fX1_checkWith v3 (fX8_byteAt M v4)))]) rfl (fun hG8 => ?_))
          refine T_istore_n (i := 3) (L' := [(2, g), (2, 1), (0, v2), (0, (fX1_checkWith v3 (fX8_byteAt M v4))), (0, v4), (0, (fX8_byteAt M v4)), (0, (if (M (g + 1) 8) ≤ (wr32 (Int.tdiv v4 3)) then (if (fX8_byteAt M v4) = 0 then (1 : Int) else (if (fX8_byteAt M v4) = 1 then (1 : Int) else 0)) else (fX1_mayBe M g (Int.tmod v4 3) (fX8_byteAt M v4))))]) (pc' := 99) dX1_isImage_98 rfl (by decide) rfl rfl ?_
          refine T_iinc (L' := [(2, g), (2, 1), (0, v2), (0, (fX1_checkWith v3 (fX8_byteAt M v4))), (0, (wr32 (v4 + 1))), (0, (fX8_byteAt M v4)), (0, (if (M (g + 1) 8) ≤ (wr32 (Int.tdiv v4 3)) then (if (fX8_byteAt M v4) = 0 then (1 : Int) else (if (fX8_byteAt M v4) = 1 then (1 : Int) else 0)) else (fX1_mayBe M g (Int.tmod v4 3) (fX8_byteAt M v4))))]) (pc' := 102) dX1_isImage_99 rfl (by decide) rfl rfl ?_
          refine T_goto (pc' := 26) dX1_isImage_102 (by decide) ?_
          rw [hw]
          exact T_wk (ih _ _ (v4 + 1) _ (by omega) (by omega) (by have q := hQ; try simp only [if_neg c7] at q; exact q) hG) ⟨Or.inr rfl, Or.inr rfl, Or.inr rfl, Or.inr rfl, Or.inr rfl, Or.inl rfl, Or.inl rfl, trivial⟩
        · skip
          refine T_iconst (pc' := 91) dX1_isImage_90 (by decide) rfl ?_
          exact T_zret dX1_isImage_91 rfl (by decide) ⟨rfl, hG, (by have q := hQ; try simp only [if_pos c7] at q; exact q)⟩
      refine T_icmp_ge (pc' := 67) dX1_isImage_51 (by decide) (pf := 54) rfl (fun c9 => ?_) (fun c9 => ?_)
      · skip
        refine T_iload (i := 5) (pc' := 69) dX1_isImage_67 rfl rfl ?_
        refine T_if_eq (pc' := 78) dX1_isImage_69 (by decide) (pf := 72) rfl (fun c10 => ?_) (fun c10 => ?_)
        · skip
          refine T_iconst (pc' := 79) dX1_isImage_78 (by decide) rfl ?_
          refine T_goto (pc' := 83) dX1_isImage_79 (by decide) ?_
          exact T_wk (L' := [(2, g), (2, 1), (0, v2), (0, v3), (0, v4), (0, (fX8_byteAt M v4)), (3, 0)]) (by have q := HJ6; try simp only [if_pos c9] at q; try simp only [if_pos c10] at q; exact q) ⟨Or.inr rfl, Or.inr rfl, Or.inr rfl, Or.inr rfl, Or.inr rfl, Or.inr rfl, Or.inl rfl, trivial⟩
        · skip
          refine T_iload (i := 5) (pc' := 74) dX1_isImage_72 rfl rfl ?_
          refine T_iconst (pc' := 75) dX1_isImage_74 (by decide) rfl ?_
          refine T_icmp_ne (pc' := 82) dX1_isImage_75 (by decide) (pf := 78) rfl (fun c11 => ?_) (fun c11 => ?_)
          · skip
            refine T_iconst (pc' := 83) dX1_isImage_82 (by decide) rfl ?_
            exact T_wk (L' := [(2, g), (2, 1), (0, v2), (0, v3), (0, v4), (0, (fX8_byteAt M v4)), (3, 0)]) (by have q := HJ6; try simp only [if_pos c9] at q; try simp only [if_neg c10] at q; try simp only [if_neg c11] at q; exact q) ⟨Or.inr rfl, Or.inr rfl, Or.inr rfl, Or.inr rfl, Or.inr rfl, Or.inr rfl, Or.inl rfl, trivial⟩
          · skip
            refine T_iconst (pc' := 79) dX1_isImage_78 (by decide) rfl ?_
            refine T_goto (pc' := 83) dX1_isImage_79 (by decide) ?_
            exact T_wk (L' := [(2, g), (2, 1), (0, v2), (0, v3), (0, v4), (0, (fX8_byteAt M v4)), (3, 0)]) (by have q := HJ6; try simp only [if_pos c9] at q; try simp only [if_neg c10] at q; try simp only [if_pos c11] at q; exact q) ⟨Or.inr rfl, Or.inr rfl, Or.inr rfl, Or.inr rfl, Or.inr rfl, Or.inr rfl, Or.inl rfl, trivial⟩
      · skip
        refine T_aload_n (i := 0) (pc' := 55) dX1_isImage_54 rfl rfl rfl ?_
        refine T_iload (i := 4) (pc' := 57) dX1_isImage_55 rfl rfl ?_
        refine T_iconst (pc' := 58) dX1_isImage_57 (by decide) rfl ?_
        refine T_irem (pc' := 59) dX1_isImage_58 (by decide) rfl ?_
        refine T_iload (i := 5) (pc' := 61) dX1_isImage_59 rfl rfl ?_
        refine T_callV (av := [(0, (Int.tmod v4 3)), (0, (fX8_byteAt M v4))]) (st := []) (d2 := 3) (nc2 := 0) (ns2 := 0) (pc' := 64) dX1_isImage_61 rfl mtX1_mayBe mvX1_mayBe mlX1_143 cl1 (shg0 hg) rfl rfl (Nat.le_of_ble_eq_true rfl) (by decide) ⟨by decide, by decide⟩ rfl (pX1_mayBe (E := E) (h := h) (M := M) (g := g) (v1 := (Int.tmod v4 3)) (v2 := (fX8_byteAt M v4)) hg hG) (kF (st2 := [(0, (fX1_mayBe M g (Int.tmod v4 3) (fX8_byteAt M v4)))]) rfl (fun hG12 => ?_))
        refine T_goto (pc' := 83) dX1_isImage_64 (by decide) ?_
        exact T_wk (L' := [(2, g), (2, 1), (0, v2), (0, v3), (0, v4), (0, (fX8_byteAt M v4)), (3, 0)]) (by have q := HJ6; try simp only [if_neg c9] at q; exact q) ⟨Or.inr rfl, Or.inr rfl, Or.inr rfl, Or.inr rfl, Or.inr rfl, Or.inr rfl, Or.inl rfl, trivial⟩
def fX1_isImage (M : Mem) (g : Int) : Int :=
  (if (M 1 1) = (wr32 ((wr32 ((fX1_imageLength M g) - 1)) + 1)) then (lX1_isImage_26 g ((((wr32 ((fX1_imageLength M g) - 1))) : Int) - 0).toNat (wr32 ((fX1_imageLength M g) - 1)) 151 0 M) else 0)
set_option maxRecDepth 100000 in
theorem pX1_isImage {E : EV} {h : Int} {M : Mem} {g : Int} (hg : isG g) : C2 E miX1_isImage 4 h [(2, g), (2, 1)] M (fun r M' => r = some (0, (fX1_isImage M g)) ∧ M' = M) := by
  obtain ⟨Q, hQ0⟩ : ∃ Q : Option MV → Mem → Prop, Q = (fun r M' => r = some (0, (fX1_isImage M g)) ∧ M' = M) := ⟨_, rfl⟩
  rw [← hQ0]
  have hQ : Q (some (0, (if (M 1 1) = (wr32 ((wr32 ((fX1_imageLength M g) - 1)) + 1)) then (lX1_isImage_26 g ((((wr32 ((fX1_imageLength M g) - 1))) : Int) - 0).toNat (wr32 ((fX1_imageLength M g) - 1)) 151 0 M) else 0))) M := by rw [hQ0]; exact ⟨rfl, rfl⟩
  refine C2_of (L := [(2, g), (2, 1), (3, 0), (3, 0), (3, 0), (3, 0), (3, 0)]) (by decide +kernel) (Nat.le_of_ble_eq_true rfl) rfl (fun hG => ?_)
  refine T_aload_n (i := 0) (pc' := 1) dX1_isImage_0 rfl rfl rfl ?_
  refine T_callV (av := []) (st := []) (d2 := 1) (nc2 := 0) (ns2 := 0) (pc' := 4) dX1_isImage_1 rfl mtX1_imageLength mvX1_imageLength mlX1_126 cl1 (shg0 hg) rfl rfl (Nat.le_of_ble_eq_true rfl) (by decide) ⟨by decide, by decide⟩ rfl (pX1_imageLength (E := E) (h := h) (M := M) (g := g) hg hG) (kF (st2 := [(0, (fX1_imageLength M g))]) rfl (fun hG1 => ?_))
  refine T_iconst (pc' := 5) dX1_isImage_4 (by decide) rfl ?_
  refine T_isub (pc' := 6) dX1_isImage_5 rfl ?_
  refine T_istore_n (i := 2) (L' := [(2, g), (2, 1), (0, (wr32 ((fX1_imageLength M g) - 1))), (3, 0), (3, 0), (3, 0), (3, 0)]) (pc' := 7) dX1_isImage_6 rfl (by decide) rfl rfl ?_
  refine T_aload_n (i := 1) (pc' := 8) dX1_isImage_7 rfl rfl rfl ?_
  refine U_gfN (v := (0, (M 1 1))) (k := 1) (kI := 1) (pc' := 11) dX1_isImage_8 rfl cl8 (by decide) rfl (by decide) flX1_135 rfl rfl (by decide) rfl rfl ?_
  refine T_iload_n (i := 2) (pc' := 12) dX1_isImage_11 rfl rfl rfl ?_
  refine T_iconst (pc' := 13) dX1_isImage_12 (by decide) rfl ?_
  refine T_iadd (pc' := 14) dX1_isImage_13 rfl ?_
  refine T_icmp_eq (pc' := 19) dX1_isImage_14 (by decide) (pf := 17) rfl (fun c2 => ?_) (fun c2 => ?_)
  · skip
    refine T_sipush (pc' := 22) dX1_isImage_19 rfl (by decide) rfl ?_
    refine T_istore_n (i := 3) (L' := [(2, g), (2, 1), (0, (wr32 ((fX1_imageLength M g) - 1))), (0, 151), (3, 0), (3, 0), (3, 0)]) (pc' := 23) dX1_isImage_22 rfl (by decide) rfl rfl ?_
    refine T_iconst (pc' := 24) dX1_isImage_23 (by decide) rfl ?_
    refine T_istore (i := 4) (L' := [(2, g), (2, 1), (0, (wr32 ((fX1_imageLength M g) - 1))), (0, 151), (0, 0), (3, 0), (3, 0)]) (pc' := 26) dX1_isImage_24 (by decide) rfl rfl ?_
    exact T_wk (qX1_isImage_26 hg _ (wr32 ((fX1_imageLength M g) - 1)) 151 0 _ (by first | decide | omega) rfl (by have q := hQ; try simp only [if_pos c2] at q; exact q) hG) ⟨Or.inr rfl, Or.inr rfl, Or.inr rfl, Or.inr rfl, Or.inr rfl, Or.inl rfl, Or.inl rfl, trivial⟩
  · skip
    refine T_iconst (pc' := 18) dX1_isImage_17 (by decide) rfl ?_
    exact T_zret dX1_isImage_18 rfl (by decide) ⟨rfl, hG, (by have q := hQ; try simp only [if_neg c2] at q; exact q)⟩
