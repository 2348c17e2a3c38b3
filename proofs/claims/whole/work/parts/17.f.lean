/-! methods without loops, by program -/
def fmX0_forget (M : Mem) : Mem :=
  (mset M 27 3 0)
theorem gX0_forget {h : Int} {M : Mem}   (hG : G h M) : G h (fmX0_forget M) := by
  unfold fmX0_forget
  exact (G_fld (x := 27) (i := 3) (y := 0) rfl (by decide) (by decide) (by decide) hG)
set_option maxRecDepth 100000 in
theorem pX0_forget {E : EV} {h : Int} {M : Mem}   : C2 E miX0_forget 1 h [(2, 27)] M (fun r M' => r = none ∧ M' = (fmX0_forget M)) := by
  obtain ⟨Q, hQ⟩ : ∃ Q : Option MV → Mem → Prop, Q = (fun r M' => r = none ∧ M' = (fmX0_forget M)) := ⟨_, rfl⟩
  rw [← hQ]
  refine C2_of (L := [(2, 27)]) (by decide +kernel) (Nat.le_of_ble_eq_true rfl) rfl (fun hG => ?_)
  refine T_aload_n (i := 0) (pc' := 1) dX0_forget_0 rfl rfl rfl ?_
  refine T_iconst (pc' := 2) dX0_forget_1 (by decide) rfl ?_
  refine U_pf (y := 0) (k := 3) (kI := 3) (pc' := 5) dX0_forget_2 rfl cl0 (by decide) rfl (by decide) flX0_21 rfl rfl rfl rfl rfl (by decide) (fun z => z) rfl ?_
  exact T_vret dX0_forget_5 rfl ⟨rfl, (G_fld (x := 27) (i := 3) (y := 0) rfl (by decide) (by decide) (by decide) hG), (by rw [hQ]; exact ⟨rfl, rfl⟩)⟩
theorem frX0_forget {M : Mem}  {q : Int} (hq0 : q ≠ 27) : (fmX0_forget M) q = M q := by
  unfold fmX0_forget
  repeat' (first | rfl | rw [mset_p hq0] | rw [mcpy_p hq0] | rw [ite_ap] | split)
def fmX11_put (M : Mem) (p0 : Int) (np0 : Nat) (v1 : Int) (v2 : Int) : Mem :=
  (if v1 < 0 then M else (if (np0 : Int) ≤ v1 then M else (mset M p0 v1 v2)))
theorem gX11_put {h : Int} {M : Mem} {p0 : Int} {np0 : Nat} {v1 : Int} {v2 : Int} (h0p0 : 0 ≤ p0) (hSp0 : S0[p0.toNat]? = some (0, 0, np0)) (hnp0 : np0 < 2147483648) (hG : G h M) : G h (fmX11_put M p0 np0 v1 v2) := by
  unfold fmX11_put
  exact (G_ite hG (G_ite hG (G_arr (x := p0) (i := v1) (y := v2) hSp0 h0p0 hG)))
set_option maxRecDepth 100000 in
theorem pX11_put {E : EV} {h : Int} {M : Mem} {p0 : Int} {np0 : Nat} {v1 : Int} {v2 : Int} (h0p0 : 0 ≤ p0) (hSp0 : S0[p0.toNat]? = some (0, 0, np0)) (hnp0 : np0 < 2147483648) : C2 E miX11_put 1 h [(2, p0), (0, v1), (0, v2)] M (fun r M' => r = none ∧ M' = (fmX11_put M p0 np0 v1 v2)) := by
  obtain ⟨Q, hQ⟩ : ∃ Q : Option MV → Mem → Prop, Q = (fun r M' => r = none ∧ M' = (fmX11_put M p0 np0 v1 v2)) := ⟨_, rfl⟩
  rw [← hQ]
  refine C2_of (L := [(2, p0), (0, v1), (0, v2)]) (by decide +kernel) (Nat.le_of_ble_eq_true rfl) rfl (fun hG => ?_)
  refine T_iload_n (i := 1) (pc' := 1) dX11_put_0 rfl rfl rfl ?_
  have HJ1 : T E miX11_put 1 126 0 0 (fun r S M' => S = S0 ∧ G h M' ∧ Q r M') 14 [(3, 0), (3, 0), (3, 0)] [] S0 (if v1 < 0 then M else (if (np0 : Int) ≤ v1 then M else (mset M p0 v1 v2))) 0 0 := by
    exact T_vret dX11_put_14 rfl ⟨rfl, (G_ite hG (G_ite hG (G_arr (x := p0) (i := v1) (y := v2) hSp0 h0p0 hG))), (by rw [hQ]; exact ⟨rfl, rfl⟩)⟩
  refine T_if_lt (pc' := 14) dX11_put_1 (by decide) (pf := 4) rfl (fun c2 => ?_) (fun c2 => ?_)
  · skip
    exact T_wk (L' := [(3, 0), (3, 0), (3, 0)]) (by have q := HJ1; try simp only [if_pos c2] at q; exact q) ⟨Or.inl rfl, Or.inl rfl, Or.inl rfl, trivial⟩
  · skip
    refine T_iload_n (i := 1) (pc' := 5) dX11_put_4 rfl rfl rfl ?_
    refine T_aload_n (i := 0) (pc' := 6) dX11_put_5 rfl rfl rfl ?_
    refine U_alen (nI := (np0 : Int)) (pc' := 7) dX11_put_6 (by decide) hnp0 hSp0 rfl rfl ?_
    refine T_icmp_ge (pc' := 14) dX11_put_7 (by decide) (pf := 10) rfl (fun c3 => ?_) (fun c3 => ?_)
    · skip
      exact T_wk (L' := [(3, 0), (3, 0), (3, 0)]) (by have q := HJ1; try simp only [if_neg c2] at q; try simp only [if_pos c3] at q; exact q) ⟨Or.inl rfl, Or.inl rfl, Or.inl rfl, trivial⟩
    · skip
      refine T_aload_n (i := 0) (pc' := 11) dX11_put_10 rfl rfl rfl ?_
      refine T_iload_n (i := 1) (pc' := 12) dX11_put_11 rfl rfl rfl ?_
      refine T_iload_n (i := 2) (pc' := 13) dX11_put_12 rfl rfl rfl ?_
      refine T_iast (pc' := 14) dX11_put_13 h0p0 hSp0 (by omega) (by omega) rfl ?_
      exact T_wk (L' := [(3, 0), (3, 0), (3, 0)]) (by have q := HJ1; try simp only [if_neg c2] at q; try simp only [if_neg c3] at q; exact q) ⟨Or.inl rfl, Or.inl rfl, Or.inl rfl, trivial⟩
theorem frX11_put {M : Mem} {p0 : Int} {np0 : Nat} {v1 : Int} {v2 : Int}  {q : Int} (hq0 : q ≠ p0) : (fmX11_put M p0 np0 v1 v2) q = M q := by
  unfold fmX11_put
  repeat' (first | rfl | rw [mset_p hq0] | rw [mcpy_p hq0] | rw [ite_ap] | split)
def fmX0_add (M : Mem) (v1 : Int) (v2 : Int) (v3 : Int) : Mem :=
  (mset (fmX11_put (fmX11_put (fmX11_put (if (M 27 3) = 20 then (mset (mcpy (mcpy (mcpy M 28 1 28 0 19) 29 1 29 0 19) 30 1 30 0 19) 27 3 (wr32 (((mcpy (mcpy (mcpy M 28 1 28 0 19) 29 1 29 0 19) 30 1 30 0 19) 27 3) - 1))) else M) 28 20 ((if (M 27 3) = 20 then (mset (mcpy (mcpy (mcpy M 28 1 28 0 19) 29 1 29 0 19) 30 1 30 0 19) 27 3 (wr32 (((mcpy (mcpy (mcpy M 28 1 28 0 19) 29 1 29 0 19) 30 1 30 0 19) 27 3) - 1))) else M) 27 3) v1) 29 20 ((fmX11_put (if (M 27 3) = 20 then (mset (mcpy (mcpy (mcpy M 28 1 28 0 19) 29 1 29 0 19) 30 1 30 0 19) 27 3 (wr32 (((mcpy (mcpy (mcpy M 28 1 28 0 19) 29 1 29 0 19) 30 1 30 0 19) 27 3) - 1))) else M) 28 20 ((if (M 27 3) = 20 then (mset (mcpy (mcpy (mcpy M 28 1 28 0 19) 29 1 29 0 19) 30 1 30 0 19) 27 3 (wr32 (((mcpy (mcpy (mcpy M 28 1 28 0 19) 29 1 29 0 19) 30 1 30 0 19) 27 3) - 1))) else M) 27 3) v1) 27 3) v2) 30 20 ((fmX11_put (fmX11_put (if (M 27 3) = 20 then (mset (mcpy (mcpy (mcpy M 28 1 28 0 19) 29 1 29 0 19) 30 1 30 0 19) 27 3 (wr32 (((mcpy (mcpy (mcpy M 28 1 28 0 19) 29 1 29 0 19) 30 1 30 0 19) 27 3) - 1))) else M) 28 20 ((if (M 27 3) = 20 then (mset (mcpy (mcpy (mcpy M 28 1 28 0 19) 29 1 29 0 19) 30 1 30 0 19) 27 3 (wr32 (((mcpy (mcpy (mcpy M 28 1 28 0 19) 29 1 29 0 19) 30 1 30 0 19) 27 3) - 1))) else M) 27 3) v1) 29 20 ((fmX11_put (if (M 27 3) = 20 then (mset (mcpy (mcpy (mcpy M 28 1 28 0 19) 29 1 29 0 19) 30 1 30 0 19) 27 3 (wr32 (((mcpy (mcpy (mcpy M 28 1 28 0 19) 29 1 29 0 19) 30 1 30 0 19) 27 3) - 1))) else M) 28 20 ((if (M 27 3) = 20 then (mset (mcpy (mcpy (mcpy M 28 1 28 0 19) 29 1 29 0 19) 30 1 30 0 19) 27 3 (wr32 (((mcpy (mcpy (mcpy M 28 1 28 0 19) 29 1 29 0 19) 30 1 30 0 19) 27 3) - 1))) else M) 27 3) v1) 27 3) v2) 27 3) v3) 27 3 (wr32 (((fmX11_put (fmX11_put (fmX11_put (if (M 27 3) = 20 then (mset (mcpy (mcpy (mcpy M 28 1 28 0 19) 29 1 29 0 19) 30 1 30 0 19) 27 3 (wr32 (((mcpy (mcpy (mcpy M 28 1 28 0 19) 29 1 29 0 19) 30 1 30 0 19) 27 3) - 1))) else M) 28 20 ((if (M 27 3) = 20 then (mset (mcpy (mcpy (mcpy M 28 1 28 0 19) 29 1 29 0 19) 30 1 30 0 19) 27 3 (wr32 (((mcpy (mcpy (mcpy M 28 1 28 0 19) 29 1 29 0 19) 30 1 30 0 19) 27 3) - 1))) else M) 27 3) v1) 29 20 ((fmX11_put (if (M 27 3) = 20 then (mset (mcpy (mcpy (mcpy M 28 1 28 0 19) 29 1 29 0 19) 30 1 30 0 19) 27 3 (wr32 (((mcpy (mcpy (mcpy M 28 1 28 0 19) 29 1 29 0 19) 30 1 30 0 19) 27 3) - 1))) else M) 28 20 ((if (M 27 3) = 20 then (mset (mcpy (mcpy (mcpy M 28 1 28 0 19) 29 1 29 0 19) 30 1 30 0 19) 27 3 (wr32 (((mcpy (mcpy (mcpy M 28 1 28 0 19) 29 1 29 0 19) 30 1 30 0 19) 27 3) - 1))) else M) 27 3) v1) 27 3) v2) 30 20 ((fmX11_put (fmX11_put (if (M 27 3) = 20 then (mset (mcpy (mcpy (mcpy M 28 1 28 0 19) 29 1 29 0 19) 30 1 30 0 19) 27 3 (wr32 (((mcpy (mcpy (mcpy M 28 1 28 0 19) 29 1 29 0 19) 30 1 30 0 19) 27 3) - 1))) else M) 28 20 ((if (M 27 3) = 20 then (mset (mcpy (mcpy (mcpy M 28 1 28 0 19) 29 1 29 0 19) 30 1 30 0 19) 27 3 (wr32 (((mcpy (mcpy (mcpy M 28 1 28 0 19) 29 1 29 0 19) 30 1 30 0 19) 27 3) - 1))) else M) 27 3) v1) 29 20 ((fmX11_put (if (M 27 3) = 20 then (mset (mcpy (mcpy (mcpy M 28 1 28 0 19) 29 1 29 0 19) 30 1 30 0 19) 27 3 (wr32 (((mcpy (mcpy (mcpy M 28 1 28 0 19) 29 1 29 0 19) 30 1 30 0 19) 27 3) - 1))) else M) 28 20 ((if (M 27 3) = 20 then (mset (mcpy (mcpy (mcpy M 28 1 28 0 19) 29 1 29 0 19) 30 1 30 0 19) 27 3 (wr32 (((mcpy (mcpy (mcpy M 28 1 28 0 19) 29 1 29 0 19) 30 1 30 0 19) 27 3) - 1))) else M) 27 3) v1) 27 3) v2) 27 3) v3) 27 3) + 1)))
theorem gX0_add {h : Int} {M : Mem} {v1 : Int} {v2 : Int} {v3 : Int}  (hG : G h M) : G h (fmX0_add M v1 v2 v3) := by
  unfold fmX0_add
  exact (G_fld (x := 27) (i := 3) (y := (wr32 (((fmX11_put (fmX11_put (fmX11_put (if (M 27 3) = 20 then (mset (mcpy (mcpy (mcpy M 28 1 28 0 19) 29 1 29 0 19) 30 1 30 0 19) 27 3 (wr32 (((mcpy (mcpy (mcpy M 28 1 28 0 19) 29 1 29 0 19) 30 1 30 0 19) 27 3) - 1))) else M) 28 20 ((if (M 27 3) = 20 then (mset (mcpy (mcpy (mcpy M 28 1 28 0 19) 29 1 29 0 19) 30 1 30 0 19) 27 3 (wr32 (((mcpy (mcpy (mcpy M 28 1 28 0 19) 29 1 29 0 19) 30 1 30 0 19) 27 3) - 1))) else M) 27 3) v1) 29 20 ((fmX11_put (if (M 27 3) = 20 then (mset (mcpy (mcpy (mcpy M 28 1 28 0 19) 29 1 29 0 19) 30 1 30 0 19) 27 3 (wr32 (((mcpy (mcpy (mcpy M 28 1 28 0 19) 29 1 29 0 19) 30 1 30 0 19) 27 3) - 1))) else M) 28 20 ((if (M 27 3) = 20 then (mset (mcpy (mcpy (mcpy M 28 1 28 0 19) 29 1 29 0 19) 30 1 30 0 19) 27 3 (wr32 (((mcpy (mcpy (mcpy M 28 1 28 0 19) 29 1 29 0 19) 30 1 30 0 19) 27 3) - 1))) else M) 27 3) v1) 27 3) v2) 30 20 ((fmX11_put (fmX11_put (if (M 27 3) = 20 then (mset (mcpy (mcpy (mcpy M 28 1 28 0 19) 29 1 29 0 19) 30 1 30 0 19) 27 3 (wr32 (((mcpy (mcpy (mcpy M 28 1 28 0 19) 29 1 29 0 19) 30 1 30 0 19) 27 3) - 1))) else M) 28 20 ((if (M 27 3) = 20 then (mset (mcpy (mcpy (mcpy M 28 1 28 0 19) 29 1 29 0 19) 30 1 30 0 19) 27 3 (wr32 (((mcpy (mcpy (mcpy M 28 1 28 0 19) 29 1 29 0 19) 30 1 30 0 19) 27 3) - 1))) else M) 27 3) v1) 29 20 ((fmX11_put (if (M 27 3) = 20 then (mset (mcpy (mcpy (mcpy M 28 1 28 0 19) 29 1 29 0 19) 30 1 30 0 19) 27 3 (wr32 (((mcpy (mcpy (mcpy M 28 1 28 0 19) 29 1 29 0 19) 30 1 30 0 19) 27 3) - 1))) else M) 28 20 ((if (M 27 3) = 20 then (mset (mcpy (mcpy (mcpy M 28 1 28 0 19) 29 1 29 0 19) 30 1 30 0 19) 27 3 (wr32 (((mcpy (mcpy (mcpy M 28 1 28 0 19) 29 1 29 0 19) 30 1 30 0 19) 27 3) - 1))) else M) 27 3) v1) 27 3) v2) 27 3) v3) 27 3) + 1))) rfl (by decide) (by decide) (by decide) (gX11_put (h := h) (M := (fmX11_put (fmX11_put (if (M 27 3) = 20 then (mset (mcpy (mcpy (mcpy M 28 1 28 0 19) 29 1 29 0 19) 30 1 30 0 19) 27 3 (wr32 (((mcpy (mcpy (mcpy M 28 1 28 0 19) 29 1 29 0 19) 30 1 30 0 19) 27 3) - 1))) else M) 28 20 ((if (M 27 3) = 20 then (mset (mcpy (mcpy (mcpy M 28 1 28 0 19) 29 1 29 0 19) 30 1 30 0 19) 27 3 (wr32 (((mcpy (mcpy (mcpy M 28 1 28 0 19) 29 1 29 0 19) 30 1 30 0 19) 27 3) - 1))) else M) 27 3) v1) 29 20 ((fmX11_put (if (M 27 3) = 20 then (mset (mcpy (mcpy (mcpy M 28 1 28 0 19) 29 1 29 0 19) 30 1 30 0 19) 27 3 (wr32 (((mcpy (mcpy (mcpy M 28 1 28 0 19) 29 1 29 0 19) 30 1 30 0 19) 27 3) - 1))) else M) 28 20 ((if (M 27 3) = 20 then (mset (mcpy (mcpy (mcpy M 28 1 28 0 19) 29 1 29 0 19) 30 1 30 0 19) 27 3 (wr32 (((mcpy (mcpy (mcpy M 28 1 28 0 19) 29 1 29 0 19) 30 1 30 0 19) 27 3) - 1))) else M) 27 3) v1) 27 3) v2)) (p0 := 30) (np0 := 20) (v1 := ((fmX11_put (fmX11_put (if (M 27 3) = 20 then (mset (mcpy (mcpy (mcpy M 28 1 28 0 19) 29 1 29 0 19) 30 1 30 0 19) 27 3 (wr32 (((mcpy (mcpy (mcpy M 28 1 28 0 19) 29 1 29 0 19) 30 1 30 0 19) 27 3) - 1))) else M) 28 20 ((if (M 27 3) = 20 then (mset (mcpy (mcpy (mcpy M 28 1 28 0 19) 29 1 29 0 19) 30 1 30 0 19) 27 3 (wr32 (((mcpy (mcpy (mcpy M 28 1 28 0 19) 29 1 29 0 19) 30 1 30 0 19) 27 3) - 1))) else M) 27 3) v1) 29 20 ((fmX11_put (if (M 27 3) = 20 then (mset (mcpy (mcpy (mcpy M 28 1 28 0 19) 29 1 29 0 19) 30 1 30 0 19) 27 3 (wr32 (((mcpy (mcpy (mcpy M 28 1 28 0 19) 29 1 29 0 19) 30 1 30 0 19) 27 3) - 1))) else M) 28 20 ((if (M 27 3) = 20 then (mset (mcpy (mcpy (mcpy M 28 1 28 0 19) 29 1 29 0 19) 30 1 30 0 19) 27 3 (wr32 (((mcpy (mcpy (mcpy M 28 1 28 0 19) 29 1 29 0 19) 30 1 30 0 19) 27 3) - 1))) else M) 27 3) v1) 27 3) v2) 27 3)) (v2 := v3) (by decide) rfl (by decide) (gX11_put (h := h) (M := (fmX11_put (if (M 27 3) = 20 then (mset (mcpy (mcpy (mcpy M 28 1 28 0 19) 29 1 29 0 19) 30 1 30 0 19) 27 3 (wr32 (((mcpy (mcpy (mcpy M 28 1 28 0 19) 29 1 29 0 19) 30 1 30 0 19) 27 3) - 1))) else M) 28 20 ((if (M 27 3) = 20 then (mset (mcpy (mcpy (mcpy M 28 1 28 0 19) 29 1 29 0 19) 30 1 30 0 19) 27 3 (wr32 (((mcpy (mcpy (mcpy M 28 1 28 0 19) 29 1 29 0 19) 30 1 30 0 19) 27 3) - 1))) else M) 27 3) v1)) (p0 := 29) (np0 := 20) (v1 := ((fmX11_put (if (M 27 3) = 20 then (mset (mcpy (mcpy (mcpy M 28 1 28 0 19) 29 1 29 0 19) 30 1 30 0 19) 27 3 (wr32 (((mcpy (mcpy (mcpy M 28 1 28 0 19) 29 1 29 0 19) 30 1 30 0 19) 27 3) - 1))) else M) 28 20 ((if (M 27 3) = 20 then (mset (mcpy (mcpy (mcpy M 28 1 28 0 19) 29 1 29 0 19) 30 1 30 0 19) 27 3 (wr32 (((mcpy (mcpy (mcpy M 28 1 28 0 19) 29 1 29 0 19) 30 1 30 0 19) 27 3) - 1))) else M) 27 3) v1) 27 3)) (v2 := v2) (by decide) rfl (by decide) (gX11_put (h := h) (M := (if (M 27 3) = 20 then (mset (mcpy (mcpy (mcpy M 28 1 28 0 19) 29 1 29 0 19) 30 1 30 0 19) 27 3 (wr32 (((mcpy (mcpy (mcpy M 28 1 28 0 19) 29 1 29 0 19) 30 1 30 0 19) 27 3) - 1))) else M)) (p0 := 28) (np0 := 20) (v1 := ((if (M 27 3) = 20 then (mset (mcpy (mcpy (mcpy M 28 1 28 0 19) 29 1 29 0 19) 30 1 30 0 19) 27 3 (wr32 (((mcpy (mcpy (mcpy M 28 1 28 0 19) 29 1 29 0 19) 30 1 30 0 19) 27 3) - 1))) else M) 27 3)) (v2 := v1) (by decide) rfl (by decide) (G_ite (G_fld (x := 27) (i := 3) (y := (wr32 (((mcpy (mcpy (mcpy M 28 1 28 0 19) 29 1 29 0 19) 30 1 30 0 19) 27 3) - 1))) rfl (by decide) (by decide) (by decide) (G_cpy (x := 30) (y := 30) (sp := 1) (dp := 0) (n := 19) rfl (by decide) (G_cpy (x := 29) (y := 29) (sp := 1) (dp := 0) (n := 19) rfl (by decide) (G_cpy (x := 28) (y := 28) (sp := 1) (dp := 0) (n := 19) rfl (by decide) hG)))) hG)))))
set_option maxRecDepth 100000 in
theorem pX0_add {E : EV} {h : Int} {M : Mem} {v1 : Int} {v2 : Int} {v3 : Int}  : C2 E miX0_add 2 h [(2, 27), (0, v1), (0, v2), (0, v3)] M (fun r M' => r = none ∧ M' = (fmX0_add M v1 v2 v3)) := by
  obtain ⟨Q, hQ⟩ : ∃ Q : Option MV → Mem → Prop, Q = (fun r M' => r = none ∧ M' = (fmX0_add M v1 v2 v3)) := ⟨_, rfl⟩
  rw [← hQ]
  refine C2_of (L := [(2, 27), (0, v1), (0, v2), (0, v3)]) (by decide +kernel) (Nat.le_of_ble_eq_true rfl) rfl (fun hG => ?_)
  refine T_aload_n (i := 0) (pc' := 1) dX0_add_0 rfl rfl rfl ?_
  refine U_gf (v := (0, (M 27 3))) (k := 3) (kI := 3) (pc' := 4) dX0_add_1 rfl cl0 (by decide) rfl (by decide) flX0_21 rfl rfl (by decide) rfl rfl ?_
  refine T_bipush (pc' := 6) dX0_add_4 rfl (by decide) rfl ?_
  have HJ1 : T E miX0_add 2 126 0 0 (fun r S M' => S = S0 ∧ G h M' ∧ Q r M') 64 [(2, 27), (0, v1), (0, v2), (0, v3)] [] S0 (if (M 27 3) = 20 then (mset (mcpy (mcpy (mcpy M 28 1 28 0 19) 29 1 29 0 19) 30 1 30 0 19) 27 3 (wr32 (((mcpy (mcpy (mcpy M 28 1 28 0 19) 29 1 29 0 19) 30 1 30 0 19) 27 3) - 1))) else M) 0 0 := by
    refine T_aload_n (i := 0) (pc' := 65) dX0_add_64 rfl rfl rfl ?_
    refine U_gr (q := 28) (k := 0) (kI := 0) (pc' := 68) dX0_add_65 rfl cl0 (by decide) rfl (by decide) flX0_9 rfl rfl rfl (G_at (G_ite (G_fld (x := 27) (i := 3) (y := (wr32 (((mcpy (mcpy (mcpy M 28 1 28 0 19) 29 1 29 0 19) 30 1 30 0 19) 27 3) - 1))) rfl (by decide) (by decide) (by decide) (G_cpy (x := 30) (y := 30) (sp := 1) (dp := 0) (n := 19) rfl (by decide) (G_cpy (x := 29) (y := 29) (sp := 1) (dp := 0) (n := 19) rfl (by decide) (G_cpy (x := 28) (y := 28) (sp := 1) (dp := 0) (n := 19) rfl (by decide) hG)))) hG) 32 rfl) (by decide) rfl ?_
    refine T_aload_n (i := 0) (pc' := 69) dX0_add_68 rfl rfl rfl ?_
    refine U_gf (v := (0, ((if (M 27 3) = 20 then (mset (mcpy (mcpy (mcpy M 28 1 28 0 19) 29 1 29 0 19) 30 1 30 0 19) 27 3 (wr32 (((mcpy (mcpy (mcpy M 28 1 28 0 19) 29 1 29 0 19) 30 1 30 0 19) 27 3) - 1))) else M) 27 3))) (k := 3) (kI := 3) (pc' := 72) dX0_add_69 rfl cl0 (by decide) rfl (by decide) flX0_21 rfl rfl (by decide) rfl rfl ?_
    refine T_iload_n (i := 1) (pc' := 73) dX0_add_72 rfl rfl rfl ?_
    refine T_callSN (av := [(2, 28), (0, ((if (M 27 3) = 20 then (mset (mcpy (mcpy (mcpy M 28 1 28 0 19) 29 1 29 0 19) 30 1 30 0 19) 27 3 (wr32 (((mcpy (mcpy (mcpy M 28 1 28 0 19) 29 1 29 0 19) 30 1 30 0 19) 27 3) - 1))) else M) 27 3)), (0, v1)]) (st := []) (d2 := 1) (nc2 := 0) (ns2 := 0) (pc' := 76) dX0_add_73 rfl mtX11_put mvX11_put mlX0_31 rfl rfl (Nat.le_of_ble_eq_true rfl) (by decide) ⟨by decide, by decide⟩ rfl (pX11_put (E := E) (h := h) (M := (if (M 27 3) = 20 then (mset (mcpy (mcpy (mcpy M 28 1 28 0 19) 29 1 29 0 19) 30 1 30 0 19) 27 3 (wr32 (((mcpy (mcpy (mcpy M 28 1 28 0 19) 29 1 29 0 19) 30 1 30 0 19) 27 3) - 1))) else M)) (p0 := 28) (np0 := 20) (v1 := ((if (M 27 3) = 20 then (mset (mcpy (mcpy (mcpy M 28 1 28 0 19) 29 1 29 0 19) 30 1 30 0 19) 27 3 (wr32 (((mcpy (mcpy (mcpy M 28 1 28 0 19) 29 1 29 0 19) 30 1 30 0 19) 27 3) - 1))) else M) 27 3)) (v2 := v1) (by decide) rfl (by decide) (G_ite (G_fld (x := 27) (i := 3) (y := (wr32 (((mcpy (mcpy (mcpy M 28 1 28 0 19) 29 1 29 0 19) 30 1 30 0 19) 27 3) - 1))) rfl (by decide) (by decide) (by decide) (G_cpy (x := 30) (y := 30) (sp := 1) (dp := 0) (n := 19) rfl (by decide) (G_cpy (x := 29) (y := 29) (sp := 1) (dp := 0) (n := 19) rfl (by decide) (G_cpy (x := 28) (y := 28) (sp := 1) (dp := 0) (n := 19) rfl (by decide) hG)))) hG)) (kF (st2 := []) rfl (fun hG2 => ?_))
    refine T_aload_n (i := 0) (pc' := 77) dX0_add_76 rfl rfl rfl ?_
    refine U_gr (q := 29) (k := 1) (kI := 1) (pc' := 80) dX0_add_77 rfl cl0 (by decide) rfl (by decide) flX0_15 rfl rfl rfl (G_at (gX11_put (h := h) (M := (if (M 27 3) = 20 then (mset (mcpy (mcpy (mcpy M 28 1 28 0 19) 29 1 29 0 19) 30 1 30 0 19) 27 3 (wr32 (((mcpy (mcpy (mcpy M 28 1 28 0 19) 29 1 29 0 19) 30 1 30 0 19) 27 3) - 1))) else M)) (p0 := 28) (np0 := 20) (v1 := ((if (M 27 3) = 20 then (mset (mcpy (mcpy (mcpy M 28 1 28 0 19) 29 1 29 0 19) 30 1 30 0 19) 27 3 (wr32 (((mcpy (mcpy (mcpy M 28 1 28 0 19) 29 1 29 0 19) 30 1 30 0 19) 27 3) - 1))) else M) 27 3)) (v2 := v1) (by decide) rfl (by decide) (G_ite (G_fld (x := 27) (i := 3) (y := (wr32 (((mcpy (mcpy (mcpy M 28 1 28 0 19) 29 1 29 0 19) 30 1 30 0 19) 27 3) - 1))) rfl (by decide) (by decide) (by decide) (G_cpy (x := 30) (y := 30) (sp := 1) (dp := 0) (n := 19) rfl (by decide) (G_cpy (x := 29) (y := 29) (sp := 1) (dp := 0) (n := 19) rfl (by decide) (G_cpy (x := 28) (y := 28) (sp := 1) (dp := 0) (n := 19) rfl (by decide) hG)))) hG)) 33 rfl) (by decide) rfl ?_
    refine T_aload_n (i := 0) (pc' := 81) dX0_add_80 rfl rfl rfl ?_
    refine U_gf (v := (0, ((fmX11_put (if (M 27 3) = 20 then (mset (mcpy (mcpy (mcpy M 28 1 28 0 19) 29 1 29 0 19) 30 1 30 0 19) 27 3 (wr32 (((mcpy (mcpy (mcpy M 28 1 28 0 19) 29 1 29 0 19) 30 1 30 0 19) 27 3) - 1))) else M) 28 20 ((if (M 27 3) = 20 then (mset (mcpy (mcpy (mcpy M 28 1 28 0 19) 29 1 29 0 19) 30 1 30 0 19) 27 3 (wr32 (((mcpy (mcpy (mcpy M 28 1 28 0 19) 29 1 29 0 19) 30 1 30 0 19) 27 3) - 1))) else M) 27 3) v1) 27 3))) (k := 3) (kI := 3) (pc' := 84) dX0_add_81 rfl cl0 (by decide) rfl (by decide) flX0_21 rfl rfl (by decide) rfl rfl ?_
    refine T_iload_n (i := 2) (pc' := 85) dX0_add_84 rfl rfl rfl ?_
    refine T_callSN (av := [(2, 29), (0, ((fmX11_put (if (M 27 3) = 20 then (mset (mcpy (mcpy (mcpy M 28 1 28 0 19) 29 1 29 0 19) 30 1 30 0 19) 27 3 (wr32 (((mcpy (mcpy (mcpy M 28 1 28 0 19) 29 1 29 0 19) 30 1 30 0 19) 27 3) - 1))) else M) 28 20 ((if (M 27 3) = 20 then (mset (mcpy (mcpy (mcpy M 28 1 28 0 19) 29 1 29 0 19) 30 1 30 0 19) 27 3 (wr32 (((mcpy (mcpy (mcpy M 28 1 28 0 19) 29 1 29 0 19) 30 1 30 0 19) 27 3) - 1))) else M) 27 3) v1) 27 3)), (0, v2)]) (st := []) (d2 := 1) (nc2 := 0) (ns2 := 0) (pc' := 88) dX0_add_85 rfl mtX11_put mvX11_put mlX0_31 rfl rfl (Nat.le_of_ble_eq_true rfl) (by decide) ⟨by decide, by decide⟩ rfl (pX11_put (E := E) (h := h) (M := (fmX11_put (if (M 27 3) = 20 then (mset (mcpy (mcpy (mcpy M 28 1 28 0 19) 29 1 29 0 19) 30 1 30 0 19) 27 3 (wr32 (((mcpy (mcpy (mcpy M 28 1 28 0 19) 29 1 29 0 19) 30 1 30 0 19) 27 3) - 1))) else M) 28 20 ((if (M 27 3) = 20 then (mset (mcpy (mcpy (mcpy M 28 1 28 0 19) 29 1 29 0 19) 30 1 30 0 19) 27 3 (wr32 (((mcpy (mcpy (mcpy M 28 1 28 0 19) 29 1 29 0 19) 30 1 30 0 19) 27 3) - 1))) else M) 27 3) v1)) (p0 := 29) (np0 := 20) (v1 := ((fmX11_put (if (M 27 3) = 20 then (mset (mcpy (mcpy (mcpy M 28 1 28 0 19) 29 1 29 0 19) 30 1 30 0 19) 27 3 (wr32 (((mcpy (mcpy (mcpy M 28 1 28 0 19) 29 1 29 0 19) 30 1 30 0 19) 27 3) - 1))) else M) 28 20 ((if (M 27 3) = 20 then (mset (mcpy (mcpy (mcpy M 28 1 28 0 19) 29 1 29 0 19) 30 1 30 0 19) 27 3 (wr32 (((mcpy (mcpy (mcpy M 28 1 28 0 19) 29 1 29 0 19) 30 1 30 0 19) 27 3) - 1))) else M) 27 3) v1) 27 3)) (v2 := v2) (by decide) rfl (by decide) (gX11_put (h := h) (M := (if (M 27 3) = 20 then (mset (mcpy (mcpy (mcpy M 28 1 28 0 19) 29 1 29 0 19) 30 1 30 0 19) 27 3 (wr32 (((mcpy (mcpy (mcpy M 28 1 28 0 19) 29 1 29 0 19) 30 1 30 0 19) 27 3) - 1))) else M)) (p0 := 28) (np0 := 20) (v1 := ((if (M 27 3) = 20 then (mset (mcpy (mcpy (mcpy M 28 1 28 0 19) 29 1 29 0 19) 30 1 30 0 19) 27 3 (wr32 (((mcpy (mcpy (mcpy M 28 1 28 0 19) 29 1 29 0 19) 30 1 30 0 19) 27 3) - 1))) else M) 27 3)) (v2 := v1) (by decide) rfl (by decide) (G_ite (G_fld (x := 27) (i := 3) (y := (wr32 (((mcpy (mcpy (mcpy M 28 1 28 0 19) 29 1 29 0 19) 30 1 30 0 19) 27 3) - 1))) rfl (by decide) (by decide) (by decide) (G_cpy (x := 30) (y := 30) (sp := 1) (dp := 0) (n := 19) rfl (by decide) (G_cpy (x := 29) (y := 29) (sp := 1) (dp := 0) (n := 19) rfl (by decide) (G_cpy (x := 28) (y := 28) (sp := 1) (dp := 0) (n := 19) rfl (by decide) hG)))) hG))) (kF (st2 := []) rfl (fun hG3 => ?_))
    refine T_aload_n (i := 0) (pc' := 89) dX0_add_88 rfl rfl rfl ?_
    refine U_gr (q := 30) (k := 2) (kI := 2) (pc' := 92) dX0_add_89 rfl cl0 (by decide) rfl (by decide) flX0_18 rfl rfl rfl (G_at (gX11_put (h := h) (M := (fmX11_put (if (M 27 3) = 20 then (mset (mcpy (mcpy (mcpy M 28 1 28 0 19) 29 1 29 0 19) 30 1 30 0 19) 27 3 (wr32 (((mcpy (mcpy (mcpy M 28 1 28 0 19) 29 1 29 0 19) 30 1 30 0 19) 27 3) - 1))) else M) 28 20 ((if (M 27 3) = 20 then (mset (mcpy (mcpy (mcpy M 28 1 28 0 19) 29 1 29 0 19) 30 1 30 0 19) 27 3 (wr32 (((mcpy (mcpy (mcpy M 28 1 28 0 19) 29 1 29 0 19) 30 1 30 0 19) 27 3) - 1))) else M) 27 3) v1)) (p0 := 29) (np0 := 20) (v1 := ((fmX11_put (if (M 27 3) = 20 then (mset (mcpy (mcpy (mcpy M 28 1 28 0 19) 29 1 29 0 19) 30 1 30 0 19) 27 3 (wr32 (((mcpy (mcpy (mcpy M 28 1 28 0 19) 29 1 29 0 19) 30 1 30 0 19) 27 3) - 1))) else M) 28 20 ((if (M 27 3) = 20 then (mset (mcpy (mcpy (mcpy M 28 1 28 0 19) 29 1 29 0 19) 30 1 30 0 19) 27 3 (wr32 (((mcpy (mcpy (mcpy M 28 1 28 0 19) 29 1 29 0 19) 30 1 30 0 19) 27 3) - 1))) else M) 27 3) v1) 27 3)) (v2 := v2) (by decide) rfl (by decide) (gX11_put (h := h) (M := (if (M 27 3) = 20 then (mset (mcpy (mcpy (mcpy M 28 1 28 0 19) 29 1 29 0 19) 30 1 30 0 19) 27 3 (wr32 (((mcpy (mcpy (mcpy M 28 1 28 0 19) 29 1 29 0 19) 30 1 30 0 19) 27 3) - 1))) else M)) (p0 := 28) (np0 := 20) (v1 := ((if (M 27 3) = 20 then (mset (mcpy (mcpy (mcpy M 28 1 28 0 19) 29 1 29 0 19) 30 1 30 0 19) 27 3 (wr32 (((mcpy (mcpy (mcpy M 28 1 28 0 19) 29 1 29 0 19) 30 1 30 0 19) 27 3) - 1))) else M) 27 3)) (v2 := v1) (by decide) rfl (by decide) (G_ite (G_fld (x := 27) (i := 3) (y := (wr32 (((mcpy (mcpy (mcpy M 28 1 28 0 19) 29 1 29 0 19) 30 1 30 0 19) 27 3) - 1))) rfl (by decide) (by decide) (by decide) (G_cpy (x := 30) (y := 30) (sp := 1) (dp := 0) (n := 19) rfl (by decide) (G_cpy (x := 29) (y := 29) (sp := 1) (dp := 0) (n := 19) rfl (by decide) (G_cpy (x := 28) (y := 28) (sp := 1) (dp := 0) (n := 19) rfl (by decide) hG)))) hG))) 34 rfl) (by decide) rfl ?_
    refine T_aload_n (i := 0) (pc' := 93) dX0_add_92 rfl rfl rfl ?_
    refine U_gf (v := (0, ((fmX11_put (fmX11_put (if (M 27 3) = 20 then (mset (mcpy (mcpy (mcpy M 28 1 28 0 19) 29 1 29 0 19) 30 1 30 0 19) 27 3 (wr32 (((mcpy (mcpy (mcpy M 28 1 28 0 19) 29 1 29 0 19) 30 1 30 0 19) 27 3) - 1))) else M) 28 20 ((if (M 27 3) = 20 then (mset (mcpy (mcpy (mcpy M 28 1 28 0 19) 29 1 29 0 19) 30 1 30 0 19) 27 3 (wr32 (((mcpy (mcpy (mcpy M 28 1 28 0 19) 29 1 29 0 19) 30 1 30 0 19) 27 3) - 1))) else M) 27 3) v1) 29 20 ((fmX11_put (if (M 27 3) = 20 then (mset (mcpy (mcpy (mcpy M 28 1 28 0 19) 29 1 29 0 19) 30 1 30 0 19) 27 3 (wr32 (((mcpy (mcpy (mcpy M 28 1 28 0 19) 29 1 29 0 19) 30 1 30 0 19) 27 3) - 1))) else M) 28 20 ((if (M 27 3) = 20 then (mset (mcpy (mcpy (mcpy M 28 1 28 0 19) 29 1 29 0 19) 30 1 30 0 19) 27 3 (wr32 (((mcpy (mcpy (mcpy M 28 1 28 0 19) 29 1 29 0 19) 30 1 30 0 19) 27 3) - 1))) else M) 27 3) v1) 27 3) v2) 27 3))) (k := 3) (kI := 3) (pc' := 96) dX0_add_93 rfl cl0 (by decide) rfl (by decide) flX0_21 rfl rfl (by decide) rfl rfl ?_
    refine T_iload_n (i := 3) (pc' := 97) dX0_add_96 rfl rfl rfl ?_
    refine T_callSN (av := [(2, 30), (0, ((fmX11_put (fmX11_put (if (M 27 3) = 20 then (mset (mcpy (mcpy (mcpy M 28 1 28 0 19) 29 1 29 0 19) 30 1 30 0 19) 27 3 (wr32 (((mcpy (mcpy (mcpy M 28 1 28 0 19) 29 1 29 0 19) 30 1 30 0 19) 27 3) - 1))) else M) 28 20 ((if (M 27 3) = 20 then (mset (mcpy (mcpy (mcpy M 28 1 28 0 19) 29 1 29 0 19) 30 1 30 0 19) 27 3 (wr32 (((mcpy (mcpy (mcpy M 28 1 28 0 19) 29 1 29 0 19) 30 1 30 0 19) 27 3) - 1))) else M) 27 3) v1) 29 20 ((fmX11_put (if (M 27 3) = 20 then (mset (mcpy (mcpy (mcpy M 28 1 28 0 19) 29 1 29 0 19) 30 1 30 0 19) 27 3 (wr32 (((mcpy (mcpy (mcpy M 28 1 28 0 19) 29 1 29 0 19) 30 1 30 0 19) 27 3) - 1))) else M) 28 20 ((if (M 27 3) = 20 then (mset (mcpy (mcpy (mcpy M 28 1 28 0 19) 29 1 29 0 19) 30 1 30 0 19) 27 3 (wr32 (((mcpy (mcpy (mcpy M 28 1 28 0 19) 29 1 29 0 19) 30 1 30 0 19) 27 3) - 1))) else M) 27 3) v1) 27 3) v2) 27 3)), (0, v3)]) (st := []) (d2 := 1) (nc2 := 0) (ns2 := 0) (pc' := 100) dX0_add_97 rfl mtX11_put mvX11_put mlX0_31 rfl rfl (Nat.le_of_ble_eq_true rfl) (by decide) ⟨by decide, by decide⟩ rfl (pX11_put (E := E) (h := h) (M := (fmX11_put (fmX11_put (if (M 27 3) = 20 then (mset (mcpy (mcpy (mcpy M 28 1 28 0 19) 29 1 29 0 19) 30 1 30 0 19) 27 3 (wr32 (((mcpy (mcpy (mcpy M 28 1 28 0 19) 29 1 29 0 19) 30 1 30 0 19) 27 3) - 1))) else M) 28 20 ((if (M 27 3) = 20 then (mset (mcpy (mcpy (mcpy M 28 1 28 0 19) 29 1 29 0 19) 30 1 30 0 19) 27 3 (wr32 (((mcpy (mcpy (mcpy M 28 1 28 0 19) 29 1 29 0 19) 30 1 30 0 19) 27 3) - 1))) else M) 27 3) v1) 29 20 ((fmX11_put (if (M 27 3) = 20 then (mset (mcpy (mcpy (mcpy M 28 1 28 0 19) 29 1 29 0 19) 30 1 30 0 19) 27 3 (wr32 (((mcpy (mcpy (mcpy M 28 1 28 0 19) 29 1 29 0 19) 30 1 30 0 19) 27 3) - 1))) else M) 28 20 ((if (M 27 3) = 20 then (mset (mcpy (mcpy (mcpy M 28 1 28 0 19) 29 1 29 0 19) 30 1 30 0 19) 27 3 (wr32 (((mcpy (mcpy (mcpy M 28 1 28 0 19) 29 1 29 0 19) 30 1 30 0 19) 27 3) - 1))) else M) 27 3) v1) 27 3) v2)) (p0 := 30) (np0 := 20) (v1 := ((fmX11_put (fmX11_put (if (M 27 3) = 20 then (mset (mcpy (mcpy (mcpy M 28 1 28 0 19) 29 1 29 0 19) 30 1 30 0 19) 27 3 (wr32 (((mcpy (mcpy (mcpy M 28 1 28 0 19) 29 1 29 0 19) 30 1 30 0 19) 27 3) - 1))) else M) 28 20 ((if (M 27 3) = 20 then (mset (mcpy (mcpy (mcpy M 28 1 28 0 19) 29 1 29 0 19) 30 1 30 0 19) 27 3 (wr32 (((mcpy (mcpy (mcpy M 28 1 28 0 19) 29 1 29 0 19) 30 1 30 0 19) 27 3) - 1))) else M) 27 3) v1) 29 20 ((fmX11_put (if (M 27 3) = 20 then (mset (mcpy (mcpy (mcpy M 28 1 28 0 19) 29 1 29 0 19) 30 1 30 0 19) 27 3 (wr32 (((mcpy (mcpy (mcpy M 28 1 28 0 19) 29 1 29 0 19) 30 1 30 0 19) 27 3) - 1))) else M) 28 20 ((if (M 27 3) = 20 then (mset (mcpy (mcpy (mcpy M 28 1 28 0 19) 29 1 29 0 19) 30 1 30 0 19) 27 3 (wr32 (((mcpy (mcpy (mcpy M 28 1 28 0 19) 29 1 29 0 19) 30 1 30 0 19) 27 3) - 1))) else M) 27 3) v1) 27 3) v2) 27 3)) (v2 := v3) (by decide) rfl (by decide) (gX11_put (h := h) (M := (fmX11_put (if (M 27 3) = 20 then (mset (mcpy (mcpy (mcpy M 28 1 28 0 19) 29 1 29 0 19) 30 1 30 0 19) 27 3 (wr32 (((mcpy (mcpy (mcpy M 28 1 28 0 19) 29 1 29 0 19) 30 1 30 0 19) 27 3) - 1))) else M) 28 20 ((if (M 27 3) = 20 then (mset (mcpy (mcpy (mcpy M 28 1 28 0 19) 29 1 29 0 19) 30 1 30 0 19) 27 3 (wr32 (((mcpy (mcpy (mcpy M 28 1 28 0 19) 29 1 29 0 19) 30 1 30 0 19) 27 3) - 1))) else M) 27 3) v1)) (p0 := 29) (np0 := 20) (v1 := ((fmX11_put (if (M 27 3) = 20 then (mset (mcpy (mcpy (mcpy M 28 1 28 0 19) 29 1 29 0 19) 30 1 30 0 19) 27 3 (wr32 (((mcpy (mcpy (mcpy M 28 1 28 0 19) 29 1 29 0 19) 30 1 30 0 19) 27 3) - 1))) else M) 28 20 ((if (M 27 3) = 20 then (mset (mcpy (mcpy (mcpy M 28 1 28 0 19) 29 1 29 0 19) 30 1 30 0 19) 27 3 (wr32 (((mcpy (mcpy (mcpy M 28 1 28 0 19) 29 1 29 0 19) 30 1 30 0 19) 27 3) - 1))) else M) 27 3) v1) 27 3)) (v2 := v2) (by decide) rfl (by decide) (gX11_put (h := h) (M := (if (M 27 3) = 20 then (mset (mcpy (mcpy (mcpy M 28 1 28 0 19) 29 1 29 0 19) 30 1 30 0 19) 27 3 (wr32 (((mcpy (mcpy (mcpy M 28 1 28 0 19) 29 1 29 0 19) 30 1 30 0 19) 27 3) - 1))) else M)) (p0 := 28) (np0 := 20) (v1 := ((if (M 27 3) = 20 then (mset (mcpy (mcpy (mcpy M 28 1 28 0 19) 29 1 29 0 19) 30 1 30 0 19) 27 3 (wr32 (((mcpy (mcpy (mcpy M 28 1 28 0 19) 29 1 29 0 19) 30 1 30 0 19) 27 3) - 1))) else M) 27 3)) (v2 := v1) (by decide) rfl (by decide) (G_ite (G_fld (x := 27) (i := 3) (y := (wr32 (((mcpy (mcpy (mcpy M 28 1 28 0 19) 29 1 29 0 19) 30 1 30 0 19) 27 3) - 1))) rfl (by decide) (by decide) (by decide) (G_cpy (x := 30) (y := 30) (sp := 1) (dp := 0) (n := 19) rfl (by decide) (G_cpy (x := 29) (y := 29) (sp := 1) (dp := 0) (n := 19) rfl (by decide) (G_cpy (x := 28) (y := 28) (sp := 1) (dp := 0) (n := 19) rfl (by decide) hG)))) hG)))) (kF (st2 := []) rfl (fun hG4 => ?_))
    refine T_aload_n (i := 0) (pc' := 101) dX0_add_100 rfl rfl rfl ?_
    refine T_dup (pc' := 102) dX0_add_101 (Nat.ne_of_beq_eq_false rfl) rfl ?_
    refine U_gf (v := (0, ((fmX11_put (fmX11_put (fmX11_put (if (M 27 3) = 20 then (mset (mcpy (mcpy (mcpy M 28 1 28 0 19) 29 1 29 0 19) 30 1 30 0 19) 27 3 (wr32 (((mcpy (mcpy (mcpy M 28 1 28 0 19) 29 1 29 0 19) 30 1 30 0 19) 27 3) - 1))) else M) 28 20 ((if (M 27 3) = 20 then (mset (mcpy (mcpy (mcpy M 28 1 28 0 19) 29 1 29 0 19) 30 1 30 0 19) 27 3 (wr32 (((mcpy (mcpy (mcpy M 28 1 28 0 19) 29 1 29 0 19) 30 1 30 0 19) 27 3) - 1))) else M) 27 3) v1) 29 20 ((fmX11_put (if (M 27 3) = 20 then (mset (mcpy (mcpy (mcpy M 28 1 28 0 19) 29 1 29 0 19) 30 1 30 0 19) 27 3 (wr32 (((mcpy (mcpy (mcpy M 28 1 28 0 19) 29 1 29 0 19) 30 1 30 0 19) 27 3) - 1))) else M) 28 20 ((if (M 27 3) = 20 then (mset (mcpy (mcpy (mcpy M 28 1 28 0 19) 29 1 29 0 19) 30 1 30 0 19) 27 3 (wr32 (((mcpy (mcpy (mcpy M 28 1 28 0 19) 29 1 29 0 19) 30 1 30 0 19) 27 3) - 1))) else M) 27 3) v1) 27 3) v2) 30 20 ((fmX11_put (fmX11_put (if (M 27 3) = 20 then (mset (mcpy (mcpy (mcpy M 28 1 28 0 19) 29 1 29 0 19) 30 1 30 0 19) 27 3 (wr32 (((mcpy (mcpy (mcpy M 28 1 28 0 19) 29 1 29 0 19) 30 1 30 0 19) 27 3) - 1))) else M) 28 20 ((if (M 27 3) = 20 then (mset (mcpy (mcpy (mcpy M 28 1 28 0 19) 29 1 29 0 19) 30 1 30 0 19) 27 3 (wr32 (((mcpy (mcpy (mcpy M 28 1 28 0 19) 29 1 29 0 19) 30 1 30 0 19) 27 3) - 1))) else M) 27 3) v1) 29 20 ((fmX11_put (if (M 27 3) = 20 then (mset (mcpy (mcpy (mcpy M 28 1 28 0 19) 29 1 29 0 19) 30 1 30 0 19) 27 3 (wr32 (((mcpy (mcpy (mcpy M 28 1 28 0 19) 29 1 29 0 19) 30 1 30 0 19) 27 3) - 1))) else M) 28 20 ((if (M 27 3) = 20 then (mset (mcpy (mcpy (mcpy M 28 1 28 0 19) 29 1 29 0 19) 30 1 30 0 19) 27 3 (wr32 (((mcpy (mcpy (mcpy M 28 1 28 0 19) 29 1 29 0 19) 30 1 30 0 19) 27 3) - 1))) else M) 27 3) v1) 27 3) v2) 27 3) v3) 27 3))) (k := 3) (kI := 3) (pc' := 105) dX0_add_102 rfl cl0 (by decide) rfl (by decide) flX0_21 rfl rfl (by decide) rfl rfl ?_
    refine T_iconst (pc' := 106) dX0_add_105 (by decide) rfl ?_
    refine T_iadd (pc' := 107) dX0_add_106 rfl ?_
    refine U_pf (y := (wr32 (((fmX11_put (fmX11_put (fmX11_put (if (M 27 3) = 20 then (mset (mcpy (mcpy (mcpy M 28 1 28 0 19) 29 1 29 0 19) 30 1 30 0 19) 27 3 (wr32 (((mcpy (mcpy (mcpy M 28 1 28 0 19) 29 1 29 0 19) 30 1 30 0 19) 27 3) - 1))) else M) 28 20 ((if (M 27 3) = 20 then (mset (mcpy (mcpy (mcpy M 28 1 28 0 19) 29 1 29 0 19) 30 1 30 0 19) 27 3 (wr32 (((mcpy (mcpy (mcpy M 28 1 28 0 19) 29 1 29 0 19) 30 1 30 0 19) 27 3) - 1))) else M) 27 3) v1) 29 20 ((fmX11_put (if (M 27 3) = 20 then (mset (mcpy (mcpy (mcpy M 28 1 28 0 19) 29 1 29 0 19) 30 1 30 0 19) 27 3 (wr32 (((mcpy (mcpy (mcpy M 28 1 28 0 19) 29 1 29 0 19) 30 1 30 0 19) 27 3) - 1))) else M) 28 20 ((if (M 27 3) = 20 then (mset (mcpy (mcpy (mcpy M 28 1 28 0 19) 29 1 29 0 19) 30 1 30 0 19) 27 3 (wr32 (((mcpy (mcpy (mcpy M 28 1 28 0 19) 29 1 29 0 19) 30 1 30 0 19) 27 3) - 1))) else M) 27 3) v1) 27 3) v2) 30 20 ((fmX11_put (fmX11_put (if (M 27 3) = 20 then (mset (mcpy (mcpy (mcpy M 28 1 28 0 19) 29 1 29 0 19) 30 1 30 0 19) 27 3 (wr32 (((mcpy (mcpy (mcpy M 28 1 28 0 19) 29 1 29 0 19) 30 1 30 0 19) 27 3) - 1))) else M) 28 20 ((if (M 27 3) = 20 then (mset (mcpy (mcpy (mcpy M 28 1 28 0 19) 29 1 29 0 19) 30 1 30 0 19) 27 3 (wr32 (((mcpy (mcpy (mcpy M 28 1 28 0 19) 29 1 29 0 19) 30 1 30 0 19) 27 3) - 1))) else M) 27 3) v1) 29 20 ((fmX11_put (if (M 27 3) = 20 then (mset (mcpy (mcpy (mcpy M 28 1 28 0 19) 29 1 29 0 19) 30 1 30 0 19) 27 3 (wr32 (((mcpy (mcpy (mcpy M 28 1 28 0 19) 29 1 29 0 19) 30 1 30 0 19) 27 3) - 1))) else M) 28 20 ((if (M 27 3) = 20 then (mset (mcpy (mcpy (mcpy M 28 1 28 0 19) 29 1 29 0 19) 30 1 30 0 19) 27 3 (wr32 (((mcpy (mcpy (mcpy M 28 1 28 0 19) 29 1 29 0 19) 30 1 30 0 19) 27 3) - 1))) else M) 27 3) v1) 27 3) v2) 27 3) v3) 27 3) + 1))) (k := 3) (kI := 3) (pc' := 110) dX0_add_107 rfl cl0 (by decide) rfl (by decide) flX0_21 rfl rfl rfl rfl rfl (by decide) (fun z => z) rfl ?_
    exact T_vret dX0_add_110 rfl ⟨rfl, (G_fld (x := 27) (i := 3) (y := (wr32 (((fmX11_put (fmX11_put (fmX11_put (if (M 27 3) = 20 then (mset (mcpy (mcpy (mcpy M 28 1 28 0 19) 29 1 29 0 19) 30 1 30 0 19) 27 3 (wr32 (((mcpy (mcpy (mcpy M 28 1 28 0 19) 29 1 29 0 19) 30 1 30 0 19) 27 3) - 1))) else M) 28 20 ((if (M 27 3) = 20 then (mset (mcpy (mcpy (mcpy M 28 1 28 0 19) 29 1 29 0 19) 30 1 30 0 19) 27 3 (wr32 (((mcpy (mcpy (mcpy M 28 1 28 0 19) 29 1 29 0 19) 30 1 30 0 19) 27 3) - 1))) else M) 27 3) v1) 29 20 ((fmX11_put (if (M 27 3) = 20 then (mset (mcpy (mcpy (mcpy M 28 1 28 0 19) 29 1 29 0 19) 30 1 30 0 19) 27 3 (wr32 (((mcpy (mcpy (mcpy M 28 1 28 0 19) 29 1 29 0 19) 30 1 30 0 19) 27 3) - 1))) else M) 28 20 ((if (M 27 3) = 20 then (mset (mcpy (mcpy (mcpy M 28 1 28 0 19) 29 1 29 0 19) 30 1 30 0 19) 27 3 (wr32 (((mcpy (mcpy (mcpy M 28 1 28 0 19) 29 1 29 0 19) 30 1 30 0 19) 27 3) - 1))) else M) 27 3) v1) 27 3) v2) 30 20 ((fmX11_put (fmX11_put (if (M 27 3) = 20 then (mset (mcpy (mcpy (mcpy M 28 1 28 0 19) 29 1 29 0 19) 30 1 30 0 19) 27 3 (wr32 (((mcpy (mcpy (mcpy M 28 1 28 0 19) 29 1 29 0 19) 30 1 30 0 19) 27 3) - 1))) else M) 28 20 ((if (M 27 3) = 20 then (mset (mcpy (mcpy (mcpy M 28 1 28 0 19) 29 1 29 0 19) 30 1 30 0 19) 27 3 (wr32 (((mcpy (mcpy (mcpy M 28 1 28 0 19) 29 1 29 0 19) 30 1 30 0 19) 27 3) - 1))) else M) 27 3) v1) 29 20 ((fmX11_put (if (M 27 3) = 20 then (mset (mcpy (mcpy (mcpy M 28 1 28 0 19) 29 1 29 0 19) 30 1 30 0 19) 27 3 (wr32 (((mcpy (mcpy (mcpy M 28 1 28 0 19) 29 1 29 0 19) 30 1 30 0 19) 27 3) - 1))) else M) 28 20 ((if (M 27 3) = 20 then (mset (mcpy (mcpy (mcpy M 28 1 28 0 19) 29 1 29 0 19) 30 1 30 0 19) 27 3 (wr32 (((mcpy (mcpy (mcpy M 28 1 28 0 19) 29 1 29 0 19) 30 1 30 0 19) 27 3) - 1))) else M) 27 3) v1) 27 3) v2) 27 3) v3) 27 3) + 1))) rfl (by decide) (by decide) (by decide) (gX11_put (h := h) (M := (fmX11_put (fmX11_put (if (M 27 3) = 20 then (mset (mcpy (mcpy (mcpy M 28 1 28 0 19) 29 1 29 0 19) 30 1 30 0 19) 27 3 (wr32 (((mcpy (mcpy (mcpy M 28 1 28 0 19) 29 1 29 0 19) 30 1 30 0 19) 27 3) - 1))) else M) 28 20 ((if (M 27 3) = 20 then (mset (mcpy (mcpy (mcpy M 28 1 28 0 19) 29 1 29 0 19) 30 1 30 0 19) 27 3 (wr32 (((mcpy (mcpy (mcpy M 28 1 28 0 19) 29 1 29 0 19) 30 1 30 0 19) 27 3) - 1))) else M) 27 3) v1) 29 20 ((fmX11_put (if (M 27 3) = 20 then (mset (mcpy (mcpy (mcpy M 28 1 28 0 19) 29 1 29 0 19) 30 1 30 0 19) 27 3 (wr32 (((mcpy (mcpy (mcpy M 28 1 28 0 19) 29 1 29 0 19) 30 1 30 0 19) 27 3) - 1))) else M) 28 20 ((if (M 27 3) = 20 then (mset (mcpy (mcpy (mcpy M 28 1 28 0 19) 29 1 29 0 19) 30 1 30 0 19) 27 3 (wr32 (((mcpy (mcpy (mcpy M 28 1 28 0 19) 29 1 29 0 19) 30 1 30 0 19) 27 3) - 1))) else M) 27 3) v1) 27 3) v2)) (p0 := 30) (np0 := 20) (v1 := ((fmX11_put (fmX11_put (if (M 27 3) = 20 then (mset (mcpy (mcpy (mcpy M 28 1 28 0 19) 29 1 29 0 19) 30 1 30 0 19) 27 3 (wr32 (((mcpy (mcpy (mcpy M 28 1 28 0 19) 29 1 29 0 19) 30 1 30 0 19) 27 3) - 1))) else M) 28 20 ((if (M 27 3) = 20 then (mset (mcpy (mcpy (mcpy M 28 1 28 0 19) 29 1 29 0 19) 30 1 30 0 19) 27 3 (wr32 (((mcpy (mcpy (mcpy M 28 1 28 0 19) 29 1 29 0 19) 30 1 30 0 19) 27 3) - 1))) else M) 27 3) v1) 29 20 ((fmX11_put (if (M 27 3) = 20 then (mset (mcpy (mcpy (mcpy M 28 1 28 0 19) 29 1 29 0 19) 30 1 30 0 19) 27 3 (wr32 (((mcpy (mcpy (mcpy M 28 1 28 0 19) 29 1 29 0 19) 30 1 30 0 19) 27 3) - 1))) else M) 28 20 ((if (M 27 3) = 20 then (mset (mcpy (mcpy (mcpy M 28 1 28 0 19) 29 1 29 0 19) 30 1 30 0 19) 27 3 (wr32 (((mcpy (mcpy (mcpy M 28 1 28 0 19) 29 1 29 0 19) 30 1 30 0 19) 27 3) - 1))) else M) 27 3) v1) 27 3) v2) 27 3)) (v2 := v3) (by decide) rfl (by decide) (gX11_put (h := h) (M := (fmX11_put (if (M 27 3) = 20 then (mset (mcpy (mcpy (mcpy M 28 1 28 0 19) 29 1 29 0 19) 30 1 30 0 19) 27 3 (wr32 (((mcpy (mcpy (mcpy M 28 1 28 0 19) 29 1 29 0 19) 30 1 30 0 19) 27 3) - 1))) else M) 28 20 ((if (M 27 3) = 20 then (mset (mcpy (mcpy (mcpy M 28 1 28 0 19) 29 1 29 0 19) 30 1 30 0 19) 27 3 (wr32 (((mcpy (mcpy (mcpy M 28 1 28 0 19) 29 1 29 0 19) 30 1 30 0 19) 27 3) - 1))) else M) 27 3) v1)) (p0 := 29) (np0 := 20) (v1 := ((fmX11_put (if (M 27 3) = 20 then (mset (mcpy (mcpy (mcpy M 28 1 28 0 19) 29 1 29 0 19) 30 1 30 0 19) 27 3 (wr32 (((mcpy (mcpy (mcpy M 28 1 28 0 19) 29 1 29 0 19) 30 1 30 0 19) 27 3) - 1))) else M) 28 20 ((if (M 27 3) = 20 then (mset (mcpy (mcpy (mcpy M 28 1 28 0 19) 29 1 29 0 19) 30 1 30 0 19) 27 3 (wr32 (((mcpy (mcpy (mcpy M 28 1 28 0 19) 29 1 29 0 19) 30 1 30 0 19) 27 3) - 1))) else M) 27 3) v1) 27 3)) (v2 := v2) (by decide) rfl (by decide) (gX11_put (h := h) (M := (if (M 27 3) = 20 then (mset (mcpy (mcpy (mcpy M 28 1 28 0 19) 29 1 29 0 19) 30 1 30 0 19) 27 3 (wr32 (((mcpy (mcpy (mcpy M 28 1 28 0 19) 29 1 29 0 19) 30 1 30 0 19) 27 3) - 1))) else M)) (p0 := 28) (np0 := 20) (v1 := ((if (M 27 3) = 20 then (mset (mcpy (mcpy (mcpy M 28 1 28 0 19) 29 1 29 0 19) 30 1 30 0 19) 27 3 (wr32 (((mcpy (mcpy (mcpy M 28 1 28 0 19) 29 1 29 0 19) 30 1 30 0 19) 27 3) - 1))) else M) 27 3)) (v2 := v1) (by decide) rfl (by decide) (G_ite (G_fld (x := 27) (i := 3) (y := (wr32 (((mcpy (mcpy (mcpy M 28 1 28 0 19) 29 1 29 0 19) 30 1 30 0 19) 27 3) - 1))) rfl (by decide) (by decide) (by decide) (G_cpy (x := 30) (y := 30) (sp := 1) (dp := 0) (n := 19) rfl (by decide) (G_cpy (x := 29) (y := 29) (sp := 1) (dp := 0) (n := 19) rfl (by decide) (G_cpy (x := 28) (y := 28) (sp := 1) (dp := 0) (n := 19) rfl (by decide) hG)))) hG))))), (by rw [hQ]; exact ⟨rfl, rfl⟩)⟩
  refine T_icmp_ne (pc' := 64) dX0_add_6 (by decide) (pf := 9) rfl (fun c5 => ?_) (fun c5 => ?_)
  · skip
    exact T_wk (L' := [(2, 27), (0, v1), (0, v2), (0, v3)]) (by have q := HJ1; try simp only [if_neg c5] at q; exact q) ⟨Or.inr rfl, Or.inr rfl, Or.inr rfl, Or.inr rfl, trivial⟩
  · skip
    refine T_aload_n (i := 0) (pc' := 10) dX0_add_9 rfl rfl rfl ?_
    refine U_gr (q := 28) (k := 0) (kI := 0) (pc' := 13) dX0_add_10 rfl cl0 (by decide) rfl (by decide) flX0_9 rfl rfl rfl (G_at hG 32 rfl) (by decide) rfl ?_
    refine T_iconst (pc' := 14) dX0_add_13 (by decide) rfl ?_
    refine T_aload_n (i := 0) (pc' := 15) dX0_add_14 rfl rfl rfl ?_
    refine U_gr (q := 28) (k := 0) (kI := 0) (pc' := 18) dX0_add_15 rfl cl0 (by decide) rfl (by decide) flX0_9 rfl rfl rfl (G_at hG 32 rfl) (by decide) rfl ?_
    refine T_iconst (pc' := 19) dX0_add_18 (by decide) rfl ?_
    refine T_bipush (pc' := 21) dX0_add_19 rfl (by decide) rfl ?_
    refine U_copy (pc' := 24) dX0_add_21 rfl mlX0_25 (by decide) (by decide) rfl rfl (by decide) (by decide) (by decide) (by decide) (by decide) (Nat.le_of_ble_eq_true rfl) (by decide) rfl ?_
    refine T_aload_n (i := 0) (pc' := 25) dX0_add_24 rfl rfl rfl ?_
    refine U_gr (q := 29) (k := 1) (kI := 1) (pc' := 28) dX0_add_25 rfl cl0 (by decide) rfl (by decide) flX0_15 rfl rfl rfl (G_at (G_cpy (x := 28) (y := 28) (sp := 1) (dp := 0) (n := 19) rfl (by decide) hG) 33 rfl) (by decide) rfl ?_
    refine T_iconst (pc' := 29) dX0_add_28 (by decide) rfl ?_
    refine T_aload_n (i := 0) (pc' := 30) dX0_add_29 rfl rfl rfl ?_
    refine U_gr (q := 29) (k := 1) (kI := 1) (pc' := 33) dX0_add_30 rfl cl0 (by decide) rfl (by decide) flX0_15 rfl rfl rfl (G_at (G_cpy (x := 28) (y := 28) (sp := 1) (dp := 0) (n := 19) rfl (by decide) hG) 33 rfl) (by decide) rfl ?_
    refine T_iconst (pc' := 34) dX0_add_33 (by decide) rfl ?_
    refine T_bipush (pc' := 36) dX0_add_34 rfl (by decide) rfl ?_
    refine U_copy (pc' := 39) dX0_add_36 rfl mlX0_25 (by decide) (by decide) rfl rfl (by decide) (by decide) (by decide) (by decide) (by decide) (Nat.le_of_ble_eq_true rfl) (by decide) rfl ?_
    refine T_aload_n (i := 0) (pc' := 40) dX0_add_39 rfl rfl rfl ?_
    refine U_gr (q := 30) (k := 2) (kI := 2) (pc' := 43) dX0_add_40 rfl cl0 (by decide) rfl (by decide) flX0_18 rfl rfl rfl (G_at (G_cpy (x := 29) (y := 29) (sp := 1) (dp := 0) (n := 19) rfl (by decide) (G_cpy (x := 28) (y := 28) (sp := 1) (dp := 0) (n := 19) rfl (by decide) hG)) 34 rfl) (by decide) rfl ?_
    refine T_iconst (pc' := 44) dX0_add_43 (by decide) rfl ?_
    refine T_aload_n (i := 0) (pc' := 45) dX0_add_44 rfl rfl rfl ?_
    refine U_gr (q := 30) (k := 2) (kI := 2) (pc' := 48) dX0_add_45 rfl cl0 (by decide) rfl (by decide) flX0_18 rfl rfl rfl (G_at (G_cpy (x := 29) (y := 29) (sp := 1) (dp := 0) (n := 19) rfl (by decide) (G_cpy (x := 28) (y := 28) (sp := 1) (dp := 0) (n := 19) rfl (by decide) hG)) 34 rfl) (by decide) rfl ?_
    refine T_iconst (pc' := 49) dX0_add_48 (by decide) rfl ?_
    refine T_bipush (pc' := 51) dX0_add_49 rfl (by decide) rfl ?_
    refine U_copy (pc' := 54) dX0_add_51 rfl mlX0_25 (by decide) (by decide) rfl rfl (by decide) (by decide) (by decide) (by decide) (by decide) (Nat.le_of_ble_eq_true rfl) (by decide) rfl ?_
    refine T_aload_n (i := 0) (pc' := 55) dX0_add_54 rfl rfl rfl ?_
    refine T_dup (pc' := 56) dX0_add_55 (Nat.ne_of_beq_eq_false rfl) rfl ?_
    refine U_gf (v := (0, ((mcpy (mcpy (mcpy M 28 1 28 0 19) 29 1 29 0 19) 30 1 30 0 19) 27 3))) (k := 3) (kI := 3) (pc' := 59) dX0_add_56 rfl cl0 (by decide) rfl (by decide) flX0_21 rfl rfl (by decide) rfl rfl ?_
    refine T_iconst (pc' := 60) dX0_add_59 (by decide) rfl ?_
    refine T_isub (pc' := 61) dX0_add_60 rfl ?_
    refine U_pf (y := (wr32 (((mcpy (mcpy (mcpy M 28 1 28 0 19) 29 1 29 0 19) 30 1 30 0 19) 27 3) - 1))) (k := 3) (kI := 3) (pc' := 64) dX0_add_61 rfl cl0 (by decide) rfl (by decide) flX0_21 rfl rfl rfl rfl rfl (by decide) (fun z => z) rfl ?_
    exact T_wk (L' := [(2, 27), (0, v1), (0, v2), (0, v3)]) (by have q := HJ1; try simp only [if_pos c5] at q; exact q) ⟨Or.inr rfl, Or.inr rfl, Or.inr rfl, Or.inr rfl, trivial⟩
theorem frX0_add {M : Mem} {v1 : Int} {v2 : Int} {v3 : Int}  {q : Int} (hq0 : q ≠ 28) (hq1 : q ≠ 29) (hq2 : q ≠ 30) (hq3 : q ≠ 27) : (fmX0_add M v1 v2 v3) q = M q := by
  unfold fmX0_add
  repeat' (first | rfl | rw [mset_p hq0] | rw [mset_p hq1] | rw [mset_p hq2] | rw [mset_p hq3] | rw [mcpy_p hq0] | rw [mcpy_p hq1] | rw [mcpy_p hq2] | rw [mcpy_p hq3] | (rw [frX11_put] <;> try assumption) | rw [ite_ap] | split)
def fX11_get (M : Mem) (p0 : Int) (np0 : Nat) (v1 : Int) : Int :=
  (if v1 < 0 then ((-1) : Int) else (if (np0 : Int) ≤ v1 then ((-1) : Int) else (M p0 v1)))
set_option maxRecDepth 100000 in
theorem pX11_get {E : EV} {h : Int} {M : Mem} {p0 : Int} {np0 : Nat} {v1 : Int} (h0p0 : 0 ≤ p0) (hSp0 : S0[p0.toNat]? = some (0, 0, np0)) (hnp0 : np0 < 2147483648) : C2 E miX11_get 1 h [(2, p0), (0, v1)] M (fun r M' => r = some (0, (fX11_get M p0 np0 v1)) ∧ M' = M) := by
  obtain ⟨Q, hQ⟩ : ∃ Q : Option MV → Mem → Prop, Q = (fun r M' => r = some (0, (fX11_get M p0 np0 v1)) ∧ M' = M) := ⟨_, rfl⟩
  rw [← hQ]
  refine C2_of (L := [(2, p0), (0, v1)]) (by decide +kernel) (Nat.le_of_ble_eq_true rfl) rfl (fun hG => ?_)
  refine T_iload_n (i := 1) (pc' := 1) dX11_get_0 rfl rfl rfl ?_
  have HJ1 : T E miX11_get 1 126 0 0 (fun r S M' => S = S0 ∧ G h M' ∧ Q r M') 17 [(3, 0), (3, 0)] [(0, (if v1 < 0 then ((-1) : Int) else (if (np0 : Int) ≤ v1 then ((-1) : Int) else (M p0 v1))))] S0 M 0 0 := by
    exact T_iret dX11_get_17 rfl ⟨rfl, hG, (by rw [hQ]; exact ⟨rfl, rfl⟩)⟩
  refine T_if_lt (pc' := 16) dX11_get_1 (by decide) (pf := 4) rfl (fun c2 => ?_) (fun c2 => ?_)
  · skip
    refine T_iconst (pc' := 17) dX11_get_16 (by decide) rfl ?_
    exact T_wk (L' := [(3, 0), (3, 0)]) (by have q := HJ1; try simp only [if_pos c2] at q; exact q) ⟨Or.inl rfl, Or.inl rfl, trivial⟩
  · skip
    refine T_iload_n (i := 1) (pc' := 5) dX11_get_4 rfl rfl rfl ?_
    refine T_aload_n (i := 0) (pc' := 6) dX11_get_5 rfl rfl rfl ?_
    refine U_alen (nI := (np0 : Int)) (pc' := 7) dX11_get_6 (by decide) hnp0 hSp0 rfl rfl ?_
    refine T_icmp_ge (pc' := 16) dX11_get_7 (by decide) (pf := 10) rfl (fun c3 => ?_) (fun c3 => ?_)
    · skip
      refine T_iconst (pc' := 17) dX11_get_16 (by decide) rfl ?_
      exact T_wk (L' := [(3, 0), (3, 0)]) (by have q := HJ1; try simp only [if_neg c2] at q; try simp only [if_pos c3] at q; exact q) ⟨Or.inl rfl, Or.inl rfl, trivial⟩
    · skip
      refine T_aload_n (i := 0) (pc' := 11) dX11_get_10 rfl rfl rfl ?_
      refine T_iload_n (i := 1) (pc' := 12) dX11_get_11 rfl rfl rfl ?_
      refine T_iald (pc' := 13) dX11_get_12 h0p0 hSp0 (by omega) (by omega) rfl ?_
      refine T_goto (pc' := 17) dX11_get_13 (by decide) ?_
      exact T_wk (L' := [(3, 0), (3, 0)]) (by have q := HJ1; try simp only [if_neg c2] at q; try simp only [if_neg c3] at q; exact q) ⟨Or.inl rfl, Or.inl rfl, trivial⟩
def fX1_isTold (M : Mem) (g : Int) : Int :=
  (if (M g 9) ≤ 0 then (0 : Int) else 1)
set_option maxRecDepth 100000 in
theorem pX1_isTold {E : EV} {h : Int} {M : Mem} {g : Int} (hg : isG g) : C2 E miX1_isTold 1 h [(2, g)] M (fun r M' => r = some (0, (fX1_isTold M g)) ∧ M' = M) := by
  obtain ⟨Q, hQ⟩ : ∃ Q : Option MV → Mem → Prop, Q = (fun r M' => r = some (0, (fX1_isTold M g)) ∧ M' = M) := ⟨_, rfl⟩
  rw [← hQ]
  refine C2_of (L := [(2, g)]) (by decide +kernel) (Nat.le_of_ble_eq_true rfl) rfl (fun hG => ?_)
  refine T_aload_n (i := 0) (pc' := 1) dX1_isTold_0 rfl rfl rfl ?_
  refine U_gf (v := (0, (M g 9))) (k := 9) (kI := 9) (pc' := 4) dX1_isTold_1 rfl cl1 (pog0 hg) (shg0 hg) (by decide) flX1_58 rfl rfl (by decide) rfl rfl ?_
  have HJ1 : T E miX1_isTold 1 126 0 0 (fun r S M' => S = S0 ∧ G h M' ∧ Q r M') 12 [(3, 0)] [(0, (if (M g 9) ≤ 0 then (0 : Int) else 1))] S0 M 0 0 := by
    exact T_zret dX1_isTold_12 rfl (by repeat' (first | apply bi | exact Or.inl rfl | exact Or.inr rfl)) ⟨rfl, hG, (by rw [hQ]; exact ⟨rfl, rfl⟩)⟩
  refine T_if_le (pc' := 11) dX1_isTold_4 (by decide) (pf := 7) rfl (fun c2 => ?_) (fun c2 => ?_)
  · skip
    refine T_iconst (pc' := 12) dX1_isTold_11 (by decide) rfl ?_
    exact T_wk (L' := [(3, 0)]) (by have q := HJ1; try simp only [if_pos c2] at q; exact q) ⟨Or.inl rfl, trivial⟩
  · skip
    refine T_iconst (pc' := 8) dX1_isTold_7 (by decide) rfl ?_
    refine T_goto (pc' := 12) dX1_isTold_8 (by decide) ?_
    exact T_wk (L' := [(3, 0)]) (by have q := HJ1; try simp only [if_neg c2] at q; exact q) ⟨Or.inl rfl, trivial⟩
theorem fbX1_isTold (M : Mem) (g : Int) : (fX1_isTold M g) = 0 ∨ (fX1_isTold M g) = 1 := by
  unfold fX1_isTold
  repeat' (first | apply bi | exact Or.inl rfl | exact Or.inr rfl)
def fX1_cells (M : Mem) (g : Int) : Int :=
  (wr32 ((M g 9) * (M g 10)))
set_option maxRecDepth 100000 in
theorem pX1_cells {E : EV} {h : Int} {M : Mem} {g : Int} (hg : isG g) : C2 E miX1_cells 1 h [(2, g)] M (fun r M' => r = some (0, (fX1_cells M g)) ∧ M' = M) := by
  obtain ⟨Q, hQ⟩ : ∃ Q : Option MV → Mem → Prop, Q = (fun r M' => r = some (0, (fX1_cells M g)) ∧ M' = M) := ⟨_, rfl⟩
  rw [← hQ]
  refine C2_of (L := [(2, g)]) (by decide +kernel) (Nat.le_of_ble_eq_true rfl) rfl (fun hG => ?_)
  refine T_aload_n (i := 0) (pc' := 1) dX1_cells_0 rfl rfl rfl ?_
  refine U_gf (v := (0, (M g 9))) (k := 9) (kI := 9) (pc' := 4) dX1_cells_1 rfl cl1 (pog0 hg) (shg0 hg) (by decide) flX1_58 rfl rfl (by decide) rfl rfl ?_
  refine T_aload_n (i := 0) (pc' := 5) dX1_cells_4 rfl rfl rfl ?_
  refine U_gf (v := (0, (M g 10))) (k := 10) (kI := 10) (pc' := 8) dX1_cells_5 rfl cl1 (pog0 hg) (shg0 hg) (by decide) flX1_61 rfl rfl (by decide) rfl rfl ?_
  refine T_imul (pc' := 9) dX1_cells_8 rfl ?_
  exact T_iret dX1_cells_9 rfl ⟨rfl, hG, (by rw [hQ]; exact ⟨rfl, rfl⟩)⟩
def fX1_isFree (M : Mem) (g : Int) (v1 : Int) : Int :=
  (if v1 < 0 then (0 : Int) else (if (fX1_cells M g) ≤ v1 then (0 : Int) else (if (fX11_get M (g + 9) 54 v1) = 0 then (1 : Int) else 0)))
set_option maxRecDepth 100000 in
theorem pX1_isFree {E : EV} {h : Int} {M : Mem} {g : Int} {v1 : Int} (hg : isG g) : C2 E miX1_isFree 2 h [(2, g), (0, v1)] M (fun r M' => r = some (0, (fX1_isFree M g v1)) ∧ M' = M) := by
  obtain ⟨Q, hQ⟩ : ∃ Q : Option MV → Mem → Prop, Q = (fun r M' => r = some (0, (fX1_isFree M g v1)) ∧ M' = M) := ⟨_, rfl⟩
  rw [← hQ]
  refine C2_of (L := [(2, g), (0, v1)]) (by decide +kernel) (Nat.le_of_ble_eq_true rfl) rfl (fun hG => ?_)
  refine T_iload_n (i := 1) (pc' := 1) dX1_isFree_0 rfl rfl rfl ?_
  have HJ1 : T E miX1_isFree 2 126 0 0 (fun r S M' => S = S0 ∧ G h M' ∧ Q r M') 28 [(3, 0), (3, 0)] [(0, (if v1 < 0 then (0 : Int) else (if (fX1_cells M g) ≤ v1 then (0 : Int) else (if (fX11_get M (g + 9) 54 v1) = 0 then (1 : Int) else 0))))] S0 M 0 0 := by
    exact T_zret dX1_isFree_28 rfl (by repeat' (first | apply bi | exact Or.inl rfl | exact Or.inr rfl)) ⟨rfl, hG, (by rw [hQ]; exact ⟨rfl, rfl⟩)⟩
  refine T_if_lt (pc' := 27) dX1_isFree_1 (by decide) (pf := 4) rfl (fun c2 => ?_) (fun c2 => ?_)
  · skip
    refine T_iconst (pc' := 28) dX1_isFree_27 (by decide) rfl ?_
    exact T_wk (L' := [(3, 0), (3, 0)]) (by have q := HJ1; try simp only [if_pos c2] at q; exact q) ⟨Or.inl rfl, Or.inl rfl, trivial⟩
  · skip
    refine T_iload_n (i := 1) (pc' := 5) dX1_isFree_4 rfl rfl rfl ?_
    refine T_aload_n (i := 0) (pc' := 6) dX1_isFree_5 rfl rfl rfl ?_
    refine T_callV (av := []) (st := [(0, v1)]) (d2 := 1) (nc2 := 0) (ns2 := 0) (pc' := 9) dX1_isFree_6 rfl mtX1_cells mvX1_cells mlX1_85 cl1 (shg0 hg) rfl rfl (Nat.le_of_ble_eq_true rfl) (by decide) ⟨by decide, by decide⟩ rfl (pX1_cells (E := E) (h := h) (M := M) (g := g) hg hG) (kF (st2 := [(0, (fX1_cells M g)), (0, v1)]) rfl (fun hG3 => ?_))
    refine T_icmp_ge (pc' := 27) dX1_isFree_9 (by decide) (pf := 12) rfl (fun c4 => ?_) (fun c4 => ?_)
    · skip
      refine T_iconst (pc' := 28) dX1_isFree_27 (by decide) rfl ?_
      exact T_wk (L' := [(3, 0), (3, 0)]) (by have q := HJ1; try simp only [if_neg c2] at q; try simp only [if_pos c4] at q; exact q) ⟨Or.inl rfl, Or.inl rfl, trivial⟩
    · skip
      refine T_aload_n (i := 0) (pc' := 13) dX1_isFree_12 rfl rfl rfl ?_
      refine U_gr (q := (g + 9)) (k := 1) (kI := 1) (pc' := 16) dX1_isFree_13 rfl cl1 (pog0 hg) (shg0 hg) (by decide) flX1_18 rfl rfl rfl (grg0_1 hg hG) (pog9 hg) rfl ?_
      refine T_iload_n (i := 1) (pc' := 17) dX1_isFree_16 rfl rfl rfl ?_
      refine T_callSN (av := [(2, (g + 9)), (0, v1)]) (st := []) (d2 := 1) (nc2 := 0) (ns2 := 0) (pc' := 20) dX1_isFree_17 rfl mtX11_get mvX11_get mlX1_89 rfl rfl (Nat.le_of_ble_eq_true rfl) (by decide) ⟨by decide, by decide⟩ rfl (pX11_get (E := E) (h := h) (M := M) (p0 := (g + 9)) (np0 := 54) (v1 := v1) (pog9 hg) (shg9 hg) (by decide) hG) (kF (st2 := [(0, (fX11_get M (g + 9) 54 v1))]) rfl (fun hG5 => ?_))
      refine T_if_ne (pc' := 27) dX1_isFree_20 (by decide) (pf := 23) rfl (fun c6 => ?_) (fun c6 => ?_)
      · skip
        refine T_iconst (pc' := 28) dX1_isFree_27 (by decide) rfl ?_
        exact T_wk (L' := [(3, 0), (3, 0)]) (by have q := HJ1; try simp only [if_neg c2] at q; try simp only [if_neg c4] at q; try simp only [if_neg c6] at q; exact q) ⟨Or.inl rfl, Or.inl rfl, trivial⟩
      · skip
        refine T_iconst (pc' := 24) dX1_isFree_23 (by decide) rfl ?_
        refine T_goto (pc' := 28) dX1_isFree_24 (by decide) ?_
        exact T_wk (L' := [(3, 0), (3, 0)]) (by have q := HJ1; try simp only [if_neg c2] at q; try simp only [if_neg c4] at q; try simp only [if_pos c6] at q; exact q) ⟨Or.inl rfl, Or.inl rfl, trivial⟩
theorem fbX1_isFree (M : Mem) (g : Int) (v1 : Int) : (fX1_isFree M g v1) = 0 ∨ (fX1_isFree M g v1) = 1 := by
  unfold fX1_isFree
  repeat' (first | apply bi | exact Or.inl rfl | exact Or.inr rfl)
def fX1_hasGuard (M : Mem) (g : Int) (v1 : Int) : Int :=
  (if v1 < 0 then (0 : Int) else (if (M g 13) ≤ v1 then (0 : Int) else 1))
set_option maxRecDepth 100000 in
theorem pX1_hasGuard {E : EV} {h : Int} {M : Mem} {g : Int} {v1 : Int} (hg : isG g) : C2 E miX1_hasGuard 1 h [(2, g), (0, v1)] M (fun r M' => r = some (0, (fX1_hasGuard M g v1)) ∧ M' = M) := by
  obtain ⟨Q, hQ⟩ : ∃ Q : Option MV → Mem → Prop, Q = (fun r M' => r = some (0, (fX1_hasGuard M g v1)) ∧ M' = M) := ⟨_, rfl⟩
  rw [← hQ]
  refine C2_of (L := [(2, g), (0, v1)]) (by decide +kernel) (Nat.le_of_ble_eq_true rfl) rfl (fun hG => ?_)
  refine T_iload_n (i := 1) (pc' := 1) dX1_hasGuard_0 rfl rfl rfl ?_
  have HJ1 : T E miX1_hasGuard 1 126 0 0 (fun r S M' => S = S0 ∧ G h M' ∧ Q r M') 17 [(3, 0), (3, 0)] [(0, (if v1 < 0 then (0 : Int) else (if (M g 13) ≤ v1 then (0 : Int) else 1)))] S0 M 0 0 := by
    exact T_zret dX1_hasGuard_17 rfl (by repeat' (first | apply bi | exact Or.inl rfl | exact Or.inr rfl)) ⟨rfl, hG, (by rw [hQ]; exact ⟨rfl, rfl⟩)⟩
  refine T_if_lt (pc' := 16) dX1_hasGuard_1 (by decide) (pf := 4) rfl (fun c2 => ?_) (fun c2 => ?_)
  · skip
    refine T_iconst (pc' := 17) dX1_hasGuard_16 (by decide) rfl ?_
    exact T_wk (L' := [(3, 0), (3, 0)]) (by have q := HJ1; try simp only [if_pos c2] at q; exact q) ⟨Or.inl rfl, Or.inl rfl, trivial⟩
  · skip
    refine T_iload_n (i := 1) (pc' := 5) dX1_hasGuard_4 rfl rfl rfl ?_
    refine T_aload_n (i := 0) (pc' := 6) dX1_hasGuard_5 rfl rfl rfl ?_
    refine U_gf (v := (0, (M g 13))) (k := 13) (kI := 13) (pc' := 9) dX1_hasGuard_6 rfl cl1 (pog0 hg) (shg0 hg) (by decide) flX1_70 rfl rfl (by decide) rfl rfl ?_
    refine T_icmp_ge (pc' := 16) dX1_hasGuard_9 (by decide) (pf := 12) rfl (fun c3 => ?_) (fun c3 => ?_)
    · skip
      refine T_iconst (pc' := 17) dX1_hasGuard_16 (by decide) rfl ?_
      exact T_wk (L' := [(3, 0), (3, 0)]) (by have q := HJ1; try simp only [if_neg c2] at q; try simp only [if_pos c3] at q; exact q) ⟨Or.inl rfl, Or.inl rfl, trivial⟩
    · skip
      refine T_iconst (pc' := 13) dX1_hasGuard_12 (by decide) rfl ?_
      refine T_goto (pc' := 17) dX1_hasGuard_13 (by decide) ?_
      exact T_wk (L' := [(3, 0), (3, 0)]) (by have q := HJ1; try simp only [if_neg c2] at q; try simp only [if_neg c3] at q; exact q) ⟨Or.inl rfl, Or.inl rfl, trivial⟩
theorem fbX1_hasGuard (M : Mem) (g : Int) (v1 : Int) : (fX1_hasGuard M g v1) = 0 ∨ (fX1_hasGuard M g v1) = 1 := by
  unfold fX1_hasGuard
  repeat' (first | apply bi | exact Or.inl rfl | exact Or.inr rfl)
def fX1_hasDoor (M : Mem) (g : Int) (v1 : Int) : Int :=
  (if v1 < 0 then (0 : Int) else (if (M g 12) ≤ v1 then (0 : Int) else 1))
set_option maxRecDepth 100000 in
theorem pX1_hasDoor {E : EV} {h : Int} {M : Mem} {g : Int} {v1 : Int} (hg : isG g) : C2 E miX1_hasDoor 1 h [(2, g), (0, v1)] M (fun r M' => r = some (0, (fX1_hasDoor M g v1)) ∧ M' = M) := by
  obtain ⟨Q, hQ⟩ : ∃ Q : Option MV → Mem → Prop, Q = (fun r M' => r = some (0, (fX1_hasDoor M g v1)) ∧ M' = M) := ⟨_, rfl⟩
  rw [← hQ]
  refine C2_of (L := [(2, g), (0, v1)]) (by decide +kernel) (Nat.le_of_ble_eq_true rfl) rfl (fun hG => ?_)
  refine T_iload_n (i := 1) (pc' := 1) dX1_hasDoor_0 rfl rfl rfl ?_
  have HJ1 : T E miX1_hasDoor 1 126 0 0 (fun r S M' => S = S0 ∧ G h M' ∧ Q r M') 17 [(3, 0), (3, 0)] [(0, (if v1 < 0 then (0 : Int) else (if (M g 12) ≤ v1 then (0 : Int) else 1)))] S0 M 0 0 := by
    exact T_zret dX1_hasDoor_17 rfl (by repeat' (first | apply bi | exact Or.inl rfl | exact Or.inr rfl)) ⟨rfl, hG, (by rw [hQ]; exact ⟨rfl, rfl⟩)⟩
  refine T_if_lt (pc' := 16) dX1_hasDoor_1 (by decide) (pf := 4) rfl (fun c2 => ?_) (fun c2 => ?_)
  · skip
    refine T_iconst (pc' := 17) dX1_hasDoor_16 (by decide) rfl ?_
    exact T_wk (L' := [(3, 0), (3, 0)]) (by have q := HJ1; try simp only [if_pos c2] at q; exact q) ⟨Or.inl rfl, Or.inl rfl, trivial⟩
  · skip
    refine T_iload_n (i := 1) (pc' := 5) dX1_hasDoor_4 rfl rfl rfl ?_
    refine T_aload_n (i := 0) (pc' := 6) dX1_hasDoor_5 rfl rfl rfl ?_
    refine U_gf (v := (0, (M g 12))) (k := 12) (kI := 12) (pc' := 9) dX1_hasDoor_6 rfl cl1 (pog0 hg) (shg0 hg) (by decide) flX1_67 rfl rfl (by decide) rfl rfl ?_
    refine T_icmp_ge (pc' := 16) dX1_hasDoor_9 (by decide) (pf := 12) rfl (fun c3 => ?_) (fun c3 => ?_)
    · skip
      refine T_iconst (pc' := 17) dX1_hasDoor_16 (by decide) rfl ?_
      exact T_wk (L' := [(3, 0), (3, 0)]) (by have q := HJ1; try simp only [if_neg c2] at q; try simp only [if_pos c3] at q; exact q) ⟨Or.inl rfl, Or.inl rfl, trivial⟩
    · skip
      refine T_iconst (pc' := 13) dX1_hasDoor_12 (by decide) rfl ?_
      refine T_goto (pc' := 17) dX1_hasDoor_13 (by decide) ?_
      exact T_wk (L' := [(3, 0), (3, 0)]) (by have q := HJ1; try simp only [if_neg c2] at q; try simp only [if_neg c3] at q; exact q) ⟨Or.inl rfl, Or.inl rfl, trivial⟩
theorem fbX1_hasDoor (M : Mem) (g : Int) (v1 : Int) : (fX1_hasDoor M g v1) = 0 ∨ (fX1_hasDoor M g v1) = 1 := by
  unfold fX1_hasDoor
  repeat' (first | apply bi | exact Or.inl rfl | exact Or.inr rfl)
def fX1_across (M : Mem) (g : Int) (v1 : Int) : Int :=
  (if (M g 9) ≤ 0 then (0 : Int) else (Int.tmod v1 (M g 9)))
set_option maxRecDepth 100000 in
theorem pX1_across {E : EV} {h : Int} {M : Mem} {g : Int} {v1 : Int} (hg : isG g) : C2 E miX1_across 1 h [(2, g), (0, v1)] M (fun r M' => r = some (0, (fX1_across M g v1)) ∧ M' = M) := by
  obtain ⟨Q, hQ⟩ : ∃ Q : Option MV → Mem → Prop, Q = (fun r M' => r = some (0, (fX1_across M g v1)) ∧ M' = M) := ⟨_, rfl⟩
  rw [← hQ]
  refine C2_of (L := [(2, g), (0, v1)]) (by decide +kernel) (Nat.le_of_ble_eq_true rfl) rfl (fun hG => ?_)
  refine T_aload_n (i := 0) (pc' := 1) dX1_across_0 rfl rfl rfl ?_
  refine U_gf (v := (0, (M g 9))) (k := 9) (kI := 9) (pc' := 4) dX1_across_1 rfl cl1 (pog0 hg) (shg0 hg) (by decide) flX1_58 rfl rfl (by decide) rfl rfl ?_
  have HJ1 : T E miX1_across 1 126 0 0 (fun r S M' => S = S0 ∧ G h M' ∧ Q r M') 17 [(3, 0), (3, 0)] [(0, (if (M g 9) ≤ 0 then (0 : Int) else (Int.tmod v1 (M g 9))))] S0 M 0 0 := by
    exact T_iret dX1_across_17 rfl ⟨rfl, hG, (by rw [hQ]; exact ⟨rfl, rfl⟩)⟩
  refine T_if_le (pc' := 16) dX1_across_4 (by decide) (pf := 7) rfl (fun c2 => ?_) (fun c2 => ?_)
  · skip
    refine T_iconst (pc' := 17) dX1_across_16 (by decide) rfl ?_
    exact T_wk (L' := [(3, 0), (3, 0)]) (by have q := HJ1; try simp only [if_pos c2] at q; exact q) ⟨Or.inl rfl, Or.inl rfl, trivial⟩
  · skip
    refine T_iload_n (i := 1) (pc' := 8) dX1_across_7 rfl rfl rfl ?_
    refine T_aload_n (i := 0) (pc' := 9) dX1_across_8 rfl rfl rfl ?_
    refine U_gf (v := (0, (M g 9))) (k := 9) (kI := 9) (pc' := 12) dX1_across_9 rfl cl1 (pog0 hg) (shg0 hg) (by decide) flX1_58 rfl rfl (by decide) rfl rfl ?_
    refine T_irem (pc' := 13) dX1_across_12 (by omega) rfl ?_
    refine T_goto (pc' := 17) dX1_across_13 (by decide) ?_
    exact T_wk (L' := [(3, 0), (3, 0)]) (by have q := HJ1; try simp only [if_neg c2] at q; exact q) ⟨Or.inl rfl, Or.inl rfl, trivial⟩
def fX1_down (M : Mem) (g : Int) (v1 : Int) : Int :=
  (if (M g 9) ≤ 0 then (0 : Int) else (wr32 (Int.tdiv v1 (M g 9))))
set_option maxRecDepth 100000 in
theorem pX1_down {E : EV} {h : Int} {M : Mem} {g : Int} {v1 : Int} (hg : isG g) : C2 E miX1_down 1 h [(2, g), (0, v1)] M (fun r M' => r = some (0, (fX1_down M g v1)) ∧ M' = M) := by
  obtain ⟨Q, hQ⟩ : ∃ Q : Option MV → Mem → Prop, Q = (fun r M' => r = some (0, (fX1_down M g v1)) ∧ M' = M) := ⟨_, rfl⟩
  rw [← hQ]
  refine C2_of (L := [(2, g), (0, v1)]) (by decide +kernel) (Nat.le_of_ble_eq_true rfl) rfl (fun hG => ?_)
  refine T_aload_n (i := 0) (pc' := 1) dX1_down_0 rfl rfl rfl ?_
  refine U_gf (v := (0, (M g 9))) (k := 9) (kI := 9) (pc' := 4) dX1_down_1 rfl cl1 (pog0 hg) (shg0 hg) (by decide) flX1_58 rfl rfl (by decide) rfl rfl ?_
  have HJ1 : T E miX1_down 1 126 0 0 (fun r S M' => S = S0 ∧ G h M' ∧ Q r M') 17 [(3, 0), (3, 0)] [(0, (if (M g 9) ≤ 0 then (0 : Int) else (wr32 (Int.tdiv v1 (M g 9)))))] S0 M 0 0 := by
    exact T_iret dX1_down_17 rfl ⟨rfl, hG, (by rw [hQ]; exact ⟨rfl, rfl⟩)⟩
  refine T_if_le (pc' := 16) dX1_down_4 (by decide) (pf := 7) rfl (fun c2 => ?_) (fun c2 => ?_)
  · skip
    refine T_iconst (pc' := 17) dX1_down_16 (by decide) rfl ?_
    exact T_wk (L' := [(3, 0), (3, 0)]) (by have q := HJ1; try simp only [if_pos c2] at q; exact q) ⟨Or.inl rfl, Or.inl rfl, trivial⟩
  · skip
    refine T_iload_n (i := 1) (pc' := 8) dX1_down_7 rfl rfl rfl ?_
    refine T_aload_n (i := 0) (pc' := 9) dX1_down_8 rfl rfl rfl ?_
    refine U_gf (v := (0, (M g 9))) (k := 9) (kI := 9) (pc' := 12) dX1_down_9 rfl cl1 (pog0 hg) (shg0 hg) (by decide) flX1_58 rfl rfl (by decide) rfl rfl ?_
    refine T_idiv (pc' := 13) dX1_down_12 (by omega) rfl ?_
    refine T_goto (pc' := 17) dX1_down_13 (by decide) ?_
    exact T_wk (L' := [(3, 0), (3, 0)]) (by have q := HJ1; try simp only [if_neg c2] at q; exact q) ⟨Or.inl rfl, Or.inl rfl, trivial⟩
def fX1_distance (M : Mem) (g : Int) (v1 : Int) (v2 : Int) : Int :=
  (wr32 ((if 0 ≤ (wr32 ((fX1_across M g v1) - (fX1_across M g v2))) then (wr32 ((fX1_across M g v1) - (fX1_across M g v2))) else (wr32 (0 - (wr32 ((fX1_across M g v1) - (fX1_across M g v2)))))) + (if 0 ≤ (wr32 ((fX1_down M g v1) - (fX1_down M g v2))) then (wr32 ((fX1_down M g v1) - (fX1_down M g v2))) else (wr32 (0 - (wr32 ((fX1_down M g v1) - (fX1_down M g v2))))))))
set_option maxRecDepth 100000 in
theorem pX1_distance {E : EV} {h : Int} {M : Mem} {g : Int} {v1 : Int} {v2 : Int} (hg : isG g) : C2 E miX1_distance 2 h [(2, g), (0, v1), (0, v2)] M (fun r M' => r = some (0, (fX1_distance M g v1 v2)) ∧ M' = M) := by
  obtain ⟨Q, hQ⟩ : ∃ Q : Option MV → Mem → Prop, Q = (fun r M' => r = some (0, (fX1_distance M g v1 v2)) ∧ M' = M) := ⟨_, rfl⟩
  rw [← hQ]
  refine C2_of (L := [(2, g), (0, v1), (0, v2)]) (by decide +kernel) (Nat.le_of_ble_eq_true rfl) rfl (fun hG => ?_)
  refine T_aload_n (i := 0) (pc' := 1) dX1_distance_0 rfl rfl rfl ?_
  refine T_iload_n (i := 1) (pc' := 2) dX1_distance_1 rfl rfl rfl ?_
  refine T_callV (av := [(0, v1)]) (st := []) (d2 := 1) (nc2 := 0) (ns2 := 0) (pc' := 5) dX1_distance_2 rfl mtX1_across mvX1_across mlX1_103 cl1 (shg0 hg) rfl rfl (Nat.le_of_ble_eq_true rfl) (by decide) ⟨by decide, by decide⟩ rfl (pX1_across (E := E) (h := h) (M := M) (g := g) (v1 := v1) hg hG) (kF (st2 := [(0, (fX1_across M g v1))]) rfl (fun hG1 => ?_))
  refine T_aload_n (i := 0) (pc' := 6) dX1_distance_5 rfl rfl rfl ?_
  refine T_iload_n (i := 2) (pc' := 7) dX1_distance_6 rfl rfl rfl ?_
  refine T_callV (av := [(0, v2)]) (st := [(0, (fX1_across M g v1))]) (d2 := 1) (nc2 := 0) (ns2 := 0) (pc' := 10) dX1_distance_7 rfl mtX1_across mvX1_across mlX1_103 cl1 (shg0 hg) rfl rfl (Nat.le_of_ble_eq_true rfl) (by decide) ⟨by decide, by decide⟩ rfl (pX1_across (E := E) (h := h) (M := M) (g := g) (v1 := v2) hg hG) (kF (st2 := [(0, (fX1_across M g v2)), (0, (fX1_across M g v1))]) rfl (fun hG2 => ?_))
  refine T_isub (pc' := 11) dX1_distance_10 rfl ?_
  refine U_mabs (pc' := 14) dX1_distance_11 rfl mlX1_106 (Nat.le_of_ble_eq_true rfl) (by decide) ⟨by decide, by decide⟩ rfl ?_
  refine T_aload_n (i := 0) (pc' := 15) dX1_distance_14 rfl rfl rfl ?_
  refine T_iload_n (i := 1) (pc' := 16) dX1_distance_15 rfl rfl rfl ?_
  refine T_callV (av := [(0, v1)]) (st := [(0, (if 0 ≤ (wr32 ((fX1_across M g v1) - (fX1_across M g v2))) then (wr32 ((fX1_across M g v1) - (fX1_across M g v2))) else (wr32 (0 - (wr32 ((fX1_across M g v1) - (fX1_across M g v2)))))))]) (d2 := 1) (nc2 := 0) (ns2 := 0) (pc' := 19) dX1_distance_16 rfl mtX1_down mvX1_down mlX1_111 cl1 (shg0 hg) rfl rfl (Nat.le_of_ble_eq_true rfl) (by decide) ⟨by decide, by decide⟩ rfl (pX1_down (E := E) (h := h) (M := M) (g := g) (v1 := v1) hg hG) (kF (st2 := [(0, (fX1_down M g v1)), (0, (if 0 ≤ (wr32 ((fX1_across M g v1) - (fX1_across M g v2))) then (wr32 ((fX1_across M g v1) - (fX1_across M g v2))) else (wr32 (0 - (wr32 ((fX1_across M g v1) - (fX1_across M g v2)))))))]) rfl (fun hG3 => ?_))
  refine T_aload_n (i := 0) (pc' := 20) dX1_distance_19 rfl rfl rfl ?_
  refine T_iload_n (i := 2) (pc' := 21) dX1_distance_20 rfl rfl rfl ?_
  refine T_callV (av := [(0, v2)]) (st := [(0, (fX1_down M g v1)), (0, (if 0 ≤ (wr32 ((fX1_across M g v1) - (fX1_across M g v2))) then (wr32 ((fX1_across M g v1) - (fX1_across M g v2))) else (wr32 (0 - (wr32 ((fX1_across M g v1) - (fX1_across M g v2)))))))]) (d2 := 1) (nc2 := 0) (ns2 := 0) (pc' := 24) dX1_distance_21 rfl mtX1_down mvX1_down mlX1_111 cl1 (shg0 hg) rfl rfl (Nat.le_of_ble_eq_true rfl) (by decide) ⟨by decide, by decide⟩ rfl (pX1_down (E := E) (h := h) (M := M) (g := g) (v1 := v2) hg hG) (kF (st2 := [(0, (fX1_down M g v2)), (0, (fX1_down M g v1)), (0, (if 0 ≤ (wr32 ((fX1_across M g v1) - (fX1_across M g v2))) then (wr32 ((fX1_across M g v1) - (fX1_across M g v2))) else (wr32 (0 - (wr32 ((fX1_across M g v1) - (fX1_across M g v2)))))))]) rfl (fun hG4 => ?_))
  refine T_isub (pc' := 25) dX1_distance_24 rfl ?_
  refine U_mabs (pc' := 28) dX1_distance_25 rfl mlX1_106 (Nat.le_of_ble_eq_true rfl) (by decide) ⟨by decide, by decide⟩ rfl ?_
  refine T_iadd (pc' := 29) dX1_distance_28 rfl ?_
  exact T_iret dX1_distance_29 rfl ⟨rfl, hG, (by rw [hQ]; exact ⟨rfl, rfl⟩)⟩
def fX1_stepFrom (M : Mem) (g : Int) (v1 : Int) (v2 : Int) : Int :=
  (if (wr32 ((fX1_across M g v1) + (if v2 = 1 then (1 : Int) else (if v2 = 3 then ((-1) : Int) else 0)))) < 0 then (-1) else (if (M g 9) ≤ (wr32 ((fX1_across M g v1) + (if v2 = 1 then (1 : Int) else (if v2 = 3 then ((-1) : Int) else 0)))) then (-1) else (if (wr32 ((fX1_down M g v1) + (if v2 = 2 then (1 : Int) else (if v2 = 0 then ((-1) : Int) else 0)))) < 0 then (-1) else (if (wr32 ((fX1_down M g v1) + (if v2 = 2 then (1 : Int) else (if v2 = 0 then ((-1) : Int) else 0)))) < (M g 10) then (if (fX1_isFree M g (wr32 ((wr32 ((wr32 ((fX1_down M g v1) + (if v2 = 2 then (1 : Int) else (if v2 = 0 then ((-1) : Int) else 0)))) * (M g 9))) + (wr32 ((fX1_across M g v1) + (if v2 = 1 then (1 : Int) else (if v2 = 3 then ((-1) : Int) else 0))))))) = 0 then ((-1) : Int) else (wr32 ((wr32 ((wr32 ((fX1_down M g v1) + (if v2 = 2 then (1 : Int) else (if v2 = 0 then ((-1) : Int) else 0)))) * (M g 9))) + (wr32 ((fX1_across M g v1) + (if v2 = 1 then (1 : Int) else (if v2 = 3 then ((-1) : Int) else 0))))))) else (-1)))))
set_option maxRecDepth 100000 in
theorem pX1_stepFrom {E : EV} {h : Int} {M : Mem} {g : Int} {v1 : Int} {v2 : Int} (hg : isG g) : C2 E miX1_stepFrom 3 h [(2, g), (0, v1), (0, v2)] M (fun r M' => r = some (0, (fX1_stepFrom M g v1 v2)) ∧ M' = M) := by
  obtain ⟨Q, hQ⟩ : ∃ Q : Option MV → Mem → Prop, Q = (fun r M' => r = some (0, (fX1_stepFrom M g v1 v2)) ∧ M' = M) := ⟨_, rfl⟩
  rw [← hQ]
  refine C2_of (L := [(2, g), (0, v1), (0, v2), (3, 0), (3, 0)]) (by decide +kernel) (Nat.le_of_ble_eq_true rfl) rfl (fun hG => ?_)
  refine T_aload_n (i := 0) (pc' := 1) dX1_stepFrom_0 rfl rfl rfl ?_
  refine T_iload_n (i := 1) (pc' := 2) dX1_stepFrom_1 rfl rfl rfl ?_
  refine T_callV (av := [(0, v1)]) (st := []) (d2 := 1) (nc2 := 0) (ns2 := 0) (pc' := 5) dX1_stepFrom_2 rfl mtX1_across mvX1_across mlX1_103 cl1 (shg0 hg) rfl rfl (Nat.le_of_ble_eq_true rfl) (by decide) ⟨by decide, by decide⟩ rfl (pX1_across (E := E) (h := h) (M := M) (g := g) (v1 := v1) hg hG) (kF (st2 := [(0, (fX1_across M g v1))]) rfl (fun hG1 => ?_))
  refine T_iload_n (i := 2) (pc' := 6) dX1_stepFrom_5 rfl rfl rfl ?_
  refine T_iconst (pc' := 7) dX1_stepFrom_6 (by decide) rfl ?_
  have HJ2 : T E miX1_stepFrom 3 126 0 0 (fun r S M' => S = S0 ∧ G h M' ∧ Q r M') 24 [(2, g), (0, v1), (0, v2), (3, 0), (3, 0)] [(0, (if v2 = 1 then (1 : Int) else (if v2 = 3 then ((-1) : Int) else 0))), (0, (fX1_across M g v1))] S0 M 0 0 := by
    refine T_iadd (pc' := 25) dX1_stepFrom_24 rfl ?_
    refine T_istore_n (i := 3) (L' := [(2, g), (0, v1), (0, v2), (0, (wr32 ((fX1_across M g v1) + (if v2 = 1 then (1 : Int) else (if v2 = 3 then ((-1) : Int) else 0))))), (3, 0)]) (pc' := 26) dX1_stepFrom_25 rfl (by decide) rfl rfl ?_
    refine T_aload_n (i := 0) (pc' := 27) dX1_stepFrom_26 rfl rfl rfl ?_
    refine T_iload_n (i := 1) (pc' := 28) dX1_stepFrom_27 rfl rfl rfl ?_
    refine T_callV (av := [(0, v1)]) (st := []) (d2 := 1) (nc2 := 0) (ns2 := 0) (pc' := 31) dX1_stepFrom_28 rfl mtX1_down mvX1_down mlX1_111 cl1 (shg0 hg) rfl rfl (Nat.le_of_ble_eq_true rfl) (by decide) ⟨by decide, by decide⟩ rfl (pX1_down (E := E) (h := h) (M := M) (g := g) (v1 := v1) hg hG) (kF (st2 := [(0, (fX1_down M g v1))]) rfl (fun hG3 => ?_))
    refine T_iload_n (i := 2) (pc' := 32) dX1_stepFrom_31 rfl rfl rfl ?_
    refine T_iconst (pc' := 33) dX1_stepFrom_32 (by decide) rfl ?_
    have HJ4 : T E miX1_stepFrom 3 126 0 0 (fun r S M' => S = S0 ∧ G h M' ∧ Q r M') 49 [(2, g), (3, 0), (3, 0), (0, (wr32 ((fX1_across M g v1) + (if v2 = 1 then (1 : Int) else (if v2 = 3 then ((-1) : Int) else 0))))), (3, 0)] [(0, (if v2 = 2 then (1 : Int) else (if v2 = 0 then ((-1) : Int) else 0))), (0, (fX1_down M g v1))] S0 M 0 0 := by
      refine T_iadd (pc' := 50) dX1_stepFrom_49 rfl ?_
      refine T_istore (i := 4) (L' := [(2, g), (3, 0), (3, 0), (0, (wr32 ((fX1_across M g v1) + (if v2 = 1 then (1 : Int) else (if v2 = 3 then ((-1) : Int) else 0))))), (0, (wr32 ((fX1_down M g v1) + (if v2 = 2 then (1 : Int) else (if v2 = 0 then ((-1) : Int) else 0)))))]) (pc' := 52) dX1_stepFrom_50 (by decide) rfl rfl ?_
      refine T_iload_n (i := 3) (pc' := 53) dX1_stepFrom_52 rfl rfl rfl ?_
      refine T_if_lt (pc' := 78) dX1_stepFrom_53 (by decide) (pf := 56) rfl (fun c5 => ?_) (fun c5 => ?_)
      · skip
        refine T_iconst (pc' := 79) dX1_stepFrom_78 (by decide) rfl ?_
        exact T_iret dX1_stepFrom_79 rfl ⟨rfl, hG, (by rw [hQ]; exact ⟨(by unfold fX1_stepFrom; simp only [if_pos c5]), rfl⟩)⟩
      · skip
        refine T_iload_n (i := 3) (pc' := 57) dX1_stepFrom_56 rfl rfl rfl ?_
        refine T_aload_n (i := 0) (pc' := 58) dX1_stepFrom_57 rfl rfl rfl ?_
        refine U_gf (v := (0, (M g 9))) (k := 9) (kI := 9) (pc' := 61) dX1_stepFrom_58 rfl cl1 (pog0 hg) (shg0 hg) (by decide) flX1_58 rfl rfl (by decide) rfl rfl ?_
        refine T_icmp_ge (pc' := 78) dX1_stepFrom_61 (by decide) (pf := 64) rfl (fun c6 => ?_) (fun c6 => ?_)
        · skip
          refine T_iconst (pc' := 79) dX1_stepFrom_78 (by decide) rfl ?_
          exact T_iret dX1_stepFrom_79 rfl ⟨rfl, hG, (by rw [hQ]; exact ⟨(by unfold fX1_stepFrom; simp only [if_neg c5, if_pos c6]), rfl⟩)⟩
        · skip
          refine T_iload (i := 4) (pc' := 66) dX1_stepFrom_64 rfl rfl ?_
          refine T_if_lt (pc' := 78) dX1_stepFrom_66 (by decide) (pf := 69) rfl (fun c7 => ?_) (fun c7 => ?_)
          · skip
            refine T_iconst (pc' := 79) dX1_stepFrom_78 (by decide) rfl ?_
            exact T_iret dX1_stepFrom_79 rfl ⟨rfl, hG, (by rw [hQ]; exact ⟨(by unfold fX1_stepFrom; simp only [if_neg c5, if_neg c6, if_pos c7]), rfl⟩)⟩
          · skip
            refine T_iload (i := 4) (pc' := 71) dX1_stepFrom_69 rfl rfl ?_
            refine T_aload_n (i := 0) (pc' := 72) dX1_stepFrom_71 rfl rfl rfl ?_
            refine U_gf (v := (0, (M g 10))) (k := 10) (kI := 10) (pc' := 75) dX1_stepFrom_72 rfl cl1 (pog0 hg) (shg0 hg) (by decide) flX1_61 rfl rfl (by decide) rfl rfl ?_
            refine T_icmp_lt (pc' := 80) dX1_stepFrom_75 (by decide) (pf := 78) rfl (fun c8 => ?_) (fun c8 => ?_)
            · skip
              refine T_aload_n (i := 0) (pc' := 81) dX1_stepFrom_80 rfl rfl rfl ?_
              refine T_iload (i := 4) (pc' := 83) dX1_stepFrom_81 rfl rfl ?_
              refine T_aload_n (i := 0) (pc' := 84) dX1_stepFrom_83 rfl rfl rfl ?_
              refine U_gf (v := (0, (M g 9))) (k := 9) (kI := 9) (pc' := 87) dX1_stepFrom_84 rfl cl1 (pog0 hg) (shg0 hg) (by decide) flX1_58 rfl rfl (by decide) rfl rfl ?_
              refine T_imul (pc' := 88) dX1_stepFrom_87 rfl ?_
              refine T_iload_n (i := 3) (pc' := 89) dX1_stepFrom_88 rfl rfl rfl ?_
              refine T_iadd (pc' := 90) dX1_stepFrom_89 rfl ?_
              refine T_callV (av := [(0, (wr32 ((wr32 ((wr32 ((fX1_down M g v1) + (if v2 = 2 then (1 : Int) else (if v2 = 0 then ((-1) : Int) else 0)))) * (M g 9))) + (wr32 ((fX1_across M g v1) + (if v2 = 1 then (1 : Int) else (if v2 = 3 then ((-1) : Int) else 0)))))))]) (st := []) (d2 := 2) (nc2 := 0) (ns2 := 0) (pc' := 93) dX1_stepFrom_90 rfl mtX1_isFree mvX1_isFree mlX1_114 cl1 (shg0 hg) rfl rfl (Nat.le_of_ble_eq_true rfl) (by decide) ⟨by decide, by decide⟩ rfl (pX1_isFree (E := E) (h := h) (M := M) (g := g) (v1 := (wr32 ((wr32 ((wr32 ((fX1_down M g v1) + (if v2 = 2 then (1 : Int) else (if v2 = 0 then ((-1) : Int) else 0)))) * (M g 9))) + (wr32 ((fX1_across M g v1) + (if v2 = 1 then (1 : Int) else (if v2 = 3 then ((-1) : Int) else 0))))))) hg hG) (kF (st2 := [(0, (fX1_isFree M g (wr32 ((wr32 ((wr32 ((fX1_down M g v1) + (if v2 = 2 then (1 : Int) else (if v2 = 0 then ((-1) : Int) else 0)))) * (M g 9))) + (wr32 ((fX1_across M g v1) + (if v2 = 1 then (1 : Int) else (if v2 = 3 then ((-1) : Int) else 0))))))))]) rfl (fun hG9 => ?_))
              have HJ10 : T E miX1_stepFrom 3 126 0 0 (fun r S M' => S = S0 ∧ G h M' ∧ Q r M') 109 [(3, 0), (3, 0), (3, 0), (3, 0), (3, 0)] [(0, (if (fX1_isFree M g (wr32 ((wr32 ((wr32 ((fX1_down M g v1) + (if v2 = 2 then (1 : Int) else (if v2 = 0 then ((-1) : Int) else 0)))) * (M g 9))) + (wr32 ((fX1_across M g v1) + (if v2 = 1 then (1 : Int) else (if v2 = 3 then ((-1) : Int) else 0))))))) = 0 then ((-1) : Int) else (wr32 ((wr32 ((wr32 ((fX1_down M g v1) + (if v2 = 2 then (1 : Int) else (if v2 = 0 then ((-1) : Int) else 0)))) * (M g 9))) + (wr32 ((fX1_across M g v1) + (if v2 = 1 then (1 : Int) else (if v2 = 3 then ((-1) : Int) else 0))))))))] S0 M 0 0 := by
                exact T_iret dX1_stepFrom_109 rfl ⟨rfl, hG, (by rw [hQ]; exact ⟨(by unfold fX1_stepFrom; simp only [if_neg c5, if_neg c6, if_neg c7, if_pos c8]), rfl⟩)⟩
              refine T_if_eq (pc' := 108) dX1_stepFrom_93 (by decide) (pf := 96) rfl (fun c11 => ?_) (fun c11 => ?_)
              · skip
                refine T_iconst (pc' := 109) dX1_stepFrom_108 (by decide) rfl ?_
                exact T_wk (L' := [(3, 0), (3, 0), (3, 0), (3, 0), (3, 0)]) (by have q := HJ10; try simp only [if_pos c11] at q; exact q) ⟨Or.inl rfl, Or.inl rfl, Or.inl rfl, Or.inl rfl, Or.inl rfl, trivial⟩
              · skip
                refine T_iload (i := 4) (pc' := 98) dX1_stepFrom_96 rfl rfl ?_
                refine T_aload_n (i := 0) (pc' := 99) dX1_stepFrom_98 rfl rfl rfl ?_
                refine U_gf (v := (0, (M g 9))) (k := 9) (kI := 9) (pc' := 102) dX1_stepFrom_99 rfl cl1 (pog0 hg) (shg0 hg) (by decide) flX1_58 rfl rfl (by decide) rfl rfl ?_
                refine T_imul (pc' := 103) dX1_stepFrom_102 rfl ?_
                refine T_iload_n (i := 3) (pc' := 104) dX1_stepFrom_103 rfl rfl rfl ?_
                refine T_iadd (pc' := 105) dX1_stepFrom_104 rfl ?_
                refine T_goto (pc' := 109) dX1_stepFrom_105 (by decide) ?_
                exact T_wk (L' := [(3, 0), (3, 0), (3, 0), (3, 0), (3, 0)]) (by have q := HJ10; try simp only [if_neg c11] at q; exact q) ⟨Or.inl rfl, Or.inl rfl, Or.inl rfl, Or.inl rfl, Or.inl rfl, trivial⟩
            · skip
              refine T_iconst (pc' := 79) dX1_stepFrom_78 (by decide) rfl ?_
              exact T_iret dX1_stepFrom_79 rfl ⟨rfl, hG, (by rw [hQ]; exact ⟨(by unfold fX1_stepFrom; simp only [if_neg c5, if_neg c6, if_neg c7, if_neg c8]), rfl⟩)⟩
    refine T_icmp_ne (pc' := 40) dX1_stepFrom_33 (by decide) (pf := 36) rfl (fun c12 => ?_) (fun c12 => ?_)
    · skip
      refine T_iload_n (i := 2) (pc' := 41) dX1_stepFrom_40 rfl rfl rfl ?_
      refine T_if_ne (pc' := 48) dX1_stepFrom_41 (by decide) (pf := 44) rfl (fun c13 => ?_) (fun c13 => ?_)
      · skip
        refine T_iconst (pc' := 49) dX1_stepFrom_48 (by decide) rfl ?_
        exact T_wk (L' := [(2, g), (3, 0), (3, 0), (0, (wr32 ((fX1_across M g v1) + (if v2 = 1 then (1 : Int) else (if v2 = 3 then ((-1) : Int) else 0))))), (3, 0)]) (by have q := HJ4; try simp only [if_neg c12] at q; try simp only [if_neg c13] at q; exact q) ⟨Or.inr rfl, Or.inl rfl, Or.inl rfl, Or.inr rfl, Or.inl rfl, trivial⟩
      · skip
        refine T_iconst (pc' := 45) dX1_stepFrom_44 (by decide) rfl ?_
        refine T_goto (pc' := 49) dX1_stepFrom_45 (by decide) ?_
        exact T_wk (L' := [(2, g), (3, 0), (3, 0), (0, (wr32 ((fX1_across M g v1) + (if v2 = 1 then (1 : Int) else (if v2 = 3 then ((-1) : Int) else 0))))), (3, 0)]) (by have q := HJ4; try simp only [if_neg c12] at q; try simp only [if_pos c13] at q; exact q) ⟨Or.inr rfl, Or.inl rfl, Or.inl rfl, Or.inr rfl, Or.inl rfl, trivial⟩
    · skip
      refine T_iconst (pc' := 37) dX1_stepFrom_36 (by decide) rfl ?_
      refine T_goto (pc' := 49) dX1_stepFrom_37 (by decide) ?_
      exact T_wk (L' := [(2, g), (3, 0), (3, 0), (0, (wr32 ((fX1_across M g v1) + (if v2 = 1 then (1 : Int) else (if v2 = 3 then ((-1) : Int) else 0))))), (3, 0)]) (by have q := HJ4; try simp only [if_pos c12] at q; exact q) ⟨Or.inr rfl, Or.inl rfl, Or.inl rfl, Or.inr rfl, Or.inl rfl, trivial⟩
  refine T_icmp_ne (pc' := 14) dX1_stepFrom_7 (by decide) (pf := 10) rfl (fun c14 => ?_) (fun c14 => ?_)
  · skip
    refine T_iload_n (i := 2) (pc' := 15) dX1_stepFrom_14 rfl rfl rfl ?_
    refine T_iconst (pc' := 16) dX1_stepFrom_15 (by decide) rfl ?_
    refine T_icmp_ne (pc' := 23) dX1_stepFrom_16 (by decide) (pf := 19) rfl (fun c15 => ?_) (fun c15 => ?_)
    · skip
      refine T_iconst (pc' := 24) dX1_stepFrom_23 (by decide) rfl ?_
      exact T_wk (L' := [(2, g), (0, v1), (0, v2), (3, 0), (3, 0)]) (by have q := HJ2; try simp only [if_neg c14] at q; try simp only [if_neg c15] at q; exact q) ⟨Or.inr rfl, Or.inr rfl, Or.inr rfl, Or.inl rfl, Or.inl rfl, trivial⟩
    · skip
      refine T_iconst (pc' := 20) dX1_stepFrom_19 (by decide) rfl ?_
      refine T_goto (pc' := 24) dX1_stepFrom_20 (by decide) ?_
      exact T_wk (L' := [(2, g), (0, v1), (0, v2), (3, 0), (3, 0)]) (by have q := HJ2; try simp only [if_neg c14] at q; try simp only [if_pos c15] at q; exact q) ⟨Or.inr rfl, Or.inr rfl, Or.inr rfl, Or.inl rfl, Or.inl rfl, trivial⟩
  · skip
    refine T_iconst (pc' := 11) dX1_stepFrom_10 (by decide) rfl ?_
    refine T_goto (pc' := 24) dX1_stepFrom_11 (by decide) ?_
    exact T_wk (L' := [(2, g), (0, v1), (0, v2), (3, 0), (3, 0)]) (by have q := HJ2; try simp only [if_pos c14] at q; exact q) ⟨Or.inr rfl, Or.inr rfl, Or.inr rfl, Or.inl rfl, Or.inl rfl, trivial⟩
def fX1_isNear (M : Mem) (g : Int) (v1 : Int) (v2 : Int) : Int :=
  (if v1 < 0 then (0 : Int) else (if 54 ≤ v1 then (0 : Int) else (if (m_cmp (m_land (m_lshr (M (g + 16) v1) v2) 1) 1) = 0 then (1 : Int) else 0)))
set_option maxRecDepth 100000 in
theorem pX1_isNear {E : EV} {h : Int} {M : Mem} {g : Int} {v1 : Int} {v2 : Int} (hg : isG g) : C2 E miX1_isNear 1 h [(2, g), (0, v1), (0, v2)] M (fun r M' => r = some (0, (fX1_isNear M g v1 v2)) ∧ M' = M) := by
  obtain ⟨Q, hQ⟩ : ∃ Q : Option MV → Mem → Prop, Q = (fun r M' => r = some (0, (fX1_isNear M g v1 v2)) ∧ M' = M) := ⟨_, rfl⟩
  rw [← hQ]
  refine C2_of (L := [(2, g), (0, v1), (0, v2)]) (by decide +kernel) (Nat.le_of_ble_eq_true rfl) rfl (fun hG => ?_)
  refine T_iload_n (i := 1) (pc' := 1) dX1_isNear_0 rfl rfl rfl ?_
  have HJ1 : T E miX1_isNear 1 126 0 0 (fun r S M' => S = S0 ∧ G h M' ∧ Q r M') 33 [(3, 0), (3, 0), (3, 0)] [(0, (if v1 < 0 then (0 : Int) else (if 54 ≤ v1 then (0 : Int) else (if (m_cmp (m_land (m_lshr (M (g + 16) v1) v2) 1) 1) = 0 then (1 : Int) else 0))))] S0 M 0 0 := by
    exact T_zret dX1_isNear_33 rfl (by repeat' (first | apply bi | exact Or.inl rfl | exact Or.inr rfl)) ⟨rfl, hG, (by rw [hQ]; exact ⟨rfl, rfl⟩)⟩
  refine T_if_lt (pc' := 32) dX1_isNear_1 (by decide) (pf := 4) rfl (fun c2 => ?_) (fun c2 => ?_)
  · skip
    refine T_iconst (pc' := 33) dX1_isNear_32 (by decide) rfl ?_
    exact T_wk (L' := [(3, 0), (3, 0), (3, 0)]) (by have q := HJ1; try simp only [if_pos c2] at q; exact q) ⟨Or.inl rfl, Or.inl rfl, Or.inl rfl, trivial⟩
  · skip
    refine T_iload_n (i := 1) (pc' := 5) dX1_isNear_4 rfl rfl rfl ?_
    refine T_aload_n (i := 0) (pc' := 6) dX1_isNear_5 rfl rfl rfl ?_
    refine U_gr (q := (g + 16)) (k := 8) (kI := 8) (pc' := 9) dX1_isNear_6 rfl cl1 (pog0 hg) (shg0 hg) (by decide) flX1_40 rfl rfl rfl (grg0_8 hg hG) (pog16 hg) rfl ?_
    refine U_alen (nI := 54) (pc' := 10) dX1_isNear_9 (by decide) (by decide) (shg16 hg) rfl rfl ?_
    refine T_icmp_ge (pc' := 32) dX1_isNear_10 (by decide) (pf := 13) rfl (fun c3 => ?_) (fun c3 => ?_)
    · skip
      refine T_iconst (pc' := 33) dX1_isNear_32 (by decide) rfl ?_
      exact T_wk (L' := [(3, 0), (3, 0), (3, 0)]) (by have q := HJ1; try simp only [if_neg c2] at q; try simp only [if_pos c3] at q; exact q) ⟨Or.inl rfl, Or.inl rfl, Or.inl rfl, trivial⟩
    · skip
      refine T_aload_n (i := 0) (pc' := 14) dX1_isNear_13 rfl rfl rfl ?_
      refine U_gr (q := (g + 16)) (k := 8) (kI := 8) (pc' := 17) dX1_isNear_14 rfl cl1 (pog0 hg) (shg0 hg) (by decide) flX1_40 rfl rfl rfl (grg0_8 hg hG) (pog16 hg) rfl ?_
      refine T_iload_n (i := 1) (pc' := 18) dX1_isNear_17 rfl rfl rfl ?_
      refine T_lald (pc' := 19) dX1_isNear_18 (pog16 hg) (shg16 hg) (by omega) (by omega) rfl ?_
      refine T_iload_n (i := 2) (pc' := 20) dX1_isNear_19 rfl rfl rfl ?_
      refine T_lshr (pc' := 21) dX1_isNear_20 rfl ?_
      refine T_lconst (v := 1) (pc' := 22) dX1_isNear_21 rfl (by decide) rfl ?_
      refine T_land (pc' := 23) dX1_isNear_22 rfl ?_
      refine T_lconst (v := 1) (pc' := 24) dX1_isNear_23 rfl (by decide) rfl ?_
      refine T_lcmp (pc' := 25) dX1_isNear_24 rfl ?_
      refine T_if_ne (pc' := 32) dX1_isNear_25 (by decide) (pf := 28) rfl (fun c4 => ?_) (fun c4 => ?_)
      · skip
        refine T_iconst (pc' := 33) dX1_isNear_32 (by decide) rfl ?_
        exact T_wk (L' := [(3, 0), (3, 0), (3, 0)]) (by have q := HJ1; try simp only [if_neg c2] at q; try simp only [if_neg c3] at q; try simp only [if_neg c4] at q; exact q) ⟨Or.inl rfl, Or.inl rfl, Or.inl rfl, trivial⟩
      · skip
        refine T_iconst (pc' := 29) dX1_isNear_28 (by decide) rfl ?_
        refine T_goto (pc' := 33) dX1_isNear_29 (by decide) ?_
        exact T_wk (L' := [(3, 0), (3, 0), (3, 0)]) (by have q := HJ1; try simp only [if_neg c2] at q; try simp only [if_neg c3] at q; try simp only [if_pos c4] at q; exact q) ⟨Or.inl rfl, Or.inl rfl, Or.inl rfl, trivial⟩
theorem fbX1_isNear (M : Mem) (g : Int) (v1 : Int) (v2 : Int) : (fX1_isNear M g v1 v2) = 0 ∨ (fX1_isNear M g v1 v2) = 1 := by
  unfold fX1_isNear
  repeat' (first | apply bi | exact Or.inl rfl | exact Or.inr rfl)
def fX1_mayBe (M : Mem) (g : Int) (v1 : Int) (v2 : Int) : Int :=
  (if v1 = 0 then (if v2 < 0 then (0 : Int) else (if 120 < v2 then (0 : Int) else 1)) else (if v1 = 1 then (if v2 < 0 then (0 : Int) else (if 9 < v2 then (0 : Int) else 1)) else (if v1 = 2 then (fX1_isFree M g v2) else 0)))
set_option maxRecDepth 100000 in
theorem pX1_mayBe {E : EV} {h : Int} {M : Mem} {g : Int} {v1 : Int} {v2 : Int} (hg : isG g) : C2 E miX1_mayBe 3 h [(2, g), (0, v1), (0, v2)] M (fun r M' => r = some (0, (fX1_mayBe M g v1 v2)) ∧ M' = M) := by
  obtain ⟨Q, hQ⟩ : ∃ Q : Option MV → Mem → Prop, Q = (fun r M' => r = some (0, (fX1_mayBe M g v1 v2)) ∧ M' = M) := ⟨_, rfl⟩
  rw [← hQ]
  refine C2_of (L := [(2, g), (0, v1), (0, v2)]) (by decide +kernel) (Nat.le_of_ble_eq_true rfl) rfl (fun hG => ?_)
  refine T_iload_n (i := 1) (pc' := 1) dX1_mayBe_0 rfl rfl rfl ?_
  by_cases c1 : v1 = 0
  · skip
    refine T_tableIn (pc' := 28) dX1_mayBe_1 (by omega) (by omega) (by rw [c1]; rfl) (by decide) ?_
    refine T_iload_n (i := 2) (pc' := 29) dX1_mayBe_28 rfl rfl rfl ?_
    have HJ2 : T E miX1_mayBe 3 126 0 0 (fun r S M' => S = S0 ∧ G h M' ∧ Q r M') 43 [(3, 0), (3, 0), (3, 0)] [(0, (if v2 < 0 then (0 : Int) else (if 120 < v2 then (0 : Int) else 1)))] S0 M 0 0 := by
      exact T_zret dX1_mayBe_43 rfl (by repeat' (first | apply bi | exact Or.inl rfl | exact Or.inr rfl | apply fbX1_isFree)) ⟨rfl, hG, (by rw [hQ]; exact ⟨(by unfold fX1_mayBe; simp only [if_pos c1]), rfl⟩)⟩
    refine T_if_lt (pc' := 42) dX1_mayBe_29 (by decide) (pf := 32) rfl (fun c3 => ?_) (fun c3 => ?_)
    · skip
      refine T_iconst (pc' := 43) dX1_mayBe_42 (by decide) rfl ?_
      exact T_wk (L' := [(3, 0), (3, 0), (3, 0)]) (by have q := HJ2; try simp only [if_pos c3] at q; exact q) ⟨Or.inl rfl, Or.inl rfl, Or.inl rfl, trivial⟩
    · skip
      refine T_iload_n (i := 2) (pc' := 33) dX1_mayBe_32 rfl rfl rfl ?_
      refine T_bipush (pc' := 35) dX1_mayBe_33 rfl (by decide) rfl ?_
      refine T_icmp_gt (pc' := 42) dX1_mayBe_35 (by decide) (pf := 38) rfl (fun c4 => ?_) (fun c4 => ?_)
      · skip
        refine T_iconst (pc' := 43) dX1_mayBe_42 (by decide) rfl ?_
        exact T_wk (L' := [(3, 0), (3, 0), (3, 0)]) (by have q := HJ2; try simp only [if_neg c3] at q; try simp only [if_pos c4] at q; exact q) ⟨Or.inl rfl, Or.inl rfl, Or.inl rfl, trivial⟩
      · skip
        refine T_iconst (pc' := 39) dX1_mayBe_38 (by decide) rfl ?_
        refine T_goto (pc' := 43) dX1_mayBe_39 (by decide) ?_
        exact T_wk (L' := [(3, 0), (3, 0), (3, 0)]) (by have q := HJ2; try simp only [if_neg c3] at q; try simp only [if_neg c4] at q; exact q) ⟨Or.inl rfl, Or.inl rfl, Or.inl rfl, trivial⟩
  · skip
    by_cases c5 : v1 = 1
    · skip
      refine T_tableIn (pc' := 44) dX1_mayBe_1 (by omega) (by omega) (by rw [c5]; rfl) (by decide) ?_
      refine T_iload_n (i := 2) (pc' := 45) dX1_mayBe_44 rfl rfl rfl ?_
      have HJ6 : T E miX1_mayBe 3 126 0 0 (fun r S M' => S = S0 ∧ G h M' ∧ Q r M') 59 [(3, 0), (3, 0), (3, 0)] [(0, (if v2 < 0 then (0 : Int) else (if 9 < v2 then (0 : Int) else 1)))] S0 M 0 0 := by
        exact T_zret dX1_mayBe_59 rfl (by repeat' (first | apply bi | exact Or.inl rfl | exact Or.inr rfl | apply fbX1_isFree)) ⟨rfl, hG, (by rw [hQ]; exact ⟨(by unfold fX1_mayBe; simp only [if_neg c1, if_pos c5]), rfl⟩)⟩
      refine T_if_lt (pc' := 58) dX1_mayBe_45 (by decide) (pf := 48) rfl (fun c7 => ?_) (fun c7 => ?_)
      · skip
        refine T_iconst (pc' := 59) dX1_mayBe_58 (by decide) rfl ?_
        exact T_wk (L' := [(3, 0), (3, 0), (3, 0)]) (by have q := HJ6; try simp only [if_pos c7] at q; exact q) ⟨Or.inl rfl, Or.inl rfl, Or.inl rfl, trivial⟩
      · skip
        refine T_iload_n (i := 2) (pc' := 49) dX1_mayBe_48 rfl rfl rfl ?_
        refine T_bipush (pc' := 51) dX1_mayBe_49 rfl (by decide) rfl ?_
        refine T_icmp_gt (pc' := 58) dX1_mayBe_51 (by decide) (pf := 54) rfl (fun c8 => ?_) (fun c8 => ?_)
        · skip
          refine T_iconst (pc' := 59) dX1_mayBe_58 (by decide) rfl ?_
          exact T_wk (L' := [(3, 0), (3, 0), (3, 0)]) (by have q := HJ6; try simp only [if_neg c7] at q; try simp only [if_pos c8] at q; exact q) ⟨Or.inl rfl, Or.inl rfl, Or.inl rfl, trivial⟩
        · skip
          refine T_iconst (pc' := 55) dX1_mayBe_54 (by decide) rfl ?_
          refine T_goto (pc' := 59) dX1_mayBe_55 (by decide) ?_
          exact T_wk (L' := [(3, 0), (3, 0), (3, 0)]) (by have q := HJ6; try simp only [if_neg c7] at q; try simp only [if_neg c8] at q; exact q) ⟨Or.inl rfl, Or.inl rfl, Or.inl rfl, trivial⟩
    · skip
      by_cases c9 : v1 = 2
      · skip
        refine T_tableIn (pc' := 60) dX1_mayBe_1 (by omega) (by omega) (by rw [c9]; rfl) (by decide) ?_
        refine T_aload_n (i := 0) (pc' := 61) dX1_mayBe_60 rfl rfl rfl ?_
        refine T_iload_n (i := 2) (pc' := 62) dX1_mayBe_61 rfl rfl rfl ?_
        refine T_callV (av := [(0, v2)]) (st := []) (d2 := 2) (nc2 := 0) (ns2 := 0) (pc' := 65) dX1_mayBe_62 rfl mtX1_isFree mvX1_isFree mlX1_114 cl1 (shg0 hg) rfl rfl (Nat.le_of_ble_eq_true rfl) (by decide) ⟨by decide, by decide⟩ rfl (pX1_isFree (E := E) (h := h) (M := M) (g := g) (v1 := v2) hg hG) (kF (st2 := [(0, (fX1_isFree M g v2))]) rfl (fun hG10 => ?_))
        exact T_zret dX1_mayBe_65 rfl (by repeat' (first | apply bi | exact Or.inl rfl | exact Or.inr rfl | apply fbX1_isFree)) ⟨rfl, hG, (by rw [hQ]; exact ⟨(by unfold fX1_mayBe; simp only [if_neg c1, if_neg c5, if_pos c9]), rfl⟩)⟩
      · skip
        refine T_tableOut (pc' := 66) dX1_mayBe_1 (by omega) (by decide) ?_
        refine T_iconst (pc' := 67) dX1_mayBe_66 (by decide) rfl ?_
        exact T_zret dX1_mayBe_67 rfl (by decide) ⟨rfl, hG, (by rw [hQ]; exact ⟨(by unfold fX1_mayBe; simp only [if_neg c1, if_neg c5, if_neg c9]), rfl⟩)⟩
theorem fbX1_mayBe (M : Mem) (g : Int) (v1 : Int) (v2 : Int) : (fX1_mayBe M g v1 v2) = 0 ∨ (fX1_mayBe M g v1 v2) = 1 := by
  unfold fX1_mayBe
  repeat' (first | apply bi | exact Or.inl rfl | exact Or.inr rfl | apply fbX1_isFree)
def fX1_imageLength (M : Mem) (g : Int) : Int :=
  (wr32 ((wr32 ((wr32 (3 * (M (g + 1) 8))) + (M g 12))) + 1))
set_option maxRecDepth 100000 in
theorem pX1_imageLength {E : EV} {h : Int} {M : Mem} {g : Int} (hg : isG g) : C2 E miX1_imageLength 1 h [(2, g)] M (fun r M' => r = some (0, (fX1_imageLength M g)) ∧ M' = M) := by
  obtain ⟨Q, hQ⟩ : ∃ Q : Option MV → Mem → Prop, Q = (fun r M' => r = some (0, (fX1_imageLength M g)) ∧ M' = M) := ⟨_, rfl⟩
  rw [← hQ]
  refine C2_of (L := [(2, g)]) (by decide +kernel) (Nat.le_of_ble_eq_true rfl) rfl (fun hG => ?_)
  refine T_iconst (pc' := 1) dX1_imageLength_0 (by decide) rfl ?_
  refine T_aload_n (i := 0) (pc' := 2) dX1_imageLength_1 rfl rfl rfl ?_
  refine U_gr (q := (g + 1)) (k := 0) (kI := 0) (pc' := 5) dX1_imageLength_2 rfl cl1 (pog0 hg) (shg0 hg) (by decide) flX1_12 rfl rfl rfl (grg0_0 hg hG) (pog1 hg) rfl ?_
  refine U_gfN (v := (0, (M (g + 1) 8))) (k := 8) (kI := 8) (pc' := 8) dX1_imageLength_5 rfl cl4 (pog1 hg) (shg1 hg) (by decide) flX1_47 rfl rfl (by decide) rfl rfl ?_
  refine T_imul (pc' := 9) dX1_imageLength_8 rfl ?_
  refine T_aload_n (i := 0) (pc' := 10) dX1_imageLength_9 rfl rfl rfl ?_
  refine U_gf (v := (0, (M g 12))) (k := 12) (kI := 12) (pc' := 13) dX1_imageLength_10 rfl cl1 (pog0 hg) (shg0 hg) (by decide) flX1_67 rfl rfl (by decide) rfl rfl ?_
  refine T_iadd (pc' := 14) dX1_imageLength_13 rfl ?_
  refine T_iconst (pc' := 15) dX1_imageLength_14 (by decide) rfl ?_
  refine T_iadd (pc' := 16) dX1_imageLength_15 rfl ?_
  exact T_iret dX1_imageLength_16 rfl ⟨rfl, hG, (by rw [hQ]; exact ⟨rfl, rfl⟩)⟩
def fX1_checkWith (v0 : Int) (v1 : Int) : Int :=
  (Int.tmod (wr32 ((wr32 (3 * v0)) + v1)) 253)
set_option maxRecDepth 100000 in
theorem pX1_checkWith {E : EV} {h : Int} {M : Mem} {v0 : Int} {v1 : Int}  : C2 E miX1_checkWith 1 h [(0, v0), (0, v1)] M (fun r M' => r = some (0, (fX1_checkWith v0 v1)) ∧ M' = M) := by
  obtain ⟨Q, hQ⟩ : ∃ Q : Option MV → Mem → Prop, Q = (fun r M' => r = some (0, (fX1_checkWith v0 v1)) ∧ M' = M) := ⟨_, rfl⟩
  rw [← hQ]
  refine C2_of (L := [(0, v0), (0, v1)]) (by decide +kernel) (Nat.le_of_ble_eq_true rfl) rfl (fun hG => ?_)
  refine T_iconst (pc' := 1) dX1_checkWith_0 (by decide) rfl ?_
  refine T_iload_n (i := 0) (pc' := 2) dX1_checkWith_1 rfl rfl rfl ?_
  refine T_imul (pc' := 3) dX1_checkWith_2 rfl ?_
  refine T_iload_n (i := 1) (pc' := 4) dX1_checkWith_3 rfl rfl rfl ?_
  refine T_iadd (pc' := 5) dX1_checkWith_4 rfl ?_
  refine T_sipush (pc' := 8) dX1_checkWith_5 rfl (by decide) rfl ?_
  refine T_irem (pc' := 9) dX1_checkWith_8 (by decide) rfl ?_
  exact T_iret dX1_checkWith_9 rfl ⟨rfl, hG, (by rw [hQ]; exact ⟨rfl, rfl⟩)⟩
def fX8_byteAt (M : Mem) (v1 : Int) : Int :=
  (if v1 < 0 then ((-1) : Int) else (if (M 1 1) ≤ v1 then ((-1) : Int) else (if 1600 ≤ v1 then ((-1) : Int) else (M 2 v1))))
set_option maxRecDepth 100000 in
theorem pX8_byteAt {E : EV} {h : Int} {M : Mem} {v1 : Int}  : C2 E miX8_byteAt 1 h [(2, 1), (0, v1)] M (fun r M' => r = some (0, (fX8_byteAt M v1)) ∧ M' = M) := by
  obtain ⟨Q, hQ⟩ : ∃ Q : Option MV → Mem → Prop, Q = (fun r M' => r = some (0, (fX8_byteAt M v1)) ∧ M' = M) := ⟨_, rfl⟩
  rw [← hQ]
  refine C2_of (L := [(2, 1), (0, v1)]) (by decide +kernel) (Nat.le_of_ble_eq_true rfl) rfl (fun hG => ?_)
  refine T_iload_n (i := 1) (pc' := 1) dX8_byteAt_0 rfl rfl rfl ?_
  have HJ1 : T E miX8_byteAt 1 126 0 0 (fun r S M' => S = S0 ∧ G h M' ∧ Q r M') 31 [(3, 0), (3, 0)] [(0, (if v1 < 0 then ((-1) : Int) else (if (M 1 1) ≤ v1 then ((-1) : Int) else (if 1600 ≤ v1 then ((-1) : Int) else (M 2 v1)))))] S0 M 0 0 := by
    exact T_iret dX8_byteAt_31 rfl ⟨rfl, hG, (by rw [hQ]; exact ⟨rfl, rfl⟩)⟩
  refine T_if_lt (pc' := 30) dX8_byteAt_1 (by decide) (pf := 4) rfl (fun c2 => ?_) (fun c2 => ?_)
  · skip
    refine T_iconst (pc' := 31) dX8_byteAt_30 (by decide) rfl ?_
    exact T_wk (L' := [(3, 0), (3, 0)]) (by have q := HJ1; try simp only [if_pos c2] at q; exact q) ⟨Or.inl rfl, Or.inl rfl, trivial⟩
  · skip
    refine T_iload_n (i := 1) (pc' := 5) dX8_byteAt_4 rfl rfl rfl ?_
    refine T_aload_n (i := 0) (pc' := 6) dX8_byteAt_5 rfl rfl rfl ?_
    refine U_gf (v := (0, (M 1 1))) (k := 1) (kI := 1) (pc' := 9) dX8_byteAt_6 rfl cl8 (by decide) rfl (by decide) flX8_15 rfl rfl (by decide) rfl rfl ?_
    refine T_icmp_ge (pc' := 30) dX8_byteAt_9 (by decide) (pf := 12) rfl (fun c3 => ?_) (fun c3 => ?_)
    · skip
      refine T_iconst (pc' := 31) dX8_byteAt_30 (by decide) rfl ?_
      exact T_wk (L' := [(3, 0), (3, 0)]) (by have q := HJ1; try simp only [if_neg c2] at q; try simp only [if_pos c3] at q; exact q) ⟨Or.inl rfl, Or.inl rfl, trivial⟩
    · skip
      refine T_iload_n (i := 1) (pc' := 13) dX8_byteAt_12 rfl rfl rfl ?_
      refine T_aload_n (i := 0) (pc' := 14) dX8_byteAt_13 rfl rfl rfl ?_
      refine U_gr (q := 2) (k := 0) (kI := 0) (pc' := 17) dX8_byteAt_14 rfl cl8 (by decide) rfl (by decide) flX8_9 rfl rfl rfl (G_at hG 9 rfl) (by decide) rfl ?_
      refine U_alen (nI := 1600) (pc' := 18) dX8_byteAt_17 (by decide) (by decide) rfl rfl rfl ?_
      refine T_icmp_ge (pc' := 30) dX8_byteAt_18 (by decide) (pf := 21) rfl (fun c4 => ?_) (fun c4 => ?_)
      · skip
        refine T_iconst (pc' := 31) dX8_byteAt_30 (by decide) rfl ?_
        exact T_wk (L' := [(3, 0), (3, 0)]) (by have q := HJ1; try simp only [if_neg c2] at q; try simp only [if_neg c3] at q; try simp only [if_pos c4] at q; exact q) ⟨Or.inl rfl, Or.inl rfl, trivial⟩
      · skip
        refine T_aload_n (i := 0) (pc' := 22) dX8_byteAt_21 rfl rfl rfl ?_
        refine U_gr (q := 2) (k := 0) (kI := 0) (pc' := 25) dX8_byteAt_22 rfl cl8 (by decide) rfl (by decide) flX8_9 rfl rfl rfl (G_at hG 9 rfl) (by decide) rfl ?_
        refine T_iload_n (i := 1) (pc' := 26) dX8_byteAt_25 rfl rfl rfl ?_
        refine T_iald (pc' := 27) dX8_byteAt_26 (by decide) rfl (by omega) (by omega) rfl ?_
        refine T_goto (pc' := 31) dX8_byteAt_27 (by decide) ?_
        exact T_wk (L' := [(3, 0), (3, 0)]) (by have q := HJ1; try simp only [if_neg c2] at q; try simp only [if_neg c3] at q; try simp only [if_neg c4] at q; exact q) ⟨Or.inl rfl, Or.inl rfl, trivial⟩
def fX2_isFull (M : Mem) (g : Int) (v1 : Int) : Int :=
  (if v1 = 1 then (if (M g 11) < 15 then (0 : Int) else 1) else (if v1 = 2 then (if (M g 12) < 6 then (0 : Int) else 1) else (if v1 = 3 then (if (M (g + 1) 8) < 9 then (0 : Int) else 1) else (if v1 = 4 then (if (M g 13) < 4 then (0 : Int) else 1) else 0))))
set_option maxRecDepth 100000 in
theorem pX2_isFull {E : EV} {h : Int} {M : Mem} {g : Int} {v1 : Int} (hg : isG g) : C2 E miX2_isFull 1 h [(2, g), (0, v1)] M (fun r M' => r = some (0, (fX2_isFull M g v1)) ∧ M' = M) := by
  obtain ⟨Q, hQ⟩ : ∃ Q : Option MV → Mem → Prop, Q = (fun r M' => r = some (0, (fX2_isFull M g v1)) ∧ M' = M) := ⟨_, rfl⟩
  rw [← hQ]
  refine C2_of (L := [(2, g), (0, v1)]) (by decide +kernel) (Nat.le_of_ble_eq_true rfl) rfl (fun hG => ?_)
  refine T_iload_n (i := 1) (pc' := 1) dX2_isFull_0 rfl rfl rfl ?_
  by_cases c1 : v1 = 1
  · skip
    refine T_tableIn (pc' := 32) dX2_isFull_1 (by omega) (by omega) (by rw [c1]; rfl) (by decide) ?_
    refine T_aload_n (i := 0) (pc' := 33) dX2_isFull_32 rfl rfl rfl ?_
    refine U_gfN (v := (0, (M g 11))) (k := 11) (kI := 11) (pc' := 36) dX2_isFull_33 rfl cl1 (pog0 hg) (shg0 hg) (by decide) flX2_85 rfl rfl (by decide) rfl rfl ?_
    refine T_bipush (pc' := 38) dX2_isFull_36 rfl (by decide) rfl ?_
    have HJ2 : T E miX2_isFull 1 126 0 0 (fun r S M' => S = S0 ∧ G h M' ∧ Q r M') 46 [(3, 0), (3, 0)] [(0, (if (M g 11) < 15 then (0 : Int) else 1))] S0 M 0 0 := by
      exact T_zret dX2_isFull_46 rfl (by repeat' (first | apply bi | exact Or.inl rfl | exact Or.inr rfl)) ⟨rfl, hG, (by rw [hQ]; exact ⟨(by unfold fX2_isFull; simp only [if_pos c1]), rfl⟩)⟩
    refine T_icmp_lt (pc' := 45) dX2_isFull_38 (by decide) (pf := 41) rfl (fun c3 => ?_) (fun c3 => ?_)
    · skip
      refine T_iconst (pc' := 46) dX2_isFull_45 (by decide) rfl ?_
      exact T_wk (L' := [(3, 0), (3, 0)]) (by have q := HJ2; try simp only [if_pos c3] at q; exact q) ⟨Or.inl rfl, Or.inl rfl, trivial⟩
    · skip
      refine T_iconst (pc' := 42) dX2_isFull_41 (by decide) rfl ?_
      refine T_goto (pc' := 46) dX2_isFull_42 (by decide) ?_
      exact T_wk (L' := [(3, 0), (3, 0)]) (by have q := HJ2; try simp only [if_neg c3] at q; exact q) ⟨Or.inl rfl, Or.inl rfl, trivial⟩
  · skip
    by_cases c4 : v1 = 2
    · skip
      refine T_tableIn (pc' := 47) dX2_isFull_1 (by omega) (by omega) (by rw [c4]; rfl) (by decide) ?_
      refine T_aload_n (i := 0) (pc' := 48) dX2_isFull_47 rfl rfl rfl ?_
      refine U_gfN (v := (0, (M g 12))) (k := 12) (kI := 12) (pc' := 51) dX2_isFull_48 rfl cl1 (pog0 hg) (shg0 hg) (by decide) flX2_88 rfl rfl (by decide) rfl rfl ?_
      refine T_bipush (pc' := 53) dX2_isFull_51 rfl (by decide) rfl ?_
      have HJ5 : T E miX2_isFull 1 126 0 0 (fun r S M' => S = S0 ∧ G h M' ∧ Q r M') 61 [(3, 0), (3, 0)] [(0, (if (M g 12) < 6 then (0 : Int) else 1))] S0 M 0 0 := by
        exact T_zret dX2_isFull_61 rfl (by repeat' (first | apply bi | exact Or.inl rfl | exact Or.inr rfl)) ⟨rfl, hG, (by rw [hQ]; exact ⟨(by unfold fX2_isFull; simp only [if_neg c1, if_pos c4]), rfl⟩)⟩
      refine T_icmp_lt (pc' := 60) dX2_isFull_53 (by decide) (pf := 56) rfl (fun c6 => ?_) (fun c6 => ?_)
      · skip
        refine T_iconst (pc' := 61) dX2_isFull_60 (by decide) rfl ?_
        exact T_wk (L' := [(3, 0), (3, 0)]) (by have q := HJ5; try simp only [if_pos c6] at q; exact q) ⟨Or.inl rfl, Or.inl rfl, trivial⟩
      · skip
        refine T_iconst (pc' := 57) dX2_isFull_56 (by decide) rfl ?_
        refine T_goto (pc' := 61) dX2_isFull_57 (by decide) ?_
        exact T_wk (L' := [(3, 0), (3, 0)]) (by have q := HJ5; try simp only [if_neg c6] at q; exact q) ⟨Or.inl rfl, Or.inl rfl, trivial⟩
    · skip
      by_cases c7 : v1 = 3
      · skip
        refine T_tableIn (pc' := 62) dX2_isFull_1 (by omega) (by omega) (by rw [c7]; rfl) (by decide) ?_
        refine T_aload_n (i := 0) (pc' := 63) dX2_isFull_62 rfl rfl rfl ?_
        refine U_grN (q := (g + 1)) (k := 0) (kI := 0) (pc' := 66) dX2_isFull_63 rfl cl1 (pog0 hg) (shg0 hg) (by decide) flX2_91 rfl rfl rfl (grg0_0 hg hG) (pog1 hg) rfl ?_
        refine U_gfN (v := (0, (M (g + 1) 8))) (k := 8) (kI := 8) (pc' := 69) dX2_isFull_66 rfl cl4 (pog1 hg) (shg1 hg) (by decide) flX2_95 rfl rfl (by decide) rfl rfl ?_
        refine T_bipush (pc' := 71) dX2_isFull_69 rfl (by decide) rfl ?_
        have HJ8 : T E miX2_isFull 1 126 0 0 (fun r S M' => S = S0 ∧ G h M' ∧ Q r M') 79 [(3, 0), (3, 0)] [(0, (if (M (g + 1) 8) < 9 then (0 : Int) else 1))] S0 M 0 0 := by
          exact T_zret dX2_isFull_79 rfl (by repeat' (first | apply bi | exact Or.inl rfl | exact Or.inr rfl)) ⟨rfl, hG, (by rw [hQ]; exact ⟨(by unfold fX2_isFull; simp only [if_neg c1, if_neg c4, if_pos c7]), rfl⟩)⟩
        refine T_icmp_lt (pc' := 78) dX2_isFull_71 (by decide) (pf := 74) rfl (fun c9 => ?_) (fun c9 => ?_)
        · skip
          refine T_iconst (pc' := 79) dX2_isFull_78 (by decide) rfl ?_
          exact T_wk (L' := [(3, 0), (3, 0)]) (by have q := HJ8; try simp only [if_pos c9] at q; exact q) ⟨Or.inl rfl, Or.inl rfl, trivial⟩
        · skip
          refine T_iconst (pc' := 75) dX2_isFull_74 (by decide) rfl ?_
          refine T_goto (pc' := 79) dX2_isFull_75 (by decide) ?_
          exact T_wk (L' := [(3, 0), (3, 0)]) (by have q := HJ8; try simp only [if_neg c9] at q; exact q) ⟨Or.inl rfl, Or.inl rfl, trivial⟩
      · skip
        by_cases c10 : v1 = 4
        · skip
          refine T_tableIn (pc' := 80) dX2_isFull_1 (by omega) (by omega) (by rw [c10]; rfl) (by decide) ?_
          refine T_aload_n (i := 0) (pc' := 81) dX2_isFull_80 rfl rfl rfl ?_
          refine U_gfN (v := (0, (M g 13))) (k := 13) (kI := 13) (pc' := 84) dX2_isFull_81 rfl cl1 (pog0 hg) (shg0 hg) (by decide) flX2_100 rfl rfl (by decide) rfl rfl ?_
          refine T_iconst (pc' := 85) dX2_isFull_84 (by decide) rfl ?_
          have HJ11 : T E miX2_isFull 1 126 0 0 (fun r S M' => S = S0 ∧ G h M' ∧ Q r M') 93 [(3, 0), (3, 0)] [(0, (if (M g 13) < 4 then (0 : Int) else 1))] S0 M 0 0 := by
            exact T_zret dX2_isFull_93 rfl (by repeat' (first | apply bi | exact Or.inl rfl | exact Or.inr rfl)) ⟨rfl, hG, (by rw [hQ]; exact ⟨(by unfold fX2_isFull; simp only [if_neg c1, if_neg c4, if_neg c7, if_pos c10]), rfl⟩)⟩
          refine T_icmp_lt (pc' := 92) dX2_isFull_85 (by decide) (pf := 88) rfl (fun c12 => ?_) (fun c12 => ?_)
          · skip
            refine T_iconst (pc' := 93) dX2_isFull_92 (by decide) rfl ?_
            exact T_wk (L' := [(3, 0), (3, 0)]) (by have q := HJ11; try simp only [if_pos c12] at q; exact q) ⟨Or.inl rfl, Or.inl rfl, trivial⟩
          · skip
            refine T_iconst (pc' := 89) dX2_isFull_88 (by decide) rfl ?_
            refine T_goto (pc' := 93) dX2_isFull_89 (by decide) ?_
            exact T_wk (L' := [(3, 0), (3, 0)]) (by have q := HJ11; try simp only [if_neg c12] at q; exact q) ⟨Or.inl rfl, Or.inl rfl, trivial⟩
        · skip
          refine T_tableOut (pc' := 94) dX2_isFull_1 (by omega) (by decide) ?_
          refine T_iconst (pc' := 95) dX2_isFull_94 (by decide) rfl ?_
          exact T_zret dX2_isFull_95 rfl (by decide) ⟨rfl, hG, (by rw [hQ]; exact ⟨(by unfold fX2_isFull; simp only [if_neg c1, if_neg c4, if_neg c7, if_neg c10]), rfl⟩)⟩
theorem fbX2_isFull (M : Mem) (g : Int) (v1 : Int) : (fX2_isFull M g v1) = 0 ∨ (fX2_isFull M g v1) = 1 := by
  unfold fX2_isFull
  repeat' (first | apply bi | exact Or.inl rfl | exact Or.inr rfl)
def fX9_fail  : Int :=
  0
def fmX9_fail (M : Mem) (v1 : Int) (v2 : Int) : Mem :=
  (if (M 3 4) = 0 then (mset (mset M 3 4 v1) 3 5 v2) else M)
theorem gX9_fail {h : Int} {M : Mem} {v1 : Int} {v2 : Int}  (hG : G h M) : G h (fmX9_fail M v1 v2) := by
  unfold fmX9_fail
  exact (G_ite (G_fld (x := 3) (i := 5) (y := v2) rfl (by decide) (by decide) (by decide) (G_fld (x := 3) (i := 4) (y := v1) rfl (by decide) (by decide) (by decide) hG)) hG)
set_option maxRecDepth 100000 in
theorem pX9_fail {E : EV} {h : Int} {M : Mem} {v1 : Int} {v2 : Int}  : C2 E miX9_fail 1 h [(2, 3), (0, v1), (0, v2)] M (fun r M' => r = some (0, fX9_fail) ∧ M' = (fmX9_fail M v1 v2)) := by
  obtain ⟨Q, hQ⟩ : ∃ Q : Option MV → Mem → Prop, Q = (fun r M' => r = some (0, fX9_fail) ∧ M' = (fmX9_fail M v1 v2)) := ⟨_, rfl⟩
  rw [← hQ]
  refine C2_of (L := [(2, 3), (0, v1), (0, v2)]) (by decide +kernel) (Nat.le_of_ble_eq_true rfl) rfl (fun hG => ?_)
  refine T_aload_n (i := 0) (pc' := 1) dX9_fail_0 rfl rfl rfl ?_
  refine U_gf (v := (0, (M 3 4))) (k := 4) (kI := 4) (pc' := 4) dX9_fail_1 rfl cl9 (by decide) rfl (by decide) flX9_25 rfl rfl (by decide) rfl rfl ?_
  have HJ1 : T E miX9_fail 1 126 0 0 (fun r S M' => S = S0 ∧ G h M' ∧ Q r M') 17 [(3, 0), (3, 0), (3, 0)] [] S0 (if (M 3 4) = 0 then (mset (mset M 3 4 v1) 3 5 v2) else M) 0 0 := by
    refine T_iconst (pc' := 18) dX9_fail_17 (by decide) rfl ?_
    exact T_zret dX9_fail_18 rfl (by decide) ⟨rfl, (G_ite (G_fld (x := 3) (i := 5) (y := v2) rfl (by decide) (by decide) (by decide) (G_fld (x := 3) (i := 4) (y := v1) rfl (by decide) (by decide) (by decide) hG)) hG), (by rw [hQ]; exact ⟨rfl, rfl⟩)⟩
  refine T_if_ne (pc' := 17) dX9_fail_4 (by decide) (pf := 7) rfl (fun c2 => ?_) (fun c2 => ?_)
  · skip
    exact T_wk (L' := [(3, 0), (3, 0), (3, 0)]) (by have q := HJ1; try simp only [if_neg c2] at q; exact q) ⟨Or.inl rfl, Or.inl rfl, Or.inl rfl, trivial⟩
  · skip
    refine T_aload_n (i := 0) (pc' := 8) dX9_fail_7 rfl rfl rfl ?_
    refine T_iload_n (i := 1) (pc' := 9) dX9_fail_8 rfl rfl rfl ?_
    refine U_pf (y := v1) (k := 4) (kI := 4) (pc' := 12) dX9_fail_9 rfl cl9 (by decide) rfl (by decide) flX9_25 rfl rfl rfl rfl rfl (by decide) (fun z => z) rfl ?_
    refine T_aload_n (i := 0) (pc' := 13) dX9_fail_12 rfl rfl rfl ?_
    refine T_iload_n (i := 2) (pc' := 14) dX9_fail_13 rfl rfl rfl ?_
    refine U_pf (y := v2) (k := 5) (kI := 5) (pc' := 17) dX9_fail_14 rfl cl9 (by decide) rfl (by decide) flX9_28 rfl rfl rfl rfl rfl (by decide) (fun z => z) rfl ?_
    exact T_wk (L' := [(3, 0), (3, 0), (3, 0)]) (by have q := HJ1; try simp only [if_pos c2] at q; exact q) ⟨Or.inl rfl, Or.inl rfl, Or.inl rfl, trivial⟩
theorem frX9_fail {M : Mem} {v1 : Int} {v2 : Int}  {q : Int} (hq0 : q ≠ 3) : (fmX9_fail M v1 v2) q = M q := by
  unfold fmX9_fail
  repeat' (first | rfl | rw [mset_p hq0] | rw [mcpy_p hq0] | rw [ite_ap] | split)
theorem fbX9_fail  : fX9_fail = 0 ∨ fX9_fail = 1 := by
  unfold fX9_fail
  repeat' (first | apply bi | exact Or.inl rfl | exact Or.inr rfl)
def fX9_letters (M : Mem) : Int :=
  (wr32 ((M 3 3) - (M 3 2)))
set_option maxRecDepth 100000 in
theorem pX9_letters {E : EV} {h : Int} {M : Mem}   : C2 E miX9_letters 1 h [(2, 3)] M (fun r M' => r = some (0, (fX9_letters M)) ∧ M' = M) := by
  obtain ⟨Q, hQ⟩ : ∃ Q : Option MV → Mem → Prop, Q = (fun r M' => r = some (0, (fX9_letters M)) ∧ M' = M) := ⟨_, rfl⟩
  rw [← hQ]
  refine C2_of (L := [(2, 3)]) (by decide +kernel) (Nat.le_of_ble_eq_true rfl) rfl (fun hG => ?_)
  refine T_aload_n (i := 0) (pc' := 1) dX9_letters_0 rfl rfl rfl ?_
  refine U_gf (v := (0, (M 3 3))) (k := 3) (kI := 3) (pc' := 4) dX9_letters_1 rfl cl9 (by decide) rfl (by decide) flX9_22 rfl rfl (by decide) rfl rfl ?_
  refine T_aload_n (i := 0) (pc' := 5) dX9_letters_4 rfl rfl rfl ?_
  refine U_gf (v := (0, (M 3 2))) (k := 2) (kI := 2) (pc' := 8) dX9_letters_5 rfl cl9 (by decide) rfl (by decide) flX9_19 rfl rfl (by decide) rfl rfl ?_
  refine T_isub (pc' := 9) dX9_letters_8 rfl ?_
  exact T_iret dX9_letters_9 rfl ⟨rfl, hG, (by rw [hQ]; exact ⟨rfl, rfl⟩)⟩
def fX9_isBlank (v0 : Int) : Int :=
  (if v0 = 10 then (1 : Int) else (if v0 = 32 then (1 : Int) else 0))
set_option maxRecDepth 100000 in
theorem pX9_isBlank {E : EV} {h : Int} {M : Mem} {v0 : Int}  : C2 E miX9_isBlank 1 h [(0, v0)] M (fun r M' => r = some (0, (fX9_isBlank v0)) ∧ M' = M) := by
  obtain ⟨Q, hQ⟩ : ∃ Q : Option MV → Mem → Prop, Q = (fun r M' => r = some (0, (fX9_isBlank v0)) ∧ M' = M) := ⟨_, rfl⟩
  rw [← hQ]
  refine C2_of (L := [(0, v0)]) (by decide +kernel) (Nat.le_of_ble_eq_true rfl) rfl (fun hG => ?_)
  refine T_iload_n (i := 0) (pc' := 1) dX9_isBlank_0 rfl rfl rfl ?_
  refine T_bipush (pc' := 3) dX9_isBlank_1 rfl (by decide) rfl ?_
  have HJ1 : T E miX9_isBlank 1 126 0 0 (fun r S M' => S = S0 ∧ G h M' ∧ Q r M') 17 [(3, 0)] [(0, (if v0 = 10 then (1 : Int) else (if v0 = 32 then (1 : Int) else 0)))] S0 M 0 0 := by
    exact T_zret dX9_isBlank_17 rfl (by repeat' (first | apply bi | exact Or.inl rfl | exact Or.inr rfl)) ⟨rfl, hG, (by rw [hQ]; exact ⟨rfl, rfl⟩)⟩
  refine T_icmp_eq (pc' := 12) dX9_isBlank_3 (by decide) (pf := 6) rfl (fun c2 => ?_) (fun c2 => ?_)
  · skip
    refine T_iconst (pc' := 13) dX9_isBlank_12 (by decide) rfl ?_
    refine T_goto (pc' := 17) dX9_isBlank_13 (by decide) ?_
    exact T_wk (L' := [(3, 0)]) (by have q := HJ1; try simp only [if_pos c2] at q; exact q) ⟨Or.inl rfl, trivial⟩
  · skip
    refine T_iload_n (i := 0) (pc' := 7) dX9_isBlank_6 rfl rfl rfl ?_
    refine T_bipush (pc' := 9) dX9_isBlank_7 rfl (by decide) rfl ?_
    refine T_icmp_ne (pc' := 16) dX9_isBlank_9 (by decide) (pf := 12) rfl (fun c3 => ?_) (fun c3 => ?_)
    · skip
      refine T_iconst (pc' := 17) dX9_isBlank_16 (by decide) rfl ?_
      exact T_wk (L' := [(3, 0)]) (by have q := HJ1; try simp only [if_neg c2] at q; try simp only [if_neg c3] at q; exact q) ⟨Or.inl rfl, trivial⟩
    · skip
      refine T_iconst (pc' := 13) dX9_isBlank_12 (by decide) rfl ?_
      refine T_goto (pc' := 17) dX9_isBlank_13 (by decide) ?_
      exact T_wk (L' := [(3, 0)]) (by have q := HJ1; try simp only [if_neg c2] at q; try simp only [if_pos c3] at q; exact q) ⟨Or.inl rfl, trivial⟩
theorem fbX9_isBlank (v0 : Int) : (fX9_isBlank v0) = 0 ∨ (fX9_isBlank v0) = 1 := by
  unfold fX9_isBlank
  repeat' (first | apply bi | exact Or.inl rfl | exact Or.inr rfl)
def fX9_kindOf (v0 : Int) : Int :=
  (if v0 = (-1) then 0 else (if v0 < 97 then (if v0 < 48 then (3 : Int) else (if 57 < v0 then (3 : Int) else 2)) else (if 122 < v0 then (if v0 < 48 then (3 : Int) else (if 57 < v0 then (3 : Int) else 2)) else 1)))
set_option maxRecDepth 100000 in
theorem pX9_kindOf {E : EV} {h : Int} {M : Mem} {v0 : Int}  : C2 E miX9_kindOf 1 h [(0, v0)] M (fun r M' => r = some (0, (fX9_kindOf v0)) ∧ M' = M) := by
  obtain ⟨Q, hQ⟩ : ∃ Q : Option MV → Mem → Prop, Q = (fun r M' => r = some (0, (fX9_kindOf v0)) ∧ M' = M) := ⟨_, rfl⟩
  rw [← hQ]
  refine C2_of (L := [(0, v0)]) (by decide +kernel) (Nat.le_of_ble_eq_true rfl) rfl (fun hG => ?_)
  refine T_iload_n (i := 0) (pc' := 1) dX9_kindOf_0 rfl rfl rfl ?_
  refine T_iconst (pc' := 2) dX9_kindOf_1 (by decide) rfl ?_
  refine T_icmp_ne (pc' := 7) dX9_kindOf_2 (by decide) (pf := 5) rfl (fun c1 => ?_) (fun c1 => ?_)
  · skip
    refine T_iload_n (i := 0) (pc' := 8) dX9_kindOf_7 rfl rfl rfl ?_
    refine T_bipush (pc' := 10) dX9_kindOf_8 rfl (by decide) rfl ?_
    refine T_icmp_lt (pc' := 21) dX9_kindOf_10 (by decide) (pf := 13) rfl (fun c2 => ?_) (fun c2 => ?_)
    · skip
      refine T_iload_n (i := 0) (pc' := 22) dX9_kindOf_21 rfl rfl rfl ?_
      refine T_bipush (pc' := 24) dX9_kindOf_22 rfl (by decide) rfl ?_
      have HJ3 : T E miX9_kindOf 1 126 0 0 (fun r S M' => S = S0 ∧ G h M' ∧ Q r M') 38 [(3, 0)] [(0, (if v0 < 48 then (3 : Int) else (if 57 < v0 then (3 : Int) else 2)))] S0 M 0 0 := by
        exact T_iret dX9_kindOf_38 rfl ⟨rfl, hG, (by rw [hQ]; exact ⟨(by unfold fX9_kindOf; simp only [if_neg c1, if_pos c2]), rfl⟩)⟩
      refine T_icmp_lt (pc' := 37) dX9_kindOf_24 (by decide) (pf := 27) rfl (fun c4 => ?_) (fun c4 => ?_)
      · skip
        refine T_iconst (pc' := 38) dX9_kindOf_37 (by decide) rfl ?_
        exact T_wk (L' := [(3, 0)]) (by have q := HJ3; try simp only [if_pos c4] at q; exact q) ⟨Or.inl rfl, trivial⟩
      · skip
        refine T_iload_n (i := 0) (pc' := 28) dX9_kindOf_27 rfl rfl rfl ?_
        refine T_bipush (pc' := 30) dX9_kindOf_28 rfl (by decide) rfl ?_
        refine T_icmp_gt (pc' := 37) dX9_kindOf_30 (by decide) (pf := 33) rfl (fun c5 => ?_) (fun c5 => ?_)
        · skip
          refine T_iconst (pc' := 38) dX9_kindOf_37 (by decide) rfl ?_
          exact T_wk (L' := [(3, 0)]) (by have q := HJ3; try simp only [if_neg c4] at q; try simp only [if_pos c5] at q; exact q) ⟨Or.inl rfl, trivial⟩
        · skip
          refine T_iconst (pc' := 34) dX9_kindOf_33 (by decide) rfl ?_
          refine T_goto (pc' := 38) dX9_kindOf_34 (by decide) ?_
          exact T_wk (L' := [(3, 0)]) (by have q := HJ3; try simp only [if_neg c4] at q; try simp only [if_neg c5] at q; exact q) ⟨Or.inl rfl, trivial⟩
    · skip
      refine T_iload_n (i := 0) (pc' := 14) dX9_kindOf_13 rfl rfl rfl ?_
      refine T_bipush (pc' := 16) dX9_kindOf_14 rfl (by decide) rfl ?_
      refine T_icmp_gt (pc' := 21) dX9_kindOf_16 (by decide) (pf := 19) rfl (fun c6 => ?_) (fun c6 => ?_)
      · skip
        refine T_iload_n (i := 0) (pc' := 22) dX9_kindOf_21 rfl rfl rfl ?_
        refine T_bipush (pc' := 24) dX9_kindOf_22 rfl (by decide) rfl ?_
        have HJ7 : T E miX9_kindOf 1 126 0 0 (fun r S M' => S = S0 ∧ G h M' ∧ Q r M') 38 [(3, 0)] [(0, (if v0 < 48 then (3 : Int) else (if 57 < v0 then (3 : Int) else 2)))] S0 M 0 0 := by
          exact T_iret dX9_kindOf_38 rfl ⟨rfl, hG, (by rw [hQ]; exact ⟨(by unfold fX9_kindOf; simp only [if_neg c1, if_neg c2, if_pos c6]), rfl⟩)⟩
        refine T_icmp_lt (pc' := 37) dX9_kindOf_24 (by decide) (pf := 27) rfl (fun c8 => ?_) (fun c8 => ?_)
        · skip
          refine T_iconst (pc' := 38) dX9_kindOf_37 (by decide) rfl ?_
          exact T_wk (L' := [(3, 0)]) (by have q := HJ7; try simp only [if_pos c8] at q; exact q) ⟨Or.inl rfl, trivial⟩
        · skip
          refine T_iload_n (i := 0) (pc' := 28) dX9_kindOf_27 rfl rfl rfl ?_
          refine T_bipush (pc' := 30) dX9_kindOf_28 rfl (by decide) rfl ?_
          refine T_icmp_gt (pc' := 37) dX9_kindOf_30 (by decide) (pf := 33) rfl (fun c9 => ?_) (fun c9 => ?_)
          · skip
            refine T_iconst (pc' := 38) dX9_kindOf_37 (by decide) rfl ?_
            exact T_wk (L' := [(3, 0)]) (by have q := HJ7; try simp only [if_neg c8] at q; try simp only [if_pos c9] at q; exact q) ⟨Or.inl rfl, trivial⟩
          · skip
            refine T_iconst (pc' := 34) dX9_kindOf_33 (by decide) rfl ?_
            refine T_goto (pc' := 38) dX9_kindOf_34 (by decide) ?_
            exact T_wk (L' := [(3, 0)]) (by have q := HJ7; try simp only [if_neg c8] at q; try simp only [if_neg c9] at q; exact q) ⟨Or.inl rfl, trivial⟩
      · skip
        refine T_iconst (pc' := 20) dX9_kindOf_19 (by decide) rfl ?_
        exact T_iret dX9_kindOf_20 rfl ⟨rfl, hG, (by rw [hQ]; exact ⟨(by unfold fX9_kindOf; simp only [if_neg c1, if_neg c2, if_neg c6]), rfl⟩)⟩
  · skip
    refine T_iconst (pc' := 6) dX9_kindOf_5 (by decide) rfl ?_
    exact T_iret dX9_kindOf_6 rfl ⟨rfl, hG, (by rw [hQ]; exact ⟨(by unfold fX9_kindOf; simp only [if_pos c1]), rfl⟩)⟩
def fX9_unasked  : Int :=
  fX9_fail
def fmX9_unasked (M : Mem) : Mem :=
  (fmX9_fail M 1 (M 3 2))
theorem gX9_unasked {h : Int} {M : Mem}   (hG : G h M) : G h (fmX9_unasked M) := by
  unfold fmX9_unasked
  exact (gX9_fail (h := h) (M := M) (v1 := 1) (v2 := (M 3 2)) hG)
set_option maxRecDepth 100000 in
theorem pX9_unasked {E : EV} {h : Int} {M : Mem}   : C2 E miX9_unasked 2 h [(2, 3)] M (fun r M' => r = some (0, fX9_unasked) ∧ M' = (fmX9_unasked M)) := by
  obtain ⟨Q, hQ⟩ : ∃ Q : Option MV → Mem → Prop, Q = (fun r M' => r = some (0, fX9_unasked) ∧ M' = (fmX9_unasked M)) := ⟨_, rfl⟩
  rw [← hQ]
  refine C2_of (L := [(2, 3)]) (by decide +kernel) (Nat.le_of_ble_eq_true rfl) rfl (fun hG => ?_)
  refine T_aload_n (i := 0) (pc' := 1) dX9_unasked_0 rfl rfl rfl ?_
  refine T_iconst (pc' := 2) dX9_unasked_1 (by decide) rfl ?_
  refine T_aload_n (i := 0) (pc' := 3) dX9_unasked_2 rfl rfl rfl ?_
  refine U_gf (v := (0, (M 3 2))) (k := 2) (kI := 2) (pc' := 6) dX9_unasked_3 rfl cl9 (by decide) rfl (by decide) flX9_19 rfl rfl (by decide) rfl rfl ?_
  refine T_callV (av := [(0, 1), (0, (M 3 2))]) (st := []) (d2 := 1) (nc2 := 0) (ns2 := 0) (pc' := 9) dX9_unasked_6 rfl mtX9_fail mvX9_fail mlX9_50 cl9 rfl rfl rfl (Nat.le_of_ble_eq_true rfl) (by decide) ⟨by decide, by decide⟩ rfl (pX9_fail (E := E) (h := h) (M := M) (v1 := 1) (v2 := (M 3 2)) hG) (kF (st2 := [(0, fX9_fail)]) rfl (fun hG1 => ?_))
  exact T_zret dX9_unasked_9 rfl (by repeat' (first | apply bi | exact Or.inl rfl | exact Or.inr rfl | apply fbX9_fail)) ⟨rfl, (gX9_fail (h := h) (M := M) (v1 := 1) (v2 := (M 3 2)) hG), (by rw [hQ]; exact ⟨rfl, rfl⟩)⟩
theorem frX9_unasked {M : Mem}  {q : Int} (hq0 : q ≠ 3) : (fmX9_unasked M) q = M q := by
  unfold fmX9_unasked
  repeat' (first | rfl | rw [mset_p hq0] | rw [mcpy_p hq0] | (rw [frX9_fail] <;> try assumption) | rw [ite_ap] | split)
theorem fbX9_unasked  : fX9_unasked = 0 ∨ fX9_unasked = 1 := by
  unfold fX9_unasked
  repeat' (first | apply bi | exact Or.inl rfl | exact Or.inr rfl | apply fbX9_fail)
def fX9_byteIn (M : Mem) (v1 : Int) : Int :=
  (fX8_byteAt M (wr32 ((M 3 2) + v1)))
set_option maxRecDepth 100000 in
theorem pX9_byteIn {E : EV} {h : Int} {M : Mem} {v1 : Int}  : C2 E miX9_byteIn 2 h [(2, 3), (0, v1)] M (fun r M' => r = some (0, (fX9_byteIn M v1)) ∧ M' = M) := by
  obtain ⟨Q, hQ⟩ : ∃ Q : Option MV → Mem → Prop, Q = (fun r M' => r = some (0, (fX9_byteIn M v1)) ∧ M' = M) := ⟨_, rfl⟩
  rw [← hQ]
  refine C2_of (L := [(2, 3), (0, v1)]) (by decide +kernel) (Nat.le_of_ble_eq_true rfl) rfl (fun hG => ?_)
  refine T_aload_n (i := 0) (pc' := 1) dX9_byteIn_0 rfl rfl rfl ?_
  refine U_gr (q := 1) (k := 0) (kI := 0) (pc' := 4) dX9_byteIn_1 rfl cl9 (by decide) rfl (by decide) flX9_9 rfl rfl rfl (G_at hG 10 rfl) (by decide) rfl ?_
  refine T_aload_n (i := 0) (pc' := 5) dX9_byteIn_4 rfl rfl rfl ?_
  refine U_gf (v := (0, (M 3 2))) (k := 2) (kI := 2) (pc' := 8) dX9_byteIn_5 rfl cl9 (by decide) rfl (by decide) flX9_19 rfl rfl (by decide) rfl rfl ?_
  refine T_iload_n (i := 1) (pc' := 9) dX9_byteIn_8 rfl rfl rfl ?_
  refine T_iadd (pc' := 10) dX9_byteIn_9 rfl ?_
  refine T_callV (av := [(0, (wr32 ((M 3 2) + v1)))]) (st := []) (d2 := 1) (nc2 := 0) (ns2 := 0) (pc' := 13) dX9_byteIn_10 rfl mtX8_byteAt mvX8_byteAt mlX9_39 cl8 rfl rfl rfl (Nat.le_of_ble_eq_true rfl) (by decide) ⟨by decide, by decide⟩ rfl (pX8_byteAt (E := E) (h := h) (M := M) (v1 := (wr32 ((M 3 2) + v1))) hG) (kF (st2 := [(0, (fX8_byteAt M (wr32 ((M 3 2) + v1))))]) rfl (fun hG1 => ?_))
  exact T_iret dX9_byteIn_13 rfl ⟨rfl, hG, (by rw [hQ]; exact ⟨rfl, rfl⟩)⟩
def fX9_isSign (M : Mem) (v1 : Int) : Int :=
  (if (M 3 1) = 3 then (if (fX8_byteAt M (M 3 2)) = v1 then (1 : Int) else 0) else 0)
set_option maxRecDepth 100000 in
theorem pX9_isSign {E : EV} {h : Int} {M : Mem} {v1 : Int}  : C2 E miX9_isSign 2 h [(2, 3), (0, v1)] M (fun r M' => r = some (0, (fX9_isSign M v1)) ∧ M' = M) := by
  obtain ⟨Q, hQ⟩ : ∃ Q : Option MV → Mem → Prop, Q = (fun r M' => r = some (0, (fX9_isSign M v1)) ∧ M' = M) := ⟨_, rfl⟩
  rw [← hQ]
  refine C2_of (L := [(2, 3), (0, v1)]) (by decide +kernel) (Nat.le_of_ble_eq_true rfl) rfl (fun hG => ?_)
  refine T_aload_n (i := 0) (pc' := 1) dX9_isSign_0 rfl rfl rfl ?_
  refine U_gf (v := (0, (M 3 1))) (k := 1) (kI := 1) (pc' := 4) dX9_isSign_1 rfl cl9 (by decide) rfl (by decide) flX9_15 rfl rfl (by decide) rfl rfl ?_
  refine T_iconst (pc' := 5) dX9_isSign_4 (by decide) rfl ?_
  have HJ1 : T E miX9_isSign 2 126 0 0 (fun r S M' => S = S0 ∧ G h M' ∧ Q r M') 28 [(3, 0), (3, 0)] [(0, (if (M 3 1) = 3 then (if (fX8_byteAt M (M 3 2)) = v1 then (1 : Int) else 0) else 0))] S0 M 0 0 := by
    exact T_zret dX9_isSign_28 rfl (by repeat' (first | apply bi | exact Or.inl rfl | exact Or.inr rfl)) ⟨rfl, hG, (by rw [hQ]; exact ⟨rfl, rfl⟩)⟩
  refine T_icmp_ne (pc' := 27) dX9_isSign_5 (by decide) (pf := 8) rfl (fun c2 => ?_) (fun c2 => ?_)
  · skip
    refine T_iconst (pc' := 28) dX9_isSign_27 (by decide) rfl ?_
    exact T_wk (L' := [(3, 0), (3, 0)]) (by have q := HJ1; try simp only [if_neg c2] at q; exact q) ⟨Or.inl rfl, Or.inl rfl, trivial⟩
  · skip
    refine T_aload_n (i := 0) (pc' := 9) dX9_isSign_8 rfl rfl rfl ?_
    refine U_gr (q := 1) (k := 0) (kI := 0) (pc' := 12) dX9_isSign_9 rfl cl9 (by decide) rfl (by decide) flX9_9 rfl rfl rfl (G_at hG 10 rfl) (by decide) rfl ?_
    refine T_aload_n (i := 0) (pc' := 13) dX9_isSign_12 rfl rfl rfl ?_
    refine U_gf (v := (0, (M 3 2))) (k := 2) (kI := 2) (pc' := 16) dX9_isSign_13 rfl cl9 (by decide) rfl (by decide) flX9_19 rfl rfl (by decide) rfl rfl ?_
    refine T_callV (av := [(0, (M 3 2))]) (st := []) (d2 := 1) (nc2 := 0) (ns2 := 0) (pc' := 19) dX9_isSign_16 rfl mtX8_byteAt mvX8_byteAt mlX9_39 cl8 rfl rfl rfl (Nat.le_of_ble_eq_true rfl) (by decide) ⟨by decide, by decide⟩ rfl (pX8_byteAt (E := E) (h := h) (M := M) (v1 := (M 3 2)) hG) (kF (st2 := [(0, (fX8_byteAt M (M 3 2)))]) rfl (fun hG3 => ?_))
    refine T_iload_n (i := 1) (pc' := 20) dX9_isSign_19 rfl rfl rfl ?_
    refine T_icmp_ne (pc' := 27) dX9_isSign_20 (by decide) (pf := 23) rfl (fun c4 => ?_) (fun c4 => ?_)
    · skip
      refine T_iconst (pc' := 28) dX9_isSign_27 (by decide) rfl ?_
      exact T_wk (L' := [(3, 0), (3, 0)]) (by have q := HJ1; try simp only [if_pos c2] at q; try simp only [if_neg c4] at q; exact q) ⟨Or.inl rfl, Or.inl rfl, trivial⟩
    · skip
      refine T_iconst (pc' := 24) dX9_isSign_23 (by decide) rfl ?_
      refine T_goto (pc' := 28) dX9_isSign_24 (by decide) ?_
      exact T_wk (L' := [(3, 0), (3, 0)]) (by have q := HJ1; try simp only [if_pos c2] at q; try simp only [if_pos c4] at q; exact q) ⟨Or.inl rfl, Or.inl rfl, trivial⟩
theorem fbX9_isSign (M : Mem) (v1 : Int) : (fX9_isSign M v1) = 0 ∨ (fX9_isSign M v1) = 1 := by
  unfold fX9_isSign
  repeat' (first | apply bi | exact Or.inl rfl | exact Or.inr rfl)
def fX2_wayOf (v0 : Int) : Int :=
  (if v0 = 101 then 1 else (if v0 = 110 then 0 else (if v0 = 115 then 2 else (if v0 = 119 then 3 else (if v0 = 120 then 4 else (-1))))))
set_option maxRecDepth 100000 in
theorem pX2_wayOf {E : EV} {h : Int} {M : Mem} {v0 : Int}  : C2 E miX2_wayOf 1 h [(0, v0)] M (fun r M' => r = some (0, (fX2_wayOf v0)) ∧ M' = M) := by
  obtain ⟨Q, hQ⟩ : ∃ Q : Option MV → Mem → Prop, Q = (fun r M' => r = some (0, (fX2_wayOf v0)) ∧ M' = M) := ⟨_, rfl⟩
  rw [← hQ]
  refine C2_of (L := [(0, v0)]) (by decide +kernel) (Nat.le_of_ble_eq_true rfl) rfl (fun hG => ?_)
  refine T_iload_n (i := 0) (pc' := 1) dX2_wayOf_0 rfl rfl rfl ?_
  by_cases c1 : v0 = 101
  · skip
    refine T_lookup (pc' := 54) dX2_wayOf_1 (by decide) (by rw [c1] <;> rfl) (by decide) ?_
    refine T_iconst (pc' := 55) dX2_wayOf_54 (by decide) rfl ?_
    exact T_iret dX2_wayOf_55 rfl ⟨rfl, hG, (by rw [hQ]; exact ⟨(by unfold fX2_wayOf; simp only [if_pos c1]), rfl⟩)⟩
  · skip
    by_cases c2 : v0 = 110
    · skip
      refine T_lookup (pc' := 52) dX2_wayOf_1 (by decide) (by rw [c2] <;> rfl) (by decide) ?_
      refine T_iconst (pc' := 53) dX2_wayOf_52 (by decide) rfl ?_
      exact T_iret dX2_wayOf_53 rfl ⟨rfl, hG, (by rw [hQ]; exact ⟨(by unfold fX2_wayOf; simp only [if_neg c1, if_pos c2]), rfl⟩)⟩
    · skip
      by_cases c3 : v0 = 115
      · skip
        refine T_lookup (pc' := 56) dX2_wayOf_1 (by decide) (by rw [c3] <;> rfl) (by decide) ?_
        refine T_iconst (pc' := 57) dX2_wayOf_56 (by decide) rfl ?_
        exact T_iret dX2_wayOf_57 rfl ⟨rfl, hG, (by rw [hQ]; exact ⟨(by unfold fX2_wayOf; simp only [if_neg c1, if_neg c2, if_pos c3]), rfl⟩)⟩
      · skip
        by_cases c4 : v0 = 119
        · skip
          refine T_lookup (pc' := 58) dX2_wayOf_1 (by decide) (by rw [c4] <;> rfl) (by decide) ?_
          refine T_iconst (pc' := 59) dX2_wayOf_58 (by decide) rfl ?_
          exact T_iret dX2_wayOf_59 rfl ⟨rfl, hG, (by rw [hQ]; exact ⟨(by unfold fX2_wayOf; simp only [if_neg c1, if_neg c2, if_neg c3, if_pos c4]), rfl⟩)⟩
        · skip
          by_cases c5 : v0 = 120
          · skip
            refine T_lookup (pc' := 60) dX2_wayOf_1 (by decide) (by rw [c5] <;> rfl) (by decide) ?_
            refine T_iconst (pc' := 61) dX2_wayOf_60 (by decide) rfl ?_
            exact T_iret dX2_wayOf_61 rfl ⟨rfl, hG, (by rw [hQ]; exact ⟨(by unfold fX2_wayOf; simp only [if_neg c1, if_neg c2, if_neg c3, if_neg c4, if_pos c5]), rfl⟩)⟩
          · skip
            refine T_lookup (off := 61) (pc' := 62) dX2_wayOf_1 (by decide) (by show (if 101 = v0 then 53 else if 110 = v0 then 51 else if 115 = v0 then 55 else if 119 = v0 then 57 else if 120 = v0 then 59 else 61) = 61; rw [if_neg (fun z => c1 z.symm), if_neg (fun z => c2 z.symm), if_neg (fun z => c3 z.symm), if_neg (fun z => c4 z.symm), if_neg (fun z => c5 z.symm)]) (by decide) ?_
            refine T_iconst (pc' := 63) dX2_wayOf_62 (by decide) rfl ?_
            exact T_iret dX2_wayOf_63 rfl ⟨rfl, hG, (by rw [hQ]; exact ⟨(by unfold fX2_wayOf; simp only [if_neg c1, if_neg c2, if_neg c3, if_neg c4, if_neg c5]), rfl⟩)⟩
def fX11_hasBit (v0 : Int) (v1 : Int) : Int :=
  (if v1 < 0 then (0 : Int) else (if 31 ≤ v1 then (0 : Int) else (if (m_and (m_shr v0 v1) 1) = 1 then (1 : Int) else 0)))
set_option maxRecDepth 100000 in
theorem pX11_hasBit {E : EV} {h : Int} {M : Mem} {v0 : Int} {v1 : Int}  : C2 E miX11_hasBit 1 h [(0, v0), (0, v1)] M (fun r M' => r = some (0, (fX11_hasBit v0 v1)) ∧ M' = M) := by
  obtain ⟨Q, hQ⟩ : ∃ Q : Option MV → Mem → Prop, Q = (fun r M' => r = some (0, (fX11_hasBit v0 v1)) ∧ M' = M) := ⟨_, rfl⟩
  rw [← hQ]
  refine C2_of (L := [(0, v0), (0, v1)]) (by decide +kernel) (Nat.le_of_ble_eq_true rfl) rfl (fun hG => ?_)
  refine T_iload_n (i := 1) (pc' := 1) dX11_hasBit_0 rfl rfl rfl ?_
  have HJ1 : T E miX11_hasBit 1 126 0 0 (fun r S M' => S = S0 ∧ G h M' ∧ Q r M') 24 [(3, 0), (3, 0)] [(0, (if v1 < 0 then (0 : Int) else (if 31 ≤ v1 then (0 : Int) else (if (m_and (m_shr v0 v1) 1) = 1 then (1 : Int) else 0))))] S0 M 0 0 := by
    exact T_zret dX11_hasBit_24 rfl (by repeat' (first | apply bi | exact Or.inl rfl | exact Or.inr rfl)) ⟨rfl, hG, (by rw [hQ]; exact ⟨rfl, rfl⟩)⟩
  refine T_if_lt (pc' := 23) dX11_hasBit_1 (by decide) (pf := 4) rfl (fun c2 => ?_) (fun c2 => ?_)
  · skip
    refine T_iconst (pc' := 24) dX11_hasBit_23 (by decide) rfl ?_
    exact T_wk (L' := [(3, 0), (3, 0)]) (by have q := HJ1; try simp only [if_pos c2] at q; exact q) ⟨Or.inl rfl, Or.inl rfl, trivial⟩
  · skip
    refine T_iload_n (i := 1) (pc' := 5) dX11_hasBit_4 rfl rfl rfl ?_
    refine T_bipush (pc' := 7) dX11_hasBit_5 rfl (by decide) rfl ?_
    refine T_icmp_ge (pc' := 23) dX11_hasBit_7 (by decide) (pf := 10) rfl (fun c3 => ?_) (fun c3 => ?_)
    · skip
      refine T_iconst (pc' := 24) dX11_hasBit_23 (by decide) rfl ?_
      exact T_wk (L' := [(3, 0), (3, 0)]) (by have q := HJ1; try simp only [if_neg c2] at q; try simp only [if_pos c3] at q; exact q) ⟨Or.inl rfl, Or.inl rfl, trivial⟩
    · skip
      refine T_iload_n (i := 0) (pc' := 11) dX11_hasBit_10 rfl rfl rfl ?_
      refine T_iload_n (i := 1) (pc' := 12) dX11_hasBit_11 rfl rfl rfl ?_
      refine T_ishr (pc' := 13) dX11_hasBit_12 rfl ?_
      refine T_iconst (pc' := 14) dX11_hasBit_13 (by decide) rfl ?_
      refine T_iand (pc' := 15) dX11_hasBit_14 rfl ?_
      refine T_iconst (pc' := 16) dX11_hasBit_15 (by decide) rfl ?_
      refine T_icmp_ne (pc' := 23) dX11_hasBit_16 (by decide) (pf := 19) rfl (fun c4 => ?_) (fun c4 => ?_)
      · skip
        refine T_iconst (pc' := 24) dX11_hasBit_23 (by decide) rfl ?_
        exact T_wk (L' := [(3, 0), (3, 0)]) (by have q := HJ1; try simp only [if_neg c2] at q; try simp only [if_neg c3] at q; try simp only [if_neg c4] at q; exact q) ⟨Or.inl rfl, Or.inl rfl, trivial⟩
      · skip
        refine T_iconst (pc' := 20) dX11_hasBit_19 (by decide) rfl ?_
        refine T_goto (pc' := 24) dX11_hasBit_20 (by decide) ?_
        exact T_wk (L' := [(3, 0), (3, 0)]) (by have q := HJ1; try simp only [if_neg c2] at q; try simp only [if_neg c3] at q; try simp only [if_pos c4] at q; exact q) ⟨Or.inl rfl, Or.inl rfl, trivial⟩
theorem fbX11_hasBit (v0 : Int) (v1 : Int) : (fX11_hasBit v0 v1) = 0 ∨ (fX11_hasBit v0 v1) = 1 := by
  unfold fX11_hasBit
  repeat' (first | apply bi | exact Or.inl rfl | exact Or.inr rfl)
def fX3_doingOf (M : Mem) (v1 : Int) (v2 : Int) : Int :=
  (if v1 < 0 then 0 else (if (fX11_hasBit (M 16 8) v1) = 0 then 0 else (if (fX11_get M 19 9 v1) = (-1) then 1 else (if (fX11_get M 19 9 v1) ≤ v2 then (if (wr32 ((fX11_get M 19 9 v1) + (M 16 9))) ≤ v2 then (if (fX11_get M 21 9 v1) = (-1) then (3 : Int) else (if (fX11_get M 21 9 v1) ≤ v2 then (4 : Int) else 3)) else 2) else 1))))
set_option maxRecDepth 100000 in
theorem pX3_doingOf {E : EV} {h : Int} {M : Mem} {v1 : Int} {v2 : Int}  : C2 E miX3_doingOf 2 h [(2, 16), (0, v1), (0, v2)] M (fun r M' => r = some (0, (fX3_doingOf M v1 v2)) ∧ M' = M) := by
  obtain ⟨Q, hQ⟩ : ∃ Q : Option MV → Mem → Prop, Q = (fun r M' => r = some (0, (fX3_doingOf M v1 v2)) ∧ M' = M) := ⟨_, rfl⟩
  rw [← hQ]
  refine C2_of (L := [(2, 16), (0, v1), (0, v2), (3, 0), (3, 0)]) (by decide +kernel) (Nat.le_of_ble_eq_true rfl) rfl (fun hG => ?_)
  refine T_iload_n (i := 1) (pc' := 1) dX3_doingOf_0 rfl rfl rfl ?_
  refine T_if_lt (pc' := 15) dX3_doingOf_1 (by decide) (pf := 4) rfl (fun c1 => ?_) (fun c1 => ?_)
  · skip
    refine T_iconst (pc' := 16) dX3_doingOf_15 (by decide) rfl ?_
    exact T_iret dX3_doingOf_16 rfl ⟨rfl, hG, (by rw [hQ]; exact ⟨(by unfold fX3_doingOf; simp only [if_pos c1]), rfl⟩)⟩
  · skip
    refine T_aload_n (i := 0) (pc' := 5) dX3_doingOf_4 rfl rfl rfl ?_
    refine U_gf (v := (0, (M 16 8))) (k := 8) (kI := 8) (pc' := 8) dX3_doingOf_5 rfl cl3 (by decide) rfl (by decide) flX3_36 rfl rfl (by decide) rfl rfl ?_
    refine T_iload_n (i := 1) (pc' := 9) dX3_doingOf_8 rfl rfl rfl ?_
    refine T_callSN (av := [(0, (M 16 8)), (0, v1)]) (st := []) (d2 := 1) (nc2 := 0) (ns2 := 0) (pc' := 12) dX3_doingOf_9 rfl mtX11_hasBit mvX11_hasBit mlX3_76 rfl rfl (Nat.le_of_ble_eq_true rfl) (by decide) ⟨by decide, by decide⟩ rfl (pX11_hasBit (E := E) (h := h) (M := M) (v0 := (M 16 8)) (v1 := v1) hG) (kF (st2 := [(0, (fX11_hasBit (M 16 8) v1))]) rfl (fun hG2 => ?_))
    refine T_if_ne (pc' := 17) dX3_doingOf_12 (by decide) (pf := 15) rfl (fun c3 => ?_) (fun c3 => ?_)
    · skip
      refine T_aload_n (i := 0) (pc' := 18) dX3_doingOf_17 rfl rfl rfl ?_
      refine U_gr (q := 19) (k := 2) (kI := 2) (pc' := 21) dX3_doingOf_18 rfl cl3 (by decide) rfl (by decide) flX3_18 rfl rfl rfl (G_at hG 24 rfl) (by decide) rfl ?_
      refine T_iload_n (i := 1) (pc' := 22) dX3_doingOf_21 rfl rfl rfl ?_
      refine T_callSN (av := [(2, 19), (0, v1)]) (st := []) (d2 := 1) (nc2 := 0) (ns2 := 0) (pc' := 25) dX3_doingOf_22 rfl mtX11_get mvX11_get mlX3_67 rfl rfl (Nat.le_of_ble_eq_true rfl) (by decide) ⟨by decide, by decide⟩ rfl (pX11_get (E := E) (h := h) (M := M) (p0 := 19) (np0 := 9) (v1 := v1) (by decide) rfl (by decide) hG) (kF (st2 := [(0, (fX11_get M 19 9 v1))]) rfl (fun hG4 => ?_))
      refine T_istore_n (i := 3) (L' := [(2, 16), (0, v1), (0, v2), (0, (fX11_get M 19 9 v1)), (3, 0)]) (pc' := 26) dX3_doingOf_25 rfl (by decide) rfl rfl ?_
      refine T_iload_n (i := 3) (pc' := 27) dX3_doingOf_26 rfl rfl rfl ?_
      refine T_iconst (pc' := 28) dX3_doingOf_27 (by decide) rfl ?_
      refine T_icmp_eq (pc' := 36) dX3_doingOf_28 (by decide) (pf := 31) rfl (fun c5 => ?_) (fun c5 => ?_)
      · skip
        refine T_iconst (pc' := 37) dX3_doingOf_36 (by decide) rfl ?_
        exact T_iret dX3_doingOf_37 rfl ⟨rfl, hG, (by rw [hQ]; exact ⟨(by unfold fX3_doingOf; simp only [if_neg c1, if_neg c3, if_pos c5]), rfl⟩)⟩
      · skip
        refine T_iload_n (i := 2) (pc' := 32) dX3_doingOf_31 rfl rfl rfl ?_
        refine T_iload_n (i := 3) (pc' := 33) dX3_doingOf_32 rfl rfl rfl ?_
        refine T_icmp_ge (pc' := 38) dX3_doingOf_33 (by decide) (pf := 36) rfl (fun c6 => ?_) (fun c6 => ?_)
        · skip
          refine T_iload_n (i := 2) (pc' := 39) dX3_doingOf_38 rfl rfl rfl ?_
          refine T_iload_n (i := 3) (pc' := 40) dX3_doingOf_39 rfl rfl rfl ?_
          refine T_aload_n (i := 0) (pc' := 41) dX3_doingOf_40 rfl rfl rfl ?_
          refine U_gf (v := (0, (M 16 9))) (k := 9) (kI := 9) (pc' := 44) dX3_doingOf_41 rfl cl3 (by decide) rfl (by decide) flX3_40 rfl rfl (by decide) rfl rfl ?_
          refine T_iadd (pc' := 45) dX3_doingOf_44 rfl ?_
          refine T_icmp_ge (pc' := 50) dX3_doingOf_45 (by decide) (pf := 48) rfl (fun c7 => ?_) (fun c7 => ?_)
          · skip
            refine T_aload_n (i := 0) (pc' := 51) dX3_doingOf_50 rfl rfl rfl ?_
            refine U_gr (q := 21) (k := 4) (kI := 4) (pc' := 54) dX3_doingOf_51 rfl cl3 (by decide) rfl (by decide) flX3_24 rfl rfl rfl (G_at hG 26 rfl) (by decide) rfl ?_
            refine T_iload_n (i := 1) (pc' := 55) dX3_doingOf_54 rfl rfl rfl ?_
            refine T_callSN (av := [(2, 21), (0, v1)]) (st := []) (d2 := 1) (nc2 := 0) (ns2 := 0) (pc' := 58) dX3_doingOf_55 rfl mtX11_get mvX11_get mlX3_67 rfl rfl (Nat.le_of_ble_eq_true rfl) (by decide) ⟨by decide, by decide⟩ rfl (pX11_get (E := E) (h := h) (M := M) (p0 := 21) (np0 := 9) (v1 := v1) (by decide) rfl (by decide) hG) (kF (st2 := [(0, (fX11_get M 21 9 v1))]) rfl (fun hG8 => ?_))
            refine T_istore (i := 4) (L' := [(2, 16), (0, v1), (0, v2), (0, (fX11_get M 19 9 v1)), (0, (fX11_get M 21 9 v1))]) (pc' := 60) dX3_doingOf_58 (by decide) rfl rfl ?_
            refine T_iload (i := 4) (pc' := 62) dX3_doingOf_60 rfl rfl ?_
            refine T_iconst (pc' := 63) dX3_doingOf_62 (by decide) rfl ?_
            have HJ9 : T E miX3_doingOf 2 126 0 0 (fun r S M' => S = S0 ∧ G h M' ∧ Q r M') 77 [(3, 0), (3, 0), (3, 0), (3, 0), (3, 0)] [(0, (if (fX11_get M 21 9 v1) = (-1) then (3 : Int) else (if (fX11_get M 21 9 v1) ≤ v2 then (4 : Int) else 3)))] S0 M 0 0 := by
              exact T_iret dX3_doingOf_77 rfl ⟨rfl, hG, (by rw [hQ]; exact ⟨(by unfold fX3_doingOf; simp only [if_neg c1, if_neg c3, if_neg c5, if_pos c6, if_pos c7]), rfl⟩)⟩
            refine T_icmp_eq (pc' := 72) dX3_doingOf_63 (by decide) (pf := 66) rfl (fun c10 => ?_) (fun c10 => ?_)
            · skip
              refine T_iconst (pc' := 73) dX3_doingOf_72 (by decide) rfl ?_
              refine T_goto (pc' := 77) dX3_doingOf_73 (by decide) ?_
              exact T_wk (L' := [(3, 0), (3, 0), (3, 0), (3, 0), (3, 0)]) (by have q := HJ9; try simp only [if_pos c10] at q; exact q) ⟨Or.inl rfl, Or.inl rfl, Or.inl rfl, Or.inl rfl, Or.inl rfl, trivial⟩
            · skip
              refine T_iload_n (i := 2) (pc' := 67) dX3_doingOf_66 rfl rfl rfl ?_
              refine T_iload (i := 4) (pc' := 69) dX3_doingOf_67 rfl rfl ?_
              refine T_icmp_ge (pc' := 76) dX3_doingOf_69 (by decide) (pf := 72) rfl (fun c11 => ?_) (fun c11 => ?_)
              · skip
                refine T_iconst (pc' := 77) dX3_doingOf_76 (by decide) rfl ?_
                exact T_wk (L' := [(3, 0), (3, 0), (3, 0), (3, 0), (3, 0)]) (by have q := HJ9; try simp only [if_neg c10] at q; try simp only [if_pos c11] at q; exact q) ⟨Or.inl rfl, Or.inl rfl, Or.inl rfl, Or.inl rfl, Or.inl rfl, trivial⟩
              · skip
                refine T_iconst (pc' := 73) dX3_doingOf_72 (by decide) rfl ?_
                refine T_goto (pc' := 77) dX3_doingOf_73 (by decide) ?_
                exact T_wk (L' := [(3, 0), (3, 0), (3, 0), (3, 0), (3, 0)]) (by have q := HJ9; try simp only [if_neg c10] at q; try simp only [if_neg c11] at q; exact q) ⟨Or.inl rfl, Or.inl rfl, Or.inl rfl, Or.inl rfl, Or.inl rfl, trivial⟩
          · skip
            refine T_iconst (pc' := 49) dX3_doingOf_48 (by decide) rfl ?_
            exact T_iret dX3_doingOf_49 rfl ⟨rfl, hG, (by rw [hQ]; exact ⟨(by unfold fX3_doingOf; simp only [if_neg c1, if_neg c3, if_neg c5, if_pos c6, if_neg c7]), rfl⟩)⟩
        · skip
          refine T_iconst (pc' := 37) dX3_doingOf_36 (by decide) rfl ?_
          exact T_iret dX3_doingOf_37 rfl ⟨rfl, hG, (by rw [hQ]; exact ⟨(by unfold fX3_doingOf; simp only [if_neg c1, if_neg c3, if_neg c5, if_neg c6]), rfl⟩)⟩
    · skip
      refine T_iconst (pc' := 16) dX3_doingOf_15 (by decide) rfl ?_
      exact T_iret dX3_doingOf_16 rfl ⟨rfl, hG, (by rw [hQ]; exact ⟨(by unfold fX3_doingOf; simp only [if_neg c1, if_pos c3]), rfl⟩)⟩
def fX3_onesOf (v0 : Int) : Int :=
  (if v0 = 1 then 1 else (if v0 = 2 then 0 else (if v0 = 3 then 2 else 3)))
set_option maxRecDepth 100000 in
theorem pX3_onesOf {E : EV} {h : Int} {M : Mem} {v0 : Int}  : C2 E miX3_onesOf 1 h [(0, v0)] M (fun r M' => r = some (0, (fX3_onesOf v0)) ∧ M' = M) := by
  obtain ⟨Q, hQ⟩ : ∃ Q : Option MV → Mem → Prop, Q = (fun r M' => r = some (0, (fX3_onesOf v0)) ∧ M' = M) := ⟨_, rfl⟩
  rw [← hQ]
  refine C2_of (L := [(0, v0)]) (by decide +kernel) (Nat.le_of_ble_eq_true rfl) rfl (fun hG => ?_)
  refine T_iload_n (i := 0) (pc' := 1) dX3_onesOf_0 rfl rfl rfl ?_
  by_cases c1 : v0 = 1
  · skip
    refine T_tableIn (pc' := 28) dX3_onesOf_1 (by omega) (by omega) (by rw [c1]; rfl) (by decide) ?_
    refine T_iconst (pc' := 29) dX3_onesOf_28 (by decide) rfl ?_
    exact T_iret dX3_onesOf_29 rfl ⟨rfl, hG, (by rw [hQ]; exact ⟨(by unfold fX3_onesOf; simp only [if_pos c1]), rfl⟩)⟩
  · skip
    by_cases c2 : v0 = 2
    · skip
      refine T_tableIn (pc' := 30) dX3_onesOf_1 (by omega) (by omega) (by rw [c2]; rfl) (by decide) ?_
      refine T_iconst (pc' := 31) dX3_onesOf_30 (by decide) rfl ?_
      exact T_iret dX3_onesOf_31 rfl ⟨rfl, hG, (by rw [hQ]; exact ⟨(by unfold fX3_onesOf; simp only [if_neg c1, if_pos c2]), rfl⟩)⟩
    · skip
      by_cases c3 : v0 = 3
      · skip
        refine T_tableIn (pc' := 32) dX3_onesOf_1 (by omega) (by omega) (by rw [c3]; rfl) (by decide) ?_
        refine T_iconst (pc' := 33) dX3_onesOf_32 (by decide) rfl ?_
        exact T_iret dX3_onesOf_33 rfl ⟨rfl, hG, (by rw [hQ]; exact ⟨(by unfold fX3_onesOf; simp only [if_neg c1, if_neg c2, if_pos c3]), rfl⟩)⟩
      · skip
        refine T_tableOut (pc' := 34) dX3_onesOf_1 (by omega) (by decide) ?_
        refine T_iconst (pc' := 35) dX3_onesOf_34 (by decide) rfl ?_
        exact T_iret dX3_onesOf_35 rfl ⟨rfl, hG, (by rw [hQ]; exact ⟨(by unfold fX3_onesOf; simp only [if_neg c1, if_neg c2, if_neg c3]), rfl⟩)⟩
def fX7_walkCell (M : Mem) (v1 : Int) (v2 : Int) : Int :=
  (fX11_get M 10 1809 (wr32 ((wr32 (v1 * 201)) + v2)))
set_option maxRecDepth 100000 in
theorem pX7_walkCell {E : EV} {h : Int} {M : Mem} {v1 : Int} {v2 : Int}  : C2 E miX7_walkCell 2 h [(2, 9), (0, v1), (0, v2)] M (fun r M' => r = some (0, (fX7_walkCell M v1 v2)) ∧ M' = M) := by
  obtain ⟨Q, hQ⟩ : ∃ Q : Option MV → Mem → Prop, Q = (fun r M' => r = some (0, (fX7_walkCell M v1 v2)) ∧ M' = M) := ⟨_, rfl⟩
  rw [← hQ]
  refine C2_of (L := [(2, 9), (0, v1), (0, v2)]) (by decide +kernel) (Nat.le_of_ble_eq_true rfl) rfl (fun hG => ?_)
  refine T_aload_n (i := 0) (pc' := 1) dX7_walkCell_0 rfl rfl rfl ?_
  refine U_gr (q := 10) (k := 0) (kI := 0) (pc' := 4) dX7_walkCell_1 rfl cl7 (by decide) rfl (by decide) flX7_9 rfl rfl rfl (G_at hG 16 rfl) (by decide) rfl ?_
  refine T_iload_n (i := 1) (pc' := 5) dX7_walkCell_4 rfl rfl rfl ?_
  refine T_sipush (pc' := 8) dX7_walkCell_5 rfl (by decide) rfl ?_
  refine T_imul (pc' := 9) dX7_walkCell_8 rfl ?_
  refine T_iload_n (i := 2) (pc' := 10) dX7_walkCell_9 rfl rfl rfl ?_
  refine T_iadd (pc' := 11) dX7_walkCell_10 rfl ?_
  refine T_callSN (av := [(2, 10), (0, (wr32 ((wr32 (v1 * 201)) + v2)))]) (st := []) (d2 := 1) (nc2 := 0) (ns2 := 0) (pc' := 14) dX7_walkCell_11 rfl mtX11_get mvX11_get mlX7_71 rfl rfl (Nat.le_of_ble_eq_true rfl) (by decide) ⟨by decide, by decide⟩ rfl (pX11_get (E := E) (h := h) (M := M) (p0 := 10) (np0 := 1809) (v1 := (wr32 ((wr32 (v1 * 201)) + v2))) (by decide) rfl (by decide) hG) (kF (st2 := [(0, (fX11_get M 10 1809 (wr32 ((wr32 (v1 * 201)) + v2))))]) rfl (fun hG1 => ?_))
  exact T_iret dX7_walkCell_14 rfl ⟨rfl, hG, (by rw [hQ]; exact ⟨rfl, rfl⟩)⟩
def fJ6_bitCount_0f7a4 (v0 : Int) : Int :=
  (m_and (wr32 ((wr32 ((m_and (wr32 ((wr32 ((m_and (wr32 (v0 - (m_and (m_ushr v0 1) 1431655765))) 858993459) + (m_and (m_ushr (wr32 (v0 - (m_and (m_ushr v0 1) 1431655765))) 2) 858993459))) + (m_ushr (wr32 ((m_and (wr32 (v0 - (m_and (m_ushr v0 1) 1431655765))) 858993459) + (m_and (m_ushr (wr32 (v0 - (m_and (m_ushr v0 1) 1431655765))) 2) 858993459))) 4))) 252645135) + (m_ushr (m_and (wr32 ((wr32 ((m_and (wr32 (v0 - (m_and (m_ushr v0 1) 1431655765))) 858993459) + (m_and (m_ushr (wr32 (v0 - (m_and (m_ushr v0 1) 1431655765))) 2) 858993459))) + (m_ushr (wr32 ((m_and (wr32 (v0 - (m_and (m_ushr v0 1) 1431655765))) 858993459) + (m_and (m_ushr (wr32 (v0 - (m_and (m_ushr v0 1) 1431655765))) 2) 858993459))) 4))) 252645135) 8))) + (m_ushr (wr32 ((m_and (wr32 ((wr32 ((m_and (wr32 (v0 - (m_and (m_ushr v0 1) 1431655765))) 858993459) + (m_and (m_ushr (wr32 (v0 - (m_and (m_ushr v0 1) 1431655765))) 2) 858993459))) + (m_ushr (wr32 ((m_and (wr32 (v0 - (m_and (m_ushr v0 1) 1431655765))) 858993459) + (m_and (m_ushr (wr32 (v0 - (m_and (m_ushr v0 1) 1431655765))) 2) 858993459))) 4))) 252645135) + (m_ushr (m_and (wr32 ((wr32 ((m_and (wr32 (v0 - (m_and (m_ushr v0 1) 1431655765))) 858993459) + (m_and (m_ushr (wr32 (v0 - (m_and (m_ushr v0 1) 1431655765))) 2) 858993459))) + (m_ushr (wr32 ((m_and (wr32 (v0 - (m_and (m_ushr v0 1) 1431655765))) 858993459) + (m_and (m_ushr (wr32 (v0 - (m_and (m_ushr v0 1) 1431655765))) 2) 858993459))) 4))) 252645135) 8))) 16))) 63)
set_option maxRecDepth 100000 in
theorem pJ6_bitCount_0f7a4 {E : EV} {h : Int} {M : Mem} {v0 : Int}  : C2 E miJ6_bitCount_0f7a4 1 h [(0, v0)] M (fun r M' => r = some (0, (fJ6_bitCount_0f7a4 v0)) ∧ M' = M) := by
  obtain ⟨Q, hQ⟩ : ∃ Q : Option MV → Mem → Prop, Q = (fun r M' => r = some (0, (fJ6_bitCount_0f7a4 v0)) ∧ M' = M) := ⟨_, rfl⟩
  rw [← hQ]
  refine C2_of (L := [(0, v0)]) (by decide +kernel) (Nat.le_of_ble_eq_true rfl) rfl (fun hG => ?_)
  refine T_iload_n (i := 0) (pc' := 1) dJ6_bitCount_0f7a4_0 rfl rfl rfl ?_
  refine T_iload_n (i := 0) (pc' := 2) dJ6_bitCount_0f7a4_1 rfl rfl rfl ?_
  refine T_iconst (pc' := 3) dJ6_bitCount_0f7a4_2 (by decide) rfl ?_
  refine T_iushr (pc' := 4) dJ6_bitCount_0f7a4_3 rfl ?_
  refine T_ldcw (n := 1431655765) (pc' := 7) dJ6_bitCount_0f7a4_4 rfl kiJ6_265 rfl (by decide) rfl ?_
  refine T_iand (pc' := 8) dJ6_bitCount_0f7a4_7 rfl ?_
  refine T_isub (pc' := 9) dJ6_bitCount_0f7a4_8 rfl ?_
  refine T_istore_n (i := 0) (L' := [(0, (wr32 (v0 - (m_and (m_ushr v0 1) 1431655765))))]) (pc' := 10) dJ6_bitCount_0f7a4_9 rfl (by decide) rfl rfl ?_
  refine T_iload_n (i := 0) (pc' := 11) dJ6_bitCount_0f7a4_10 rfl rfl rfl ?_
  refine T_ldcw (n := 858993459) (pc' := 14) dJ6_bitCount_0f7a4_11 rfl kiJ6_266 rfl (by decide) rfl ?_
  refine T_iand (pc' := 15) dJ6_bitCount_0f7a4_14 rfl ?_
  refine T_iload_n (i := 0) (pc' := 16) dJ6_bitCount_0f7a4_15 rfl rfl rfl ?_
  refine T_iconst (pc' := 17) dJ6_bitCount_0f7a4_16 (by decide) rfl ?_
  refine T_iushr (pc' := 18) dJ6_bitCount_0f7a4_17 rfl ?_
  refine T_ldcw (n := 858993459) (pc' := 21) dJ6_bitCount_0f7a4_18 rfl kiJ6_266 rfl (by decide) rfl ?_
  refine T_iand (pc' := 22) dJ6_bitCount_0f7a4_21 rfl ?_
  refine T_iadd (pc' := 23) dJ6_bitCount_0f7a4_22 rfl ?_
  refine T_istore_n (i := 0) (L' := [(0, (wr32 ((m_and (wr32 (v0 - (m_and (m_ushr v0 1) 1431655765))) 858993459) + (m_and (m_ushr (wr32 (v0 - (m_and (m_ushr v0 1) 1431655765))) 2) 858993459))))]) (pc' := 24) dJ6_bitCount_0f7a4_23 rfl (by decide) rfl rfl ?_
  refine T_iload_n (i := 0) (pc' := 25) dJ6_bitCount_0f7a4_24 rfl rfl rfl ?_
  refine T_iload_n (i := 0) (pc' := 26) dJ6_bitCount_0f7a4_25 rfl rfl rfl ?_
  refine T_iconst (pc' := 27) dJ6_bitCount_0f7a4_26 (by decide) rfl ?_
  refine T_iushr (pc' := 28) dJ6_bitCount_0f7a4_27 rfl ?_
  refine T_iadd (pc' := 29) dJ6_bitCount_0f7a4_28 rfl ?_
  refine T_ldcw (n := 252645135) (pc' := 32) dJ6_bitCount_0f7a4_29 rfl kiJ6_267 rfl (by decide) rfl ?_
  refine T_iand (pc' := 33) dJ6_bitCount_0f7a4_32 rfl ?_
  refine T_istore_n (i := 0) (L' := [(0, (m_and (wr32 ((wr32 ((m_and (wr32 (v0 - (m_and (m_ushr v0 1) 1431655765))) 858993459) + (m_and (m_ushr (wr32 (v0 - (m_and (m_ushr v0 1) 1431655765))) 2) 858993459))) + (m_ushr (wr32 ((m_and (wr32 (v0 - (m_and (m_ushr v0 1) 1431655765))) 858993459) + (m_and (m_ushr (wr32 (v0 - (m_and (m_ushr v0 1) 1431655765))) 2) 858993459))) 4))) 252645135))]) (pc' := 34) dJ6_bitCount_0f7a4_33 rfl (by decide) rfl rfl ?_
  refine T_iload_n (i := 0) (pc' := 35) dJ6_bitCount_0f7a4_34 rfl rfl rfl ?_
  refine T_iload_n (i := 0) (pc' := 36) dJ6_bitCount_0f7a4_35 rfl rfl rfl ?_
  refine T_bipush (pc' := 38) dJ6_bitCount_0f7a4_36 rfl (by decide) rfl ?_
  refine T_iushr (pc' := 39) dJ6_bitCount_0f7a4_38 rfl ?_
  refine T_iadd (pc' := 40) dJ6_bitCount_0f7a4_39 rfl ?_
  refine T_istore_n (i := 0) (L' := [(0, (wr32 ((m_and (wr32 ((wr32 ((m_and (wr32 (v0 - (m_and (m_ushr v0 1) 1431655765))) 858993459) + (m_and (m_ushr (wr32 (v0 - (m_and (m_ushr v0 1) 1431655765))) 2) 858993459))) + (m_ushr (wr32 ((m_and (wr32 (v0 - (m_and (m_ushr v0 1) 1431655765))) 858993459) + (m_and (m_ushr (wr32 (v0 - (m_and (m_ushr v0 1) 1431655765))) 2) 858993459))) 4))) 252645135) + (m_ushr (m_and (wr32 ((wr32 ((m_and (wr32 (v0 - (m_and (m_ushr v0 1) 1431655765))) 858993459) + (m_and (m_ushr (wr32 (v0 - (m_and (m_ushr v0 1) 1431655765))) 2) 858993459))) + (m_ushr (wr32 ((m_and (wr32 (v0 - (m_and (m_ushr v0 1) 1431655765))) 858993459) + (m_and (m_ushr (wr32 (v0 - (m_and (m_ushr v0 1) 1431655765))) 2) 858993459))) 4))) 252645135) 8))))]) (pc' := 41) dJ6_bitCount_0f7a4_40 rfl (by decide) rfl rfl ?_
  refine T_iload_n (i := 0) (pc' := 42) dJ6_bitCount_0f7a4_41 rfl rfl rfl ?_
  refine T_iload_n (i := 0) (pc' := 43) dJ6_bitCount_0f7a4_42 rfl rfl rfl ?_
  refine T_bipush (pc' := 45) dJ6_bitCount_0f7a4_43 rfl (by decide) rfl ?_
  refine T_iushr (pc' := 46) dJ6_bitCount_0f7a4_45 rfl ?_
  refine T_iadd (pc' := 47) dJ6_bitCount_0f7a4_46 rfl ?_
  refine T_istore_n (i := 0) (L' := [(0, (wr32 ((wr32 ((m_and (wr32 ((wr32 ((m_and (wr32 (v0 - (m_and (m_ushr v0 1) 1431655765))) 858993459) + (m_and (m_ushr (wr32 (v0 - (m_and (m_ushr v0 1) 1431655765))) 2) 858993459))) + (m_ushr (wr32 ((m_and (wr32 (v0 - (m_and (m_ushr v0 1) 1431655765))) 858993459) + (m_and (m_ushr (wr32 (v0 - (m_and (m_ushr v0 1) 1431655765))) 2) 858993459))) 4))) 252645135) + (m_ushr (m_and (wr32 ((wr32 ((m_and (wr32 (v0 - (m_and (m_ushr v0 1) 1431655765))) 858993459) + (m_and (m_ushr (wr32 (v0 - (m_and (m_ushr v0 1) 1431655765))) 2) 858993459))) + (m_ushr (wr32 ((m_and (wr32 (v0 - (m_and (m_ushr v0 1) 1431655765))) 858993459) + (m_and (m_ushr (wr32 (v0 - (m_and (m_ushr v0 1) 1431655765))) 2) 858993459))) 4))) 252645135) 8))) + (m_ushr (wr32 ((m_and (wr32 ((wr32 ((m_and (wr32 (v0 - (m_and (m_ushr v0 1) 1431655765))) 858993459) + (m_and (m_ushr (wr32 (v0 - (m_and (m_ushr v0 1) 1431655765))) 2) 858993459))) + (m_ushr (wr32 ((m_and (wr32 (v0 - (m_and (m_ushr v0 1) 1431655765))) 858993459) + (m_and (m_ushr (wr32 (v0 - (m_and (m_ushr v0 1) 1431655765))) 2) 858993459))) 4))) 252645135) + (m_ushr (m_and (wr32 ((wr32 ((m_and (wr32 (v0 - (m_and (m_ushr v0 1) 1431655765))) 858993459) + (m_and (m_ushr (wr32 (v0 - (m_and (m_ushr v0 1) 1431655765))) 2) 858993459))) + (m_ushr (wr32 ((m_and (wr32 (v0 - (m_and (m_ushr v0 1) 1431655765))) 858993459) + (m_and (m_ushr (wr32 (v0 - (m_and (m_ushr v0 1) 1431655765))) 2) 858993459))) 4))) 252645135) 8))) 16))))]) (pc' := 48) dJ6_bitCount_0f7a4_47 rfl (by decide) rfl rfl ?_
  refine T_iload_n (i := 0) (pc' := 49) dJ6_bitCount_0f7a4_48 rfl rfl rfl ?_
  refine T_bipush (pc' := 51) dJ6_bitCount_0f7a4_49 rfl (by decide) rfl ?_
  refine T_iand (pc' := 52) dJ6_bitCount_0f7a4_51 rfl ?_
  exact T_iret dJ6_bitCount_0f7a4_52 rfl ⟨rfl, hG, (by rw [hQ]; exact ⟨rfl, rfl⟩)⟩
def fX3_cellOf (M : Mem) (v1 : Int) (v2 : Int) : Int :=
  (if (fX11_hasBit (M 16 8) v1) = 0 then ((-1) : Int) else (fX11_get M 17 1809 (wr32 ((wr32 (v1 * 201)) + v2))))
set_option maxRecDepth 100000 in
theorem pX3_cellOf {E : EV} {h : Int} {M : Mem} {v1 : Int} {v2 : Int}  : C2 E miX3_cellOf 2 h [(2, 16), (0, v1), (0, v2)] M (fun r M' => r = some (0, (fX3_cellOf M v1 v2)) ∧ M' = M) := by
  obtain ⟨Q, hQ⟩ : ∃ Q : Option MV → Mem → Prop, Q = (fun r M' => r = some (0, (fX3_cellOf M v1 v2)) ∧ M' = M) := ⟨_, rfl⟩
  rw [← hQ]
  refine C2_of (L := [(2, 16), (0, v1), (0, v2)]) (by decide +kernel) (Nat.le_of_ble_eq_true rfl) rfl (fun hG => ?_)
  refine T_aload_n (i := 0) (pc' := 1) dX3_cellOf_0 rfl rfl rfl ?_
  refine U_gf (v := (0, (M 16 8))) (k := 8) (kI := 8) (pc' := 4) dX3_cellOf_1 rfl cl3 (by decide) rfl (by decide) flX3_36 rfl rfl (by decide) rfl rfl ?_
  refine T_iload_n (i := 1) (pc' := 5) dX3_cellOf_4 rfl rfl rfl ?_
  refine T_callSN (av := [(0, (M 16 8)), (0, v1)]) (st := []) (d2 := 1) (nc2 := 0) (ns2 := 0) (pc' := 8) dX3_cellOf_5 rfl mtX11_hasBit mvX11_hasBit mlX3_76 rfl rfl (Nat.le_of_ble_eq_true rfl) (by decide) ⟨by decide, by decide⟩ rfl (pX11_hasBit (E := E) (h := h) (M := M) (v0 := (M 16 8)) (v1 := v1) hG) (kF (st2 := [(0, (fX11_hasBit (M 16 8) v1))]) rfl (fun hG1 => ?_))
  have HJ2 : T E miX3_cellOf 2 126 0 0 (fun r S M' => S = S0 ∧ G h M' ∧ Q r M') 29 [(3, 0), (3, 0), (3, 0)] [(0, (if (fX11_hasBit (M 16 8) v1) = 0 then ((-1) : Int) else (fX11_get M 17 1809 (wr32 ((wr32 (v1 * 201)) + v2)))))] S0 M 0 0 := by
    exact T_iret dX3_cellOf_29 rfl ⟨rfl, hG, (by rw [hQ]; exact ⟨rfl, rfl⟩)⟩
  refine T_if_eq (pc' := 28) dX3_cellOf_8 (by decide) (pf := 11) rfl (fun c3 => ?_) (fun c3 => ?_)
  · skip
    refine T_iconst (pc' := 29) dX3_cellOf_28 (by decide) rfl ?_
    exact T_wk (L' := [(3, 0), (3, 0), (3, 0)]) (by have q := HJ2; try simp only [if_pos c3] at q; exact q) ⟨Or.inl rfl, Or.inl rfl, Or.inl rfl, trivial⟩
  · skip
    refine T_aload_n (i := 0) (pc' := 12) dX3_cellOf_11 rfl rfl rfl ?_
    refine U_gr (q := 17) (k := 0) (kI := 0) (pc' := 15) dX3_cellOf_12 rfl cl3 (by decide) rfl (by decide) flX3_9 rfl rfl rfl (G_at hG 22 rfl) (by decide) rfl ?_
    refine T_iload_n (i := 1) (pc' := 16) dX3_cellOf_15 rfl rfl rfl ?_
    refine T_sipush (pc' := 19) dX3_cellOf_16 rfl (by decide) rfl ?_
    refine T_imul (pc' := 20) dX3_cellOf_19 rfl ?_
    refine T_iload_n (i := 2) (pc' := 21) dX3_cellOf_20 rfl rfl rfl ?_
    refine T_iadd (pc' := 22) dX3_cellOf_21 rfl ?_
    refine T_callSN (av := [(2, 17), (0, (wr32 ((wr32 (v1 * 201)) + v2)))]) (st := []) (d2 := 1) (nc2 := 0) (ns2 := 0) (pc' := 25) dX3_cellOf_22 rfl mtX11_get mvX11_get mlX3_67 rfl rfl (Nat.le_of_ble_eq_true rfl) (by decide) ⟨by decide, by decide⟩ rfl (pX11_get (E := E) (h := h) (M := M) (p0 := 17) (np0 := 1809) (v1 := (wr32 ((wr32 (v1 * 201)) + v2))) (by decide) rfl (by decide) hG) (kF (st2 := [(0, (fX11_get M 17 1809 (wr32 ((wr32 (v1 * 201)) + v2))))]) rfl (fun hG4 => ?_))
    refine T_goto (pc' := 29) dX3_cellOf_25 (by decide) ?_
    exact T_wk (L' := [(3, 0), (3, 0), (3, 0)]) (by have q := HJ2; try simp only [if_neg c3] at q; exact q) ⟨Or.inl rfl, Or.inl rfl, Or.inl rfl, trivial⟩
def fX3_howMany (M : Mem) (v1 : Int) (v2 : Int) : Int :=
  (fX11_get M 18 804 (wr32 ((wr32 (v2 * 201)) + v1)))
set_option maxRecDepth 100000 in
theorem pX3_howMany {E : EV} {h : Int} {M : Mem} {v1 : Int} {v2 : Int}  : C2 E miX3_howMany 2 h [(2, 16), (0, v1), (0, v2)] M (fun r M' => r = some (0, (fX3_howMany M v1 v2)) ∧ M' = M) := by
  obtain ⟨Q, hQ⟩ : ∃ Q : Option MV → Mem → Prop, Q = (fun r M' => r = some (0, (fX3_howMany M v1 v2)) ∧ M' = M) := ⟨_, rfl⟩
  rw [← hQ]
  refine C2_of (L := [(2, 16), (0, v1), (0, v2)]) (by decide +kernel) (Nat.le_of_ble_eq_true rfl) rfl (fun hG => ?_)
  refine T_aload_n (i := 0) (pc' := 1) dX3_howMany_0 rfl rfl rfl ?_
  refine U_gr (q := 18) (k := 1) (kI := 1) (pc' := 4) dX3_howMany_1 rfl cl3 (by decide) rfl (by decide) flX3_15 rfl rfl rfl (G_at hG 23 rfl) (by decide) rfl ?_
  refine T_iload_n (i := 2) (pc' := 5) dX3_howMany_4 rfl rfl rfl ?_
  refine T_sipush (pc' := 8) dX3_howMany_5 rfl (by decide) rfl ?_
  refine T_imul (pc' := 9) dX3_howMany_8 rfl ?_
  refine T_iload_n (i := 1) (pc' := 10) dX3_howMany_9 rfl rfl rfl ?_
  refine T_iadd (pc' := 11) dX3_howMany_10 rfl ?_
  refine T_callSN (av := [(2, 18), (0, (wr32 ((wr32 (v2 * 201)) + v1)))]) (st := []) (d2 := 1) (nc2 := 0) (ns2 := 0) (pc' := 14) dX3_howMany_11 rfl mtX11_get mvX11_get mlX3_67 rfl rfl (Nat.le_of_ble_eq_true rfl) (by decide) ⟨by decide, by decide⟩ rfl (pX11_get (E := E) (h := h) (M := M) (p0 := 18) (np0 := 804) (v1 := (wr32 ((wr32 (v2 * 201)) + v1))) (by decide) rfl (by decide) hG) (kF (st2 := [(0, (fX11_get M 18 804 (wr32 ((wr32 (v2 * 201)) + v1))))]) rfl (fun hG1 => ?_))
  exact T_iret dX3_howMany_14 rfl ⟨rfl, hG, (by rw [hQ]; exact ⟨rfl, rfl⟩)⟩
def fX4_has (M : Mem) (g : Int) (v1 : Int) : Int :=
  (if v1 < 0 then (0 : Int) else (if (M (g + 1) 8) ≤ v1 then (0 : Int) else 1))
set_option maxRecDepth 100000 in
theorem pX4_has {E : EV} {h : Int} {M : Mem} {g : Int} {v1 : Int} (hg : isG g) : C2 E miX4_has 1 h [(2, (g + 1)), (0, v1)] M (fun r M' => r = some (0, (fX4_has M g v1)) ∧ M' = M) := by
  obtain ⟨Q, hQ⟩ : ∃ Q : Option MV → Mem → Prop, Q = (fun r M' => r = some (0, (fX4_has M g v1)) ∧ M' = M) := ⟨_, rfl⟩
  rw [← hQ]
  refine C2_of (L := [(2, (g + 1)), (0, v1)]) (by decide +kernel) (Nat.le_of_ble_eq_true rfl) rfl (fun hG => ?_)
  refine T_iload_n (i := 1) (pc' := 1) dX4_has_0 rfl rfl rfl ?_
  have HJ1 : T E miX4_has 1 126 0 0 (fun r S M' => S = S0 ∧ G h M' ∧ Q r M') 17 [(3, 0), (3, 0)] [(0, (if v1 < 0 then (0 : Int) else (if (M (g + 1) 8) ≤ v1 then (0 : Int) else 1)))] S0 M 0 0 := by
    exact T_zret dX4_has_17 rfl (by repeat' (first | apply bi | exact Or.inl rfl | exact Or.inr rfl)) ⟨rfl, hG, (by rw [hQ]; exact ⟨rfl, rfl⟩)⟩
  refine T_if_lt (pc' := 16) dX4_has_1 (by decide) (pf := 4) rfl (fun c2 => ?_) (fun c2 => ?_)
  · skip
    refine T_iconst (pc' := 17) dX4_has_16 (by decide) rfl ?_
    exact T_wk (L' := [(3, 0), (3, 0)]) (by have q := HJ1; try simp only [if_pos c2] at q; exact q) ⟨Or.inl rfl, Or.inl rfl, trivial⟩
  · skip
    refine T_iload_n (i := 1) (pc' := 5) dX4_has_4 rfl rfl rfl ?_
    refine T_aload_n (i := 0) (pc' := 6) dX4_has_5 rfl rfl rfl ?_
    refine U_gf (v := (0, (M (g + 1) 8))) (k := 8) (kI := 8) (pc' := 9) dX4_has_6 rfl cl4 (pog1 hg) (shg1 hg) (by decide) flX4_37 rfl rfl (by decide) rfl rfl ?_
    refine T_icmp_ge (pc' := 16) dX4_has_9 (by decide) (pf := 12) rfl (fun c3 => ?_) (fun c3 => ?_)
    · skip
      refine T_iconst (pc' := 17) dX4_has_16 (by decide) rfl ?_
      exact T_wk (L' := [(3, 0), (3, 0)]) (by have q := HJ1; try simp only [if_neg c2] at q; try simp only [if_pos c3] at q; exact q) ⟨Or.inl rfl, Or.inl rfl, trivial⟩
    · skip
      refine T_iconst (pc' := 13) dX4_has_12 (by decide) rfl ?_
      refine T_goto (pc' := 17) dX4_has_13 (by decide) ?_
      exact T_wk (L' := [(3, 0), (3, 0)]) (by have q := HJ1; try simp only [if_neg c2] at q; try simp only [if_neg c3] at q; exact q) ⟨Or.inl rfl, Or.inl rfl, trivial⟩
theorem fbX4_has (M : Mem) (g : Int) (v1 : Int) : (fX4_has M g v1) = 0 ∨ (fX4_has M g v1) = 1 := by
  unfold fX4_has
  repeat' (first | apply bi | exact Or.inl rfl | exact Or.inr rfl)
def fX4_all (M : Mem) (g : Int) : Int :=
  (wr32 ((m_shl 1 (M (g + 1) 8)) - 1))
set_option maxRecDepth 100000 in
theorem pX4_all {E : EV} {h : Int} {M : Mem} {g : Int} (hg : isG g) : C2 E miX4_all 1 h [(2, (g + 1))] M (fun r M' => r = some (0, (fX4_all M g)) ∧ M' = M) := by
  obtain ⟨Q, hQ⟩ : ∃ Q : Option MV → Mem → Prop, Q = (fun r M' => r = some (0, (fX4_all M g)) ∧ M' = M) := ⟨_, rfl⟩
  rw [← hQ]
  refine C2_of (L := [(2, (g + 1))]) (by decide +kernel) (Nat.le_of_ble_eq_true rfl) rfl (fun hG => ?_)
  refine T_iconst (pc' := 1) dX4_all_0 (by decide) rfl ?_
  refine T_aload_n (i := 0) (pc' := 2) dX4_all_1 rfl rfl rfl ?_
  refine U_gf (v := (0, (M (g + 1) 8))) (k := 8) (kI := 8) (pc' := 5) dX4_all_2 rfl cl4 (pog1 hg) (shg1 hg) (by decide) flX4_37 rfl rfl (by decide) rfl rfl ?_
  refine T_ishl (pc' := 6) dX4_all_5 rfl ?_
  refine T_iconst (pc' := 7) dX4_all_6 (by decide) rfl ?_
  refine T_isub (pc' := 8) dX4_all_7 rfl ?_
  exact T_iret dX4_all_8 rfl ⟨rfl, hG, (by rw [hQ]; exact ⟨rfl, rfl⟩)⟩
def fX4_stepOf (M : Mem) (g : Int) (v1 : Int) (v2 : Int) : Int :=
  (if (fX11_get M (g + 7) 9 v1) ≤ 0 then ((-1) : Int) else (fX11_get M (g + 8) 108 (wr32 ((wr32 (v1 * 12)) + (Int.tmod v2 (fX11_get M (g + 7) 9 v1))))))
set_option maxRecDepth 100000 in
theorem pX4_stepOf {E : EV} {h : Int} {M : Mem} {g : Int} {v1 : Int} {v2 : Int} (hg : isG g) : C2 E miX4_stepOf 2 h [(2, (g + 1)), (0, v1), (0, v2)] M (fun r M' => r = some (0, (fX4_stepOf M g v1 v2)) ∧ M' = M) := by
  obtain ⟨Q, hQ⟩ : ∃ Q : Option MV → Mem → Prop, Q = (fun r M' => r = some (0, (fX4_stepOf M g v1 v2)) ∧ M' = M) := ⟨_, rfl⟩
  rw [← hQ]
  refine C2_of (L := [(2, (g + 1)), (0, v1), (0, v2), (3, 0)]) (by decide +kernel) (Nat.le_of_ble_eq_true rfl) rfl (fun hG => ?_)
  refine T_aload_n (i := 0) (pc' := 1) dX4_stepOf_0 rfl rfl rfl ?_
  refine U_gr (q := (g + 7)) (k := 5) (kI := 5) (pc' := 4) dX4_stepOf_1 rfl cl4 (pog1 hg) (shg1 hg) (by decide) flX4_27 rfl rfl rfl (grg1_5 hg hG) (pog7 hg) rfl ?_
  refine T_iload_n (i := 1) (pc' := 5) dX4_stepOf_4 rfl rfl rfl ?_
  refine T_callSN (av := [(2, (g + 7)), (0, v1)]) (st := []) (d2 := 1) (nc2 := 0) (ns2 := 0) (pc' := 8) dX4_stepOf_5 rfl mtX11_get mvX11_get mlX4_44 rfl rfl (Nat.le_of_ble_eq_true rfl) (by decide) ⟨by decide, by decide⟩ rfl (pX11_get (E := E) (h := h) (M := M) (p0 := (g + 7)) (np0 := 9) (v1 := v1) (pog7 hg) (shg7 hg) (by decide) hG) (kF (st2 := [(0, (fX11_get M (g + 7) 9 v1))]) rfl (fun hG1 => ?_))
  refine T_istore_n (i := 3) (L' := [(2, (g + 1)), (0, v1), (0, v2), (0, (fX11_get M (g + 7) 9 v1))]) (pc' := 9) dX4_stepOf_8 rfl (by decide) rfl rfl ?_
  refine T_iload_n (i := 3) (pc' := 10) dX4_stepOf_9 rfl rfl rfl ?_
  have HJ2 : T E miX4_stepOf 2 126 0 0 (fun r S M' => S = S0 ∧ G h M' ∧ Q r M') 32 [(3, 0), (3, 0), (3, 0), (3, 0)] [(0, (if (fX11_get M (g + 7) 9 v1) ≤ 0 then ((-1) : Int) else (fX11_get M (g + 8) 108 (wr32 ((wr32 (v1 * 12)) + (Int.tmod v2 (fX11_get M (g + 7) 9 v1)))))))] S0 M 0 0 := by
    exact T_iret dX4_stepOf_32 rfl ⟨rfl, hG, (by rw [hQ]; exact ⟨rfl, rfl⟩)⟩
  refine T_if_le (pc' := 31) dX4_stepOf_10 (by decide) (pf := 13) rfl (fun c3 => ?_) (fun c3 => ?_)
  · skip
    refine T_iconst (pc' := 32) dX4_stepOf_31 (by decide) rfl ?_
    exact T_wk (L' := [(3, 0), (3, 0), (3, 0), (3, 0)]) (by have q := HJ2; try simp only [if_pos c3] at q; exact q) ⟨Or.inl rfl, Or.inl rfl, Or.inl rfl, Or.inl rfl, trivial⟩
  · skip
    refine T_aload_n (i := 0) (pc' := 14) dX4_stepOf_13 rfl rfl rfl ?_
    refine U_gr (q := (g + 8)) (k := 6) (kI := 6) (pc' := 17) dX4_stepOf_14 rfl cl4 (pog1 hg) (shg1 hg) (by decide) flX4_30 rfl rfl rfl (grg1_6 hg hG) (pog8 hg) rfl ?_
    refine T_iload_n (i := 1) (pc' := 18) dX4_stepOf_17 rfl rfl rfl ?_
    refine T_bipush (pc' := 20) dX4_stepOf_18 rfl (by decide) rfl ?_
    refine T_imul (pc' := 21) dX4_stepOf_20 rfl ?_
    refine T_iload_n (i := 2) (pc' := 22) dX4_stepOf_21 rfl rfl rfl ?_
    refine T_iload_n (i := 3) (pc' := 23) dX4_stepOf_22 rfl rfl rfl ?_
    refine T_irem (pc' := 24) dX4_stepOf_23 (by omega) rfl ?_
    refine T_iadd (pc' := 25) dX4_stepOf_24 rfl ?_
    refine T_callSN (av := [(2, (g + 8)), (0, (wr32 ((wr32 (v1 * 12)) + (Int.tmod v2 (fX11_get M (g + 7) 9 v1)))))]) (st := []) (d2 := 1) (nc2 := 0) (ns2 := 0) (pc' := 28) dX4_stepOf_25 rfl mtX11_get mvX11_get mlX4_44 rfl rfl (Nat.le_of_ble_eq_true rfl) (by decide) ⟨by decide, by decide⟩ rfl (pX11_get (E := E) (h := h) (M := M) (p0 := (g + 8)) (np0 := 108) (v1 := (wr32 ((wr32 (v1 * 12)) + (Int.tmod v2 (fX11_get M (g + 7) 9 v1))))) (pog8 hg) (shg8 hg) (by decide) hG) (kF (st2 := [(0, (fX11_get M (g + 8) 108 (wr32 ((wr32 (v1 * 12)) + (Int.tmod v2 (fX11_get M (g + 7) 9 v1))))))]) rfl (fun hG4 => ?_))
    refine T_goto (pc' := 32) dX4_stepOf_28 (by decide) ?_
    exact T_wk (L' := [(3, 0), (3, 0), (3, 0), (3, 0)]) (by have q := HJ2; try simp only [if_neg c3] at q; exact q) ⟨Or.inl rfl, Or.inl rfl, Or.inl rfl, Or.inl rfl, trivial⟩
def fmX5_clear (M : Mem) : Mem :=
  (mset M 6 2 0)
theorem gX5_clear {h : Int} {M : Mem}   (hG : G h M) : G h (fmX5_clear M) := by
  unfold fmX5_clear
  exact (G_fld (x := 6) (i := 2) (y := 0) rfl (by decide) (by decide) (by decide) hG)
set_option maxRecDepth 100000 in
theorem pX5_clear {E : EV} {h : Int} {M : Mem}   : C2 E miX5_clear 1 h [(2, 6)] M (fun r M' => r = none ∧ M' = (fmX5_clear M)) := by
  obtain ⟨Q, hQ⟩ : ∃ Q : Option MV → Mem → Prop, Q = (fun r M' => r = none ∧ M' = (fmX5_clear M)) := ⟨_, rfl⟩
  rw [← hQ]
  refine C2_of (L := [(2, 6)]) (by decide +kernel) (Nat.le_of_ble_eq_true rfl) rfl (fun hG => ?_)
  refine T_aload_n (i := 0) (pc' := 1) dX5_clear_0 rfl rfl rfl ?_
  refine T_iconst (pc' := 2) dX5_clear_1 (by decide) rfl ?_
  refine U_pf (y := 0) (k := 2) (kI := 2) (pc' := 5) dX5_clear_2 rfl cl5 (by decide) rfl (by decide) flX5_18 rfl rfl rfl rfl rfl (by decide) (fun z => z) rfl ?_
  exact T_vret dX5_clear_5 rfl ⟨rfl, (G_fld (x := 6) (i := 2) (y := 0) rfl (by decide) (by decide) (by decide) hG), (by rw [hQ]; exact ⟨rfl, rfl⟩)⟩
theorem frX5_clear {M : Mem}  {q : Int} (hq0 : q ≠ 6) : (fmX5_clear M) q = M q := by
  unfold fmX5_clear
  repeat' (first | rfl | rw [mset_p hq0] | rw [mcpy_p hq0] | rw [ite_ap] | split)
def fmX5_add (M : Mem) (v1 : Int) (v2 : Int) : Mem :=
  (mset (fmX11_put M 7 1600 (M 6 2) (wr32 ((wr32 (v1 * 10000)) + v2))) 6 2 (wr32 (((fmX11_put M 7 1600 (M 6 2) (wr32 ((wr32 (v1 * 10000)) + v2))) 6 2) + 1)))
theorem gX5_add {h : Int} {M : Mem} {v1 : Int} {v2 : Int}  (hG : G h M) : G h (fmX5_add M v1 v2) := by
  unfold fmX5_add
  exact (G_fld (x := 6) (i := 2) (y := (wr32 (((fmX11_put M 7 1600 (M 6 2) (wr32 ((wr32 (v1 * 10000)) + v2))) 6 2) + 1))) rfl (by decide) (by decide) (by decide) (gX11_put (h := h) (M := M) (p0 := 7) (np0 := 1600) (v1 := (M 6 2)) (v2 := (wr32 ((wr32 (v1 * 10000)) + v2))) (by decide) rfl (by decide) hG))
set_option maxRecDepth 100000 in
theorem pX5_add {E : EV} {h : Int} {M : Mem} {v1 : Int} {v2 : Int}  : C2 E miX5_add 2 h [(2, 6), (0, v1), (0, v2)] M (fun r M' => r = none ∧ M' = (fmX5_add M v1 v2)) := by
  obtain ⟨Q, hQ⟩ : ∃ Q : Option MV → Mem → Prop, Q = (fun r M' => r = none ∧ M' = (fmX5_add M v1 v2)) := ⟨_, rfl⟩
  rw [← hQ]
  refine C2_of (L := [(2, 6), (0, v1), (0, v2)]) (by decide +kernel) (Nat.le_of_ble_eq_true rfl) rfl (fun hG => ?_)
  refine T_aload_n (i := 0) (pc' := 1) dX5_add_0 rfl rfl rfl ?_
  refine U_gr (q := 7) (k := 0) (kI := 0) (pc' := 4) dX5_add_1 rfl cl5 (by decide) rfl (by decide) flX5_9 rfl rfl rfl (G_at hG 14 rfl) (by decide) rfl ?_
  refine T_aload_n (i := 0) (pc' := 5) dX5_add_4 rfl rfl rfl ?_
  refine U_gf (v := (0, (M 6 2))) (k := 2) (kI := 2) (pc' := 8) dX5_add_5 rfl cl5 (by decide) rfl (by decide) flX5_18 rfl rfl (by decide) rfl rfl ?_
  refine T_iload_n (i := 1) (pc' := 9) dX5_add_8 rfl rfl rfl ?_
  refine T_sipush (pc' := 12) dX5_add_9 rfl (by decide) rfl ?_
  refine T_imul (pc' := 13) dX5_add_12 rfl ?_
  refine T_iload_n (i := 2) (pc' := 14) dX5_add_13 rfl rfl rfl ?_
  refine T_iadd (pc' := 15) dX5_add_14 rfl ?_
  refine T_callSN (av := [(2, 7), (0, (M 6 2)), (0, (wr32 ((wr32 (v1 * 10000)) + v2)))]) (st := []) (d2 := 1) (nc2 := 0) (ns2 := 0) (pc' := 18) dX5_add_15 rfl mtX11_put mvX11_put mlX5_25 rfl rfl (Nat.le_of_ble_eq_true rfl) (by decide) ⟨by decide, by decide⟩ rfl (pX11_put (E := E) (h := h) (M := M) (p0 := 7) (np0 := 1600) (v1 := (M 6 2)) (v2 := (wr32 ((wr32 (v1 * 10000)) + v2))) (by decide) rfl (by decide) hG) (kF (st2 := []) rfl (fun hG1 => ?_))
  refine T_aload_n (i := 0) (pc' := 19) dX5_add_18 rfl rfl rfl ?_
  refine T_dup (pc' := 20) dX5_add_19 (Nat.ne_of_beq_eq_false rfl) rfl ?_
  refine U_gf (v := (0, ((fmX11_put M 7 1600 (M 6 2) (wr32 ((wr32 (v1 * 10000)) + v2))) 6 2))) (k := 2) (kI := 2) (pc' := 23) dX5_add_20 rfl cl5 (by decide) rfl (by decide) flX5_18 rfl rfl (by decide) rfl rfl ?_
  refine T_iconst (pc' := 24) dX5_add_23 (by decide) rfl ?_
  refine T_iadd (pc' := 25) dX5_add_24 rfl ?_
  refine U_pf (y := (wr32 (((fmX11_put M 7 1600 (M 6 2) (wr32 ((wr32 (v1 * 10000)) + v2))) 6 2) + 1))) (k := 2) (kI := 2) (pc' := 28) dX5_add_25 rfl cl5 (by decide) rfl (by decide) flX5_18 rfl rfl rfl rfl rfl (by decide) (fun z => z) rfl ?_
  exact T_vret dX5_add_28 rfl ⟨rfl, (G_fld (x := 6) (i := 2) (y := (wr32 (((fmX11_put M 7 1600 (M 6 2) (wr32 ((wr32 (v1 * 10000)) + v2))) 6 2) + 1))) rfl (by decide) (by decide) (by decide) (gX11_put (h := h) (M := M) (p0 := 7) (np0 := 1600) (v1 := (M 6 2)) (v2 := (wr32 ((wr32 (v1 * 10000)) + v2))) (by decide) rfl (by decide) hG)), (by rw [hQ]; exact ⟨rfl, rfl⟩)⟩
theorem frX5_add {M : Mem} {v1 : Int} {v2 : Int}  {q : Int} (hq0 : q ≠ 7) (hq1 : q ≠ 6) : (fmX5_add M v1 v2) q = M q := by
  unfold fmX5_add
  repeat' (first | rfl | rw [mset_p hq0] | rw [mset_p hq1] | rw [mcpy_p hq0] | rw [mcpy_p hq1] | (rw [frX11_put] <;> try assumption) | rw [ite_ap] | split)
def fmX5_push (M : Mem) (v1 : Int) : Mem :=
  (mset (fmX11_put M 8 64 (M 6 3) v1) 6 3 (wr32 (((fmX11_put M 8 64 (M 6 3) v1) 6 3) + 1)))
theorem gX5_push {h : Int} {M : Mem} {v1 : Int}  (hG : G h M) : G h (fmX5_push M v1) := by
  unfold fmX5_push
  exact (G_fld (x := 6) (i := 3) (y := (wr32 (((fmX11_put M 8 64 (M 6 3) v1) 6 3) + 1))) rfl (by decide) (by decide) (by decide) (gX11_put (h := h) (M := M) (p0 := 8) (np0 := 64) (v1 := (M 6 3)) (v2 := v1) (by decide) rfl (by decide) hG))
set_option maxRecDepth 100000 in
theorem pX5_push {E : EV} {h : Int} {M : Mem} {v1 : Int}  : C2 E miX5_push 2 h [(2, 6), (0, v1)] M (fun r M' => r = none ∧ M' = (fmX5_push M v1)) := by
  obtain ⟨Q, hQ⟩ : ∃ Q : Option MV → Mem → Prop, Q = (fun r M' => r = none ∧ M' = (fmX5_push M v1)) := ⟨_, rfl⟩
  rw [← hQ]
  refine C2_of (L := [(2, 6), (0, v1)]) (by decide +kernel) (Nat.le_of_ble_eq_true rfl) rfl (fun hG => ?_)
  refine T_aload_n (i := 0) (pc' := 1) dX5_push_0 rfl rfl rfl ?_
  refine U_gr (q := 8) (k := 1) (kI := 1) (pc' := 4) dX5_push_1 rfl cl5 (by decide) rfl (by decide) flX5_15 rfl rfl rfl (G_at hG 15 rfl) (by decide) rfl ?_
  refine T_aload_n (i := 0) (pc' := 5) dX5_push_4 rfl rfl rfl ?_
  refine U_gf (v := (0, (M 6 3))) (k := 3) (kI := 3) (pc' := 8) dX5_push_5 rfl cl5 (by decide) rfl (by decide) flX5_22 rfl rfl (by decide) rfl rfl ?_
  refine T_iload_n (i := 1) (pc' := 9) dX5_push_8 rfl rfl rfl ?_
  refine T_callSN (av := [(2, 8), (0, (M 6 3)), (0, v1)]) (st := []) (d2 := 1) (nc2 := 0) (ns2 := 0) (pc' := 12) dX5_push_9 rfl mtX11_put mvX11_put mlX5_25 rfl rfl (Nat.le_of_ble_eq_true rfl) (by decide) ⟨by decide, by decide⟩ rfl (pX11_put (E := E) (h := h) (M := M) (p0 := 8) (np0 := 64) (v1 := (M 6 3)) (v2 := v1) (by decide) rfl (by decide) hG) (kF (st2 := []) rfl (fun hG1 => ?_))
  refine T_aload_n (i := 0) (pc' := 13) dX5_push_12 rfl rfl rfl ?_
  refine T_dup (pc' := 14) dX5_push_13 (Nat.ne_of_beq_eq_false rfl) rfl ?_
  refine U_gf (v := (0, ((fmX11_put M 8 64 (M 6 3) v1) 6 3))) (k := 3) (kI := 3) (pc' := 17) dX5_push_14 rfl cl5 (by decide) rfl (by decide) flX5_22 rfl rfl (by decide) rfl rfl ?_
  refine T_iconst (pc' := 18) dX5_push_17 (by decide) rfl ?_
  refine T_iadd (pc' := 19) dX5_push_18 rfl ?_
  refine U_pf (y := (wr32 (((fmX11_put M 8 64 (M 6 3) v1) 6 3) + 1))) (k := 3) (kI := 3) (pc' := 22) dX5_push_19 rfl cl5 (by decide) rfl (by decide) flX5_22 rfl rfl rfl rfl rfl (by decide) (fun z => z) rfl ?_
  exact T_vret dX5_push_22 rfl ⟨rfl, (G_fld (x := 6) (i := 3) (y := (wr32 (((fmX11_put M 8 64 (M 6 3) v1) 6 3) + 1))) rfl (by decide) (by decide) (by decide) (gX11_put (h := h) (M := M) (p0 := 8) (np0 := 64) (v1 := (M 6 3)) (v2 := v1) (by decide) rfl (by decide) hG)), (by rw [hQ]; exact ⟨rfl, rfl⟩)⟩
theorem frX5_push {M : Mem} {v1 : Int}  {q : Int} (hq0 : q ≠ 8) (hq1 : q ≠ 6) : (fmX5_push M v1) q = M q := by
  unfold fmX5_push
  repeat' (first | rfl | rw [mset_p hq0] | rw [mset_p hq1] | rw [mcpy_p hq0] | rw [mcpy_p hq1] | (rw [frX11_put] <;> try assumption) | rw [ite_ap] | split)
def fX5_pop (M : Mem) : Int :=
  (fX11_get (mset M 6 3 (wr32 ((M 6 3) - 1))) 8 64 ((mset M 6 3 (wr32 ((M 6 3) - 1))) 6 3))
def fmX5_pop (M : Mem) : Mem :=
  (mset M 6 3 (wr32 ((M 6 3) - 1)))
theorem gX5_pop {h : Int} {M : Mem}   (hG : G h M) : G h (fmX5_pop M) := by
  unfold fmX5_pop
  exact (G_fld (x := 6) (i := 3) (y := (wr32 ((M 6 3) - 1))) rfl (by decide) (by decide) (by decide) hG)
set_option maxRecDepth 100000 in
theorem pX5_pop {E : EV} {h : Int} {M : Mem}   : C2 E miX5_pop 2 h [(2, 6)] M (fun r M' => r = some (0, (fX5_pop M)) ∧ M' = (fmX5_pop M)) := by
  obtain ⟨Q, hQ⟩ : ∃ Q : Option MV → Mem → Prop, Q = (fun r M' => r = some (0, (fX5_pop M)) ∧ M' = (fmX5_pop M)) := ⟨_, rfl⟩
  rw [← hQ]
  refine C2_of (L := [(2, 6)]) (by decide +kernel) (Nat.le_of_ble_eq_true rfl) rfl (fun hG => ?_)
  refine T_aload_n (i := 0) (pc' := 1) dX5_pop_0 rfl rfl rfl ?_
  refine T_dup (pc' := 2) dX5_pop_1 (Nat.ne_of_beq_eq_false rfl) rfl ?_
  refine U_gf (v := (0, (M 6 3))) (k := 3) (kI := 3) (pc' := 5) dX5_pop_2 rfl cl5 (by decide) rfl (by decide) flX5_22 rfl rfl (by decide) rfl rfl ?_
  refine T_iconst (pc' := 6) dX5_pop_5 (by decide) rfl ?_
  refine T_isub (pc' := 7) dX5_pop_6 rfl ?_
  refine U_pf (y := (wr32 ((M 6 3) - 1))) (k := 3) (kI := 3) (pc' := 10) dX5_pop_7 rfl cl5 (by decide) rfl (by decide) flX5_22 rfl rfl rfl rfl rfl (by decide) (fun z => z) rfl ?_
  refine T_aload_n (i := 0) (pc' := 11) dX5_pop_10 rfl rfl rfl ?_
  refine U_gr (q := 8) (k := 1) (kI := 1) (pc' := 14) dX5_pop_11 rfl cl5 (by decide) rfl (by decide) flX5_15 rfl rfl rfl (G_at (G_fld (x := 6) (i := 3) (y := (wr32 ((M 6 3) - 1))) rfl (by decide) (by decide) (by decide) hG) 15 rfl) (by decide) rfl ?_
  refine T_aload_n (i := 0) (pc' := 15) dX5_pop_14 rfl rfl rfl ?_
  refine U_gf (v := (0, ((mset M 6 3 (wr32 ((M 6 3) - 1))) 6 3))) (k := 3) (kI := 3) (pc' := 18) dX5_pop_15 rfl cl5 (by decide) rfl (by decide) flX5_22 rfl rfl (by decide) rfl rfl ?_
  refine T_callSN (av := [(2, 8), (0, ((mset M 6 3 (wr32 ((M 6 3) - 1))) 6 3))]) (st := []) (d2 := 1) (nc2 := 0) (ns2 := 0) (pc' := 21) dX5_pop_18 rfl mtX11_get mvX11_get mlX5_29 rfl rfl (Nat.le_of_ble_eq_true rfl) (by decide) ⟨by decide, by decide⟩ rfl (pX11_get (E := E) (h := h) (M := (mset M 6 3 (wr32 ((M 6 3) - 1)))) (p0 := 8) (np0 := 64) (v1 := ((mset M 6 3 (wr32 ((M 6 3) - 1))) 6 3)) (by decide) rfl (by decide) (G_fld (x := 6) (i := 3) (y := (wr32 ((M 6 3) - 1))) rfl (by decide) (by decide) (by decide) hG)) (kF (st2 := [(0, (fX11_get (mset M 6 3 (wr32 ((M 6 3) - 1))) 8 64 ((mset M 6 3 (wr32 ((M 6 3) - 1))) 6 3)))]) rfl (fun hG1 => ?_))
  exact T_iret dX5_pop_21 rfl ⟨rfl, (G_fld (x := 6) (i := 3) (y := (wr32 ((M 6 3) - 1))) rfl (by decide) (by decide) (by decide) hG), (by rw [hQ]; exact ⟨rfl, rfl⟩)⟩
theorem frX5_pop {M : Mem}  {q : Int} (hq0 : q ≠ 6) : (fmX5_pop M) q = M q := by
  unfold fmX5_pop
  repeat' (first | rfl | rw [mset_p hq0] | rw [mcpy_p hq0] | rw [ite_ap] | split)
def fX5_ofOne (M : Mem) (v1 : Int) (v2 : Int) (v3 : Int) : Int :=
  (if v2 = 19 then (if v3 = 0 then (1 : Int) else 0) else (if v2 = 7 then (fX3_doingOf M v3 v1) else (if (fX3_cellOf M v3 v1) = (-1) then (99 : Int) else (fX3_cellOf M v3 v1))))
set_option maxRecDepth 100000 in
theorem pX5_ofOne {E : EV} {h : Int} {M : Mem} {v1 : Int} {v2 : Int} {v3 : Int}  : C2 E miX5_ofOne 3 h [(2, 16), (0, v1), (0, v2), (0, v3)] M (fun r M' => r = some (0, (fX5_ofOne M v1 v2 v3)) ∧ M' = M) := by
  obtain ⟨Q, hQ⟩ : ∃ Q : Option MV → Mem → Prop, Q = (fun r M' => r = some (0, (fX5_ofOne M v1 v2 v3)) ∧ M' = M) := ⟨_, rfl⟩
  rw [← hQ]
  refine C2_of (L := [(2, 16), (0, v1), (0, v2), (0, v3), (3, 0)]) (by decide +kernel) (Nat.le_of_ble_eq_true rfl) rfl (fun hG => ?_)
  refine T_iload_n (i := 2) (pc' := 1) dX5_ofOne_0 rfl rfl rfl ?_
  refine T_bipush (pc' := 3) dX5_ofOne_1 rfl (by decide) rfl ?_
  refine T_icmp_ne (pc' := 16) dX5_ofOne_3 (by decide) (pf := 6) rfl (fun c1 => ?_) (fun c1 => ?_)
  · skip
    refine T_iload_n (i := 2) (pc' := 17) dX5_ofOne_16 rfl rfl rfl ?_
    refine T_bipush (pc' := 19) dX5_ofOne_17 rfl (by decide) rfl ?_
    refine T_icmp_ne (pc' := 29) dX5_ofOne_19 (by decide) (pf := 22) rfl (fun c2 => ?_) (fun c2 => ?_)
    · skip
      refine T_aload_n (i := 0) (pc' := 30) dX5_ofOne_29 rfl rfl rfl ?_
      refine T_iload_n (i := 3) (pc' := 31) dX5_ofOne_30 rfl rfl rfl ?_
      refine T_iload_n (i := 1) (pc' := 32) dX5_ofOne_31 rfl rfl rfl ?_
      refine T_callV (av := [(0, v3), (0, v1)]) (st := []) (d2 := 2) (nc2 := 0) (ns2 := 0) (pc' := 35) dX5_ofOne_32 rfl mtX3_cellOf mvX3_cellOf mlX5_65 cl3 rfl rfl rfl (Nat.le_of_ble_eq_true rfl) (by decide) ⟨by decide, by decide⟩ rfl (pX3_cellOf (E := E) (h := h) (M := M) (v1 := v3) (v2 := v1) hG) (kF (st2 := [(0, (fX3_cellOf M v3 v1))]) rfl (fun hG3 => ?_))
      refine T_istore (i := 4) (L' := [(2, 16), (0, v1), (0, v2), (0, v3), (0, (fX3_cellOf M v3 v1))]) (pc' := 37) dX5_ofOne_35 (by decide) rfl rfl ?_
      refine T_iload (i := 4) (pc' := 39) dX5_ofOne_37 rfl rfl ?_
      refine T_iconst (pc' := 40) dX5_ofOne_39 (by decide) rfl ?_
      have HJ4 : T E miX5_ofOne 3 126 0 0 (fun r S M' => S = S0 ∧ G h M' ∧ Q r M') 50 [(3, 0), (3, 0), (3, 0), (3, 0), (3, 0)] [(0, (if (fX3_cellOf M v3 v1) = (-1) then (99 : Int) else (fX3_cellOf M v3 v1)))] S0 M 0 0 := by
        exact T_iret dX5_ofOne_50 rfl ⟨rfl, hG, (by rw [hQ]; exact ⟨(by unfold fX5_ofOne; simp only [if_neg c1, if_neg c2]), rfl⟩)⟩
      refine T_icmp_ne (pc' := 48) dX5_ofOne_40 (by decide) (pf := 43) rfl (fun c5 => ?_) (fun c5 => ?_)
      · skip
        refine T_iload (i := 4) (pc' := 50) dX5_ofOne_48 rfl rfl ?_
        exact T_wk (L' := [(3, 0), (3, 0), (3, 0), (3, 0), (3, 0)]) (by have q := HJ4; try simp only [if_neg c5] at q; exact q) ⟨Or.inl rfl, Or.inl rfl, Or.inl rfl, Or.inl rfl, Or.inl rfl, trivial⟩
      · skip
        refine T_bipush (pc' := 45) dX5_ofOne_43 rfl (by decide) rfl ?_
        refine T_goto (pc' := 50) dX5_ofOne_45 (by decide) ?_
        exact T_wk (L' := [(3, 0), (3, 0), (3, 0), (3, 0), (3, 0)]) (by have q := HJ4; try simp only [if_pos c5] at q; exact q) ⟨Or.inl rfl, Or.inl rfl, Or.inl rfl, Or.inl rfl, Or.inl rfl, trivial⟩
    · skip
      refine T_aload_n (i := 0) (pc' := 23) dX5_ofOne_22 rfl rfl rfl ?_
      refine T_iload_n (i := 3) (pc' := 24) dX5_ofOne_23 rfl rfl rfl ?_
      refine T_iload_n (i := 1) (pc' := 25) dX5_ofOne_24 rfl rfl rfl ?_
      refine T_callV (av := [(0, v3), (0, v1)]) (st := []) (d2 := 2) (nc2 := 0) (ns2 := 0) (pc' := 28) dX5_ofOne_25 rfl mtX3_doingOf mvX3_doingOf mlX5_62 cl3 rfl rfl rfl (Nat.le_of_ble_eq_true rfl) (by decide) ⟨by decide, by decide⟩ rfl (pX3_doingOf (E := E) (h := h) (M := M) (v1 := v3) (v2 := v1) hG) (kF (st2 := [(0, (fX3_doingOf M v3 v1))]) rfl (fun hG6 => ?_))
      exact T_iret dX5_ofOne_28 rfl ⟨rfl, hG, (by rw [hQ]; exact ⟨(by unfold fX5_ofOne; simp only [if_neg c1, if_pos c2]), rfl⟩)⟩
  · skip
    refine T_iload_n (i := 3) (pc' := 7) dX5_ofOne_6 rfl rfl rfl ?_
    have HJ7 : T E miX5_ofOne 3 126 0 0 (fun r S M' => S = S0 ∧ G h M' ∧ Q r M') 15 [(3, 0), (3, 0), (3, 0), (3, 0), (3, 0)] [(0, (if v3 = 0 then (1 : Int) else 0))] S0 M 0 0 := by
      exact T_iret dX5_ofOne_15 rfl ⟨rfl, hG, (by rw [hQ]; exact ⟨(by unfold fX5_ofOne; simp only [if_pos c1]), rfl⟩)⟩
    refine T_if_ne (pc' := 14) dX5_ofOne_7 (by decide) (pf := 10) rfl (fun c8 => ?_) (fun c8 => ?_)
    · skip
      refine T_iconst (pc' := 15) dX5_ofOne_14 (by decide) rfl ?_
      exact T_wk (L' := [(3, 0), (3, 0), (3, 0), (3, 0), (3, 0)]) (by have q := HJ7; try simp only [if_neg c8] at q; exact q) ⟨Or.inl rfl, Or.inl rfl, Or.inl rfl, Or.inl rfl, Or.inl rfl, trivial⟩
    · skip
      refine T_iconst (pc' := 11) dX5_ofOne_10 (by decide) rfl ?_
      refine T_goto (pc' := 15) dX5_ofOne_11 (by decide) ?_
      exact T_wk (L' := [(3, 0), (3, 0), (3, 0), (3, 0), (3, 0)]) (by have q := HJ7; try simp only [if_pos c8] at q; exact q) ⟨Or.inl rfl, Or.inl rfl, Or.inl rfl, Or.inl rfl, Or.inl rfl, trivial⟩
def fX5_held (v0 : Int) : Int :=
  (wr32 (if (if v0 < 1000000 then v0 else 1000000) < (-1000000) then (-1000000) else (if v0 < 1000000 then v0 else 1000000)))
set_option maxRecDepth 100000 in
theorem pX5_held {E : EV} {h : Int} {M : Mem} {v0 : Int}  : C2 E miX5_held 2 h [(1, v0)] M (fun r M' => r = some (0, (fX5_held v0)) ∧ M' = M) := by
  obtain ⟨Q, hQ⟩ : ∃ Q : Option MV → Mem → Prop, Q = (fun r M' => r = some (0, (fX5_held v0)) ∧ M' = M) := ⟨_, rfl⟩
  rw [← hQ]
  refine C2_of (L := [(1, v0), (3, 0)]) (by decide +kernel) (Nat.le_of_ble_eq_true rfl) rfl (fun hG => ?_)
  refine T_ldc2 (n := (-1000000)) (pc' := 3) dX5_held_0 rfl kjX5_83 rfl (by decide) rfl ?_
  refine T_ldc2 (n := 1000000) (pc' := 6) dX5_held_3 rfl kjX5_85 rfl (by decide) rfl ?_
  refine T_lload_n (i := 0) (pc' := 7) dX5_held_6 rfl rfl rfl ?_
  refine U_mminL (pc' := 10) dX5_held_7 rfl mlX5_87 (Nat.le_of_ble_eq_true rfl) (by decide) ⟨by decide, by decide⟩ rfl ?_
  refine U_mmaxL (pc' := 13) dX5_held_10 rfl mlX5_90 (Nat.le_of_ble_eq_true rfl) (by decide) ⟨by decide, by decide⟩ rfl ?_
  refine T_l2i (pc' := 14) dX5_held_13 rfl ?_
  exact T_iret dX5_held_14 rfl ⟨rfl, hG, (by rw [hQ]; exact ⟨rfl, rfl⟩)⟩
def fX5_ofTwo (v0 : Int) (v1 : Int) (v2 : Int) : Int :=
  (if v0 = 8 then (if v2 < v1 then v2 else v1) else (if v0 = 9 then (if v1 < v2 then v2 else v1) else (if v0 = 10 then (fX5_held (wr64 (v1 + v2))) else (if v0 = 11 then (fX5_held (wr64 (v1 - v2))) else (if v0 = 12 then (fX5_held (wr64 (v1 * v2))) else (if v0 = 13 then (if v2 = 0 then (0 : Int) else (fdv v1 v2)) else (if v0 = 14 then (if v2 ≤ v1 then (0 : Int) else 1) else (if v0 = 15 then (if v1 ≤ v2 then (0 : Int) else 1) else (if v0 = 16 then (if v1 = v2 then (1 : Int) else 0) else (if v0 = 17 then (m_and v1 v2) else (m_or v1 v2)))))))))))
set_option maxRecDepth 100000 in
theorem pX5_ofTwo {E : EV} {h : Int} {M : Mem} {v0 : Int} {v1 : Int} {v2 : Int}  : C2 E miX5_ofTwo 3 h [(0, v0), (0, v1), (0, v2)] M (fun r M' => r = some (0, (fX5_ofTwo v0 v1 v2)) ∧ M' = M) := by
  obtain ⟨Q, hQ⟩ : ∃ Q : Option MV → Mem → Prop, Q = (fun r M' => r = some (0, (fX5_ofTwo v0 v1 v2)) ∧ M' = M) := ⟨_, rfl⟩
  rw [← hQ]
  refine C2_of (L := [(0, v0), (0, v1), (0, v2)]) (by decide +kernel) (Nat.le_of_ble_eq_true rfl) rfl (fun hG => ?_)
  refine T_iload_n (i := 0) (pc' := 1) dX5_ofTwo_0 rfl rfl rfl ?_
  by_cases c1 : v0 = 8
  · skip
    refine T_tableIn (pc' := 56) dX5_ofTwo_1 (by omega) (by omega) (by rw [c1]; rfl) (by decide) ?_
    refine T_iload_n (i := 1) (pc' := 57) dX5_ofTwo_56 rfl rfl rfl ?_
    refine T_iload_n (i := 2) (pc' := 58) dX5_ofTwo_57 rfl rfl rfl ?_
    refine U_mmin (pc' := 61) dX5_ofTwo_58 rfl mlX5_68 (Nat.le_of_ble_eq_true rfl) (by decide) ⟨by decide, by decide⟩ rfl ?_
    exact T_iret dX5_ofTwo_61 rfl ⟨rfl, hG, (by rw [hQ]; exact ⟨(by unfold fX5_ofTwo; simp only [if_pos c1]), rfl⟩)⟩
  · skip
    by_cases c2 : v0 = 9
    · skip
      refine T_tableIn (pc' := 62) dX5_ofTwo_1 (by omega) (by omega) (by rw [c2]; rfl) (by decide) ?_
      refine T_iload_n (i := 1) (pc' := 63) dX5_ofTwo_62 rfl rfl rfl ?_
      refine T_iload_n (i := 2) (pc' := 64) dX5_ofTwo_63 rfl rfl rfl ?_
      refine U_mmax (pc' := 67) dX5_ofTwo_64 rfl mlX5_73 (Nat.le_of_ble_eq_true rfl) (by decide) ⟨by decide, by decide⟩ rfl ?_
      exact T_iret dX5_ofTwo_67 rfl ⟨rfl, hG, (by rw [hQ]; exact ⟨(by unfold fX5_ofTwo; simp only [if_neg c1, if_pos c2]), rfl⟩)⟩
    · skip
      by_cases c3 : v0 = 10
      · skip
        refine T_tableIn (pc' := 68) dX5_ofTwo_1 (by omega) (by omega) (by rw [c3]; rfl) (by decide) ?_
        refine T_iload_n (i := 1) (pc' := 69) dX5_ofTwo_68 rfl rfl rfl ?_
        refine T_i2l (pc' := 70) dX5_ofTwo_69 rfl ?_
        refine T_iload_n (i := 2) (pc' := 71) dX5_ofTwo_70 rfl rfl rfl ?_
        refine T_i2l (pc' := 72) dX5_ofTwo_71 rfl ?_
        refine T_ladd (pc' := 73) dX5_ofTwo_72 rfl ?_
        refine T_callS (av := [(1, (wr64 (v1 + v2)))]) (st := []) (d2 := 2) (nc2 := 0) (ns2 := 0) (pc' := 76) dX5_ofTwo_73 rfl mtX5_held mvX5_held mlX5_76 rfl rfl (Nat.le_of_ble_eq_true rfl) (by decide) ⟨by decide, by decide⟩ rfl (pX5_held (E := E) (h := h) (M := M) (v0 := (wr64 (v1 + v2))) hG) (kF (st2 := [(0, (fX5_held (wr64 (v1 + v2))))]) rfl (fun hG4 => ?_))
        exact T_iret dX5_ofTwo_76 rfl ⟨rfl, hG, (by rw [hQ]; exact ⟨(by unfold fX5_ofTwo; simp only [if_neg c1, if_neg c2, if_pos c3]), rfl⟩)⟩
      · skip
        by_cases c5 : v0 = 11
        · skip
          refine T_tableIn (pc' := 77) dX5_ofTwo_1 (by omega) (by omega) (by rw [c5]; rfl) (by decide) ?_
          refine T_iload_n (i := 1) (pc' := 78) dX5_ofTwo_77 rfl rfl rfl ?_
          refine T_i2l (pc' := 79) dX5_ofTwo_78 rfl ?_
          refine T_iload_n (i := 2) (pc' := 80) dX5_ofTwo_79 rfl rfl rfl ?_
          refine T_i2l (pc' := 81) dX5_ofTwo_80 rfl ?_
          refine T_lsub (pc' := 82) dX5_ofTwo_81 rfl ?_
          refine T_callS (av := [(1, (wr64 (v1 - v2)))]) (st := []) (d2 := 2) (nc2 := 0) (ns2 := 0) (pc' := 85) dX5_ofTwo_82 rfl mtX5_held mvX5_held mlX5_76 rfl rfl (Nat.le_of_ble_eq_true rfl) (by decide) ⟨by decide, by decide⟩ rfl (pX5_held (E := E) (h := h) (M := M) (v0 := (wr64 (v1 - v2))) hG) (kF (st2 := [(0, (fX5_held (wr64 (v1 - v2))))]) rfl (fun hG6 => ?_))
          exact T_iret dX5_ofTwo_85 rfl ⟨rfl, hG, (by rw [hQ]; exact ⟨(by unfold fX5_ofTwo; simp only [if_neg c1, if_neg c2, if_neg c3, if_pos c5]), rfl⟩)⟩
        · skip
          by_cases c7 : v0 = 12
          · skip
            refine T_tableIn (pc' := 86) dX5_ofTwo_1 (by omega) (by omega) (by rw [c7]; rfl) (by decide) ?_
            refine T_iload_n (i := 1) (pc' := 87) dX5_ofTwo_86 rfl rfl rfl ?_
            refine T_i2l (pc' := 88) dX5_ofTwo_87 rfl ?_
            refine T_iload_n (i := 2) (pc' := 89) dX5_ofTwo_88 rfl rfl rfl ?_
            refine T_i2l (pc' := 90) dX5_ofTwo_89 rfl ?_
            refine T_lmul (pc' := 91) dX5_ofTwo_90 rfl ?_
            refine T_callS (av := [(1, (wr64 (v1 * v2)))]) (st := []) (d2 := 2) (nc2 := 0) (ns2 := 0) (pc' := 94) dX5_ofTwo_91 rfl mtX5_held mvX5_held mlX5_76 rfl rfl (Nat.le_of_ble_eq_true rfl) (by decide) ⟨by decide, by decide⟩ rfl (pX5_held (E := E) (h := h) (M := M) (v0 := (wr64 (v1 * v2))) hG) (kF (st2 := [(0, (fX5_held (wr64 (v1 * v2))))]) rfl (fun hG8 => ?_))
            exact T_iret dX5_ofTwo_94 rfl ⟨rfl, hG, (by rw [hQ]; exact ⟨(by unfold fX5_ofTwo; simp only [if_neg c1, if_neg c2, if_neg c3, if_neg c5, if_pos c7]), rfl⟩)⟩
          · skip
            by_cases c9 : v0 = 13
            · skip
              refine T_tableIn (pc' := 95) dX5_ofTwo_1 (by omega) (by omega) (by rw [c9]; rfl) (by decide) ?_
              refine T_iload_n (i := 2) (pc' := 96) dX5_ofTwo_95 rfl rfl rfl ?_
              have HJ10 : T E miX5_ofTwo 3 126 0 0 (fun r S M' => S = S0 ∧ G h M' ∧ Q r M') 108 [(3, 0), (3, 0), (3, 0)] [(0, (if v2 = 0 then (0 : Int) else (fdv v1 v2)))] S0 M 0 0 := by
                exact T_iret dX5_ofTwo_108 rfl ⟨rfl, hG, (by rw [hQ]; exact ⟨(by unfold fX5_ofTwo; simp only [if_neg c1, if_neg c2, if_neg c3, if_neg c5, if_neg c7, if_pos c9]), rfl⟩)⟩
              refine T_if_ne (pc' := 103) dX5_ofTwo_96 (by decide) (pf := 99) rfl (fun c11 => ?_) (fun c11 => ?_)
              · skip
                refine T_iload_n (i := 1) (pc' := 104) dX5_ofTwo_103 rfl rfl rfl ?_
                refine T_iload_n (i := 2) (pc' := 105) dX5_ofTwo_104 rfl rfl rfl ?_
                refine U_fdiv (pc' := 108) dX5_ofTwo_105 rfl mlX5_80 (by omega) (Nat.le_of_ble_eq_true rfl) (by decide) ⟨by decide, by decide⟩ rfl ?_
                exact T_wk (L' := [(3, 0), (3, 0), (3, 0)]) (by have q := HJ10; try simp only [if_neg c11] at q; exact q) ⟨Or.inl rfl, Or.inl rfl, Or.inl rfl, trivial⟩
              · skip
                refine T_iconst (pc' := 100) dX5_ofTwo_99 (by decide) rfl ?_
                refine T_goto (pc' := 108) dX5_ofTwo_100 (by decide) ?_
                exact T_wk (L' := [(3, 0), (3, 0), (3, 0)]) (by have q := HJ10; try simp only [if_pos c11] at q; exact q) ⟨Or.inl rfl, Or.inl rfl, Or.inl rfl, trivial⟩
            · skip
              by_cases c12 : v0 = 14
              · skip
                refine T_tableIn (pc' := 109) dX5_ofTwo_1 (by omega) (by omega) (by rw [c12]; rfl) (by decide) ?_
                refine T_iload_n (i := 1) (pc' := 110) dX5_ofTwo_109 rfl rfl rfl ?_
                refine T_iload_n (i := 2) (pc' := 111) dX5_ofTwo_110 rfl rfl rfl ?_
                have HJ13 : T E miX5_ofTwo 3 126 0 0 (fun r S M' => S = S0 ∧ G h M' ∧ Q r M') 119 [(3, 0), (3, 0), (3, 0)] [(0, (if v2 ≤ v1 then (0 : Int) else 1))] S0 M 0 0 := by
                  exact T_iret dX5_ofTwo_119 rfl ⟨rfl, hG, (by rw [hQ]; exact ⟨(by unfold fX5_ofTwo; simp only [if_neg c1, if_neg c2, if_neg c3, if_neg c5, if_neg c7, if_neg c9, if_pos c12]), rfl⟩)⟩
                refine T_icmp_ge (pc' := 118) dX5_ofTwo_111 (by decide) (pf := 114) rfl (fun c14 => ?_) (fun c14 => ?_)
                · skip
                  refine T_iconst (pc' := 119) dX5_ofTwo_118 (by decide) rfl ?_
                  exact T_wk (L' := [(3, 0), (3, 0), (3, 0)]) (by have q := HJ13; try simp only [if_pos c14] at q; exact q) ⟨Or.inl rfl, Or.inl rfl, Or.inl rfl, trivial⟩
                · skip
                  refine T_iconst (pc' := 115) dX5_ofTwo_114 (by decide) rfl ?_
                  refine T_goto (pc' := 119) dX5_ofTwo_115 (by decide) ?_
                  exact T_wk (L' := [(3, 0), (3, 0), (3, 0)]) (by have q := HJ13; try simp only [if_neg c14] at q; exact q) ⟨Or.inl rfl, Or.inl rfl, Or.inl rfl, trivial⟩
              · skip
                by_cases c15 : v0 = 15
                · skip
                  refine T_tableIn (pc' := 120) dX5_ofTwo_1 (by omega) (by omega) (by rw [c15]; rfl) (by decide) ?_
                  refine T_iload_n (i := 1) (pc' := 121) dX5_ofTwo_120 rfl rfl rfl ?_
                  refine T_iload_n (i := 2) (pc' := 122) dX5_ofTwo_121 rfl rfl rfl ?_
                  have HJ16 : T E miX5_ofTwo 3 126 0 0 (fun r S M' => S = S0 ∧ G h M' ∧ Q r M') 130 [(3, 0), (3, 0), (3, 0)] [(0, (if v1 ≤ v2 then (0 : Int) else 1))] S0 M 0 0 := by
                    exact T_iret dX5_ofTwo_130 rfl ⟨rfl, hG, (by rw [hQ]; exact ⟨(by unfold fX5_ofTwo; simp only [if_neg c1, if_neg c2, if_neg c3, if_neg c5, if_neg c7, if_neg c9, if_neg c12, if_pos c15]), rfl⟩)⟩
                  refine T_icmp_le (pc' := 129) dX5_ofTwo_122 (by decide) (pf := 125) rfl (fun c17 => ?_) (fun c17 => ?_)
                  · skip
                    refine T_iconst (pc' := 130) dX5_ofTwo_129 (by decide) rfl ?_
                    exact T_wk (L' := [(3, 0), (3, 0), (3, 0)]) (by have q := HJ16; try simp only [if_pos c17] at q; exact q) ⟨Or.inl rfl, Or.inl rfl, Or.inl rfl, trivial⟩
                  · skip
                    refine T_iconst (pc' := 126) dX5_ofTwo_125 (by decide) rfl ?_
                    refine T_goto (pc' := 130) dX5_ofTwo_126 (by decide) ?_
                    exact T_wk (L' := [(3, 0), (3, 0), (3, 0)]) (by have q := HJ16; try simp only [if_neg c17] at q; exact q) ⟨Or.inl rfl, Or.inl rfl, Or.inl rfl, trivial⟩
                · skip
                  by_cases c18 : v0 = 16
                  · skip
                    refine T_tableIn (pc' := 131) dX5_ofTwo_1 (by omega) (by omega) (by rw [c18]; rfl) (by decide) ?_
                    refine T_iload_n (i := 1) (pc' := 132) dX5_ofTwo_131 rfl rfl rfl ?_
                    refine T_iload_n (i := 2) (pc' := 133) dX5_ofTwo_132 rfl rfl rfl ?_
                    have HJ19 : T E miX5_ofTwo 3 126 0 0 (fun r S M' => S = S0 ∧ G h M' ∧ Q r M') 141 [(3, 0), (3, 0), (3, 0)] [(0, (if v1 = v2 then (1 : Int) else 0))] S0 M 0 0 := by
                      exact T_iret dX5_ofTwo_141 rfl ⟨rfl, hG, (by rw [hQ]; exact ⟨(by unfold fX5_ofTwo; simp only [if_neg c1, if_neg c2, if_neg c3, if_neg c5, if_neg c7, if_neg c9, if_neg c12, if_neg c15, if_pos c18]), rfl⟩)⟩
                    refine T_icmp_ne (pc' := 140) dX5_ofTwo_133 (by decide) (pf := 136) rfl (fun c20 => ?_) (fun c20 => ?_)
                    · skip
                      refine T_iconst (pc' := 141) dX5_ofTwo_140 (by decide) rfl ?_
                      exact T_wk (L' := [(3, 0), (3, 0), (3, 0)]) (by have q := HJ19; try simp only [if_neg c20] at q; exact q) ⟨Or.inl rfl, Or.inl rfl, Or.inl rfl, trivial⟩
                    · skip
                      refine T_iconst (pc' := 137) dX5_ofTwo_136 (by decide) rfl ?_
                      refine T_goto (pc' := 141) dX5_ofTwo_137 (by decide) ?_
                      exact T_wk (L' := [(3, 0), (3, 0), (3, 0)]) (by have q := HJ19; try simp only [if_pos c20] at q; exact q) ⟨Or.inl rfl, Or.inl rfl, Or.inl rfl, trivial⟩
                  · skip
                    by_cases c21 : v0 = 17
                    · skip
                      refine T_tableIn (pc' := 142) dX5_ofTwo_1 (by omega) (by omega) (by rw [c21]; rfl) (by decide) ?_
                      refine T_iload_n (i := 1) (pc' := 143) dX5_ofTwo_142 rfl rfl rfl ?_
                      refine T_iload_n (i := 2) (pc' := 144) dX5_ofTwo_143 rfl rfl rfl ?_
                      refine T_iand (pc' := 145) dX5_ofTwo_144 rfl ?_
                      exact T_iret dX5_ofTwo_145 rfl ⟨rfl, hG, (by rw [hQ]; exact ⟨(by unfold fX5_ofTwo; simp only [if_neg c1, if_neg c2, if_neg c3, if_neg c5, if_neg c7, if_neg c9, if_neg c12, if_neg c15, if_neg c18, if_pos c21]), rfl⟩)⟩
                    · skip
                      refine T_tableOut (pc' := 146) dX5_ofTwo_1 (by omega) (by decide) ?_
                      refine T_iload_n (i := 1) (pc' := 147) dX5_ofTwo_146 rfl rfl rfl ?_
                      refine T_iload_n (i := 2) (pc' := 148) dX5_ofTwo_147 rfl rfl rfl ?_
                      refine T_ior (pc' := 149) dX5_ofTwo_148 rfl ?_
                      exact T_iret dX5_ofTwo_149 rfl ⟨rfl, hG, (by rw [hQ]; exact ⟨(by unfold fX5_ofTwo; simp only [if_neg c1, if_neg c2, if_neg c3, if_neg c5, if_neg c7, if_neg c9, if_neg c12, if_neg c15, if_neg c18, if_neg c21]), rfl⟩)⟩
def fX5_plain (M : Mem) (v1 : Int) (v2 : Int) : Int :=
  (if v2 = 0 then v1 else (if v2 = 1 then (fX3_howMany M v1 0) else (if v2 = 2 then (fX3_howMany M v1 1) else (if v2 = 3 then (fX3_howMany M v1 2) else (if v2 = 4 then (fX3_howMany M v1 3) else (if (M 16 10) = (-1) then (0 : Int) else (if v1 < (M 16 10) then (0 : Int) else 1)))))))
set_option maxRecDepth 100000 in
theorem pX5_plain {E : EV} {h : Int} {M : Mem} {v1 : Int} {v2 : Int}  : C2 E miX5_plain 3 h [(2, 16), (0, v1), (0, v2)] M (fun r M' => r = some (0, (fX5_plain M v1 v2)) ∧ M' = M) := by
  obtain ⟨Q, hQ⟩ : ∃ Q : Option MV → Mem → Prop, Q = (fun r M' => r = some (0, (fX5_plain M v1 v2)) ∧ M' = M) := ⟨_, rfl⟩
  rw [← hQ]
  refine C2_of (L := [(2, 16), (0, v1), (0, v2)]) (by decide +kernel) (Nat.le_of_ble_eq_true rfl) rfl (fun hG => ?_)
  refine T_iload_n (i := 2) (pc' := 1) dX5_plain_0 rfl rfl rfl ?_
  by_cases c1 : v2 = 0
  · skip
    refine T_tableIn (pc' := 36) dX5_plain_1 (by omega) (by omega) (by rw [c1]; rfl) (by decide) ?_
    refine T_iload_n (i := 1) (pc' := 37) dX5_plain_36 rfl rfl rfl ?_
    exact T_iret dX5_plain_37 rfl ⟨rfl, hG, (by rw [hQ]; exact ⟨(by unfold fX5_plain; simp only [if_pos c1]), rfl⟩)⟩
  · skip
    by_cases c2 : v2 = 1
    · skip
      refine T_tableIn (pc' := 38) dX5_plain_1 (by omega) (by omega) (by rw [c2]; rfl) (by decide) ?_
      refine T_aload_n (i := 0) (pc' := 39) dX5_plain_38 rfl rfl rfl ?_
      refine T_iload_n (i := 1) (pc' := 40) dX5_plain_39 rfl rfl rfl ?_
      refine T_iconst (pc' := 41) dX5_plain_40 (by decide) rfl ?_
      refine T_callV (av := [(0, v1), (0, 0)]) (st := []) (d2 := 2) (nc2 := 0) (ns2 := 0) (pc' := 44) dX5_plain_41 rfl mtX3_howMany mvX3_howMany mlX5_55 cl3 rfl rfl rfl (Nat.le_of_ble_eq_true rfl) (by decide) ⟨by decide, by decide⟩ rfl (pX3_howMany (E := E) (h := h) (M := M) (v1 := v1) (v2 := 0) hG) (kF (st2 := [(0, (fX3_howMany M v1 0))]) rfl (fun hG3 => ?_))
      exact T_iret dX5_plain_44 rfl ⟨rfl, hG, (by rw [hQ]; exact ⟨(by unfold fX5_plain; simp only [if_neg c1, if_pos c2]), rfl⟩)⟩
    · skip
      by_cases c4 : v2 = 2
      · skip
        refine T_tableIn (pc' := 45) dX5_plain_1 (by omega) (by omega) (by rw [c4]; rfl) (by decide) ?_
        refine T_aload_n (i := 0) (pc' := 46) dX5_plain_45 rfl rfl rfl ?_
        refine T_iload_n (i := 1) (pc' := 47) dX5_plain_46 rfl rfl rfl ?_
        refine T_iconst (pc' := 48) dX5_plain_47 (by decide) rfl ?_
        refine T_callV (av := [(0, v1), (0, 1)]) (st := []) (d2 := 2) (nc2 := 0) (ns2 := 0) (pc' := 51) dX5_plain_48 rfl mtX3_howMany mvX3_howMany mlX5_55 cl3 rfl rfl rfl (Nat.le_of_ble_eq_true rfl) (by decide) ⟨by decide, by decide⟩ rfl (pX3_howMany (E := E) (h := h) (M := M) (v1 := v1) (v2 := 1) hG) (kF (st2 := [(0, (fX3_howMany M v1 1))]) rfl (fun hG5 => ?_))
        exact T_iret dX5_plain_51 rfl ⟨rfl, hG, (by rw [hQ]; exact ⟨(by unfold fX5_plain; simp only [if_neg c1, if_neg c2, if_pos c4]), rfl⟩)⟩
      · skip
        by_cases c6 : v2 = 3
        · skip
          refine T_tableIn (pc' := 52) dX5_plain_1 (by omega) (by omega) (by rw [c6]; rfl) (by decide) ?_
          refine T_aload_n (i := 0) (pc' := 53) dX5_plain_52 rfl rfl rfl ?_
          refine T_iload_n (i := 1) (pc' := 54) dX5_plain_53 rfl rfl rfl ?_
          refine T_iconst (pc' := 55) dX5_plain_54 (by decide) rfl ?_
          refine T_callV (av := [(0, v1), (0, 2)]) (st := []) (d2 := 2) (nc2 := 0) (ns2 := 0) (pc' := 58) dX5_plain_55 rfl mtX3_howMany mvX3_howMany mlX5_55 cl3 rfl rfl rfl (Nat.le_of_ble_eq_true rfl) (by decide) ⟨by decide, by decide⟩ rfl (pX3_howMany (E := E) (h := h) (M := M) (v1 := v1) (v2 := 2) hG) (kF (st2 := [(0, (fX3_howMany M v1 2))]) rfl (fun hG7 => ?_))
          exact T_iret dX5_plain_58 rfl ⟨rfl, hG, (by rw [hQ]; exact ⟨(by unfold fX5_plain; simp only [if_neg c1, if_neg c2, if_neg c4, if_pos c6]), rfl⟩)⟩
        · skip
          by_cases c8 : v2 = 4
          · skip
            refine T_tableIn (pc' := 59) dX5_plain_1 (by omega) (by omega) (by rw [c8]; rfl) (by decide) ?_
            refine T_aload_n (i := 0) (pc' := 60) dX5_plain_59 rfl rfl rfl ?_
            refine T_iload_n (i := 1) (pc' := 61) dX5_plain_60 rfl rfl rfl ?_
            refine T_iconst (pc' := 62) dX5_plain_61 (by decide) rfl ?_
            refine T_callV (av := [(0, v1), (0, 3)]) (st := []) (d2 := 2) (nc2 := 0) (ns2 := 0) (pc' := 65) dX5_plain_62 rfl mtX3_howMany mvX3_howMany mlX5_55 cl3 rfl rfl rfl (Nat.le_of_ble_eq_true rfl) (by decide) ⟨by decide, by decide⟩ rfl (pX3_howMany (E := E) (h := h) (M := M) (v1 := v1) (v2 := 3) hG) (kF (st2 := [(0, (fX3_howMany M v1 3))]) rfl (fun hG9 => ?_))
            exact T_iret dX5_plain_65 rfl ⟨rfl, hG, (by rw [hQ]; exact ⟨(by unfold fX5_plain; simp only [if_neg c1, if_neg c2, if_neg c4, if_neg c6, if_pos c8]), rfl⟩)⟩
          · skip
            refine T_tableOut (pc' := 66) dX5_plain_1 (by omega) (by decide) ?_
            refine T_aload_n (i := 0) (pc' := 67) dX5_plain_66 rfl rfl rfl ?_
            refine U_gfN (v := (0, (M 16 10))) (k := 10) (kI := 10) (pc' := 70) dX5_plain_67 rfl cl3 (by decide) rfl (by decide) flX5_59 rfl rfl (by decide) rfl rfl ?_
            refine T_iconst (pc' := 71) dX5_plain_70 (by decide) rfl ?_
            have HJ10 : T E miX5_plain 3 126 0 0 (fun r S M' => S = S0 ∧ G h M' ∧ Q r M') 87 [(3, 0), (3, 0), (3, 0)] [(0, (if (M 16 10) = (-1) then (0 : Int) else (if v1 < (M 16 10) then (0 : Int) else 1)))] S0 M 0 0 := by
              exact T_iret dX5_plain_87 rfl ⟨rfl, hG, (by rw [hQ]; exact ⟨(by unfold fX5_plain; simp only [if_neg c1, if_neg c2, if_neg c4, if_neg c6, if_neg c8]), rfl⟩)⟩
            refine T_icmp_eq (pc' := 86) dX5_plain_71 (by decide) (pf := 74) rfl (fun c11 => ?_) (fun c11 => ?_)
            · skip
              refine T_iconst (pc' := 87) dX5_plain_86 (by decide) rfl ?_
              exact T_wk (L' := [(3, 0), (3, 0), (3, 0)]) (by have q := HJ10; try simp only [if_pos c11] at q; exact q) ⟨Or.inl rfl, Or.inl rfl, Or.inl rfl, trivial⟩
            · skip
              refine T_iload_n (i := 1) (pc' := 75) dX5_plain_74 rfl rfl rfl ?_
              refine T_aload_n (i := 0) (pc' := 76) dX5_plain_75 rfl rfl rfl ?_
              refine U_gfN (v := (0, (M 16 10))) (k := 10) (kI := 10) (pc' := 79) dX5_plain_76 rfl cl3 (by decide) rfl (by decide) flX5_59 rfl rfl (by decide) rfl rfl ?_
              refine T_icmp_lt (pc' := 86) dX5_plain_79 (by decide) (pf := 82) rfl (fun c12 => ?_) (fun c12 => ?_)
              · skip
                refine T_iconst (pc' := 87) dX5_plain_86 (by decide) rfl ?_
                exact T_wk (L' := [(3, 0), (3, 0), (3, 0)]) (by have q := HJ10; try simp only [if_neg c11] at q; try simp only [if_pos c12] at q; exact q) ⟨Or.inl rfl, Or.inl rfl, Or.inl rfl, trivial⟩
              · skip
                refine T_iconst (pc' := 83) dX5_plain_82 (by decide) rfl ?_
                refine T_goto (pc' := 87) dX5_plain_83 (by decide) ?_
                exact T_wk (L' := [(3, 0), (3, 0), (3, 0)]) (by have q := HJ10; try simp only [if_neg c11] at q; try simp only [if_neg c12] at q; exact q) ⟨Or.inl rfl, Or.inl rfl, Or.inl rfl, trivial⟩
def fX6_deeper (v1 : Int) : Int :=
  (if v1 < 6 then (1 : Int) else (if fX9_fail = 0 then (0 : Int) else 1))
def fmX6_deeper (M : Mem) (v1 : Int) : Mem :=
  (if v1 < 6 then M else (fmX9_fail M 4 (M 3 2)))
theorem gX6_deeper {h : Int} {M : Mem} {v1 : Int}  (hG : G h M) : G h (fmX6_deeper M v1) := by
  unfold fmX6_deeper
  exact (G_ite hG (gX9_fail (h := h) (M := M) (v1 := 4) (v2 := (M 3 2)) hG))
set_option maxRecDepth 100000 in
theorem pX6_deeper {E : EV} {h : Int} {M : Mem} {v1 : Int}  : C2 E miX6_deeper 2 h [(2, 5), (0, v1)] M (fun r M' => r = some (0, (fX6_deeper v1)) ∧ M' = (fmX6_deeper M v1)) := by
  obtain ⟨Q, hQ⟩ : ∃ Q : Option MV → Mem → Prop, Q = (fun r M' => r = some (0, (fX6_deeper v1)) ∧ M' = (fmX6_deeper M v1)) := ⟨_, rfl⟩
  rw [← hQ]
  refine C2_of (L := [(2, 5), (0, v1)]) (by decide +kernel) (Nat.le_of_ble_eq_true rfl) rfl (fun hG => ?_)
  refine T_iload_n (i := 1) (pc' := 1) dX6_deeper_0 rfl rfl rfl ?_
  refine T_bipush (pc' := 3) dX6_deeper_1 rfl (by decide) rfl ?_
  have HJ1 : T E miX6_deeper 2 126 0 0 (fun r S M' => S = S0 ∧ G h M' ∧ Q r M') 29 [(3, 0), (3, 0)] [(0, (if v1 < 6 then (1 : Int) else (if fX9_fail = 0 then (0 : Int) else 1)))] S0 (if v1 < 6 then M else (fmX9_fail M 4 (M 3 2))) 0 0 := by
    exact T_zret dX6_deeper_29 rfl (by repeat' (first | apply bi | exact Or.inl rfl | exact Or.inr rfl | apply fbX9_fail)) ⟨rfl, (G_ite hG (gX9_fail (h := h) (M := M) (v1 := 4) (v2 := (M 3 2)) hG)), (by rw [hQ]; exact ⟨rfl, rfl⟩)⟩
  refine T_icmp_lt (pc' := 24) dX6_deeper_3 (by decide) (pf := 6) rfl (fun c2 => ?_) (fun c2 => ?_)
  · skip
    refine T_iconst (pc' := 25) dX6_deeper_24 (by decide) rfl ?_
    refine T_goto (pc' := 29) dX6_deeper_25 (by decide) ?_
    exact T_wk (L' := [(3, 0), (3, 0)]) (by have q := HJ1; try simp only [if_pos c2] at q; exact q) ⟨Or.inl rfl, Or.inl rfl, trivial⟩
  · skip
    refine T_aload_n (i := 0) (pc' := 7) dX6_deeper_6 rfl rfl rfl ?_
    refine U_gr (q := 3) (k := 0) (kI := 0) (pc' := 10) dX6_deeper_7 rfl cl6 (by decide) rfl (by decide) flX6_9 rfl rfl rfl (G_at hG 12 rfl) (by decide) rfl ?_
    refine T_iconst (pc' := 11) dX6_deeper_10 (by decide) rfl ?_
    refine T_aload_n (i := 0) (pc' := 12) dX6_deeper_11 rfl rfl rfl ?_
    refine U_gr (q := 3) (k := 0) (kI := 0) (pc' := 15) dX6_deeper_12 rfl cl6 (by decide) rfl (by decide) flX6_9 rfl rfl rfl (G_at hG 12 rfl) (by decide) rfl ?_
    refine U_gfN (v := (0, (M 3 2))) (k := 2) (kI := 2) (pc' := 18) dX6_deeper_15 rfl cl9 (by decide) rfl (by decide) flX6_57 rfl rfl (by decide) rfl rfl ?_
    refine T_callV (av := [(0, 4), (0, (M 3 2))]) (st := []) (d2 := 1) (nc2 := 0) (ns2 := 0) (pc' := 21) dX6_deeper_18 rfl mtX9_fail mvX9_fail mlX6_60 cl9 rfl rfl rfl (Nat.le_of_ble_eq_true rfl) (by decide) ⟨by decide, by decide⟩ rfl (pX9_fail (E := E) (h := h) (M := M) (v1 := 4) (v2 := (M 3 2)) hG) (kF (st2 := [(0, fX9_fail)]) rfl (fun hG3 => ?_))
    refine T_if_eq (pc' := 28) dX6_deeper_21 (by decide) (pf := 24) rfl (fun c4 => ?_) (fun c4 => ?_)
    · skip
      refine T_iconst (pc' := 29) dX6_deeper_28 (by decide) rfl ?_
      exact T_wk (L' := [(3, 0), (3, 0)]) (by have q := HJ1; try simp only [if_neg c2] at q; try simp only [if_pos c4] at q; exact q) ⟨Or.inl rfl, Or.inl rfl, trivial⟩
    · skip
      refine T_iconst (pc' := 25) dX6_deeper_24 (by decide) rfl ?_
      refine T_goto (pc' := 29) dX6_deeper_25 (by decide) ?_
      exact T_wk (L' := [(3, 0), (3, 0)]) (by have q := HJ1; try simp only [if_neg c2] at q; try simp only [if_neg c4] at q; exact q) ⟨Or.inl rfl, Or.inl rfl, trivial⟩
theorem frX6_deeper {M : Mem} {v1 : Int}  {q : Int} (hq0 : q ≠ 3) : (fmX6_deeper M v1) q = M q := by
  unfold fmX6_deeper
  repeat' (first | rfl | rw [mset_p hq0] | rw [mcpy_p hq0] | (rw [frX9_fail] <;> try assumption) | rw [ite_ap] | split)
theorem fbX6_deeper (v1 : Int) : (fX6_deeper v1) = 0 ∨ (fX6_deeper v1) = 1 := by
  unfold fX6_deeper
  repeat' (first | apply bi | exact Or.inl rfl | exact Or.inr rfl | apply fbX9_fail)
def fX8_hasRoom (M : Mem) (v1 : Int) : Int :=
  (if 1600 < (wr32 ((M 1 1) + v1)) then (0 : Int) else 1)
set_option maxRecDepth 100000 in
theorem pX8_hasRoom {E : EV} {h : Int} {M : Mem} {v1 : Int}  : C2 E miX8_hasRoom 1 h [(2, 1), (0, v1)] M (fun r M' => r = some (0, (fX8_hasRoom M v1)) ∧ M' = M) := by
  obtain ⟨Q, hQ⟩ : ∃ Q : Option MV → Mem → Prop, Q = (fun r M' => r = some (0, (fX8_hasRoom M v1)) ∧ M' = M) := ⟨_, rfl⟩
  rw [← hQ]
  refine C2_of (L := [(2, 1), (0, v1)]) (by decide +kernel) (Nat.le_of_ble_eq_true rfl) rfl (fun hG => ?_)
  refine T_aload_n (i := 0) (pc' := 1) dX8_hasRoom_0 rfl rfl rfl ?_
  refine U_gf (v := (0, (M 1 1))) (k := 1) (kI := 1) (pc' := 4) dX8_hasRoom_1 rfl cl8 (by decide) rfl (by decide) flX8_15 rfl rfl (by decide) rfl rfl ?_
  refine T_iload_n (i := 1) (pc' := 5) dX8_hasRoom_4 rfl rfl rfl ?_
  refine T_iadd (pc' := 6) dX8_hasRoom_5 rfl ?_
  refine T_sipush (pc' := 9) dX8_hasRoom_6 rfl (by decide) rfl ?_
  have HJ1 : T E miX8_hasRoom 1 126 0 0 (fun r S M' => S = S0 ∧ G h M' ∧ Q r M') 17 [(3, 0), (3, 0)] [(0, (if 1600 < (wr32 ((M 1 1) + v1)) then (0 : Int) else 1))] S0 M 0 0 := by
    exact T_zret dX8_hasRoom_17 rfl (by repeat' (first | apply bi | exact Or.inl rfl | exact Or.inr rfl)) ⟨rfl, hG, (by rw [hQ]; exact ⟨rfl, rfl⟩)⟩
  refine T_icmp_gt (pc' := 16) dX8_hasRoom_9 (by decide) (pf := 12) rfl (fun c2 => ?_) (fun c2 => ?_)
  · skip
    refine T_iconst (pc' := 17) dX8_hasRoom_16 (by decide) rfl ?_
    exact T_wk (L' := [(3, 0), (3, 0)]) (by have q := HJ1; try simp only [if_pos c2] at q; exact q) ⟨Or.inl rfl, Or.inl rfl, trivial⟩
  · skip
    refine T_iconst (pc' := 13) dX8_hasRoom_12 (by decide) rfl ?_
    refine T_goto (pc' := 17) dX8_hasRoom_13 (by decide) ?_
    exact T_wk (L' := [(3, 0), (3, 0)]) (by have q := HJ1; try simp only [if_neg c2] at q; exact q) ⟨Or.inl rfl, Or.inl rfl, trivial⟩
theorem fbX8_hasRoom (M : Mem) (v1 : Int) : (fX8_hasRoom M v1) = 0 ∨ (fX8_hasRoom M v1) = 1 := by
  unfold fX8_hasRoom
  repeat' (first | apply bi | exact Or.inl rfl | exact Or.inr rfl)
def fX8_cutTo (M : Mem) (v1 : Int) : Int :=
  (if v1 < 0 then 0 else (if v1 ≤ (M 1 1) then 1 else 0))
def fmX8_cutTo (M : Mem) (v1 : Int) : Mem :=
  (if v1 < 0 then M else (if v1 ≤ (M 1 1) then (mset M 1 1 v1) else M))
theorem gX8_cutTo {h : Int} {M : Mem} {v1 : Int}  (hG : G h M) : G h (fmX8_cutTo M v1) := by
  unfold fmX8_cutTo
  exact (G_ite hG (G_ite (G_fld (x := 1) (i := 1) (y := v1) rfl (by decide) (by decide) (by decide) hG) hG))
set_option maxRecDepth 100000 in
theorem pX8_cutTo {E : EV} {h : Int} {M : Mem} {v1 : Int}  : C2 E miX8_cutTo 1 h [(2, 1), (0, v1)] M (fun r M' => r = some (0, (fX8_cutTo M v1)) ∧ M' = (fmX8_cutTo M v1)) := by
  obtain ⟨Q, hQ⟩ : ∃ Q : Option MV → Mem → Prop, Q = (fun r M' => r = some (0, (fX8_cutTo M v1)) ∧ M' = (fmX8_cutTo M v1)) := ⟨_, rfl⟩
  rw [← hQ]
  refine C2_of (L := [(2, 1), (0, v1)]) (by decide +kernel) (Nat.le_of_ble_eq_true rfl) rfl (fun hG => ?_)
  refine T_iload_n (i := 1) (pc' := 1) dX8_cutTo_0 rfl rfl rfl ?_
  refine T_if_lt (pc' := 12) dX8_cutTo_1 (by decide) (pf := 4) rfl (fun c1 => ?_) (fun c1 => ?_)
  · skip
    refine T_iconst (pc' := 13) dX8_cutTo_12 (by decide) rfl ?_
    exact T_zret dX8_cutTo_13 rfl (by decide) ⟨rfl, hG, (by rw [hQ]; exact ⟨(by unfold fX8_cutTo; simp only [if_pos c1]), (by unfold fmX8_cutTo; simp only [if_pos c1])⟩)⟩
  · skip
    refine T_iload_n (i := 1) (pc' := 5) dX8_cutTo_4 rfl rfl rfl ?_
    refine T_aload_n (i := 0) (pc' := 6) dX8_cutTo_5 rfl rfl rfl ?_
    refine U_gf (v := (0, (M 1 1))) (k := 1) (kI := 1) (pc' := 9) dX8_cutTo_6 rfl cl8 (by decide) rfl (by decide) flX8_15 rfl rfl (by decide) rfl rfl ?_
    refine T_icmp_le (pc' := 14) dX8_cutTo_9 (by decide) (pf := 12) rfl (fun c2 => ?_) (fun c2 => ?_)
    · skip
      refine T_aload_n (i := 0) (pc' := 15) dX8_cutTo_14 rfl rfl rfl ?_
      refine T_iload_n (i := 1) (pc' := 16) dX8_cutTo_15 rfl rfl rfl ?_
      refine U_pf (y := v1) (k := 1) (kI := 1) (pc' := 19) dX8_cutTo_16 rfl cl8 (by decide) rfl (by decide) flX8_15 rfl rfl rfl rfl rfl (by decide) (fun z => z) rfl ?_
      refine T_iconst (pc' := 20) dX8_cutTo_19 (by decide) rfl ?_
      exact T_zret dX8_cutTo_20 rfl (by decide) ⟨rfl, (G_fld (x := 1) (i := 1) (y := v1) rfl (by decide) (by decide) (by decide) hG), (by rw [hQ]; exact ⟨(by unfold fX8_cutTo; simp only [if_neg c1, if_pos c2]), (by unfold fmX8_cutTo; simp only [if_neg c1, if_pos c2])⟩)⟩
    · skip
      refine T_iconst (pc' := 13) dX8_cutTo_12 (by decide) rfl ?_
      exact T_zret dX8_cutTo_13 rfl (by decide) ⟨rfl, hG, (by rw [hQ]; exact ⟨(by unfold fX8_cutTo; simp only [if_neg c1, if_neg c2]), (by unfold fmX8_cutTo; simp only [if_neg c1, if_neg c2])⟩)⟩
theorem frX8_cutTo {M : Mem} {v1 : Int}  {q : Int} (hq0 : q ≠ 1) : (fmX8_cutTo M v1) q = M q := by
  unfold fmX8_cutTo
  repeat' (first | rfl | rw [mset_p hq0] | rw [mcpy_p hq0] | rw [ite_ap] | split)
theorem fbX8_cutTo (M : Mem) (v1 : Int) : (fX8_cutTo M v1) = 0 ∨ (fX8_cutTo M v1) = 1 := by
  unfold fX8_cutTo
  repeat' (first | apply bi | exact Or.inl rfl | exact Or.inr rfl)
def fX11_end (M : Mem) (v1 : Int) : Int :=
  (fX8_cutTo M v1)
def fmX11_end (M : Mem) (v1 : Int) : Mem :=
  (fmX8_cutTo M v1)
theorem gX11_end {h : Int} {M : Mem} {v1 : Int}  (hG : G h M) : G h (fmX11_end M v1) := by
  unfold fmX11_end
  exact (gX8_cutTo (h := h) (M := M) (v1 := v1) hG)
set_option maxRecDepth 100000 in
theorem pX11_end {E : EV} {h : Int} {M : Mem} {v1 : Int}  : C2 E miX11_end 2 h [(2, 0), (0, v1)] M (fun r M' => r = some (0, (fX11_end M v1)) ∧ M' = (fmX11_end M v1)) := by
  obtain ⟨Q, hQ⟩ : ∃ Q : Option MV → Mem → Prop, Q = (fun r M' => r = some (0, (fX11_end M v1)) ∧ M' = (fmX11_end M v1)) := ⟨_, rfl⟩
  rw [← hQ]
  refine C2_of (L := [(2, 0), (0, v1)]) (by decide +kernel) (Nat.le_of_ble_eq_true rfl) rfl (fun hG => ?_)
  refine T_aload_n (i := 0) (pc' := 1) dX11_end_0 rfl rfl rfl ?_
  refine U_gr (q := 1) (k := 0) (kI := 0) (pc' := 4) dX11_end_1 rfl cl11 (by decide) rfl (by decide) flX11_12 rfl rfl rfl (G_at hG 0 rfl) (by decide) rfl ?_
  refine T_iload_n (i := 1) (pc' := 5) dX11_end_4 rfl rfl rfl ?_
  refine T_callV (av := [(0, v1)]) (st := []) (d2 := 1) (nc2 := 0) (ns2 := 0) (pc' := 8) dX11_end_5 rfl mtX8_cutTo mvX8_cutTo mlX11_119 cl8 rfl rfl rfl (Nat.le_of_ble_eq_true rfl) (by decide) ⟨by decide, by decide⟩ rfl (pX8_cutTo (E := E) (h := h) (M := M) (v1 := v1) hG) (kF (st2 := [(0, (fX8_cutTo M v1))]) rfl (fun hG1 => ?_))
  exact T_zret dX11_end_8 rfl (by repeat' (first | apply bi | exact Or.inl rfl | exact Or.inr rfl | apply fbX8_cutTo)) ⟨rfl, (gX8_cutTo (h := h) (M := M) (v1 := v1) hG), (by rw [hQ]; exact ⟨rfl, rfl⟩)⟩
theorem frX11_end {M : Mem} {v1 : Int}  {q : Int} (hq0 : q ≠ 1) : (fmX11_end M v1) q = M q := by
  unfold fmX11_end
  repeat' (first | rfl | rw [mset_p hq0] | rw [mcpy_p hq0] | (rw [frX8_cutTo] <;> try assumption) | rw [ite_ap] | split)
theorem fbX11_end (M : Mem) (v1 : Int) : (fX11_end M v1) = 0 ∨ (fX11_end M v1) = 1 := by
  unfold fX11_end
  repeat' (first | apply bi | exact Or.inl rfl | exact Or.inr rfl | apply fbX8_cutTo)
def fmX11_changed (M : Mem) (v1 : Int) : Mem :=
  (mset (mset M 0 16 (if (M 0 16) = 0 then (if v1 = 0 then (0 : Int) else 1) else 1)) 0 17 1)
theorem gX11_changed {h : Int} {M : Mem} {v1 : Int}  (hG : G h M) : G h (fmX11_changed M v1) := by
  unfold fmX11_changed
  exact (G_fld (x := 0) (i := 17) (y := 1) rfl (by decide) (by decide) (by decide) (G_fld (x := 0) (i := 16) (y := (if (M 0 16) = 0 then (if v1 = 0 then (0 : Int) else 1) else 1)) rfl (by decide) (by decide) (by decide) hG))
set_option maxRecDepth 100000 in
theorem pX11_changed {E : EV} {h : Int} {M : Mem} {v1 : Int}  : C2 E miX11_changed 1 h [(2, 0), (0, v1)] M (fun r M' => r = none ∧ M' = (fmX11_changed M v1)) := by
  obtain ⟨Q, hQ⟩ : ∃ Q : Option MV → Mem → Prop, Q = (fun r M' => r = none ∧ M' = (fmX11_changed M v1)) := ⟨_, rfl⟩
  rw [← hQ]
  refine C2_of (L := [(2, 0), (0, v1)]) (by decide +kernel) (Nat.le_of_ble_eq_true rfl) rfl (fun hG => ?_)
  refine T_aload_n (i := 0) (pc' := 1) dX11_changed_0 rfl rfl rfl ?_
  refine T_aload_n (i := 0) (pc' := 2) dX11_changed_1 rfl rfl rfl ?_
  refine U_gf (v := (0, (M 0 16))) (k := 16) (kI := 16) (pc' := 5) dX11_changed_2 rfl cl11 (by decide) rfl (by decide) flX11_101 rfl rfl (by decide) rfl rfl ?_
  have HJ1 : T E miX11_changed 1 126 0 0 (fun r S M' => S = S0 ∧ G h M' ∧ Q r M') 17 [(2, 0), (3, 0)] [(0, (if (M 0 16) = 0 then (if v1 = 0 then (0 : Int) else 1) else 1)), (2, 0)] S0 M 0 0 := by
    refine U_pf (y := (if (M 0 16) = 0 then (if v1 = 0 then (0 : Int) else 1) else 1)) (k := 16) (kI := 16) (pc' := 20) dX11_changed_17 rfl cl11 (by decide) rfl (by decide) flX11_101 rfl rfl rfl rfl rfl (by decide) (fun _ => bool_ok (by omega)) rfl ?_
    refine T_aload_n (i := 0) (pc' := 21) dX11_changed_20 rfl rfl rfl ?_
    refine T_iconst (pc' := 22) dX11_changed_21 (by decide) rfl ?_
    refine U_pf (y := 1) (k := 17) (kI := 17) (pc' := 25) dX11_changed_22 rfl cl11 (by decide) rfl (by decide) flX11_105 rfl rfl rfl rfl rfl (by decide) (fun _ => bool_ok (by decide)) rfl ?_
    exact T_vret dX11_changed_25 rfl ⟨rfl, (G_fld (x := 0) (i := 17) (y := 1) rfl (by decide) (by decide) (by decide) (G_fld (x := 0) (i := 16) (y := (if (M 0 16) = 0 then (if v1 = 0 then (0 : Int) else 1) else 1)) rfl (by decide) (by decide) (by decide) hG)), (by rw [hQ]; exact ⟨rfl, rfl⟩)⟩
  refine T_if_ne (pc' := 12) dX11_changed_5 (by decide) (pf := 8) rfl (fun c2 => ?_) (fun c2 => ?_)
  · skip
    refine T_iconst (pc' := 13) dX11_changed_12 (by decide) rfl ?_
    refine T_goto (pc' := 17) dX11_changed_13 (by decide) ?_
    exact T_wk (L' := [(2, 0), (3, 0)]) (by have q := HJ1; try simp only [if_neg c2] at q; exact q) ⟨Or.inr rfl, Or.inl rfl, trivial⟩
  · skip
    refine T_iload_n (i := 1) (pc' := 9) dX11_changed_8 rfl rfl rfl ?_
    refine T_if_eq (pc' := 16) dX11_changed_9 (by decide) (pf := 12) rfl (fun c3 => ?_) (fun c3 => ?_)
    · skip
      refine T_iconst (pc' := 17) dX11_changed_16 (by decide) rfl ?_
      exact T_wk (L' := [(2, 0), (3, 0)]) (by have q := HJ1; try simp only [if_pos c2] at q; try simp only [if_pos c3] at q; exact q) ⟨Or.inr rfl, Or.inl rfl, trivial⟩
    · skip
      refine T_iconst (pc' := 13) dX11_changed_12 (by decide) rfl ?_
      refine T_goto (pc' := 17) dX11_changed_13 (by decide) ?_
      exact T_wk (L' := [(2, 0), (3, 0)]) (by have q := HJ1; try simp only [if_pos c2] at q; try simp only [if_neg c3] at q; exact q) ⟨Or.inr rfl, Or.inl rfl, trivial⟩
theorem frX11_changed {M : Mem} {v1 : Int}  {q : Int} (hq0 : q ≠ 0) : (fmX11_changed M v1) q = M q := by
  unfold fmX11_changed
  repeat' (first | rfl | rw [mset_p hq0] | rw [mcpy_p hq0] | rw [ite_ap] | split)
def fmX11_takeFault (M : Mem) : Mem :=
  (mset (mset M 0 14 (M 3 4)) 0 15 ((mset M 0 14 (M 3 4)) 3 5))
theorem gX11_takeFault {h : Int} {M : Mem}   (hG : G h M) : G h (fmX11_takeFault M) := by
  unfold fmX11_takeFault
  exact (G_fld (x := 0) (i := 15) (y := ((mset M 0 14 (M 3 4)) 3 5)) rfl (by decide) (by decide) (by decide) (G_fld (x := 0) (i := 14) (y := (M 3 4)) rfl (by decide) (by decide) (by decide) hG))
set_option maxRecDepth 100000 in
theorem pX11_takeFault {E : EV} {h : Int} {M : Mem}   : C2 E miX11_takeFault 1 h [(2, 0)] M (fun r M' => r = none ∧ M' = (fmX11_takeFault M)) := by
  obtain ⟨Q, hQ⟩ : ∃ Q : Option MV → Mem → Prop, Q = (fun r M' => r = none ∧ M' = (fmX11_takeFault M)) := ⟨_, rfl⟩
  rw [← hQ]
  refine C2_of (L := [(2, 0)]) (by decide +kernel) (Nat.le_of_ble_eq_true rfl) rfl (fun hG => ?_)
  refine T_aload_n (i := 0) (pc' := 1) dX11_takeFault_0 rfl rfl rfl ?_
  refine T_aload_n (i := 0) (pc' := 2) dX11_takeFault_1 rfl rfl rfl ?_
  refine U_gr (q := 3) (k := 1) (kI := 1) (pc' := 5) dX11_takeFault_2 rfl cl11 (by decide) rfl (by decide) flX11_21 rfl rfl rfl (G_at hG 1 rfl) (by decide) rfl ?_
  refine U_gfN (v := (0, (M 3 4))) (k := 4) (kI := 4) (pc' := 8) dX11_takeFault_5 rfl cl9 (by decide) rfl (by decide) flX11_385 rfl rfl (by decide) rfl rfl ?_
  refine U_pf (y := (M 3 4)) (k := 14) (kI := 14) (pc' := 11) dX11_takeFault_8 rfl cl11 (by decide) rfl (by decide) flX11_95 rfl rfl rfl rfl rfl (by decide) (fun z => z) rfl ?_
  refine T_aload_n (i := 0) (pc' := 12) dX11_takeFault_11 rfl rfl rfl ?_
  refine T_aload_n (i := 0) (pc' := 13) dX11_takeFault_12 rfl rfl rfl ?_
  refine U_gr (q := 3) (k := 1) (kI := 1) (pc' := 16) dX11_takeFault_13 rfl cl11 (by decide) rfl (by decide) flX11_21 rfl rfl rfl (G_at (G_fld (x := 0) (i := 14) (y := (M 3 4)) rfl (by decide) (by decide) (by decide) hG) 1 rfl) (by decide) rfl ?_
  refine U_gfN (v := (0, ((mset M 0 14 (M 3 4)) 3 5))) (k := 5) (kI := 5) (pc' := 19) dX11_takeFault_16 rfl cl9 (by decide) rfl (by decide) flX11_386 rfl rfl (by decide) rfl rfl ?_
  refine U_pf (y := ((mset M 0 14 (M 3 4)) 3 5)) (k := 15) (kI := 15) (pc' := 22) dX11_takeFault_19 rfl cl11 (by decide) rfl (by decide) flX11_98 rfl rfl rfl rfl rfl (by decide) (fun z => z) rfl ?_
  exact T_vret dX11_takeFault_22 rfl ⟨rfl, (G_fld (x := 0) (i := 15) (y := ((mset M 0 14 (M 3 4)) 3 5)) rfl (by decide) (by decide) (by decide) (G_fld (x := 0) (i := 14) (y := (M 3 4)) rfl (by decide) (by decide) (by decide) hG)), (by rw [hQ]; exact ⟨rfl, rfl⟩)⟩
theorem frX11_takeFault {M : Mem}  {q : Int} (hq0 : q ≠ 0) : (fmX11_takeFault M) q = M q := by
  unfold fmX11_takeFault
  repeat' (first | rfl | rw [mset_p hq0] | rw [mcpy_p hq0] | rw [ite_ap] | split)
def fX11_fault (M : Mem) (v1 : Int) : Int :=
  (if v1 = 0 then (M 0 14) else (if v1 = 1 then (M 0 15) else (-1)))
set_option maxRecDepth 100000 in
theorem pX11_fault {E : EV} {h : Int} {M : Mem} {v1 : Int}  : C2 E miX11_fault 1 h [(2, 0), (0, v1)] M (fun r M' => r = some (0, (fX11_fault M v1)) ∧ M' = M) := by
  obtain ⟨Q, hQ⟩ : ∃ Q : Option MV → Mem → Prop, Q = (fun r M' => r = some (0, (fX11_fault M v1)) ∧ M' = M) := ⟨_, rfl⟩
  rw [← hQ]
  refine C2_of (L := [(2, 0), (0, v1)]) (by decide +kernel) (Nat.le_of_ble_eq_true rfl) rfl (fun hG => ?_)
  refine T_iload_n (i := 1) (pc' := 1) dX11_fault_0 rfl rfl rfl ?_
  by_cases c1 : v1 = 0
  · skip
    refine T_lookup (pc' := 28) dX11_fault_1 (by decide) (by rw [c1] <;> rfl) (by decide) ?_
    refine T_aload_n (i := 0) (pc' := 29) dX11_fault_28 rfl rfl rfl ?_
    refine U_gf (v := (0, (M 0 14))) (k := 14) (kI := 14) (pc' := 32) dX11_fault_29 rfl cl11 (by decide) rfl (by decide) flX11_95 rfl rfl (by decide) rfl rfl ?_
    exact T_iret dX11_fault_32 rfl ⟨rfl, hG, (by rw [hQ]; exact ⟨(by unfold fX11_fault; simp only [if_pos c1]), rfl⟩)⟩
  · skip
    by_cases c2 : v1 = 1
    · skip
      refine T_lookup (pc' := 33) dX11_fault_1 (by decide) (by rw [c2] <;> rfl) (by decide) ?_
      refine T_aload_n (i := 0) (pc' := 34) dX11_fault_33 rfl rfl rfl ?_
      refine U_gf (v := (0, (M 0 15))) (k := 15) (kI := 15) (pc' := 37) dX11_fault_34 rfl cl11 (by decide) rfl (by decide) flX11_98 rfl rfl (by decide) rfl rfl ?_
      exact T_iret dX11_fault_37 rfl ⟨rfl, hG, (by rw [hQ]; exact ⟨(by unfold fX11_fault; simp only [if_neg c1, if_pos c2]), rfl⟩)⟩
    · skip
      refine T_lookup (off := 37) (pc' := 38) dX11_fault_1 (by decide) (by show (if 0 = v1 then 27 else if 1 = v1 then 32 else 37) = 37; rw [if_neg (fun z => c1 z.symm), if_neg (fun z => c2 z.symm)]) (by decide) ?_
      refine T_iconst (pc' := 39) dX11_fault_38 (by decide) rfl ?_
      exact T_iret dX11_fault_39 rfl ⟨rfl, hG, (by rw [hQ]; exact ⟨(by unfold fX11_fault; simp only [if_neg c1, if_neg c2]), rfl⟩)⟩
def fX11_letterOf (v0 : Int) (v1 : Int) : Int :=
  (m_and (m_shr v0 (wr32 (5 * (wr32 (5 - v1))))) 31)
set_option maxRecDepth 100000 in
theorem pX11_letterOf {E : EV} {h : Int} {M : Mem} {v0 : Int} {v1 : Int}  : C2 E miX11_letterOf 1 h [(0, v0), (0, v1)] M (fun r M' => r = some (0, (fX11_letterOf v0 v1)) ∧ M' = M) := by
  obtain ⟨Q, hQ⟩ : ∃ Q : Option MV → Mem → Prop, Q = (fun r M' => r = some (0, (fX11_letterOf v0 v1)) ∧ M' = M) := ⟨_, rfl⟩
  rw [← hQ]
  refine C2_of (L := [(0, v0), (0, v1)]) (by decide +kernel) (Nat.le_of_ble_eq_true rfl) rfl (fun hG => ?_)
  refine T_iload_n (i := 0) (pc' := 1) dX11_letterOf_0 rfl rfl rfl ?_
  refine T_iconst (pc' := 2) dX11_letterOf_1 (by decide) rfl ?_
  refine T_iconst (pc' := 3) dX11_letterOf_2 (by decide) rfl ?_
  refine T_iload_n (i := 1) (pc' := 4) dX11_letterOf_3 rfl rfl rfl ?_
  refine T_isub (pc' := 5) dX11_letterOf_4 rfl ?_
  refine T_imul (pc' := 6) dX11_letterOf_5 rfl ?_
  refine T_ishr (pc' := 7) dX11_letterOf_6 rfl ?_
  refine T_bipush (pc' := 9) dX11_letterOf_7 rfl (by decide) rfl ?_
  refine T_iand (pc' := 10) dX11_letterOf_9 rfl ?_
  exact T_iret dX11_letterOf_10 rfl ⟨rfl, hG, (by rw [hQ]; exact ⟨rfl, rfl⟩)⟩
def fX11_letter (M : Mem) (h : Int) (v1 : Int) (v2 : Int) (v3 : Int) : Int :=
  (if v3 < 0 then (-1) else (if v3 < 6 then (if v1 = 0 then (if (fX4_has M h v2) = 0 then (if v1 = 1 then (if (fX1_hasGuard M h v2) = 0 then (-1) else (fX11_letterOf (fX11_get M (h + 12) 4 v2) v3)) else (-1)) else (fX11_letterOf (fX11_get M (h + 2) 9 v2) v3)) else (if v1 = 1 then (if (fX1_hasGuard M h v2) = 0 then (-1) else (fX11_letterOf (fX11_get M (h + 12) 4 v2) v3)) else (-1))) else (-1)))
set_option maxRecDepth 100000 in
theorem pX11_letter {E : EV} {h : Int} {M : Mem} {v1 : Int} {v2 : Int} {v3 : Int}  : C2 E miX11_letter 2 h [(2, 0), (0, v1), (0, v2), (0, v3)] M (fun r M' => r = some (0, (fX11_letter M h v1 v2 v3)) ∧ M' = M) := by
  obtain ⟨Q, hQ⟩ : ∃ Q : Option MV → Mem → Prop, Q = (fun r M' => r = some (0, (fX11_letter M h v1 v2 v3)) ∧ M' = M) := ⟨_, rfl⟩
  rw [← hQ]
  refine C2_of (L := [(2, 0), (0, v1), (0, v2), (0, v3)]) (by decide +kernel) (Nat.le_of_ble_eq_true rfl) rfl (fun hG => ?_)
  have hh := hG.2.2.2
  refine T_iload_n (i := 3) (pc' := 1) dX11_letter_0 rfl rfl rfl ?_
  refine T_if_lt (pc' := 10) dX11_letter_1 (by decide) (pf := 4) rfl (fun c1 => ?_) (fun c1 => ?_)
  · skip
    refine T_iconst (pc' := 11) dX11_letter_10 (by decide) rfl ?_
    exact T_iret dX11_letter_11 rfl ⟨rfl, hG, (by rw [hQ]; exact ⟨(by unfold fX11_letter; simp only [if_pos c1]), rfl⟩)⟩
  · skip
    refine T_iload_n (i := 3) (pc' := 5) dX11_letter_4 rfl rfl rfl ?_
    refine T_bipush (pc' := 7) dX11_letter_5 rfl (by decide) rfl ?_
    refine T_icmp_lt (pc' := 12) dX11_letter_7 (by decide) (pf := 10) rfl (fun c2 => ?_) (fun c2 => ?_)
    · skip
      refine T_iload_n (i := 1) (pc' := 13) dX11_letter_12 rfl rfl rfl ?_
      refine T_if_ne (pc' := 49) dX11_letter_13 (by decide) (pf := 16) rfl (fun c3 => ?_) (fun c3 => ?_)
      · skip
        refine T_iload_n (i := 1) (pc' := 50) dX11_letter_49 rfl rfl rfl ?_
        refine T_iconst (pc' := 51) dX11_letter_50 (by decide) rfl ?_
        refine T_icmp_ne (pc' := 81) dX11_letter_51 (by decide) (pf := 54) rfl (fun c4 => ?_) (fun c4 => ?_)
        · skip
          refine T_iconst (pc' := 82) dX11_letter_81 (by decide) rfl ?_
          exact T_iret dX11_letter_82 rfl ⟨rfl, hG, (by rw [hQ]; exact ⟨(by unfold fX11_letter; simp only [if_neg c1, if_pos c2, if_neg c3, if_neg c4]), rfl⟩)⟩
        · skip
          refine T_aload_n (i := 0) (pc' := 55) dX11_letter_54 rfl rfl rfl ?_
          refine U_gr (q := h) (k := 10) (kI := 10) (pc' := 58) dX11_letter_55 rfl cl11 (by decide) rfl (by decide) flX11_82 rfl rfl rfl hG.2.1 (pog0 hh) rfl ?_
          refine T_iload_n (i := 2) (pc' := 59) dX11_letter_58 rfl rfl rfl ?_
          refine T_callV (av := [(0, v2)]) (st := []) (d2 := 1) (nc2 := 0) (ns2 := 0) (pc' := 62) dX11_letter_59 rfl mtX1_hasGuard mvX1_hasGuard mlX11_197 cl1 (shg0 hh) rfl rfl (Nat.le_of_ble_eq_true rfl) (by decide) ⟨by decide, by decide⟩ rfl (pX1_hasGuard (E := E) (h := h) (M := M) (g := h) (v1 := v2) hh hG) (kF (st2 := [(0, (fX1_hasGuard M h v2))]) rfl (fun hG5 => ?_))
          refine T_if_eq (pc' := 81) dX11_letter_62 (by decide) (pf := 65) rfl (fun c6 => ?_) (fun c6 => ?_)
          · skip
            refine T_iconst (pc' := 82) dX11_letter_81 (by decide) rfl ?_
            exact T_iret dX11_letter_82 rfl ⟨rfl, hG, (by rw [hQ]; exact ⟨(by unfold fX11_letter; simp only [if_neg c1, if_pos c2, if_neg c3, if_pos c4, if_pos c6]), rfl⟩)⟩
          · skip
            refine T_aload_n (i := 0) (pc' := 66) dX11_letter_65 rfl rfl rfl ?_
            refine U_gr (q := h) (k := 10) (kI := 10) (pc' := 69) dX11_letter_66 rfl cl11 (by decide) rfl (by decide) flX11_82 rfl rfl rfl hG.2.1 (pog0 hh) rfl ?_
            refine U_grN (q := (h + 12)) (k := 4) (kI := 4) (pc' := 72) dX11_letter_69 rfl cl1 (pog0 hh) (shg0 hh) (by decide) flX11_200 rfl rfl rfl (grg0_4 hh hG) (pog12 hh) rfl ?_
            refine T_iload_n (i := 2) (pc' := 73) dX11_letter_72 rfl rfl rfl ?_
            refine T_callS (av := [(2, (h + 12)), (0, v2)]) (st := []) (d2 := 1) (nc2 := 0) (ns2 := 0) (pc' := 76) dX11_letter_73 rfl mtX11_get mvX11_get mlX11_189 rfl rfl (Nat.le_of_ble_eq_true rfl) (by decide) ⟨by decide, by decide⟩ rfl (pX11_get (E := E) (h := h) (M := M) (p0 := (h + 12)) (np0 := 4) (v1 := v2) (pog12 hh) (shg12 hh) (by decide) hG) (kF (st2 := [(0, (fX11_get M (h + 12) 4 v2))]) rfl (fun hG7 => ?_))
            refine T_iload_n (i := 3) (pc' := 77) dX11_letter_76 rfl rfl rfl ?_
            refine T_callS (av := [(0, (fX11_get M (h + 12) 4 v2)), (0, v3)]) (st := []) (d2 := 1) (nc2 := 0) (ns2 := 0) (pc' := 80) dX11_letter_77 rfl mtX11_letterOf mvX11_letterOf mlX11_193 rfl rfl (Nat.le_of_ble_eq_true rfl) (by decide) ⟨by decide, by decide⟩ rfl (pX11_letterOf (E := E) (h := h) (M := M) (v0 := (fX11_get M (h + 12) 4 v2)) (v1 := v3) hG) (kF (st2 := [(0, (fX11_letterOf (fX11_get M (h + 12) 4 v2) v3))]) rfl (fun hG8 => ?_))
            exact T_iret dX11_letter_80 rfl ⟨rfl, hG, (by rw [hQ]; exact ⟨(by unfold fX11_letter; simp only [if_neg c1, if_pos c2, if_neg c3, if_pos c4, if_neg c6]), rfl⟩)⟩
      · skip
        refine T_aload_n (i := 0) (pc' := 17) dX11_letter_16 rfl rfl rfl ?_
        refine U_gr (q := h) (k := 10) (kI := 10) (pc' := 20) dX11_letter_17 rfl cl11 (by decide) rfl (by decide) flX11_82 rfl rfl rfl hG.2.1 (pog0 hh) rfl ?_
        refine U_grN (q := (h + 1)) (k := 0) (kI := 0) (pc' := 23) dX11_letter_20 rfl cl1 (pog0 hh) (shg0 hh) (by decide) flX11_129 rfl rfl rfl (grg0_0 hh hG) (pog1 hh) rfl ?_
        refine T_iload_n (i := 2) (pc' := 24) dX11_letter_23 rfl rfl rfl ?_
        refine T_callV (av := [(0, v2)]) (st := []) (d2 := 1) (nc2 := 0) (ns2 := 0) (pc' := 27) dX11_letter_24 rfl mtX4_has mvX4_has mlX11_183 cl4 (shg1 hh) rfl rfl (Nat.le_of_ble_eq_true rfl) (by decide) ⟨by decide, by decide⟩ rfl (pX4_has (E := E) (h := h) (M := M) (g := h) (v1 := v2) hh hG) (kF (st2 := [(0, (fX4_has M h v2))]) rfl (fun hG9 => ?_))
        refine T_if_eq (pc' := 49) dX11_letter_27 (by decide) (pf := 30) rfl (fun c10 => ?_) (fun c10 => ?_)
        · skip
          refine T_iload_n (i := 1) (pc' := 50) dX11_letter_49 rfl rfl rfl ?_
          refine T_iconst (pc' := 51) dX11_letter_50 (by decide) rfl ?_
          refine T_icmp_ne (pc' := 81) dX11_letter_51 (by decide) (pf := 54) rfl (fun c11 => ?_) (fun c11 => ?_)
          · skip
            refine T_iconst (pc' := 82) dX11_letter_81 (by decide) rfl ?_
            exact T_iret dX11_letter_82 rfl ⟨rfl, hG, (by rw [hQ]; exact ⟨(by unfold fX11_letter; simp only [if_neg c1, if_pos c2, if_pos c3, if_pos c10, if_neg c11]), rfl⟩)⟩
          · skip
            refine T_aload_n (i := 0) (pc' := 55) dX11_letter_54 rfl rfl rfl ?_
            refine U_gr (q := h) (k := 10) (kI := 10) (pc' := 58) dX11_letter_55 rfl cl11 (by decide) rfl (by decide) flX11_82 rfl rfl rfl hG.2.1 (pog0 hh) rfl ?_
            refine T_iload_n (i := 2) (pc' := 59) dX11_letter_58 rfl rfl rfl ?_
            refine T_callV (av := [(0, v2)]) (st := []) (d2 := 1) (nc2 := 0) (ns2 := 0) (pc' := 62) dX11_letter_59 rfl mtX1_hasGuard mvX1_hasGuard mlX11_197 cl1 (shg0 hh) rfl rfl (Nat.le_of_ble_eq_true rfl) (by decide) ⟨by decide, by decide⟩ rfl (pX1_hasGuard (E := E) (h := h) (M := M) (g := h) (v1 := v2) hh hG) (kF (st2 := [(0, (fX1_hasGuard M h v2))]) rfl (fun hG12 => ?_))
            refine T_if_eq (pc' := 81) dX11_letter_62 (by decide) (pf := 65) rfl (fun c13 => ?_) (fun c13 => ?_)
            · skip
              refine T_iconst (pc' := 82) dX11_letter_81 (by decide) rfl ?_
              exact T_iret dX11_letter_82 rfl ⟨rfl, hG, (by rw [hQ]; exact ⟨(by unfold fX11_letter; simp only [if_neg c1, if_pos c2, if_pos c3, if_pos c10, if_pos c11, if_pos c13]), rfl⟩)⟩
            · skip
              refine T_aload_n (i := 0) (pc' := 66) dX11_letter_65 rfl rfl rfl ?_
              refine U_gr (q := h) (k := 10) (kI := 10) (pc' := 69) dX11_letter_66 rfl cl11 (by decide) rfl (by decide) flX11_82 rfl rfl rfl hG.2.1 (pog0 hh) rfl ?_
              refine U_grN (q := (h + 12)) (k := 4) (kI := 4) (pc' := 72) dX11_letter_69 rfl cl1 (pog0 hh) (shg0 hh) (by decide) flX11_200 rfl rfl rfl (grg0_4 hh hG) (pog12 hh) rfl ?_
              refine T_iload_n (i := 2) (pc' := 73) dX11_letter_72 rfl rfl rfl ?_
              refine T_callS (av := [(2, (h + 12)), (0, v2)]) (st := []) (d2 := 1) (nc2 := 0) (ns2 := 0) (pc' := 76) dX11_letter_73 rfl mtX11_get mvX11_get mlX11_189 rfl rfl (Nat.le_of_ble_eq_true rfl) (by decide) ⟨by decide, by decide⟩ rfl (pX11_get (E := E) (h := h) (M := M) (p0 := (h + 12)) (np0 := 4) (v1 := v2) (pog12 hh) (shg12 hh) (by decide) hG) (kF (st2 := [(0, (fX11_get M (h + 12) 4 v2))]) rfl (fun hG14 => ?_))
              refine T_iload_n (i := 3) (pc' := 77) dX11_letter_76 rfl rfl rfl ?_
              refine T_callS (av := [(0, (fX11_get M (h + 12) 4 v2)), (0, v3)]) (st := []) (d2 := 1) (nc2 := 0) (ns2 := 0) (pc' := 80) dX11_letter_77 rfl mtX11_letterOf mvX11_letterOf mlX11_193 rfl rfl (Nat.le_of_ble_eq_true rfl) (by decide) ⟨by decide, by decide⟩ rfl (pX11_letterOf (E := E) (h := h) (M := M) (v0 := (fX11_get M (h + 12) 4 v2)) (v1 := v3) hG) (kF (st2 := [(0, (fX11_letterOf (fX11_get M (h + 12) 4 v2) v3))]) rfl (fun hG15 => ?_))
              exact T_iret dX11_letter_80 rfl ⟨rfl, hG, (by rw [hQ]; exact ⟨(by unfold fX11_letter; simp only [if_neg c1, if_pos c2, if_pos c3, if_pos c10, if_pos c11, if_neg c13]), rfl⟩)⟩
        · skip
          refine T_aload_n (i := 0) (pc' := 31) dX11_letter_30 rfl rfl rfl ?_
          refine U_gr (q := h) (k := 10) (kI := 10) (pc' := 34) dX11_letter_31 rfl cl11 (by decide) rfl (by decide) flX11_82 rfl rfl rfl hG.2.1 (pog0 hh) rfl ?_
          refine U_grN (q := (h + 1)) (k := 0) (kI := 0) (pc' := 37) dX11_letter_34 rfl cl1 (pog0 hh) (shg0 hh) (by decide) flX11_129 rfl rfl rfl (grg0_0 hh hG) (pog1 hh) rfl ?_
          refine U_grN (q := (h + 2)) (k := 0) (kI := 0) (pc' := 40) dX11_letter_37 rfl cl4 (pog1 hh) (shg1 hh) (by decide) flX11_186 rfl rfl rfl (grg1_0 hh hG) (pog2 hh) rfl ?_
          refine T_iload_n (i := 2) (pc' := 41) dX11_letter_40 rfl rfl rfl ?_
          refine T_callS (av := [(2, (h + 2)), (0, v2)]) (st := []) (d2 := 1) (nc2 := 0) (ns2 := 0) (pc' := 44) dX11_letter_41 rfl mtX11_get mvX11_get mlX11_189 rfl rfl (Nat.le_of_ble_eq_true rfl) (by decide) ⟨by decide, by decide⟩ rfl (pX11_get (E := E) (h := h) (M := M) (p0 := (h + 2)) (np0 := 9) (v1 := v2) (pog2 hh) (shg2 hh) (by decide) hG) (kF (st2 := [(0, (fX11_get M (h + 2) 9 v2))]) rfl (fun hG16 => ?_))
          refine T_iload_n (i := 3) (pc' := 45) dX11_letter_44 rfl rfl rfl ?_
          refine T_callS (av := [(0, (fX11_get M (h + 2) 9 v2)), (0, v3)]) (st := []) (d2 := 1) (nc2 := 0) (ns2 := 0) (pc' := 48) dX11_letter_45 rfl mtX11_letterOf mvX11_letterOf mlX11_193 rfl rfl (Nat.le_of_ble_eq_true rfl) (by decide) ⟨by decide, by decide⟩ rfl (pX11_letterOf (E := E) (h := h) (M := M) (v0 := (fX11_get M (h + 2) 9 v2)) (v1 := v3) hG) (kF (st2 := [(0, (fX11_letterOf (fX11_get M (h + 2) 9 v2) v3))]) rfl (fun hG17 => ?_))
          exact T_iret dX11_letter_48 rfl ⟨rfl, hG, (by rw [hQ]; exact ⟨(by unfold fX11_letter; simp only [if_neg c1, if_pos c2, if_pos c3, if_neg c10]), rfl⟩)⟩
    · skip
      refine T_iconst (pc' := 11) dX11_letter_10 (by decide) rfl ?_
      exact T_iret dX11_letter_11 rfl ⟨rfl, hG, (by rw [hQ]; exact ⟨(by unfold fX11_letter; simp only [if_neg c1, if_neg c2]), rfl⟩)⟩
def fX11_person (M : Mem) (h : Int) (v1 : Int) (v2 : Int) : Int :=
  (if (fX4_has M h v1) = 0 then (-1) else (if v2 = 0 then (fX11_get M (h + 3) 9 v1) else (if v2 = 1 then (fX11_get M (h + 4) 9 v1) else (if v2 = 2 then (fX11_get M (h + 5) 9 v1) else (if v2 = 3 then (fX11_get M (h + 6) 9 v1) else (if v2 = 4 then (if (fX11_hasBit (M (h + 1) 7) v1) = 0 then (0 : Int) else 1) else (if v2 = 5 then (fX11_get M (h + 7) 9 v1) else (-1))))))))
set_option maxRecDepth 100000 in
theorem pX11_person {E : EV} {h : Int} {M : Mem} {v1 : Int} {v2 : Int}  : C2 E miX11_person 2 h [(2, 0), (0, v1), (0, v2)] M (fun r M' => r = some (0, (fX11_person M h v1 v2)) ∧ M' = M) := by
  obtain ⟨Q, hQ⟩ : ∃ Q : Option MV → Mem → Prop, Q = (fun r M' => r = some (0, (fX11_person M h v1 v2)) ∧ M' = M) := ⟨_, rfl⟩
  rw [← hQ]
  refine C2_of (L := [(2, 0), (0, v1), (0, v2), (3, 0)]) (by decide +kernel) (Nat.le_of_ble_eq_true rfl) rfl (fun hG => ?_)
  have hh := hG.2.2.2
  refine T_aload_n (i := 0) (pc' := 1) dX11_person_0 rfl rfl rfl ?_
  refine U_gr (q := h) (k := 10) (kI := 10) (pc' := 4) dX11_person_1 rfl cl11 (by decide) rfl (by decide) flX11_82 rfl rfl rfl hG.2.1 (pog0 hh) rfl ?_
  refine U_grN (q := (h + 1)) (k := 0) (kI := 0) (pc' := 7) dX11_person_4 rfl cl1 (pog0 hh) (shg0 hh) (by decide) flX11_129 rfl rfl rfl (grg0_0 hh hG) (pog1 hh) rfl ?_
  refine T_astore_n (i := 3) (L' := [(2, 0), (0, v1), (0, v2), (2, (h + 1))]) (pc' := 8) dX11_person_7 rfl (by decide) rfl rfl ?_
  refine T_aload_n (i := 3) (pc' := 9) dX11_person_8 rfl rfl rfl ?_
  refine T_iload_n (i := 1) (pc' := 10) dX11_person_9 rfl rfl rfl ?_
  refine T_callV (av := [(0, v1)]) (st := []) (d2 := 1) (nc2 := 0) (ns2 := 0) (pc' := 13) dX11_person_10 rfl mtX4_has mvX4_has mlX11_183 cl4 (shg1 hh) rfl rfl (Nat.le_of_ble_eq_true rfl) (by decide) ⟨by decide, by decide⟩ rfl (pX4_has (E := E) (h := h) (M := M) (g := h) (v1 := v1) hh hG) (kF (st2 := [(0, (fX4_has M h v1))]) rfl (fun hG1 => ?_))
  refine T_if_ne (pc' := 18) dX11_person_13 (by decide) (pf := 16) rfl (fun c2 => ?_) (fun c2 => ?_)
  · skip
    refine T_iload_n (i := 2) (pc' := 19) dX11_person_18 rfl rfl rfl ?_
    by_cases c3 : v2 = 0
    · skip
      refine T_tableIn (pc' := 56) dX11_person_19 (by omega) (by omega) (by rw [c3]; rfl) (by decide) ?_
      refine T_aload_n (i := 3) (pc' := 57) dX11_person_56 rfl rfl rfl ?_
      refine U_grN (q := (h + 3)) (k := 1) (kI := 1) (pc' := 60) dX11_person_57 rfl cl4 (pog1 hh) (shg1 hh) (by decide) flX11_203 rfl rfl rfl (grg1_1 hh hG) (pog3 hh) rfl ?_
      refine T_iload_n (i := 1) (pc' := 61) dX11_person_60 rfl rfl rfl ?_
      refine T_callS (av := [(2, (h + 3)), (0, v1)]) (st := []) (d2 := 1) (nc2 := 0) (ns2 := 0) (pc' := 64) dX11_person_61 rfl mtX11_get mvX11_get mlX11_189 rfl rfl (Nat.le_of_ble_eq_true rfl) (by decide) ⟨by decide, by decide⟩ rfl (pX11_get (E := E) (h := h) (M := M) (p0 := (h + 3)) (np0 := 9) (v1 := v1) (pog3 hh) (shg3 hh) (by decide) hG) (kF (st2 := [(0, (fX11_get M (h + 3) 9 v1))]) rfl (fun hG4 => ?_))
      exact T_iret dX11_person_64 rfl ⟨rfl, hG, (by rw [hQ]; exact ⟨(by unfold fX11_person; simp only [if_neg c2, if_pos c3]), rfl⟩)⟩
    · skip
      by_cases c5 : v2 = 1
      · skip
        refine T_tableIn (pc' := 65) dX11_person_19 (by omega) (by omega) (by rw [c5]; rfl) (by decide) ?_
        refine T_aload_n (i := 3) (pc' := 66) dX11_person_65 rfl rfl rfl ?_
        refine U_grN (q := (h + 4)) (k := 2) (kI := 2) (pc' := 69) dX11_person_66 rfl cl4 (pog1 hh) (shg1 hh) (by decide) flX11_206 rfl rfl rfl (grg1_2 hh hG) (pog4 hh) rfl ?_
        refine T_iload_n (i := 1) (pc' := 70) dX11_person_69 rfl rfl rfl ?_
        refine T_callS (av := [(2, (h + 4)), (0, v1)]) (st := []) (d2 := 1) (nc2 := 0) (ns2 := 0) (pc' := 73) dX11_person_70 rfl mtX11_get mvX11_get mlX11_189 rfl rfl (Nat.le_of_ble_eq_true rfl) (by decide) ⟨by decide, by decide⟩ rfl (pX11_get (E := E) (h := h) (M := M) (p0 := (h + 4)) (np0 := 9) (v1 := v1) (pog4 hh) (shg4 hh) (by decide) hG) (kF (st2 := [(0, (fX11_get M (h + 4) 9 v1))]) rfl (fun hG6 => ?_))
        exact T_iret dX11_person_73 rfl ⟨rfl, hG, (by rw [hQ]; exact ⟨(by unfold fX11_person; simp only [if_neg c2, if_neg c3, if_pos c5]), rfl⟩)⟩
      · skip
        by_cases c7 : v2 = 2
        · skip
          refine T_tableIn (pc' := 74) dX11_person_19 (by omega) (by omega) (by rw [c7]; rfl) (by decide) ?_
          refine T_aload_n (i := 3) (pc' := 75) dX11_person_74 rfl rfl rfl ?_
          refine U_grN (q := (h + 5)) (k := 3) (kI := 3) (pc' := 78) dX11_person_75 rfl cl4 (pog1 hh) (shg1 hh) (by decide) flX11_209 rfl rfl rfl (grg1_3 hh hG) (pog5 hh) rfl ?_
          refine T_iload_n (i := 1) (pc' := 79) dX11_person_78 rfl rfl rfl ?_
          refine T_callS (av := [(2, (h + 5)), (0, v1)]) (st := []) (d2 := 1) (nc2 := 0) (ns2 := 0) (pc' := 82) dX11_person_79 rfl mtX11_get mvX11_get mlX11_189 rfl rfl (Nat.le_of_ble_eq_true rfl) (by decide) ⟨by decide, by decide⟩ rfl (pX11_get (E := E) (h := h) (M := M) (p0 := (h + 5)) (np0 := 9) (v1 := v1) (pog5 hh) (shg5 hh) (by decide) hG) (kF (st2 := [(0, (fX11_get M (h + 5) 9 v1))]) rfl (fun hG8 => ?_))
          exact T_iret dX11_person_82 rfl ⟨rfl, hG, (by rw [hQ]; exact ⟨(by unfold fX11_person; simp only [if_neg c2, if_neg c3, if_neg c5, if_pos c7]), rfl⟩)⟩
        · skip
          by_cases c9 : v2 = 3
          · skip
            refine T_tableIn (pc' := 83) dX11_person_19 (by omega) (by omega) (by rw [c9]; rfl) (by decide) ?_
            refine T_aload_n (i := 3) (pc' := 84) dX11_person_83 rfl rfl rfl ?_
            refine U_grN (q := (h + 6)) (k := 4) (kI := 4) (pc' := 87) dX11_person_84 rfl cl4 (pog1 hh) (shg1 hh) (by decide) flX11_212 rfl rfl rfl (grg1_4 hh hG) (pog6 hh) rfl ?_
            refine T_iload_n (i := 1) (pc' := 88) dX11_person_87 rfl rfl rfl ?_
            refine T_callS (av := [(2, (h + 6)), (0, v1)]) (st := []) (d2 := 1) (nc2 := 0) (ns2 := 0) (pc' := 91) dX11_person_88 rfl mtX11_get mvX11_get mlX11_189 rfl rfl (Nat.le_of_ble_eq_true rfl) (by decide) ⟨by decide, by decide⟩ rfl (pX11_get (E := E) (h := h) (M := M) (p0 := (h + 6)) (np0 := 9) (v1 := v1) (pog6 hh) (shg6 hh) (by decide) hG) (kF (st2 := [(0, (fX11_get M (h + 6) 9 v1))]) rfl (fun hG10 => ?_))
            exact T_iret dX11_person_91 rfl ⟨rfl, hG, (by rw [hQ]; exact ⟨(by unfold fX11_person; simp only [if_neg c2, if_neg c3, if_neg c5, if_neg c7, if_pos c9]), rfl⟩)⟩
          · skip
            by_cases c11 : v2 = 4
            · skip
              refine T_tableIn (pc' := 92) dX11_person_19 (by omega) (by omega) (by rw [c11]; rfl) (by decide) ?_
              refine T_aload_n (i := 3) (pc' := 93) dX11_person_92 rfl rfl rfl ?_
              refine U_gfN (v := (0, (M (h + 1) 7))) (k := 7) (kI := 7) (pc' := 96) dX11_person_93 rfl cl4 (pog1 hh) (shg1 hh) (by decide) flX11_215 rfl rfl (by decide) rfl rfl ?_
              refine T_iload_n (i := 1) (pc' := 97) dX11_person_96 rfl rfl rfl ?_
              refine T_callS (av := [(0, (M (h + 1) 7)), (0, v1)]) (st := []) (d2 := 1) (nc2 := 0) (ns2 := 0) (pc' := 100) dX11_person_97 rfl mtX11_hasBit mvX11_hasBit mlX11_218 rfl rfl (Nat.le_of_ble_eq_true rfl) (by decide) ⟨by decide, by decide⟩ rfl (pX11_hasBit (E := E) (h := h) (M := M) (v0 := (M (h + 1) 7)) (v1 := v1) hG) (kF (st2 := [(0, (fX11_hasBit (M (h + 1) 7) v1))]) rfl (fun hG12 => ?_))
              have HJ13 : T E miX11_person 2 126 0 0 (fun r S M' => S = S0 ∧ G h M' ∧ Q r M') 108 [(3, 0), (3, 0), (3, 0), (3, 0)] [(0, (if (fX11_hasBit (M (h + 1) 7) v1) = 0 then (0 : Int) else 1))] S0 M 0 0 := by
                exact T_iret dX11_person_108 rfl ⟨rfl, hG, (by rw [hQ]; exact ⟨(by unfold fX11_person; simp only [if_neg c2, if_neg c3, if_neg c5, if_neg c7, if_neg c9, if_pos c11]), rfl⟩)⟩
              refine T_if_eq (pc' := 107) dX11_person_100 (by decide) (pf := 103) rfl (fun c14 => ?_) (fun c14 => ?_)
              · skip
                refine T_iconst (pc' := 108) dX11_person_107 (by decide) rfl ?_
                exact T_wk (L' := [(3, 0), (3, 0), (3, 0), (3, 0)]) (by have q := HJ13; try simp only [if_pos c14] at q; exact q) ⟨Or.inl rfl, Or.inl rfl, Or.inl rfl, Or.inl rfl, trivial⟩
              · skip
                refine T_iconst (pc' := 104) dX11_person_103 (by decide) rfl ?_
                refine T_goto (pc' := 108) dX11_person_104 (by decide) ?_
                exact T_wk (L' := [(3, 0), (3, 0), (3, 0), (3, 0)]) (by have q := HJ13; try simp only [if_neg c14] at q; exact q) ⟨Or.inl rfl, Or.inl rfl, Or.inl rfl, Or.inl rfl, trivial⟩
            · skip
              by_cases c15 : v2 = 5
              · skip
                refine T_tableIn (pc' := 109) dX11_person_19 (by omega) (by omega) (by rw [c15]; rfl) (by decide) ?_
                refine T_aload_n (i := 3) (pc' := 110) dX11_person_109 rfl rfl rfl ?_
                refine U_grN (q := (h + 7)) (k := 5) (kI := 5) (pc' := 113) dX11_person_110 rfl cl4 (pog1 hh) (shg1 hh) (by decide) flX11_222 rfl rfl rfl (grg1_5 hh hG) (pog7 hh) rfl ?_
                refine T_iload_n (i := 1) (pc' := 114) dX11_person_113 rfl rfl rfl ?_
                refine T_callS (av := [(2, (h + 7)), (0, v1)]) (st := []) (d2 := 1) (nc2 := 0) (ns2 := 0) (pc' := 117) dX11_person_114 rfl mtX11_get mvX11_get mlX11_189 rfl rfl (Nat.le_of_ble_eq_true rfl) (by decide) ⟨by decide, by decide⟩ rfl (pX11_get (E := E) (h := h) (M := M) (p0 := (h + 7)) (np0 := 9) (v1 := v1) (pog7 hh) (shg7 hh) (by decide) hG) (kF (st2 := [(0, (fX11_get M (h + 7) 9 v1))]) rfl (fun hG16 => ?_))
                exact T_iret dX11_person_117 rfl ⟨rfl, hG, (by rw [hQ]; exact ⟨(by unfold fX11_person; simp only [if_neg c2, if_neg c3, if_neg c5, if_neg c7, if_neg c9, if_neg c11, if_pos c15]), rfl⟩)⟩
              · skip
                refine T_tableOut (pc' := 118) dX11_person_19 (by omega) (by decide) ?_
                refine T_iconst (pc' := 119) dX11_person_118 (by decide) rfl ?_
                exact T_iret dX11_person_119 rfl ⟨rfl, hG, (by rw [hQ]; exact ⟨(by unfold fX11_person; simp only [if_neg c2, if_neg c3, if_neg c5, if_neg c7, if_neg c9, if_neg c11, if_neg c15]), rfl⟩)⟩
  · skip
    refine T_iconst (pc' := 17) dX11_person_16 (by decide) rfl ?_
    exact T_iret dX11_person_17 rfl ⟨rfl, hG, (by rw [hQ]; exact ⟨(by unfold fX11_person; simp only [if_pos c2]), rfl⟩)⟩
def fX11_guard (M : Mem) (h : Int) (v1 : Int) (v2 : Int) : Int :=
  (if (fX1_hasGuard M h v1) = 0 then (-1) else (if v2 = 0 then (fX11_get M (h + 13) 4 v1) else (if v2 = 1 then (fX11_get M (h + 14) 4 v1) else (if v2 = 2 then (fX11_get M (h + 15) 4 v1) else (-1)))))
set_option maxRecDepth 100000 in
theorem pX11_guard {E : EV} {h : Int} {M : Mem} {v1 : Int} {v2 : Int}  : C2 E miX11_guard 2 h [(2, 0), (0, v1), (0, v2)] M (fun r M' => r = some (0, (fX11_guard M h v1 v2)) ∧ M' = M) := by
  obtain ⟨Q, hQ⟩ : ∃ Q : Option MV → Mem → Prop, Q = (fun r M' => r = some (0, (fX11_guard M h v1 v2)) ∧ M' = M) := ⟨_, rfl⟩
  rw [← hQ]
  refine C2_of (L := [(2, 0), (0, v1), (0, v2)]) (by decide +kernel) (Nat.le_of_ble_eq_true rfl) rfl (fun hG => ?_)
  have hh := hG.2.2.2
  refine T_aload_n (i := 0) (pc' := 1) dX11_guard_0 rfl rfl rfl ?_
  refine U_gr (q := h) (k := 10) (kI := 10) (pc' := 4) dX11_guard_1 rfl cl11 (by decide) rfl (by decide) flX11_82 rfl rfl rfl hG.2.1 (pog0 hh) rfl ?_
  refine T_iload_n (i := 1) (pc' := 5) dX11_guard_4 rfl rfl rfl ?_
  refine T_callV (av := [(0, v1)]) (st := []) (d2 := 1) (nc2 := 0) (ns2 := 0) (pc' := 8) dX11_guard_5 rfl mtX1_hasGuard mvX1_hasGuard mlX11_197 cl1 (shg0 hh) rfl rfl (Nat.le_of_ble_eq_true rfl) (by decide) ⟨by decide, by decide⟩ rfl (pX1_hasGuard (E := E) (h := h) (M := M) (g := h) (v1 := v1) hh hG) (kF (st2 := [(0, (fX1_hasGuard M h v1))]) rfl (fun hG1 => ?_))
  refine T_if_ne (pc' := 13) dX11_guard_8 (by decide) (pf := 11) rfl (fun c2 => ?_) (fun c2 => ?_)
  · skip
    refine T_iload_n (i := 2) (pc' := 14) dX11_guard_13 rfl rfl rfl ?_
    by_cases c3 : v2 = 0
    · skip
      refine T_tableIn (pc' := 40) dX11_guard_14 (by omega) (by omega) (by rw [c3]; rfl) (by decide) ?_
      refine T_aload_n (i := 0) (pc' := 41) dX11_guard_40 rfl rfl rfl ?_
      refine U_gr (q := h) (k := 10) (kI := 10) (pc' := 44) dX11_guard_41 rfl cl11 (by decide) rfl (by decide) flX11_82 rfl rfl rfl hG.2.1 (pog0 hh) rfl ?_
      refine U_grN (q := (h + 13)) (k := 5) (kI := 5) (pc' := 47) dX11_guard_44 rfl cl1 (pog0 hh) (shg0 hh) (by decide) flX11_225 rfl rfl rfl (grg0_5 hh hG) (pog13 hh) rfl ?_
      refine T_iload_n (i := 1) (pc' := 48) dX11_guard_47 rfl rfl rfl ?_
      refine T_callS (av := [(2, (h + 13)), (0, v1)]) (st := []) (d2 := 1) (nc2 := 0) (ns2 := 0) (pc' := 51) dX11_guard_48 rfl mtX11_get mvX11_get mlX11_189 rfl rfl (Nat.le_of_ble_eq_true rfl) (by decide) ⟨by decide, by decide⟩ rfl (pX11_get (E := E) (h := h) (M := M) (p0 := (h + 13)) (np0 := 4) (v1 := v1) (pog13 hh) (shg13 hh) (by decide) hG) (kF (st2 := [(0, (fX11_get M (h + 13) 4 v1))]) rfl (fun hG4 => ?_))
      exact T_iret dX11_guard_51 rfl ⟨rfl, hG, (by rw [hQ]; exact ⟨(by unfold fX11_guard; simp only [if_neg c2, if_pos c3]), rfl⟩)⟩
    · skip
      by_cases c5 : v2 = 1
      · skip
        refine T_tableIn (pc' := 52) dX11_guard_14 (by omega) (by omega) (by rw [c5]; rfl) (by decide) ?_
        refine T_aload_n (i := 0) (pc' := 53) dX11_guard_52 rfl rfl rfl ?_
        refine U_gr (q := h) (k := 10) (kI := 10) (pc' := 56) dX11_guard_53 rfl cl11 (by decide) rfl (by decide) flX11_82 rfl rfl rfl hG.2.1 (pog0 hh) rfl ?_
        refine U_grN (q := (h + 14)) (k := 6) (kI := 6) (pc' := 59) dX11_guard_56 rfl cl1 (pog0 hh) (shg0 hh) (by decide) flX11_228 rfl rfl rfl (grg0_6 hh hG) (pog14 hh) rfl ?_
        refine T_iload_n (i := 1) (pc' := 60) dX11_guard_59 rfl rfl rfl ?_
        refine T_callS (av := [(2, (h + 14)), (0, v1)]) (st := []) (d2 := 1) (nc2 := 0) (ns2 := 0) (pc' := 63) dX11_guard_60 rfl mtX11_get mvX11_get mlX11_189 rfl rfl (Nat.le_of_ble_eq_true rfl) (by decide) ⟨by decide, by decide⟩ rfl (pX11_get (E := E) (h := h) (M := M) (p0 := (h + 14)) (np0 := 4) (v1 := v1) (pog14 hh) (shg14 hh) (by decide) hG) (kF (st2 := [(0, (fX11_get M (h + 14) 4 v1))]) rfl (fun hG6 => ?_))
        exact T_iret dX11_guard_63 rfl ⟨rfl, hG, (by rw [hQ]; exact ⟨(by unfold fX11_guard; simp only [if_neg c2, if_neg c3, if_pos c5]), rfl⟩)⟩
      · skip
        by_cases c7 : v2 = 2
        · skip
          refine T_tableIn (pc' := 64) dX11_guard_14 (by omega) (by omega) (by rw [c7]; rfl) (by decide) ?_
          refine T_aload_n (i := 0) (pc' := 65) dX11_guard_64 rfl rfl rfl ?_
          refine U_gr (q := h) (k := 10) (kI := 10) (pc' := 68) dX11_guard_65 rfl cl11 (by decide) rfl (by decide) flX11_82 rfl rfl rfl hG.2.1 (pog0 hh) rfl ?_
          refine U_grN (q := (h + 15)) (k := 7) (kI := 7) (pc' := 71) dX11_guard_68 rfl cl1 (pog0 hh) (shg0 hh) (by decide) flX11_231 rfl rfl rfl (grg0_7 hh hG) (pog15 hh) rfl ?_
          refine T_iload_n (i := 1) (pc' := 72) dX11_guard_71 rfl rfl rfl ?_
          refine T_callS (av := [(2, (h + 15)), (0, v1)]) (st := []) (d2 := 1) (nc2 := 0) (ns2 := 0) (pc' := 75) dX11_guard_72 rfl mtX11_get mvX11_get mlX11_189 rfl rfl (Nat.le_of_ble_eq_true rfl) (by decide) ⟨by decide, by decide⟩ rfl (pX11_get (E := E) (h := h) (M := M) (p0 := (h + 15)) (np0 := 4) (v1 := v1) (pog15 hh) (shg15 hh) (by decide) hG) (kF (st2 := [(0, (fX11_get M (h + 15) 4 v1))]) rfl (fun hG8 => ?_))
          exact T_iret dX11_guard_75 rfl ⟨rfl, hG, (by rw [hQ]; exact ⟨(by unfold fX11_guard; simp only [if_neg c2, if_neg c3, if_neg c5, if_pos c7]), rfl⟩)⟩
        · skip
          refine T_tableOut (pc' := 76) dX11_guard_14 (by omega) (by decide) ?_
          refine T_iconst (pc' := 77) dX11_guard_76 (by decide) rfl ?_
          exact T_iret dX11_guard_77 rfl ⟨rfl, hG, (by rw [hQ]; exact ⟨(by unfold fX11_guard; simp only [if_neg c2, if_neg c3, if_neg c5, if_neg c7]), rfl⟩)⟩
  · skip
    refine T_iconst (pc' := 12) dX11_guard_11 (by decide) rfl ?_
    exact T_iret dX11_guard_12 rfl ⟨rfl, hG, (by rw [hQ]; exact ⟨(by unfold fX11_guard; simp only [if_pos c2]), rfl⟩)⟩
def fX11_isComer (M : Mem) (h : Int) (v1 : Int) : Int :=
  (if (fX4_has M h v1) = 0 then (0 : Int) else (if (fX11_hasBit (M 0 12) v1) = 0 then (0 : Int) else 1))
set_option maxRecDepth 100000 in
theorem pX11_isComer {E : EV} {h : Int} {M : Mem} {v1 : Int}  : C2 E miX11_isComer 2 h [(2, 0), (0, v1)] M (fun r M' => r = some (0, (fX11_isComer M h v1)) ∧ M' = M) := by
  obtain ⟨Q, hQ⟩ : ∃ Q : Option MV → Mem → Prop, Q = (fun r M' => r = some (0, (fX11_isComer M h v1)) ∧ M' = M) := ⟨_, rfl⟩
  rw [← hQ]
  refine C2_of (L := [(2, 0), (0, v1)]) (by decide +kernel) (Nat.le_of_ble_eq_true rfl) rfl (fun hG => ?_)
  have hh := hG.2.2.2
  refine T_aload_n (i := 0) (pc' := 1) dX11_isComer_0 rfl rfl rfl ?_
  refine U_gr (q := h) (k := 10) (kI := 10) (pc' := 4) dX11_isComer_1 rfl cl11 (by decide) rfl (by decide) flX11_82 rfl rfl rfl hG.2.1 (pog0 hh) rfl ?_
  refine U_grN (q := (h + 1)) (k := 0) (kI := 0) (pc' := 7) dX11_isComer_4 rfl cl1 (pog0 hh) (shg0 hh) (by decide) flX11_129 rfl rfl rfl (grg0_0 hh hG) (pog1 hh) rfl ?_
  refine T_iload_n (i := 1) (pc' := 8) dX11_isComer_7 rfl rfl rfl ?_
  refine T_callV (av := [(0, v1)]) (st := []) (d2 := 1) (nc2 := 0) (ns2 := 0) (pc' := 11) dX11_isComer_8 rfl mtX4_has mvX4_has mlX11_183 cl4 (shg1 hh) rfl rfl (Nat.le_of_ble_eq_true rfl) (by decide) ⟨by decide, by decide⟩ rfl (pX4_has (E := E) (h := h) (M := M) (g := h) (v1 := v1) hh hG) (kF (st2 := [(0, (fX4_has M h v1))]) rfl (fun hG1 => ?_))
  have HJ2 : T E miX11_isComer 2 126 0 0 (fun r S M' => S = S0 ∧ G h M' ∧ Q r M') 30 [(3, 0), (3, 0)] [(0, (if (fX4_has M h v1) = 0 then (0 : Int) else (if (fX11_hasBit (M 0 12) v1) = 0 then (0 : Int) else 1)))] S0 M 0 0 := by
    exact T_zret dX11_isComer_30 rfl (by repeat' (first | apply bi | exact Or.inl rfl | exact Or.inr rfl | apply fbX11_hasBit | apply fbX4_has)) ⟨rfl, hG, (by rw [hQ]; exact ⟨rfl, rfl⟩)⟩
  refine T_if_eq (pc' := 29) dX11_isComer_11 (by decide) (pf := 14) rfl (fun c3 => ?_) (fun c3 => ?_)
  · skip
    refine T_iconst (pc' := 30) dX11_isComer_29 (by decide) rfl ?_
    exact T_wk (L' := [(3, 0), (3, 0)]) (by have q := HJ2; try simp only [if_pos c3] at q; exact q) ⟨Or.inl rfl, Or.inl rfl, trivial⟩
  · skip
    refine T_aload_n (i := 0) (pc' := 15) dX11_isComer_14 rfl rfl rfl ?_
    refine U_gf (v := (0, (M 0 12))) (k := 12) (kI := 12) (pc' := 18) dX11_isComer_15 rfl cl11 (by decide) rfl (by decide) flX11_89 rfl rfl (by decide) rfl rfl ?_
    refine T_iload_n (i := 1) (pc' := 19) dX11_isComer_18 rfl rfl rfl ?_
    refine T_callS (av := [(0, (M 0 12)), (0, v1)]) (st := []) (d2 := 1) (nc2 := 0) (ns2 := 0) (pc' := 22) dX11_isComer_19 rfl mtX11_hasBit mvX11_hasBit mlX11_218 rfl rfl (Nat.le_of_ble_eq_true rfl) (by decide) ⟨by decide, by decide⟩ rfl (pX11_hasBit (E := E) (h := h) (M := M) (v0 := (M 0 12)) (v1 := v1) hG) (kF (st2 := [(0, (fX11_hasBit (M 0 12) v1))]) rfl (fun hG4 => ?_))
    refine T_if_eq (pc' := 29) dX11_isComer_22 (by decide) (pf := 25) rfl (fun c5 => ?_) (fun c5 => ?_)
    · skip
      refine T_iconst (pc' := 30) dX11_isComer_29 (by decide) rfl ?_
      exact T_wk (L' := [(3, 0), (3, 0)]) (by have q := HJ2; try simp only [if_neg c3] at q; try simp only [if_pos c5] at q; exact q) ⟨Or.inl rfl, Or.inl rfl, trivial⟩
    · skip
      refine T_iconst (pc' := 26) dX11_isComer_25 (by decide) rfl ?_
      refine T_goto (pc' := 30) dX11_isComer_26 (by decide) ?_
      exact T_wk (L' := [(3, 0), (3, 0)]) (by have q := HJ2; try simp only [if_neg c3] at q; try simp only [if_neg c5] at q; exact q) ⟨Or.inl rfl, Or.inl rfl, trivial⟩
theorem fbX11_isComer (M : Mem) (h : Int) (v1 : Int) : (fX11_isComer M h v1) = 0 ∨ (fX11_isComer M h v1) = 1 := by
  unfold fX11_isComer
  repeat' (first | apply bi | exact Or.inl rfl | exact Or.inr rfl | apply fbX11_hasBit | apply fbX4_has)
def fX11_isSecond (v0 : Int) : Int :=
  (if v0 < 0 then (0 : Int) else (if 201 ≤ v0 then (0 : Int) else 1))
set_option maxRecDepth 100000 in
theorem pX11_isSecond {E : EV} {h : Int} {M : Mem} {v0 : Int}  : C2 E miX11_isSecond 1 h [(0, v0)] M (fun r M' => r = some (0, (fX11_isSecond v0)) ∧ M' = M) := by
  obtain ⟨Q, hQ⟩ : ∃ Q : Option MV → Mem → Prop, Q = (fun r M' => r = some (0, (fX11_isSecond v0)) ∧ M' = M) := ⟨_, rfl⟩
  rw [← hQ]
  refine C2_of (L := [(0, v0)]) (by decide +kernel) (Nat.le_of_ble_eq_true rfl) rfl (fun hG => ?_)
  refine T_iload_n (i := 0) (pc' := 1) dX11_isSecond_0 rfl rfl rfl ?_
  have HJ1 : T E miX11_isSecond 1 126 0 0 (fun r S M' => S = S0 ∧ G h M' ∧ Q r M') 16 [(3, 0)] [(0, (if v0 < 0 then (0 : Int) else (if 201 ≤ v0 then (0 : Int) else 1)))] S0 M 0 0 := by
    exact T_zret dX11_isSecond_16 rfl (by repeat' (first | apply bi | exact Or.inl rfl | exact Or.inr rfl)) ⟨rfl, hG, (by rw [hQ]; exact ⟨rfl, rfl⟩)⟩
  refine T_if_lt (pc' := 15) dX11_isSecond_1 (by decide) (pf := 4) rfl (fun c2 => ?_) (fun c2 => ?_)
  · skip
    refine T_iconst (pc' := 16) dX11_isSecond_15 (by decide) rfl ?_
    exact T_wk (L' := [(3, 0)]) (by have q := HJ1; try simp only [if_pos c2] at q; exact q) ⟨Or.inl rfl, trivial⟩
  · skip
    refine T_iload_n (i := 0) (pc' := 5) dX11_isSecond_4 rfl rfl rfl ?_
    refine T_sipush (pc' := 8) dX11_isSecond_5 rfl (by decide) rfl ?_
    refine T_icmp_ge (pc' := 15) dX11_isSecond_8 (by decide) (pf := 11) rfl (fun c3 => ?_) (fun c3 => ?_)
    · skip
      refine T_iconst (pc' := 16) dX11_isSecond_15 (by decide) rfl ?_
      exact T_wk (L' := [(3, 0)]) (by have q := HJ1; try simp only [if_neg c2] at q; try simp only [if_pos c3] at q; exact q) ⟨Or.inl rfl, trivial⟩
    · skip
      refine T_iconst (pc' := 12) dX11_isSecond_11 (by decide) rfl ?_
      refine T_goto (pc' := 16) dX11_isSecond_12 (by decide) ?_
      exact T_wk (L' := [(3, 0)]) (by have q := HJ1; try simp only [if_neg c2] at q; try simp only [if_neg c3] at q; exact q) ⟨Or.inl rfl, trivial⟩
theorem fbX11_isSecond (v0 : Int) : (fX11_isSecond v0) = 0 ∨ (fX11_isSecond v0) = 1 := by
  unfold fX11_isSecond
  repeat' (first | apply bi | exact Or.inl rfl | exact Or.inr rfl)
def fX11_close (M : Mem) (h : Int) (v1 : Int) (v2 : Int) : Int :=
  (if (fX1_hasDoor M h v1) = 0 then 0 else (if (fX11_get M (h + 11) 6 v1) = (if v2 = 0 then (0 : Int) else 1) then 0 else 1))
def fmX11_close (M : Mem) (h : Int) (v1 : Int) (v2 : Int) : Mem :=
  (if (fX1_hasDoor M h v1) = 0 then M else (if (fX11_get M (h + 11) 6 v1) = (if v2 = 0 then (0 : Int) else 1) then M else (fmX11_changed (fmX11_put (fmX0_add M 3 v1 (wr32 (1 - (if v2 = 0 then (0 : Int) else 1)))) (h + 11) 6 v1 (if v2 = 0 then (0 : Int) else 1)) 0)))
theorem gX11_close {h : Int} {M : Mem} {v1 : Int} {v2 : Int}  (hG : G h M) : G h (fmX11_close M h v1 v2) := by
  have hh := hG.2.2.2
  unfold fmX11_close
  exact (G_ite hG (G_ite hG (gX11_changed (h := h) (M := (fmX11_put (fmX0_add M 3 v1 (wr32 (1 - (if v2 = 0 then (0 : Int) else 1)))) (h + 11) 6 v1 (if v2 = 0 then (0 : Int) else 1))) (v1 := 0) (gX11_put (h := h) (M := (fmX0_add M 3 v1 (wr32 (1 - (if v2 = 0 then (0 : Int) else 1))))) (p0 := (h + 11)) (np0 := 6) (v1 := v1) (v2 := (if v2 = 0 then (0 : Int) else 1)) (pog11 hh) (shg11 hh) (by decide) (gX0_add (h := h) (M := M) (v1 := 3) (v2 := v1) (v3 := (wr32 (1 - (if v2 = 0 then (0 : Int) else 1)))) hG)))))
set_option maxRecDepth 100000 in
theorem pX11_close {E : EV} {h : Int} {M : Mem} {v1 : Int} {v2 : Int}  : C2 E miX11_close 3 h [(2, 0), (0, v1), (0, v2)] M (fun r M' => r = some (0, (fX11_close M h v1 v2)) ∧ M' = (fmX11_close M h v1 v2)) := by
  obtain ⟨Q, hQ⟩ : ∃ Q : Option MV → Mem → Prop, Q = (fun r M' => r = some (0, (fX11_close M h v1 v2)) ∧ M' = (fmX11_close M h v1 v2)) := ⟨_, rfl⟩
  rw [← hQ]
  refine C2_of (L := [(2, 0), (0, v1), (0, v2), (3, 0)]) (by decide +kernel) (Nat.le_of_ble_eq_true rfl) rfl (fun hG => ?_)
  have hh := hG.2.2.2
  refine T_iload_n (i := 2) (pc' := 1) dX11_close_0 rfl rfl rfl ?_
  have HJ1 : T E miX11_close 3 126 0 0 (fun r S M' => S = S0 ∧ G h M' ∧ Q r M') 9 [(2, 0), (0, v1), (3, 0), (3, 0)] [(0, (if v2 = 0 then (0 : Int) else 1))] S0 M 0 0 := by
    refine T_istore_n (i := 3) (L' := [(2, 0), (0, v1), (3, 0), (0, (if v2 = 0 then (0 : Int) else 1))]) (pc' := 10) dX11_close_9 rfl (by decide) rfl rfl ?_
    refine T_aload_n (i := 0) (pc' := 11) dX11_close_10 rfl rfl rfl ?_
    refine U_gr (q := h) (k := 10) (kI := 10) (pc' := 14) dX11_close_11 rfl cl11 (by decide) rfl (by decide) flX11_82 rfl rfl rfl hG.2.1 (pog0 hh) rfl ?_
    refine T_iload_n (i := 1) (pc' := 15) dX11_close_14 rfl rfl rfl ?_
    refine T_callV (av := [(0, v1)]) (st := []) (d2 := 1) (nc2 := 0) (ns2 := 0) (pc' := 18) dX11_close_15 rfl mtX1_hasDoor mvX1_hasDoor mlX11_234 cl1 (shg0 hh) rfl rfl (Nat.le_of_ble_eq_true rfl) (by decide) ⟨by decide, by decide⟩ rfl (pX1_hasDoor (E := E) (h := h) (M := M) (g := h) (v1 := v1) hh hG) (kF (st2 := [(0, (fX1_hasDoor M h v1))]) rfl (fun hG2 => ?_))
    refine T_if_eq (pc' := 36) dX11_close_18 (by decide) (pf := 21) rfl (fun c3 => ?_) (fun c3 => ?_)
    · skip
      refine T_iconst (pc' := 37) dX11_close_36 (by decide) rfl ?_
      exact T_zret dX11_close_37 rfl (by decide) ⟨rfl, hG, (by rw [hQ]; exact ⟨(by unfold fX11_close; simp only [if_pos c3]), (by unfold fmX11_close; simp only [if_pos c3])⟩)⟩
    · skip
      refine T_aload_n (i := 0) (pc' := 22) dX11_close_21 rfl rfl rfl ?_
      refine U_gr (q := h) (k := 10) (kI := 10) (pc' := 25) dX11_close_22 rfl cl11 (by decide) rfl (by decide) flX11_82 rfl rfl rfl hG.2.1 (pog0 hh) rfl ?_
      refine U_grN (q := (h + 11)) (k := 3) (kI := 3) (pc' := 28) dX11_close_25 rfl cl1 (pog0 hh) (shg0 hh) (by decide) flX11_240 rfl rfl rfl (grg0_3 hh hG) (pog11 hh) rfl ?_
      refine T_iload_n (i := 1) (pc' := 29) dX11_close_28 rfl rfl rfl ?_
      refine T_callS (av := [(2, (h + 11)), (0, v1)]) (st := []) (d2 := 1) (nc2 := 0) (ns2 := 0) (pc' := 32) dX11_close_29 rfl mtX11_get mvX11_get mlX11_189 rfl rfl (Nat.le_of_ble_eq_true rfl) (by decide) ⟨by decide, by decide⟩ rfl (pX11_get (E := E) (h := h) (M := M) (p0 := (h + 11)) (np0 := 6) (v1 := v1) (pog11 hh) (shg11 hh) (by decide) hG) (kF (st2 := [(0, (fX11_get M (h + 11) 6 v1))]) rfl (fun hG4 => ?_))
      refine T_iload_n (i := 3) (pc' := 33) dX11_close_32 rfl rfl rfl ?_
      refine T_icmp_ne (pc' := 38) dX11_close_33 (by decide) (pf := 36) rfl (fun c5 => ?_) (fun c5 => ?_)
      · skip
        refine T_aload_n (i := 0) (pc' := 39) dX11_close_38 rfl rfl rfl ?_
        refine U_gr (q := 27) (k := 7) (kI := 7) (pc' := 42) dX11_close_39 rfl cl11 (by decide) rfl (by decide) flX11_67 rfl rfl rfl (G_at hG 7 rfl) (by decide) rfl ?_
        refine T_iconst (pc' := 43) dX11_close_42 (by decide) rfl ?_
        refine T_iload_n (i := 1) (pc' := 44) dX11_close_43 rfl rfl rfl ?_
        refine T_iconst (pc' := 45) dX11_close_44 (by decide) rfl ?_
        refine T_iload_n (i := 3) (pc' := 46) dX11_close_45 rfl rfl rfl ?_
        refine T_isub (pc' := 47) dX11_close_46 rfl ?_
        refine T_callV (av := [(0, 3), (0, v1), (0, (wr32 (1 - (if v2 = 0 then (0 : Int) else 1))))]) (st := []) (d2 := 2) (nc2 := 0) (ns2 := 0) (pc' := 50) dX11_close_47 rfl mtX0_add mvX0_add mlX11_309 cl0 rfl rfl rfl (Nat.le_of_ble_eq_true rfl) (by decide) ⟨by decide, by decide⟩ rfl (pX0_add (E := E) (h := h) (M := M) (v1 := 3) (v2 := v1) (v3 := (wr32 (1 - (if v2 = 0 then (0 : Int) else 1)))) hG) (kF (st2 := []) rfl (fun hG6 => ?_))
        refine T_aload_n (i := 0) (pc' := 51) dX11_close_50 rfl rfl rfl ?_
        refine U_gr (q := h) (k := 10) (kI := 10) (pc' := 54) dX11_close_51 rfl cl11 (by decide) rfl (by decide) flX11_82 rfl rfl rfl (gX0_add (h := h) (M := M) (v1 := 3) (v2 := v1) (v3 := (wr32 (1 - (if v2 = 0 then (0 : Int) else 1)))) hG).2.1 (pog0 hh) rfl ?_
        refine U_grN (q := (h + 11)) (k := 3) (kI := 3) (pc' := 57) dX11_close_54 rfl cl1 (pog0 hh) (shg0 hh) (by decide) flX11_240 rfl rfl rfl (grg0_3 hh (gX0_add (h := h) (M := M) (v1 := 3) (v2 := v1) (v3 := (wr32 (1 - (if v2 = 0 then (0 : Int) else 1)))) hG)) (pog11 hh) rfl ?_
        refine T_iload_n (i := 1) (pc' := 58) dX11_close_57 rfl rfl rfl ?_
        refine T_iload_n (i := 3) (pc' := 59) dX11_close_58 rfl rfl rfl ?_
        refine T_callS (av := [(2, (h + 11)), (0, v1), (0, (if v2 = 0 then (0 : Int) else 1))]) (st := []) (d2 := 1) (nc2 := 0) (ns2 := 0) (pc' := 62) dX11_close_59 rfl mtX11_put mvX11_put mlX11_316 rfl rfl (Nat.le_of_ble_eq_true rfl) (by decide) ⟨by decide, by decide⟩ rfl (pX11_put (E := E) (h := h) (M := (fmX0_add M 3 v1 (wr32 (1 - (if v2 = 0 then (0 : Int) else 1))))) (p0 := (h + 11)) (np0 := 6) (v1 := v1) (v2 := (if v2 = 0 then (0 : Int) else 1)) (pog11 hh) (shg11 hh) (by decide) (gX0_add (h := h) (M := M) (v1 := 3) (v2 := v1) (v3 := (wr32 (1 - (if v2 = 0 then (0 : Int) else 1)))) hG)) (kF (st2 := []) rfl (fun hG7 => ?_))
        refine T_aload_n (i := 0) (pc' := 63) dX11_close_62 rfl rfl rfl ?_
        refine T_iconst (pc' := 64) dX11_close_63 (by decide) rfl ?_
        refine T_callV (av := [(0, 0)]) (st := []) (d2 := 1) (nc2 := 0) (ns2 := 0) (pc' := 67) dX11_close_64 rfl mtX11_changed mvX11_changed mlX11_142 cl11 rfl rfl rfl (Nat.le_of_ble_eq_true rfl) (by decide) ⟨by decide, by decide⟩ rfl (pX11_changed (E := E) (h := h) (M := (fmX11_put (fmX0_add M 3 v1 (wr32 (1 - (if v2 = 0 then (0 : Int) else 1)))) (h + 11) 6 v1 (if v2 = 0 then (0 : Int) else 1))) (v1 := 0) (gX11_put (h := h) (M := (fmX0_add M 3 v1 (wr32 (1 - (if v2 = 0 then (0 : Int) else 1))))) (p0 := (h + 11)) (np0 := 6) (v1 := v1) (v2 := (if v2 = 0 then (0 : Int) else 1)) (pog11 hh) (shg11 hh) (by decide) (gX0_add (h := h) (M := M) (v1 := 3) (v2 := v1) (v3 := (wr32 (1 - (if v2 = 0 then (0 : Int) else 1)))) hG))) (kF (st2 := []) rfl (fun hG8 => ?_))
        refine T_iconst (pc' := 68) dX11_close_67 (by decide) rfl ?_
        exact T_zret dX11_close_68 rfl (by decide) ⟨rfl, (gX11_changed (h := h) (M := (fmX11_put (fmX0_add M 3 v1 (wr32 (1 - (if v2 = 0 then (0 : Int) else 1)))) (h + 11) 6 v1 (if v2 = 0 then (0 : Int) else 1))) (v1 := 0) (gX11_put (h := h) (M := (fmX0_add M 3 v1 (wr32 (1 - (if v2 = 0 then (0 : Int) else 1))))) (p0 := (h + 11)) (np0 := 6) (v1 := v1) (v2 := (if v2 = 0 then (0 : Int) else 1)) (pog11 hh) (shg11 hh) (by decide) (gX0_add (h := h) (M := M) (v1 := 3) (v2 := v1) (v3 := (wr32 (1 - (if v2 = 0 then (0 : Int) else 1)))) hG))), (by rw [hQ]; exact ⟨(by unfold fX11_close; simp only [if_neg c3, if_neg c5]), (by unfold fmX11_close; simp only [if_neg c3, if_neg c5])⟩)⟩
      · skip
        refine T_iconst (pc' := 37) dX11_close_36 (by decide) rfl ?_
        exact T_zret dX11_close_37 rfl (by decide) ⟨rfl, hG, (by rw [hQ]; exact ⟨(by unfold fX11_close; simp only [if_neg c3, if_pos c5]), (by unfold fmX11_close; simp only [if_neg c3, if_pos c5])⟩)⟩
  refine T_if_eq (pc' := 8) dX11_close_1 (by decide) (pf := 4) rfl (fun c9 => ?_) (fun c9 => ?_)
  · skip
    refine T_iconst (pc' := 9) dX11_close_8 (by decide) rfl ?_
    exact T_wk (L' := [(2, 0), (0, v1), (3, 0), (3, 0)]) (by have q := HJ1; try simp only [if_pos c9] at q; exact q) ⟨Or.inr rfl, Or.inr rfl, Or.inl rfl, Or.inl rfl, trivial⟩
  · skip
    refine T_iconst (pc' := 5) dX11_close_4 (by decide) rfl ?_
    refine T_goto (pc' := 9) dX11_close_5 (by decide) ?_
    exact T_wk (L' := [(2, 0), (0, v1), (3, 0), (3, 0)]) (by have q := HJ1; try simp only [if_neg c9] at q; exact q) ⟨Or.inr rfl, Or.inr rfl, Or.inl rfl, Or.inl rfl, trivial⟩
theorem frX11_close {M : Mem} {h : Int} {v1 : Int} {v2 : Int}  {q : Int} (hq0 : q ≠ 28) (hq1 : q ≠ 29) (hq2 : q ≠ 30) (hq3 : q ≠ 27) (hq4 : q ≠ (h + 11)) (hq5 : q ≠ 0) : (fmX11_close M h v1 v2) q = M q := by
  unfold fmX11_close
  repeat' (first | rfl | rw [mset_p hq0] | rw [mset_p hq1] | rw [mset_p hq2] | rw [mset_p hq3] | rw [mset_p hq4] | rw [mset_p hq5] | rw [mcpy_p hq0] | rw [mcpy_p hq1] | rw [mcpy_p hq2] | rw [mcpy_p hq3] | rw [mcpy_p hq4] | rw [mcpy_p hq5] | (rw [frX0_add] <;> try assumption) | (rw [frX11_changed] <;> try assumption) | (rw [frX11_put] <;> try assumption) | rw [ite_ap] | split)
theorem fbX11_close (M : Mem) (h : Int) (v1 : Int) (v2 : Int) : (fX11_close M h v1 v2) = 0 ∨ (fX11_close M h v1 v2) = 1 := by
  unfold fX11_close
  repeat' (first | apply bi | exact Or.inl rfl | exact Or.inr rfl | apply fbX1_hasDoor)
def fX11_come (M : Mem) (h : Int) (v1 : Int) : Int :=
  (if (m_and v1 (m_xor (fX4_all M h) (-1))) = 0 then 1 else 0)
def fmX11_come (M : Mem) (h : Int) (v1 : Int) : Mem :=
  (if (m_and v1 (m_xor (fX4_all M h) (-1))) = 0 then (fmX11_changed (mset M 0 12 v1) 0) else M)
theorem gX11_come {h : Int} {M : Mem} {v1 : Int}  (hG : G h M) : G h (fmX11_come M h v1) := by
  unfold fmX11_come
  exact (G_ite (gX11_changed (h := h) (M := (mset M 0 12 v1)) (v1 := 0) (G_fld (x := 0) (i := 12) (y := v1) rfl (by decide) (by decide) (by decide) hG)) hG)
set_option maxRecDepth 100000 in
theorem pX11_come {E : EV} {h : Int} {M : Mem} {v1 : Int}  : C2 E miX11_come 2 h [(2, 0), (0, v1)] M (fun r M' => r = some (0, (fX11_come M h v1)) ∧ M' = (fmX11_come M h v1)) := by
  obtain ⟨Q, hQ⟩ : ∃ Q : Option MV → Mem → Prop, Q = (fun r M' => r = some (0, (fX11_come M h v1)) ∧ M' = (fmX11_come M h v1)) := ⟨_, rfl⟩
  rw [← hQ]
  refine C2_of (L := [(2, 0), (0, v1)]) (by decide +kernel) (Nat.le_of_ble_eq_true rfl) rfl (fun hG => ?_)
  have hh := hG.2.2.2
  refine T_iload_n (i := 1) (pc' := 1) dX11_come_0 rfl rfl rfl ?_
  refine T_aload_n (i := 0) (pc' := 2) dX11_come_1 rfl rfl rfl ?_
  refine U_gr (q := h) (k := 10) (kI := 10) (pc' := 5) dX11_come_2 rfl cl11 (by decide) rfl (by decide) flX11_82 rfl rfl rfl hG.2.1 (pog0 hh) rfl ?_
  refine U_grN (q := (h + 1)) (k := 0) (kI := 0) (pc' := 8) dX11_come_5 rfl cl1 (pog0 hh) (shg0 hh) (by decide) flX11_129 rfl rfl rfl (grg0_0 hh hG) (pog1 hh) rfl ?_
  refine T_callV (av := []) (st := [(0, v1)]) (d2 := 1) (nc2 := 0) (ns2 := 0) (pc' := 11) dX11_come_8 rfl mtX4_all mvX4_all mlX11_133 cl4 (shg1 hh) rfl rfl (Nat.le_of_ble_eq_true rfl) (by decide) ⟨by decide, by decide⟩ rfl (pX4_all (E := E) (h := h) (M := M) (g := h) hh hG) (kF (st2 := [(0, (fX4_all M h)), (0, v1)]) rfl (fun hG1 => ?_))
  refine T_iconst (pc' := 12) dX11_come_11 (by decide) rfl ?_
  refine T_ixor (pc' := 13) dX11_come_12 rfl ?_
  refine T_iand (pc' := 14) dX11_come_13 rfl ?_
  refine T_if_eq (pc' := 19) dX11_come_14 (by decide) (pf := 17) rfl (fun c2 => ?_) (fun c2 => ?_)
  · skip
    refine T_aload_n (i := 0) (pc' := 20) dX11_come_19 rfl rfl rfl ?_
    refine T_iload_n (i := 1) (pc' := 21) dX11_come_20 rfl rfl rfl ?_
    refine U_pf (y := v1) (k := 12) (kI := 12) (pc' := 24) dX11_come_21 rfl cl11 (by decide) rfl (by decide) flX11_89 rfl rfl rfl rfl rfl (by decide) (fun z => z) rfl ?_
    refine T_aload_n (i := 0) (pc' := 25) dX11_come_24 rfl rfl rfl ?_
    refine T_iconst (pc' := 26) dX11_come_25 (by decide) rfl ?_
    refine T_callV (av := [(0, 0)]) (st := []) (d2 := 1) (nc2 := 0) (ns2 := 0) (pc' := 29) dX11_come_26 rfl mtX11_changed mvX11_changed mlX11_142 cl11 rfl rfl rfl (Nat.le_of_ble_eq_true rfl) (by decide) ⟨by decide, by decide⟩ rfl (pX11_changed (E := E) (h := h) (M := (mset M 0 12 v1)) (v1 := 0) (G_fld (x := 0) (i := 12) (y := v1) rfl (by decide) (by decide) (by decide) hG)) (kF (st2 := []) rfl (fun hG3 => ?_))
    refine T_iconst (pc' := 30) dX11_come_29 (by decide) rfl ?_
    exact T_zret dX11_come_30 rfl (by decide) ⟨rfl, (gX11_changed (h := h) (M := (mset M 0 12 v1)) (v1 := 0) (G_fld (x := 0) (i := 12) (y := v1) rfl (by decide) (by decide) (by decide) hG)), (by rw [hQ]; exact ⟨(by unfold fX11_come; simp only [if_pos c2]), (by unfold fmX11_come; simp only [if_pos c2])⟩)⟩
  · skip
    refine T_iconst (pc' := 18) dX11_come_17 (by decide) rfl ?_
    exact T_zret dX11_come_18 rfl (by decide) ⟨rfl, hG, (by rw [hQ]; exact ⟨(by unfold fX11_come; simp only [if_neg c2]), (by unfold fmX11_come; simp only [if_neg c2])⟩)⟩
theorem frX11_come {M : Mem} {h : Int} {v1 : Int}  {q : Int} (hq0 : q ≠ 0) : (fmX11_come M h v1) q = M q := by
  unfold fmX11_come
  repeat' (first | rfl | rw [mset_p hq0] | rw [mcpy_p hq0] | (rw [frX11_changed] <;> try assumption) | rw [ite_ap] | split)
theorem fbX11_come (M : Mem) (h : Int) (v1 : Int) : (fX11_come M h v1) = 0 ∨ (fX11_come M h v1) = 1 := by
  unfold fX11_come
  repeat' (first | apply bi | exact Or.inl rfl | exact Or.inr rfl)
def fX11_draw (M : Mem) (v1 : Int) : Int :=
  (if v1 ≤ 0 then (0 : Int) else (Int.tmod (wr32 (Int.tdiv ((mset M 0 13 (m_and (wr32 ((wr32 (1103515245 * (M 0 13))) + 12345)) 2147483647)) 0 13) 64)) v1))
def fmX11_draw (M : Mem) : Mem :=
  (mset M 0 13 (m_and (wr32 ((wr32 (1103515245 * (M 0 13))) + 12345)) 2147483647))
theorem gX11_draw {h : Int} {M : Mem} {v1 : Int}  (hG : G h M) : G h (fmX11_draw M) := by
  unfold fmX11_draw
  exact (G_fld (x := 0) (i := 13) (y := (m_and (wr32 ((wr32 (1103515245 * (M 0 13))) + 12345)) 2147483647)) rfl (by decide) (by decide) (by decide) hG)
set_option maxRecDepth 100000 in
theorem pX11_draw {E : EV} {h : Int} {M : Mem} {v1 : Int}  : C2 E miX11_draw 1 h [(2, 0), (0, v1)] M (fun r M' => r = some (0, (fX11_draw M v1)) ∧ M' = (fmX11_draw M)) := by
  obtain ⟨Q, hQ⟩ : ∃ Q : Option MV → Mem → Prop, Q = (fun r M' => r = some (0, (fX11_draw M v1)) ∧ M' = (fmX11_draw M)) := ⟨_, rfl⟩
  rw [← hQ]
  refine C2_of (L := [(2, 0), (0, v1)]) (by decide +kernel) (Nat.le_of_ble_eq_true rfl) rfl (fun hG => ?_)
  refine T_aload_n (i := 0) (pc' := 1) dX11_draw_0 rfl rfl rfl ?_
  refine T_ldcw (n := 1103515245) (pc' := 4) dX11_draw_1 rfl kiX11_394 rfl (by decide) rfl ?_
  refine T_aload_n (i := 0) (pc' := 5) dX11_draw_4 rfl rfl rfl ?_
  refine U_gf (v := (0, (M 0 13))) (k := 13) (kI := 13) (pc' := 8) dX11_draw_5 rfl cl11 (by decide) rfl (by decide) flX11_92 rfl rfl (by decide) rfl rfl ?_
  refine T_imul (pc' := 9) dX11_draw_8 rfl ?_
  refine T_sipush (pc' := 12) dX11_draw_9 rfl (by decide) rfl ?_
  refine T_iadd (pc' := 13) dX11_draw_12 rfl ?_
  refine T_ldcw (n := 2147483647) (pc' := 16) dX11_draw_13 rfl kiX11_395 rfl (by decide) rfl ?_
  refine T_iand (pc' := 17) dX11_draw_16 rfl ?_
  refine U_pf (y := (m_and (wr32 ((wr32 (1103515245 * (M 0 13))) + 12345)) 2147483647)) (k := 13) (kI := 13) (pc' := 20) dX11_draw_17 rfl cl11 (by decide) rfl (by decide) flX11_92 rfl rfl rfl rfl rfl (by decide) (fun z => z) rfl ?_
  refine T_iload_n (i := 1) (pc' := 21) dX11_draw_20 rfl rfl rfl ?_
  have HJ1 : T E miX11_draw 1 126 0 0 (fun r S M' => S = S0 ∧ G h M' ∧ Q r M') 37 [(3, 0), (3, 0)] [(0, (if v1 ≤ 0 then (0 : Int) else (Int.tmod (wr32 (Int.tdiv ((mset M 0 13 (m_and (wr32 ((wr32 (1103515245 * (M 0 13))) + 12345)) 2147483647)) 0 13) 64)) v1)))] S0 (mset M 0 13 (m_and (wr32 ((wr32 (1103515245 * (M 0 13))) + 12345)) 2147483647)) 0 0 := by
    exact T_iret dX11_draw_37 rfl ⟨rfl, (G_fld (x := 0) (i := 13) (y := (m_and (wr32 ((wr32 (1103515245 * (M 0 13))) + 12345)) 2147483647)) rfl (by decide) (by decide) (by decide) hG), (by rw [hQ]; exact ⟨rfl, rfl⟩)⟩
  refine T_if_le (pc' := 36) dX11_draw_21 (by decide) (pf := 24) rfl (fun c2 => ?_) (fun c2 => ?_)
  · skip
    refine T_iconst (pc' := 37) dX11_draw_36 (by decide) rfl ?_
    exact T_wk (L' := [(3, 0), (3, 0)]) (by have q := HJ1; try simp only [if_pos c2] at q; exact q) ⟨Or.inl rfl, Or.inl rfl, trivial⟩
  · skip
    refine T_aload_n (i := 0) (pc' := 25) dX11_draw_24 rfl rfl rfl ?_
    refine U_gf (v := (0, ((mset M 0 13 (m_and (wr32 ((wr32 (1103515245 * (M 0 13))) + 12345)) 2147483647)) 0 13))) (k := 13) (kI := 13) (pc' := 28) dX11_draw_25 rfl cl11 (by decide) rfl (by decide) flX11_92 rfl rfl (by decide) rfl rfl ?_
    refine T_bipush (pc' := 30) dX11_draw_28 rfl (by decide) rfl ?_
    refine T_idiv (pc' := 31) dX11_draw_30 (by decide) rfl ?_
    refine T_iload_n (i := 1) (pc' := 32) dX11_draw_31 rfl rfl rfl ?_
    refine T_irem (pc' := 33) dX11_draw_32 (by omega) rfl ?_
    refine T_goto (pc' := 37) dX11_draw_33 (by decide) ?_
    exact T_wk (L' := [(3, 0), (3, 0)]) (by have q := HJ1; try simp only [if_neg c2] at q; exact q) ⟨Or.inl rfl, Or.inl rfl, trivial⟩
theorem frX11_draw {M : Mem}  {q : Int} (hq0 : q ≠ 0) : (fmX11_draw M) q = M q := by
  unfold fmX11_draw
  repeat' (first | rfl | rw [mset_p hq0] | rw [mcpy_p hq0] | rw [ite_ap] | split)
def fX11_seed (v1 : Int) : Int :=
  (if 0 ≤ v1 then 1 else 0)
def fmX11_seed (M : Mem) (v1 : Int) : Mem :=
  (if 0 ≤ v1 then (mset M 0 13 v1) else M)
theorem gX11_seed {h : Int} {M : Mem} {v1 : Int}  (hG : G h M) : G h (fmX11_seed M v1) := by
  unfold fmX11_seed
  exact (G_ite (G_fld (x := 0) (i := 13) (y := v1) rfl (by decide) (by decide) (by decide) hG) hG)
set_option maxRecDepth 100000 in
theorem pX11_seed {E : EV} {h : Int} {M : Mem} {v1 : Int}  : C2 E miX11_seed 1 h [(2, 0), (0, v1)] M (fun r M' => r = some (0, (fX11_seed v1)) ∧ M' = (fmX11_seed M v1)) := by
  obtain ⟨Q, hQ⟩ : ∃ Q : Option MV → Mem → Prop, Q = (fun r M' => r = some (0, (fX11_seed v1)) ∧ M' = (fmX11_seed M v1)) := ⟨_, rfl⟩
  rw [← hQ]
  refine C2_of (L := [(2, 0), (0, v1)]) (by decide +kernel) (Nat.le_of_ble_eq_true rfl) rfl (fun hG => ?_)
  refine T_iload_n (i := 1) (pc' := 1) dX11_seed_0 rfl rfl rfl ?_
  refine T_if_ge (pc' := 6) dX11_seed_1 (by decide) (pf := 4) rfl (fun c1 => ?_) (fun c1 => ?_)
  · skip
    refine T_aload_n (i := 0) (pc' := 7) dX11_seed_6 rfl rfl rfl ?_
    refine T_iload_n (i := 1) (pc' := 8) dX11_seed_7 rfl rfl rfl ?_
    refine U_pf (y := v1) (k := 13) (kI := 13) (pc' := 11) dX11_seed_8 rfl cl11 (by decide) rfl (by decide) flX11_92 rfl rfl rfl rfl rfl (by decide) (fun z => z) rfl ?_
    refine T_iconst (pc' := 12) dX11_seed_11 (by decide) rfl ?_
    exact T_zret dX11_seed_12 rfl (by decide) ⟨rfl, (G_fld (x := 0) (i := 13) (y := v1) rfl (by decide) (by decide) (by decide) hG), (by rw [hQ]; exact ⟨(by unfold fX11_seed; simp only [if_pos c1]), (by unfold fmX11_seed; simp only [if_pos c1])⟩)⟩
  · skip
    refine T_iconst (pc' := 5) dX11_seed_4 (by decide) rfl ?_
    exact T_zret dX11_seed_5 rfl (by decide) ⟨rfl, hG, (by rw [hQ]; exact ⟨(by unfold fX11_seed; simp only [if_neg c1]), (by unfold fmX11_seed; simp only [if_neg c1])⟩)⟩
theorem frX11_seed {M : Mem} {v1 : Int}  {q : Int} (hq0 : q ≠ 0) : (fmX11_seed M v1) q = M q := by
  unfold fmX11_seed
  repeat' (first | rfl | rw [mset_p hq0] | rw [mcpy_p hq0] | rw [ite_ap] | split)
theorem fbX11_seed (v1 : Int) : (fX11_seed v1) = 0 ∨ (fX11_seed v1) = 1 := by
  unfold fX11_seed
  repeat' (first | apply bi | exact Or.inl rfl | exact Or.inr rfl)
def fX11_hasWatch (M : Mem) (h : Int) (v1 : Int) : Int :=
  (if (fX11_isComer M h v1) = 0 then (0 : Int) else (if (fX11_hasBit (M (h + 1) 7) v1) = 0 then (1 : Int) else 0))
set_option maxRecDepth 100000 in
theorem pX11_hasWatch {E : EV} {h : Int} {M : Mem} {v1 : Int}  : C2 E miX11_hasWatch 3 h [(2, 0), (0, v1)] M (fun r M' => r = some (0, (fX11_hasWatch M h v1)) ∧ M' = M) := by
  obtain ⟨Q, hQ⟩ : ∃ Q : Option MV → Mem → Prop, Q = (fun r M' => r = some (0, (fX11_hasWatch M h v1)) ∧ M' = M) := ⟨_, rfl⟩
  rw [← hQ]
  refine C2_of (L := [(2, 0), (0, v1)]) (by decide +kernel) (Nat.le_of_ble_eq_true rfl) rfl (fun hG => ?_)
  have hh := hG.2.2.2
  refine T_aload_n (i := 0) (pc' := 1) dX11_hasWatch_0 rfl rfl rfl ?_
  refine T_iload_n (i := 1) (pc' := 2) dX11_hasWatch_1 rfl rfl rfl ?_
  refine T_callV (av := [(0, v1)]) (st := []) (d2 := 2) (nc2 := 0) (ns2 := 0) (pc' := 5) dX11_hasWatch_2 rfl mtX11_isComer mvX11_isComer mlX11_257 cl11 rfl rfl rfl (Nat.le_of_ble_eq_true rfl) (by decide) ⟨by decide, by decide⟩ rfl (pX11_isComer (E := E) (h := h) (M := M) (v1 := v1) hG) (kF (st2 := [(0, (fX11_isComer M h v1))]) rfl (fun hG1 => ?_))
  have HJ2 : T E miX11_hasWatch 3 126 0 0 (fun r S M' => S = S0 ∧ G h M' ∧ Q r M') 30 [(3, 0), (3, 0)] [(0, (if (fX11_isComer M h v1) = 0 then (0 : Int) else (if (fX11_hasBit (M (h + 1) 7) v1) = 0 then (1 : Int) else 0)))] S0 M 0 0 := by
    exact T_zret dX11_hasWatch_30 rfl (by repeat' (first | apply bi | exact Or.inl rfl | exact Or.inr rfl | apply fbX11_hasBit | apply fbX11_isComer)) ⟨rfl, hG, (by rw [hQ]; exact ⟨rfl, rfl⟩)⟩
  refine T_if_eq (pc' := 29) dX11_hasWatch_5 (by decide) (pf := 8) rfl (fun c3 => ?_) (fun c3 => ?_)
  · skip
    refine T_iconst (pc' := 30) dX11_hasWatch_29 (by decide) rfl ?_
    exact T_wk (L' := [(3, 0), (3, 0)]) (by have q := HJ2; try simp only [if_pos c3] at q; exact q) ⟨Or.inl rfl, Or.inl rfl, trivial⟩
  · skip
    refine T_aload_n (i := 0) (pc' := 9) dX11_hasWatch_8 rfl rfl rfl ?_
    refine U_gr (q := h) (k := 10) (kI := 10) (pc' := 12) dX11_hasWatch_9 rfl cl11 (by decide) rfl (by decide) flX11_82 rfl rfl rfl hG.2.1 (pog0 hh) rfl ?_
    refine U_grN (q := (h + 1)) (k := 0) (kI := 0) (pc' := 15) dX11_hasWatch_12 rfl cl1 (pog0 hh) (shg0 hh) (by decide) flX11_129 rfl rfl rfl (grg0_0 hh hG) (pog1 hh) rfl ?_
    refine U_gfN (v := (0, (M (h + 1) 7))) (k := 7) (kI := 7) (pc' := 18) dX11_hasWatch_15 rfl cl4 (pog1 hh) (shg1 hh) (by decide) flX11_215 rfl rfl (by decide) rfl rfl ?_
    refine T_iload_n (i := 1) (pc' := 19) dX11_hasWatch_18 rfl rfl rfl ?_
    refine T_callS (av := [(0, (M (h + 1) 7)), (0, v1)]) (st := []) (d2 := 1) (nc2 := 0) (ns2 := 0) (pc' := 22) dX11_hasWatch_19 rfl mtX11_hasBit mvX11_hasBit mlX11_218 rfl rfl (Nat.le_of_ble_eq_true rfl) (by decide) ⟨by decide, by decide⟩ rfl (pX11_hasBit (E := E) (h := h) (M := M) (v0 := (M (h + 1) 7)) (v1 := v1) hG) (kF (st2 := [(0, (fX11_hasBit (M (h + 1) 7) v1))]) rfl (fun hG4 => ?_))
    refine T_if_ne (pc' := 29) dX11_hasWatch_22 (by decide) (pf := 25) rfl (fun c5 => ?_) (fun c5 => ?_)
    · skip
      refine T_iconst (pc' := 30) dX11_hasWatch_29 (by decide) rfl ?_
      exact T_wk (L' := [(3, 0), (3, 0)]) (by have q := HJ2; try simp only [if_neg c3] at q; try simp only [if_neg c5] at q; exact q) ⟨Or.inl rfl, Or.inl rfl, trivial⟩
    · skip
      refine T_iconst (pc' := 26) dX11_hasWatch_25 (by decide) rfl ?_
      refine T_goto (pc' := 30) dX11_hasWatch_26 (by decide) ?_
      exact T_wk (L' := [(3, 0), (3, 0)]) (by have q := HJ2; try simp only [if_neg c3] at q; try simp only [if_pos c5] at q; exact q) ⟨Or.inl rfl, Or.inl rfl, trivial⟩
theorem fbX11_hasWatch (M : Mem) (h : Int) (v1 : Int) : (fX11_hasWatch M h v1) = 0 ∨ (fX11_hasWatch M h v1) = 1 := by
  unfold fX11_hasWatch
  repeat' (first | apply bi | exact Or.inl rfl | exact Or.inr rfl | apply fbX11_hasBit | apply fbX11_isComer)
def fX11_octet (M : Mem) (v1 : Int) : Int :=
  (if v1 < 0 then ((-1) : Int) else (if (M 0 9) ≤ v1 then ((-1) : Int) else (fX11_get M 31 34 v1)))
set_option maxRecDepth 100000 in
theorem pX11_octet {E : EV} {h : Int} {M : Mem} {v1 : Int}  : C2 E miX11_octet 2 h [(2, 0), (0, v1)] M (fun r M' => r = some (0, (fX11_octet M v1)) ∧ M' = M) := by
  obtain ⟨Q, hQ⟩ : ∃ Q : Option MV → Mem → Prop, Q = (fun r M' => r = some (0, (fX11_octet M v1)) ∧ M' = M) := ⟨_, rfl⟩
  rw [← hQ]
  refine C2_of (L := [(2, 0), (0, v1)]) (by decide +kernel) (Nat.le_of_ble_eq_true rfl) rfl (fun hG => ?_)
  refine T_iload_n (i := 1) (pc' := 1) dX11_octet_0 rfl rfl rfl ?_
  have HJ1 : T E miX11_octet 2 126 0 0 (fun r S M' => S = S0 ∧ G h M' ∧ Q r M') 24 [(3, 0), (3, 0)] [(0, (if v1 < 0 then ((-1) : Int) else (if (M 0 9) ≤ v1 then ((-1) : Int) else (fX11_get M 31 34 v1))))] S0 M 0 0 := by
    exact T_iret dX11_octet_24 rfl ⟨rfl, hG, (by rw [hQ]; exact ⟨rfl, rfl⟩)⟩
  refine T_if_lt (pc' := 23) dX11_octet_1 (by decide) (pf := 4) rfl (fun c2 => ?_) (fun c2 => ?_)
  · skip
    refine T_iconst (pc' := 24) dX11_octet_23 (by decide) rfl ?_
    exact T_wk (L' := [(3, 0), (3, 0)]) (by have q := HJ1; try simp only [if_pos c2] at q; exact q) ⟨Or.inl rfl, Or.inl rfl, trivial⟩
  · skip
    refine T_iload_n (i := 1) (pc' := 5) dX11_octet_4 rfl rfl rfl ?_
    refine T_aload_n (i := 0) (pc' := 6) dX11_octet_5 rfl rfl rfl ?_
    refine U_gf (v := (0, (M 0 9))) (k := 9) (kI := 9) (pc' := 9) dX11_octet_6 rfl cl11 (by decide) rfl (by decide) flX11_75 rfl rfl (by decide) rfl rfl ?_
    refine T_icmp_ge (pc' := 23) dX11_octet_9 (by decide) (pf := 12) rfl (fun c3 => ?_) (fun c3 => ?_)
    · skip
      refine T_iconst (pc' := 24) dX11_octet_23 (by decide) rfl ?_
      exact T_wk (L' := [(3, 0), (3, 0)]) (by have q := HJ1; try simp only [if_neg c2] at q; try simp only [if_pos c3] at q; exact q) ⟨Or.inl rfl, Or.inl rfl, trivial⟩
    · skip
      refine T_aload_n (i := 0) (pc' := 13) dX11_octet_12 rfl rfl rfl ?_
      refine U_gr (q := 31) (k := 8) (kI := 8) (pc' := 16) dX11_octet_13 rfl cl11 (by decide) rfl (by decide) flX11_71 rfl rfl rfl (G_at hG 8 rfl) (by decide) rfl ?_
      refine T_iload_n (i := 1) (pc' := 17) dX11_octet_16 rfl rfl rfl ?_
      refine T_callS (av := [(2, 31), (0, v1)]) (st := []) (d2 := 1) (nc2 := 0) (ns2 := 0) (pc' := 20) dX11_octet_17 rfl mtX11_get mvX11_get mlX11_189 rfl rfl (Nat.le_of_ble_eq_true rfl) (by decide) ⟨by decide, by decide⟩ rfl (pX11_get (E := E) (h := h) (M := M) (p0 := 31) (np0 := 34) (v1 := v1) (by decide) rfl (by decide) hG) (kF (st2 := [(0, (fX11_get M 31 34 v1))]) rfl (fun hG4 => ?_))
      refine T_goto (pc' := 24) dX11_octet_20 (by decide) ?_
      exact T_wk (L' := [(3, 0), (3, 0)]) (by have q := HJ1; try simp only [if_neg c2] at q; try simp only [if_neg c3] at q; exact q) ⟨Or.inl rfl, Or.inl rfl, trivial⟩
def fX12_isIn (v0 : Int) (v2 : Int) (v4 : Int) : Int :=
  (if (m_cmp v0 v2) < 0 then (0 : Int) else (if 0 < (m_cmp v0 v4) then (0 : Int) else 1))
set_option maxRecDepth 100000 in
theorem pX12_isIn {E : EV} {h : Int} {M : Mem} {v0 : Int} {v2 : Int} {v4 : Int}  : C2 E miX12_isIn 1 h [(1, v0), (1, v2), (1, v4)] M (fun r M' => r = some (0, (fX12_isIn v0 v2 v4)) ∧ M' = M) := by
  obtain ⟨Q, hQ⟩ : ∃ Q : Option MV → Mem → Prop, Q = (fun r M' => r = some (0, (fX12_isIn v0 v2 v4)) ∧ M' = M) := ⟨_, rfl⟩
  rw [← hQ]
  refine C2_of (L := [(1, v0), (3, 0), (1, v2), (3, 0), (1, v4), (3, 0)]) (by decide +kernel) (Nat.le_of_ble_eq_true rfl) rfl (fun hG => ?_)
  refine T_lload_n (i := 0) (pc' := 1) dX12_isIn_0 rfl rfl rfl ?_
  refine T_lload_n (i := 2) (pc' := 2) dX12_isIn_1 rfl rfl rfl ?_
  refine T_lcmp (pc' := 3) dX12_isIn_2 rfl ?_
  have HJ1 : T E miX12_isIn 1 126 0 0 (fun r S M' => S = S0 ∧ G h M' ∧ Q r M') 18 [(3, 0), (3, 0), (3, 0), (3, 0), (3, 0), (3, 0)] [(0, (if (m_cmp v0 v2) < 0 then (0 : Int) else (if 0 < (m_cmp v0 v4) then (0 : Int) else 1)))] S0 M 0 0 := by
    exact T_zret dX12_isIn_18 rfl (by repeat' (first | apply bi | exact Or.inl rfl | exact Or.inr rfl)) ⟨rfl, hG, (by rw [hQ]; exact ⟨rfl, rfl⟩)⟩
  refine T_if_lt (pc' := 17) dX12_isIn_3 (by decide) (pf := 6) rfl (fun c2 => ?_) (fun c2 => ?_)
  · skip
    refine T_iconst (pc' := 18) dX12_isIn_17 (by decide) rfl ?_
    exact T_wk (L' := [(3, 0), (3, 0), (3, 0), (3, 0), (3, 0), (3, 0)]) (by have q := HJ1; try simp only [if_pos c2] at q; exact q) ⟨Or.inl rfl, Or.inl rfl, Or.inl rfl, Or.inl rfl, Or.inl rfl, Or.inl rfl, trivial⟩
  · skip
    refine T_lload_n (i := 0) (pc' := 7) dX12_isIn_6 rfl rfl rfl ?_
    refine T_lload (i := 4) (pc' := 9) dX12_isIn_7 rfl rfl ?_
    refine T_lcmp (pc' := 10) dX12_isIn_9 rfl ?_
    refine T_if_gt (pc' := 17) dX12_isIn_10 (by decide) (pf := 13) rfl (fun c3 => ?_) (fun c3 => ?_)
    · skip
      refine T_iconst (pc' := 18) dX12_isIn_17 (by decide) rfl ?_
      exact T_wk (L' := [(3, 0), (3, 0), (3, 0), (3, 0), (3, 0), (3, 0)]) (by have q := HJ1; try simp only [if_neg c2] at q; try simp only [if_pos c3] at q; exact q) ⟨Or.inl rfl, Or.inl rfl, Or.inl rfl, Or.inl rfl, Or.inl rfl, Or.inl rfl, trivial⟩
    · skip
      refine T_iconst (pc' := 14) dX12_isIn_13 (by decide) rfl ?_
      refine T_goto (pc' := 18) dX12_isIn_14 (by decide) ?_
      exact T_wk (L' := [(3, 0), (3, 0), (3, 0), (3, 0), (3, 0), (3, 0)]) (by have q := HJ1; try simp only [if_neg c2] at q; try simp only [if_neg c3] at q; exact q) ⟨Or.inl rfl, Or.inl rfl, Or.inl rfl, Or.inl rfl, Or.inl rfl, Or.inl rfl, trivial⟩
theorem fbX12_isIn (v0 : Int) (v2 : Int) (v4 : Int) : (fX12_isIn v0 v2 v4) = 0 ∨ (fX12_isIn v0 v2 v4) = 1 := by
  unfold fX12_isIn
  repeat' (first | apply bi | exact Or.inl rfl | exact Or.inr rfl)
def fX12_end (M : Mem) (v1 : Int) : Int :=
  (if v1 < 0 then 0 else (if v1 ≤ (M 66 1) then 1 else 0))
def fmX12_end (M : Mem) (v1 : Int) : Mem :=
  (if v1 < 0 then M else (if v1 ≤ (M 66 1) then (mset M 66 1 v1) else M))
theorem gX12_end {h : Int} {M : Mem} {v1 : Int}  (hG : G h M) : G h (fmX12_end M v1) := by
  unfold fmX12_end
  exact (G_ite hG (G_ite (G_fld (x := 66) (i := 1) (y := v1) rfl (by decide) (by decide) (by decide) hG) hG))
set_option maxRecDepth 100000 in
theorem pX12_end {E : EV} {h : Int} {M : Mem} {v1 : Int}  : C2 E miX12_end 1 h [(2, 66), (0, v1)] M (fun r M' => r = some (0, (fX12_end M v1)) ∧ M' = (fmX12_end M v1)) := by
  obtain ⟨Q, hQ⟩ : ∃ Q : Option MV → Mem → Prop, Q = (fun r M' => r = some (0, (fX12_end M v1)) ∧ M' = (fmX12_end M v1)) := ⟨_, rfl⟩
  rw [← hQ]
  refine C2_of (L := [(2, 66), (0, v1)]) (by decide +kernel) (Nat.le_of_ble_eq_true rfl) rfl (fun hG => ?_)
  refine T_iload_n (i := 1) (pc' := 1) dX12_end_0 rfl rfl rfl ?_
  refine T_if_lt (pc' := 12) dX12_end_1 (by decide) (pf := 4) rfl (fun c1 => ?_) (fun c1 => ?_)
  · skip
    refine T_iconst (pc' := 13) dX12_end_12 (by decide) rfl ?_
    exact T_zret dX12_end_13 rfl (by decide) ⟨rfl, hG, (by rw [hQ]; exact ⟨(by unfold fX12_end; simp only [if_pos c1]), (by unfold fmX12_end; simp only [if_pos c1])⟩)⟩
  · skip
    refine T_iload_n (i := 1) (pc' := 5) dX12_end_4 rfl rfl rfl ?_
    refine T_aload_n (i := 0) (pc' := 6) dX12_end_5 rfl rfl rfl ?_
    refine U_gf (v := (0, (M 66 1))) (k := 1) (kI := 1) (pc' := 9) dX12_end_6 rfl cl12 (by decide) rfl (by decide) flX12_198 rfl rfl (by decide) rfl rfl ?_
    refine T_icmp_le (pc' := 14) dX12_end_9 (by decide) (pf := 12) rfl (fun c2 => ?_) (fun c2 => ?_)
    · skip
      refine T_aload_n (i := 0) (pc' := 15) dX12_end_14 rfl rfl rfl ?_
      refine T_iload_n (i := 1) (pc' := 16) dX12_end_15 rfl rfl rfl ?_
      refine U_pf (y := v1) (k := 1) (kI := 1) (pc' := 19) dX12_end_16 rfl cl12 (by decide) rfl (by decide) flX12_198 rfl rfl rfl rfl rfl (by decide) (fun z => z) rfl ?_
      refine T_iconst (pc' := 20) dX12_end_19 (by decide) rfl ?_
      exact T_zret dX12_end_20 rfl (by decide) ⟨rfl, (G_fld (x := 66) (i := 1) (y := v1) rfl (by decide) (by decide) (by decide) hG), (by rw [hQ]; exact ⟨(by unfold fX12_end; simp only [if_neg c1, if_pos c2]), (by unfold fmX12_end; simp only [if_neg c1, if_pos c2])⟩)⟩
    · skip
      refine T_iconst (pc' := 13) dX12_end_12 (by decide) rfl ?_
      exact T_zret dX12_end_13 rfl (by decide) ⟨rfl, hG, (by rw [hQ]; exact ⟨(by unfold fX12_end; simp only [if_neg c1, if_neg c2]), (by unfold fmX12_end; simp only [if_neg c1, if_neg c2])⟩)⟩
theorem frX12_end {M : Mem} {v1 : Int}  {q : Int} (hq0 : q ≠ 66) : (fmX12_end M v1) q = M q := by
  unfold fmX12_end
  repeat' (first | rfl | rw [mset_p hq0] | rw [mcpy_p hq0] | rw [ite_ap] | split)
theorem fbX12_end (M : Mem) (v1 : Int) : (fX12_end M v1) = 0 ∨ (fX12_end M v1) = 1 := by
  unfold fX12_end
  repeat' (first | apply bi | exact Or.inl rfl | exact Or.inr rfl)
def fmX12_fail (M : Mem) (v1 : Int) (v2 : Int) : Mem :=
  (if (M 66 5) = 0 then (mset (mset M 66 5 v1) 66 6 v2) else M)
theorem gX12_fail {h : Int} {M : Mem} {v1 : Int} {v2 : Int}  (hG : G h M) : G h (fmX12_fail M v1 v2) := by
  unfold fmX12_fail
  exact (G_ite (G_fld (x := 66) (i := 6) (y := v2) rfl (by decide) (by decide) (by decide) (G_fld (x := 66) (i := 5) (y := v1) rfl (by decide) (by decide) (by decide) hG)) hG)
set_option maxRecDepth 100000 in
theorem pX12_fail {E : EV} {h : Int} {M : Mem} {v1 : Int} {v2 : Int}  : C2 E miX12_fail 1 h [(2, 66), (0, v1), (0, v2)] M (fun r M' => r = none ∧ M' = (fmX12_fail M v1 v2)) := by
  obtain ⟨Q, hQ⟩ : ∃ Q : Option MV → Mem → Prop, Q = (fun r M' => r = none ∧ M' = (fmX12_fail M v1 v2)) := ⟨_, rfl⟩
  rw [← hQ]
  refine C2_of (L := [(2, 66), (0, v1), (0, v2)]) (by decide +kernel) (Nat.le_of_ble_eq_true rfl) rfl (fun hG => ?_)
  refine T_aload_n (i := 0) (pc' := 1) dX12_fail_0 rfl rfl rfl ?_
  refine U_gf (v := (0, (M 66 5))) (k := 5) (kI := 5) (pc' := 4) dX12_fail_1 rfl cl12 (by decide) rfl (by decide) flX12_201 rfl rfl (by decide) rfl rfl ?_
  refine T_if_eq (pc' := 8) dX12_fail_4 (by decide) (pf := 7) rfl (fun c1 => ?_) (fun c1 => ?_)
  · skip
    refine T_aload_n (i := 0) (pc' := 9) dX12_fail_8 rfl rfl rfl ?_
    refine T_iload_n (i := 1) (pc' := 10) dX12_fail_9 rfl rfl rfl ?_
    refine U_pf (y := v1) (k := 5) (kI := 5) (pc' := 13) dX12_fail_10 rfl cl12 (by decide) rfl (by decide) flX12_201 rfl rfl rfl rfl rfl (by decide) (fun z => z) rfl ?_
    refine T_aload_n (i := 0) (pc' := 14) dX12_fail_13 rfl rfl rfl ?_
    refine T_iload_n (i := 2) (pc' := 15) dX12_fail_14 rfl rfl rfl ?_
    refine U_pf (y := v2) (k := 6) (kI := 6) (pc' := 18) dX12_fail_15 rfl cl12 (by decide) rfl (by decide) flX12_204 rfl rfl rfl rfl rfl (by decide) (fun z => z) rfl ?_
    exact T_vret dX12_fail_18 rfl ⟨rfl, (G_fld (x := 66) (i := 6) (y := v2) rfl (by decide) (by decide) (by decide) (G_fld (x := 66) (i := 5) (y := v1) rfl (by decide) (by decide) (by decide) hG)), (by rw [hQ]; exact ⟨rfl, (by unfold fmX12_fail; simp only [if_pos c1])⟩)⟩
  · skip
    exact T_vret dX12_fail_7 rfl ⟨rfl, hG, (by rw [hQ]; exact ⟨rfl, (by unfold fmX12_fail; simp only [if_neg c1])⟩)⟩
theorem frX12_fail {M : Mem} {v1 : Int} {v2 : Int}  {q : Int} (hq0 : q ≠ 66) : (fmX12_fail M v1 v2) q = M q := by
  unfold fmX12_fail
  repeat' (first | rfl | rw [mset_p hq0] | rw [mcpy_p hq0] | rw [ite_ap] | split)
def fX12_isLetter (v0 : Int) : Int :=
  (if v0 < 97 then (0 : Int) else (if 122 < v0 then (0 : Int) else 1))
set_option maxRecDepth 100000 in
theorem pX12_isLetter {E : EV} {h : Int} {M : Mem} {v0 : Int}  : C2 E miX12_isLetter 1 h [(0, v0)] M (fun r M' => r = some (0, (fX12_isLetter v0)) ∧ M' = M) := by
  obtain ⟨Q, hQ⟩ : ∃ Q : Option MV → Mem → Prop, Q = (fun r M' => r = some (0, (fX12_isLetter v0)) ∧ M' = M) := ⟨_, rfl⟩
  rw [← hQ]
  refine C2_of (L := [(0, v0)]) (by decide +kernel) (Nat.le_of_ble_eq_true rfl) rfl (fun hG => ?_)
  refine T_iload_n (i := 0) (pc' := 1) dX12_isLetter_0 rfl rfl rfl ?_
  refine T_bipush (pc' := 3) dX12_isLetter_1 rfl (by decide) rfl ?_
  have HJ1 : T E miX12_isLetter 1 126 0 0 (fun r S M' => S = S0 ∧ G h M' ∧ Q r M') 17 [(3, 0)] [(0, (if v0 < 97 then (0 : Int) else (if 122 < v0 then (0 : Int) else 1)))] S0 M 0 0 := by
    exact T_zret dX12_isLetter_17 rfl (by repeat' (first | apply bi | exact Or.inl rfl | exact Or.inr rfl)) ⟨rfl, hG, (by rw [hQ]; exact ⟨rfl, rfl⟩)⟩
  refine T_icmp_lt (pc' := 16) dX12_isLetter_3 (by decide) (pf := 6) rfl (fun c2 => ?_) (fun c2 => ?_)
  · skip
    refine T_iconst (pc' := 17) dX12_isLetter_16 (by decide) rfl ?_
    exact T_wk (L' := [(3, 0)]) (by have q := HJ1; try simp only [if_pos c2] at q; exact q) ⟨Or.inl rfl, trivial⟩
  · skip
    refine T_iload_n (i := 0) (pc' := 7) dX12_isLetter_6 rfl rfl rfl ?_
    refine T_bipush (pc' := 9) dX12_isLetter_7 rfl (by decide) rfl ?_
    refine T_icmp_gt (pc' := 16) dX12_isLetter_9 (by decide) (pf := 12) rfl (fun c3 => ?_) (fun c3 => ?_)
    · skip
      refine T_iconst (pc' := 17) dX12_isLetter_16 (by decide) rfl ?_
      exact T_wk (L' := [(3, 0)]) (by have q := HJ1; try simp only [if_neg c2] at q; try simp only [if_pos c3] at q; exact q) ⟨Or.inl rfl, trivial⟩
    · skip
      refine T_iconst (pc' := 13) dX12_isLetter_12 (by decide) rfl ?_
      refine T_goto (pc' := 17) dX12_isLetter_13 (by decide) ?_
      exact T_wk (L' := [(3, 0)]) (by have q := HJ1; try simp only [if_neg c2] at q; try simp only [if_neg c3] at q; exact q) ⟨Or.inl rfl, trivial⟩
theorem fbX12_isLetter (v0 : Int) : (fX12_isLetter v0) = 0 ∨ (fX12_isLetter v0) = 1 := by
  unfold fX12_isLetter
  repeat' (first | apply bi | exact Or.inl rfl | exact Or.inr rfl)
def fX12_isDigit (v0 : Int) : Int :=
  (if v0 < 48 then (0 : Int) else (if 57 < v0 then (0 : Int) else 1))
set_option maxRecDepth 100000 in
theorem pX12_isDigit {E : EV} {h : Int} {M : Mem} {v0 : Int}  : C2 E miX12_isDigit 1 h [(0, v0)] M (fun r M' => r = some (0, (fX12_isDigit v0)) ∧ M' = M) := by
  obtain ⟨Q, hQ⟩ : ∃ Q : Option MV → Mem → Prop, Q = (fun r M' => r = some (0, (fX12_isDigit v0)) ∧ M' = M) := ⟨_, rfl⟩
  rw [← hQ]
  refine C2_of (L := [(0, v0)]) (by decide +kernel) (Nat.le_of_ble_eq_true rfl) rfl (fun hG => ?_)
  refine T_iload_n (i := 0) (pc' := 1) dX12_isDigit_0 rfl rfl rfl ?_
  refine T_bipush (pc' := 3) dX12_isDigit_1 rfl (by decide) rfl ?_
  have HJ1 : T E miX12_isDigit 1 126 0 0 (fun r S M' => S = S0 ∧ G h M' ∧ Q r M') 17 [(3, 0)] [(0, (if v0 < 48 then (0 : Int) else (if 57 < v0 then (0 : Int) else 1)))] S0 M 0 0 := by
    exact T_zret dX12_isDigit_17 rfl (by repeat' (first | apply bi | exact Or.inl rfl | exact Or.inr rfl)) ⟨rfl, hG, (by rw [hQ]; exact ⟨rfl, rfl⟩)⟩
  refine T_icmp_lt (pc' := 16) dX12_isDigit_3 (by decide) (pf := 6) rfl (fun c2 => ?_) (fun c2 => ?_)
  · skip
    refine T_iconst (pc' := 17) dX12_isDigit_16 (by decide) rfl ?_
    exact T_wk (L' := [(3, 0)]) (by have q := HJ1; try simp only [if_pos c2] at q; exact q) ⟨Or.inl rfl, trivial⟩
  · skip
    refine T_iload_n (i := 0) (pc' := 7) dX12_isDigit_6 rfl rfl rfl ?_
    refine T_bipush (pc' := 9) dX12_isDigit_7 rfl (by decide) rfl ?_
    refine T_icmp_gt (pc' := 16) dX12_isDigit_9 (by decide) (pf := 12) rfl (fun c3 => ?_) (fun c3 => ?_)
    · skip
      refine T_iconst (pc' := 17) dX12_isDigit_16 (by decide) rfl ?_
      exact T_wk (L' := [(3, 0)]) (by have q := HJ1; try simp only [if_neg c2] at q; try simp only [if_pos c3] at q; exact q) ⟨Or.inl rfl, trivial⟩
    · skip
      refine T_iconst (pc' := 13) dX12_isDigit_12 (by decide) rfl ?_
      refine T_goto (pc' := 17) dX12_isDigit_13 (by decide) ?_
      exact T_wk (L' := [(3, 0)]) (by have q := HJ1; try simp only [if_neg c2] at q; try simp only [if_neg c3] at q; exact q) ⟨Or.inl rfl, trivial⟩
theorem fbX12_isDigit (v0 : Int) : (fX12_isDigit v0) = 0 ∨ (fX12_isDigit v0) = 1 := by
  unfold fX12_isDigit
  repeat' (first | apply bi | exact Or.inl rfl | exact Or.inr rfl)
def fX12_isFull (M : Mem) (v1 : Int) (v2 : Int) (v3 : Int) : Int :=
  (if ((if (M 66 5) = 0 then (if (M 85 v1) = v2 then (fmX12_fail M 5 v3) else M) else M) 66 5) = 0 then (0 : Int) else 1)
def fmX12_isFull (M : Mem) (v1 : Int) (v2 : Int) (v3 : Int) : Mem :=
  (if (M 66 5) = 0 then (if (M 85 v1) = v2 then (fmX12_fail M 5 v3) else M) else M)
def nX12_isFull (M : Mem) (v1 : Int) : Prop :=
  ((M 66 5) = 0 → 0 ≤ v1 ∧ v1 < 6)
theorem gX12_isFull {h : Int} {M : Mem} {v1 : Int} {v2 : Int} {v3 : Int}  (hG : G h M) : G h (fmX12_isFull M v1 v2 v3) := by
  unfold fmX12_isFull
  exact (G_ite (G_ite (gX12_fail (h := h) (M := M) (v1 := 5) (v2 := v3) hG) hG) hG)
set_option maxRecDepth 100000 in
theorem pX12_isFull {E : EV} {h : Int} {M : Mem} {v1 : Int} {v2 : Int} {v3 : Int} (hs : (nX12_isFull M v1)) : C2 E miX12_isFull 2 h [(2, 66), (0, v1), (0, v2), (0, v3)] M (fun r M' => r = some (0, (fX12_isFull M v1 v2 v3)) ∧ M' = (fmX12_isFull M v1 v2 v3)) := by
  obtain ⟨Q, hQ⟩ : ∃ Q : Option MV → Mem → Prop, Q = (fun r M' => r = some (0, (fX12_isFull M v1 v2 v3)) ∧ M' = (fmX12_isFull M v1 v2 v3)) := ⟨_, rfl⟩
  rw [← hQ]
  have o1 := hs
  refine C2_of (L := [(2, 66), (0, v1), (0, v2), (0, v3)]) (by decide +kernel) (Nat.le_of_ble_eq_true rfl) rfl (fun hG => ?_)
  refine T_aload_n (i := 0) (pc' := 1) dX12_isFull_0 rfl rfl rfl ?_
  refine U_gf (v := (0, (M 66 5))) (k := 5) (kI := 5) (pc' := 4) dX12_isFull_1 rfl cl12 (by decide) rfl (by decide) flX12_201 rfl rfl (by decide) rfl rfl ?_
  have HJ1 : T E miX12_isFull 2 126 0 0 (fun r S M' => S = S0 ∧ G h M' ∧ Q r M') 23 [(2, 66), (3, 0), (3, 0), (3, 0)] [] S0 (if (M 66 5) = 0 then (if (M 85 v1) = v2 then (fmX12_fail M 5 v3) else M) else M) 0 0 := by
    refine T_aload_n (i := 0) (pc' := 24) dX12_isFull_23 rfl rfl rfl ?_
    refine U_gf (v := (0, ((if (M 66 5) = 0 then (if (M 85 v1) = v2 then (fmX12_fail M 5 v3) else M) else M) 66 5))) (k := 5) (kI := 5) (pc' := 27) dX12_isFull_24 rfl cl12 (by decide) rfl (by decide) flX12_201 rfl rfl (by decide) rfl rfl ?_
    have HJ2 : T E miX12_isFull 2 126 0 0 (fun r S M' => S = S0 ∧ G h M' ∧ Q r M') 35 [(3, 0), (3, 0), (3, 0), (3, 0)] [(0, (if ((if (M 66 5) = 0 then (if (M 85 v1) = v2 then (fmX12_fail M 5 v3) else M) else M) 66 5) = 0 then (0 : Int) else 1))] S0 (if (M 66 5) = 0 then (if (M 85 v1) = v2 then (fmX12_fail M 5 v3) else M) else M) 0 0 := by
      exact T_zret dX12_isFull_35 rfl (by repeat' (first | apply bi | exact Or.inl rfl | exact Or.inr rfl)) ⟨rfl, (G_ite (G_ite (gX12_fail (h := h) (M := M) (v1 := 5) (v2 := v3) hG) hG) hG), (by rw [hQ]; exact ⟨rfl, rfl⟩)⟩
    refine T_if_eq (pc' := 34) dX12_isFull_27 (by decide) (pf := 30) rfl (fun c3 => ?_) (fun c3 => ?_)
    · skip
      refine T_iconst (pc' := 35) dX12_isFull_34 (by decide) rfl ?_
      exact T_wk (L' := [(3, 0), (3, 0), (3, 0), (3, 0)]) (by have q := HJ2; try simp only [if_pos c3] at q; exact q) ⟨Or.inl rfl, Or.inl rfl, Or.inl rfl, Or.inl rfl, trivial⟩
    · skip
      refine T_iconst (pc' := 31) dX12_isFull_30 (by decide) rfl ?_
      refine T_goto (pc' := 35) dX12_isFull_31 (by decide) ?_
      exact T_wk (L' := [(3, 0), (3, 0), (3, 0), (3, 0)]) (by have q := HJ2; try simp only [if_neg c3] at q; exact q) ⟨Or.inl rfl, Or.inl rfl, Or.inl rfl, Or.inl rfl, trivial⟩
  refine T_if_ne (pc' := 23) dX12_isFull_4 (by decide) (pf := 7) rfl (fun c4 => ?_) (fun c4 => ?_)
  · skip
    exact T_wk (L' := [(2, 66), (3, 0), (3, 0), (3, 0)]) (by have q := HJ1; try simp only [if_neg c4] at q; exact q) ⟨Or.inr rfl, Or.inl rfl, Or.inl rfl, Or.inl rfl, trivial⟩
  · skip
    refine T_aload_n (i := 0) (pc' := 8) dX12_isFull_7 rfl rfl rfl ?_
    refine U_gr (q := 85) (k := 28) (kI := 28) (pc' := 11) dX12_isFull_8 rfl cl12 (by decide) rfl (by decide) flX12_69 rfl rfl rfl (G_at hG 85 rfl) (by decide) rfl ?_
    refine T_iload_n (i := 1) (pc' := 12) dX12_isFull_11 rfl rfl rfl ?_
    refine T_iald (pc' := 13) dX12_isFull_12 (by decide) rfl (o1 c4).1 (o1 c4).2 rfl ?_
    refine T_iload_n (i := 2) (pc' := 14) dX12_isFull_13 rfl rfl rfl ?_
    refine T_icmp_ne (pc' := 23) dX12_isFull_14 (by decide) (pf := 17) rfl (fun c5 => ?_) (fun c5 => ?_)
    · skip
      exact T_wk (L' := [(2, 66), (3, 0), (3, 0), (3, 0)]) (by have q := HJ1; try simp only [if_pos c4] at q; try simp only [if_neg c5] at q; exact q) ⟨Or.inr rfl, Or.inl rfl, Or.inl rfl, Or.inl rfl, trivial⟩
    · skip
      refine T_aload_n (i := 0) (pc' := 18) dX12_isFull_17 rfl rfl rfl ?_
      refine T_iconst (pc' := 19) dX12_isFull_18 (by decide) rfl ?_
      refine T_iload_n (i := 3) (pc' := 20) dX12_isFull_19 rfl rfl rfl ?_
      refine T_callV (av := [(0, 5), (0, v3)]) (st := []) (d2 := 1) (nc2 := 0) (ns2 := 0) (pc' := 23) dX12_isFull_20 rfl mtX12_fail mvX12_fail mlX12_231 cl12 rfl rfl rfl (Nat.le_of_ble_eq_true rfl) (by decide) ⟨by decide, by decide⟩ rfl (pX12_fail (E := E) (h := h) (M := M) (v1 := 5) (v2 := v3) hG) (kF (st2 := []) rfl (fun hG6 => ?_))
      exact T_wk (L' := [(2, 66), (3, 0), (3, 0), (3, 0)]) (by have q := HJ1; try simp only [if_pos c4] at q; try simp only [if_pos c5] at q; exact q) ⟨Or.inr rfl, Or.inl rfl, Or.inl rfl, Or.inl rfl, trivial⟩
theorem frX12_isFull {M : Mem} {v1 : Int} {v2 : Int} {v3 : Int}  {q : Int} (hq0 : q ≠ 66) : (fmX12_isFull M v1 v2 v3) q = M q := by
  unfold fmX12_isFull
  repeat' (first | rfl | rw [mset_p hq0] | rw [mcpy_p hq0] | (rw [frX12_fail] <;> try assumption) | rw [ite_ap] | split)
theorem fbX12_isFull (M : Mem) (v1 : Int) (v2 : Int) (v3 : Int) : (fX12_isFull M v1 v2 v3) = 0 ∨ (fX12_isFull M v1 v2 v3) = 1 := by
  unfold fX12_isFull
  repeat' (first | apply bi | exact Or.inl rfl | exact Or.inr rfl)
def fX12_stepOf (v0 : Int) : Int :=
  (if v0 = 110 then (0 : Int) else (if v0 = 101 then (1 : Int) else (if v0 = 115 then (2 : Int) else (if v0 = 119 then (3 : Int) else (if v0 = 120 then (4 : Int) else (-1))))))
set_option maxRecDepth 100000 in
theorem pX12_stepOf {E : EV} {h : Int} {M : Mem} {v0 : Int}  : C2 E miX12_stepOf 1 h [(0, v0)] M (fun r M' => r = some (0, (fX12_stepOf v0)) ∧ M' = M) := by
  obtain ⟨Q, hQ⟩ : ∃ Q : Option MV → Mem → Prop, Q = (fun r M' => r = some (0, (fX12_stepOf v0)) ∧ M' = M) := ⟨_, rfl⟩
  rw [← hQ]
  refine C2_of (L := [(0, v0)]) (by decide +kernel) (Nat.le_of_ble_eq_true rfl) rfl (fun hG => ?_)
  refine T_iload_n (i := 0) (pc' := 1) dX12_stepOf_0 rfl rfl rfl ?_
  refine T_bipush (pc' := 3) dX12_stepOf_1 rfl (by decide) rfl ?_
  have HJ1 : T E miX12_stepOf 1 126 0 0 (fun r S M' => S = S0 ∧ G h M' ∧ Q r M') 51 [(3, 0)] [(0, (if v0 = 110 then (0 : Int) else (if v0 = 101 then (1 : Int) else (if v0 = 115 then (2 : Int) else (if v0 = 119 then (3 : Int) else (if v0 = 120 then (4 : Int) else (-1)))))))] S0 M 0 0 := by
    exact T_iret dX12_stepOf_51 rfl ⟨rfl, hG, (by rw [hQ]; exact ⟨rfl, rfl⟩)⟩
  refine T_icmp_ne (pc' := 10) dX12_stepOf_3 (by decide) (pf := 6) rfl (fun c2 => ?_) (fun c2 => ?_)
  · skip
    refine T_iload_n (i := 0) (pc' := 11) dX12_stepOf_10 rfl rfl rfl ?_
    refine T_bipush (pc' := 13) dX12_stepOf_11 rfl (by decide) rfl ?_
    refine T_icmp_ne (pc' := 20) dX12_stepOf_13 (by decide) (pf := 16) rfl (fun c3 => ?_) (fun c3 => ?_)
    · skip
      refine T_iload_n (i := 0) (pc' := 21) dX12_stepOf_20 rfl rfl rfl ?_
      refine T_bipush (pc' := 23) dX12_stepOf_21 rfl (by decide) rfl ?_
      refine T_icmp_ne (pc' := 30) dX12_stepOf_23 (by decide) (pf := 26) rfl (fun c4 => ?_) (fun c4 => ?_)
      · skip
        refine T_iload_n (i := 0) (pc' := 31) dX12_stepOf_30 rfl rfl rfl ?_
        refine T_bipush (pc' := 33) dX12_stepOf_31 rfl (by decide) rfl ?_
        refine T_icmp_ne (pc' := 40) dX12_stepOf_33 (by decide) (pf := 36) rfl (fun c5 => ?_) (fun c5 => ?_)
        · skip
          refine T_iload_n (i := 0) (pc' := 41) dX12_stepOf_40 rfl rfl rfl ?_
          refine T_bipush (pc' := 43) dX12_stepOf_41 rfl (by decide) rfl ?_
          refine T_icmp_ne (pc' := 50) dX12_stepOf_43 (by decide) (pf := 46) rfl (fun c6 => ?_) (fun c6 => ?_)
          · skip
            refine T_iconst (pc' := 51) dX12_stepOf_50 (by decide) rfl ?_
            exact T_wk (L' := [(3, 0)]) (by have q := HJ1; try simp only [if_neg c2] at q; try simp only [if_neg c3] at q; try simp only [if_neg c4] at q; try simp only [if_neg c5] at q; try simp only [if_neg c6] at q; exact q) ⟨Or.inl rfl, trivial⟩
          · skip
            refine T_iconst (pc' := 47) dX12_stepOf_46 (by decide) rfl ?_
            refine T_goto (pc' := 51) dX12_stepOf_47 (by decide) ?_
            exact T_wk (L' := [(3, 0)]) (by have q := HJ1; try simp only [if_neg c2] at q; try simp only [if_neg c3] at q; try simp only [if_neg c4] at q; try simp only [if_neg c5] at q; try simp only [if_pos c6] at q; exact q) ⟨Or.inl rfl, trivial⟩
        · skip
          refine T_iconst (pc' := 37) dX12_stepOf_36 (by decide) rfl ?_
          refine T_goto (pc' := 51) dX12_stepOf_37 (by decide) ?_
          exact T_wk (L' := [(3, 0)]) (by have q := HJ1; try simp only [if_neg c2] at q; try simp only [if_neg c3] at q; try simp only [if_neg c4] at q; try simp only [if_pos c5] at q; exact q) ⟨Or.inl rfl, trivial⟩
      · skip
        refine T_iconst (pc' := 27) dX12_stepOf_26 (by decide) rfl ?_
        refine T_goto (pc' := 51) dX12_stepOf_27 (by decide) ?_
        exact T_wk (L' := [(3, 0)]) (by have q := HJ1; try simp only [if_neg c2] at q; try simp only [if_neg c3] at q; try simp only [if_pos c4] at q; exact q) ⟨Or.inl rfl, trivial⟩
    · skip
      refine T_iconst (pc' := 17) dX12_stepOf_16 (by decide) rfl ?_
      refine T_goto (pc' := 51) dX12_stepOf_17 (by decide) ?_
      exact T_wk (L' := [(3, 0)]) (by have q := HJ1; try simp only [if_neg c2] at q; try simp only [if_pos c3] at q; exact q) ⟨Or.inl rfl, trivial⟩
  · skip
    refine T_iconst (pc' := 7) dX12_stepOf_6 (by decide) rfl ?_
    refine T_goto (pc' := 51) dX12_stepOf_7 (by decide) ?_
    exact T_wk (L' := [(3, 0)]) (by have q := HJ1; try simp only [if_pos c2] at q; exact q) ⟨Or.inl rfl, trivial⟩
def fX12_fault (M : Mem) (v1 : Int) : Int :=
  (if v1 = 0 then (M 66 7) else (if v1 = 1 then (M 66 8) else (-1)))
set_option maxRecDepth 100000 in
theorem pX12_fault {E : EV} {h : Int} {M : Mem} {v1 : Int}  : C2 E miX12_fault 1 h [(2, 66), (0, v1)] M (fun r M' => r = some (0, (fX12_fault M v1)) ∧ M' = M) := by
  obtain ⟨Q, hQ⟩ : ∃ Q : Option MV → Mem → Prop, Q = (fun r M' => r = some (0, (fX12_fault M v1)) ∧ M' = M) := ⟨_, rfl⟩
  rw [← hQ]
  refine C2_of (L := [(2, 66), (0, v1)]) (by decide +kernel) (Nat.le_of_ble_eq_true rfl) rfl (fun hG => ?_)
  refine T_iload_n (i := 1) (pc' := 1) dX12_fault_0 rfl rfl rfl ?_
  have HJ1 : T E miX12_fault 1 126 0 0 (fun r S M' => S = S0 ∧ G h M' ∧ Q r M') 24 [(3, 0), (3, 0)] [(0, (if v1 = 0 then (M 66 7) else (if v1 = 1 then (M 66 8) else (-1))))] S0 M 0 0 := by
    exact T_iret dX12_fault_24 rfl ⟨rfl, hG, (by rw [hQ]; exact ⟨rfl, rfl⟩)⟩
  refine T_if_ne (pc' := 11) dX12_fault_1 (by decide) (pf := 4) rfl (fun c2 => ?_) (fun c2 => ?_)
  · skip
    refine T_iload_n (i := 1) (pc' := 12) dX12_fault_11 rfl rfl rfl ?_
    refine T_iconst (pc' := 13) dX12_fault_12 (by decide) rfl ?_
    refine T_icmp_ne (pc' := 23) dX12_fault_13 (by decide) (pf := 16) rfl (fun c3 => ?_) (fun c3 => ?_)
    · skip
      refine T_iconst (pc' := 24) dX12_fault_23 (by decide) rfl ?_
      exact T_wk (L' := [(3, 0), (3, 0)]) (by have q := HJ1; try simp only [if_neg c2] at q; try simp only [if_neg c3] at q; exact q) ⟨Or.inl rfl, Or.inl rfl, trivial⟩
    · skip
      refine T_aload_n (i := 0) (pc' := 17) dX12_fault_16 rfl rfl rfl ?_
      refine U_gf (v := (0, (M 66 8))) (k := 8) (kI := 8) (pc' := 20) dX12_fault_17 rfl cl12 (by decide) rfl (by decide) flX12_13 rfl rfl (by decide) rfl rfl ?_
      refine T_goto (pc' := 24) dX12_fault_20 (by decide) ?_
      exact T_wk (L' := [(3, 0), (3, 0)]) (by have q := HJ1; try simp only [if_neg c2] at q; try simp only [if_pos c3] at q; exact q) ⟨Or.inl rfl, Or.inl rfl, trivial⟩
  · skip
    refine T_aload_n (i := 0) (pc' := 5) dX12_fault_4 rfl rfl rfl ?_
    refine U_gf (v := (0, (M 66 7))) (k := 7) (kI := 7) (pc' := 8) dX12_fault_5 rfl cl12 (by decide) rfl (by decide) flX12_328 rfl rfl (by decide) rfl rfl ?_
    refine T_goto (pc' := 24) dX12_fault_8 (by decide) ?_
    exact T_wk (L' := [(3, 0), (3, 0)]) (by have q := HJ1; try simp only [if_pos c2] at q; exact q) ⟨Or.inl rfl, Or.inl rfl, trivial⟩
def fX12_cells (M : Mem) : Int :=
  (wr32 ((M 66 38) * (M 66 39)))
set_option maxRecDepth 100000 in
theorem pX12_cells {E : EV} {h : Int} {M : Mem}   : C2 E miX12_cells 1 h [(2, 66)] M (fun r M' => r = some (0, (fX12_cells M)) ∧ M' = M) := by
  obtain ⟨Q, hQ⟩ : ∃ Q : Option MV → Mem → Prop, Q = (fun r M' => r = some (0, (fX12_cells M)) ∧ M' = M) := ⟨_, rfl⟩
  rw [← hQ]
  refine C2_of (L := [(2, 66)]) (by decide +kernel) (Nat.le_of_ble_eq_true rfl) rfl (fun hG => ?_)
  refine T_aload_n (i := 0) (pc' := 1) dX12_cells_0 rfl rfl rfl ?_
  refine U_gf (v := (0, (M 66 38))) (k := 38) (kI := 38) (pc' := 4) dX12_cells_1 rfl cl12 (by decide) rfl (by decide) flX12_334 rfl rfl (by decide) rfl rfl ?_
  refine T_aload_n (i := 0) (pc' := 5) dX12_cells_4 rfl rfl rfl ?_
  refine U_gf (v := (0, (M 66 39))) (k := 39) (kI := 39) (pc' := 8) dX12_cells_5 rfl cl12 (by decide) rfl (by decide) flX12_337 rfl rfl (by decide) rfl rfl ?_
  refine T_imul (pc' := 9) dX12_cells_8 rfl ?_
  exact T_iret dX12_cells_9 rfl ⟨rfl, hG, (by rw [hQ]; exact ⟨rfl, rfl⟩)⟩
def fX12_isCell (M : Mem) (v1 : Int) : Int :=
  (fX12_isIn v1 0 (wr32 ((fX12_cells M) - 1)))
set_option maxRecDepth 100000 in
theorem pX12_isCell {E : EV} {h : Int} {M : Mem} {v1 : Int}  : C2 E miX12_isCell 2 h [(2, 66), (0, v1)] M (fun r M' => r = some (0, (fX12_isCell M v1)) ∧ M' = M) := by
  obtain ⟨Q, hQ⟩ : ∃ Q : Option MV → Mem → Prop, Q = (fun r M' => r = some (0, (fX12_isCell M v1)) ∧ M' = M) := ⟨_, rfl⟩
  rw [← hQ]
  refine C2_of (L := [(2, 66), (0, v1)]) (by decide +kernel) (Nat.le_of_ble_eq_true rfl) rfl (fun hG => ?_)
  refine T_iload_n (i := 1) (pc' := 1) dX12_isCell_0 rfl rfl rfl ?_
  refine T_i2l (pc' := 2) dX12_isCell_1 rfl ?_
  refine T_lconst (v := 0) (pc' := 3) dX12_isCell_2 rfl (by decide) rfl ?_
  refine T_aload_n (i := 0) (pc' := 4) dX12_isCell_3 rfl rfl rfl ?_
  refine T_callV (av := []) (st := [(1, 0), (1, v1)]) (d2 := 1) (nc2 := 0) (ns2 := 0) (pc' := 7) dX12_isCell_4 rfl mtX12_cells mvX12_cells mlX12_346 cl12 rfl rfl rfl (Nat.le_of_ble_eq_true rfl) (by decide) ⟨by decide, by decide⟩ rfl (pX12_cells (E := E) (h := h) (M := M) hG) (kF (st2 := [(0, (fX12_cells M)), (1, 0), (1, v1)]) rfl (fun hG1 => ?_))
  refine T_iconst (pc' := 8) dX12_isCell_7 (by decide) rfl ?_
  refine T_isub (pc' := 9) dX12_isCell_8 rfl ?_
  refine T_i2l (pc' := 10) dX12_isCell_9 rfl ?_
  refine T_callS (av := [(1, v1), (1, 0), (1, (wr32 ((fX12_cells M) - 1)))]) (st := []) (d2 := 1) (nc2 := 0) (ns2 := 0) (pc' := 13) dX12_isCell_10 rfl mtX12_isIn mvX12_isIn mlX12_244 rfl rfl (Nat.le_of_ble_eq_true rfl) (by decide) ⟨by decide, by decide⟩ rfl (pX12_isIn (E := E) (h := h) (M := M) (v0 := v1) (v2 := 0) (v4 := (wr32 ((fX12_cells M) - 1))) hG) (kF (st2 := [(0, (fX12_isIn v1 0 (wr32 ((fX12_cells M) - 1))))]) rfl (fun hG2 => ?_))
  exact T_zret dX12_isCell_13 rfl (by repeat' (first | apply bi | exact Or.inl rfl | exact Or.inr rfl | apply fbX12_isIn)) ⟨rfl, hG, (by rw [hQ]; exact ⟨rfl, rfl⟩)⟩
theorem fbX12_isCell (M : Mem) (v1 : Int) : (fX12_isCell M v1) = 0 ∨ (fX12_isCell M v1) = 1 := by
  unfold fX12_isCell
  repeat' (first | apply bi | exact Or.inl rfl | exact Or.inr rfl | apply fbX12_isIn)
def fX12_peopleMany (M : Mem) : Int :=
  (M 85 3)
set_option maxRecDepth 100000 in
theorem pX12_peopleMany {E : EV} {h : Int} {M : Mem}   : C2 E miX12_peopleMany 1 h [(2, 66)] M (fun r M' => r = some (0, (fX12_peopleMany M)) ∧ M' = M) := by
  obtain ⟨Q, hQ⟩ : ∃ Q : Option MV → Mem → Prop, Q = (fun r M' => r = some (0, (fX12_peopleMany M)) ∧ M' = M) := ⟨_, rfl⟩
  rw [← hQ]
  refine C2_of (L := [(2, 66)]) (by decide +kernel) (Nat.le_of_ble_eq_true rfl) rfl (fun hG => ?_)
  refine T_aload_n (i := 0) (pc' := 1) dX12_peopleMany_0 rfl rfl rfl ?_
  refine U_gr (q := 85) (k := 28) (kI := 28) (pc' := 4) dX12_peopleMany_1 rfl cl12 (by decide) rfl (by decide) flX12_69 rfl rfl rfl (G_at hG 85 rfl) (by decide) rfl ?_
  refine T_iconst (pc' := 5) dX12_peopleMany_4 (by decide) rfl ?_
  refine T_iald (pc' := 6) dX12_peopleMany_5 (by decide) rfl (by decide) (by decide) rfl ?_
  exact T_iret dX12_peopleMany_6 rfl ⟨rfl, hG, (by rw [hQ]; exact ⟨rfl, rfl⟩)⟩
def fX12_guardMany (M : Mem) : Int :=
  (M 85 4)
set_option maxRecDepth 100000 in
theorem pX12_guardMany {E : EV} {h : Int} {M : Mem}   : C2 E miX12_guardMany 1 h [(2, 66)] M (fun r M' => r = some (0, (fX12_guardMany M)) ∧ M' = M) := by
  obtain ⟨Q, hQ⟩ : ∃ Q : Option MV → Mem → Prop, Q = (fun r M' => r = some (0, (fX12_guardMany M)) ∧ M' = M) := ⟨_, rfl⟩
  rw [← hQ]
  refine C2_of (L := [(2, 66)]) (by decide +kernel) (Nat.le_of_ble_eq_true rfl) rfl (fun hG => ?_)
  refine T_aload_n (i := 0) (pc' := 1) dX12_guardMany_0 rfl rfl rfl ?_
  refine U_gr (q := 85) (k := 28) (kI := 28) (pc' := 4) dX12_guardMany_1 rfl cl12 (by decide) rfl (by decide) flX12_69 rfl rfl rfl (G_at hG 85 rfl) (by decide) rfl ?_
  refine T_iconst (pc' := 5) dX12_guardMany_4 (by decide) rfl ?_
  refine T_iald (pc' := 6) dX12_guardMany_5 (by decide) rfl (by decide) (by decide) rfl ?_
  exact T_iret dX12_guardMany_6 rfl ⟨rfl, hG, (by rw [hQ]; exact ⟨rfl, rfl⟩)⟩
def fX12_doorMany (M : Mem) : Int :=
  (M 85 5)
set_option maxRecDepth 100000 in
theorem pX12_doorMany {E : EV} {h : Int} {M : Mem}   : C2 E miX12_doorMany 1 h [(2, 66)] M (fun r M' => r = some (0, (fX12_doorMany M)) ∧ M' = M) := by
  obtain ⟨Q, hQ⟩ : ∃ Q : Option MV → Mem → Prop, Q = (fun r M' => r = some (0, (fX12_doorMany M)) ∧ M' = M) := ⟨_, rfl⟩
  rw [← hQ]
  refine C2_of (L := [(2, 66)]) (by decide +kernel) (Nat.le_of_ble_eq_true rfl) rfl (fun hG => ?_)
  refine T_aload_n (i := 0) (pc' := 1) dX12_doorMany_0 rfl rfl rfl ?_
  refine U_gr (q := 85) (k := 28) (kI := 28) (pc' := 4) dX12_doorMany_1 rfl cl12 (by decide) rfl (by decide) flX12_69 rfl rfl rfl (G_at hG 85 rfl) (by decide) rfl ?_
  refine T_iconst (pc' := 5) dX12_doorMany_4 (by decide) rfl ?_
  refine T_iald (pc' := 6) dX12_doorMany_5 (by decide) rfl (by decide) (by decide) rfl ?_
  exact T_iret dX12_doorMany_6 rfl ⟨rfl, hG, (by rw [hQ]; exact ⟨rfl, rfl⟩)⟩
def fX12_isPerson (M : Mem) (v1 : Int) : Int :=
  (fX12_isIn v1 0 (wr32 ((fX12_peopleMany M) - 1)))
set_option maxRecDepth 100000 in
theorem pX12_isPerson {E : EV} {h : Int} {M : Mem} {v1 : Int}  : C2 E miX12_isPerson 2 h [(2, 66), (0, v1)] M (fun r M' => r = some (0, (fX12_isPerson M v1)) ∧ M' = M) := by
  obtain ⟨Q, hQ⟩ : ∃ Q : Option MV → Mem → Prop, Q = (fun r M' => r = some (0, (fX12_isPerson M v1)) ∧ M' = M) := ⟨_, rfl⟩
  rw [← hQ]
  refine C2_of (L := [(2, 66), (0, v1)]) (by decide +kernel) (Nat.le_of_ble_eq_true rfl) rfl (fun hG => ?_)
  refine T_iload_n (i := 1) (pc' := 1) dX12_isPerson_0 rfl rfl rfl ?_
  refine T_i2l (pc' := 2) dX12_isPerson_1 rfl ?_
  refine T_lconst (v := 0) (pc' := 3) dX12_isPerson_2 rfl (by decide) rfl ?_
  refine T_aload_n (i := 0) (pc' := 4) dX12_isPerson_3 rfl rfl rfl ?_
  refine T_callV (av := []) (st := [(1, 0), (1, v1)]) (d2 := 1) (nc2 := 0) (ns2 := 0) (pc' := 7) dX12_isPerson_4 rfl mtX12_peopleMany mvX12_peopleMany mlX12_349 cl12 rfl rfl rfl (Nat.le_of_ble_eq_true rfl) (by decide) ⟨by decide, by decide⟩ rfl (pX12_peopleMany (E := E) (h := h) (M := M) hG) (kF (st2 := [(0, (fX12_peopleMany M)), (1, 0), (1, v1)]) rfl (fun hG1 => ?_))
  refine T_iconst (pc' := 8) dX12_isPerson_7 (by decide) rfl ?_
  refine T_isub (pc' := 9) dX12_isPerson_8 rfl ?_
  refine T_i2l (pc' := 10) dX12_isPerson_9 rfl ?_
  refine T_callS (av := [(1, v1), (1, 0), (1, (wr32 ((fX12_peopleMany M) - 1)))]) (st := []) (d2 := 1) (nc2 := 0) (ns2 := 0) (pc' := 13) dX12_isPerson_10 rfl mtX12_isIn mvX12_isIn mlX12_244 rfl rfl (Nat.le_of_ble_eq_true rfl) (by decide) ⟨by decide, by decide⟩ rfl (pX12_isIn (E := E) (h := h) (M := M) (v0 := v1) (v2 := 0) (v4 := (wr32 ((fX12_peopleMany M) - 1))) hG) (kF (st2 := [(0, (fX12_isIn v1 0 (wr32 ((fX12_peopleMany M) - 1))))]) rfl (fun hG2 => ?_))
  exact T_zret dX12_isPerson_13 rfl (by repeat' (first | apply bi | exact Or.inl rfl | exact Or.inr rfl | apply fbX12_isIn)) ⟨rfl, hG, (by rw [hQ]; exact ⟨rfl, rfl⟩)⟩
theorem fbX12_isPerson (M : Mem) (v1 : Int) : (fX12_isPerson M v1) = 0 ∨ (fX12_isPerson M v1) = 1 := by
  unfold fX12_isPerson
  repeat' (first | apply bi | exact Or.inl rfl | exact Or.inr rfl | apply fbX12_isIn)
def fX12_isComing (M : Mem) (v1 : Int) : Int :=
  (if (fX12_isPerson M v1) = 0 then (0 : Int) else (if (m_and (m_shr (M 66 42) v1) 1) = 1 then (1 : Int) else 0))
set_option maxRecDepth 100000 in
theorem pX12_isComing {E : EV} {h : Int} {M : Mem} {v1 : Int}  : C2 E miX12_isComing 3 h [(2, 66), (0, v1)] M (fun r M' => r = some (0, (fX12_isComing M v1)) ∧ M' = M) := by
  obtain ⟨Q, hQ⟩ : ∃ Q : Option MV → Mem → Prop, Q = (fun r M' => r = some (0, (fX12_isComing M v1)) ∧ M' = M) := ⟨_, rfl⟩
  rw [← hQ]
  refine C2_of (L := [(2, 66), (0, v1)]) (by decide +kernel) (Nat.le_of_ble_eq_true rfl) rfl (fun hG => ?_)
  refine T_aload_n (i := 0) (pc' := 1) dX12_isComing_0 rfl rfl rfl ?_
  refine T_iload_n (i := 1) (pc' := 2) dX12_isComing_1 rfl rfl rfl ?_
  refine T_callV (av := [(0, v1)]) (st := []) (d2 := 2) (nc2 := 0) (ns2 := 0) (pc' := 5) dX12_isComing_2 rfl mtX12_isPerson mvX12_isPerson mlX12_352 cl12 rfl rfl rfl (Nat.le_of_ble_eq_true rfl) (by decide) ⟨by decide, by decide⟩ rfl (pX12_isPerson (E := E) (h := h) (M := M) (v1 := v1) hG) (kF (st2 := [(0, (fX12_isPerson M v1))]) rfl (fun hG1 => ?_))
  have HJ2 : T E miX12_isComing 3 126 0 0 (fun r S M' => S = S0 ∧ G h M' ∧ Q r M') 25 [(3, 0), (3, 0)] [(0, (if (fX12_isPerson M v1) = 0 then (0 : Int) else (if (m_and (m_shr (M 66 42) v1) 1) = 1 then (1 : Int) else 0)))] S0 M 0 0 := by
    exact T_zret dX12_isComing_25 rfl (by repeat' (first | apply bi | exact Or.inl rfl | exact Or.inr rfl | apply fbX12_isPerson)) ⟨rfl, hG, (by rw [hQ]; exact ⟨rfl, rfl⟩)⟩
  refine T_if_eq (pc' := 24) dX12_isComing_5 (by decide) (pf := 8) rfl (fun c3 => ?_) (fun c3 => ?_)
  · skip
    refine T_iconst (pc' := 25) dX12_isComing_24 (by decide) rfl ?_
    exact T_wk (L' := [(3, 0), (3, 0)]) (by have q := HJ2; try simp only [if_pos c3] at q; exact q) ⟨Or.inl rfl, Or.inl rfl, trivial⟩
  · skip
    refine T_aload_n (i := 0) (pc' := 9) dX12_isComing_8 rfl rfl rfl ?_
    refine U_gf (v := (0, (M 66 42))) (k := 42) (kI := 42) (pc' := 12) dX12_isComing_9 rfl cl12 (by decide) rfl (by decide) flX12_340 rfl rfl (by decide) rfl rfl ?_
    refine T_iload_n (i := 1) (pc' := 13) dX12_isComing_12 rfl rfl rfl ?_
    refine T_ishr (pc' := 14) dX12_isComing_13 rfl ?_
    refine T_iconst (pc' := 15) dX12_isComing_14 (by decide) rfl ?_
    refine T_iand (pc' := 16) dX12_isComing_15 rfl ?_
    refine T_iconst (pc' := 17) dX12_isComing_16 (by decide) rfl ?_
    refine T_icmp_ne (pc' := 24) dX12_isComing_17 (by decide) (pf := 20) rfl (fun c4 => ?_) (fun c4 => ?_)
    · skip
      refine T_iconst (pc' := 25) dX12_isComing_24 (by decide) rfl ?_
      exact T_wk (L' := [(3, 0), (3, 0)]) (by have q := HJ2; try simp only [if_neg c3] at q; try simp only [if_neg c4] at q; exact q) ⟨Or.inl rfl, Or.inl rfl, trivial⟩
    · skip
      refine T_iconst (pc' := 21) dX12_isComing_20 (by decide) rfl ?_
      refine T_goto (pc' := 25) dX12_isComing_21 (by decide) ?_
      exact T_wk (L' := [(3, 0), (3, 0)]) (by have q := HJ2; try simp only [if_neg c3] at q; try simp only [if_pos c4] at q; exact q) ⟨Or.inl rfl, Or.inl rfl, trivial⟩
theorem fbX12_isComing (M : Mem) (v1 : Int) : (fX12_isComing M v1) = 0 ∨ (fX12_isComing M v1) = 1 := by
  unfold fX12_isComing
  repeat' (first | apply bi | exact Or.inl rfl | exact Or.inr rfl | apply fbX12_isPerson)
def fX12_personOf (M : Mem) (v1 : Int) (v2 : Int) : Int :=
  (M 88 (wr32 ((wr32 (162 + (wr32 (18 * v1)))) + v2)))
def nX12_personOf (v1 : Int) (v2 : Int) : Prop :=
  (0 ≤ (wr32 ((wr32 (162 + (wr32 (18 * v1)))) + v2)) ∧ (wr32 ((wr32 (162 + (wr32 (18 * v1)))) + v2)) < 324)
set_option maxRecDepth 100000 in
theorem pX12_personOf {E : EV} {h : Int} {M : Mem} {v1 : Int} {v2 : Int} (hs : (nX12_personOf v1 v2)) : C2 E miX12_personOf 1 h [(2, 66), (0, v1), (0, v2)] M (fun r M' => r = some (0, (fX12_personOf M v1 v2)) ∧ M' = M) := by
  obtain ⟨Q, hQ⟩ : ∃ Q : Option MV → Mem → Prop, Q = (fun r M' => r = some (0, (fX12_personOf M v1 v2)) ∧ M' = M) := ⟨_, rfl⟩
  rw [← hQ]
  have o1 := hs
  refine C2_of (L := [(2, 66), (0, v1), (0, v2)]) (by decide +kernel) (Nat.le_of_ble_eq_true rfl) rfl (fun hG => ?_)
  refine T_aload_n (i := 0) (pc' := 1) dX12_personOf_0 rfl rfl rfl ?_
  refine U_gr (q := 88) (k := 31) (kI := 31) (pc' := 4) dX12_personOf_1 rfl cl12 (by decide) rfl (by decide) flX12_80 rfl rfl rfl (G_at hG 88 rfl) (by decide) rfl ?_
  refine T_sipush (pc' := 7) dX12_personOf_4 rfl (by decide) rfl ?_
  refine T_bipush (pc' := 9) dX12_personOf_7 rfl (by decide) rfl ?_
  refine T_iload_n (i := 1) (pc' := 10) dX12_personOf_9 rfl rfl rfl ?_
  refine T_imul (pc' := 11) dX12_personOf_10 rfl ?_
  refine T_iadd (pc' := 12) dX12_personOf_11 rfl ?_
  refine T_iload_n (i := 2) (pc' := 13) dX12_personOf_12 rfl rfl rfl ?_
  refine T_iadd (pc' := 14) dX12_personOf_13 rfl ?_
  refine T_iald (pc' := 15) dX12_personOf_14 (by decide) rfl (o1).1 (o1).2 rfl ?_
  exact T_iret dX12_personOf_15 rfl ⟨rfl, hG, (by rw [hQ]; exact ⟨rfl, rfl⟩)⟩
def fmX12_makes (M : Mem) (v1 : Int) (v2 : Int) (v3 : Int) : Mem :=
  (mset M 88 (wr32 ((wr32 (162 + (wr32 (18 * v1)))) + v2)) v3)
def nX12_makes (v1 : Int) (v2 : Int) : Prop :=
  (0 ≤ (wr32 ((wr32 (162 + (wr32 (18 * v1)))) + v2)) ∧ (wr32 ((wr32 (162 + (wr32 (18 * v1)))) + v2)) < 324)
theorem gX12_makes {h : Int} {M : Mem} {v1 : Int} {v2 : Int} {v3 : Int}  (hG : G h M) : G h (fmX12_makes M v1 v2 v3) := by
  unfold fmX12_makes
  exact (G_arr (x := 88) (i := (wr32 ((wr32 (162 + (wr32 (18 * v1)))) + v2))) (y := v3) rfl (by decide) hG)
set_option maxRecDepth 100000 in
theorem pX12_makes {E : EV} {h : Int} {M : Mem} {v1 : Int} {v2 : Int} {v3 : Int} (hs : (nX12_makes v1 v2)) : C2 E miX12_makes 1 h [(2, 66), (0, v1), (0, v2), (0, v3)] M (fun r M' => r = none ∧ M' = (fmX12_makes M v1 v2 v3)) := by
  obtain ⟨Q, hQ⟩ : ∃ Q : Option MV → Mem → Prop, Q = (fun r M' => r = none ∧ M' = (fmX12_makes M v1 v2 v3)) := ⟨_, rfl⟩
  rw [← hQ]
  have o1 := hs
  refine C2_of (L := [(2, 66), (0, v1), (0, v2), (0, v3)]) (by decide +kernel) (Nat.le_of_ble_eq_true rfl) rfl (fun hG => ?_)
  refine T_aload_n (i := 0) (pc' := 1) dX12_makes_0 rfl rfl rfl ?_
  refine U_gr (q := 88) (k := 31) (kI := 31) (pc' := 4) dX12_makes_1 rfl cl12 (by decide) rfl (by decide) flX12_80 rfl rfl rfl (G_at hG 88 rfl) (by decide) rfl ?_
  refine T_sipush (pc' := 7) dX12_makes_4 rfl (by decide) rfl ?_
  refine T_bipush (pc' := 9) dX12_makes_7 rfl (by decide) rfl ?_
  refine T_iload_n (i := 1) (pc' := 10) dX12_makes_9 rfl rfl rfl ?_
  refine T_imul (pc' := 11) dX12_makes_10 rfl ?_
  refine T_iadd (pc' := 12) dX12_makes_11 rfl ?_
  refine T_iload_n (i := 2) (pc' := 13) dX12_makes_12 rfl rfl rfl ?_
  refine T_iadd (pc' := 14) dX12_makes_13 rfl ?_
  refine T_iload_n (i := 3) (pc' := 15) dX12_makes_14 rfl rfl rfl ?_
  refine T_iast (pc' := 16) dX12_makes_15 (by decide) rfl (o1).1 (o1).2 rfl ?_
  exact T_vret dX12_makes_16 rfl ⟨rfl, (G_arr (x := 88) (i := (wr32 ((wr32 (162 + (wr32 (18 * v1)))) + v2))) (y := v3) rfl (by decide) hG), (by rw [hQ]; exact ⟨rfl, rfl⟩)⟩
theorem frX12_makes {M : Mem} {v1 : Int} {v2 : Int} {v3 : Int}  {q : Int} (hq0 : q ≠ 88) : (fmX12_makes M v1 v2 v3) q = M q := by
  unfold fmX12_makes
  repeat' (first | rfl | rw [mset_p hq0] | rw [mcpy_p hq0] | rw [ite_ap] | split)
def fX12_isWallNow (M : Mem) (v1 : Int) : Int :=
  (M 87 (wr32 (54 + v1)))
def nX12_isWallNow (v1 : Int) : Prop :=
  (0 ≤ (wr32 (54 + v1)) ∧ (wr32 (54 + v1)) < 108)
set_option maxRecDepth 100000 in
theorem pX12_isWallNow {E : EV} {h : Int} {M : Mem} {v1 : Int} (hs : (nX12_isWallNow v1)) : C2 E miX12_isWallNow 1 h [(2, 66), (0, v1)] M (fun r M' => r = some (0, (fX12_isWallNow M v1)) ∧ M' = M) := by
  obtain ⟨Q, hQ⟩ : ∃ Q : Option MV → Mem → Prop, Q = (fun r M' => r = some (0, (fX12_isWallNow M v1)) ∧ M' = M) := ⟨_, rfl⟩
  rw [← hQ]
  have o1 := hs
  refine C2_of (L := [(2, 66), (0, v1)]) (by decide +kernel) (Nat.le_of_ble_eq_true rfl) rfl (fun hG => ?_)
  refine T_aload_n (i := 0) (pc' := 1) dX12_isWallNow_0 rfl rfl rfl ?_
  refine U_gr (q := 87) (k := 30) (kI := 30) (pc' := 4) dX12_isWallNow_1 rfl cl12 (by decide) rfl (by decide) flX12_76 rfl rfl rfl (G_at hG 87 rfl) (by decide) rfl ?_
  refine T_bipush (pc' := 6) dX12_isWallNow_4 rfl (by decide) rfl ?_
  refine T_iload_n (i := 1) (pc' := 7) dX12_isWallNow_6 rfl rfl rfl ?_
  refine T_iadd (pc' := 8) dX12_isWallNow_7 rfl ?_
  refine T_zald (pc' := 9) dX12_isWallNow_8 (by decide) rfl (o1).1 (o1).2 rfl ?_
  refine T_zrng (x := 87) (i := (wr32 (54 + v1))) (n := 108) rfl (by decide) (o1).1 (fun zb1 => ?_)
  exact T_zret dX12_isWallNow_9 rfl (by repeat' (first | apply bi | exact Or.inl rfl | exact Or.inr rfl | exact zb1)) ⟨rfl, hG, (by rw [hQ]; exact ⟨rfl, rfl⟩)⟩
def fX12_stepped (M : Mem) (v1 : Int) (v2 : Int) : Int :=
  (if (fX12_isIn (wr32 ((Int.tmod v1 (M 66 38)) + (if v2 = 1 then (1 : Int) else (if v2 = 3 then ((-1) : Int) else 0)))) 0 (wr32 ((M 66 38) - 1))) = 0 then v1 else (if (fX12_isIn (wr32 ((wr32 (Int.tdiv v1 (M 66 38))) + (if v2 = 2 then (1 : Int) else (if v2 = 0 then ((-1) : Int) else 0)))) 0 (wr32 ((M 66 39) - 1))) = 0 then v1 else (if (fX12_isWallNow M (wr32 ((wr32 ((M 66 38) * (wr32 ((wr32 (Int.tdiv v1 (M 66 38))) + (if v2 = 2 then (1 : Int) else (if v2 = 0 then ((-1) : Int) else 0)))))) + (wr32 ((Int.tmod v1 (M 66 38)) + (if v2 = 1 then (1 : Int) else (if v2 = 3 then ((-1) : Int) else 0))))))) = 0 then (wr32 ((wr32 ((M 66 38) * (wr32 ((wr32 (Int.tdiv v1 (M 66 38))) + (if v2 = 2 then (1 : Int) else (if v2 = 0 then ((-1) : Int) else 0)))))) + (wr32 ((Int.tmod v1 (M 66 38)) + (if v2 = 1 then (1 : Int) else (if v2 = 3 then ((-1) : Int) else 0)))))) else v1)))
def nX12_stepped (M : Mem) (v1 : Int) (v2 : Int) : Prop :=
  (¬ (M 66 38) = 0) ∧ (¬ (M 66 38) = 0) ∧ (¬ ((fX12_isIn (wr32 ((Int.tmod v1 (M 66 38)) + (if v2 = 1 then (1 : Int) else (if v2 = 3 then ((-1) : Int) else 0)))) 0 (wr32 ((M 66 38) - 1))) = 0) → ¬ ((fX12_isIn (wr32 ((wr32 (Int.tdiv v1 (M 66 38))) + (if v2 = 2 then (1 : Int) else (if v2 = 0 then ((-1) : Int) else 0)))) 0 (wr32 ((M 66 39) - 1))) = 0) → (nX12_isWallNow (wr32 ((wr32 ((M 66 38) * (wr32 ((wr32 (Int.tdiv v1 (M 66 38))) + (if v2 = 2 then (1 : Int) else (if v2 = 0 then ((-1) : Int) else 0)))))) + (wr32 ((Int.tmod v1 (M 66 38)) + (if v2 = 1 then (1 : Int) else (if v2 = 3 then ((-1) : Int) else 0))))))))
set_option maxRecDepth 100000 in
theorem pX12_stepped {E : EV} {h : Int} {M : Mem} {v1 : Int} {v2 : Int} (hs : (nX12_stepped M v1 v2)) : C2 E miX12_stepped 2 h [(2, 66), (0, v1), (0, v2)] M (fun r M' => r = some (0, (fX12_stepped M v1 v2)) ∧ M' = M) := by
  obtain ⟨Q, hQ⟩ : ∃ Q : Option MV → Mem → Prop, Q = (fun r M' => r = some (0, (fX12_stepped M v1 v2)) ∧ M' = M) := ⟨_, rfl⟩
  rw [← hQ]
  obtain ⟨o1, o2, o3⟩ := hs
  refine C2_of (L := [(2, 66), (0, v1), (0, v2), (3, 0), (3, 0)]) (by decide +kernel) (Nat.le_of_ble_eq_true rfl) rfl (fun hG => ?_)
  refine T_iload_n (i := 1) (pc' := 1) dX12_stepped_0 rfl rfl rfl ?_
  refine T_aload_n (i := 0) (pc' := 2) dX12_stepped_1 rfl rfl rfl ?_
  refine U_gf (v := (0, (M 66 38))) (k := 38) (kI := 38) (pc' := 5) dX12_stepped_2 rfl cl12 (by decide) rfl (by decide) flX12_334 rfl rfl (by decide) rfl rfl ?_
  refine T_irem (pc' := 6) dX12_stepped_5 (o1) rfl ?_
  refine T_iload_n (i := 2) (pc' := 7) dX12_stepped_6 rfl rfl rfl ?_
  refine T_iconst (pc' := 8) dX12_stepped_7 (by decide) rfl ?_
  have HJ1 : T E miX12_stepped 2 126 0 0 (fun r S M' => S = S0 ∧ G h M' ∧ Q r M') 25 [(2, 66), (0, v1), (0, v2), (3, 0), (3, 0)] [(0, (if v2 = 1 then (1 : Int) else (if v2 = 3 then ((-1) : Int) else 0))), (0, (Int.tmod v1 (M 66 38)))] S0 M 0 0 := by
    refine T_iadd (pc' := 26) dX12_stepped_25 rfl ?_
    refine T_istore_n (i := 3) (L' := [(2, 66), (0, v1), (0, v2), (0, (wr32 ((Int.tmod v1 (M 66 38)) + (if v2 = 1 then (1 : Int) else (if v2 = 3 then ((-1) : Int) else 0))))), (3, 0)]) (pc' := 27) dX12_stepped_26 rfl (by decide) rfl rfl ?_
    refine T_iload_n (i := 1) (pc' := 28) dX12_stepped_27 rfl rfl rfl ?_
    refine T_aload_n (i := 0) (pc' := 29) dX12_stepped_28 rfl rfl rfl ?_
    refine U_gf (v := (0, (M 66 38))) (k := 38) (kI := 38) (pc' := 32) dX12_stepped_29 rfl cl12 (by decide) rfl (by decide) flX12_334 rfl rfl (by decide) rfl rfl ?_
    refine T_idiv (pc' := 33) dX12_stepped_32 (o2) rfl ?_
    refine T_iload_n (i := 2) (pc' := 34) dX12_stepped_33 rfl rfl rfl ?_
    refine T_iconst (pc' := 35) dX12_stepped_34 (by decide) rfl ?_
    have HJ2 : T E miX12_stepped 2 126 0 0 (fun r S M' => S = S0 ∧ G h M' ∧ Q r M') 51 [(2, 66), (0, v1), (3, 0), (0, (wr32 ((Int.tmod v1 (M 66 38)) + (if v2 = 1 then (1 : Int) else (if v2 = 3 then ((-1) : Int) else 0))))), (3, 0)] [(0, (if v2 = 2 then (1 : Int) else (if v2 = 0 then ((-1) : Int) else 0))), (0, (wr32 (Int.tdiv v1 (M 66 38))))] S0 M 0 0 := by
      refine T_iadd (pc' := 52) dX12_stepped_51 rfl ?_
      refine T_istore (i := 4) (L' := [(2, 66), (0, v1), (3, 0), (0, (wr32 ((Int.tmod v1 (M 66 38)) + (if v2 = 1 then (1 : Int) else (if v2 = 3 then ((-1) : Int) else 0))))), (0, (wr32 ((wr32 (Int.tdiv v1 (M 66 38))) + (if v2 = 2 then (1 : Int) else (if v2 = 0 then ((-1) : Int) else 0)))))]) (pc' := 54) dX12_stepped_52 (by decide) rfl rfl ?_
      refine T_iload_n (i := 3) (pc' := 55) dX12_stepped_54 rfl rfl rfl ?_
      refine T_i2l (pc' := 56) dX12_stepped_55 rfl ?_
      refine T_lconst (v := 0) (pc' := 57) dX12_stepped_56 rfl (by decide) rfl ?_
      refine T_aload_n (i := 0) (pc' := 58) dX12_stepped_57 rfl rfl rfl ?_
      refine U_gf (v := (0, (M 66 38))) (k := 38) (kI := 38) (pc' := 61) dX12_stepped_58 rfl cl12 (by decide) rfl (by decide) flX12_334 rfl rfl (by decide) rfl rfl ?_
      refine T_iconst (pc' := 62) dX12_stepped_61 (by decide) rfl ?_
      refine T_isub (pc' := 63) dX12_stepped_62 rfl ?_
      refine T_i2l (pc' := 64) dX12_stepped_63 rfl ?_
      refine T_callS (av := [(1, (wr32 ((Int.tmod v1 (M 66 38)) + (if v2 = 1 then (1 : Int) else (if v2 = 3 then ((-1) : Int) else 0))))), (1, 0), (1, (wr32 ((M 66 38) - 1)))]) (st := []) (d2 := 1) (nc2 := 0) (ns2 := 0) (pc' := 67) dX12_stepped_64 rfl mtX12_isIn mvX12_isIn mlX12_244 rfl rfl (Nat.le_of_ble_eq_true rfl) (by decide) ⟨by decide, by decide⟩ rfl (pX12_isIn (E := E) (h := h) (M := M) (v0 := (wr32 ((Int.tmod v1 (M 66 38)) + (if v2 = 1 then (1 : Int) else (if v2 = 3 then ((-1) : Int) else 0))))) (v2 := 0) (v4 := (wr32 ((M 66 38) - 1))) hG) (kF (st2 := [(0, (fX12_isIn (wr32 ((Int.tmod v1 (M 66 38)) + (if v2 = 1 then (1 : Int) else (if v2 = 3 then ((-1) : Int) else 0)))) 0 (wr32 ((M 66 38) - 1))))]) rfl (fun hG3 => ?_))
      refine T_if_eq (pc' := 103) dX12_stepped_67 (by decide) (pf := 70) rfl (fun c4 => ?_) (fun c4 => ?_)
      · skip
        refine T_iload_n (i := 1) (pc' := 104) dX12_stepped_103 rfl rfl rfl ?_
        exact T_iret dX12_stepped_104 rfl ⟨rfl, hG, (by rw [hQ]; exact ⟨(by unfold fX12_stepped; simp only [if_pos c4]), rfl⟩)⟩
      · skip
        refine T_iload (i := 4) (pc' := 72) dX12_stepped_70 rfl rfl ?_
        refine T_i2l (pc' := 73) dX12_stepped_72 rfl ?_
        refine T_lconst (v := 0) (pc' := 74) dX12_stepped_73 rfl (by decide) rfl ?_
        refine T_aload_n (i := 0) (pc' := 75) dX12_stepped_74 rfl rfl rfl ?_
        refine U_gf (v := (0, (M 66 39))) (k := 39) (kI := 39) (pc' := 78) dX12_stepped_75 rfl cl12 (by decide) rfl (by decide) flX12_337 rfl rfl (by decide) rfl rfl ?_
        refine T_iconst (pc' := 79) dX12_stepped_78 (by decide) rfl ?_
        refine T_isub (pc' := 80) dX12_stepped_79 rfl ?_
        refine T_i2l (pc' := 81) dX12_stepped_80 rfl ?_
        refine T_callS (av := [(1, (wr32 ((wr32 (Int.tdiv v1 (M 66 38))) + (if v2 = 2 then (1 : Int) else (if v2 = 0 then ((-1) : Int) else 0))))), (1, 0), (1, (wr32 ((M 66 39) - 1)))]) (st := []) (d2 := 1) (nc2 := 0) (ns2 := 0) (pc' := 84) dX12_stepped_81 rfl mtX12_isIn mvX12_isIn mlX12_244 rfl rfl (Nat.le_of_ble_eq_true rfl) (by decide) ⟨by decide, by decide⟩ rfl (pX12_isIn (E := E) (h := h) (M := M) (v0 := (wr32 ((wr32 (Int.tdiv v1 (M 66 38))) + (if v2 = 2 then (1 : Int) else (if v2 = 0 then ((-1) : Int) else 0))))) (v2 := 0) (v4 := (wr32 ((M 66 39) - 1))) hG) (kF (st2 := [(0, (fX12_isIn (wr32 ((wr32 (Int.tdiv v1 (M 66 38))) + (if v2 = 2 then (1 : Int) else (if v2 = 0 then ((-1) : Int) else 0)))) 0 (wr32 ((M 66 39) - 1))))]) rfl (fun hG5 => ?_))
        refine T_if_eq (pc' := 103) dX12_stepped_84 (by decide) (pf := 87) rfl (fun c6 => ?_) (fun c6 => ?_)
        · skip
          refine T_iload_n (i := 1) (pc' := 104) dX12_stepped_103 rfl rfl rfl ?_
          exact T_iret dX12_stepped_104 rfl ⟨rfl, hG, (by rw [hQ]; exact ⟨(by unfold fX12_stepped; simp only [if_neg c4, if_pos c6]), rfl⟩)⟩
        · skip
          refine T_aload_n (i := 0) (pc' := 88) dX12_stepped_87 rfl rfl rfl ?_
          refine T_aload_n (i := 0) (pc' := 89) dX12_stepped_88 rfl rfl rfl ?_
          refine U_gf (v := (0, (M 66 38))) (k := 38) (kI := 38) (pc' := 92) dX12_stepped_89 rfl cl12 (by decide) rfl (by decide) flX12_334 rfl rfl (by decide) rfl rfl ?_
          refine T_iload (i := 4) (pc' := 94) dX12_stepped_92 rfl rfl ?_
          refine T_imul (pc' := 95) dX12_stepped_94 rfl ?_
          refine T_iload_n (i := 3) (pc' := 96) dX12_stepped_95 rfl rfl rfl ?_
          refine T_iadd (pc' := 97) dX12_stepped_96 rfl ?_
          refine T_callV (av := [(0, (wr32 ((wr32 ((M 66 38) * (wr32 ((wr32 (Int.tdiv v1 (M 66 38))) + (if v2 = 2 then (1 : Int) else (if v2 = 0 then ((-1) : Int) else 0)))))) + (wr32 ((Int.tmod v1 (M 66 38)) + (if v2 = 1 then (1 : Int) else (if v2 = 3 then ((-1) : Int) else 0)))))))]) (st := []) (d2 := 1) (nc2 := 0) (ns2 := 0) (pc' := 100) dX12_stepped_97 rfl mtX12_isWallNow mvX12_isWallNow mlX12_355 cl12 rfl rfl rfl (Nat.le_of_ble_eq_true rfl) (by decide) ⟨by decide, by decide⟩ rfl (pX12_isWallNow (E := E) (h := h) (M := M) (v1 := (wr32 ((wr32 ((M 66 38) * (wr32 ((wr32 (Int.tdiv v1 (M 66 38))) + (if v2 = 2 then (1 : Int) else (if v2 = 0 then ((-1) : Int) else 0)))))) + (wr32 ((Int.tmod v1 (M 66 38)) + (if v2 = 1 then (1 : Int) else (if v2 = 3 then ((-1) : Int) else 0))))))) (o3 c4 c6) hG) (kF (st2 := [(0, (fX12_isWallNow M (wr32 ((wr32 ((M 66 38) * (wr32 ((wr32 (Int.tdiv v1 (M 66 38))) + (if v2 = 2 then (1 : Int) else (if v2 = 0 then ((-1) : Int) else 0)))))) + (wr32 ((Int.tmod v1 (M 66 38)) + (if v2 = 1 then (1 : Int) else (if v2 = 3 then ((-1) : Int) else 0))))))))]) rfl (fun hG7 => ?_))
          refine T_if_eq (pc' := 105) dX12_stepped_100 (by decide) (pf := 103) rfl (fun c8 => ?_) (fun c8 => ?_)
          · skip
            refine T_aload_n (i := 0) (pc' := 106) dX12_stepped_105 rfl rfl rfl ?_
            refine U_gf (v := (0, (M 66 38))) (k := 38) (kI := 38) (pc' := 109) dX12_stepped_106 rfl cl12 (by decide) rfl (by decide) flX12_334 rfl rfl (by decide) rfl rfl ?_
            refine T_iload (i := 4) (pc' := 111) dX12_stepped_109 rfl rfl ?_
            refine T_imul (pc' := 112) dX12_stepped_111 rfl ?_
            refine T_iload_n (i := 3) (pc' := 113) dX12_stepped_112 rfl rfl rfl ?_
            refine T_iadd (pc' := 114) dX12_stepped_113 rfl ?_
            exact T_iret dX12_stepped_114 rfl ⟨rfl, hG, (by rw [hQ]; exact ⟨(by unfold fX12_stepped; simp only [if_neg c4, if_neg c6, if_pos c8]), rfl⟩)⟩
          · skip
            refine T_iload_n (i := 1) (pc' := 104) dX12_stepped_103 rfl rfl rfl ?_
            exact T_iret dX12_stepped_104 rfl ⟨rfl, hG, (by rw [hQ]; exact ⟨(by unfold fX12_stepped; simp only [if_neg c4, if_neg c6, if_neg c8]), rfl⟩)⟩
    refine T_icmp_ne (pc' := 42) dX12_stepped_35 (by decide) (pf := 38) rfl (fun c9 => ?_) (fun c9 => ?_)
    · skip
      refine T_iload_n (i := 2) (pc' := 43) dX12_stepped_42 rfl rfl rfl ?_
      refine T_if_ne (pc' := 50) dX12_stepped_43 (by decide) (pf := 46) rfl (fun c10 => ?_) (fun c10 => ?_)
      · skip
        refine T_iconst (pc' := 51) dX12_stepped_50 (by decide) rfl ?_
        exact T_wk (L' := [(2, 66), (0, v1), (3, 0), (0, (wr32 ((Int.tmod v1 (M 66 38)) + (if v2 = 1 then (1 : Int) else (if v2 = 3 then ((-1) : Int) else 0))))), (3, 0)]) (by have q := HJ2; try simp only [if_neg c9] at q; try simp only [if_neg c10] at q; exact q) ⟨Or.inr rfl, Or.inr rfl, Or.inl rfl, Or.inr rfl, Or.inl rfl, trivial⟩
      · skip
        refine T_iconst (pc' := 47) dX12_stepped_46 (by decide) rfl ?_
        refine T_goto (pc' := 51) dX12_stepped_47 (by decide) ?_
        exact T_wk (L' := [(2, 66), (0, v1), (3, 0), (0, (wr32 ((Int.tmod v1 (M 66 38)) + (if v2 = 1 then (1 : Int) else (if v2 = 3 then ((-1) : Int) else 0))))), (3, 0)]) (by have q := HJ2; try simp only [if_neg c9] at q; try simp only [if_pos c10] at q; exact q) ⟨Or.inr rfl, Or.inr rfl, Or.inl rfl, Or.inr rfl, Or.inl rfl, trivial⟩
    · skip
      refine T_iconst (pc' := 39) dX12_stepped_38 (by decide) rfl ?_
      refine T_goto (pc' := 51) dX12_stepped_39 (by decide) ?_
      exact T_wk (L' := [(2, 66), (0, v1), (3, 0), (0, (wr32 ((Int.tmod v1 (M 66 38)) + (if v2 = 1 then (1 : Int) else (if v2 = 3 then ((-1) : Int) else 0))))), (3, 0)]) (by have q := HJ2; try simp only [if_pos c9] at q; exact q) ⟨Or.inr rfl, Or.inr rfl, Or.inl rfl, Or.inr rfl, Or.inl rfl, trivial⟩
  refine T_icmp_ne (pc' := 15) dX12_stepped_8 (by decide) (pf := 11) rfl (fun c11 => ?_) (fun c11 => ?_)
  · skip
    refine T_iload_n (i := 2) (pc' := 16) dX12_stepped_15 rfl rfl rfl ?_
    refine T_iconst (pc' := 17) dX12_stepped_16 (by decide) rfl ?_
    refine T_icmp_ne (pc' := 24) dX12_stepped_17 (by decide) (pf := 20) rfl (fun c12 => ?_) (fun c12 => ?_)
    · skip
      refine T_iconst (pc' := 25) dX12_stepped_24 (by decide) rfl ?_
      exact T_wk (L' := [(2, 66), (0, v1), (0, v2), (3, 0), (3, 0)]) (by have q := HJ1; try simp only [if_neg c11] at q; try simp only [if_neg c12] at q; exact q) ⟨Or.inr rfl, Or.inr rfl, Or.inr rfl, Or.inl rfl, Or.inl rfl, trivial⟩
    · skip
      refine T_iconst (pc' := 21) dX12_stepped_20 (by decide) rfl ?_
      refine T_goto (pc' := 25) dX12_stepped_21 (by decide) ?_
      exact T_wk (L' := [(2, 66), (0, v1), (0, v2), (3, 0), (3, 0)]) (by have q := HJ1; try simp only [if_neg c11] at q; try simp only [if_pos c12] at q; exact q) ⟨Or.inr rfl, Or.inr rfl, Or.inr rfl, Or.inl rfl, Or.inl rfl, trivial⟩
  · skip
    refine T_iconst (pc' := 12) dX12_stepped_11 (by decide) rfl ?_
    refine T_goto (pc' := 25) dX12_stepped_12 (by decide) ?_
    exact T_wk (L' := [(2, 66), (0, v1), (0, v2), (3, 0), (3, 0)]) (by have q := HJ1; try simp only [if_pos c11] at q; exact q) ⟨Or.inr rfl, Or.inr rfl, Or.inr rfl, Or.inl rfl, Or.inl rfl, trivial⟩
def fX12_size (v0 : Int) : Int :=
  (if 0 ≤ v0 then v0 else (wr32 (-v0)))
set_option maxRecDepth 100000 in
theorem pX12_size {E : EV} {h : Int} {M : Mem} {v0 : Int}  : C2 E miX12_size 1 h [(0, v0)] M (fun r M' => r = some (0, (fX12_size v0)) ∧ M' = M) := by
  obtain ⟨Q, hQ⟩ : ∃ Q : Option MV → Mem → Prop, Q = (fun r M' => r = some (0, (fX12_size v0)) ∧ M' = M) := ⟨_, rfl⟩
  rw [← hQ]
  refine C2_of (L := [(0, v0)]) (by decide +kernel) (Nat.le_of_ble_eq_true rfl) rfl (fun hG => ?_)
  refine T_iload_n (i := 0) (pc' := 1) dX12_size_0 rfl rfl rfl ?_
  have HJ1 : T E miX12_size 1 126 0 0 (fun r S M' => S = S0 ∧ G h M' ∧ Q r M') 10 [(3, 0)] [(0, (if 0 ≤ v0 then v0 else (wr32 (-v0))))] S0 M 0 0 := by
    exact T_iret dX12_size_10 rfl ⟨rfl, hG, (by rw [hQ]; exact ⟨rfl, rfl⟩)⟩
  refine T_if_ge (pc' := 9) dX12_size_1 (by decide) (pf := 4) rfl (fun c2 => ?_) (fun c2 => ?_)
  · skip
    refine T_iload_n (i := 0) (pc' := 10) dX12_size_9 rfl rfl rfl ?_
    exact T_wk (L' := [(3, 0)]) (by have q := HJ1; try simp only [if_pos c2] at q; exact q) ⟨Or.inl rfl, trivial⟩
  · skip
    refine T_iload_n (i := 0) (pc' := 5) dX12_size_4 rfl rfl rfl ?_
    refine T_ineg (pc' := 6) dX12_size_5 rfl ?_
    refine T_goto (pc' := 10) dX12_size_6 (by decide) ?_
    exact T_wk (L' := [(3, 0)]) (by have q := HJ1; try simp only [if_neg c2] at q; exact q) ⟨Or.inl rfl, trivial⟩
def fX12_apart (M : Mem) (v1 : Int) (v2 : Int) : Int :=
  (wr32 ((fX12_size (wr32 ((Int.tmod v1 (M 66 38)) - (Int.tmod v2 (M 66 38))))) + (fX12_size (wr32 ((wr32 (Int.tdiv v1 (M 66 38))) - (wr32 (Int.tdiv v2 (M 66 38))))))))
def nX12_apart (M : Mem) : Prop :=
  (¬ (M 66 38) = 0) ∧ (¬ (M 66 38) = 0) ∧ (¬ (M 66 38) = 0) ∧ (¬ (M 66 38) = 0)
set_option maxRecDepth 100000 in
theorem pX12_apart {E : EV} {h : Int} {M : Mem} {v1 : Int} {v2 : Int} (hs : (nX12_apart M)) : C2 E miX12_apart 2 h [(2, 66), (0, v1), (0, v2)] M (fun r M' => r = some (0, (fX12_apart M v1 v2)) ∧ M' = M) := by
  obtain ⟨Q, hQ⟩ : ∃ Q : Option MV → Mem → Prop, Q = (fun r M' => r = some (0, (fX12_apart M v1 v2)) ∧ M' = M) := ⟨_, rfl⟩
  rw [← hQ]
  obtain ⟨o1, o2, o3, o4⟩ := hs
  refine C2_of (L := [(2, 66), (0, v1), (0, v2)]) (by decide +kernel) (Nat.le_of_ble_eq_true rfl) rfl (fun hG => ?_)
  refine T_iload_n (i := 1) (pc' := 1) dX12_apart_0 rfl rfl rfl ?_
  refine T_aload_n (i := 0) (pc' := 2) dX12_apart_1 rfl rfl rfl ?_
  refine U_gf (v := (0, (M 66 38))) (k := 38) (kI := 38) (pc' := 5) dX12_apart_2 rfl cl12 (by decide) rfl (by decide) flX12_334 rfl rfl (by decide) rfl rfl ?_
  refine T_irem (pc' := 6) dX12_apart_5 (o1) rfl ?_
  refine T_iload_n (i := 2) (pc' := 7) dX12_apart_6 rfl rfl rfl ?_
  refine T_aload_n (i := 0) (pc' := 8) dX12_apart_7 rfl rfl rfl ?_
  refine U_gf (v := (0, (M 66 38))) (k := 38) (kI := 38) (pc' := 11) dX12_apart_8 rfl cl12 (by decide) rfl (by decide) flX12_334 rfl rfl (by decide) rfl rfl ?_
  refine T_irem (pc' := 12) dX12_apart_11 (o2) rfl ?_
  refine T_isub (pc' := 13) dX12_apart_12 rfl ?_
  refine T_callS (av := [(0, (wr32 ((Int.tmod v1 (M 66 38)) - (Int.tmod v2 (M 66 38)))))]) (st := []) (d2 := 1) (nc2 := 0) (ns2 := 0) (pc' := 16) dX12_apart_13 rfl mtX12_size mvX12_size mlX12_358 rfl rfl (Nat.le_of_ble_eq_true rfl) (by decide) ⟨by decide, by decide⟩ rfl (pX12_size (E := E) (h := h) (M := M) (v0 := (wr32 ((Int.tmod v1 (M 66 38)) - (Int.tmod v2 (M 66 38))))) hG) (kF (st2 := [(0, (fX12_size (wr32 ((Int.tmod v1 (M 66 38)) - (Int.tmod v2 (M 66 38))))))]) rfl (fun hG1 => ?_))
  refine T_iload_n (i := 1) (pc' := 17) dX12_apart_16 rfl rfl rfl ?_
  refine T_aload_n (i := 0) (pc' := 18) dX12_apart_17 rfl rfl rfl ?_
  refine U_gf (v := (0, (M 66 38))) (k := 38) (kI := 38) (pc' := 21) dX12_apart_18 rfl cl12 (by decide) rfl (by decide) flX12_334 rfl rfl (by decide) rfl rfl ?_
  refine T_idiv (pc' := 22) dX12_apart_21 (o3) rfl ?_
  refine T_iload_n (i := 2) (pc' := 23) dX12_apart_22 rfl rfl rfl ?_
  refine T_aload_n (i := 0) (pc' := 24) dX12_apart_23 rfl rfl rfl ?_
  refine U_gf (v := (0, (M 66 38))) (k := 38) (kI := 38) (pc' := 27) dX12_apart_24 rfl cl12 (by decide) rfl (by decide) flX12_334 rfl rfl (by decide) rfl rfl ?_
  refine T_idiv (pc' := 28) dX12_apart_27 (o4) rfl ?_
  refine T_isub (pc' := 29) dX12_apart_28 rfl ?_
  refine T_callS (av := [(0, (wr32 ((wr32 (Int.tdiv v1 (M 66 38))) - (wr32 (Int.tdiv v2 (M 66 38))))))]) (st := [(0, (fX12_size (wr32 ((Int.tmod v1 (M 66 38)) - (Int.tmod v2 (M 66 38))))))]) (d2 := 1) (nc2 := 0) (ns2 := 0) (pc' := 32) dX12_apart_29 rfl mtX12_size mvX12_size mlX12_358 rfl rfl (Nat.le_of_ble_eq_true rfl) (by decide) ⟨by decide, by decide⟩ rfl (pX12_size (E := E) (h := h) (M := M) (v0 := (wr32 ((wr32 (Int.tdiv v1 (M 66 38))) - (wr32 (Int.tdiv v2 (M 66 38)))))) hG) (kF (st2 := [(0, (fX12_size (wr32 ((wr32 (Int.tdiv v1 (M 66 38))) - (wr32 (Int.tdiv v2 (M 66 38))))))), (0, (fX12_size (wr32 ((Int.tmod v1 (M 66 38)) - (Int.tmod v2 (M 66 38))))))]) rfl (fun hG2 => ?_))
  refine T_iadd (pc' := 33) dX12_apart_32 rfl ?_
  exact T_iret dX12_apart_33 rfl ⟨rfl, hG, (by rw [hQ]; exact ⟨rfl, rfl⟩)⟩
def fX12_openTime (M : Mem) : Int :=
  (M 91 5)
set_option maxRecDepth 100000 in
theorem pX12_openTime {E : EV} {h : Int} {M : Mem}   : C2 E miX12_openTime 1 h [(2, 66)] M (fun r M' => r = some (0, (fX12_openTime M)) ∧ M' = M) := by
  obtain ⟨Q, hQ⟩ : ∃ Q : Option MV → Mem → Prop, Q = (fun r M' => r = some (0, (fX12_openTime M)) ∧ M' = M) := ⟨_, rfl⟩
  rw [← hQ]
  refine C2_of (L := [(2, 66)]) (by decide +kernel) (Nat.le_of_ble_eq_true rfl) rfl (fun hG => ?_)
  refine T_aload_n (i := 0) (pc' := 1) dX12_openTime_0 rfl rfl rfl ?_
  refine U_gr (q := 91) (k := 34) (kI := 34) (pc' := 4) dX12_openTime_1 rfl cl12 (by decide) rfl (by decide) flX12_89 rfl rfl rfl (G_at hG 91 rfl) (by decide) rfl ?_
  refine T_iconst (pc' := 5) dX12_openTime_4 (by decide) rfl ?_
  refine T_iald (pc' := 6) dX12_openTime_5 (by decide) rfl (by decide) (by decide) rfl ?_
  exact T_iret dX12_openTime_6 rfl ⟨rfl, hG, (by rw [hQ]; exact ⟨rfl, rfl⟩)⟩
def fX12_isOpen (M : Mem) (v1 : Int) (v2 : Int) : Int :=
  (if (M 96 v1) = (-1) then (0 : Int) else (if v2 < (M 96 v1) then (0 : Int) else (if (wr32 ((M 96 v1) + (fX12_openTime M))) ≤ v2 then (0 : Int) else 1)))
def nX12_isOpen (M : Mem) (v1 : Int) (v2 : Int) : Prop :=
  (0 ≤ v1 ∧ v1 < 9) ∧ (¬ ((M 96 v1) = (-1)) → 0 ≤ v1 ∧ v1 < 9) ∧ (¬ ((M 96 v1) = (-1)) → ¬ (v2 < (M 96 v1)) → 0 ≤ v1 ∧ v1 < 9)
set_option maxRecDepth 100000 in
theorem pX12_isOpen {E : EV} {h : Int} {M : Mem} {v1 : Int} {v2 : Int} (hs : (nX12_isOpen M v1 v2)) : C2 E miX12_isOpen 2 h [(2, 66), (0, v1), (0, v2)] M (fun r M' => r = some (0, (fX12_isOpen M v1 v2)) ∧ M' = M) := by
  obtain ⟨Q, hQ⟩ : ∃ Q : Option MV → Mem → Prop, Q = (fun r M' => r = some (0, (fX12_isOpen M v1 v2)) ∧ M' = M) := ⟨_, rfl⟩
  rw [← hQ]
  obtain ⟨o1, o2, o3⟩ := hs
  refine C2_of (L := [(2, 66), (0, v1), (0, v2)]) (by decide +kernel) (Nat.le_of_ble_eq_true rfl) rfl (fun hG => ?_)
  refine T_aload_n (i := 0) (pc' := 1) dX12_isOpen_0 rfl rfl rfl ?_
  refine U_gr (q := 96) (k := 46) (kI := 46) (pc' := 4) dX12_isOpen_1 rfl cl12 (by decide) rfl (by decide) flX12_104 rfl rfl rfl (G_at hG 96 rfl) (by decide) rfl ?_
  refine T_iload_n (i := 1) (pc' := 5) dX12_isOpen_4 rfl rfl rfl ?_
  refine T_iald (pc' := 6) dX12_isOpen_5 (by decide) rfl (o1).1 (o1).2 rfl ?_
  refine T_iconst (pc' := 7) dX12_isOpen_6 (by decide) rfl ?_
  have HJ1 : T E miX12_isOpen 2 126 0 0 (fun r S M' => S = S0 ∧ G h M' ∧ Q r M') 40 [(3, 0), (3, 0), (3, 0)] [(0, (if (M 96 v1) = (-1) then (0 : Int) else (if v2 < (M 96 v1) then (0 : Int) else (if (wr32 ((M 96 v1) + (fX12_openTime M))) ≤ v2 then (0 : Int) else 1))))] S0 M 0 0 := by
    exact T_zret dX12_isOpen_40 rfl (by repeat' (first | apply bi | exact Or.inl rfl | exact Or.inr rfl)) ⟨rfl, hG, (by rw [hQ]; exact ⟨rfl, rfl⟩)⟩
  refine T_icmp_eq (pc' := 39) dX12_isOpen_7 (by decide) (pf := 10) rfl (fun c2 => ?_) (fun c2 => ?_)
  · skip
    refine T_iconst (pc' := 40) dX12_isOpen_39 (by decide) rfl ?_
    exact T_wk (L' := [(3, 0), (3, 0), (3, 0)]) (by have q := HJ1; try simp only [if_pos c2] at q; exact q) ⟨Or.inl rfl, Or.inl rfl, Or.inl rfl, trivial⟩
  · skip
    refine T_aload_n (i := 0) (pc' := 11) dX12_isOpen_10 rfl rfl rfl ?_
    refine U_gr (q := 96) (k := 46) (kI := 46) (pc' := 14) dX12_isOpen_11 rfl cl12 (by decide) rfl (by decide) flX12_104 rfl rfl rfl (G_at hG 96 rfl) (by decide) rfl ?_
    refine T_iload_n (i := 1) (pc' := 15) dX12_isOpen_14 rfl rfl rfl ?_
    refine T_iald (pc' := 16) dX12_isOpen_15 (by decide) rfl (o2 c2).1 (o2 c2).2 rfl ?_
    refine T_iload_n (i := 2) (pc' := 17) dX12_isOpen_16 rfl rfl rfl ?_
    refine T_icmp_gt (pc' := 39) dX12_isOpen_17 (by decide) (pf := 20) rfl (fun c3 => ?_) (fun c3 => ?_)
    · skip
      refine T_iconst (pc' := 40) dX12_isOpen_39 (by decide) rfl ?_
      exact T_wk (L' := [(3, 0), (3, 0), (3, 0)]) (by have q := HJ1; try simp only [if_neg c2] at q; try simp only [if_pos c3] at q; exact q) ⟨Or.inl rfl, Or.inl rfl, Or.inl rfl, trivial⟩
    · skip
      refine T_iload_n (i := 2) (pc' := 21) dX12_isOpen_20 rfl rfl rfl ?_
      refine T_aload_n (i := 0) (pc' := 22) dX12_isOpen_21 rfl rfl rfl ?_
      refine U_gr (q := 96) (k := 46) (kI := 46) (pc' := 25) dX12_isOpen_22 rfl cl12 (by decide) rfl (by decide) flX12_104 rfl rfl rfl (G_at hG 96 rfl) (by decide) rfl ?_
      refine T_iload_n (i := 1) (pc' := 26) dX12_isOpen_25 rfl rfl rfl ?_
      refine T_iald (pc' := 27) dX12_isOpen_26 (by decide) rfl (o3 c2 c3).1 (o3 c2 c3).2 rfl ?_
      refine T_aload_n (i := 0) (pc' := 28) dX12_isOpen_27 rfl rfl rfl ?_
      refine T_callV (av := []) (st := [(0, (M 96 v1)), (0, v2)]) (d2 := 1) (nc2 := 0) (ns2 := 0) (pc' := 31) dX12_isOpen_28 rfl mtX12_openTime mvX12_openTime mlX12_367 cl12 rfl rfl rfl (Nat.le_of_ble_eq_true rfl) (by decide) ⟨by decide, by decide⟩ rfl (pX12_openTime (E := E) (h := h) (M := M) hG) (kF (st2 := [(0, (fX12_openTime M)), (0, (M 96 v1)), (0, v2)]) rfl (fun hG4 => ?_))
      refine T_iadd (pc' := 32) dX12_isOpen_31 rfl ?_
      refine T_icmp_ge (pc' := 39) dX12_isOpen_32 (by decide) (pf := 35) rfl (fun c5 => ?_) (fun c5 => ?_)
      · skip
        refine T_iconst (pc' := 40) dX12_isOpen_39 (by decide) rfl ?_
        exact T_wk (L' := [(3, 0), (3, 0), (3, 0)]) (by have q := HJ1; try simp only [if_neg c2] at q; try simp only [if_neg c3] at q; try simp only [if_pos c5] at q; exact q) ⟨Or.inl rfl, Or.inl rfl, Or.inl rfl, trivial⟩
      · skip
        refine T_iconst (pc' := 36) dX12_isOpen_35 (by decide) rfl ?_
        refine T_goto (pc' := 40) dX12_isOpen_36 (by decide) ?_
        exact T_wk (L' := [(3, 0), (3, 0), (3, 0)]) (by have q := HJ1; try simp only [if_neg c2] at q; try simp only [if_neg c3] at q; try simp only [if_neg c5] at q; exact q) ⟨Or.inl rfl, Or.inl rfl, Or.inl rfl, trivial⟩
theorem fbX12_isOpen (M : Mem) (v1 : Int) (v2 : Int) : (fX12_isOpen M v1 v2) = 0 ∨ (fX12_isOpen M v1 v2) = 1 := by
  unfold fX12_isOpen
  repeat' (first | apply bi | exact Or.inl rfl | exact Or.inr rfl)
def fX12_isWaiting (M : Mem) (v1 : Int) (v2 : Int) : Int :=
  (if (M 96 v1) = (-1) then (1 : Int) else (if (M 96 v1) ≤ v2 then (0 : Int) else 1))
def nX12_isWaiting (M : Mem) (v1 : Int) : Prop :=
  (0 ≤ v1 ∧ v1 < 9) ∧ (¬ ((M 96 v1) = (-1)) → 0 ≤ v1 ∧ v1 < 9)
set_option maxRecDepth 100000 in
theorem pX12_isWaiting {E : EV} {h : Int} {M : Mem} {v1 : Int} {v2 : Int} (hs : (nX12_isWaiting M v1)) : C2 E miX12_isWaiting 1 h [(2, 66), (0, v1), (0, v2)] M (fun r M' => r = some (0, (fX12_isWaiting M v1 v2)) ∧ M' = M) := by
  obtain ⟨Q, hQ⟩ : ∃ Q : Option MV → Mem → Prop, Q = (fun r M' => r = some (0, (fX12_isWaiting M v1 v2)) ∧ M' = M) := ⟨_, rfl⟩
  rw [← hQ]
  obtain ⟨o1, o2⟩ := hs
  refine C2_of (L := [(2, 66), (0, v1), (0, v2)]) (by decide +kernel) (Nat.le_of_ble_eq_true rfl) rfl (fun hG => ?_)
  refine T_aload_n (i := 0) (pc' := 1) dX12_isWaiting_0 rfl rfl rfl ?_
  refine U_gr (q := 96) (k := 46) (kI := 46) (pc' := 4) dX12_isWaiting_1 rfl cl12 (by decide) rfl (by decide) flX12_104 rfl rfl rfl (G_at hG 96 rfl) (by decide) rfl ?_
  refine T_iload_n (i := 1) (pc' := 5) dX12_isWaiting_4 rfl rfl rfl ?_
  refine T_iald (pc' := 6) dX12_isWaiting_5 (by decide) rfl (o1).1 (o1).2 rfl ?_
  refine T_iconst (pc' := 7) dX12_isWaiting_6 (by decide) rfl ?_
  have HJ1 : T E miX12_isWaiting 1 126 0 0 (fun r S M' => S = S0 ∧ G h M' ∧ Q r M') 25 [(3, 0), (3, 0), (3, 0)] [(0, (if (M 96 v1) = (-1) then (1 : Int) else (if (M 96 v1) ≤ v2 then (0 : Int) else 1)))] S0 M 0 0 := by
    exact T_zret dX12_isWaiting_25 rfl (by repeat' (first | apply bi | exact Or.inl rfl | exact Or.inr rfl)) ⟨rfl, hG, (by rw [hQ]; exact ⟨rfl, rfl⟩)⟩
  refine T_icmp_eq (pc' := 20) dX12_isWaiting_7 (by decide) (pf := 10) rfl (fun c2 => ?_) (fun c2 => ?_)
  · skip
    refine T_iconst (pc' := 21) dX12_isWaiting_20 (by decide) rfl ?_
    refine T_goto (pc' := 25) dX12_isWaiting_21 (by decide) ?_
    exact T_wk (L' := [(3, 0), (3, 0), (3, 0)]) (by have q := HJ1; try simp only [if_pos c2] at q; exact q) ⟨Or.inl rfl, Or.inl rfl, Or.inl rfl, trivial⟩
  · skip
    refine T_aload_n (i := 0) (pc' := 11) dX12_isWaiting_10 rfl rfl rfl ?_
    refine U_gr (q := 96) (k := 46) (kI := 46) (pc' := 14) dX12_isWaiting_11 rfl cl12 (by decide) rfl (by decide) flX12_104 rfl rfl rfl (G_at hG 96 rfl) (by decide) rfl ?_
    refine T_iload_n (i := 1) (pc' := 15) dX12_isWaiting_14 rfl rfl rfl ?_
    refine T_iald (pc' := 16) dX12_isWaiting_15 (by decide) rfl (o2 c2).1 (o2 c2).2 rfl ?_
    refine T_iload_n (i := 2) (pc' := 17) dX12_isWaiting_16 rfl rfl rfl ?_
    refine T_icmp_le (pc' := 24) dX12_isWaiting_17 (by decide) (pf := 20) rfl (fun c3 => ?_) (fun c3 => ?_)
    · skip
      refine T_iconst (pc' := 25) dX12_isWaiting_24 (by decide) rfl ?_
      exact T_wk (L' := [(3, 0), (3, 0), (3, 0)]) (by have q := HJ1; try simp only [if_neg c2] at q; try simp only [if_pos c3] at q; exact q) ⟨Or.inl rfl, Or.inl rfl, Or.inl rfl, trivial⟩
    · skip
      refine T_iconst (pc' := 21) dX12_isWaiting_20 (by decide) rfl ?_
      refine T_goto (pc' := 25) dX12_isWaiting_21 (by decide) ?_
      exact T_wk (L' := [(3, 0), (3, 0), (3, 0)]) (by have q := HJ1; try simp only [if_neg c2] at q; try simp only [if_neg c3] at q; exact q) ⟨Or.inl rfl, Or.inl rfl, Or.inl rfl, trivial⟩
theorem fbX12_isWaiting (M : Mem) (v1 : Int) (v2 : Int) : (fX12_isWaiting M v1 v2) = 0 ∨ (fX12_isWaiting M v1 v2) = 1 := by
  unfold fX12_isWaiting
  repeat' (first | apply bi | exact Or.inl rfl | exact Or.inr rfl)
def fX12_isOut (M : Mem) (v1 : Int) (v2 : Int) : Int :=
  (if (M 98 v1) = (-1) then (0 : Int) else (if v2 < (M 98 v1) then (0 : Int) else 1))
def nX12_isOut (M : Mem) (v1 : Int) : Prop :=
  (0 ≤ v1 ∧ v1 < 9) ∧ (¬ ((M 98 v1) = (-1)) → 0 ≤ v1 ∧ v1 < 9)
set_option maxRecDepth 100000 in
theorem pX12_isOut {E : EV} {h : Int} {M : Mem} {v1 : Int} {v2 : Int} (hs : (nX12_isOut M v1)) : C2 E miX12_isOut 1 h [(2, 66), (0, v1), (0, v2)] M (fun r M' => r = some (0, (fX12_isOut M v1 v2)) ∧ M' = M) := by
  obtain ⟨Q, hQ⟩ : ∃ Q : Option MV → Mem → Prop, Q = (fun r M' => r = some (0, (fX12_isOut M v1 v2)) ∧ M' = M) := ⟨_, rfl⟩
  rw [← hQ]
  obtain ⟨o1, o2⟩ := hs
  refine C2_of (L := [(2, 66), (0, v1), (0, v2)]) (by decide +kernel) (Nat.le_of_ble_eq_true rfl) rfl (fun hG => ?_)
  refine T_aload_n (i := 0) (pc' := 1) dX12_isOut_0 rfl rfl rfl ?_
  refine U_gr (q := 98) (k := 48) (kI := 48) (pc' := 4) dX12_isOut_1 rfl cl12 (by decide) rfl (by decide) flX12_110 rfl rfl rfl (G_at hG 98 rfl) (by decide) rfl ?_
  refine T_iload_n (i := 1) (pc' := 5) dX12_isOut_4 rfl rfl rfl ?_
  refine T_iald (pc' := 6) dX12_isOut_5 (by decide) rfl (o1).1 (o1).2 rfl ?_
  refine T_iconst (pc' := 7) dX12_isOut_6 (by decide) rfl ?_
  have HJ1 : T E miX12_isOut 1 126 0 0 (fun r S M' => S = S0 ∧ G h M' ∧ Q r M') 25 [(3, 0), (3, 0), (3, 0)] [(0, (if (M 98 v1) = (-1) then (0 : Int) else (if v2 < (M 98 v1) then (0 : Int) else 1)))] S0 M 0 0 := by
    exact T_zret dX12_isOut_25 rfl (by repeat' (first | apply bi | exact Or.inl rfl | exact Or.inr rfl)) ⟨rfl, hG, (by rw [hQ]; exact ⟨rfl, rfl⟩)⟩
  refine T_icmp_eq (pc' := 24) dX12_isOut_7 (by decide) (pf := 10) rfl (fun c2 => ?_) (fun c2 => ?_)
  · skip
    refine T_iconst (pc' := 25) dX12_isOut_24 (by decide) rfl ?_
    exact T_wk (L' := [(3, 0), (3, 0), (3, 0)]) (by have q := HJ1; try simp only [if_pos c2] at q; exact q) ⟨Or.inl rfl, Or.inl rfl, Or.inl rfl, trivial⟩
  · skip
    refine T_aload_n (i := 0) (pc' := 11) dX12_isOut_10 rfl rfl rfl ?_
    refine U_gr (q := 98) (k := 48) (kI := 48) (pc' := 14) dX12_isOut_11 rfl cl12 (by decide) rfl (by decide) flX12_110 rfl rfl rfl (G_at hG 98 rfl) (by decide) rfl ?_
    refine T_iload_n (i := 1) (pc' := 15) dX12_isOut_14 rfl rfl rfl ?_
    refine T_iald (pc' := 16) dX12_isOut_15 (by decide) rfl (o2 c2).1 (o2 c2).2 rfl ?_
    refine T_iload_n (i := 2) (pc' := 17) dX12_isOut_16 rfl rfl rfl ?_
    refine T_icmp_gt (pc' := 24) dX12_isOut_17 (by decide) (pf := 20) rfl (fun c3 => ?_) (fun c3 => ?_)
    · skip
      refine T_iconst (pc' := 25) dX12_isOut_24 (by decide) rfl ?_
      exact T_wk (L' := [(3, 0), (3, 0), (3, 0)]) (by have q := HJ1; try simp only [if_neg c2] at q; try simp only [if_pos c3] at q; exact q) ⟨Or.inl rfl, Or.inl rfl, Or.inl rfl, trivial⟩
    · skip
      refine T_iconst (pc' := 21) dX12_isOut_20 (by decide) rfl ?_
      refine T_goto (pc' := 25) dX12_isOut_21 (by decide) ?_
      exact T_wk (L' := [(3, 0), (3, 0), (3, 0)]) (by have q := HJ1; try simp only [if_neg c2] at q; try simp only [if_neg c3] at q; exact q) ⟨Or.inl rfl, Or.inl rfl, Or.inl rfl, trivial⟩
theorem fbX12_isOut (M : Mem) (v1 : Int) (v2 : Int) : (fX12_isOut M v1 v2) = 0 ∨ (fX12_isOut M v1 v2) = 1 := by
  unfold fX12_isOut
  repeat' (first | apply bi | exact Or.inl rfl | exact Or.inr rfl)
def fX12_whereIn (M : Mem) (v1 : Int) (v2 : Int) : Int :=
  (M 95 (wr32 ((wr32 (9 * v2)) + v1)))
def nX12_whereIn (v1 : Int) (v2 : Int) : Prop :=
  (0 ≤ (wr32 ((wr32 (9 * v2)) + v1)) ∧ (wr32 ((wr32 (9 * v2)) + v1)) < 1809)
set_option maxRecDepth 100000 in
theorem pX12_whereIn {E : EV} {h : Int} {M : Mem} {v1 : Int} {v2 : Int} (hs : (nX12_whereIn v1 v2)) : C2 E miX12_whereIn 1 h [(2, 66), (0, v1), (0, v2)] M (fun r M' => r = some (0, (fX12_whereIn M v1 v2)) ∧ M' = M) := by
  obtain ⟨Q, hQ⟩ : ∃ Q : Option MV → Mem → Prop, Q = (fun r M' => r = some (0, (fX12_whereIn M v1 v2)) ∧ M' = M) := ⟨_, rfl⟩
  rw [← hQ]
  have o1 := hs
  refine C2_of (L := [(2, 66), (0, v1), (0, v2)]) (by decide +kernel) (Nat.le_of_ble_eq_true rfl) rfl (fun hG => ?_)
  refine T_aload_n (i := 0) (pc' := 1) dX12_whereIn_0 rfl rfl rfl ?_
  refine U_gr (q := 95) (k := 45) (kI := 45) (pc' := 4) dX12_whereIn_1 rfl cl12 (by decide) rfl (by decide) flX12_101 rfl rfl rfl (G_at hG 95 rfl) (by decide) rfl ?_
  refine T_bipush (pc' := 6) dX12_whereIn_4 rfl (by decide) rfl ?_
  refine T_iload_n (i := 2) (pc' := 7) dX12_whereIn_6 rfl rfl rfl ?_
  refine T_imul (pc' := 8) dX12_whereIn_7 rfl ?_
  refine T_iload_n (i := 1) (pc' := 9) dX12_whereIn_8 rfl rfl rfl ?_
  refine T_iadd (pc' := 10) dX12_whereIn_9 rfl ?_
  refine T_iald (pc' := 11) dX12_whereIn_10 (by decide) rfl (o1).1 (o1).2 rfl ?_
  exact T_iret dX12_whereIn_11 rfl ⟨rfl, hG, (by rw [hQ]; exact ⟨rfl, rfl⟩)⟩
def fX12_person (M : Mem) (v1 : Int) (v2 : Int) : Int :=
  (if (fX12_isPerson M v1) = 0 then (-1) else (if (fX12_isIn v2 0 5) = 0 then (-1) else (if v2 = 1 then (wr32 (60 + (fX12_personOf M v1 1))) else (fX12_personOf M v1 v2))))
def nX12_person (M : Mem) (v1 : Int) (v2 : Int) : Prop :=
  (¬ ((fX12_isPerson M v1) = 0) → ¬ ((fX12_isIn v2 0 5) = 0) → ¬ (v2 = 1) → (nX12_personOf v1 v2)) ∧ (¬ ((fX12_isPerson M v1) = 0) → ¬ ((fX12_isIn v2 0 5) = 0) → v2 = 1 → (nX12_personOf v1 1))
set_option maxRecDepth 100000 in
theorem pX12_person {E : EV} {h : Int} {M : Mem} {v1 : Int} {v2 : Int} (hs : (nX12_person M v1 v2)) : C2 E miX12_person 3 h [(2, 66), (0, v1), (0, v2)] M (fun r M' => r = some (0, (fX12_person M v1 v2)) ∧ M' = M) := by
  obtain ⟨Q, hQ⟩ : ∃ Q : Option MV → Mem → Prop, Q = (fun r M' => r = some (0, (fX12_person M v1 v2)) ∧ M' = M) := ⟨_, rfl⟩
  rw [← hQ]
  obtain ⟨o1, o2⟩ := hs
  refine C2_of (L := [(2, 66), (0, v1), (0, v2)]) (by decide +kernel) (Nat.le_of_ble_eq_true rfl) rfl (fun hG => ?_)
  refine T_aload_n (i := 0) (pc' := 1) dX12_person_0 rfl rfl rfl ?_
  refine T_iload_n (i := 1) (pc' := 2) dX12_person_1 rfl rfl rfl ?_
  refine T_callV (av := [(0, v1)]) (st := []) (d2 := 2) (nc2 := 0) (ns2 := 0) (pc' := 5) dX12_person_2 rfl mtX12_isPerson mvX12_isPerson mlX12_352 cl12 rfl rfl rfl (Nat.le_of_ble_eq_true rfl) (by decide) ⟨by decide, by decide⟩ rfl (pX12_isPerson (E := E) (h := h) (M := M) (v1 := v1) hG) (kF (st2 := [(0, (fX12_isPerson M v1))]) rfl (fun hG1 => ?_))
  refine T_if_eq (pc' := 20) dX12_person_5 (by decide) (pf := 8) rfl (fun c2 => ?_) (fun c2 => ?_)
  · skip
    refine T_iconst (pc' := 21) dX12_person_20 (by decide) rfl ?_
    exact T_iret dX12_person_21 rfl ⟨rfl, hG, (by rw [hQ]; exact ⟨(by unfold fX12_person; simp only [if_pos c2]), rfl⟩)⟩
  · skip
    refine T_iload_n (i := 2) (pc' := 9) dX12_person_8 rfl rfl rfl ?_
    refine T_i2l (pc' := 10) dX12_person_9 rfl ?_
    refine T_lconst (v := 0) (pc' := 11) dX12_person_10 rfl (by decide) rfl ?_
    refine T_ldc2 (n := 5) (pc' := 14) dX12_person_11 rfl kjX12_435 rfl (by decide) rfl ?_
    refine T_callS (av := [(1, v2), (1, 0), (1, 5)]) (st := []) (d2 := 1) (nc2 := 0) (ns2 := 0) (pc' := 17) dX12_person_14 rfl mtX12_isIn mvX12_isIn mlX12_244 rfl rfl (Nat.le_of_ble_eq_true rfl) (by decide) ⟨by decide, by decide⟩ rfl (pX12_isIn (E := E) (h := h) (M := M) (v0 := v2) (v2 := 0) (v4 := 5) hG) (kF (st2 := [(0, (fX12_isIn v2 0 5))]) rfl (fun hG3 => ?_))
    refine T_if_ne (pc' := 22) dX12_person_17 (by decide) (pf := 20) rfl (fun c4 => ?_) (fun c4 => ?_)
    · skip
      refine T_iload_n (i := 2) (pc' := 23) dX12_person_22 rfl rfl rfl ?_
      refine T_iconst (pc' := 24) dX12_person_23 (by decide) rfl ?_
      have HJ5 : T E miX12_person 3 126 0 0 (fun r S M' => S = S0 ∧ G h M' ∧ Q r M') 45 [(3, 0), (3, 0), (3, 0)] [(0, (if v2 = 1 then (wr32 (60 + (fX12_personOf M v1 1))) else (fX12_personOf M v1 v2)))] S0 M 0 0 := by
        exact T_iret dX12_person_45 rfl ⟨rfl, hG, (by rw [hQ]; exact ⟨(by unfold fX12_person; simp only [if_neg c2, if_neg c4]), rfl⟩)⟩
      refine T_icmp_ne (pc' := 39) dX12_person_24 (by decide) (pf := 27) rfl (fun c6 => ?_) (fun c6 => ?_)
      · skip
        refine T_aload_n (i := 0) (pc' := 40) dX12_person_39 rfl rfl rfl ?_
        refine T_iload_n (i := 1) (pc' := 41) dX12_person_40 rfl rfl rfl ?_
        refine T_iload_n (i := 2) (pc' := 42) dX12_person_41 rfl rfl rfl ?_
        refine T_callV (av := [(0, v1), (0, v2)]) (st := []) (d2 := 1) (nc2 := 0) (ns2 := 0) (pc' := 45) dX12_person_42 rfl mtX12_personOf mvX12_personOf mlX12_373 cl12 rfl rfl rfl (Nat.le_of_ble_eq_true rfl) (by decide) ⟨by decide, by decide⟩ rfl (pX12_personOf (E := E) (h := h) (M := M) (v1 := v1) (v2 := v2) (o1 c2 c4 c6) hG) (kF (st2 := [(0, (fX12_personOf M v1 v2))]) rfl (fun hG7 => ?_))
        exact T_wk (L' := [(3, 0), (3, 0), (3, 0)]) (by have q := HJ5; try simp only [if_neg c6] at q; exact q) ⟨Or.inl rfl, Or.inl rfl, Or.inl rfl, trivial⟩
      · skip
        refine T_bipush (pc' := 29) dX12_person_27 rfl (by decide) rfl ?_
        refine T_aload_n (i := 0) (pc' := 30) dX12_person_29 rfl rfl rfl ?_
        refine T_iload_n (i := 1) (pc' := 31) dX12_person_30 rfl rfl rfl ?_
        refine T_iconst (pc' := 32) dX12_person_31 (by decide) rfl ?_
        refine T_callV (av := [(0, v1), (0, 1)]) (st := [(0, 60)]) (d2 := 1) (nc2 := 0) (ns2 := 0) (pc' := 35) dX12_person_32 rfl mtX12_personOf mvX12_personOf mlX12_373 cl12 rfl rfl rfl (Nat.le_of_ble_eq_true rfl) (by decide) ⟨by decide, by decide⟩ rfl (pX12_personOf (E := E) (h := h) (M := M) (v1 := v1) (v2 := 1) (o2 c2 c4 c6) hG) (kF (st2 := [(0, (fX12_personOf M v1 1)), (0, 60)]) rfl (fun hG8 => ?_))
        refine T_iadd (pc' := 36) dX12_person_35 rfl ?_
        refine T_goto (pc' := 45) dX12_person_36 (by decide) ?_
        exact T_wk (L' := [(3, 0), (3, 0), (3, 0)]) (by have q := HJ5; try simp only [if_pos c6] at q; exact q) ⟨Or.inl rfl, Or.inl rfl, Or.inl rfl, trivial⟩
    · skip
      refine T_iconst (pc' := 21) dX12_person_20 (by decide) rfl ?_
      exact T_iret dX12_person_21 rfl ⟨rfl, hG, (by rw [hQ]; exact ⟨(by unfold fX12_person; simp only [if_neg c2, if_pos c4]), rfl⟩)⟩
def fX12_guard (M : Mem) (v1 : Int) (v2 : Int) : Int :=
  (if (fX12_isIn v1 0 (wr32 ((fX12_guardMany M) - 1))) = 0 then ((-1) : Int) else (if (fX12_isIn v2 0 2) = 0 then ((-1) : Int) else (M 89 (wr32 ((wr32 (12 + (wr32 (3 * v1)))) + v2)))))
def nX12_guard (M : Mem) (v1 : Int) (v2 : Int) : Prop :=
  (¬ ((fX12_isIn v1 0 (wr32 ((fX12_guardMany M) - 1))) = 0) → ¬ ((fX12_isIn v2 0 2) = 0) → 0 ≤ (wr32 ((wr32 (12 + (wr32 (3 * v1)))) + v2)) ∧ (wr32 ((wr32 (12 + (wr32 (3 * v1)))) + v2)) < 24)
set_option maxRecDepth 100000 in
theorem pX12_guard {E : EV} {h : Int} {M : Mem} {v1 : Int} {v2 : Int} (hs : (nX12_guard M v1 v2)) : C2 E miX12_guard 2 h [(2, 66), (0, v1), (0, v2)] M (fun r M' => r = some (0, (fX12_guard M v1 v2)) ∧ M' = M) := by
  obtain ⟨Q, hQ⟩ : ∃ Q : Option MV → Mem → Prop, Q = (fun r M' => r = some (0, (fX12_guard M v1 v2)) ∧ M' = M) := ⟨_, rfl⟩
  rw [← hQ]
  have o1 := hs
  refine C2_of (L := [(2, 66), (0, v1), (0, v2)]) (by decide +kernel) (Nat.le_of_ble_eq_true rfl) rfl (fun hG => ?_)
  refine T_iload_n (i := 1) (pc' := 1) dX12_guard_0 rfl rfl rfl ?_
  refine T_i2l (pc' := 2) dX12_guard_1 rfl ?_
  refine T_lconst (v := 0) (pc' := 3) dX12_guard_2 rfl (by decide) rfl ?_
  refine T_aload_n (i := 0) (pc' := 4) dX12_guard_3 rfl rfl rfl ?_
  refine T_callV (av := []) (st := [(1, 0), (1, v1)]) (d2 := 1) (nc2 := 0) (ns2 := 0) (pc' := 7) dX12_guard_4 rfl mtX12_guardMany mvX12_guardMany mlX12_404 cl12 rfl rfl rfl (Nat.le_of_ble_eq_true rfl) (by decide) ⟨by decide, by decide⟩ rfl (pX12_guardMany (E := E) (h := h) (M := M) hG) (kF (st2 := [(0, (fX12_guardMany M)), (1, 0), (1, v1)]) rfl (fun hG1 => ?_))
  refine T_iconst (pc' := 8) dX12_guard_7 (by decide) rfl ?_
  refine T_isub (pc' := 9) dX12_guard_8 rfl ?_
  refine T_i2l (pc' := 10) dX12_guard_9 rfl ?_
  refine T_callS (av := [(1, v1), (1, 0), (1, (wr32 ((fX12_guardMany M) - 1)))]) (st := []) (d2 := 1) (nc2 := 0) (ns2 := 0) (pc' := 13) dX12_guard_10 rfl mtX12_isIn mvX12_isIn mlX12_244 rfl rfl (Nat.le_of_ble_eq_true rfl) (by decide) ⟨by decide, by decide⟩ rfl (pX12_isIn (E := E) (h := h) (M := M) (v0 := v1) (v2 := 0) (v4 := (wr32 ((fX12_guardMany M) - 1))) hG) (kF (st2 := [(0, (fX12_isIn v1 0 (wr32 ((fX12_guardMany M) - 1))))]) rfl (fun hG2 => ?_))
  have HJ3 : T E miX12_guard 2 126 0 0 (fun r S M' => S = S0 ∧ G h M' ∧ Q r M') 45 [(3, 0), (3, 0), (3, 0)] [(0, (if (fX12_isIn v1 0 (wr32 ((fX12_guardMany M) - 1))) = 0 then ((-1) : Int) else (if (fX12_isIn v2 0 2) = 0 then ((-1) : Int) else (M 89 (wr32 ((wr32 (12 + (wr32 (3 * v1)))) + v2))))))] S0 M 0 0 := by
    exact T_iret dX12_guard_45 rfl ⟨rfl, hG, (by rw [hQ]; exact ⟨rfl, rfl⟩)⟩
  refine T_if_eq (pc' := 44) dX12_guard_13 (by decide) (pf := 16) rfl (fun c4 => ?_) (fun c4 => ?_)
  · skip
    refine T_iconst (pc' := 45) dX12_guard_44 (by decide) rfl ?_
    exact T_wk (L' := [(3, 0), (3, 0), (3, 0)]) (by have q := HJ3; try simp only [if_pos c4] at q; exact q) ⟨Or.inl rfl, Or.inl rfl, Or.inl rfl, trivial⟩
  · skip
    refine T_iload_n (i := 2) (pc' := 17) dX12_guard_16 rfl rfl rfl ?_
    refine T_i2l (pc' := 18) dX12_guard_17 rfl ?_
    refine T_lconst (v := 0) (pc' := 19) dX12_guard_18 rfl (by decide) rfl ?_
    refine T_ldc2 (n := 2) (pc' := 22) dX12_guard_19 rfl kjX12_437 rfl (by decide) rfl ?_
    refine T_callS (av := [(1, v2), (1, 0), (1, 2)]) (st := []) (d2 := 1) (nc2 := 0) (ns2 := 0) (pc' := 25) dX12_guard_22 rfl mtX12_isIn mvX12_isIn mlX12_244 rfl rfl (Nat.le_of_ble_eq_true rfl) (by decide) ⟨by decide, by decide⟩ rfl (pX12_isIn (E := E) (h := h) (M := M) (v0 := v2) (v2 := 0) (v4 := 2) hG) (kF (st2 := [(0, (fX12_isIn v2 0 2))]) rfl (fun hG5 => ?_))
    refine T_if_eq (pc' := 44) dX12_guard_25 (by decide) (pf := 28) rfl (fun c6 => ?_) (fun c6 => ?_)
    · skip
      refine T_iconst (pc' := 45) dX12_guard_44 (by decide) rfl ?_
      exact T_wk (L' := [(3, 0), (3, 0), (3, 0)]) (by have q := HJ3; try simp only [if_neg c4] at q; try simp only [if_pos c6] at q; exact q) ⟨Or.inl rfl, Or.inl rfl, Or.inl rfl, trivial⟩
    · skip
      refine T_aload_n (i := 0) (pc' := 29) dX12_guard_28 rfl rfl rfl ?_
      refine U_gr (q := 89) (k := 32) (kI := 32) (pc' := 32) dX12_guard_29 rfl cl12 (by decide) rfl (by decide) flX12_83 rfl rfl rfl (G_at hG 89 rfl) (by decide) rfl ?_
      refine T_bipush (pc' := 34) dX12_guard_32 rfl (by decide) rfl ?_
      refine T_iconst (pc' := 35) dX12_guard_34 (by decide) rfl ?_
      refine T_iload_n (i := 1) (pc' := 36) dX12_guard_35 rfl rfl rfl ?_
      refine T_imul (pc' := 37) dX12_guard_36 rfl ?_
      refine T_iadd (pc' := 38) dX12_guard_37 rfl ?_
      refine T_iload_n (i := 2) (pc' := 39) dX12_guard_38 rfl rfl rfl ?_
      refine T_iadd (pc' := 40) dX12_guard_39 rfl ?_
      refine T_iald (pc' := 41) dX12_guard_40 (by decide) rfl (o1 c4 c6).1 (o1 c4 c6).2 rfl ?_
      refine T_goto (pc' := 45) dX12_guard_41 (by decide) ?_
      exact T_wk (L' := [(3, 0), (3, 0), (3, 0)]) (by have q := HJ3; try simp only [if_neg c4] at q; try simp only [if_neg c6] at q; exact q) ⟨Or.inl rfl, Or.inl rfl, Or.inl rfl, trivial⟩
def fX12_isSecond (v0 : Int) : Int :=
  (fX12_isIn v0 0 200)
set_option maxRecDepth 100000 in
theorem pX12_isSecond {E : EV} {h : Int} {M : Mem} {v0 : Int}  : C2 E miX12_isSecond 2 h [(0, v0)] M (fun r M' => r = some (0, (fX12_isSecond v0)) ∧ M' = M) := by
  obtain ⟨Q, hQ⟩ : ∃ Q : Option MV → Mem → Prop, Q = (fun r M' => r = some (0, (fX12_isSecond v0)) ∧ M' = M) := ⟨_, rfl⟩
  rw [← hQ]
  refine C2_of (L := [(0, v0)]) (by decide +kernel) (Nat.le_of_ble_eq_true rfl) rfl (fun hG => ?_)
  refine T_iload_n (i := 0) (pc' := 1) dX12_isSecond_0 rfl rfl rfl ?_
  refine T_i2l (pc' := 2) dX12_isSecond_1 rfl ?_
  refine T_lconst (v := 0) (pc' := 3) dX12_isSecond_2 rfl (by decide) rfl ?_
  refine T_ldc2 (n := 200) (pc' := 6) dX12_isSecond_3 rfl kjX12_448 rfl (by decide) rfl ?_
  refine T_callS (av := [(1, v0), (1, 0), (1, 200)]) (st := []) (d2 := 1) (nc2 := 0) (ns2 := 0) (pc' := 9) dX12_isSecond_6 rfl mtX12_isIn mvX12_isIn mlX12_244 rfl rfl (Nat.le_of_ble_eq_true rfl) (by decide) ⟨by decide, by decide⟩ rfl (pX12_isIn (E := E) (h := h) (M := M) (v0 := v0) (v2 := 0) (v4 := 200) hG) (kF (st2 := [(0, (fX12_isIn v0 0 200))]) rfl (fun hG1 => ?_))
  exact T_zret dX12_isSecond_9 rfl (by repeat' (first | apply bi | exact Or.inl rfl | exact Or.inr rfl | apply fbX12_isIn)) ⟨rfl, hG, (by rw [hQ]; exact ⟨rfl, rfl⟩)⟩
theorem fbX12_isSecond (v0 : Int) : (fX12_isSecond v0) = 0 ∨ (fX12_isSecond v0) = 1 := by
  unfold fX12_isSecond
  repeat' (first | apply bi | exact Or.inl rfl | exact Or.inr rfl | apply fbX12_isIn)
def fX12_come (M : Mem) (v1 : Int) : Int :=
  (if (fX12_isIn v1 0 (wr32 ((m_shl 1 (fX12_peopleMany M)) - 1))) = 0 then 0 else 1)
def fmX12_come (M : Mem) (v1 : Int) : Mem :=
  (if (fX12_isIn v1 0 (wr32 ((m_shl 1 (fX12_peopleMany M)) - 1))) = 0 then M else (mset M 66 42 v1))
theorem gX12_come {h : Int} {M : Mem} {v1 : Int}  (hG : G h M) : G h (fmX12_come M v1) := by
  unfold fmX12_come
  exact (G_ite hG (G_fld (x := 66) (i := 42) (y := v1) rfl (by decide) (by decide) (by decide) hG))
set_option maxRecDepth 100000 in
theorem pX12_come {E : EV} {h : Int} {M : Mem} {v1 : Int}  : C2 E miX12_come 2 h [(2, 66), (0, v1)] M (fun r M' => r = some (0, (fX12_come M v1)) ∧ M' = (fmX12_come M v1)) := by
  obtain ⟨Q, hQ⟩ : ∃ Q : Option MV → Mem → Prop, Q = (fun r M' => r = some (0, (fX12_come M v1)) ∧ M' = (fmX12_come M v1)) := ⟨_, rfl⟩
  rw [← hQ]
  refine C2_of (L := [(2, 66), (0, v1)]) (by decide +kernel) (Nat.le_of_ble_eq_true rfl) rfl (fun hG => ?_)
  refine T_iload_n (i := 1) (pc' := 1) dX12_come_0 rfl rfl rfl ?_
  refine T_i2l (pc' := 2) dX12_come_1 rfl ?_
  refine T_lconst (v := 0) (pc' := 3) dX12_come_2 rfl (by decide) rfl ?_
  refine T_iconst (pc' := 4) dX12_come_3 (by decide) rfl ?_
  refine T_aload_n (i := 0) (pc' := 5) dX12_come_4 rfl rfl rfl ?_
  refine T_callV (av := []) (st := [(0, 1), (1, 0), (1, v1)]) (d2 := 1) (nc2 := 0) (ns2 := 0) (pc' := 8) dX12_come_5 rfl mtX12_peopleMany mvX12_peopleMany mlX12_349 cl12 rfl rfl rfl (Nat.le_of_ble_eq_true rfl) (by decide) ⟨by decide, by decide⟩ rfl (pX12_peopleMany (E := E) (h := h) (M := M) hG) (kF (st2 := [(0, (fX12_peopleMany M)), (0, 1), (1, 0), (1, v1)]) rfl (fun hG1 => ?_))
  refine T_ishl (pc' := 9) dX12_come_8 rfl ?_
  refine T_iconst (pc' := 10) dX12_come_9 (by decide) rfl ?_
  refine T_isub (pc' := 11) dX12_come_10 rfl ?_
  refine T_i2l (pc' := 12) dX12_come_11 rfl ?_
  refine T_callS (av := [(1, v1), (1, 0), (1, (wr32 ((m_shl 1 (fX12_peopleMany M)) - 1)))]) (st := []) (d2 := 1) (nc2 := 0) (ns2 := 0) (pc' := 15) dX12_come_12 rfl mtX12_isIn mvX12_isIn mlX12_244 rfl rfl (Nat.le_of_ble_eq_true rfl) (by decide) ⟨by decide, by decide⟩ rfl (pX12_isIn (E := E) (h := h) (M := M) (v0 := v1) (v2 := 0) (v4 := (wr32 ((m_shl 1 (fX12_peopleMany M)) - 1))) hG) (kF (st2 := [(0, (fX12_isIn v1 0 (wr32 ((m_shl 1 (fX12_peopleMany M)) - 1))))]) rfl (fun hG2 => ?_))
  refine T_if_ne (pc' := 20) dX12_come_15 (by decide) (pf := 18) rfl (fun c3 => ?_) (fun c3 => ?_)
  · skip
    refine T_aload_n (i := 0) (pc' := 21) dX12_come_20 rfl rfl rfl ?_
    refine T_iload_n (i := 1) (pc' := 22) dX12_come_21 rfl rfl rfl ?_
    refine U_pf (y := v1) (k := 42) (kI := 42) (pc' := 25) dX12_come_22 rfl cl12 (by decide) rfl (by decide) flX12_340 rfl rfl rfl rfl rfl (by decide) (fun z => z) rfl ?_
    refine T_iconst (pc' := 26) dX12_come_25 (by decide) rfl ?_
    exact T_zret dX12_come_26 rfl (by decide) ⟨rfl, (G_fld (x := 66) (i := 42) (y := v1) rfl (by decide) (by decide) (by decide) hG), (by rw [hQ]; exact ⟨(by unfold fX12_come; simp only [if_neg c3]), (by unfold fmX12_come; simp only [if_neg c3])⟩)⟩
  · skip
    refine T_iconst (pc' := 19) dX12_come_18 (by decide) rfl ?_
    exact T_zret dX12_come_19 rfl (by decide) ⟨rfl, hG, (by rw [hQ]; exact ⟨(by unfold fX12_come; simp only [if_pos c3]), (by unfold fmX12_come; simp only [if_pos c3])⟩)⟩
theorem frX12_come {M : Mem} {v1 : Int}  {q : Int} (hq0 : q ≠ 66) : (fmX12_come M v1) q = M q := by
  unfold fmX12_come
  repeat' (first | rfl | rw [mset_p hq0] | rw [mcpy_p hq0] | rw [ite_ap] | split)
theorem fbX12_come (M : Mem) (v1 : Int) : (fX12_come M v1) = 0 ∨ (fX12_come M v1) = 1 := by
  unfold fX12_come
  repeat' (first | apply bi | exact Or.inl rfl | exact Or.inr rfl | apply fbX12_isIn)
def fX12_seed (v1 : Int) : Int :=
  (if 0 ≤ v1 then 1 else 0)
def fmX12_seed (M : Mem) (v1 : Int) : Mem :=
  (if 0 ≤ v1 then (mset M 66 56 v1) else M)
theorem gX12_seed {h : Int} {M : Mem} {v1 : Int}  (hG : G h M) : G h (fmX12_seed M v1) := by
  unfold fmX12_seed
  exact (G_ite (G_fld (x := 66) (i := 56) (y := v1) rfl (by decide) (by decide) (by decide) hG) hG)
set_option maxRecDepth 100000 in
theorem pX12_seed {E : EV} {h : Int} {M : Mem} {v1 : Int}  : C2 E miX12_seed 1 h [(2, 66), (0, v1)] M (fun r M' => r = some (0, (fX12_seed v1)) ∧ M' = (fmX12_seed M v1)) := by
  obtain ⟨Q, hQ⟩ : ∃ Q : Option MV → Mem → Prop, Q = (fun r M' => r = some (0, (fX12_seed v1)) ∧ M' = (fmX12_seed M v1)) := ⟨_, rfl⟩
  rw [← hQ]
  refine C2_of (L := [(2, 66), (0, v1)]) (by decide +kernel) (Nat.le_of_ble_eq_true rfl) rfl (fun hG => ?_)
  refine T_iload_n (i := 1) (pc' := 1) dX12_seed_0 rfl rfl rfl ?_
  refine T_if_ge (pc' := 6) dX12_seed_1 (by decide) (pf := 4) rfl (fun c1 => ?_) (fun c1 => ?_)
  · skip
    refine T_aload_n (i := 0) (pc' := 7) dX12_seed_6 rfl rfl rfl ?_
    refine T_iload_n (i := 1) (pc' := 8) dX12_seed_7 rfl rfl rfl ?_
    refine T_i2l (pc' := 9) dX12_seed_8 rfl ?_
    refine U_pf (y := v1) (k := 56) (kI := 56) (pc' := 12) dX12_seed_9 rfl cl12 (by decide) rfl (by decide) flX12_119 rfl rfl rfl rfl rfl (by decide) (fun z => z) rfl ?_
    refine T_iconst (pc' := 13) dX12_seed_12 (by decide) rfl ?_
    exact T_zret dX12_seed_13 rfl (by decide) ⟨rfl, (G_fld (x := 66) (i := 56) (y := v1) rfl (by decide) (by decide) (by decide) hG), (by rw [hQ]; exact ⟨(by unfold fX12_seed; simp only [if_pos c1]), (by unfold fmX12_seed; simp only [if_pos c1])⟩)⟩
  · skip
    refine T_iconst (pc' := 5) dX12_seed_4 (by decide) rfl ?_
    exact T_zret dX12_seed_5 rfl (by decide) ⟨rfl, hG, (by rw [hQ]; exact ⟨(by unfold fX12_seed; simp only [if_neg c1]), (by unfold fmX12_seed; simp only [if_neg c1])⟩)⟩
theorem frX12_seed {M : Mem} {v1 : Int}  {q : Int} (hq0 : q ≠ 66) : (fmX12_seed M v1) q = M q := by
  unfold fmX12_seed
  repeat' (first | rfl | rw [mset_p hq0] | rw [mcpy_p hq0] | rw [ite_ap] | split)
theorem fbX12_seed (v1 : Int) : (fX12_seed v1) = 0 ∨ (fX12_seed v1) = 1 := by
  unfold fX12_seed
  repeat' (first | apply bi | exact Or.inl rfl | exact Or.inr rfl)
def fX12_drawOf (M : Mem) (v1 : Int) : Int :=
  (wr32 (Int.tmod (wr64 (Int.tdiv ((mset M 66 56 (Int.tmod (wr64 ((wr64 (1103515245 * (M 66 56))) + 12345)) 2147483648)) 66 56) 64)) v1))
def fmX12_drawOf (M : Mem) : Mem :=
  (mset M 66 56 (Int.tmod (wr64 ((wr64 (1103515245 * (M 66 56))) + 12345)) 2147483648))
def nX12_drawOf (v1 : Int) : Prop :=
  (¬ v1 = 0)
theorem gX12_drawOf {h : Int} {M : Mem} {v1 : Int}  (hG : G h M) : G h (fmX12_drawOf M) := by
  unfold fmX12_drawOf
  exact (G_fld (x := 66) (i := 56) (y := (Int.tmod (wr64 ((wr64 (1103515245 * (M 66 56))) + 12345)) 2147483648)) rfl (by decide) (by decide) (by decide) hG)
set_option maxRecDepth 100000 in
theorem pX12_drawOf {E : EV} {h : Int} {M : Mem} {v1 : Int} (hs : (nX12_drawOf v1)) : C2 E miX12_drawOf 1 h [(2, 66), (0, v1)] M (fun r M' => r = some (0, (fX12_drawOf M v1)) ∧ M' = (fmX12_drawOf M)) := by
  obtain ⟨Q, hQ⟩ : ∃ Q : Option MV → Mem → Prop, Q = (fun r M' => r = some (0, (fX12_drawOf M v1)) ∧ M' = (fmX12_drawOf M)) := ⟨_, rfl⟩
  rw [← hQ]
  have o1 := hs
  refine C2_of (L := [(2, 66), (0, v1)]) (by decide +kernel) (Nat.le_of_ble_eq_true rfl) rfl (fun hG => ?_)
  refine T_aload_n (i := 0) (pc' := 1) dX12_drawOf_0 rfl rfl rfl ?_
  refine T_ldc2 (n := 1103515245) (pc' := 4) dX12_drawOf_1 rfl kjX12_487 rfl (by decide) rfl ?_
  refine T_aload_n (i := 0) (pc' := 5) dX12_drawOf_4 rfl rfl rfl ?_
  refine U_gf (v := (1, (M 66 56))) (k := 56) (kI := 56) (pc' := 8) dX12_drawOf_5 rfl cl12 (by decide) rfl (by decide) flX12_119 rfl rfl (by decide) rfl rfl ?_
  refine T_lmul (pc' := 9) dX12_drawOf_8 rfl ?_
  refine T_ldc2 (n := 12345) (pc' := 12) dX12_drawOf_9 rfl kjX12_489 rfl (by decide) rfl ?_
  refine T_ladd (pc' := 13) dX12_drawOf_12 rfl ?_
  refine T_ldc2 (n := 2147483648) (pc' := 16) dX12_drawOf_13 rfl kjX12_491 rfl (by decide) rfl ?_
  refine T_lrem (pc' := 17) dX12_drawOf_16 (by decide) rfl ?_
  refine U_pf (y := (Int.tmod (wr64 ((wr64 (1103515245 * (M 66 56))) + 12345)) 2147483648)) (k := 56) (kI := 56) (pc' := 20) dX12_drawOf_17 rfl cl12 (by decide) rfl (by decide) flX12_119 rfl rfl rfl rfl rfl (by decide) (fun z => z) rfl ?_
  refine T_aload_n (i := 0) (pc' := 21) dX12_drawOf_20 rfl rfl rfl ?_
  refine U_gf (v := (1, ((mset M 66 56 (Int.tmod (wr64 ((wr64 (1103515245 * (M 66 56))) + 12345)) 2147483648)) 66 56))) (k := 56) (kI := 56) (pc' := 24) dX12_drawOf_21 rfl cl12 (by decide) rfl (by decide) flX12_119 rfl rfl (by decide) rfl rfl ?_
  refine T_ldc2 (n := 64) (pc' := 27) dX12_drawOf_24 rfl kjX12_493 rfl (by decide) rfl ?_
  refine T_ldiv (pc' := 28) dX12_drawOf_27 (by decide) rfl ?_
  refine T_iload_n (i := 1) (pc' := 29) dX12_drawOf_28 rfl rfl rfl ?_
  refine T_i2l (pc' := 30) dX12_drawOf_29 rfl ?_
  refine T_lrem (pc' := 31) dX12_drawOf_30 (o1) rfl ?_
  refine T_l2i (pc' := 32) dX12_drawOf_31 rfl ?_
  exact T_iret dX12_drawOf_32 rfl ⟨rfl, (G_fld (x := 66) (i := 56) (y := (Int.tmod (wr64 ((wr64 (1103515245 * (M 66 56))) + 12345)) 2147483648)) rfl (by decide) (by decide) (by decide) hG), (by rw [hQ]; exact ⟨rfl, rfl⟩)⟩
theorem frX12_drawOf {M : Mem}  {q : Int} (hq0 : q ≠ 66) : (fmX12_drawOf M) q = M q := by
  unfold fmX12_drawOf
  repeat' (first | rfl | rw [mset_p hq0] | rw [mcpy_p hq0] | rw [ite_ap] | split)
def fX12_isSooner (v1 : Int) (v2 : Int) : Int :=
  (if v1 = (-1) then (0 : Int) else (if v2 = (-1) then (1 : Int) else (if v2 ≤ v1 then (0 : Int) else 1)))
set_option maxRecDepth 100000 in
theorem pX12_isSooner {E : EV} {h : Int} {M : Mem} {v1 : Int} {v2 : Int}  : C2 E miX12_isSooner 1 h [(2, 66), (0, v1), (0, v2)] M (fun r M' => r = some (0, (fX12_isSooner v1 v2)) ∧ M' = M) := by
  obtain ⟨Q, hQ⟩ : ∃ Q : Option MV → Mem → Prop, Q = (fun r M' => r = some (0, (fX12_isSooner v1 v2)) ∧ M' = M) := ⟨_, rfl⟩
  rw [← hQ]
  refine C2_of (L := [(2, 66), (0, v1), (0, v2)]) (by decide +kernel) (Nat.le_of_ble_eq_true rfl) rfl (fun hG => ?_)
  refine T_iload_n (i := 1) (pc' := 1) dX12_isSooner_0 rfl rfl rfl ?_
  refine T_iconst (pc' := 2) dX12_isSooner_1 (by decide) rfl ?_
  have HJ1 : T E miX12_isSooner 1 126 0 0 (fun r S M' => S = S0 ∧ G h M' ∧ Q r M') 20 [(3, 0), (3, 0), (3, 0)] [(0, (if v1 = (-1) then (0 : Int) else (if v2 = (-1) then (1 : Int) else (if v2 ≤ v1 then (0 : Int) else 1))))] S0 M 0 0 := by
    exact T_zret dX12_isSooner_20 rfl (by repeat' (first | apply bi | exact Or.inl rfl | exact Or.inr rfl)) ⟨rfl, hG, (by rw [hQ]; exact ⟨rfl, rfl⟩)⟩
  refine T_icmp_eq (pc' := 19) dX12_isSooner_2 (by decide) (pf := 5) rfl (fun c2 => ?_) (fun c2 => ?_)
  · skip
    refine T_iconst (pc' := 20) dX12_isSooner_19 (by decide) rfl ?_
    exact T_wk (L' := [(3, 0), (3, 0), (3, 0)]) (by have q := HJ1; try simp only [if_pos c2] at q; exact q) ⟨Or.inl rfl, Or.inl rfl, Or.inl rfl, trivial⟩
  · skip
    refine T_iload_n (i := 2) (pc' := 6) dX12_isSooner_5 rfl rfl rfl ?_
    refine T_iconst (pc' := 7) dX12_isSooner_6 (by decide) rfl ?_
    refine T_icmp_eq (pc' := 15) dX12_isSooner_7 (by decide) (pf := 10) rfl (fun c3 => ?_) (fun c3 => ?_)
    · skip
      refine T_iconst (pc' := 16) dX12_isSooner_15 (by decide) rfl ?_
      refine T_goto (pc' := 20) dX12_isSooner_16 (by decide) ?_
      exact T_wk (L' := [(3, 0), (3, 0), (3, 0)]) (by have q := HJ1; try simp only [if_neg c2] at q; try simp only [if_pos c3] at q; exact q) ⟨Or.inl rfl, Or.inl rfl, Or.inl rfl, trivial⟩
    · skip
      refine T_iload_n (i := 1) (pc' := 11) dX12_isSooner_10 rfl rfl rfl ?_
      refine T_iload_n (i := 2) (pc' := 12) dX12_isSooner_11 rfl rfl rfl ?_
      refine T_icmp_ge (pc' := 19) dX12_isSooner_12 (by decide) (pf := 15) rfl (fun c4 => ?_) (fun c4 => ?_)
      · skip
        refine T_iconst (pc' := 20) dX12_isSooner_19 (by decide) rfl ?_
        exact T_wk (L' := [(3, 0), (3, 0), (3, 0)]) (by have q := HJ1; try simp only [if_neg c2] at q; try simp only [if_neg c3] at q; try simp only [if_pos c4] at q; exact q) ⟨Or.inl rfl, Or.inl rfl, Or.inl rfl, trivial⟩
      · skip
        refine T_iconst (pc' := 16) dX12_isSooner_15 (by decide) rfl ?_
        refine T_goto (pc' := 20) dX12_isSooner_16 (by decide) ?_
        exact T_wk (L' := [(3, 0), (3, 0), (3, 0)]) (by have q := HJ1; try simp only [if_neg c2] at q; try simp only [if_neg c3] at q; try simp only [if_neg c4] at q; exact q) ⟨Or.inl rfl, Or.inl rfl, Or.inl rfl, trivial⟩
theorem fbX12_isSooner (v1 : Int) (v2 : Int) : (fX12_isSooner v1 v2) = 0 ∨ (fX12_isSooner v1 v2) = 1 := by
  unfold fX12_isSooner
  repeat' (first | apply bi | exact Or.inl rfl | exact Or.inr rfl)
def fmX12_qCode (M : Mem) (v1 : Int) : Mem :=
  (mset (mset M 122 (M 66 79) v1) 66 79 (wr32 (((mset M 122 (M 66 79) v1) 66 79) + 1)))
def nX12_qCode (M : Mem) : Prop :=
  (0 ≤ (M 66 79) ∧ (M 66 79) < 1700)
theorem gX12_qCode {h : Int} {M : Mem} {v1 : Int}  (hG : G h M) : G h (fmX12_qCode M v1) := by
  unfold fmX12_qCode
  exact (G_fld (x := 66) (i := 79) (y := (wr32 (((mset M 122 (M 66 79) v1) 66 79) + 1))) rfl (by decide) (by decide) (by decide) (G_arr (x := 122) (i := (M 66 79)) (y := v1) rfl (by decide) hG))
set_option maxRecDepth 100000 in
theorem pX12_qCode {E : EV} {h : Int} {M : Mem} {v1 : Int} (hs : (nX12_qCode M)) : C2 E miX12_qCode 1 h [(2, 66), (0, v1)] M (fun r M' => r = none ∧ M' = (fmX12_qCode M v1)) := by
  obtain ⟨Q, hQ⟩ : ∃ Q : Option MV → Mem → Prop, Q = (fun r M' => r = none ∧ M' = (fmX12_qCode M v1)) := ⟨_, rfl⟩
  rw [← hQ]
  have o1 := hs
  refine C2_of (L := [(2, 66), (0, v1)]) (by decide +kernel) (Nat.le_of_ble_eq_true rfl) rfl (fun hG => ?_)
  refine T_aload_n (i := 0) (pc' := 1) dX12_qCode_0 rfl rfl rfl ?_
  refine U_gr (q := 122) (k := 78) (kI := 78) (pc' := 4) dX12_qCode_1 rfl cl12 (by decide) rfl (by decide) flX12_186 rfl rfl rfl (G_at hG 122 rfl) (by decide) rfl ?_
  refine T_aload_n (i := 0) (pc' := 5) dX12_qCode_4 rfl rfl rfl ?_
  refine U_gf (v := (0, (M 66 79))) (k := 79) (kI := 79) (pc' := 8) dX12_qCode_5 rfl cl12 (by decide) rfl (by decide) flX12_517 rfl rfl (by decide) rfl rfl ?_
  refine T_iload_n (i := 1) (pc' := 9) dX12_qCode_8 rfl rfl rfl ?_
  refine T_iast (pc' := 10) dX12_qCode_9 (by decide) rfl (o1).1 (o1).2 rfl ?_
  refine T_aload_n (i := 0) (pc' := 11) dX12_qCode_10 rfl rfl rfl ?_
  refine T_dup (pc' := 12) dX12_qCode_11 (Nat.ne_of_beq_eq_false rfl) rfl ?_
  refine U_gf (v := (0, ((mset M 122 (M 66 79) v1) 66 79))) (k := 79) (kI := 79) (pc' := 15) dX12_qCode_12 rfl cl12 (by decide) rfl (by decide) flX12_517 rfl rfl (by decide) rfl rfl ?_
  refine T_iconst (pc' := 16) dX12_qCode_15 (by decide) rfl ?_
  refine T_iadd (pc' := 17) dX12_qCode_16 rfl ?_
  refine U_pf (y := (wr32 (((mset M 122 (M 66 79) v1) 66 79) + 1))) (k := 79) (kI := 79) (pc' := 20) dX12_qCode_17 rfl cl12 (by decide) rfl (by decide) flX12_517 rfl rfl rfl rfl rfl (by decide) (fun z => z) rfl ?_
  exact T_vret dX12_qCode_20 rfl ⟨rfl, (G_fld (x := 66) (i := 79) (y := (wr32 (((mset M 122 (M 66 79) v1) 66 79) + 1))) rfl (by decide) (by decide) (by decide) (G_arr (x := 122) (i := (M 66 79)) (y := v1) rfl (by decide) hG)), (by rw [hQ]; exact ⟨rfl, rfl⟩)⟩
theorem frX12_qCode {M : Mem} {v1 : Int}  {q : Int} (hq0 : q ≠ 122) (hq1 : q ≠ 66) : (fmX12_qCode M v1) q = M q := by
  unfold fmX12_qCode
  repeat' (first | rfl | rw [mset_p hq0] | rw [mset_p hq1] | rw [mcpy_p hq0] | rw [mcpy_p hq1] | rw [ite_ap] | split)
def fmX12_qOpens (M : Mem) (v1 : Int) (v2 : Int) : Mem :=
  (if (M 66 5) = 0 then (if (M 66 82) = 6 then (fmX12_fail M 4 v2) else (mset (mset (mset M 66 82 (wr32 ((M 66 82) + 1))) 123 ((mset M 66 82 (wr32 ((M 66 82) + 1))) 66 81) v1) 66 81 (wr32 (((mset (mset M 66 82 (wr32 ((M 66 82) + 1))) 123 ((mset M 66 82 (wr32 ((M 66 82) + 1))) 66 81) v1) 66 81) + 1)))) else M)
def nX12_qOpens (M : Mem) : Prop :=
  ((M 66 5) = 0 → ¬ ((M 66 82) = 6) → 0 ≤ ((mset M 66 82 (wr32 ((M 66 82) + 1))) 66 81) ∧ ((mset M 66 82 (wr32 ((M 66 82) + 1))) 66 81) < 1700)
theorem gX12_qOpens {h : Int} {M : Mem} {v1 : Int} {v2 : Int}  (hG : G h M) : G h (fmX12_qOpens M v1 v2) := by
  unfold fmX12_qOpens
  exact (G_ite (G_ite (gX12_fail (h := h) (M := M) (v1 := 4) (v2 := v2) hG) (G_fld (x := 66) (i := 81) (y := (wr32 (((mset (mset M 66 82 (wr32 ((M 66 82) + 1))) 123 ((mset M 66 82 (wr32 ((M 66 82) + 1))) 66 81) v1) 66 81) + 1))) rfl (by decide) (by decide) (by decide) (G_arr (x := 123) (i := ((mset M 66 82 (wr32 ((M 66 82) + 1))) 66 81)) (y := v1) rfl (by decide) (G_fld (x := 66) (i := 82) (y := (wr32 ((M 66 82) + 1))) rfl (by decide) (by decide) (by decide) hG)))) hG)
set_option maxRecDepth 100000 in
theorem pX12_qOpens {E : EV} {h : Int} {M : Mem} {v1 : Int} {v2 : Int} (hs : (nX12_qOpens M)) : C2 E miX12_qOpens 2 h [(2, 66), (0, v1), (0, v2)] M (fun r M' => r = none ∧ M' = (fmX12_qOpens M v1 v2)) := by
  obtain ⟨Q, hQ⟩ : ∃ Q : Option MV → Mem → Prop, Q = (fun r M' => r = none ∧ M' = (fmX12_qOpens M v1 v2)) := ⟨_, rfl⟩
  rw [← hQ]
  have o1 := hs
  refine C2_of (L := [(2, 66), (0, v1), (0, v2)]) (by decide +kernel) (Nat.le_of_ble_eq_true rfl) rfl (fun hG => ?_)
  refine T_aload_n (i := 0) (pc' := 1) dX12_qOpens_0 rfl rfl rfl ?_
  refine U_gf (v := (0, (M 66 5))) (k := 5) (kI := 5) (pc' := 4) dX12_qOpens_1 rfl cl12 (by decide) rfl (by decide) flX12_201 rfl rfl (by decide) rfl rfl ?_
  refine T_if_eq (pc' := 8) dX12_qOpens_4 (by decide) (pf := 7) rfl (fun c1 => ?_) (fun c1 => ?_)
  · skip
    refine T_aload_n (i := 0) (pc' := 9) dX12_qOpens_8 rfl rfl rfl ?_
    refine U_gf (v := (0, (M 66 82))) (k := 82) (kI := 82) (pc' := 12) dX12_qOpens_9 rfl cl12 (by decide) rfl (by decide) flX12_520 rfl rfl (by decide) rfl rfl ?_
    refine T_bipush (pc' := 14) dX12_qOpens_12 rfl (by decide) rfl ?_
    refine T_icmp_ne (pc' := 24) dX12_qOpens_14 (by decide) (pf := 17) rfl (fun c2 => ?_) (fun c2 => ?_)
    · skip
      refine T_aload_n (i := 0) (pc' := 25) dX12_qOpens_24 rfl rfl rfl ?_
      refine T_dup (pc' := 26) dX12_qOpens_25 (Nat.ne_of_beq_eq_false rfl) rfl ?_
      refine U_gf (v := (0, (M 66 82))) (k := 82) (kI := 82) (pc' := 29) dX12_qOpens_26 rfl cl12 (by decide) rfl (by decide) flX12_520 rfl rfl (by decide) rfl rfl ?_
      refine T_iconst (pc' := 30) dX12_qOpens_29 (by decide) rfl ?_
      refine T_iadd (pc' := 31) dX12_qOpens_30 rfl ?_
      refine U_pf (y := (wr32 ((M 66 82) + 1))) (k := 82) (kI := 82) (pc' := 34) dX12_qOpens_31 rfl cl12 (by decide) rfl (by decide) flX12_520 rfl rfl rfl rfl rfl (by decide) (fun z => z) rfl ?_
      refine T_aload_n (i := 0) (pc' := 35) dX12_qOpens_34 rfl rfl rfl ?_
      refine U_gr (q := 123) (k := 80) (kI := 80) (pc' := 38) dX12_qOpens_35 rfl cl12 (by decide) rfl (by decide) flX12_189 rfl rfl rfl (G_at (G_fld (x := 66) (i := 82) (y := (wr32 ((M 66 82) + 1))) rfl (by decide) (by decide) (by decide) hG) 123 rfl) (by decide) rfl ?_
      refine T_aload_n (i := 0) (pc' := 39) dX12_qOpens_38 rfl rfl rfl ?_
      refine U_gf (v := (0, ((mset M 66 82 (wr32 ((M 66 82) + 1))) 66 81))) (k := 81) (kI := 81) (pc' := 42) dX12_qOpens_39 rfl cl12 (by decide) rfl (by decide) flX12_523 rfl rfl (by decide) rfl rfl ?_
      refine T_iload_n (i := 1) (pc' := 43) dX12_qOpens_42 rfl rfl rfl ?_
      refine T_iast (pc' := 44) dX12_qOpens_43 (by decide) rfl (o1 c1 c2).1 (o1 c1 c2).2 rfl ?_
      refine T_aload_n (i := 0) (pc' := 45) dX12_qOpens_44 rfl rfl rfl ?_
      refine T_dup (pc' := 46) dX12_qOpens_45 (Nat.ne_of_beq_eq_false rfl) rfl ?_
      refine U_gf (v := (0, ((mset (mset M 66 82 (wr32 ((M 66 82) + 1))) 123 ((mset M 66 82 (wr32 ((M 66 82) + 1))) 66 81) v1) 66 81))) (k := 81) (kI := 81) (pc' := 49) dX12_qOpens_46 rfl cl12 (by decide) rfl (by decide) flX12_523 rfl rfl (by decide) rfl rfl ?_
      refine T_iconst (pc' := 50) dX12_qOpens_49 (by decide) rfl ?_
      refine T_iadd (pc' := 51) dX12_qOpens_50 rfl ?_
      refine U_pf (y := (wr32 (((mset (mset M 66 82 (wr32 ((M 66 82) + 1))) 123 ((mset M 66 82 (wr32 ((M 66 82) + 1))) 66 81) v1) 66 81) + 1))) (k := 81) (kI := 81) (pc' := 54) dX12_qOpens_51 rfl cl12 (by decide) rfl (by decide) flX12_523 rfl rfl rfl rfl rfl (by decide) (fun z => z) rfl ?_
      exact T_vret dX12_qOpens_54 rfl ⟨rfl, (G_fld (x := 66) (i := 81) (y := (wr32 (((mset (mset M 66 82 (wr32 ((M 66 82) + 1))) 123 ((mset M 66 82 (wr32 ((M 66 82) + 1))) 66 81) v1) 66 81) + 1))) rfl (by decide) (by decide) (by decide) (G_arr (x := 123) (i := ((mset M 66 82 (wr32 ((M 66 82) + 1))) 66 81)) (y := v1) rfl (by decide) (G_fld (x := 66) (i := 82) (y := (wr32 ((M 66 82) + 1))) rfl (by decide) (by decide) (by decide) hG))), (by rw [hQ]; exact ⟨rfl, (by unfold fmX12_qOpens; simp only [if_pos c1, if_neg c2])⟩)⟩
    · skip
      refine T_aload_n (i := 0) (pc' := 18) dX12_qOpens_17 rfl rfl rfl ?_
      refine T_iconst (pc' := 19) dX12_qOpens_18 (by decide) rfl ?_
      refine T_iload_n (i := 2) (pc' := 20) dX12_qOpens_19 rfl rfl rfl ?_
      refine T_callV (av := [(0, 4), (0, v2)]) (st := []) (d2 := 1) (nc2 := 0) (ns2 := 0) (pc' := 23) dX12_qOpens_20 rfl mtX12_fail mvX12_fail mlX12_231 cl12 rfl rfl rfl (Nat.le_of_ble_eq_true rfl) (by decide) ⟨by decide, by decide⟩ rfl (pX12_fail (E := E) (h := h) (M := M) (v1 := 4) (v2 := v2) hG) (kF (st2 := []) rfl (fun hG3 => ?_))
      exact T_vret dX12_qOpens_23 rfl ⟨rfl, (gX12_fail (h := h) (M := M) (v1 := 4) (v2 := v2) hG), (by rw [hQ]; exact ⟨rfl, (by unfold fmX12_qOpens; simp only [if_pos c1, if_pos c2])⟩)⟩
  · skip
    exact T_vret dX12_qOpens_7 rfl ⟨rfl, hG, (by rw [hQ]; exact ⟨rfl, (by unfold fmX12_qOpens; simp only [if_neg c1])⟩)⟩
theorem frX12_qOpens {M : Mem} {v1 : Int} {v2 : Int}  {q : Int} (hq0 : q ≠ 66) (hq1 : q ≠ 123) : (fmX12_qOpens M v1 v2) q = M q := by
  unfold fmX12_qOpens
  repeat' (first | rfl | rw [mset_p hq0] | rw [mset_p hq1] | rw [mcpy_p hq0] | rw [mcpy_p hq1] | (rw [frX12_fail] <;> try assumption) | rw [ite_ap] | split)
def fX12_qIsOn (M : Mem) (v1 : Int) : Int :=
  (if (M 66 81) ≤ 0 then (0 : Int) else (if (M 123 (wr32 ((M 66 81) - 1))) = v1 then (1 : Int) else 0))
def nX12_qIsOn (M : Mem) : Prop :=
  (¬ ((M 66 81) ≤ 0) → 0 ≤ (wr32 ((M 66 81) - 1)) ∧ (wr32 ((M 66 81) - 1)) < 1700)
set_option maxRecDepth 100000 in
theorem pX12_qIsOn {E : EV} {h : Int} {M : Mem} {v1 : Int} (hs : (nX12_qIsOn M)) : C2 E miX12_qIsOn 1 h [(2, 66), (0, v1)] M (fun r M' => r = some (0, (fX12_qIsOn M v1)) ∧ M' = M) := by
  obtain ⟨Q, hQ⟩ : ∃ Q : Option MV → Mem → Prop, Q = (fun r M' => r = some (0, (fX12_qIsOn M v1)) ∧ M' = M) := ⟨_, rfl⟩
  rw [← hQ]
  have o1 := hs
  refine C2_of (L := [(2, 66), (0, v1)]) (by decide +kernel) (Nat.le_of_ble_eq_true rfl) rfl (fun hG => ?_)
  refine T_aload_n (i := 0) (pc' := 1) dX12_qIsOn_0 rfl rfl rfl ?_
  refine U_gf (v := (0, (M 66 81))) (k := 81) (kI := 81) (pc' := 4) dX12_qIsOn_1 rfl cl12 (by decide) rfl (by decide) flX12_523 rfl rfl (by decide) rfl rfl ?_
  have HJ1 : T E miX12_qIsOn 1 126 0 0 (fun r S M' => S = S0 ∧ G h M' ∧ Q r M') 27 [(3, 0), (3, 0)] [(0, (if (M 66 81) ≤ 0 then (0 : Int) else (if (M 123 (wr32 ((M 66 81) - 1))) = v1 then (1 : Int) else 0)))] S0 M 0 0 := by
    exact T_zret dX12_qIsOn_27 rfl (by repeat' (first | apply bi | exact Or.inl rfl | exact Or.inr rfl)) ⟨rfl, hG, (by rw [hQ]; exact ⟨rfl, rfl⟩)⟩
  refine T_if_le (pc' := 26) dX12_qIsOn_4 (by decide) (pf := 7) rfl (fun c2 => ?_) (fun c2 => ?_)
  · skip
    refine T_iconst (pc' := 27) dX12_qIsOn_26 (by decide) rfl ?_
    exact T_wk (L' := [(3, 0), (3, 0)]) (by have q := HJ1; try simp only [if_pos c2] at q; exact q) ⟨Or.inl rfl, Or.inl rfl, trivial⟩
  · skip
    refine T_aload_n (i := 0) (pc' := 8) dX12_qIsOn_7 rfl rfl rfl ?_
    refine U_gr (q := 123) (k := 80) (kI := 80) (pc' := 11) dX12_qIsOn_8 rfl cl12 (by decide) rfl (by decide) flX12_189 rfl rfl rfl (G_at hG 123 rfl) (by decide) rfl ?_
    refine T_aload_n (i := 0) (pc' := 12) dX12_qIsOn_11 rfl rfl rfl ?_
    refine U_gf (v := (0, (M 66 81))) (k := 81) (kI := 81) (pc' := 15) dX12_qIsOn_12 rfl cl12 (by decide) rfl (by decide) flX12_523 rfl rfl (by decide) rfl rfl ?_
    refine T_iconst (pc' := 16) dX12_qIsOn_15 (by decide) rfl ?_
    refine T_isub (pc' := 17) dX12_qIsOn_16 rfl ?_
    refine T_iald (pc' := 18) dX12_qIsOn_17 (by decide) rfl (o1 c2).1 (o1 c2).2 rfl ?_
    refine T_iload_n (i := 1) (pc' := 19) dX12_qIsOn_18 rfl rfl rfl ?_
    refine T_icmp_ne (pc' := 26) dX12_qIsOn_19 (by decide) (pf := 22) rfl (fun c3 => ?_) (fun c3 => ?_)
    · skip
      refine T_iconst (pc' := 27) dX12_qIsOn_26 (by decide) rfl ?_
      exact T_wk (L' := [(3, 0), (3, 0)]) (by have q := HJ1; try simp only [if_neg c2] at q; try simp only [if_neg c3] at q; exact q) ⟨Or.inl rfl, Or.inl rfl, trivial⟩
    · skip
      refine T_iconst (pc' := 23) dX12_qIsOn_22 (by decide) rfl ?_
      refine T_goto (pc' := 27) dX12_qIsOn_23 (by decide) ?_
      exact T_wk (L' := [(3, 0), (3, 0)]) (by have q := HJ1; try simp only [if_neg c2] at q; try simp only [if_pos c3] at q; exact q) ⟨Or.inl rfl, Or.inl rfl, trivial⟩
theorem fbX12_qIsOn (M : Mem) (v1 : Int) : (fX12_qIsOn M v1) = 0 ∨ (fX12_qIsOn M v1) = 1 := by
  unfold fX12_qIsOn
  repeat' (first | apply bi | exact Or.inl rfl | exact Or.inr rfl)
def fmX12_qDrops (M : Mem) : Mem :=
  (fmX12_qCode (mset M 66 81 (wr32 ((M 66 81) - 1))) ((mset M 66 81 (wr32 ((M 66 81) - 1))) 123 ((mset M 66 81 (wr32 ((M 66 81) - 1))) 66 81)))
def nX12_qDrops (M : Mem) : Prop :=
  (0 ≤ ((mset M 66 81 (wr32 ((M 66 81) - 1))) 66 81) ∧ ((mset M 66 81 (wr32 ((M 66 81) - 1))) 66 81) < 1700) ∧ ((nX12_qCode (mset M 66 81 (wr32 ((M 66 81) - 1)))))
theorem gX12_qDrops {h : Int} {M : Mem}   (hG : G h M) : G h (fmX12_qDrops M) := by
  unfold fmX12_qDrops
  exact (gX12_qCode (h := h) (M := (mset M 66 81 (wr32 ((M 66 81) - 1)))) (v1 := ((mset M 66 81 (wr32 ((M 66 81) - 1))) 123 ((mset M 66 81 (wr32 ((M 66 81) - 1))) 66 81))) (G_fld (x := 66) (i := 81) (y := (wr32 ((M 66 81) - 1))) rfl (by decide) (by decide) (by decide) hG))
set_option maxRecDepth 100000 in
theorem pX12_qDrops {E : EV} {h : Int} {M : Mem}  (hs : (nX12_qDrops M)) : C2 E miX12_qDrops 2 h [(2, 66)] M (fun r M' => r = none ∧ M' = (fmX12_qDrops M)) := by
  obtain ⟨Q, hQ⟩ : ∃ Q : Option MV → Mem → Prop, Q = (fun r M' => r = none ∧ M' = (fmX12_qDrops M)) := ⟨_, rfl⟩
  rw [← hQ]
  obtain ⟨o1, o2⟩ := hs
  refine C2_of (L := [(2, 66)]) (by decide +kernel) (Nat.le_of_ble_eq_true rfl) rfl (fun hG => ?_)
  refine T_aload_n (i := 0) (pc' := 1) dX12_qDrops_0 rfl rfl rfl ?_
  refine T_dup (pc' := 2) dX12_qDrops_1 (Nat.ne_of_beq_eq_false rfl) rfl ?_
  refine U_gf (v := (0, (M 66 81))) (k := 81) (kI := 81) (pc' := 5) dX12_qDrops_2 rfl cl12 (by decide) rfl (by decide) flX12_523 rfl rfl (by decide) rfl rfl ?_
  refine T_iconst (pc' := 6) dX12_qDrops_5 (by decide) rfl ?_
  refine T_isub (pc' := 7) dX12_qDrops_6 rfl ?_
  refine U_pf (y := (wr32 ((M 66 81) - 1))) (k := 81) (kI := 81) (pc' := 10) dX12_qDrops_7 rfl cl12 (by decide) rfl (by decide) flX12_523 rfl rfl rfl rfl rfl (by decide) (fun z => z) rfl ?_
  refine T_aload_n (i := 0) (pc' := 11) dX12_qDrops_10 rfl rfl rfl ?_
  refine T_aload_n (i := 0) (pc' := 12) dX12_qDrops_11 rfl rfl rfl ?_
  refine U_gr (q := 123) (k := 80) (kI := 80) (pc' := 15) dX12_qDrops_12 rfl cl12 (by decide) rfl (by decide) flX12_189 rfl rfl rfl (G_at (G_fld (x := 66) (i := 81) (y := (wr32 ((M 66 81) - 1))) rfl (by decide) (by decide) (by decide) hG) 123 rfl) (by decide) rfl ?_
  refine T_aload_n (i := 0) (pc' := 16) dX12_qDrops_15 rfl rfl rfl ?_
  refine U_gf (v := (0, ((mset M 66 81 (wr32 ((M 66 81) - 1))) 66 81))) (k := 81) (kI := 81) (pc' := 19) dX12_qDrops_16 rfl cl12 (by decide) rfl (by decide) flX12_523 rfl rfl (by decide) rfl rfl ?_
  refine T_iald (pc' := 20) dX12_qDrops_19 (by decide) rfl (o1).1 (o1).2 rfl ?_
  refine T_callV (av := [(0, ((mset M 66 81 (wr32 ((M 66 81) - 1))) 123 ((mset M 66 81 (wr32 ((M 66 81) - 1))) 66 81)))]) (st := []) (d2 := 1) (nc2 := 0) (ns2 := 0) (pc' := 23) dX12_qDrops_20 rfl mtX12_qCode mvX12_qCode mlX12_526 cl12 rfl rfl rfl (Nat.le_of_ble_eq_true rfl) (by decide) ⟨by decide, by decide⟩ rfl (pX12_qCode (E := E) (h := h) (M := (mset M 66 81 (wr32 ((M 66 81) - 1)))) (v1 := ((mset M 66 81 (wr32 ((M 66 81) - 1))) 123 ((mset M 66 81 (wr32 ((M 66 81) - 1))) 66 81))) (o2) (G_fld (x := 66) (i := 81) (y := (wr32 ((M 66 81) - 1))) rfl (by decide) (by decide) (by decide) hG)) (kF (st2 := []) rfl (fun hG1 => ?_))
  exact T_vret dX12_qDrops_23 rfl ⟨rfl, (gX12_qCode (h := h) (M := (mset M 66 81 (wr32 ((M 66 81) - 1)))) (v1 := ((mset M 66 81 (wr32 ((M 66 81) - 1))) 123 ((mset M 66 81 (wr32 ((M 66 81) - 1))) 66 81))) (G_fld (x := 66) (i := 81) (y := (wr32 ((M 66 81) - 1))) rfl (by decide) (by decide) (by decide) hG)), (by rw [hQ]; exact ⟨rfl, rfl⟩)⟩
theorem frX12_qDrops {M : Mem}  {q : Int} (hq0 : q ≠ 66) (hq1 : q ≠ 122) : (fmX12_qDrops M) q = M q := by
  unfold fmX12_qDrops
  repeat' (first | rfl | rw [mset_p hq0] | rw [mset_p hq1] | rw [mcpy_p hq0] | rw [mcpy_p hq1] | (rw [frX12_qCode] <;> try assumption) | rw [ite_ap] | split)
def fX12_qIsBracket (v0 : Int) : Int :=
  (if v0 < 20 then (0 : Int) else (if 24 < v0 then (0 : Int) else 1))
set_option maxRecDepth 100000 in
theorem pX12_qIsBracket {E : EV} {h : Int} {M : Mem} {v0 : Int}  : C2 E miX12_qIsBracket 1 h [(0, v0)] M (fun r M' => r = some (0, (fX12_qIsBracket v0)) ∧ M' = M) := by
  obtain ⟨Q, hQ⟩ : ∃ Q : Option MV → Mem → Prop, Q = (fun r M' => r = some (0, (fX12_qIsBracket v0)) ∧ M' = M) := ⟨_, rfl⟩
  rw [← hQ]
  refine C2_of (L := [(0, v0)]) (by decide +kernel) (Nat.le_of_ble_eq_true rfl) rfl (fun hG => ?_)
  refine T_iload_n (i := 0) (pc' := 1) dX12_qIsBracket_0 rfl rfl rfl ?_
  refine T_bipush (pc' := 3) dX12_qIsBracket_1 rfl (by decide) rfl ?_
  have HJ1 : T E miX12_qIsBracket 1 126 0 0 (fun r S M' => S = S0 ∧ G h M' ∧ Q r M') 17 [(3, 0)] [(0, (if v0 < 20 then (0 : Int) else (if 24 < v0 then (0 : Int) else 1)))] S0 M 0 0 := by
    exact T_zret dX12_qIsBracket_17 rfl (by repeat' (first | apply bi | exact Or.inl rfl | exact Or.inr rfl)) ⟨rfl, hG, (by rw [hQ]; exact ⟨rfl, rfl⟩)⟩
  refine T_icmp_lt (pc' := 16) dX12_qIsBracket_3 (by decide) (pf := 6) rfl (fun c2 => ?_) (fun c2 => ?_)
  · skip
    refine T_iconst (pc' := 17) dX12_qIsBracket_16 (by decide) rfl ?_
    exact T_wk (L' := [(3, 0)]) (by have q := HJ1; try simp only [if_pos c2] at q; exact q) ⟨Or.inl rfl, trivial⟩
  · skip
    refine T_iload_n (i := 0) (pc' := 7) dX12_qIsBracket_6 rfl rfl rfl ?_
    refine T_bipush (pc' := 9) dX12_qIsBracket_7 rfl (by decide) rfl ?_
    refine T_icmp_gt (pc' := 16) dX12_qIsBracket_9 (by decide) (pf := 12) rfl (fun c3 => ?_) (fun c3 => ?_)
    · skip
      refine T_iconst (pc' := 17) dX12_qIsBracket_16 (by decide) rfl ?_
      exact T_wk (L' := [(3, 0)]) (by have q := HJ1; try simp only [if_neg c2] at q; try simp only [if_pos c3] at q; exact q) ⟨Or.inl rfl, trivial⟩
    · skip
      refine T_iconst (pc' := 13) dX12_qIsBracket_12 (by decide) rfl ?_
      refine T_goto (pc' := 17) dX12_qIsBracket_13 (by decide) ?_
      exact T_wk (L' := [(3, 0)]) (by have q := HJ1; try simp only [if_neg c2] at q; try simp only [if_neg c3] at q; exact q) ⟨Or.inl rfl, trivial⟩
theorem fbX12_qIsBracket (v0 : Int) : (fX12_qIsBracket v0) = 0 ∨ (fX12_qIsBracket v0) = 1 := by
  unfold fX12_qIsBracket
  repeat' (first | apply bi | exact Or.inl rfl | exact Or.inr rfl)
def fX12_qClip (v0 : Int) : Int :=
  (if (m_cmp v0 1000000) ≤ 0 then (if 0 ≤ (m_cmp v0 (-1000000)) then v0 else (-1000000)) else 1000000)
set_option maxRecDepth 100000 in
theorem pX12_qClip {E : EV} {h : Int} {M : Mem} {v0 : Int}  : C2 E miX12_qClip 1 h [(1, v0)] M (fun r M' => r = some (1, (fX12_qClip v0)) ∧ M' = M) := by
  obtain ⟨Q, hQ⟩ : ∃ Q : Option MV → Mem → Prop, Q = (fun r M' => r = some (1, (fX12_qClip v0)) ∧ M' = M) := ⟨_, rfl⟩
  rw [← hQ]
  refine C2_of (L := [(1, v0), (3, 0)]) (by decide +kernel) (Nat.le_of_ble_eq_true rfl) rfl (fun hG => ?_)
  refine T_lload_n (i := 0) (pc' := 1) dX12_qClip_0 rfl rfl rfl ?_
  refine T_ldc2 (n := 1000000) (pc' := 4) dX12_qClip_1 rfl kjX12_583 rfl (by decide) rfl ?_
  refine T_lcmp (pc' := 5) dX12_qClip_4 rfl ?_
  have HJ1 : T E miX12_qClip 1 126 0 0 (fun r S M' => S = S0 ∧ G h M' ∧ Q r M') 29 [(3, 0), (3, 0)] [(1, (if (m_cmp v0 1000000) ≤ 0 then (if 0 ≤ (m_cmp v0 (-1000000)) then v0 else (-1000000)) else 1000000))] S0 M 0 0 := by
    exact T_lret dX12_qClip_29 rfl ⟨rfl, hG, (by rw [hQ]; exact ⟨rfl, rfl⟩)⟩
  refine T_if_le (pc' := 14) dX12_qClip_5 (by decide) (pf := 8) rfl (fun c2 => ?_) (fun c2 => ?_)
  · skip
    refine T_lload_n (i := 0) (pc' := 15) dX12_qClip_14 rfl rfl rfl ?_
    refine T_ldc2 (n := (-1000000)) (pc' := 18) dX12_qClip_15 rfl kjX12_585 rfl (by decide) rfl ?_
    refine T_lcmp (pc' := 19) dX12_qClip_18 rfl ?_
    refine T_if_ge (pc' := 28) dX12_qClip_19 (by decide) (pf := 22) rfl (fun c3 => ?_) (fun c3 => ?_)
    · skip
      refine T_lload_n (i := 0) (pc' := 29) dX12_qClip_28 rfl rfl rfl ?_
      exact T_wk (L' := [(3, 0), (3, 0)]) (by have q := HJ1; try simp only [if_pos c2] at q; try simp only [if_pos c3] at q; exact q) ⟨Or.inl rfl, Or.inl rfl, trivial⟩
    · skip
      refine T_ldc2 (n := (-1000000)) (pc' := 25) dX12_qClip_22 rfl kjX12_585 rfl (by decide) rfl ?_
      refine T_goto (pc' := 29) dX12_qClip_25 (by decide) ?_
      exact T_wk (L' := [(3, 0), (3, 0)]) (by have q := HJ1; try simp only [if_pos c2] at q; try simp only [if_neg c3] at q; exact q) ⟨Or.inl rfl, Or.inl rfl, trivial⟩
  · skip
    refine T_ldc2 (n := 1000000) (pc' := 11) dX12_qClip_8 rfl kjX12_583 rfl (by decide) rfl ?_
    refine T_goto (pc' := 29) dX12_qClip_11 (by decide) ?_
    exact T_wk (L' := [(3, 0), (3, 0)]) (by have q := HJ1; try simp only [if_neg c2] at q; exact q) ⟨Or.inl rfl, Or.inl rfl, trivial⟩
def fmX12_qPuts (M : Mem) (v1 : Int) : Mem :=
  (mset (mset M 124 (M 66 85) v1) 66 85 (wr32 (((mset M 124 (M 66 85) v1) 66 85) + 1)))
def nX12_qPuts (M : Mem) : Prop :=
  (0 ≤ (M 66 85) ∧ (M 66 85) < 1700)
theorem gX12_qPuts {h : Int} {M : Mem} {v1 : Int}  (hG : G h M) : G h (fmX12_qPuts M v1) := by
  unfold fmX12_qPuts
  exact (G_fld (x := 66) (i := 85) (y := (wr32 (((mset M 124 (M 66 85) v1) 66 85) + 1))) rfl (by decide) (by decide) (by decide) (G_arr (x := 124) (i := (M 66 85)) (y := v1) rfl (by decide) hG))
set_option maxRecDepth 100000 in
theorem pX12_qPuts {E : EV} {h : Int} {M : Mem} {v1 : Int} (hs : (nX12_qPuts M)) : C2 E miX12_qPuts 1 h [(2, 66), (1, v1)] M (fun r M' => r = none ∧ M' = (fmX12_qPuts M v1)) := by
  obtain ⟨Q, hQ⟩ : ∃ Q : Option MV → Mem → Prop, Q = (fun r M' => r = none ∧ M' = (fmX12_qPuts M v1)) := ⟨_, rfl⟩
  rw [← hQ]
  have o1 := hs
  refine C2_of (L := [(2, 66), (1, v1), (3, 0)]) (by decide +kernel) (Nat.le_of_ble_eq_true rfl) rfl (fun hG => ?_)
  refine T_aload_n (i := 0) (pc' := 1) dX12_qPuts_0 rfl rfl rfl ?_
  refine U_gr (q := 124) (k := 84) (kI := 84) (pc' := 4) dX12_qPuts_1 rfl cl12 (by decide) rfl (by decide) flX12_192 rfl rfl rfl (G_at hG 124 rfl) (by decide) rfl ?_
  refine T_aload_n (i := 0) (pc' := 5) dX12_qPuts_4 rfl rfl rfl ?_
  refine U_gf (v := (0, (M 66 85))) (k := 85) (kI := 85) (pc' := 8) dX12_qPuts_5 rfl cl12 (by decide) rfl (by decide) flX12_587 rfl rfl (by decide) rfl rfl ?_
  refine T_lload_n (i := 1) (pc' := 9) dX12_qPuts_8 rfl rfl rfl ?_
  refine T_last (pc' := 10) dX12_qPuts_9 (by decide) rfl (o1).1 (o1).2 rfl ?_
  refine T_aload_n (i := 0) (pc' := 11) dX12_qPuts_10 rfl rfl rfl ?_
  refine T_dup (pc' := 12) dX12_qPuts_11 (Nat.ne_of_beq_eq_false rfl) rfl ?_
  refine U_gf (v := (0, ((mset M 124 (M 66 85) v1) 66 85))) (k := 85) (kI := 85) (pc' := 15) dX12_qPuts_12 rfl cl12 (by decide) rfl (by decide) flX12_587 rfl rfl (by decide) rfl rfl ?_
  refine T_iconst (pc' := 16) dX12_qPuts_15 (by decide) rfl ?_
  refine T_iadd (pc' := 17) dX12_qPuts_16 rfl ?_
  refine U_pf (y := (wr32 (((mset M 124 (M 66 85) v1) 66 85) + 1))) (k := 85) (kI := 85) (pc' := 20) dX12_qPuts_17 rfl cl12 (by decide) rfl (by decide) flX12_587 rfl rfl rfl rfl rfl (by decide) (fun z => z) rfl ?_
  exact T_vret dX12_qPuts_20 rfl ⟨rfl, (G_fld (x := 66) (i := 85) (y := (wr32 (((mset M 124 (M 66 85) v1) 66 85) + 1))) rfl (by decide) (by decide) (by decide) (G_arr (x := 124) (i := (M 66 85)) (y := v1) rfl (by decide) hG)), (by rw [hQ]; exact ⟨rfl, rfl⟩)⟩
theorem frX12_qPuts {M : Mem} {v1 : Int}  {q : Int} (hq0 : q ≠ 124) (hq1 : q ≠ 66) : (fmX12_qPuts M v1) q = M q := by
  unfold fmX12_qPuts
  repeat' (first | rfl | rw [mset_p hq0] | rw [mset_p hq1] | rw [mcpy_p hq0] | rw [mcpy_p hq1] | rw [ite_ap] | split)
def fX12_qDoes (M : Mem) (v1 : Int) (v2 : Int) : Int :=
  (if (fX12_isComing M v1) = 0 then 0 else (if (fX12_isOut M v1 v2) = 0 then (if (fX12_isWaiting M v1 v2) = 0 then (if (fX12_isOpen M v1 v2) = 0 then (3 : Int) else 2) else 1) else 4))
def nX12_qDoes (M : Mem) (v1 : Int) (v2 : Int) : Prop :=
  (¬ ((fX12_isComing M v1) = 0) → (nX12_isOut M v1)) ∧ (¬ ((fX12_isComing M v1) = 0) → (fX12_isOut M v1 v2) = 0 → (nX12_isWaiting M v1)) ∧ (¬ ((fX12_isComing M v1) = 0) → (fX12_isOut M v1 v2) = 0 → (fX12_isWaiting M v1 v2) = 0 → (nX12_isOpen M v1 v2))
set_option maxRecDepth 100000 in
theorem pX12_qDoes {E : EV} {h : Int} {M : Mem} {v1 : Int} {v2 : Int} (hs : (nX12_qDoes M v1 v2)) : C2 E miX12_qDoes 4 h [(2, 66), (0, v1), (0, v2)] M (fun r M' => r = some (0, (fX12_qDoes M v1 v2)) ∧ M' = M) := by
  obtain ⟨Q, hQ⟩ : ∃ Q : Option MV → Mem → Prop, Q = (fun r M' => r = some (0, (fX12_qDoes M v1 v2)) ∧ M' = M) := ⟨_, rfl⟩
  rw [← hQ]
  obtain ⟨o1, o2, o3⟩ := hs
  refine C2_of (L := [(2, 66), (0, v1), (0, v2)]) (by decide +kernel) (Nat.le_of_ble_eq_true rfl) rfl (fun hG => ?_)
  refine T_aload_n (i := 0) (pc' := 1) dX12_qDoes_0 rfl rfl rfl ?_
  refine T_iload_n (i := 1) (pc' := 2) dX12_qDoes_1 rfl rfl rfl ?_
  refine T_callV (av := [(0, v1)]) (st := []) (d2 := 3) (nc2 := 0) (ns2 := 0) (pc' := 5) dX12_qDoes_2 rfl mtX12_isComing mvX12_isComing mlX12_376 cl12 rfl rfl rfl (Nat.le_of_ble_eq_true rfl) (by decide) ⟨by decide, by decide⟩ rfl (pX12_isComing (E := E) (h := h) (M := M) (v1 := v1) hG) (kF (st2 := [(0, (fX12_isComing M v1))]) rfl (fun hG1 => ?_))
  refine T_if_ne (pc' := 10) dX12_qDoes_5 (by decide) (pf := 8) rfl (fun c2 => ?_) (fun c2 => ?_)
  · skip
    refine T_aload_n (i := 0) (pc' := 11) dX12_qDoes_10 rfl rfl rfl ?_
    refine T_iload_n (i := 1) (pc' := 12) dX12_qDoes_11 rfl rfl rfl ?_
    refine T_iload_n (i := 2) (pc' := 13) dX12_qDoes_12 rfl rfl rfl ?_
    refine T_callV (av := [(0, v1), (0, v2)]) (st := []) (d2 := 1) (nc2 := 0) (ns2 := 0) (pc' := 16) dX12_qDoes_13 rfl mtX12_isOut mvX12_isOut mlX12_395 cl12 rfl rfl rfl (Nat.le_of_ble_eq_true rfl) (by decide) ⟨by decide, by decide⟩ rfl (pX12_isOut (E := E) (h := h) (M := M) (v1 := v1) (v2 := v2) (o1 c2) hG) (kF (st2 := [(0, (fX12_isOut M v1 v2))]) rfl (fun hG3 => ?_))
    have HJ4 : T E miX12_qDoes 4 126 0 0 (fun r S M' => S = S0 ∧ G h M' ∧ Q r M') 50 [(3, 0), (3, 0), (3, 0)] [(0, (if (fX12_isOut M v1 v2) = 0 then (if (fX12_isWaiting M v1 v2) = 0 then (if (fX12_isOpen M v1 v2) = 0 then (3 : Int) else 2) else 1) else 4))] S0 M 0 0 := by
      exact T_iret dX12_qDoes_50 rfl ⟨rfl, hG, (by rw [hQ]; exact ⟨(by unfold fX12_qDoes; simp only [if_neg c2]), rfl⟩)⟩
    refine T_if_eq (pc' := 23) dX12_qDoes_16 (by decide) (pf := 19) rfl (fun c5 => ?_) (fun c5 => ?_)
    · skip
      refine T_aload_n (i := 0) (pc' := 24) dX12_qDoes_23 rfl rfl rfl ?_
      refine T_iload_n (i := 1) (pc' := 25) dX12_qDoes_24 rfl rfl rfl ?_
      refine T_iload_n (i := 2) (pc' := 26) dX12_qDoes_25 rfl rfl rfl ?_
      refine T_callV (av := [(0, v1), (0, v2)]) (st := []) (d2 := 1) (nc2 := 0) (ns2 := 0) (pc' := 29) dX12_qDoes_26 rfl mtX12_isWaiting mvX12_isWaiting mlX12_389 cl12 rfl rfl rfl (Nat.le_of_ble_eq_true rfl) (by decide) ⟨by decide, by decide⟩ rfl (pX12_isWaiting (E := E) (h := h) (M := M) (v1 := v1) (v2 := v2) (o2 c2 c5) hG) (kF (st2 := [(0, (fX12_isWaiting M v1 v2))]) rfl (fun hG6 => ?_))
      refine T_if_eq (pc' := 36) dX12_qDoes_29 (by decide) (pf := 32) rfl (fun c7 => ?_) (fun c7 => ?_)
      · skip
        refine T_aload_n (i := 0) (pc' := 37) dX12_qDoes_36 rfl rfl rfl ?_
        refine T_iload_n (i := 1) (pc' := 38) dX12_qDoes_37 rfl rfl rfl ?_
        refine T_iload_n (i := 2) (pc' := 39) dX12_qDoes_38 rfl rfl rfl ?_
        refine T_callV (av := [(0, v1), (0, v2)]) (st := []) (d2 := 2) (nc2 := 0) (ns2 := 0) (pc' := 42) dX12_qDoes_39 rfl mtX12_isOpen mvX12_isOpen mlX12_379 cl12 rfl rfl rfl (Nat.le_of_ble_eq_true rfl) (by decide) ⟨by decide, by decide⟩ rfl (pX12_isOpen (E := E) (h := h) (M := M) (v1 := v1) (v2 := v2) (o3 c2 c5 c7) hG) (kF (st2 := [(0, (fX12_isOpen M v1 v2))]) rfl (fun hG8 => ?_))
        refine T_if_eq (pc' := 49) dX12_qDoes_42 (by decide) (pf := 45) rfl (fun c9 => ?_) (fun c9 => ?_)
        · skip
          refine T_iconst (pc' := 50) dX12_qDoes_49 (by decide) rfl ?_
          exact T_wk (L' := [(3, 0), (3, 0), (3, 0)]) (by have q := HJ4; try simp only [if_pos c5] at q; try simp only [if_pos c7] at q; try simp only [if_pos c9] at q; exact q) ⟨Or.inl rfl, Or.inl rfl, Or.inl rfl, trivial⟩
        · skip
          refine T_iconst (pc' := 46) dX12_qDoes_45 (by decide) rfl ?_
          refine T_goto (pc' := 50) dX12_qDoes_46 (by decide) ?_
          exact T_wk (L' := [(3, 0), (3, 0), (3, 0)]) (by have q := HJ4; try simp only [if_pos c5] at q; try simp only [if_pos c7] at q; try simp only [if_neg c9] at q; exact q) ⟨Or.inl rfl, Or.inl rfl, Or.inl rfl, trivial⟩
      · skip
        refine T_iconst (pc' := 33) dX12_qDoes_32 (by decide) rfl ?_
        refine T_goto (pc' := 50) dX12_qDoes_33 (by decide) ?_
        exact T_wk (L' := [(3, 0), (3, 0), (3, 0)]) (by have q := HJ4; try simp only [if_pos c5] at q; try simp only [if_neg c7] at q; exact q) ⟨Or.inl rfl, Or.inl rfl, Or.inl rfl, trivial⟩
    · skip
      refine T_iconst (pc' := 20) dX12_qDoes_19 (by decide) rfl ?_
      refine T_goto (pc' := 50) dX12_qDoes_20 (by decide) ?_
      exact T_wk (L' := [(3, 0), (3, 0), (3, 0)]) (by have q := HJ4; try simp only [if_neg c5] at q; exact q) ⟨Or.inl rfl, Or.inl rfl, Or.inl rfl, trivial⟩
  · skip
    refine T_iconst (pc' := 9) dX12_qDoes_8 (by decide) rfl ?_
    exact T_iret dX12_qDoes_9 rfl ⟨rfl, hG, (by rw [hQ]; exact ⟨(by unfold fX12_qDoes; simp only [if_pos c2]), rfl⟩)⟩
def fX12_qOf (M : Mem) (v1 : Int) (v2 : Int) (v4 : Int) : Int :=
  (if v1 = 0 then (if (fX12_isIn v2 0 (wr32 ((fX12_peopleMany M) - 1))) = 0 then (99 : Int) else (if (fX12_qDoes M (wr32 v2) v4) ≤ 0 then (99 : Int) else (if 4 ≤ (fX12_qDoes M (wr32 v2) v4) then (99 : Int) else (fX12_whereIn M (wr32 v2) v4)))) else (if (fX12_isIn v2 0 (wr32 ((fX12_peopleMany M) - 1))) = 0 then (0 : Int) else (fX12_qDoes M (wr32 v2) v4)))
def nX12_qOf (M : Mem) (v1 : Int) (v2 : Int) (v4 : Int) : Prop :=
  (v1 = 0 → ¬ ((fX12_isIn v2 0 (wr32 ((fX12_peopleMany M) - 1))) = 0) → (nX12_qDoes M (wr32 v2) v4)) ∧ (v1 = 0 → ¬ ((fX12_isIn v2 0 (wr32 ((fX12_peopleMany M) - 1))) = 0) → ¬ ((fX12_qDoes M (wr32 v2) v4) ≤ 0) → (nX12_qDoes M (wr32 v2) v4)) ∧ (v1 = 0 → ¬ ((fX12_isIn v2 0 (wr32 ((fX12_peopleMany M) - 1))) = 0) → ¬ ((fX12_qDoes M (wr32 v2) v4) ≤ 0) → ¬ (4 ≤ (fX12_qDoes M (wr32 v2) v4)) → (nX12_whereIn (wr32 v2) v4)) ∧ (¬ (v1 = 0) → ¬ ((fX12_isIn v2 0 (wr32 ((fX12_peopleMany M) - 1))) = 0) → (nX12_qDoes M (wr32 v2) v4))
set_option maxRecDepth 100000 in
theorem pX12_qOf {E : EV} {h : Int} {M : Mem} {v1 : Int} {v2 : Int} {v4 : Int} (hs : (nX12_qOf M v1 v2 v4)) : C2 E miX12_qOf 5 h [(2, 66), (0, v1), (1, v2), (0, v4)] M (fun r M' => r = some (1, (fX12_qOf M v1 v2 v4)) ∧ M' = M) := by
  obtain ⟨Q, hQ⟩ : ∃ Q : Option MV → Mem → Prop, Q = (fun r M' => r = some (1, (fX12_qOf M v1 v2 v4)) ∧ M' = M) := ⟨_, rfl⟩
  rw [← hQ]
  obtain ⟨o1, o2, o3, o4⟩ := hs
  refine C2_of (L := [(2, 66), (0, v1), (1, v2), (3, 0), (0, v4)]) (by decide +kernel) (Nat.le_of_ble_eq_true rfl) rfl (fun hG => ?_)
  refine T_iload_n (i := 1) (pc' := 1) dX12_qOf_0 rfl rfl rfl ?_
  by_cases c1 : v1 = 0
  · skip
    refine T_lookup (pc' := 20) dX12_qOf_1 (by decide) (by rw [c1] <;> rfl) (by decide) ?_
    refine T_lload_n (i := 2) (pc' := 21) dX12_qOf_20 rfl rfl rfl ?_
    refine T_lconst (v := 0) (pc' := 22) dX12_qOf_21 rfl (by decide) rfl ?_
    refine T_aload_n (i := 0) (pc' := 23) dX12_qOf_22 rfl rfl rfl ?_
    refine T_callV (av := []) (st := [(1, 0), (1, v2)]) (d2 := 1) (nc2 := 0) (ns2 := 0) (pc' := 26) dX12_qOf_23 rfl mtX12_peopleMany mvX12_peopleMany mlX12_349 cl12 rfl rfl rfl (Nat.le_of_ble_eq_true rfl) (by decide) ⟨by decide, by decide⟩ rfl (pX12_peopleMany (E := E) (h := h) (M := M) hG) (kF (st2 := [(0, (fX12_peopleMany M)), (1, 0), (1, v2)]) rfl (fun hG2 => ?_))
    refine T_iconst (pc' := 27) dX12_qOf_26 (by decide) rfl ?_
    refine T_isub (pc' := 28) dX12_qOf_27 rfl ?_
    refine T_i2l (pc' := 29) dX12_qOf_28 rfl ?_
    refine T_callS (av := [(1, v2), (1, 0), (1, (wr32 ((fX12_peopleMany M) - 1)))]) (st := []) (d2 := 1) (nc2 := 0) (ns2 := 0) (pc' := 32) dX12_qOf_29 rfl mtX12_isIn mvX12_isIn mlX12_244 rfl rfl (Nat.le_of_ble_eq_true rfl) (by decide) ⟨by decide, by decide⟩ rfl (pX12_isIn (E := E) (h := h) (M := M) (v0 := v2) (v2 := 0) (v4 := (wr32 ((fX12_peopleMany M) - 1))) hG) (kF (st2 := [(0, (fX12_isIn v2 0 (wr32 ((fX12_peopleMany M) - 1))))]) rfl (fun hG3 => ?_))
    have HJ4 : T E miX12_qOf 5 126 0 0 (fun r S M' => S = S0 ∧ G h M' ∧ Q r M') 73 [(3, 0), (3, 0), (3, 0), (3, 0), (3, 0)] [(1, (if (fX12_isIn v2 0 (wr32 ((fX12_peopleMany M) - 1))) = 0 then (99 : Int) else (if (fX12_qDoes M (wr32 v2) v4) ≤ 0 then (99 : Int) else (if 4 ≤ (fX12_qDoes M (wr32 v2) v4) then (99 : Int) else (fX12_whereIn M (wr32 v2) v4)))))] S0 M 0 0 := by
      exact T_lret dX12_qOf_73 rfl ⟨rfl, hG, (by rw [hQ]; exact ⟨(by unfold fX12_qOf; simp only [if_pos c1]), rfl⟩)⟩
    refine T_if_eq (pc' := 70) dX12_qOf_32 (by decide) (pf := 35) rfl (fun c5 => ?_) (fun c5 => ?_)
    · skip
      refine T_ldc2 (n := 99) (pc' := 73) dX12_qOf_70 rfl kjX12_609 rfl (by decide) rfl ?_
      exact T_wk (L' := [(3, 0), (3, 0), (3, 0), (3, 0), (3, 0)]) (by have q := HJ4; try simp only [if_pos c5] at q; exact q) ⟨Or.inl rfl, Or.inl rfl, Or.inl rfl, Or.inl rfl, Or.inl rfl, trivial⟩
    · skip
      refine T_aload_n (i := 0) (pc' := 36) dX12_qOf_35 rfl rfl rfl ?_
      refine T_lload_n (i := 2) (pc' := 37) dX12_qOf_36 rfl rfl rfl ?_
      refine T_l2i (pc' := 38) dX12_qOf_37 rfl ?_
      refine T_iload (i := 4) (pc' := 40) dX12_qOf_38 rfl rfl ?_
      refine T_callV (av := [(0, (wr32 v2)), (0, v4)]) (st := []) (d2 := 4) (nc2 := 0) (ns2 := 0) (pc' := 43) dX12_qOf_40 rfl mtX12_qDoes mvX12_qDoes mlX12_606 cl12 rfl rfl rfl (Nat.le_of_ble_eq_true rfl) (by decide) ⟨by decide, by decide⟩ rfl (pX12_qDoes (E := E) (h := h) (M := M) (v1 := (wr32 v2)) (v2 := v4) (o1 c1 c5) hG) (kF (st2 := [(0, (fX12_qDoes M (wr32 v2) v4))]) rfl (fun hG6 => ?_))
      refine T_if_le (pc' := 70) dX12_qOf_43 (by decide) (pf := 46) rfl (fun c7 => ?_) (fun c7 => ?_)
      · skip
        refine T_ldc2 (n := 99) (pc' := 73) dX12_qOf_70 rfl kjX12_609 rfl (by decide) rfl ?_
        exact T_wk (L' := [(3, 0), (3, 0), (3, 0), (3, 0), (3, 0)]) (by have q := HJ4; try simp only [if_neg c5] at q; try simp only [if_pos c7] at q; exact q) ⟨Or.inl rfl, Or.inl rfl, Or.inl rfl, Or.inl rfl, Or.inl rfl, trivial⟩
      · skip
        refine T_aload_n (i := 0) (pc' := 47) dX12_qOf_46 rfl rfl rfl ?_
        refine T_lload_n (i := 2) (pc' := 48) dX12_qOf_47 rfl rfl rfl ?_
        refine T_l2i (pc' := 49) dX12_qOf_48 rfl ?_
        refine T_iload (i := 4) (pc' := 51) dX12_qOf_49 rfl rfl ?_
        refine T_callV (av := [(0, (wr32 v2)), (0, v4)]) (st := []) (d2 := 4) (nc2 := 0) (ns2 := 0) (pc' := 54) dX12_qOf_51 rfl mtX12_qDoes mvX12_qDoes mlX12_606 cl12 rfl rfl rfl (Nat.le_of_ble_eq_true rfl) (by decide) ⟨by decide, by decide⟩ rfl (pX12_qDoes (E := E) (h := h) (M := M) (v1 := (wr32 v2)) (v2 := v4) (o2 c1 c5 c7) hG) (kF (st2 := [(0, (fX12_qDoes M (wr32 v2) v4))]) rfl (fun hG8 => ?_))
        refine T_iconst (pc' := 55) dX12_qOf_54 (by decide) rfl ?_
        refine T_icmp_ge (pc' := 70) dX12_qOf_55 (by decide) (pf := 58) rfl (fun c9 => ?_) (fun c9 => ?_)
        · skip
          refine T_ldc2 (n := 99) (pc' := 73) dX12_qOf_70 rfl kjX12_609 rfl (by decide) rfl ?_
          exact T_wk (L' := [(3, 0), (3, 0), (3, 0), (3, 0), (3, 0)]) (by have q := HJ4; try simp only [if_neg c5] at q; try simp only [if_neg c7] at q; try simp only [if_pos c9] at q; exact q) ⟨Or.inl rfl, Or.inl rfl, Or.inl rfl, Or.inl rfl, Or.inl rfl, trivial⟩
        · skip
          refine T_aload_n (i := 0) (pc' := 59) dX12_qOf_58 rfl rfl rfl ?_
          refine T_lload_n (i := 2) (pc' := 60) dX12_qOf_59 rfl rfl rfl ?_
          refine T_l2i (pc' := 61) dX12_qOf_60 rfl ?_
          refine T_iload (i := 4) (pc' := 63) dX12_qOf_61 rfl rfl ?_
          refine T_callV (av := [(0, (wr32 v2)), (0, v4)]) (st := []) (d2 := 1) (nc2 := 0) (ns2 := 0) (pc' := 66) dX12_qOf_63 rfl mtX12_whereIn mvX12_whereIn mlX12_383 cl12 rfl rfl rfl (Nat.le_of_ble_eq_true rfl) (by decide) ⟨by decide, by decide⟩ rfl (pX12_whereIn (E := E) (h := h) (M := M) (v1 := (wr32 v2)) (v2 := v4) (o3 c1 c5 c7 c9) hG) (kF (st2 := [(0, (fX12_whereIn M (wr32 v2) v4))]) rfl (fun hG10 => ?_))
          refine T_i2l (pc' := 67) dX12_qOf_66 rfl ?_
          refine T_goto (pc' := 73) dX12_qOf_67 (by decide) ?_
          exact T_wk (L' := [(3, 0), (3, 0), (3, 0), (3, 0), (3, 0)]) (by have q := HJ4; try simp only [if_neg c5] at q; try simp only [if_neg c7] at q; try simp only [if_neg c9] at q; exact q) ⟨Or.inl rfl, Or.inl rfl, Or.inl rfl, Or.inl rfl, Or.inl rfl, trivial⟩
  · skip
    refine T_lookup (off := 73) (pc' := 74) dX12_qOf_1 (by decide) (by show (if 0 = v1 then 19 else 73) = 73; rw [if_neg (fun z => c1 z.symm)]) (by decide) ?_
    refine T_lload_n (i := 2) (pc' := 75) dX12_qOf_74 rfl rfl rfl ?_
    refine T_lconst (v := 0) (pc' := 76) dX12_qOf_75 rfl (by decide) rfl ?_
    refine T_aload_n (i := 0) (pc' := 77) dX12_qOf_76 rfl rfl rfl ?_
    refine T_callV (av := []) (st := [(1, 0), (1, v2)]) (d2 := 1) (nc2 := 0) (ns2 := 0) (pc' := 80) dX12_qOf_77 rfl mtX12_peopleMany mvX12_peopleMany mlX12_349 cl12 rfl rfl rfl (Nat.le_of_ble_eq_true rfl) (by decide) ⟨by decide, by decide⟩ rfl (pX12_peopleMany (E := E) (h := h) (M := M) hG) (kF (st2 := [(0, (fX12_peopleMany M)), (1, 0), (1, v2)]) rfl (fun hG11 => ?_))
    refine T_iconst (pc' := 81) dX12_qOf_80 (by decide) rfl ?_
    refine T_isub (pc' := 82) dX12_qOf_81 rfl ?_
    refine T_i2l (pc' := 83) dX12_qOf_82 rfl ?_
    refine T_callS (av := [(1, v2), (1, 0), (1, (wr32 ((fX12_peopleMany M) - 1)))]) (st := []) (d2 := 1) (nc2 := 0) (ns2 := 0) (pc' := 86) dX12_qOf_83 rfl mtX12_isIn mvX12_isIn mlX12_244 rfl rfl (Nat.le_of_ble_eq_true rfl) (by decide) ⟨by decide, by decide⟩ rfl (pX12_isIn (E := E) (h := h) (M := M) (v0 := v2) (v2 := 0) (v4 := (wr32 ((fX12_peopleMany M) - 1))) hG) (kF (st2 := [(0, (fX12_isIn v2 0 (wr32 ((fX12_peopleMany M) - 1))))]) rfl (fun hG12 => ?_))
    have HJ13 : T E miX12_qOf 5 126 0 0 (fun r S M' => S = S0 ∧ G h M' ∧ Q r M') 102 [(3, 0), (3, 0), (3, 0), (3, 0), (3, 0)] [(1, (if (fX12_isIn v2 0 (wr32 ((fX12_peopleMany M) - 1))) = 0 then (0 : Int) else (fX12_qDoes M (wr32 v2) v4)))] S0 M 0 0 := by
      exact T_lret dX12_qOf_102 rfl ⟨rfl, hG, (by rw [hQ]; exact ⟨(by unfold fX12_qOf; simp only [if_neg c1]), rfl⟩)⟩
    refine T_if_eq (pc' := 101) dX12_qOf_86 (by decide) (pf := 89) rfl (fun c14 => ?_) (fun c14 => ?_)
    · skip
      refine T_lconst (v := 0) (pc' := 102) dX12_qOf_101 rfl (by decide) rfl ?_
      exact T_wk (L' := [(3, 0), (3, 0), (3, 0), (3, 0), (3, 0)]) (by have q := HJ13; try simp only [if_pos c14] at q; exact q) ⟨Or.inl rfl, Or.inl rfl, Or.inl rfl, Or.inl rfl, Or.inl rfl, trivial⟩
    · skip
      refine T_aload_n (i := 0) (pc' := 90) dX12_qOf_89 rfl rfl rfl ?_
      refine T_lload_n (i := 2) (pc' := 91) dX12_qOf_90 rfl rfl rfl ?_
      refine T_l2i (pc' := 92) dX12_qOf_91 rfl ?_
      refine T_iload (i := 4) (pc' := 94) dX12_qOf_92 rfl rfl ?_
      refine T_callV (av := [(0, (wr32 v2)), (0, v4)]) (st := []) (d2 := 4) (nc2 := 0) (ns2 := 0) (pc' := 97) dX12_qOf_94 rfl mtX12_qDoes mvX12_qDoes mlX12_606 cl12 rfl rfl rfl (Nat.le_of_ble_eq_true rfl) (by decide) ⟨by decide, by decide⟩ rfl (pX12_qDoes (E := E) (h := h) (M := M) (v1 := (wr32 v2)) (v2 := v4) (o4 c1 c14) hG) (kF (st2 := [(0, (fX12_qDoes M (wr32 v2) v4))]) rfl (fun hG15 => ?_))
      refine T_i2l (pc' := 98) dX12_qOf_97 rfl ?_
      refine T_goto (pc' := 102) dX12_qOf_98 (by decide) ?_
      exact T_wk (L' := [(3, 0), (3, 0), (3, 0), (3, 0), (3, 0)]) (by have q := HJ13; try simp only [if_neg c14] at q; exact q) ⟨Or.inl rfl, Or.inl rfl, Or.inl rfl, Or.inl rfl, Or.inl rfl, trivial⟩
def fmX12_writes (M : Mem) (v1 : Int) : Mem :=
  (mset (mset M 125 (M 66 89) v1) 66 89 (wr32 (((mset M 125 (M 66 89) v1) 66 89) + 1)))
def nX12_writes (M : Mem) : Prop :=
  (0 ≤ (M 66 89) ∧ (M 66 89) < 34)
theorem gX12_writes {h : Int} {M : Mem} {v1 : Int}  (hG : G h M) : G h (fmX12_writes M v1) := by
  unfold fmX12_writes
  exact (G_fld (x := 66) (i := 89) (y := (wr32 (((mset M 125 (M 66 89) v1) 66 89) + 1))) rfl (by decide) (by decide) (by decide) (G_arr (x := 125) (i := (M 66 89)) (y := v1) rfl (by decide) hG))
set_option maxRecDepth 100000 in
theorem pX12_writes {E : EV} {h : Int} {M : Mem} {v1 : Int} (hs : (nX12_writes M)) : C2 E miX12_writes 1 h [(2, 66), (0, v1)] M (fun r M' => r = none ∧ M' = (fmX12_writes M v1)) := by
  obtain ⟨Q, hQ⟩ : ∃ Q : Option MV → Mem → Prop, Q = (fun r M' => r = none ∧ M' = (fmX12_writes M v1)) := ⟨_, rfl⟩
  rw [← hQ]
  have o1 := hs
  refine C2_of (L := [(2, 66), (0, v1)]) (by decide +kernel) (Nat.le_of_ble_eq_true rfl) rfl (fun hG => ?_)
  refine T_aload_n (i := 0) (pc' := 1) dX12_writes_0 rfl rfl rfl ?_
  refine U_gr (q := 125) (k := 88) (kI := 88) (pc' := 4) dX12_writes_1 rfl cl12 (by decide) rfl (by decide) flX12_195 rfl rfl rfl (G_at hG 125 rfl) (by decide) rfl ?_
  refine T_aload_n (i := 0) (pc' := 5) dX12_writes_4 rfl rfl rfl ?_
  refine U_gf (v := (0, (M 66 89))) (k := 89) (kI := 89) (pc' := 8) dX12_writes_5 rfl cl12 (by decide) rfl (by decide) flX12_645 rfl rfl (by decide) rfl rfl ?_
  refine T_iload_n (i := 1) (pc' := 9) dX12_writes_8 rfl rfl rfl ?_
  refine T_iast (pc' := 10) dX12_writes_9 (by decide) rfl (o1).1 (o1).2 rfl ?_
  refine T_aload_n (i := 0) (pc' := 11) dX12_writes_10 rfl rfl rfl ?_
  refine T_dup (pc' := 12) dX12_writes_11 (Nat.ne_of_beq_eq_false rfl) rfl ?_
  refine U_gf (v := (0, ((mset M 125 (M 66 89) v1) 66 89))) (k := 89) (kI := 89) (pc' := 15) dX12_writes_12 rfl cl12 (by decide) rfl (by decide) flX12_645 rfl rfl (by decide) rfl rfl ?_
  refine T_iconst (pc' := 16) dX12_writes_15 (by decide) rfl ?_
  refine T_iadd (pc' := 17) dX12_writes_16 rfl ?_
  refine U_pf (y := (wr32 (((mset M 125 (M 66 89) v1) 66 89) + 1))) (k := 89) (kI := 89) (pc' := 20) dX12_writes_17 rfl cl12 (by decide) rfl (by decide) flX12_645 rfl rfl rfl rfl rfl (by decide) (fun z => z) rfl ?_
  exact T_vret dX12_writes_20 rfl ⟨rfl, (G_fld (x := 66) (i := 89) (y := (wr32 (((mset M 125 (M 66 89) v1) 66 89) + 1))) rfl (by decide) (by decide) (by decide) (G_arr (x := 125) (i := (M 66 89)) (y := v1) rfl (by decide) hG)), (by rw [hQ]; exact ⟨rfl, rfl⟩)⟩
theorem frX12_writes {M : Mem} {v1 : Int}  {q : Int} (hq0 : q ≠ 125) (hq1 : q ≠ 66) : (fmX12_writes M v1) q = M q := by
  unfold fmX12_writes
  repeat' (first | rfl | rw [mset_p hq0] | rw [mset_p hq1] | rw [mcpy_p hq0] | rw [mcpy_p hq1] | rw [ite_ap] | split)
def fX12_octet (M : Mem) (v1 : Int) : Int :=
  (if v1 < 0 then ((-1) : Int) else (if (M 66 89) ≤ v1 then ((-1) : Int) else (M 125 v1)))
def nX12_octet (M : Mem) (v1 : Int) : Prop :=
  (¬ (v1 < 0) → ¬ ((M 66 89) ≤ v1) → 0 ≤ v1 ∧ v1 < 34)
set_option maxRecDepth 100000 in
theorem pX12_octet {E : EV} {h : Int} {M : Mem} {v1 : Int} (hs : (nX12_octet M v1)) : C2 E miX12_octet 1 h [(2, 66), (0, v1)] M (fun r M' => r = some (0, (fX12_octet M v1)) ∧ M' = M) := by
  obtain ⟨Q, hQ⟩ : ∃ Q : Option MV → Mem → Prop, Q = (fun r M' => r = some (0, (fX12_octet M v1)) ∧ M' = M) := ⟨_, rfl⟩
  rw [← hQ]
  have o1 := hs
  refine C2_of (L := [(2, 66), (0, v1)]) (by decide +kernel) (Nat.le_of_ble_eq_true rfl) rfl (fun hG => ?_)
  refine T_iload_n (i := 1) (pc' := 1) dX12_octet_0 rfl rfl rfl ?_
  have HJ1 : T E miX12_octet 1 126 0 0 (fun r S M' => S = S0 ∧ G h M' ∧ Q r M') 22 [(3, 0), (3, 0)] [(0, (if v1 < 0 then ((-1) : Int) else (if (M 66 89) ≤ v1 then ((-1) : Int) else (M 125 v1))))] S0 M 0 0 := by
    exact T_iret dX12_octet_22 rfl ⟨rfl, hG, (by rw [hQ]; exact ⟨rfl, rfl⟩)⟩
  refine T_if_lt (pc' := 21) dX12_octet_1 (by decide) (pf := 4) rfl (fun c2 => ?_) (fun c2 => ?_)
  · skip
    refine T_iconst (pc' := 22) dX12_octet_21 (by decide) rfl ?_
    exact T_wk (L' := [(3, 0), (3, 0)]) (by have q := HJ1; try simp only [if_pos c2] at q; exact q) ⟨Or.inl rfl, Or.inl rfl, trivial⟩
  · skip
    refine T_iload_n (i := 1) (pc' := 5) dX12_octet_4 rfl rfl rfl ?_
    refine T_aload_n (i := 0) (pc' := 6) dX12_octet_5 rfl rfl rfl ?_
    refine U_gf (v := (0, (M 66 89))) (k := 89) (kI := 89) (pc' := 9) dX12_octet_6 rfl cl12 (by decide) rfl (by decide) flX12_645 rfl rfl (by decide) rfl rfl ?_
    refine T_icmp_ge (pc' := 21) dX12_octet_9 (by decide) (pf := 12) rfl (fun c3 => ?_) (fun c3 => ?_)
    · skip
      refine T_iconst (pc' := 22) dX12_octet_21 (by decide) rfl ?_
      exact T_wk (L' := [(3, 0), (3, 0)]) (by have q := HJ1; try simp only [if_neg c2] at q; try simp only [if_pos c3] at q; exact q) ⟨Or.inl rfl, Or.inl rfl, trivial⟩
    · skip
      refine T_aload_n (i := 0) (pc' := 13) dX12_octet_12 rfl rfl rfl ?_
      refine U_gr (q := 125) (k := 88) (kI := 88) (pc' := 16) dX12_octet_13 rfl cl12 (by decide) rfl (by decide) flX12_195 rfl rfl rfl (G_at hG 125 rfl) (by decide) rfl ?_
      refine T_iload_n (i := 1) (pc' := 17) dX12_octet_16 rfl rfl rfl ?_
      refine T_iald (pc' := 18) dX12_octet_17 (by decide) rfl (o1 c2 c3).1 (o1 c2 c3).2 rfl ?_
      refine T_goto (pc' := 22) dX12_octet_18 (by decide) ?_
      exact T_wk (L' := [(3, 0), (3, 0)]) (by have q := HJ1; try simp only [if_neg c2] at q; try simp only [if_neg c3] at q; exact q) ⟨Or.inl rfl, Or.inl rfl, trivial⟩
