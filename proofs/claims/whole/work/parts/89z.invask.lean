/-! ask: the call keeps the coupling -/
section
theorem ask_inv {h : Int} {H : Hal} {M N M2 : Mem} (hg : isG h) (hI : InvH h H M) (nq : ∀ q, 24 < q → N q = M q) (nj : ∀ j, j ≠ 14 → j ≠ 15 → j ≠ 16 → j ≠ 17 → N 0 j = M 0 j) (n11 : N 1 1 = 0) (nW : iW h H N) (g : fRq N M2) (m1 : M2 66 1 = 0) (m7 : M2 66 7 = N 0 14) (m8 : M2 66 8 = N 0 15) : InvH h H M2 := by
  obtain ⟨hok, hc, hr, hT, hF, hK, hC, hS, hO, hA, hW⟩ := hI
  have hh : (h = 32 ∨ h = 49) := hg
  have q0 : ∀ q, q ≠ 66 → q < 93 → M2 q = N q := fun q a c => g.1 q a (Or.inl c)
  have qM : ∀ q, 24 < q → q ≠ 66 → (q < 93 ∨ (99 < q ∧ q ≠ 122 ∧ q ≠ 123 ∧ q ≠ 124)) → M2 q = M q := fun q a c d => (g.1 q c d).trans (nq q a)
  have j66 : ∀ j, (j = 38 ∨ j = 39 ∨ j = 42 ∨ j = 54 ∨ j = 55 ∨ j = 56 ∨ j = 89) → M2 66 j = M 66 j := fun j hj => by rw [g.2 j hj, nq 66 (by decide)]
  have j0 : ∀ j, j ≠ 14 → j ≠ 15 → j ≠ 16 → j ≠ 17 → M2 0 j = M 0 j := fun j a c d f => by rw [q0 0 (by decide) (by decide)]; exact nj j a c d f
  refine ⟨hok, Ch_f3 (fun q a d => qM q (by omega) (by omega) (by omega)) hc, ?_, ?_, ?_, iK_fr (fun q hq => qM q (by omega) (by omega) (by omega)) hK, iC_fr ⟨j66 42 (by decide), j0 12 (by decide) (by decide) (by decide) (by decide)⟩ hC, iS_fr ⟨j66 56 (by decide), j0 13 (by decide) (by decide) (by decide) (by decide)⟩ hS, iO_fr ⟨j66 89 (by decide), j0 9 (by decide) (by decide) (by decide) (by decide), qM 31 (by decide) (by decide) (by decide), qM 125 (by decide) (by decide) (by decide)⟩ hO, iA_fr ⟨by rw [qM 27 (by decide) (by decide) (by decide)], qM 28 (by decide) (by decide) (by decide), qM 29 (by decide) (by decide) (by decide), qM 30 (by decide) (by decide) (by decide), j66 54 (by decide), j66 55 (by decide), qM 100 (by decide) (by decide) (by decide)⟩ hA, ?_⟩
  · unfold Rh at hr ⊢
    rw [j66 38 (by decide), j66 39 (by decide), qM 85 (by decide) (by decide) (by decide), qM 86 (by decide) (by decide) (by decide), qM 87 (by decide) (by decide) (by decide), qM 88 (by decide) (by decide) (by decide), qM 89 (by decide) (by decide) (by decide), qM 90 (by decide) (by decide) (by decide), qM 91 (by decide) (by decide) (by decide), qM 92 (by decide) (by decide) (by decide)]
    exact hr
  · have e1 : M2 1 1 = 0 := by rw [q0 1 (by decide) (by decide)]; exact n11
    refine ⟨by rw [e1]; decide, by rw [e1]; decide, by rw [e1]; exact m1, fun k x y => ?_⟩
    rw [e1] at y; omega
  · unfold iF
    rw [m7, m8, q0 0 (by decide) (by decide)]
    exact ⟨rfl, rfl⟩
  · have e0 := q0 0 (by decide) (by decide)
    exact iW_f2 (q0 (h + 16) (by omega) (by omega)) ⟨by rw [e0], by rw [e0], by rw [e0]⟩ ⟨q0 10 (by decide) (by decide), q0 11 (by decide) (by decide)⟩ (fun q a c => q0 q (by omega) (by omega)) nW
theorem inv_ask : ∀ E, Two_ask E Inv := by
  intro E
  refine two_ask (fun M hI _ => ?_)
  obtain ⟨h, H, hG, hok, hc, hr, hT, hF, hK, hC, hS, hO, hA, hW⟩ := hI
  have hh := hG.2.2.2
  have hlo : (h = 32 ∨ h = 49) := hh
  have cb := C_b hok hC
  have I0 : InvH h H M := ⟨hok, hc, hr, hT, hF, hK, hC, hS, hO, hA, hW⟩
  refine ⟨h, hG, ?_⟩
  have bn : ∀ k, 0 ≤ k → k < M 1 1 → 0 ≤ M 2 k ∧ M 2 k ≤ 255 := fun k x y => (hT.2.2.2 k x y).2
  have cut : ∀ N : Mem, N 1 1 = M 1 1 → fmX8_cutTo N 0 = mset N 1 1 0 := fun N z => by
    unfold fmX8_cutTo
    rw [if_neg (by decide), z, if_pos hT.1]
  have et : fX1_isTold M h = if H 0 0 ≤ 0 then 0 else 1 := by
    unfold fX1_isTold
    rw [hc.1.1]
  have h00 := H00 hok
  have wr : ∀ N : Mem, (∀ q, 24 < q → N q = M q) → wR N := fun N nq i hi j hj => by
    rw [nq (i : Nat) (by omega)]
    exact rows hK i (Or.inr hi) j hj
  have rh : ∀ N : Mem, (∀ q, 24 < q → N q = M q) → Rh H N := fun N nq => by
    unfold Rh at hr ⊢
    rw [nq 66 (by decide), nq 85 (by decide), nq 86 (by decide), nq 87 (by decide), nq 88 (by decide), nq 89 (by decide), nq 90 (by decide), nq 91 (by decide), nq 92 (by decide)]
    exact hr
  refine ⟨fun z M18 h18 _ => ?_, fun z => ?_⟩
  · -- no hall
    have z0 : H 0 0 = 0 := by
      rcases h00 with y | y
      · exact y
      · rw [et, if_neg (by omega)] at z; exact absurd z (by decide)
    rw [cut M rfl] at h18
    have nq : ∀ q, 24 < q → M18 q = M q := fun q a => by rw [h18, mset_p (by omega)]
    refine ⟨fun _ M69 h69 G' => ⟨rfl, h, H, G', ?_⟩, fun y => absurd (by rw [nq 66 (by decide), hr.1.1]; exact z0) y⟩
    refine ask_inv (N := M18) hh I0 nq (fun j _ _ _ _ => by rw [h18, mset_p (by decide)]) (by rw [h18, mset_e]) ?_ ⟨fun q a _ => by rw [h69, mset_p a], fun j a => by rw [h69, mset_k (by omega)]⟩ (by rw [h69, mset_e]) ?_ ?_
    · exact iW_f2 (by rw [h18, mset_p (by omega)]) ⟨by rw [h18, mset_p (by decide)], by rw [h18, mset_p (by decide)], by rw [h18, mset_p (by decide)]⟩ ⟨by rw [h18, mset_p (by decide)], by rw [h18, mset_p (by decide)]⟩ (fun q a c => by rw [h18, mset_p (by omega)]) hW
    · rw [h69, mset_k (by decide), nq 66 (by decide), h18, mset_p (by decide)]; exact hF.1
    · rw [h69, mset_k (by decide), nq 66 (by decide), h18, mset_p (by decide)]; exact hF.2
  have nz : ¬ H 0 0 = 0 := fun y => z (by rw [et, if_pos (by omega)])
  -- behind the reading
  have step : ∀ (f pl : Int) (M4 M7 M9 : Mem), fq M M4 → M4 3 4 = f → M4 3 5 = pl → M7 = fmX11_takeFault M4 → M9 = fmX8_cutTo M7 0 → (∀ q, q ≠ 0 → q ≠ 1 → q ≠ 3 → q ≠ 5 → q ≠ 6 → q ≠ 7 → M9 q = M q) ∧ (∀ q, q ≠ 0 → q ≠ 1 → M9 q = M4 q) ∧ (∀ j, j ≠ 14 → j ≠ 15 → M9 0 j = M 0 j) ∧ M9 1 1 = 0 ∧ M9 0 14 = f ∧ M9 0 15 = pl := by
    intro f pl M4 M7 M9 f4 e4 e5 h7 h9
    unfold fmX11_takeFault at h7
    rw [e4, mset_o (by decide), e5] at h7
    have m11 : M7 1 1 = M 1 1 := by rw [h7, mset_o (by decide), mset_o (by decide), f4 1 (by decide) (by decide) (by decide) (by decide)]
    rw [cut M7 m11] at h9
    refine ⟨fun q a0 a1 a3 a5 a6 a7 => ?_, fun q a0 a1 => ?_, fun j a c => ?_, ?_, ?_, ?_⟩
    · rw [h9, mset_p a1, h7, mset_p a0, mset_p a0]; exact f4 q a3 a5 a6 a7
    · rw [h9, mset_p a1, h7, mset_p a0, mset_p a0]
    · rw [h9, mset_o (by decide), h7, mset_k c, mset_k a]; rw [f4 0 (by decide) (by decide) (by decide) (by decide)]
    · rw [h9, mset_e]
    · rw [h9, mset_o (by decide), h7, mset_k (by decide), mset_e]
    · rw [h9, mset_o (by decide), h7, mset_e]
  refine readq (n := M 1 1) (b := M 2) ⟨hT.1, hT.2.1⟩ bn rfl (fun _ _ _ => rfl) (fun f pl hp M4 f4 c4 M7 h7 M9 h9 => ⟨fun _ _ => ?_, fun y => absurd rfl y⟩) (fun x hp M4 f4 x34 x35 x52 cq M7 h7 M9 h9 => ⟨fun y => absurd y (by decide), fun _ => ?_⟩)
  · -- a fault
    obtain ⟨s1, s2, s3, s4, s5, s6⟩ := step f pl M4 M7 M9 f4 c4.1 c4.2 h7 h9
    have nq : ∀ q, 24 < q → M9 q = M q := fun q a => s1 q (by omega) (by omega) (by omega) (by omega) (by omega) (by omega)
    refine ask_rr (C := M 0 12) hok (rh M9 nq) (wr M9 nq) (by rw [nq 66 (by decide)]; exact hC.1) cb.1 cb.2 (n := M 1 1) (b := M 2) ⟨hT.1, hT.2.1⟩ bn (by rw [nq 66 (by decide)]; exact hT.2.2.1) (fun k x y => by rw [nq 67 (by decide)]; exact (hT.2.2.2 k x y).1) nz (fun f' pl' hp' M2 g m1 m7 m8 G' => ⟨rfl, h, H, G', ?_⟩) (fun x hp' => absurd (hp.symm.trans hp') (by intro z; cases z))
    have ff : f' = f ∧ pl' = pl := by
      have z := hp.symm.trans hp'
      cases z
      exact ⟨rfl, rfl⟩
    refine ask_inv (N := M9) hh I0 nq (fun j a c _ _ => s3 j a c) s4 ?_ g m1 (by rw [m7, s5]; exact ff.1) (by rw [m8, s6]; exact ff.2)
    exact iW_f2 (s1 (h + 16) (by omega) (by omega) (by omega) (by omega) (by omega) (by omega)) ⟨s3 16 (by decide) (by decide), s3 17 (by decide) (by decide), s3 12 (by decide) (by decide)⟩ ⟨s1 10 (by decide) (by decide) (by decide) (by decide) (by decide) (by decide), s1 11 (by decide) (by decide) (by decide) (by decide) (by decide) (by decide)⟩ (fun q a c => s1 q (by omega) (by omega) (by omega) (by omega) (by omega) (by omega)) hW
  · -- a question
    obtain ⟨s1, s2, s3, s4, s5, s6⟩ := step 0 (-1) M4 M7 M9 f4 x34 x35 h7 h9
    have nq9 : ∀ q, 24 < q → M9 q = M q := fun q a => s1 q (by omega) (by omega) (by omega) (by omega) (by omega) (by omega)
    have e12 : M9 0 12 = M 0 12 := s3 12 (by decide) (by decide)
    have w9 : iW h H M9 := iW_f2 (s1 (h + 16) (by omega) (by omega) (by omega) (by omega) (by omega) (by omega)) ⟨s3 16 (by decide) (by decide), s3 17 (by decide) (by decide), e12⟩ ⟨s1 10 (by decide) (by decide) (by decide) (by decide) (by decide) (by decide), s1 11 (by decide) (by decide) (by decide) (by decide) (by decide) (by decide)⟩ (fun q a c => s1 q (by omega) (by omega) (by omega) (by omega) (by omega) (by omega)) hW
    have c9 : Ch h H M9 := Ch_f3 (fun q a d => nq9 q (by omega)) hc
    have iC9 : iC H M9 := iC_fr ⟨by rw [nq9 66 (by decide)], e12⟩ hC
    have qi := qA_i (b := M 2) (n := M 1 1) ⟨hT.1, hT.2.1⟩ bn hp
    have qg : ∀ t, 0 ≤ t ∧ t ≤ 200 → good H (M 0 12) t (decide (x.1 < 3)) 24 x.2 := fun t t0 => qA_g hok ⟨hT.1, hT.2.1⟩ bn hp t t0
    refine fresh_m hh hok c9 iC9 w9 (fun M12 e1 e2 e3 e4 iw mo => ?_)
    rw [e12] at mo
    have c12 : cQ x.2 M12 := by
      unfold cQ at cq ⊢
      rw [e1 6 (by decide) (by decide), e1 7 (by decide) (by decide), s2 6 (by decide) (by decide), s2 7 (by decide) (by decide)]
      exact cq
    have k12 : M12 5 2 = x.1 := by rw [e1 5 (by decide) (by decide), s2 5 (by decide) (by decide)]; exact x52
    refine answer_c (v := qv H (M 0 12) x.2) (S := fun N => mOK H (M 0 12) N ∧ cQ x.2 N) qi.1 k12 (fun t t0 t1 => (good_v (qg t ⟨t0, t1⟩) (by decide)).2.2.1) (fun t N Q' t0 t1 s hQ => run_c hok cb.1 hC.2.2 cb.2 ⟨t0, t1⟩ s.1 s.2 qi.2.1 (qg t ⟨t0, t1⟩) (by decide) hQ) (fun N N' r s => ⟨mOK_r r s.1, ?_⟩) ⟨mo, c12⟩ (fun M15 r15 _ => ?_)
    · have sc := s.2
      unfold cQ at sc ⊢
      rw [r.2 2 (by decide), r.1 7 (by decide) (by decide)]
      exact sc
    have nq : ∀ q, 24 < q → M15 q = M q := fun q a => by rw [r15.1 q (by omega) (by omega), e1 q (by omega) (by omega)]; exact nq9 q a
    have j0 : ∀ j, j ≠ 16 → j ≠ 17 → M15 0 j = M9 0 j := fun j a c => by rw [r15.1 0 (by decide) (by decide)]; exact e2 j a c
    refine ask_rr (C := M 0 12) hok (rh M15 nq) (wr M15 nq) (by rw [nq 66 (by decide)]; exact hC.1) cb.1 cb.2 (n := M 1 1) (b := M 2) ⟨hT.1, hT.2.1⟩ bn (by rw [nq 66 (by decide)]; exact hT.2.2.1) (fun k x y => by rw [nq 67 (by decide)]; exact (hT.2.2.2 k x y).1) nz (fun f' pl' hp' => absurd (hp.symm.trans hp') (by intro z; cases z)) (fun x' hp' M2 g m1 m7 m8 G' => ?_)
    have xx : x' = x := by
      have z := hp.symm.trans hp'
      cases z
      rfl
    rw [xx]
    refine ⟨rfl, h, H, G', ?_⟩
    have w15 : iW h H M15 := iW_f2 (r15.1 (h + 16) (by omega) (by omega)) ⟨by rw [r15.1 0 (by decide) (by decide)], by rw [r15.1 0 (by decide) (by decide)], by rw [r15.1 0 (by decide) (by decide)]⟩ ⟨r15.1 10 (by decide) (by decide), r15.1 11 (by decide) (by decide)⟩ (fun q a c => r15.1 q (by omega) (by omega)) iw
    exact ask_inv (N := M15) hh I0 nq (fun j a c d f => by rw [j0 j d f]; exact s3 j a c) (by rw [r15.1 1 (by decide) (by decide), e1 1 (by decide) (by decide)]; exact s4) w15 g m1 (by rw [m7, j0 14 (by decide) (by decide), s5]) (by rw [m8, j0 15 (by decide) (by decide), s6])
end
