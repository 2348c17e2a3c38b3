/-! numbers of the reference -/
section
variable {b : Int → Int} {n p e : Int} {M : Mem} {Q : Int → Mem → Prop}
theorem dg_end (hk : knd b n p e = 2) (h : bOK b n p) : (tnd b n p < n → dgt (b (tnd b n p)) = false) ∧ p < tnd b n p := by
  have k2 := knd_2.mp hk
  have nl : ¬ ltr (b p) = true := fun w => ltr_dgt w k2.2.1
  have e1 : tnd b n p = fwd dgt b n p := by unfold tnd; rw [if_neg (by have := k2.1; omega), if_neg nl, if_pos k2.2.1]
  have s := fwd_s (f := dgt) (b := b) (n := n) (i := p) h.2.2.2.2.1
  have tb := tnd_b h
  refine ⟨?_, tb.2.2 k2.1⟩
  rw [e1]
  exact s.2.2.2
theorem n49 {K : Int → Mem → Prop} {t : Int} (ok : bOK b n p) (n3 : M 66 3 = n) (n67 : ∀ k, 0 ≤ k → k < n → M 67 k = b k) (tp : p < t) (tn : t ≤ n) (da : ∀ j : Nat, j < (t - p).toNat → dgt (b (p + j)) = true) (de : t < n → dgt (b t) = false)
    (hK : t - p ≤ 4 → ∀ N : Mem, (∀ q, q ≠ 66 → N q = M q) → (∀ j, j ≠ 2 → N 66 j = M 66 j) → N 66 2 = t → K (nvl b p (t - p).toNat) N) (hF : 4 < t - p → ∀ N : Mem, (∀ q, q ≠ 66 → N q = M q) → (∀ j, j ≠ 2 → N 66 j = M 66 j) → N 66 2 = p + 4 → Q 0 (fmX12_fail N 1 (p + 4))) :
    ∀ (k m : Nat) (N : Mem), (∀ q, q ≠ 66 → N q = M q) → (∀ j, j ≠ 2 → N 66 j = M 66 j) → N 66 2 = p + m → m ≤ 4 → (m : Int) ≤ t - p → 4 < m + k → PX12_number_49 p K Q k (nvl b p m) N := by
  obtain ⟨h1, h2, h3, hp0, h5, h6⟩ := id ok
  intro k
  induction k with
  | zero => intro m N _ _ _ a _ c; omega
  | succ k ih =>
    intro m N e1 e2 e3 a c d
    have m3 : N 66 3 = n := by rw [e2 3 (by decide)]; exact n3
    have m67 : ∀ k, 0 ≤ k → k < n → N 67 k = b k := fun k x y => by rw [e1 67 (by decide)]; exact n67 k x y
    have stop : (m : Int) = t - p → K (nvl b p m) N := by
      intro z
      have em : m = (t - p).toNat := by omega
      rw [em]
      exact hK (by omega) N e1 e2 (by rw [e3]; omega)
    refine ⟨fun z => stop (by omega), fun z => ⟨by omega, by omega, ?_⟩⟩
    have lt : p + (m : Int) < n := by omega
    rw [e3, m67 (p + m) (by omega) lt, isd_r]
    refine ⟨fun y => stop ?_, fun y => ?_⟩
    · refine Classical.byContradiction (fun w => ?_)
      rw [if_pos (da m (by omega))] at y
      exact absurd y (by decide)
    · have hd : dgt (b (p + m)) = true := Classical.byContradiction (fun w => y (by rw [if_neg w]))
      have ml : (m : Int) < t - p := by
        refine Classical.byContradiction (fun w => ?_)
        have et : p + (m : Int) = t := by omega
        rw [et] at hd lt
        rw [de lt] at hd
        exact absurd hd (by decide)
      have es : Hid (wr32 (p + (m : Int) - p) = (m : Int)) := hid (by rw [wsu (by omega) (by omega)]; omega)
      rw [es.out]
      refine ⟨fun w M8 h8 => ?_, fun w => ⟨by omega, by omega, ?_⟩⟩
      · have e4 : p + (m : Int) = p + 4 := by omega
        rw [e4] at h8
        rw [h8]
        exact hF (by omega) N e1 e2 (by rw [e3, e4])
      · intro M6 h6'
        have es2 : Hid (wr32 (p + (m : Int) + 1) = p + ((m + 1 : Nat) : Int)) := hid (by rw [wad (by omega) (by omega)]; omega)
        rw [es2.out] at h6'
        have nb := nvl_b (b := b) (p := p) (k := m) (fun j hj => da j (by omega)) (by omega)
        have dd := dgt_b hd
        have i := ih (m + 1) M6 (fun q x => by rw [h6', mset_p x]; exact e1 q x) (fun j x => by rw [h6', mset_k x]; exact e2 j x) (by rw [h6', mset_e]) (by omega) (by omega) (by omega)
        have en : nvl b p (m + 1) = 10 * nvl b p m + b (p + m) - 48 := rfl
        rw [en] at i
        clear en
        obtain ⟨x, hx⟩ : ∃ x, x = nvl b p m := ⟨_, rfl⟩
        obtain ⟨y', hy⟩ : ∃ y, y = b (p + m) := ⟨_, rfl⟩
        rw [← hx] at nb i ⊢
        rw [← hy] at dd i ⊢
        rw [wmu (a := 10) (by omega) (by omega), wad (a := 10 * x) (by omega) (by omega), wsu (a := 10 * x + y') (by omega) (by omega)]
        exact i
theorem num_r {l m : Int} (hT : rK b n p e M) (hF : ∀ f pl, pnm b n p e l m p = Sum.inl (f, pl) → ∀ (M' : Mem) (x : Int), rfr M M' → rFl f pl M' → Q x M') (hO : ∀ v, pnm b n p e l m p = Sum.inr v → ∀ M' : Mem, rfr M M' → rK b n (nxp b n p) (nxe b n p) M' → M' 66 9 = p → Q v M') : PX12_number l m M Q := by
  refine ⟨fun _ => look_r hT (fun M3 r k3 at3 => ?_), fun z => absurd hT.2.1 z⟩
  obtain ⟨ok, t1, t2, t3, t4, t5, t6, t7⟩ := id k3.1
  obtain ⟨h1, h2, h3, hp0, h5, h6⟩ := id ok
  have f1 := rfail k3 1 p
  have bad : ¬ knd b n p e = 2 → ∀ M8 : Mem, M8 = fmX12_fail M3 1 (M3 66 2) → Q 0 M8 := by
    intro z M8 h8
    rw [at3] at h8
    rw [h8]
    refine hF 1 p ?_ _ 0 (rfr_t r f1.1) f1.2
    unfold pnm
    rw [if_neg z]
  rw [isd_r]
  refine ⟨fun z => bad (fun k => ?_), fun z => ⟨fun y => bad (fun k => ?_), fun y => ⟨6, ?_⟩⟩⟩
  · have k2 := knd_2.mp k
    rw [if_neg (show ¬ n ≤ p by have := k2.1; omega), if_pos k2.2.1] at z
    exact absurd z (by decide)
  · have k2 := knd_2.mp k
    rw [at3] at y
    exact k2.2.2 (t6.mp y.symm).symm
  · have lt : ¬ n ≤ p := fun w => z (by rw [if_pos w, if_neg dgt_m1])
    rw [if_neg lt] at z
    have l' : dgt (b p) = true := Classical.byContradiction (fun w => z (by rw [if_neg w]))
    rw [at3] at y
    have k2 : knd b n p e = 2 := knd_2.mpr ⟨by omega, l', fun w => y (t6.mpr w.symm).symm⟩
    have tb := tnd_b ok
    have de := dg_end k2 ok
    rw [at3]
    refine n49 (M := M3) (t := tnd b n p) ok t1 t2 de.2 tb.2.1 (dg_all k2 ok) de.1 (fun hl N e1 e2 e3 => ?_) (fun hl N e1 e2 e3 => ?_) 6 0 M3 (fun _ _ => rfl) (fun _ _ => rfl) (by rw [at3]; omega) (by decide) (by have := de.2; omega) (by decide)
    · intro M15 h15 M17 h17
      have e15 : M15 66 2 = tnd b n p := by rw [h15, mset_k (by decide)]; exact e3
      rw [e3] at h15
      have q17 : ∀ q, q ≠ 66 → M17 q = M3 q := fun q x => by rw [h17, mset_p x, h15, mset_p x]; exact e1 q x
      have j17 : ∀ j, j ≠ 2 → j ≠ 4 → j ≠ 9 → M17 66 j = M3 66 j := fun j a c d => by rw [h17, mset_k d, h15, mset_k c]; exact e2 j a
      have k17 : rK b n (nxp b n p) (nxe b n p) M17 := rK_nx k3 (Or.inr k2) q17 (j17 3 (by decide) (by decide) (by decide)) (j17 5 (by decide) (by decide) (by decide)) (j17 6 (by decide) (by decide) (by decide)) (by rw [h17, mset_k (by decide)]; exact e15) (by rw [h17, mset_k (by decide), h15, mset_e])
      have fr : rfr M M17 := rfr_t r ⟨q17, fun j a c d e' f' g => j17 j a c f'⟩
      have ep : pnm b n p e l m p = if l ≤ nvl b p (tnd b n p - p).toNat ∧ nvl b p (tnd b n p - p).toNat ≤ m then Sum.inr (nvl b p (tnd b n p - p).toNat) else Sum.inl (2, p) := by
        unfold pnm
        rw [if_pos k2, if_pos hl]
      rw [ep] at hF hO
      rw [isIn_eq]
      obtain ⟨v, hv⟩ : ∃ v, v = nvl b p (tnd b n p - p).toNat := ⟨_, rfl⟩
      rw [← hv] at hF hO ⊢
      refine ⟨fun w M21 h21 => ?_, fun w => ?_⟩
      · have f2 := rfail k17 2 p
        rw [h21]
        exact hF 2 p (by rw [if_neg (fun u => by rw [if_pos u] at w; exact absurd w (by decide))]) _ v (rfr_t fr f2.1) f2.2
      · exact hO v (by rw [if_pos (Classical.byContradiction (fun u => w (by rw [if_neg u])))]) M17 fr k17 (by rw [h17, mset_e])
    · have k5 : N 66 5 = 0 := by rw [e2 5 (by decide)]; exact k3.2.1
      unfold fmX12_fail
      rw [if_pos k5]
      refine hF 1 (p + 4) ?_ _ 0 (rfr_t r ⟨fun q x => by rw [mset_p x, mset_p x]; exact e1 q x, fun j a c d f g i => by rw [mset_k f, mset_k d]; exact e2 j a⟩) ⟨by rw [mset_k (by decide), mset_e], mset_e⟩
      unfold pnm
      rw [if_pos k2, if_neg (by omega)]
end
