/-! what would be: who must be daring -/
def hdr (H : Hal) (s : Nat) : Hal := hst H (H 7) (H 8) (fun p => if bt (s : Int) p = true then 1 else H 9 p) (H 3)
section
variable {H : Hal} {C : Int}
theorem hdr_ok (ho : Hok H) (s : Nat) : Hok (hdr H s) := by
  refine Hok_hst ho (fun q a b => ?_) (fun k a b => (ho.2.2.2.1 k a b).2)
  have o := ho.2.2.2.2.2.2.1 q a b
  refine ⟨o.1, o.2.1, o.2.2.1, ?_⟩
  show 0 ≤ (if bt (s : Int) q = true then 1 else H 9 q) ∧ (if bt (s : Int) q = true then 1 else H 9 q) ≤ 9
  by_cases z : bt (s : Int) q = true
  · rw [if_pos z]; decide
  · rw [if_neg z]; exact ⟨o.2.2.2.1, o.2.2.2.2.1⟩
theorem hdr_w (s : Nat) (p : Int) (t : Nat) : wlk (hdr H s) p t = wlk H p t := wlk_hst rfl t
theorem hdr_frst (s : Nat) : ∀ n : Nat, frst (hdr H s) C n = frst H C n
  | 0 => rfl
  | n + 1 => by
    have e : frst (hdr H s) C (n + 1) = if bt C n then (if strk H n < frst (hdr H s) C n then strk H n else frst (hdr H s) C n) else frst (hdr H s) C n := rfl
    have e2 : frst H C (n + 1) = if bt C n then (if strk H n < frst H C n then strk H n else frst H C n) else frst H C n := rfl
    rw [e, e2, hdr_frst s n]
theorem hdr_ff (s : Nat) : ff (hdr H s) C = ff H C := hdr_frst s _
theorem hdr_gs (s : Nat) (g : Int) (t : Nat) : gseen (hdr H s) C g t = gseen H C g t := by
  have e : gseen (hdr H s) C g t = cnt (fun p => bt C p && decide (far H (H 4 g) (wlk (hdr H s) p t) ≤ H 5 g)) (H 0 4).toNat := rfl
  have e2 : gseen H C g t = cnt (fun p => bt C p && decide (far H (H 4 g) (wlk H p t) ≤ H 5 g)) (H 0 4).toNat := rfl
  rw [e, e2]
  exact cnt_c _ (fun i _ _ => by show (bt C i && decide (far H (H 4 g) (wlk (hdr H s) i t) ≤ H 5 g)) = _; rw [hdr_w])
theorem hdr_gl (s : Nat) (t : Nat) : glook (hdr H s) C t = glook H C t := by
  have e : glook (hdr H s) C t = fst1 (fun g => decide (H 6 g ≤ gseen (hdr H s) C g t)) 0 (H 0 3).toNat := rfl
  have e2 : glook H C t = fst1 (fun g => decide (H 6 g ≤ gseen H C g t)) 0 (H 0 3).toNat := rfl
  rw [e, e2]
  exact fst1_c _ _ (fun i _ _ => by show decide (H 6 i ≤ gseen (hdr H s) C i t) = _; rw [hdr_gs])
theorem hdr_al (s : Nat) : alrm (hdr H s) C = alrm H C := by
  have e : alrm (hdr H s) C = fst1 (fun t => decide (glook (hdr H s) C t.toNat ≠ -1)) 0 (ff (hdr H s) C).toNat := rfl
  have e2 : alrm H C = fst1 (fun t => decide (glook H C t.toNat ≠ -1)) 0 (ff H C).toNat := rfl
  rw [e, e2, hdr_ff]
  exact fst1_c _ _ (fun i _ _ => by show decide (glook (hdr H s) C i.toNat ≠ -1) = _; rw [hdr_gl])
def bcn (s : Nat) : Int := fJ6_bitCount_0f7a4 (s : Int)
def okd (H : Hal) (C : Int) (s : Nat) : Bool := decide (m_and (s : Int) (m_xor C (-1)) = 0) && decide (ofv (hdr H s) C ≠ -1)
def rbd (H : Hal) (C : Int) : Nat → Int
  | 0 => -1
  | n + 1 => if okd H C n = true ∧ (rbd H C n = -1 ∨ bcn n < fJ6_bitCount_0f7a4 (rbd H C n)) then (n : Int) else rbd H C n
theorem rbd_s : ∀ n : Nat, (rbd H C n = -1 ∧ ∀ s, s < n → okd H C s = false) ∨ (∃ y : Nat, rbd H C n = (y : Int) ∧ y < n ∧ okd H C y = true ∧ ∀ s, s < n → okd H C s = true → bcn y < bcn s ∨ (bcn y = bcn s ∧ y ≤ s)) := by
  intro n
  induction n with
  | zero => exact Or.inl ⟨rfl, fun s hs => by omega⟩
  | succ n ih =>
    have e : rbd H C (n + 1) = if okd H C n = true ∧ (rbd H C n = -1 ∨ bcn n < fJ6_bitCount_0f7a4 (rbd H C n)) then (n : Int) else rbd H C n := rfl
    rw [e]
    rcases ih with u | ⟨y, u1, u2, u3, u4⟩
    · by_cases z : okd H C n = true
      · rw [if_pos ⟨z, Or.inl u.1⟩]
        refine Or.inr ⟨n, rfl, by omega, z, fun s hs hk => ?_⟩
        by_cases w : s = n
        · rw [w]; exact Or.inr ⟨rfl, Nat.le_refl _⟩
        · rw [u.2 s (by omega)] at hk; exact absurd hk (by decide)
      · rw [if_neg (fun w => z w.1)]
        refine Or.inl ⟨u.1, fun s hs => ?_⟩
        by_cases w : s = n
        · rw [w]; exact Bool.eq_false_iff.mpr z
        · exact u.2 s (by omega)
    · have eb : fJ6_bitCount_0f7a4 (rbd H C n) = bcn y := by rw [u1]; rfl
      rw [eb]
      by_cases z : okd H C n = true ∧ (rbd H C n = -1 ∨ bcn n < bcn y)
      · rw [if_pos z]
        have lt : bcn n < bcn y := by
          rcases z.2 with q | q
          · rw [u1] at q; exfalso; revert q; exact fun q => by have : (0 : Int) ≤ (y : Int) := Int.natCast_nonneg _; omega
          · exact q
        refine Or.inr ⟨n, rfl, by omega, z.1, fun s hs hk => ?_⟩
        by_cases w : s = n
        · rw [w]; exact Or.inr ⟨rfl, Nat.le_refl _⟩
        · rcases u4 s (by omega) hk with v | v
          · exact Or.inl (Int.lt_trans lt v)
          · exact Or.inl (by rw [← v.1]; exact lt)
      · rw [if_neg z, u1]
        refine Or.inr ⟨y, rfl, by omega, u3, fun s hs hk => ?_⟩
        by_cases w : s = n
        · rw [w] at hk ⊢
          have nl : ¬ bcn n < bcn y := fun q => z ⟨hk, Or.inr q⟩
          by_cases q : bcn y = bcn n
          · exact Or.inr ⟨q, by omega⟩
          · refine Or.inl ?_
            obtain ⟨a, ha⟩ : ∃ a, a = bcn y := ⟨_, rfl⟩
            obtain ⟨b, hb⟩ : ∃ b, b = bcn n := ⟨_, rfl⟩
            rw [← ha, ← hb] at nl q ⊢
            omega
        · exact u4 s (by omega) hk
theorem rbd_u {n y : Nat} (h1 : y < n) (h2 : okd H C y = true) (h3 : ∀ s, s < n → okd H C s = true → bcn y < bcn s ∨ (bcn y = bcn s ∧ y ≤ s)) : rbd H C n = (y : Int) := by
  rcases rbd_s (H := H) (C := C) n with u | ⟨x, u1, u2, u3, u4⟩
  · rw [u.2 y h1] at h2; exact absurd h2 (by decide)
  · rw [u1]
    have a := h3 x u2 u3
    have b := u4 y h1 h2
    obtain ⟨p, hp⟩ : ∃ p, p = bcn y := ⟨_, rfl⟩
    obtain ⟨q, hq⟩ : ∃ q, q = bcn x := ⟨_, rfl⟩
    rw [← hp, ← hq] at a b
    have : x = y := by omega
    rw [this]
theorem rbd_no {n : Nat} (h : ∀ s, s < n → okd H C s = false) : rbd H C n = -1 := by
  rcases rbd_s (H := H) (C := C) n with u | ⟨x, _, u2, u3, _⟩
  · exact u.1
  · rw [h x u2] at u3; exact absurd u3 (by decide)
def ada (H : Hal) (C w : Int) : Int := if (0 ≤ w ∧ w ≤ 1) ∧ H 0 0 ≠ 0 then (if rbd H C (2 ^ (H 0 4).toNat) = -1 then -1 else if w = 0 then fJ6_bitCount_0f7a4 (rbd H C (2 ^ (H 0 4).toNat)) else rbd H C (2 ^ (H 0 4).toNat)) else -1
theorem okd_off (ho : Hok H) {s : Nat} (h : okd H C s = true) : offb (hdr H s) C := by
  unfold okd at h
  rw [Bool.and_eq_true] at h
  exact (ofv_iff (hdr_ok ho s)).mp (of_decide_eq_true h.2)
end
section
variable {h : Int} {H : Hal} {M B : Mem} {Q : Int → Mem → Prop} {C : Int}
/-- what may change in the class while the daring are looked for -/
def dfr (h : Int) (B M : Mem) : Prop := (∀ q, q ≠ 9 → q ≠ 13 → q ≠ 14 → q ≠ 15 → q ≠ 26 → M q = B q) ∧ (∀ j, j ≠ 6 → j ≠ 7 → j ≠ 8 → M 9 j = B 9 j)
theorem cd25 {K : Mem → Prop} {s : Nat} (ho : Hok H) (hs : s < 512) (h8 : B (h + 1) 8 = H 0 4) (hK : ∀ M' : Mem, (∀ q, q ≠ h + 5 → M' q = B q) → (∀ j, 0 ≤ j → j < H 0 4 → M' (h + 5) j = if bt (s : Int) j = true then 1 else B (h + 5) j) → (∀ j, j < 0 ∨ 9 ≤ j → M' (h + 5) j = B (h + 5) j) → K M') : ∀ (k n : Nat) (M : Mem), (n : Int) ≤ H 0 4 → H 0 4 < (n : Int) + k → (∀ q, q ≠ h + 5 → M q = B q) → (∀ j, 0 ≤ j → j < (n : Int) → M (h + 5) j = if bt (s : Int) j = true then 1 else B (h + 5) j) → (∀ j, j < 0 ∨ (n : Int) ≤ j → M (h + 5) j = B (h + 5) j) → PX10_comesOffDaring_25 h s K Q k n M := by
  have hbd := ho.2.1
  intro k
  induction k with
  | zero => intro n M a b; omega
  | succ k ih =>
    intro n M a b e1 e2 e3
    have m8 : M (h + 1) 8 = H 0 4 := by rw [e1 _ (by omega)]; exact h8
    have f3 : Hid (wr32 ((n : Int) + 1) = ((n + 1 : Nat) : Int)) := hid (by rw [wad (by omega) (by omega)]; omega)
    refine ⟨fun z => ?_, fun z => ?_⟩
    · rw [m8] at z
      have en : (n : Int) = H 0 4 := by omega
      exact hK M e1 (fun j x y => e2 j x (by omega)) (fun j x => e3 j (by omega))
    · rw [m8] at z
      have hb : fX11_hasBit (s : Int) (n : Int) = if bt (s : Int) n = true then 1 else 0 := hasBit_eq (by omega) (by omega) (by omega) (by omega)
      rw [hb, f3.out]
      refine ⟨fun y => ?_, fun y => ?_⟩
      · have nb : ¬ bt (s : Int) n = true := fun w => by rw [if_pos w] at y; exact absurd y (by decide)
        refine ih (n + 1) M (by omega) (by omega) e1 (fun j x w => ?_) (fun j x => e3 j (by omega))
        by_cases e : j = (n : Int)
        · rw [e, if_neg nb]; exact e3 _ (by omega)
        · exact e2 j x (by omega)
      · have nb : bt (s : Int) n = true := Classical.byContradiction (fun w => y (by rw [if_neg w]))
        intro M5 h5
        rw [rd_put (by omega) (by omega)] at h5
        refine ih (n + 1) M5 (by omega) (by omega) (fun q x => by rw [h5, mset_p x]; exact e1 q x) (fun j x w => ?_) (fun j x => by rw [h5, mset_k (by omega)]; exact e3 j (by omega))
        by_cases e : j = (n : Int)
        · rw [e, if_pos nb, h5, mset_e]
        · rw [h5, mset_k e]; exact e2 j x (by omega)
theorem cod_c {s : Nat} (hg : isG h) (ho : Hok H) (hs : s < 2 ^ (H 0 4).toNat) (hc : Ch h H B) (hn : nOK h H B) (hst12 : ∀ p, 0 ≤ p → p < H 0 4 → B 12 p = strk H p) (hw : ∀ p, 0 ≤ p → p < H 0 4 → ∀ t : Nat, t < 201 → B 10 (201 * p + t) = wlk H p t) (C0 : 0 ≤ C) (C1 : C < 2 ^ (H 0 4).toNat) (h9 : B 9 9 = -1) (al : alrm H C = -1) (hM : dfr h B M)
    (hQ : ∀ M' : Mem, dfr h B M' → Q (if ofv (hdr H s) C ≠ -1 then 1 else 0) M') : PX10_comesOffDaring h C s (ff H C) M Q := by
  have hbd := ho.2.1
  have hh : 31 < h := by rcases hg with rfl | rfl <;> decide
  have b5 := bits_b ho
  intro M2 h2
  have p2 : ∀ q, q ≠ 26 → M2 q = M q := fun q x => by rw [h2, mcpy_p x]
  have r26 : ∀ j, 0 ≤ j → j < 9 → M2 26 j = M (h + 5) j := by
    intro j j0 j1
    rw [h2]
    show (if (26 : Int) = 26 then (fun k : Int => if (0 : Int) ≤ k ∧ k < 0 + 9 then M (h + 5) (0 + (k - 0)) else M 26 k) else M 26) j = _
    rw [if_pos rfl]
    show (if (0 : Int) ≤ j ∧ j < 0 + 9 then M (h + 5) (0 + (j - 0)) else M 26 j) = _
    rw [if_pos (by omega)]
    congr 1
    omega
  have b2 : ∀ q, q ≠ 9 → q ≠ 13 → q ≠ 14 → q ≠ 15 → q ≠ 26 → M2 q = B q := fun q a b c d e => by rw [p2 q e]; exact hM.1 q a b c d e
  have bh : ∀ q, 31 < q → M2 q = B q := fun q x => b2 q (by omega) (by omega) (by omega) (by omega) (by omega)
  refine ⟨10, cd25 (B := M2) ho (by omega) (by rw [bh _ (by omega)]; exact hc.1.2.2.2.2.1) (fun M4 f1 f2 f3 => ?_) 10 0 M2 (by omega) (by omega) (fun _ _ => rfl) (fun j a b => by omega) (fun _ _ => rfl)⟩
  have ok := hdr_ok ho s
  have c4 : Ch h (hdr H s) M4 := by
    refine Ch_hst hc (fun q a b _ _ c _ => by rw [f1 q c]; exact bh q (by omega)) (fun p a b => ?_) (fun k a b => by rw [f1 _ (by omega), bh _ (by omega)]; exact (hc.2.2.1 k a b).2)
    have c := hc.2.2.2.2.1 p a b
    rw [f1 (h + 3) (by omega), f1 (h + 4) (by omega), bh _ (by omega), bh _ (by omega), f2 p a b, bh (h + 5) (by omega)]
    refine ⟨c.1, c.2.1, ?_⟩
    show _ = if bt (s : Int) p = true then 1 else H 9 p
    rw [c.2.2.1]
  have k4 : kST h (hdr H s) M4 := by
    refine ⟨c4, ?_, fun p a b => ?_, fun p a b t ht => ?_⟩
    · exact nOK_fr hn (by rw [f1 _ (by omega)]; exact bh _ (by omega))
    · rw [f1 12 (by omega), b2 12 (by decide) (by decide) (by decide) (by decide) (by decide)]
      exact hst12 p a b
    · rw [f1 10 (by omega), b2 10 (by decide) (by decide) (by decide) (by decide) (by decide), hdr_w]
      exact hw p a b t ht
  have e9 : M4 9 9 = -1 := by rw [f1 9 (by omega), p2 9 (by decide), hM.2 9 (by decide) (by decide) (by decide)]; exact h9
  rw [← hdr_ff s]
  refine oall hg ok C0 C1 k4 (fun M7 g1 g2 g3 g4 => ?_)
  intro M10 h10
  have g3' := (g3 e9).2
  have q10 : ∀ q, q ≠ h + 5 → M10 q = M7 q := fun q x => by rw [h10, mcpy_p x]
  have fr : dfr h B M10 := by
    refine ⟨fun q a b c d e => ?_, fun j a b c => ?_⟩
    · by_cases z : q = h + 5
      · rw [z]
        funext j
        rw [h10]
        show (if (h + 5 : Int) = h + 5 then (fun k => if (0 : Int) ≤ k ∧ k < 0 + 9 then M7 26 (0 + (k - 0)) else M7 (h + 5) k) else M7 (h + 5)) j = _
        rw [if_pos rfl]
        show (if (0 : Int) ≤ j ∧ j < 0 + 9 then M7 26 (0 + (j - 0)) else M7 (h + 5) j) = _
        by_cases w : (0 : Int) ≤ j ∧ j < 0 + 9
        · rw [if_pos w, show (0 + (j - 0) : Int) = j by omega, g1 26 (by decide) (by decide) (by decide) (by decide), f1 26 (by omega), r26 j (by omega) (by omega), hM.1 (h + 5) (by omega) (by omega) (by omega) (by omega) (by omega)]
        · rw [if_neg w, g1 (h + 5) (by omega) (by omega) (by omega) (by omega), f3 j (by omega), bh _ (by omega)]
      · rw [q10 q z, g1 q a b c d, f1 q z]
        exact b2 q a b c d e
    · rw [q10 9 (by omega), g2 j a b c, f1 9 (by omega), p2 9 (by decide)]
      exact hM.2 j a b c
  have hq := hQ M10 fr
  have e98 : M10 9 8 = M7 9 8 := by rw [q10 9 (by omega)]
  have io := ofv_iff (C := C) ok
  have oo : offb (hdr H s) C ↔ ¬ M7 9 8 = 0 := by
    constructor
    · rintro ⟨_, p, a, b, c⟩ y
      rw [g3'.mp y p a b] at c
      exact absurd c (by decide)
    · intro y
      refine ⟨by rw [hdr_al]; exact al, Classical.byContradiction (fun x => y (g3'.mpr (fun p a b => ?_)))⟩
      cases hx : hitb (hdr H s) C p 200 with
      | false => rfl
      | true => exact absurd ⟨p, a, b, hx⟩ x
  rw [e98]
  by_cases y : M7 9 8 = 0
  · rw [if_neg (fun w => oo.mp (io.mp w) y)] at hq
    rw [if_pos y]
    exact ⟨Or.inl rfl, hq⟩
  · rw [if_pos (io.mpr (oo.mpr y))] at hq
    rw [if_neg y]
    exact ⟨Or.inr rfl, hq⟩
theorem bcn_b (ho : Hok H) {s : Nat} (hs : s < 2 ^ (H 0 4).toNat) : 0 ≤ bcn s ∧ bcn s ≤ H 0 4 := by
  have hbd := ho.2.1
  unfold bcn
  rw [bc_p (P := (H 0 4).toNat) (by omega) hs]
  have := cnt_b (fun p => s.testBit p.toNat) (H 0 4).toNat
  omega
theorem fd62 {K : Mem → Prop} {m : Nat} (hg : isG h) (ho : Hok H) (hc : Ch h H B) (hn : nOK h H B) (hst12 : ∀ p, 0 ≤ p → p < H 0 4 → B 12 p = strk H p) (hw : ∀ p, 0 ≤ p → p < H 0 4 → ∀ t : Nat, t < 201 → B 10 (201 * p + t) = wlk H p t) (C0 : 0 ≤ C) (C1 : C < 2 ^ (H 0 4).toNat) (h9 : B 9 9 = -1) (al : alrm H C = -1)
    (hm : ∀ s, s < 2 ^ (H 0 4).toNat → okd H C s = true → (m : Int) ≤ bcn s) (hK : ∀ M' : Mem, dfr h B M' → (∀ s, s < 2 ^ (H 0 4).toNat → okd H C s = true → (m : Int) < bcn s) → K M') (hQ : ∀ (s : Nat) (M' : Mem), dfr h B M' → s < 2 ^ (H 0 4).toNat → rbd H C (2 ^ (H 0 4).toNat) = (s : Int) → Q s M') : ∀ (k n : Nat) (M : Mem), n ≤ 2 ^ (H 0 4).toNat → 2 ^ (H 0 4).toNat < n + k → (∀ s, s < n → okd H C s = true → (m : Int) < bcn s) → dfr h B M → PX10_fewestDaring_62 h C (ff H C) m K Q k n M := by
  have hbd := ho.2.1
  have hh : 31 < h := by rcases hg with rfl | rfl <;> decide
  have b5 := bits_b ho
  intro k
  induction k with
  | zero => intro n M a b; omega
  | succ k ih =>
    intro n M a b c hM
    have hcM : Ch h H M := Ch_fr2 hg (fun q x y => hM.1 q (by omega) (by omega) (by omega) (by omega) (by omega)) hc
    have ale := all_eq ho hcM
    have p1 : 1 ≤ 2 ^ (H 0 4).toNat := Nat.one_le_two_pow
    have e3 : Hid (wr32 ((n : Int) + 1) = ((n + 1 : Nat) : Int)) := hid (by rw [wad (by omega) (by omega)]; omega)
    refine ⟨fun z => ?_, fun z => ?_⟩
    · rw [ale] at z
      have en : n = 2 ^ (H 0 4).toNat := by omega
      rw [en] at c
      exact hK M hM c
    · rw [ale] at z
      have hn2 : n < 2 ^ (H 0 4).toNat := by omega
      intro a4 h4
      have step : ∀ N : Mem, dfr h B N → (okd H C n = true → (m : Int) < bcn n) → PX10_fewestDaring_62 h C (ff H C) m K Q k ((n + 1 : Nat) : Int) N := by
        intro N hN hx
        refine ih (n + 1) N (by omega) (by omega) (fun s hs hk => ?_) hN
        by_cases e : s = n
        · rw [e] at hk ⊢; exact hx hk
        · exact c s (by omega) hk
      have ea : a4 = bcn n := h4
      rw [e3.out]
      refine ⟨fun y => step M hM (fun hk => ?_), fun y => ?_⟩
      · -- not asked
        have hk2 := hk
        unfold okd at hk2
        rw [Bool.and_eq_true] at hk2
        have s0 := of_decide_eq_true hk2.1
        have g := hm n hn2 hk
        by_cases e : a4 = (m : Int)
        · rw [if_pos e, if_pos s0] at y
          exact absurd y (by decide)
        · rw [ea] at e
          obtain ⟨w, hw'⟩ : ∃ w, w = bcn n := ⟨_, rfl⟩
          rw [← hw'] at e g ⊢
          omega
      · have e : a4 = (m : Int) := Classical.byContradiction (fun e => y (by rw [if_neg e]))
        have s0 : m_and (n : Int) (m_xor C (-1)) = 0 := Classical.byContradiction (fun e2 => y (by rw [if_pos e, if_neg e2]))
        refine cod_c hg ho hn2 hc hn hst12 hw C0 C1 h9 al hM (fun M8 h8 => ?_)
        by_cases o : ofv (hdr H n) C ≠ -1
        · have okn : okd H C n = true := by
            unfold okd
            rw [decide_eq_true s0, decide_eq_true o]
            rfl
          rw [if_pos o]
          refine ⟨fun w => absurd w (by decide), fun _ => hQ n M8 h8 hn2 (rbd_u hn2 okn (fun s hs hk => ?_))⟩
          have g := hm s hs hk
          rw [ea] at e
          rw [e]
          by_cases l : s < n
          · exact Or.inl (c s l hk)
          · by_cases q : bcn s = (m : Int)
            · exact Or.inr ⟨q.symm, by omega⟩
            · refine Or.inl ?_
              obtain ⟨w, hw'⟩ : ∃ w, w = bcn s := ⟨_, rfl⟩
              rw [← hw'] at q g ⊢
              omega
        · rw [if_neg o]
          refine ⟨fun _ => step M8 h8 (fun hk => ?_), fun w => absurd rfl w⟩
          unfold okd at hk
          rw [Bool.and_eq_true] at hk
          exact absurd (of_decide_eq_true hk.2) o
theorem fd47 {K : Mem → Prop} (hg : isG h) (ho : Hok H) (hc : Ch h H B) (hn : nOK h H B) (hst12 : ∀ p, 0 ≤ p → p < H 0 4 → B 12 p = strk H p) (hw : ∀ p, 0 ≤ p → p < H 0 4 → ∀ t : Nat, t < 201 → B 10 (201 * p + t) = wlk H p t) (C0 : 0 ≤ C) (C1 : C < 2 ^ (H 0 4).toNat) (h9 : B 9 9 = -1) (al : alrm H C = -1)
    (hK : ∀ M' : Mem, dfr h B M' → rbd H C (2 ^ (H 0 4).toNat) = -1 → K M') (hQ : ∀ (s : Nat) (M' : Mem), dfr h B M' → s < 2 ^ (H 0 4).toNat → rbd H C (2 ^ (H 0 4).toNat) = (s : Int) → Q s M') : ∀ (k m : Nat) (M : Mem), (m : Int) ≤ H 0 4 + 1 → H 0 4 + 1 < (m : Int) + k → (∀ s, s < 2 ^ (H 0 4).toNat → okd H C s = true → (m : Int) ≤ bcn s) → dfr h B M → PX10_fewestDaring_47 h C (ff H C) K Q k m M := by
  have hbd := ho.2.1
  have hh : 31 < h := by rcases hg with rfl | rfl <;> decide
  have p1 : 1 ≤ 2 ^ (H 0 4).toNat := Nat.one_le_two_pow
  intro k
  induction k with
  | zero => intro m M a b; omega
  | succ k ih =>
    intro m M a b c hM
    have m8 : M (h + 1) 8 = H 0 4 := by rw [hM.1 _ (by omega) (by omega) (by omega) (by omega) (by omega)]; exact hc.1.2.2.2.2.1
    have e3 : Hid (wr32 ((m : Int) + 1) = ((m + 1 : Nat) : Int)) := hid (by rw [wad (by omega) (by omega)]; omega)
    refine ⟨fun z => hK M hM (rbd_no (fun s hs => ?_)), fun z => ?_⟩
    · rw [m8] at z
      cases hk : okd H C s with
      | false => rfl
      | true =>
        have g := c s hs hk
        have b := bcn_b ho hs
        obtain ⟨w, hw'⟩ : ∃ w, w = bcn s := ⟨_, rfl⟩
        rw [← hw'] at b g
        omega
    · rw [m8] at z
      rw [e3.out]
      refine ⟨2 ^ (H 0 4).toNat + 1, fd62 hg ho hc hn hst12 hw C0 C1 h9 al c (fun M' f1 f2 => ?_) hQ (2 ^ (H 0 4).toNat + 1) 0 M (by omega) (by omega) (fun s hs => by omega) hM⟩
      refine ih (m + 1) M' (by omega) (by omega) (fun s hs hk => ?_) f1
      have g := f2 s hs hk
      obtain ⟨w, hw'⟩ : ∃ w, w = bcn s := ⟨_, rfl⟩
      rw [← hw'] at g ⊢
      omega
theorem dar_c (hg : isG h) (hI : InvH h H M) (v1 : Int) (hQ : ∀ M' : Mem, InvH h H M' → M' 0 12 = M 0 12 → Q (ada H (M 0 12) v1) M') : PX11_daring h v1 M Q := by
  obtain ⟨hok, hc, hr, hT, hF, hK, hC, hS, hO, hA, hW⟩ := id hI
  have hbd := hok.2.1
  have hh : 31 < h := by rcases hg with rfl | rfl <;> decide
  have b5 := bits_b hok
  have no : ¬ (0 ≤ v1 ∧ v1 ≤ 1) → Q (-1) M := by
    intro z
    have e : ada H (M 0 12) v1 = -1 := by unfold ada; rw [if_neg (fun w => z w.1)]
    rw [← e]
    exact hQ M hI rfl
  refine ⟨fun z => no (by omega), fun z => ⟨fun y => ?_, fun y => no (by omega)⟩⟩
  refine fw_q hg hI (fun M4 i4 w4 e4 o4 => ?_)
  rw [e4]
  obtain ⟨_, hc4, hr4, _, _, _, hC4, _, _, _, hW4⟩ := id i4
  have cb := C_b hok hC
  obtain ⟨C, hCe⟩ : ∃ C, C = M 0 12 := ⟨_, rfl⟩
  have hC1 := hC.2.1
  have hC2 := hC.2.2
  rw [← hCe] at hQ hC1 hC2 cb e4 ⊢
  have f := ff_s hok C
  -- how it ends
  have fin : ∀ (x : Int) (M' : Mem), rbd H C (2 ^ (H 0 4).toNat) = x → (x = -1 ∨ (0 ≤ x ∧ x < 512)) → (∀ q, (q < 9 ∨ (15 < q ∧ q ≠ 25 ∧ q ≠ 26)) → M' q = M4 q) → M' 10 = M4 10 → M' 11 = M4 11 → Q (if v1 = 0 then (if x = -1 then x else fJ6_bitCount_0f7a4 x) else x) M' := by
    intro x M' hx hx2 g8 g10 g11
    have i8 : InvH h H M' := inv_cs hg i4 o4 g8 (wOK_fr w4 g10 g11)
    have hq := hQ M' i8 (by rw [g8 0 (by decide)]; exact e4)
    unfold ada at hq
    rw [hx] at hq
    by_cases w0 : H 0 0 = 0
    · -- no hall: nobody
      have x1 : x = -1 := by
        rw [← hx]
        refine rbd_no (fun s hs => ?_)
        cases hk : okd H C s with
        | false => rfl
        | true =>
          exfalso
          have of := okd_off hok hk
          obtain ⟨_, p, a, b, _⟩ := of
          have : p < H 0 4 := b
          rcases hok.1 with u | u
          · have := u.2.2.2.2
            omega
          · omega
      rw [if_neg (fun w => w.2 w0)] at hq
      rw [x1]
      by_cases v : v1 = 0
      · rw [if_pos v, if_pos rfl]; exact hq
      · rw [if_neg v]; exact hq
    · rw [if_pos ⟨⟨by omega, y⟩, w0⟩] at hq
      by_cases x1 : x = -1
      · rw [if_pos x1] at hq
        rw [x1]
        by_cases v : v1 = 0
        · rw [if_pos v, if_pos rfl]; exact hq
        · rw [if_neg v]; exact hq
      · rw [if_neg x1] at hq
        rw [if_neg x1]
        exact hq
  intro M2 h2 a3 h3
  have fs := ffst hg hok hc4 cb.1 cb.2
  rw [← h2, ← h3] at fs
  obtain ⟨e1, e2, e3⟩ := fs
  rw [e1]
  have c2 : Ch h H M2 := Ch_fr2 hg (fun q a b => e2 q (by omega)) hc4
  obtain ⟨u, hu⟩ : ∃ u : Nat, (u : Int) = ff H C := ⟨(ff H C).toNat, by omega⟩
  have so : sOK H u M2 := by
    intro gd a b t ht
    rw [e2 11 (by decide)]
    exact w4.2 gd a b t (by omega)
  rw [← hu]
  refine fal hg hok c2 hC1 hC2 (by omega) so (fun M5 f1 f2 f3 f4 => ?_)
  rw [hu] at f3 f4 ⊢
  have al : M5 9 9 = alrm H C := by rw [f3]; rfl
  have q5 : ∀ q, q ≠ 9 → q ≠ 12 → M5 q = M4 q := fun q a b => by rw [f1 q a, e2 q b]
  refine ⟨fun z => ?_, fun z => ?_⟩
  · intro a9 h9
    have al2 : alrm H C = -1 := al.symm.trans z
    have c5 : Ch h H M5 := Ch_fr2 hg (fun q a b => f1 q (by omega)) c2
    refine ⟨fun x => ?_, fun x => ?_⟩
    · have n5 : nOK h H M5 := by
        have hn := hW4.2.2.1
        unfold nOK fX1_isNear at hn ⊢
        rw [q5 (h + 16) (by omega) (by omega)]
        exact hn
      have st5 : ∀ p, 0 ≤ p → p < H 0 4 → M5 12 p = strk H p := fun p a b => by rw [f1 12 (by decide)]; exact e3 p a b
      have wk5 : ∀ p, 0 ≤ p → p < H 0 4 → ∀ t : Nat, t < 201 → M5 10 (201 * p + t) = wlk H p t := fun p a b t ht => by rw [q5 10 (by decide) (by decide)]; exact w4.1 p a b t ht
      have dq : ∀ M' : Mem, dfr h M5 M' → (∀ q, (q < 9 ∨ (15 < q ∧ q ≠ 25 ∧ q ≠ 26)) → M' q = M4 q) ∧ M' 10 = M4 10 ∧ M' 11 = M4 11 := fun M' d => ⟨fun q x => by rw [d.1 q (by omega) (by omega) (by omega) (by omega) (by omega), q5 q (by omega) (by omega)], by rw [d.1 10 (by decide) (by decide) (by decide) (by decide) (by decide), q5 10 (by decide) (by decide)], by rw [d.1 11 (by decide) (by decide) (by decide) (by decide) (by decide), q5 11 (by decide) (by decide)]⟩
      refine ⟨12, ?_⟩
      have l := fd47 (h := h) (H := H) (B := M5) (C := C) (Q := fun a6 M7 => Q (if v1 = 0 then (if a6 = -1 then a6 else fJ6_bitCount_0f7a4 a6) else a6) M7) (K := fun M12 => Q (if v1 = 0 then (if (-1 : Int) = -1 then (-1 : Int) else fJ6_bitCount_0f7a4 (-1)) else (-1)) M12) hg hok c5 n5 st5 wk5 hC1 hC2 z al2 (fun M' d r => fin (-1) M' r (Or.inl rfl) (dq M' d).1 (dq M' d).2.1 (dq M' d).2.2) (fun s M' d hs r => fin s M' r (Or.inr ⟨by omega, by omega⟩) (dq M' d).1 (dq M' d).2.1 (dq M' d).2.2) 12 0 M5 (by omega) (by omega) (fun s hs _ => (bcn_b hok hs).1) ⟨fun _ _ _ _ _ _ => rfl, fun _ _ _ _ => rfl⟩
      exact l
    · refine fin (-1) M5 (rbd_no (fun s hs => ?_)) (Or.inl rfl) (fun q w => q5 q (by omega) (by omega)) (q5 10 (by decide) (by decide)) (q5 11 (by decide) (by decide))
      cases hk : okd H C s with
      | false => rfl
      | true =>
        exfalso
        obtain ⟨c, hc0⟩ : ∃ c : Nat, C = (c : Int) := ⟨C.toNat, by omega⟩
        have cl := hC2
        rw [hc0, two_pow_int] at cl
        have of := okd_off hok hk
        rw [h9, c5.1.2.2.2.2.2.2.2.2, hc0] at x
        rw [hc0] at of
        exact off_few (H := hdr H s) (hdr_ok hok s) (c := c) (by show c < 2 ^ (H 0 4).toNat; omega) (by show _ < H 0 8; omega) of
  · refine fin (-1) M5 (rbd_no (fun s hs => ?_)) (Or.inl rfl) (fun q w => q5 q (by omega) (by omega)) (q5 10 (by decide) (by decide)) (q5 11 (by decide) (by decide))
    cases hk : okd H C s with
    | false => rfl
    | true =>
      exfalso
      have of := okd_off hok hk
      have := of.1
      rw [hdr_al] at this
      exact z (al.trans this)
/-- the same of the reference -/
def bkt : Nat → Int → Int → Option Int
  | 0, _, _ => none
  | k + 1, v1, v2 => if v2 = 0 then some v1 else bkt k (wr32 (v1 + 1)) (m_and v2 (wr32 (v2 - 1)))
theorem bkt_512 : ∀ N : Fin 512, bkt 11 0 ((N : Nat) : Int) = some (cnt (fun p => (N : Nat).testBit p.toNat) 9) := by decide +kernel
theorem bits4 {K : Int → Mem → Prop} {r : Int} (hK : K r M) : ∀ (k : Nat) (v1 v2 : Int), bkt k v1 v2 = some r → PX12_bits_4 K Q k v1 v2 M := by
  intro k
  induction k with
  | zero => intro v1 v2 z; exact absurd z (by simp [bkt])
  | succ k ih =>
    intro v1 v2 z
    have e : bkt (k + 1) v1 v2 = if v2 = 0 then some v1 else bkt k (wr32 (v1 + 1)) (m_and v2 (wr32 (v2 - 1))) := rfl
    rw [e] at z
    refine ⟨fun y => ?_, fun y => ?_⟩
    · rw [if_pos y] at z
      have : v1 = r := by injection z
      rw [this]
      exact hK
    · rw [if_neg y] at z
      exact ih _ _ z
theorem bits_r {s : Nat} (hs : s < 512) (hQ : Q (bcn s) M) : PX12_bits s M Q := by
  have b := bkt_512 ⟨s, hs⟩
  have e : bcn s = cnt (fun p => s.testBit p.toNat) 9 := bc_eq hs
  rw [e] at hQ
  exact ⟨11, bits4 (K := fun u2 M3 => Q u2 M3) hQ 11 0 s b⟩
theorem da21 {K : Mem → Prop} (ho : Hok H) (hr : Rh H B) (hK : ∀ M' : Mem, (∀ q, q ≠ 101 → M' q = B q) → (∀ p, 0 ≤ p → p < H 0 4 → M' 101 p = H 9 p) → K M') : ∀ (k n : Nat) (M : Mem), (n : Int) ≤ H 0 4 → H 0 4 < (n : Int) + k → (∀ q, q ≠ 101 → M q = B q) → (∀ p, 0 ≤ p → p < (n : Int) → M 101 p = H 9 p) → PX12_daring_21 K Q k n M := by
  have hbd := ho.2.1
  intro k
  induction k with
  | zero => intro n M a b; omega
  | succ k ih =>
    intro n M a b e1 e2
    have hrM : Rh H M := Rh_93 (fun q x => e1 q (by omega)) (by rw [e1 66 (by decide)]) (by rw [e1 66 (by decide)]) hr
    have e3 : Hid (wr32 ((n : Int) + 1) = ((n + 1 : Nat) : Int)) := hid (by rw [wad (by omega) (by omega)]; omega)
    refine ⟨fun z => ?_, fun z => ?_⟩
    · rw [pMany hrM] at z
      exact hK M e1 (fun p x y => e2 p x (by omega))
    · rw [pMany hrM] at z
      have po := pOf (M := M) (p := (n : Int)) (k := 2) (by omega) (by omega) (by omega) (by omega)
      have r5 := (hrM.2.2.2.2.1 n (by omega) (by omega)).2.2.1
      refine ⟨po.2, by omega, by omega, ?_⟩
      intro M6 h6
      rw [e3.out]
      refine ih (n + 1) M6 (by omega) (by omega) (fun q x => by rw [h6, mset_p x]; exact e1 q x) (fun p x y => ?_)
      by_cases e : p = (n : Int)
      · rw [e, h6, mset_e, po.1]
        exact r5
      · rw [h6, mset_k e]
        exact e2 p x (by omega)
/-- what may change in the reference while the daring are looked for -/
def dfR (H : Hal) (B M : Mem) : Prop := (∀ q, q ≠ 88 → q ≠ 101 → (q < 66 ∨ (66 < q ∧ q < 93) ∨ 99 < q) → M q = B q) ∧ (∀ j, j ≠ 50 → j ≠ 51 → j ≠ 52 → M 66 j = B 66 j) ∧ (∀ p, 0 ≤ p → p < H 0 4 → M 101 p = H 9 p) ∧ (∀ j, (∀ p, 0 ≤ p → p < H 0 4 → j ≠ 162 + 18 * p + 2) → M 88 j = B 88 j)
theorem dar_lp {s : Nat} (ho : Hok H) (hs : s < 512) : ∀ (k n : Nat) (M : Mem), (n : Int) + k = H 0 4 → (∀ p, 0 ≤ p → p < H 0 4 → M 101 p = H 9 p) → (∀ q, q ≠ 88 → lmX12_dares_2 k s n M q = M q) ∧ (∀ j, (∀ p, 0 ≤ p → p < H 0 4 → j ≠ 162 + 18 * p + 2) → lmX12_dares_2 k s n M 88 j = M 88 j) ∧ (∀ p, (n : Int) ≤ p → p < H 0 4 → lmX12_dares_2 k s n M 88 (162 + 18 * p + 2) = if bt (s : Int) p = true then 1 else H 9 p) ∧ (∀ p, 0 ≤ p → p < (n : Int) → lmX12_dares_2 k s n M 88 (162 + 18 * p + 2) = M 88 (162 + 18 * p + 2)) ∧ nlX12_dares_2 k s n M := by
  have hbd := ho.2.1
  intro k
  induction k with
  | zero =>
    intro n M a b
    exact ⟨fun _ _ => rfl, fun _ _ => rfl, fun p x y => by omega, fun _ _ _ => rfl, trivial⟩
  | succ k ih =>
    intro n M a b
    have n9 : (n : Int) < 9 := by omega
    obtain ⟨v, hv⟩ : ∃ v, v = (if (m_and (m_shr (s : Int) n) 1) = 1 then (1 : Int) else (M 101 n)) := ⟨_, rfl⟩
    have mk := mk_eq (M := M) (p := (n : Int)) (k := 2) (x := v) (by omega) n9 (by omega) (by omega)
    have ev : v = if bt (s : Int) n = true then 1 else H 9 n := by
      have ba := bit_at (a := s) (p := n) (by omega) (by omega)
      rw [hv, b n (by omega) (by omega), bt_n, Int.toNat_natCast]
      by_cases z : s.testBit n = true
      · rw [if_pos (ba.mpr z), if_pos z]
      · rw [if_neg (fun w => z (ba.mp w)), if_neg z]
    obtain ⟨N, hN⟩ : ∃ N, N = mset M 88 (162 + 18 * (n : Int) + 2) v := ⟨_, rfl⟩
    have e : lmX12_dares_2 (k + 1) s n M = lmX12_dares_2 k s ((n : Int) + 1) (fmX12_makes M n 2 (if (m_and (m_shr (s : Int) n) 1) = 1 then (1 : Int) else (M 101 n))) := rfl
    have en : nlX12_dares_2 (k + 1) s n M = ((nX12_makes n 2) ∧ (¬ ((m_and (m_shr (s : Int) n) 1) = 1) → 0 ≤ (n : Int) ∧ (n : Int) < 9) ∧ nlX12_dares_2 k s ((n : Int) + 1) (fmX12_makes M n 2 (if (m_and (m_shr (s : Int) n) 1) = 1 then (1 : Int) else (M 101 n)))) := rfl
    rw [e, en, ← hv, mk.1, ← hN, show (n : Int) + 1 = ((n + 1 : Nat) : Int) by omega]
    obtain ⟨i1, i2, i3, i4, i5⟩ := ih (n + 1) N (by omega) (fun p x y => by rw [hN, mset_o (by decide)]; exact b p x y)
    refine ⟨fun q x => by rw [i1 q x, hN, mset_p x], fun j x => by rw [i2 j x, hN, mset_k (x n (by omega) (by omega))], fun p x y => ?_, fun p x y => by rw [i4 p x (by omega), hN, mset_k (by omega)], mk.2, fun _ => ⟨by omega, n9⟩, i5⟩
    by_cases z : p = (n : Int)
    · rw [z, i4 n (by omega) (by omega), hN, mset_e, ev]
    · exact i3 p (by omega) y
theorem dares_r {s : Nat} (ho : Hok H) (hr : Rh H B) (hs : s < 512) (d : dfR H B M) (h85 : M 85 3 = H 0 4) : nX12_dares M s ∧ dfR H B (fmX12_dares M s) ∧ Rh (hdr H s) (fmX12_dares M s) ∧ (∀ q, q ≠ 88 → fmX12_dares M s q = M q) ∧ (∀ p, 0 ≤ p → p < H 0 4 → fmX12_dares M s 88 (162 + 18 * p + 2) = if bt (s : Int) p = true then 1 else H 9 p) := by
  have hbd := ho.2.1
  have pm : fX12_peopleMany M = H 0 4 := h85
  obtain ⟨i1, i2, i3, i4, i5⟩ := dar_lp (s := s) ho hs (H 0 4).toNat 0 M (by omega) d.2.2.1
  have e : fmX12_dares M s = lmX12_dares_2 (H 0 4).toNat s ((0 : Nat) : Int) M := by
    unfold fmX12_dares
    rw [pm, Int.sub_zero]
    rfl
  have en : nX12_dares M s = nlX12_dares_2 (H 0 4).toNat s ((0 : Nat) : Int) M := by
    unfold nX12_dares
    rw [pm, Int.sub_zero]
    rfl
  rw [e, en]
  refine ⟨i5, ⟨fun q x y z => by rw [i1 q x]; exact d.1 q x y z, fun j a b c => by rw [i1 66 (by decide)]; exact d.2.1 j a b c, fun p x y => by rw [i1 101 (by decide)]; exact d.2.2.1 p x y, fun j x => by rw [i2 j x]; exact d.2.2.2 j x⟩, ?_, i1, fun p x y => i3 p (by omega) y⟩
  have q8 : ∀ q, 85 ≤ q → q ≤ 92 → q ≠ 88 → lmX12_dares_2 (H 0 4).toNat s ((0 : Nat) : Int) M q = B q := fun q a b c => by rw [i1 q c]; exact d.1 q c (by omega) (by omega)
  have r8 : ∀ j, (∀ p, 0 ≤ p → p < H 0 4 → j ≠ 162 + 18 * p + 2) → lmX12_dares_2 (H 0 4).toNat s ((0 : Nat) : Int) M 88 j = B 88 j := fun j x => by rw [i2 j x]; exact d.2.2.2 j x
  refine Rh_hst ho hr (by rw [i1 66 (by decide)]; exact d.2.1 38 (by decide) (by decide) (by decide)) (by rw [i1 66 (by decide)]; exact d.2.1 39 (by decide) (by decide) (by decide)) (fun q a b c => q8 q a (by omega) c) (fun p k a b k0 k1 => r8 _ (fun q x y => by omega)) (fun p a b => ?_) (fun k a b => by rw [q8 92 (by decide) (by decide) (by decide)]; exact (hr.2.2.1 k a b).2)
  have r := hr.2.2.2.2.1 p a b
  rw [r8 (162 + 18 * p) (fun q x y => by omega), r8 (162 + 18 * p + 1) (fun q x y => by omega)]
  exact ⟨r.1, r.2.1, i3 p (by omega) b⟩
theorem da51 {K : Int → Mem → Prop} (ho : Hok H) (hr : Rh H B) (C0 : 0 ≤ C) (C1 : C < 512) (hC : B 66 42 = C) (hK : ∀ M' : Mem, dfR H B M' → K (rbd H C (2 ^ (H 0 4).toNat)) M') : ∀ (k n : Nat) (M : Mem), n ≤ 2 ^ (H 0 4).toNat → 2 ^ (H 0 4).toNat < n + k → dfR H B M → PX12_daring_51 K Q k (rbd H C n) n M := by
  have hbd := ho.2.1
  have b5 := bits_b ho
  intro k
  induction k with
  | zero => intro n M a b; omega
  | succ k ih =>
    intro n M a b d
    have m85 : M 85 3 = H 0 4 := by rw [d.1 85 (by decide) (by decide) (by decide)]; exact hr.1.2.2.2.2.1
    have sh : m_shl 1 (fX12_peopleMany M) = ((2 ^ (H 0 4).toNat : Nat) : Int) := by
      show m_shl 1 (M 85 3) = _
      rw [m85, shl_one (by omega) (by omega)]
    have c42 : M 66 42 = C := by rw [d.2.1 42 (by decide) (by decide) (by decide)]; exact hC
    have e3 : Hid (wr32 ((n : Int) + 1) = ((n + 1 : Nat) : Int)) := hid (by rw [wad (by omega) (by omega)]; omega)
    refine ⟨fun z => ?_, fun z => ?_⟩
    · rw [sh] at z
      have e : n = 2 ^ (H 0 4).toNat := by omega
      rw [e]
      exact hK M d
    · rw [sh] at z
      have hn2 : n < 2 ^ (H 0 4).toNat := by omega
      have er : rbd H C (n + 1) = if okd H C n = true ∧ (rbd H C n = -1 ∨ bcn n < fJ6_bitCount_0f7a4 (rbd H C n)) then (n : Int) else rbd H C n := rfl
      rw [c42, e3.out]
      have eo : okd H C n = (decide (m_and (n : Int) (m_xor C (-1)) = 0) && decide (ofv (hdr H n) C ≠ -1)) := rfl
      have nx : ¬ (okd H C n = true ∧ (rbd H C n = -1 ∨ bcn n < fJ6_bitCount_0f7a4 (rbd H C n))) → ∀ N : Mem, dfR H B N → PX12_daring_51 K Q k (rbd H C n) ((n + 1 : Nat) : Int) N := by
        intro w N hN
        have i := ih (n + 1) N (by omega) (by omega) hN
        rw [er, if_neg w] at i
        exact i
      have go : m_and (n : Int) (m_xor C (-1)) = 0 → (rbd H C n = -1 ∨ bcn n < fJ6_bitCount_0f7a4 (rbd H C n)) → (nX12_dares M n) ∧ (∀ M7 : Mem, M7 = (fmX12_dares M n) → PX12_doesComeOff M7 (fun a8 M9 => PX12_daring_51 K Q k (if a8 = 0 then (rbd H C n) else (n : Int)) ((n + 1 : Nat) : Int) M9)) := by
        intro s0 hb
        obtain ⟨d1, d2, d3, d4, d5⟩ := dares_r (s := n) ho hr (by omega) d m85
        refine ⟨d1, fun M7 h7 => ?_⟩
        rw [← h7] at d2 d3 d4
        refine dco_r (hdr_ok ho n) d3 C0 C1 (by rw [d4 66 (by decide)]; exact c42) (fun M9 r => ?_)
        have d9 : dfR H B M9 := ⟨fun q x y w => by rw [r.1 q w]; exact d2.1 q x y w, fun j a b c => by rw [r.2.1 j a b c]; exact d2.2.1 j a b c, fun p x y => by rw [r.1 101 (by decide)]; exact d2.2.2.1 p x y, fun j x => by rw [r.1 88 (by decide)]; exact d2.2.2.2 j x⟩
        by_cases o : ofv (hdr H n) C ≠ -1
        · have okn : okd H C n = true := by rw [eo, decide_eq_true s0, decide_eq_true o]; rfl
          have i := ih (n + 1) M9 (by omega) (by omega) d9
          rw [er, if_pos ⟨okn, hb⟩] at i
          rw [if_pos o, if_neg (show ¬ (1 : Int) = 0 by decide)]
          exact i
        · rw [if_neg o, if_pos rfl]
          exact nx (fun w => by
            have := w.1
            rw [eo, Bool.and_eq_true] at this
            exact o (of_decide_eq_true this.2)) M9 d9
      refine ⟨fun s0 => ⟨fun y => go s0 (Or.inl y), fun y => ?_⟩, fun s0 => nx (fun w => ?_) M d⟩
      · refine bits_r (by omega) ?_
        rcases rbd_s (H := H) (C := C) n with u | ⟨x, u1, u2, _, _⟩
        · exact absurd u.1 y
        · have eb : fJ6_bitCount_0f7a4 (rbd H C n) = bcn x := by rw [u1]; rfl
          have bx := bits_r (s := x) (M := M) (Q := fun a16 M17 => ((bcn n < a16 → (nX12_dares M17 n) ∧ (∀ M22 : Mem, M22 = (fmX12_dares M17 n) → PX12_doesComeOff M22 (fun a23 M24 => PX12_daring_51 K Q k (if a23 = 0 then (rbd H C n) else (n : Int)) ((n + 1 : Nat) : Int) M24))) ∧ (¬ (bcn n < a16) → PX12_daring_51 K Q k (rbd H C n) ((n + 1 : Nat) : Int) M17))) (by omega) ⟨fun w => go s0 (Or.inr (by rw [eb]; exact w)), fun w => nx (fun v => by
            rcases v.2 with v2 | v2
            · exact y v2
            · rw [eb] at v2; exact w v2) M d⟩
          rw [u1] at bx ⊢
          exact bx
      · have := w.1
        rw [eo, Bool.and_eq_true] at this
        exact s0 (of_decide_eq_true this.1)
theorem dar_r (hg : isG h) (hI : InvH h H M) (v1 : Int) (hQ : ∀ M' : Mem, InvH h H M' → Q (ada H (M 0 12) v1) M') : PX12_daring v1 M Q := by
  obtain ⟨hok, hc, hr, hT, hF, hK, hC, hS, hO, hA, hW⟩ := id hI
  have hbd := hok.2.1
  have cb := C_b hok hC
  have b5 := bits_b hok
  have p1 : 1 ≤ 2 ^ (H 0 4).toNat := Nat.one_le_two_pow
  refine ⟨fun z => ?_, fun z => ⟨fun y => ?_, fun y => ?_⟩⟩
  · rw [isIn_eq] at z
    have e : ada H (M 0 12) v1 = -1 := by
      unfold ada
      rw [if_neg]
      intro w
      rw [if_pos w.1] at z
      exact absurd z (by decide)
    rw [← e]
    exact hQ M hI
  · rw [hr.1.1] at y
    have e : ada H (M 0 12) v1 = -1 := by unfold ada; rw [if_neg (fun w => w.2 y)]
    rw [← e]
    exact hQ M hI
  · rw [isIn_eq] at z
    rw [hr.1.1] at y
    have z1 : 0 ≤ v1 ∧ v1 ≤ 1 := Classical.byContradiction (fun w => z (by rw [if_neg w]))
    refine ⟨10, da21 hok hr (fun M5 e1 e2 => ⟨2 ^ (H 0 4).toNat + 1, ?_⟩) 10 0 M (by omega) (by omega) (fun _ _ => rfl) (fun p a b => by omega)⟩
    have d5 : dfR H M M5 := ⟨fun q _ x _ => e1 q x, fun j _ _ _ => by rw [e1 66 (by decide)], e2, fun j _ => by rw [e1 88 (by decide)]⟩
    refine da51 (H := H) (B := M) (C := M 0 12) hok hr cb.1 cb.2 hC.1 (fun M9 d9 => ?_) (2 ^ (H 0 4).toNat + 1) 0 M5 (by omega) (by omega) d5
    have m85 : M9 85 3 = H 0 4 := by rw [d9.1 85 (by decide) (by decide) (by decide)]; exact hr.1.2.2.2.2.1
    obtain ⟨d1, d2, d3, d4, d6⟩ := dares_r (s := 0) hok hr (by omega) d9 m85
    refine ⟨d1, fun M13 h13 => ?_⟩
    have h13' : M13 = fmX12_dares M9 ((0 : Nat) : Int) := h13
    rw [← h13'] at d2 d3 d4 d6
    have i13 : InvH h H M13 := by
      refine inv_rd hg hI (fun q x x2 => ?_) (fun j a b c => d2.2.1 j a b c)
      by_cases e : q = 88
      · rw [e]
        funext j
        by_cases w : ∃ p, 0 ≤ p ∧ p < H 0 4 ∧ j = 162 + 18 * p + 2
        · obtain ⟨p, p0, p1, p2⟩ := w
          rw [p2, d6 p p0 p1]
          have nb : ¬ bt ((0 : Nat) : Int) p = true := by
            rw [bt_n, Nat.zero_testBit]
            decide
          rw [if_neg nb]
          exact (hr.2.2.2.2.1 p p0 p1).2.2.1.symm
        · exact d2.2.2.2 j (fun p p0 p1 p2 => w ⟨p, p0, p1, p2⟩)
      · exact d2.1 q e x x2
    have hq := hQ M13 i13
    unfold ada at hq
    rw [if_pos ⟨z1, y⟩] at hq
    refine ⟨fun w => ?_, fun w => ⟨fun v => ?_, fun v => ?_⟩⟩
    · rw [if_pos w] at hq; exact hq
    · rw [if_neg w, if_pos v] at hq
      rcases rbd_s (H := H) (C := M 0 12) (2 ^ (H 0 4).toNat) with u | ⟨x, u1, u2, _, _⟩
      · exact absurd u.1 w
      · rw [u1] at hq ⊢
        exact bits_r (by omega) hq
    · rw [if_neg w, if_neg v] at hq; exact hq
theorem inv_daring : ∀ E, Two_daring E Inv := by
  intro E
  refine two_daring (fun v1 M hI _ _ => ?_)
  obtain ⟨h, H, hG, hI⟩ := hI
  have hh := hG.2.2.2
  refine ⟨h, hG, dar_c hh hI v1 (fun M1 i1 e hG1 => dar_r hh i1 v1 (fun M2 i2 hG2 => ⟨by rw [e], h, H, hG2, i2⟩))⟩
end
