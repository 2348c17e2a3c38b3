/-! the text of a hall: the class reads it -/
def Dc (g : Int) (H : Hal) (w : Int) (M : Mem) : Prop := Ch g H M ∧ M g 11 = w ∧ M (g + 1) 7 < 2 ^ (H 0 4).toNat
def DOK (H : Hal) (w : Int) : Prop := Hok H ∧ 2 ≤ H 0 0 ∧ 0 ≤ w ∧ w ≤ 15 ∧ ∀ k, 0 ≤ k → k < H 0 2 → H 3 k = 0
theorem hd_sz {H : Hal} {w : Int} (h : DOK H w) : 2 ≤ H 0 0 ∧ H 0 0 ≤ 9 ∧ 2 ≤ H 0 1 ∧ H 0 1 ≤ 6 := by
  rcases h.1.1 with z | z
  · have := h.2.1
    omega
  · exact z
section
variable {b : Int → Int} {n p e g w : Int} {H : Hal} {M : Mem} {Q : Int → Mem → Prop}
theorem fst1_ff {f : Int → Bool} (k : Nat) (a : Int) (h : 0 ≤ a) : fst1 f a k = -1 ↔ ∀ i, a ≤ i → i < a + k → f i = false := by
  have s := fst1_s (f := f) k a h
  constructor
  · intro z
    rcases s with u | u
    · exact u.2
    · omega
  · intro z
    rcases s with u | u
    · exact u.1
    · have := z _ u.1 u.2.1
      rw [u.2.2.1] at this
      exact absurd this (by decide)
theorem dat_c (ho : Hok H) (hc : Ch g H M) (c : Int) : fX1_doorIn M g c = -1 ↔ dat H c = -1 := by
  have hb := ho.2.1
  have l := door_lp ho hc c (H 0 2).toNat 0 (by omega)
  have e : fX1_doorIn M g c = lX1_doorIn_2 g (H 0 2).toNat c ((0 : Nat) : Int) M := by
    unfold fX1_doorIn
    rw [hc.1.2.2.1, Int.sub_zero]
    rfl
  rw [← e] at l
  have f := fst1_ff (f := fun k => decide (H 2 k = c)) (H 0 2).toNat 0 (by omega)
  unfold dat
  rw [f]
  constructor
  · intro z i a d
    rcases l with u | u
    · exact decide_eq_false (u.2 i (by omega) (by omega))
    · omega
  · intro z
    rcases l with u | u
    · exact u.1
    · have := of_decide_eq_false (z (fX1_doorIn M g c) (by omega) (by omega))
      exact absurd u.2.2 this
theorem tk38 (ho : Hok H) (hc : Ch g H M) (c : Int) : ∀ (k m : Nat), (m : Int) + k = H 0 3 → lX1_isTaken_38 g k c m M = if fst1 (fun g => decide (H 4 g = c)) m k ≠ -1 then 1 else 0 := by
  have hb := ho.2.1
  intro k
  induction k with
  | zero => intro m h; rw [if_neg (fun z => z rfl)]; rfl
  | succ k ih =>
    intro m h
    have c4 := (hc.2.2.2.1 m (by omega) (by omega)).1
    have e : lX1_isTaken_38 g (k + 1) c m M = (if (fX11_get M (g + 13) 4 m) = c then 1 else (lX1_isTaken_38 g k c ((m : Int) + 1) M)) := rfl
    have ef : fst1 (fun g => decide (H 4 g = c)) m (k + 1) = if decide (H 4 m = c) = true then (m : Int) else fst1 (fun g => decide (H 4 g = c)) ((m : Int) + 1) k := rfl
    rw [e, ef, rd_get (by omega) (by omega), c4]
    have i := ih (m + 1) (by omega)
    rw [show (((m + 1 : Nat)) : Int) = (m : Int) + 1 by omega] at i
    by_cases z : H 4 m = c
    · rw [if_pos z, decide_eq_true z, if_pos (rfl : true = true), if_pos (by omega)]
    · rw [if_neg z, decide_eq_false z, if_neg (show ¬ false = true by decide)]
      exact i
theorem tk2 (ho : Hok H) (hc : Ch g H M) (c : Int) : ∀ (k m : Nat), (m : Int) + k = H 0 4 → lX1_isTaken_2 g k c m M = if fst1 (fun p => decide (H 7 p = c)) m k ≠ -1 ∨ fst1 (fun g => decide (H 4 g = c)) 0 (H 0 3).toNat ≠ -1 then 1 else 0 := by
  have hb := ho.2.1
  intro k
  induction k with
  | zero =>
    intro m h
    have e : lX1_isTaken_2 g 0 c m M = lX1_isTaken_38 g ((M g 13) - 0).toNat c 0 M := rfl
    have t := tk38 ho hc c (H 0 3).toNat 0 (by omega)
    rw [e, hc.1.2.2.2.1, Int.sub_zero]
    rw [show ((0 : Nat) : Int) = 0 from rfl] at t
    rw [t]
    by_cases z : fst1 (fun g => decide (H 4 g = c)) 0 (H 0 3).toNat ≠ -1
    · rw [if_pos z, if_pos (Or.inr z)]
    · rw [if_neg z, if_neg (fun y => by rcases y with y | y; exact y rfl; exact z y)]
  | succ k ih =>
    intro m h
    have c5 := (hc.2.2.2.2.1 m (by omega) (by omega)).1
    have e : lX1_isTaken_2 g (k + 1) c m M = (if (fX11_get M (g + 3) 9 m) = c then 1 else (lX1_isTaken_2 g k c ((m : Int) + 1) M)) := rfl
    have ef : fst1 (fun p => decide (H 7 p = c)) m (k + 1) = if decide (H 7 m = c) = true then (m : Int) else fst1 (fun p => decide (H 7 p = c)) ((m : Int) + 1) k := rfl
    rw [e, ef, rd_get (by omega) (by omega), c5]
    have i := ih (m + 1) (by omega)
    rw [show (((m + 1 : Nat)) : Int) = (m : Int) + 1 by omega] at i
    by_cases z : H 7 m = c
    · rw [if_pos z, decide_eq_true z, if_pos (rfl : true = true), if_pos (Or.inl (by omega))]
    · rw [if_neg z, decide_eq_false z, if_neg (show ¬ false = true by decide)]
      exact i
theorem smb_c (ho : Hok H) (hc : Ch g H M) (c : Int) : fX1_isTaken M g c = if smb H c = true then 1 else 0 := by
  have hb := ho.2.1
  have t := tk2 ho hc c (H 0 4).toNat 0 (by omega)
  rw [show ((0 : Nat) : Int) = 0 from rfl] at t
  unfold fX1_isTaken
  have key : smb H c = true ↔ (fst1 (fun p => decide (H 7 p = c)) 0 (H 0 4).toNat ≠ -1 ∨ fst1 (fun g => decide (H 4 g = c)) 0 (H 0 3).toNat ≠ -1) := by
    unfold smb
    rw [Bool.or_eq_true, decide_eq_true_iff, decide_eq_true_iff]
  rw [hc.1.2.2.2.2.1, Int.sub_zero, t]
  by_cases z : fst1 (fun p => decide (H 7 p = c)) 0 (H 0 4).toNat ≠ -1 ∨ fst1 (fun g => decide (H 4 g = c)) 0 (H 0 3).toNat ≠ -1
  · rw [if_pos z, if_pos (key.mpr z)]
  · rw [if_neg z, if_neg (fun y => z (key.mp y))]
theorem hn38 (ho : Hok H) (hc : Ch g H M) (c : Int) : ∀ (k m : Nat), (m : Int) + k = H 0 3 → lX1_hasName_38 g k c m M = if fst1 (fun g => decide (H 15 g = c)) m k ≠ -1 then 1 else 0 := by
  have hb := ho.2.1
  intro k
  induction k with
  | zero => intro m h; rw [if_neg (fun z => z rfl)]; rfl
  | succ k ih =>
    intro m h
    have c4 := (hc.2.2.2.1 m (by omega) (by omega)).2.2.2
    have e : lX1_hasName_38 g (k + 1) c m M = (if (fX11_get M (g + 12) 4 m) = c then 1 else (lX1_hasName_38 g k c ((m : Int) + 1) M)) := rfl
    have ef : fst1 (fun g => decide (H 15 g = c)) m (k + 1) = if decide (H 15 m = c) = true then (m : Int) else fst1 (fun g => decide (H 15 g = c)) ((m : Int) + 1) k := rfl
    rw [e, ef, rd_get (by omega) (by omega), c4]
    have i := ih (m + 1) (by omega)
    rw [show (((m + 1 : Nat)) : Int) = (m : Int) + 1 by omega] at i
    by_cases z : H 15 m = c
    · rw [if_pos z, decide_eq_true z, if_pos (rfl : true = true), if_pos (by omega)]
    · rw [if_neg z, decide_eq_false z, if_neg (show ¬ false = true by decide)]
      exact i
theorem hn2 (ho : Hok H) (hc : Ch g H M) (c : Int) : ∀ (k m : Nat), (m : Int) + k = H 0 4 → lX1_hasName_2 g k c m M = if fst1 (fun p => decide (H 14 p = c)) m k ≠ -1 ∨ fst1 (fun g => decide (H 15 g = c)) 0 (H 0 3).toNat ≠ -1 then 1 else 0 := by
  have hb := ho.2.1
  intro k
  induction k with
  | zero =>
    intro m h
    have e : lX1_hasName_2 g 0 c m M = lX1_hasName_38 g ((M g 13) - 0).toNat c 0 M := rfl
    have t := hn38 ho hc c (H 0 3).toNat 0 (by omega)
    rw [e, hc.1.2.2.2.1, Int.sub_zero]
    rw [show ((0 : Nat) : Int) = 0 from rfl] at t
    rw [t]
    by_cases z : fst1 (fun g => decide (H 15 g = c)) 0 (H 0 3).toNat ≠ -1
    · rw [if_pos z, if_pos (Or.inr z)]
    · rw [if_neg z, if_neg (fun y => by rcases y with y | y; exact y rfl; exact z y)]
  | succ k ih =>
    intro m h
    have c5 := (hc.2.2.2.2.1 m (by omega) (by omega)).2.2.2.2.2.1
    have e : lX1_hasName_2 g (k + 1) c m M = (if (fX11_get M (g + 2) 9 m) = c then 1 else (lX1_hasName_2 g k c ((m : Int) + 1) M)) := rfl
    have ef : fst1 (fun p => decide (H 14 p = c)) m (k + 1) = if decide (H 14 m = c) = true then (m : Int) else fst1 (fun p => decide (H 14 p = c)) ((m : Int) + 1) k := rfl
    rw [e, ef, rd_get (by omega) (by omega), c5]
    have i := ih (m + 1) (by omega)
    rw [show (((m + 1 : Nat)) : Int) = (m : Int) + 1 by omega] at i
    by_cases z : H 14 m = c
    · rw [if_pos z, decide_eq_true z, if_pos (rfl : true = true), if_pos (Or.inl (by omega))]
    · rw [if_neg z, decide_eq_false z, if_neg (show ¬ false = true by decide)]
      exact i
theorem hnm_c (ho : Hok H) (hc : Ch g H M) (c : Int) : fX1_hasName M g c = if hnm H c = true then 1 else 0 := by
  have hb := ho.2.1
  have t := hn2 ho hc c (H 0 4).toNat 0 (by omega)
  rw [show ((0 : Nat) : Int) = 0 from rfl] at t
  unfold fX1_hasName
  have key : hnm H c = true ↔ (fst1 (fun p => decide (H 14 p = c)) 0 (H 0 4).toNat ≠ -1 ∨ fst1 (fun g => decide (H 15 g = c)) 0 (H 0 3).toNat ≠ -1) := by
    unfold hnm
    rw [Bool.or_eq_true, decide_eq_true_iff, decide_eq_true_iff]
  rw [hc.1.2.2.2.2.1, Int.sub_zero, t]
  by_cases z : fst1 (fun p => decide (H 14 p = c)) 0 (H 0 4).toNat ≠ -1 ∨ fst1 (fun g => decide (H 15 g = c)) 0 (H 0 3).toNat ≠ -1
  · rw [if_pos z, if_pos (key.mpr z)]
  · rw [if_neg z, if_neg (fun y => z (key.mp y))]
theorem mst_c (ho : Hok H) (hc : Ch g H M) {kind c : Int} (c0 : 0 ≤ c) (c1 : c < H 0 0 * H 0 1) : fX2_mayStand M g kind c = if mst H kind c = true then 1 else 0 := by
  have ff := isFree_eq ho hc c
  have fi : fX1_isFree M g c = if H 1 c = 0 then 1 else 0 := by
    rcases ff with u | u
    · rw [u.1, if_pos u.2.2.2]
    · rw [u.1, if_neg (fun z => u.2 ⟨c0, c1, z⟩)]
  unfold fX2_mayStand mst
  have dd := dat_c ho hc c
  rw [fi, smb_c ho hc]
  by_cases k1 : kind = 1
  · rw [if_pos k1, if_pos k1]
    by_cases d : dat H c = -1
    · rw [if_pos (dd.mpr d), decide_eq_true d, Bool.true_and]
      by_cases s : smb H c = true
      · rw [if_pos s, s, if_neg (by decide), if_neg (by decide)]
      · rw [if_neg s, if_pos rfl, if_pos (by rw [Bool.eq_false_iff.mpr s]; rfl)]
    · rw [if_neg (fun z => d (dd.mp z)), decide_eq_false d, Bool.false_and, if_neg (by decide)]
  · rw [if_neg k1, if_neg k1]
    by_cases k2 : kind = 2
    · rw [if_pos k2, if_pos k2]
      by_cases d : dat H c = -1
      · rw [if_pos (dd.mpr d), decide_eq_true d, Bool.true_and]
        by_cases s : H 1 c = 0
        · rw [if_pos s, if_neg (by decide), if_pos (decide_eq_true s)]
        · rw [if_neg s, if_pos rfl, if_neg (fun z => s (of_decide_eq_true z))]
      · rw [if_neg (fun z => d (dd.mp z)), decide_eq_false d, Bool.false_and, if_neg (by decide)]
    · rw [if_neg k2, if_neg k2]
      by_cases s : H 1 c = 0
      · rw [if_pos s, if_pos (decide_eq_true s)]
      · rw [if_neg s, if_neg (fun z => s (of_decide_eq_true z))]
theorem Dc_fr {M' : Mem} (hg : isG g) (h : cfr M M') (hD : Dc g H w M) : Dc g H w M' := by
  have hh : 31 < g := by rcases hg with rfl | rfl <;> decide
  refine ⟨Ch_fr2 hg (fun q a c => h q (by omega)) hD.1, by rw [h g (by omega)]; exact hD.2.1, by rw [h (g + 1) (by omega)]; exact hD.2.2⟩
theorem pC_b (hd : DOK H w) {kind : Int} {x : Int × Int × Int} (h : pC b n p e H kind = Sum.inr x) : (0 ≤ x.1 ∧ x.1 < H 0 0 * H 0 1) ∧ mst H kind x.1 = true := by
  have sz := hd_sz hd
  unfold pC at h
  cases h1 : pN b n p e 0 (H 0 0 - 1) p with
  | inl f => rw [bnd_l h1] at h; cases h
  | inr a =>
    rw [bnd_r h1] at h
    have v1 := pN_v h1
    cases h2 : pN b n a.2.1 a.2.2 0 (H 0 1 - 1) a.2.1 with
    | inl f => rw [bnd_l h2] at h; cases h
    | inr c =>
      rw [bnd_r h2] at h
      have v2 := pN_v h2
      by_cases z : mst H kind (H 0 0 * c.1 + a.1) = true
      · rw [if_pos z] at h
        have e1 : (H 0 0 * c.1 + a.1, c.2.1, c.2.2) = x := by injection h
        rw [← e1]
        exact ⟨cell_in (by omega) (by omega) (by omega) (by omega), z⟩
      · rw [if_neg z] at h; cases h
theorem cel_c (hg : isG g) (hd : DOK H w) {kind : Int} (hT : cK b n p e M) (hD : Dc g H w M) (hF : ∀ f pl, pC b n p e H kind = Sum.inl (f, pl) → ∀ M' : Mem, cfr M M' → cFl f pl M' → Q (-1) M') (hO : ∀ x, pC b n p e H kind = Sum.inr x → ∀ M' : Mem, cfr M M' → cK b n x.2.1 x.2.2 M' → Q x.1 M') : PX2_takeCell g kind M Q := by
  have hh : 31 < g := by rcases hg with rfl | rfl <;> decide
  have sz := hd_sz hd
  have g9 : M g 9 = H 0 0 := hD.1.1.1
  have e3 : M 3 2 = p := hT.1.2.2.2.2.1
  unfold PX2_takeCell
  rw [g9, e3, wsu (by omega) (by omega)]
  refine num_c hT (fun f pl h M2 r x => ⟨fun _ => hF f pl ?_ M2 r x, fun z => absurd rfl z⟩) (fun v h M2 r k2 => ?_)
  · unfold pC
    rw [bnd_l (pN_l.mpr h)]
  · have v1 := pnm_v h
    have D2 := Dc_fr hg r hD
    have g10 : M2 g 10 = H 0 1 := D2.1.1.2.1
    have f3 : M2 3 2 = nxp b n p := k2.1.2.2.2.2.1
    refine ⟨fun z => by omega, fun _ => ?_⟩
    rw [g10, f3, wsu (by omega) (by omega)]
    refine num_c k2 (fun f pl h' M6 r6 x => ⟨fun _ => hF f pl ?_ M6 (cfr_t r r6) x, fun z => absurd rfl z⟩) (fun u h' M6 r6 k6 => ?_)
    · unfold pC
      rw [bnd_r (pN_r h)]
      exact bnd_l (pN_l.mpr h')
    · have v2 := pnm_v h'
      have D6 := Dc_fr hg r6 D2
      have m9 : M6 g 9 = H 0 0 := D6.1.1.1
      have ci := cell_in (w := H 0 0) (t := H 0 1) (x := v) (y := u) v1.1 (by omega) v2.1 (by omega)
      have cl := hcells hd.1
      have um : 0 ≤ H 0 0 * u := Int.mul_nonneg (by omega) v2.1
      have ec : Hid (wr32 (wr32 (u * M6 g 9) + v) = H 0 0 * u + v) := hid (by rw [m9, Int.mul_comm u, wmu (by omega) (by omega), wad (by omega) (by omega)])
      rw [ec.out, mst_c hd.1 D6.1 ci.1 ci.2]
      refine ⟨fun z => by omega, fun _ => ⟨fun z M12 h12 => ?_, fun z => ?_⟩⟩
      · have nz : ¬ mst H kind (H 0 0 * u + v) = true := fun y => by rw [if_pos y] at z; exact absurd z (by decide)
        have fc := fail_c k6 2 (nxp b n p)
        rw [h12]
        refine hF 2 (nxp b n p) ?_ _ (cfr_t r (cfr_t r6 fc.1)) fc.2
        unfold pC
        rw [bnd_r (pN_r h), bnd_r (pN_r h')]
        exact if_neg nz
      · have nz : mst H kind (H 0 0 * u + v) = true := Classical.byContradiction (fun y => z (by rw [if_neg y]))
        refine hO (H 0 0 * u + v, nxp b n (nxp b n p), nxe b n (nxp b n p)) ?_ M6 (cfr_t r r6) k6
        unfold pC
        rw [bnd_r (pN_r h), bnd_r (pN_r h')]
        exact if_pos nz
end
