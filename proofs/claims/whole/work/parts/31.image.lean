/-! images -/
def oct (H : Hal) (i : Int) : Int := if i < 3 * H 0 4 then (if i % 3 = 0 then H 8 (i / 3) else if i % 3 = 1 then H 9 (i / 3) else H 7 (i / 3)) else H 3 (i - 3 * H 0 4)
def chk (f : Int → Int) : Nat → Int
  | 0 => 151
  | n + 1 => (3 * chk f n + f n) % 253
theorem chk_b (f : Int → Int) : ∀ n, 0 ≤ chk f n ∧ chk f n < 253
  | 0 => (show 0 ≤ (151 : Int) ∧ (151 : Int) < 253 by decide)
  | n + 1 => by
    show 0 ≤ (3 * chk f n + f n) % 253 ∧ (3 * chk f n + f n) % 253 < 253
    omega
theorem chk_c {f g : Int → Int} : ∀ n : Nat, (∀ i : Int, 0 ≤ i → i < n → f i = g i) → chk f n = chk g n
  | 0, _ => rfl
  | n + 1, h => by
    show (3 * chk f n + f n) % 253 = (3 * chk g n + g n) % 253
    rw [chk_c n (fun i a b => h i a (by omega)), h n (by omega) (by omega)]
def ilen (H : Hal) : Int := 3 * H 0 4 + H 0 2
theorem oct_b {H : Hal} (ho : Hok H) {i : Int} (h0 : 0 ≤ i) (h1 : i < ilen H) : 0 ≤ oct H i ∧ oct H i ≤ 120 := by
  have hb := ho.2.1
  have hc := hcells ho
  unfold ilen at h1
  unfold oct
  by_cases a : i < 3 * H 0 4
  · rw [if_pos a]
    have p7 := ho.2.2.2.2.2.2.1 (i / 3) (by omega) (by omega)
    have p0 := p7.1
    unfold fre at p0
    by_cases b : i % 3 = 0
    · rw [if_pos b]; omega
    · rw [if_neg b]
      by_cases c : i % 3 = 1
      · rw [if_pos c]; omega
      · rw [if_neg c]; omega
  · rw [if_neg a]
    have := (ho.2.2.2.1 (i - 3 * H 0 4) (by omega) (by omega)).2
    omega
theorem imlen {g : Int} {H : Hal} {M : Mem} (ho : Hok H) (hc : Ch g H M) : fX1_imageLength M g = ilen H + 1 := by
  have hb := ho.2.1
  unfold fX1_imageLength ilen
  rw [hc.1.2.2.2.2.1, hc.1.2.2.1, wr32_id (x := 3 * H 0 4) (by unfold r32; omega), wr32_id (x := 3 * H 0 4 + H 0 2) (by unfold r32; omega), wr32_id (by unfold r32; omega)]
theorem rowOf0 (g : Int) : fX4_rowOf g 0 = g + 4 := by unfold fX4_rowOf; simp
theorem rowOf1 (g : Int) : fX4_rowOf g 1 = g + 5 := by unfold fX4_rowOf; simp
theorem rowOf2 (g : Int) : fX4_rowOf g 2 = g + 3 := by unfold fX4_rowOf; simp
theorem valueOf_eq {g : Int} {H : Hal} {M : Mem} (ho : Hok H) (hc : Ch g H M) {p k : Int} (h0 : 0 ≤ p) (h1 : p < H 0 4) : fX4_valueOf M g p k = if k = 0 then H 8 p else if k = 1 then H 9 p else H 7 p := by
  have hb := ho.2.1
  have c5 := hc.2.2.2.2.1 p h0 h1
  unfold fX4_valueOf fX4_rowOf
  by_cases a : k = 0
  · simp only [if_pos a]
    rw [rd_get h0 (by omega), c5.2.1]
  · by_cases b : k = 1
    · simp only [if_neg a, if_pos b]
      rw [rd_get h0 (by omega), c5.2.2.1]
    · simp only [if_neg a, if_neg b]
      rw [rd_get h0 (by omega), c5.1]
theorem oct_c {g : Int} {H : Hal} {M : Mem} (ho : Hok H) (hc : Ch g H M) {v : Int} (h0 : 0 ≤ v) (h1 : v < ilen H) : (if (M (g + 1) 8) ≤ (wr32 (Int.tdiv v 3)) then (fX11_get M (g + 11) 6 (wr32 (v - (wr32 (3 * (M (g + 1) 8)))))) else (fX4_valueOf M g (wr32 (Int.tdiv v 3)) (Int.tmod v 3))) = oct H v := by
  have hb := ho.2.1
  unfold ilen at h1
  rw [hc.1.2.2.2.2.1, Int.tdiv_eq_ediv_of_nonneg h0, Int.tmod_eq_emod_of_nonneg h0, wr32_id (x := 3 * H 0 4) (by unfold r32; omega), wr32_id (x := v / 3) (by unfold r32; omega), wr32_id (x := v - 3 * H 0 4) (by unfold r32; omega)]
  unfold oct
  by_cases a : v < 3 * H 0 4
  · rw [if_neg (by omega), if_pos a, valueOf_eq ho hc (by omega) (by omega)]
  · rw [if_pos (by omega), if_neg a, rd_get (by omega) (by omega), (hc.2.2.1 _ (by omega) (by omega)).2]
theorem chkW {c o : Int} (h0 : 0 ≤ c) (h1 : c < 253) (h2 : 0 ≤ o) (h3 : o ≤ 255) : fX1_checkWith c o = (3 * c + o) % 253 := by
  unfold fX1_checkWith
  rw [wr32_id (x := 3 * c) (by unfold r32; omega), wr32_id (by unfold r32; omega), Int.tmod_eq_emod_of_nonneg (by omega)]
theorem Ch_put {g : Int} {H : Hal} {M : Mem} (hg : isG g) (hc : Ch g H M) {x : Int} (i y : Int) (hx : x < 32 ∨ 65 < x) : Ch g H (mset M x i y) := by
  unfold Ch
  have e : ∀ q, 32 ≤ q → q ≤ 65 → mset M x i y q = M q := fun q a b => mset_p (by omega)
  have hb : 32 ≤ g ∧ g ≤ 49 := by rcases hg with rfl | rfl <;> decide
  rw [e g (by omega) (by omega), e (g + 1) (by omega) (by omega), e (g + 2) (by omega) (by omega), e (g + 3) (by omega) (by omega), e (g + 4) (by omega) (by omega), e (g + 5) (by omega) (by omega), e (g + 6) (by omega) (by omega), e (g + 7) (by omega) (by omega), e (g + 8) (by omega) (by omega), e (g + 9) (by omega) (by omega), e (g + 10) (by omega) (by omega), e (g + 11) (by omega) (by omega), e (g + 12) (by omega) (by omega), e (g + 13) (by omega) (by omega), e (g + 14) (by omega) (by omega), e (g + 15) (by omega) (by omega)]
  exact hc
theorem rd_put {M : Mem} {p i y : Int} {n : Nat} (h0 : 0 ≤ i) (h1 : i < n) : fmX11_put M p n i y = mset M p i y := by
  unfold fmX11_put
  rw [if_neg (by omega), if_neg (by omega)]
theorem wri_c {g : Int} {H : Hal} (hg : isG g) (ho : Hok H) : ∀ (k : Nat) (v : Int) (M : Mem), Ch g H M → 0 ≤ v → v + k = ilen H →
    (∀ i, i < v → lmX1_writeImage_14 g 31 34 k (ilen H) (chk (oct H) v.toNat) v M 31 i = M 31 i) ∧ (∀ i, v ≤ i → i < ilen H → lmX1_writeImage_14 g 31 34 k (ilen H) (chk (oct H) v.toNat) v M 31 i = oct H i) ∧ lmX1_writeImage_14 g 31 34 k (ilen H) (chk (oct H) v.toNat) v M 31 (ilen H) = chk (oct H) (ilen H).toNat := by
  have hb := ho.2.1
  have hl : ilen H ≤ 33 := by unfold ilen; omega
  intro k
  induction k with
  | zero =>
    intro v M hc h0 h1
    have : v = ilen H := by omega
    subst this
    show (∀ i, i < ilen H → fmX11_put M 31 34 (ilen H) (chk (oct H) (ilen H).toNat) 31 i = M 31 i) ∧ (∀ i, ilen H ≤ i → i < ilen H → fmX11_put M 31 34 (ilen H) (chk (oct H) (ilen H).toNat) 31 i = oct H i) ∧ fmX11_put M 31 34 (ilen H) (chk (oct H) (ilen H).toNat) 31 (ilen H) = _
    rw [rd_put h0 (by omega)]
    refine ⟨fun i hi => mset_k (by omega), fun i a b => by omega, mset_e⟩
  | succ k ih =>
    intro v M hc h0 h1
    have o1 := oct_b ho h0 (by omega : v < ilen H)
    have c1 := chk_b (oct H) v.toNat
    have e1 := oct_c ho hc h0 (by omega : v < ilen H)
    have e2 : chk (oct H) (v + 1).toNat = fX1_checkWith (chk (oct H) v.toNat) (oct H v) := by
      have : (v + 1).toNat = v.toNat + 1 := by omega
      rw [this, chkW c1.1 c1.2 o1.1 (by omega)]
      show (3 * chk (oct H) v.toNat + oct H (v.toNat : Int)) % 253 = _
      rw [Int.toNat_of_nonneg h0]
    have := ih (v + 1) (mset M 31 v (oct H v)) (Ch_put hg hc _ _ (by omega)) (by omega) (by omega)
    have e3 : lmX1_writeImage_14 g 31 34 (k + 1) (ilen H) (chk (oct H) v.toNat) v M = lmX1_writeImage_14 g 31 34 k (ilen H) (chk (oct H) (v + 1).toNat) (v + 1) (mset M 31 v (oct H v)) := by
      rw [e2, ← rd_put (n := 34) h0 (by omega), ← e1]
      rfl
    rw [e3]
    refine ⟨fun i hi => (this.1 i (by omega)).trans (mset_k (by omega)), fun i a b => ?_, this.2.2⟩
    by_cases c : i = v
    · rw [c]
      exact (this.1 v (by omega)).trans mset_e
    · exact this.2.1 i (by omega) b
theorem ckd {f : Int → Int} {P : Int} {np : Nat} (hb : ∀ i : Int, 0 ≤ i → i < np → 0 ≤ f i ∧ f i ≤ 255) : ∀ (k : Nat) (n v : Int) (M : Mem), (∀ i, 0 ≤ i → i < v + k → M P i = f i) → 0 ≤ v → v + k ≤ np →
    lX12_checked_6 P np k n (chk f v.toNat) v M = chk f (v.toNat + k) ∧ nlX12_checked_6 P np k n (chk f v.toNat) v M := by
  intro k
  induction k with
  | zero => exact fun n v M _ _ _ => ⟨rfl, trivial⟩
  | succ k ih =>
    intro n v M hM h0 h1
    have c1 := chk_b f v.toNat
    have b1 := hb v h0 (by omega)
    have e2 : Int.tmod (wr32 (wr32 (3 * chk f v.toNat) + M P v)) 253 = chk f (v + 1).toNat := by
      have : (v + 1).toNat = v.toNat + 1 := by omega
      rw [this, hM v h0 (by omega), wr32_id (x := 3 * chk f v.toNat) (by unfold r32; omega), wr32_id (by unfold r32; omega), Int.tmod_eq_emod_of_nonneg (by omega)]
      show _ = (3 * chk f v.toNat + f (v.toNat : Int)) % 253
      rw [Int.toNat_of_nonneg h0]
    have := ih n (v + 1) M (fun i a b => hM i a (by omega)) (by omega) (by omega)
    have e4 : (v + 1).toNat + k = v.toNat + (k + 1) := by omega
    rw [e4] at this
    show lX12_checked_6 P np k n (Int.tmod (wr32 (wr32 (3 * chk f v.toNat) + M P v)) 253) (v + 1) M = _ ∧ ((0 ≤ v ∧ v < (np : Int)) ∧ nlX12_checked_6 P np k n (Int.tmod (wr32 (wr32 (3 * chk f v.toNat) + M P v)) 253) (v + 1) M)
    rw [e2]
    exact ⟨this.1, ⟨h0, by omega⟩, this.2⟩
theorem wrts {M : Mem} {x : Int} (h : 0 ≤ M 66 89) (h1 : M 66 89 < 34) : fmX12_writes M x = mset (mset M 125 (M 66 89) x) 66 89 (M 66 89 + 1) := by
  unfold fmX12_writes
  have : mset M 125 (M 66 89) x 66 89 = M 66 89 := by simp [ms]
  rw [this, wr32_id (by unfold r32; omega)]
theorem Rh_wr {H : Hal} {M : Mem} (hr : Rh H M) (i x y : Int) : Rh H (mset (mset M 125 i x) 66 89 y) := by
  refine Rh_fr (g := 32) (M := M) ⟨fun q a b => ?_, by simp [ms], by simp [ms], fun q a b => ?_⟩ hr
  · rw [mset_p (by omega), mset_p (by omega)]
  · rw [mset_p (by omega), mset_p (by omega)]
theorem img_d {H : Hal} (ho : Hok H) : ∀ (k : Nat) (v : Int) (M : Mem), Rh H M → 0 ≤ v → v + k = H 0 2 → M 66 89 = 3 * H 0 4 + v → (∀ i, 0 ≤ i → i < M 66 89 → M 125 i = oct H i) →
    nlX12_image_56 k v M ∧ lX12_image_56 k v M = ilen H + 1 ∧ lmX12_image_56 k v M 66 89 = ilen H + 1 ∧ (∀ i, 0 ≤ i → i < ilen H → lmX12_image_56 k v M 125 i = oct H i) ∧ lmX12_image_56 k v M 125 (ilen H) = chk (oct H) (ilen H).toNat ∧ (∀ j, j ≠ 89 → lmX12_image_56 k v M 66 j = M 66 j) := by
  have hb := ho.2.1
  intro k
  induction k with
  | zero =>
    intro v M hr h0 h1 h2 h3
    have hn : M 66 89 = ilen H := by unfold ilen; omega
    have hl : 0 ≤ ilen H ∧ ilen H ≤ 33 := by unfold ilen; omega
    obtain ⟨f, hf⟩ : ∃ f : Int → Int, f = fun i => if 0 ≤ i ∧ i < ilen H then oct H i else 0 := ⟨_, rfl⟩
    have hfb : ∀ i : Int, 0 ≤ i → i < (34 : Nat) → 0 ≤ f i ∧ f i ≤ 255 := by
      intro i a b
      rw [hf]
      by_cases c : 0 ≤ i ∧ i < ilen H
      · have := oct_b ho c.1 c.2
        simp only [if_pos c]
        omega
      · simp only [if_neg c]
        omega
    have ck := ckd (P := 125) hfb (ilen H).toNat (M 66 89) 0 M (fun i a b => by rw [h3 i a (by omega), hf]; simp only [if_pos (show 0 ≤ i ∧ i < ilen H by omega)]) (by omega) (by omega)
    have e1 : fX12_checked M 125 34 (M 66 89) = chk (oct H) (ilen H).toNat := by
      unfold fX12_checked
      rw [hn]
      rw [hn] at ck
      have := ck.1
      simp only [Int.sub_zero]
      rw [show chk f (0 : Int).toNat = 151 from rfl] at this
      rw [this, show (0 : Int).toNat + (ilen H).toNat = (ilen H).toNat from Nat.zero_add _]
      refine chk_c _ (fun i a b => ?_)
      rw [hf]
      simp only [if_pos (show 0 ≤ i ∧ i < ilen H by omega)]
    have e2 : fmX12_writes M (chk (oct H) (ilen H).toNat) = mset (mset M 125 (ilen H) (chk (oct H) (ilen H).toNat)) 66 89 (ilen H + 1) := by
      rw [wrts (by omega) (by omega), hn]
    show (nX12_checked M 125 34 (M 66 89) ∧ nX12_writes M) ∧ (fmX12_writes M (fX12_checked M 125 34 (M 66 89))) 66 89 = _ ∧ (fmX12_writes M (fX12_checked M 125 34 (M 66 89))) 66 89 = _ ∧ (∀ i, 0 ≤ i → i < ilen H → (fmX12_writes M (fX12_checked M 125 34 (M 66 89))) 125 i = oct H i) ∧ (fmX12_writes M (fX12_checked M 125 34 (M 66 89))) 125 (ilen H) = _ ∧ (∀ j, j ≠ 89 → (fmX12_writes M (fX12_checked M 125 34 (M 66 89))) 66 j = M 66 j)
    rw [e1, e2]
    refine ⟨⟨?_, ?_⟩, by simp [ms], by simp [ms], fun i a b => ?_, by simp [ms], fun j hj => by simp [ms, hj]⟩
    · unfold nX12_checked
      rw [hn]
      rw [hn] at ck
      have ck2 := ck.2
      rw [show chk f (0 : Int).toNat = 151 from rfl] at ck2
      simpa using ck2
    · unfold nX12_writes
      omega
    · rw [mset_o (by decide), mset_k (by omega)]
      exact h3 i a (by omega)
  | succ k ih =>
    intro v M hr h0 h1 h2 h3
    have hd := (hr.2.2.1 v h0 (by omega)).2
    have e2 : fmX12_writes M (M 92 v) = mset (mset M 125 (M 66 89) (M 92 v)) 66 89 (M 66 89 + 1) := wrts (by omega) (by omega)
    have := ih (v + 1) _ (Rh_wr hr (M 66 89) (M 92 v) (M 66 89 + 1)) (by omega) (by omega) (by simp [ms]; omega) (fun i a b => by
      rw [mset_o (by decide)]
      rw [mset_e] at b
      by_cases c : i = M 66 89
      · rw [c, mset_e, hd, h2]
        unfold oct
        rw [if_neg (by omega)]
        congr 1
        omega
      · rw [mset_k c]
        exact h3 i a (by omega))
    show ((0 ≤ v ∧ v < 6) ∧ nX12_writes M ∧ nlX12_image_56 k (v + 1) (fmX12_writes M (M 92 v))) ∧ lX12_image_56 k (v + 1) (fmX12_writes M (M 92 v)) = _ ∧ lmX12_image_56 k (v + 1) (fmX12_writes M (M 92 v)) 66 89 = _ ∧ (∀ i, 0 ≤ i → i < ilen H → lmX12_image_56 k (v + 1) (fmX12_writes M (M 92 v)) 125 i = oct H i) ∧ lmX12_image_56 k (v + 1) (fmX12_writes M (M 92 v)) 125 (ilen H) = _ ∧ (∀ j, j ≠ 89 → lmX12_image_56 k (v + 1) (fmX12_writes M (M 92 v)) 66 j = M 66 j)
    rw [e2]
    refine ⟨⟨⟨h0, by omega⟩, by unfold nX12_writes; omega, this.1⟩, this.2.1, this.2.2.1, this.2.2.2.1, this.2.2.2.2.1, fun j hj => ?_⟩
    rw [this.2.2.2.2.2 j hj]
    simp [ms, hj]
theorem img_p {H : Hal} (ho : Hok H) : ∀ (k : Nat) (v : Int) (M : Mem), Rh H M → 0 ≤ v → v + k = H 0 4 → M 66 89 = 3 * v → (∀ i, 0 ≤ i → i < M 66 89 → M 125 i = oct H i) →
    nlX12_image_7 k v M ∧ lX12_image_7 k v M = ilen H + 1 ∧ lmX12_image_7 k v M 66 89 = ilen H + 1 ∧ (∀ i, 0 ≤ i → i < ilen H → lmX12_image_7 k v M 125 i = oct H i) ∧ lmX12_image_7 k v M 125 (ilen H) = chk (oct H) (ilen H).toNat ∧ (∀ j, j ≠ 89 → lmX12_image_7 k v M 66 j = M 66 j) := by
  have hb := ho.2.1
  intro k
  induction k with
  | zero =>
    intro v M hr h0 h1 h2 h3
    have := img_d ho (H 0 2).toNat 0 M hr (by omega) (by omega) (by omega) h3
    show nlX12_image_56 (fX12_doorMany M - 0).toNat 0 M ∧ lX12_image_56 (fX12_doorMany M - 0).toNat 0 M = _ ∧ lmX12_image_56 (fX12_doorMany M - 0).toNat 0 M 66 89 = _ ∧ (∀ i, 0 ≤ i → i < ilen H → lmX12_image_56 (fX12_doorMany M - 0).toNat 0 M 125 i = oct H i) ∧ lmX12_image_56 (fX12_doorMany M - 0).toNat 0 M 125 (ilen H) = _ ∧ (∀ j, j ≠ 89 → lmX12_image_56 (fX12_doorMany M - 0).toNat 0 M 66 j = M 66 j)
    rw [dMany hr, Int.sub_zero]
    exact this
  | succ k ih =>
    intro v M hr h0 h1 h2 h3
    have r5 := hr.2.2.2.2.1 v h0 (by omega)
    have o5 := ho.2.2.2.2.2.2.1 v h0 (by omega)
    have x1 : wr32 (60 + fX12_personOf M v 1) = H 8 v := by
      rw [(pOf h0 (by omega) (by omega) (by omega : (1 : Int) < 18)).1, r5.2.1, wr32_id (by unfold r32; omega)]
      omega
    have e1 : fmX12_writes M (H 8 v) = mset (mset M 125 (3 * v) (H 8 v)) 66 89 (3 * v + 1) := by rw [wrts (by omega) (by omega), h2]
    obtain ⟨M1, eM1⟩ : ∃ m : Mem, m = mset (mset M 125 (3 * v) (H 8 v)) 66 89 (3 * v + 1) := ⟨_, rfl⟩
    have r1 : Rh H M1 := by rw [eM1]; exact Rh_wr hr _ _ _
    have n1 : M1 66 89 = 3 * v + 1 := by rw [eM1, mset_e]
    have x2 : fX12_personOf M1 v 2 = H 9 v := by
      rw [(pOf h0 (by omega) (by omega) (by omega : (2 : Int) < 18)).1]
      exact (r1.2.2.2.2.1 v h0 (by omega)).2.2.1
    have e2 : fmX12_writes M1 (H 9 v) = mset (mset M1 125 (3 * v + 1) (H 9 v)) 66 89 (3 * v + 1 + 1) := by rw [wrts (by omega) (by omega), n1]
    obtain ⟨M2, eM2⟩ : ∃ m : Mem, m = mset (mset M1 125 (3 * v + 1) (H 9 v)) 66 89 (3 * v + 1 + 1) := ⟨_, rfl⟩
    have r2 : Rh H M2 := by rw [eM2]; exact Rh_wr r1 _ _ _
    have n2 : M2 66 89 = 3 * v + 2 := by rw [eM2, mset_e]; omega
    have x3 : fX12_personOf M2 v 0 = H 7 v := by
      rw [(pOf h0 (by omega) (by omega) (by omega : (0 : Int) < 18)).1]
      simpa using (r2.2.2.2.2.1 v h0 (by omega)).1
    have e3 : fmX12_writes M2 (H 7 v) = mset (mset M2 125 (3 * v + 2) (H 7 v)) 66 89 (3 * v + 2 + 1) := by rw [wrts (by omega) (by omega), n2]
    obtain ⟨M3, eM3⟩ : ∃ m : Mem, m = mset (mset M2 125 (3 * v + 2) (H 7 v)) 66 89 (3 * v + 2 + 1) := ⟨_, rfl⟩
    have r3 : Rh H M3 := by rw [eM3]; exact Rh_wr r2 _ _ _
    have n3 : M3 66 89 = 3 * (v + 1) := by rw [eM3, mset_e]; omega
    have o3 : ∀ i, 0 ≤ i → i < M3 66 89 → M3 125 i = oct H i := by
      intro i a b
      rw [n3] at b
      have oc : ∀ r : Int, 0 ≤ r → r < 3 → oct H (3 * v + r) = if r = 0 then H 8 v else if r = 1 then H 9 v else H 7 v := by
        intro r r0 r1
        unfold oct
        rw [if_pos (by omega), show (3 * v + r) % 3 = r by omega, show (3 * v + r) / 3 = v by omega]
      by_cases c2 : i = 3 * v + 2
      · rw [c2, oc 2 (by omega) (by omega), eM3, mset_o (by decide), mset_e]
        simp
      by_cases c1 : i = 3 * v + 1
      · rw [c1, oc 1 (by omega) (by omega), eM3, mset_o (by decide), mset_k (by omega), eM2, mset_o (by decide), mset_e]
        simp
      by_cases c0 : i = 3 * v
      · have := oc 0 (by omega) (by omega)
        rw [Int.add_zero] at this
        rw [c0, this, eM3, mset_o (by decide), mset_k (by omega), eM2, mset_o (by decide), mset_k (by omega), eM1, mset_o (by decide), mset_e]
        simp
      rw [eM3, mset_o (by decide), mset_k (by omega), eM2, mset_o (by decide), mset_k (by omega), eM1, mset_o (by decide), mset_k (by omega)]
      exact h3 i a (by omega)
    have := ih (v + 1) M3 r3 (by omega) (by omega) n3 o3
    have big : ∀ A : Mem, A = fmX12_writes (fmX12_writes (fmX12_writes M (wr32 (60 + (fX12_personOf M v 1)))) (fX12_personOf (fmX12_writes M (wr32 (60 + (fX12_personOf M v 1)))) v 2)) (fX12_personOf (fmX12_writes (fmX12_writes M (wr32 (60 + (fX12_personOf M v 1)))) (fX12_personOf (fmX12_writes M (wr32 (60 + (fX12_personOf M v 1)))) v 2)) v 0) → A = M3 := by
      intro A hA
      rw [hA, x1, e1, ← eM1, x2, e2, ← eM2, x3, e3, ← eM3]
    have b3 := big _ rfl
    show (nX12_personOf v 1 ∧ nX12_writes M ∧ nX12_personOf v 2 ∧ nX12_writes (fmX12_writes M (wr32 (60 + (fX12_personOf M v 1)))) ∧ nX12_personOf v 0 ∧ nX12_writes (fmX12_writes (fmX12_writes M (wr32 (60 + (fX12_personOf M v 1)))) (fX12_personOf (fmX12_writes M (wr32 (60 + (fX12_personOf M v 1)))) v 2)) ∧ nlX12_image_7 k (v + 1) (fmX12_writes (fmX12_writes (fmX12_writes M (wr32 (60 + (fX12_personOf M v 1)))) (fX12_personOf (fmX12_writes M (wr32 (60 + (fX12_personOf M v 1)))) v 2)) (fX12_personOf (fmX12_writes (fmX12_writes M (wr32 (60 + (fX12_personOf M v 1)))) (fX12_personOf (fmX12_writes M (wr32 (60 + (fX12_personOf M v 1)))) v 2)) v 0))) ∧ lX12_image_7 k (v + 1) (fmX12_writes (fmX12_writes (fmX12_writes M (wr32 (60 + (fX12_personOf M v 1)))) (fX12_personOf (fmX12_writes M (wr32 (60 + (fX12_personOf M v 1)))) v 2)) (fX12_personOf (fmX12_writes (fmX12_writes M (wr32 (60 + (fX12_personOf M v 1)))) (fX12_personOf (fmX12_writes M (wr32 (60 + (fX12_personOf M v 1)))) v 2)) v 0)) = _ ∧ _
    have s : lmX12_image_7 (k + 1) v M = lmX12_image_7 k (v + 1) M3 := by
      rw [← b3]
      rfl
    rw [s, b3, x1, e1, ← eM1, x2, e2, ← eM2]
    refine ⟨⟨nPOf h0 (by omega) (by omega) (by omega), by unfold nX12_writes; omega, nPOf h0 (by omega) (by omega) (by omega), by unfold nX12_writes; omega, nPOf h0 (by omega) (by omega) (by omega), by unfold nX12_writes; omega, this.1⟩, this.2.1, this.2.2.1, this.2.2.2.1, this.2.2.2.2.1, fun j hj => ?_⟩
    rw [this.2.2.2.2.2 j hj, eM3, eM2, eM1]
    simp [ms, hj]
theorem inv_image : ∀ E, Two_image E Inv := by
  intro E
  refine two_image (fun M hI _ => ?_)
  obtain ⟨h, H, hG, hok, hc, hr, hT, hF, hK, hC, hS, hO, hA, hW⟩ := hI
  have hh := hG.2.2.2
  have hb := hok.2.1
  have hl : 0 ≤ ilen H ∧ ilen H ≤ 33 := by unfold ilen; omega
  refine ⟨h, hG, ?_⟩
  unfold PX11_image fX11_image fmX11_image
  have c0 : Ch h H (mset M 0 9 (ilen H + 1)) := Ch_put hh hc _ _ (by omega)
  obtain ⟨M1, eM1⟩ : ∃ m : Mem, m = fmX1_writeImage (mset M 0 9 (fX1_imageLength M h)) h 31 34 := ⟨_, rfl⟩
  rw [← eM1]
  rw [imlen hok hc] at eM1
  have w := wri_c hh hok (ilen H).toNat 0 _ c0 (by omega) (by omega)
  have eM1' : M1 = lmX1_writeImage_14 h 31 34 (ilen H).toNat (ilen H) (chk (oct H) (0 : Int).toNat) 0 (mset M 0 9 (ilen H + 1)) := by
    rw [eM1]
    unfold fmX1_writeImage
    rw [imlen hok c0, show wr32 (ilen H + 1 - 1) = ilen H from by rw [wr32_id (by unfold r32; omega)]; omega, Int.sub_zero]
    rfl
  rw [← eM1'] at w
  have f1 : ∀ q, q ≠ 31 → M1 q = mset M 0 9 (ilen H + 1) q := by
    intro q hq
    rw [eM1]
    exact frX1_writeImage hq
  have hE1 : ∀ q, q ∉ ([0, 31] : List Int) → M1 q = M q := by
    intro q hq
    simp only [List.mem_cons, List.mem_nil_iff, or_false, not_or] at hq
    rw [f1 q hq.2, mset_p hq.1]
  have v9 : M1 0 9 = ilen H + 1 := by rw [f1 0 (by decide), mset_e]
  have r1 : Rh H M1 := Rh_fr (hEq h M M1 hh _ hE1 (by simp) (by rw [hE1 66 (by simp)]) (by rw [hE1 66 (by simp)])) hr
  intro _
  unfold PX12_image nX12_image fX12_image fmX12_image
  have r2 : Rh H (mset M1 66 89 0) := by
    refine Rh_fr (g := 32) (M := M1) ⟨fun q a b => mset_p (by omega), by simp [ms], by simp [ms], fun q a b => mset_p (by omega)⟩ r1
  have p := img_p hok (H 0 4).toNat 0 (mset M1 66 89 0) r2 (by omega) (by omega) (by rw [mset_e]; rfl) (fun i a b => by rw [mset_e] at b; omega)
  rw [pMany r2, Int.sub_zero]
  refine ⟨p.1, ?_⟩
  intro hG2
  rw [p.2.1, v9]
  refine ⟨rfl, h, H, hG2, ?_⟩
  have fr2 : ∀ q, q ≠ 125 → q ≠ 66 → fmX12_image M1 q = M1 q := fun q a b => frX12_image (by first | exact a | exact b) (by first | exact a | exact b)
  have fr3 : fmX12_image M1 = lmX12_image_7 (H 0 4).toNat 0 (mset M1 66 89 0) := by
    unfold fmX12_image
    rw [pMany r2, Int.sub_zero]
  rw [← fr3]
  rw [← fr3] at p
  obtain ⟨M2, eM2⟩ : ∃ m : Mem, m = fmX12_image M1 := ⟨_, rfl⟩
  rw [← eM2] at fr2 p ⊢
  have hE : ∀ q, q ∉ ([0, 31, 66, 125] : List Int) → M2 q = M q := by
    intro q hq
    simp only [List.mem_cons, List.mem_nil_iff, or_false, not_or] at hq
    rw [fr2 q hq.2.2.2 hq.2.2.1, hE1 q (by simp [hq.1, hq.2.1])]
  have x66 : ∀ j, j ≠ 89 → M2 66 j = M 66 j := by
    intro j hj
    rw [p.2.2.2.2.2 j hj, mset_k hj, hE1 66 (by simp)]
  have x0 : ∀ j, j ≠ 9 → M2 0 j = M 0 j := by
    intro j hj
    rw [fr2 0 (by decide) (by decide), f1 0 (by decide), mset_k hj]
  have eH := hEq h M M2 hh _ hE (by simp) (x66 _ (by decide)) (x66 _ (by decide))
  have eC : eqC M M2 := ⟨x66 _ (by decide), x0 _ (by decide)⟩
  refine ⟨hok, Ch_fr eH hc, Rh_fr eH hr, iT_fr ⟨by rw [hE 1 (by simp)], hE 2 (by simp), x66 _ (by decide), hE 67 (by simp)⟩ hT, iF_fr ⟨x66 _ (by decide), x66 _ (by decide), x0 _ (by decide), x0 _ (by decide)⟩ hF, iK_fr (eqK_of _ hE (by simp)) hK, iC_fr eC hC, iS_fr ⟨x66 _ (by decide), x0 _ (by decide)⟩ hS, ?_, iA_fr ⟨by rw [hE 27 (by simp)], hE 28 (by simp), hE 29 (by simp), hE 30 (by simp), x66 _ (by decide), x66 _ (by decide), hE 100 (by simp)⟩ hA, iW_fr eH eC ⟨x0 _ (by decide), x0 _ (by decide), hE 10 (by simp), hE 11 (by simp), fun q a b => hE q (by simp; omega)⟩ hW⟩
  have y9 : M2 0 9 = ilen H + 1 := by rw [fr2 0 (by decide) (by decide), v9]
  have y31 : ∀ i, M2 31 i = M1 31 i := fun i => by rw [fr2 31 (by decide) (by decide)]
  refine ⟨by rw [p.2.2.1, y9], by omega, by omega, fun k k0 k1 => ?_⟩
  rw [y9] at k1
  rw [y31]
  by_cases c : k = ilen H
  · rw [c, w.2.2, p.2.2.2.2.1]
  · rw [w.2.1 k k0 (by omega), p.2.2.2.1 k k0 (by omega)]
