/-! images -/
def oct (H : Hal) (i : Int) : Int := if i < 3 * H 0 4 then (if i % 3 = 0 then H 8 (i / 3) else if i % 3 = 1 then H 9 (i / 3) else H 7 (i / 3)) else H 3 (i - 3 * H 0 4)
def chk (f : Int → Int) : Nat → Int
  | 0 => 151
  | n + 1 => (3 * chk f n + f n) % 253
theorem chk_b (f : Int → Int) : ∀ n, 0 ≤ chk f n ∧ chk f n < 253
  | 0 => (show 0 ≤ (151 : Int) ∧ (151 : Int) < 253 by decide)
  | n + 1 => by
    show 0 ≤ (3 * chk f n + f n) % 253 ∧ (3 * chk f n + f n) % 253 < 253
    omega
theorem chk_c {f g : Int → Int} : ∀ n : Nat, (∀ i : Int, 0 ≤ i → i < n → f i = g i) → chk f n = chk g n
  | 0, _ => rfl
  | n + 1, h => by
    show (3 * chk f n + f n) % 253 = (3 * chk g n + g n) % 253
    rw [chk_c n (fun i a b => h i a (by omega)), h n (by omega) (by omega)]
def ilen (H : Hal) : Int := 3 * H 0 4 + H 0 2
theorem oct_b {H : Hal} (ho : Hok H) {i : Int} (h0 : 0 ≤ i) (h1 : i < ilen H) : 0 ≤ oct H i ∧ oct H i ≤ 120 := by
  have hb := ho.2.1
  have hc := hcells ho
  unfold ilen at h1
  unfold oct
  by_cases a : i < 3 * H 0 4
  · rw [if_pos a]
    have p7 := ho.2.2.2.2.2.2.1 (i / 3) (by omega) (by omega)
    have p0 := p7.1
    unfold fre at p0
    by_cases b : i % 3 = 0
    · rw [if_pos b]; omega
    · rw [if_neg b]
      by_cases c : i % 3 = 1
      · rw [if_pos c]; omega
      · rw [if_neg c]; omega
  · rw [if_neg a]
    have := (ho.2.2.2.1 (i - 3 * H 0 4) (by omega) (by omega)).2
    omega
theorem imlen {g : Int} {H : Hal} {M : Mem} (ho : Hok H) (hc : Ch g H M) : fX1_imageLength M g = ilen H + 1 := by
  have hb := ho.2.1
  unfold fX1_imageLength ilen
  rw [hc.1.2.2.2.2.1, hc.1.2.2.1, wr32_id (x := 3 * H 0 4) (by unfold r32; omega), wr32_id (x := 3 * H 0 4 + H 0 2) (by unfold r32; omega), wr32_id (by unfold r32; omega)]
theorem rowOf0 (g : Int) : fX4_rowOf g 0 = g + 4 := by unfold fX4_rowOf; simp
theorem rowOf1 (g : Int) : fX4_rowOf g 1 = g + 5 := by unfold fX4_rowOf; simp
theorem rowOf2 (g : Int) : fX4_rowOf g 2 = g + 3 := by unfold fX4_rowOf; simp
theorem valueOf_eq {g : Int} {H : Hal} {M : Mem} (ho : Hok H) (hc : Ch g H M) {p k : Int} (h0 : 0 ≤ p) (h1 : p < H 0 4) : fX4_valueOf M g p k = if k = 0 then H 8 p else if k = 1 then H 9 p else H 7 p := by
  have hb := ho.2.1
  have c5 := hc.2.2.2.2.1 p h0 h1
  unfold fX4_valueOf fX4_rowOf
  by_cases a : k = 0
  · simp only [if_pos a]
    rw [rd_get h0 (by omega), c5.2.1]
  · by_cases b : k = 1
    · simp only [if_neg a, if_pos b]
      rw [rd_get h0 (by omega), c5.2.2.1]
    · simp only [if_neg a, if_neg b]
      rw [rd_get h0 (by omega), c5.1]
theorem oct_c {g : Int} {H : Hal} {M : Mem} (ho : Hok H) (hc : Ch g H M) {v : Int} (h0 : 0 ≤ v) (h1 : v < ilen H) : (if (M (g + 1) 8) ≤ (wr32 (Int.tdiv v 3)) then (fX11_get M (g + 11) 6 (wr32 (v - (wr32 (3 * (M (g + 1) 8)))))) else (fX4_valueOf M g (wr32 (Int.tdiv v 3)) (Int.tmod v 3))) = oct H v := by
  have hb := ho.2.1
  unfold ilen at h1
  rw [hc.1.2.2.2.2.1, Int.tdiv_eq_ediv_of_nonneg h0, Int.tmod_eq_emod_of_nonneg h0, wr32_id (x := 3 * H 0 4) (by unfold r32; omega), wr32_id (x := v / 3) (by unfold r32; omega), wr32_id (x := v - 3 * H 0 4) (by unfold r32; omega)]
  unfold oct
  by_cases a : v < 3 * H 0 4
  · rw [if_neg (by omega), if_pos a, valueOf_eq ho hc (by omega) (by omega)]
  · rw [if_pos (by omega), if_neg a, rd_get (by omega) (by omega), (hc.2.2.1 _ (by omega) (by omega)).2]
theorem chkW {c o : Int} (h0 : 0 ≤ c) (h1 : c < 253) (h2 : 0 ≤ o) (h3 : o ≤ 255) : fX1_checkWith c o = (3 * c + o) % 253 := by
  unfold fX1_checkWith
  rw [wr32_id (x := 3 * c) (by unfold r32; omega), wr32_id (by unfold r32; omega), Int.tmod_eq_emod_of_nonneg (by omega)]
theorem Ch_put {g : Int} {H : Hal} {M : Mem} (hg : isG g) (hc : Ch g H M) {x : Int} (i y : Int) (hx : x < 32 ∨ 65 < x) : Ch g H (mset M x i y) := by
  unfold Ch
  have e : ∀ q, 32 ≤ q → q ≤ 65 → mset M x i y q = M q := fun q a b => mset_p (by omega)
  have hb : 32 ≤ g ∧ g ≤ 49 := by rcases hg with rfl | rfl <;> decide
  rw [e g (by omega) (by omega), e (g + 1) (by omega) (by omega), e (g + 2) (by omega) (by omega), e (g + 3) (by omega) (by omega), e (g + 4) (by omega) (by omega), e (g + 5) (by omega) (by omega), e (g + 6) (by omega) (by omega), e (g + 7) (by omega) (by omega), e (g + 8) (by omega) (by omega), e (g + 9) (by omega) (by omega), e (g + 10) (by omega) (by omega), e (g + 11) (by omega) (by omega), e (g + 12) (by omega) (by omega), e (g + 13) (by omega) (by omega), e (g + 14) (by omega) (by omega), e (g + 15) (by omega) (by omega)]
  exact hc
theorem rd_put {M : Mem} {p i y : Int} {n : Nat} (h0 : 0 ≤ i) (h1 : i < n) : fmX11_put M p n i y = mset M p i y := by
  unfold fmX11_put
  rw [if_neg (by omega), if_neg (by omega)]
theorem wri_c {g : Int} {H : Hal} (hg : isG g) (ho : Hok H) : ∀ (k : Nat) (v : Int) (M : Mem), Ch g H M → 0 ≤ v → v + k = ilen H →
    (∀ i, i < v → lmX1_writeImage_14 g 31 34 k (ilen H) (chk (oct H) v.toNat) v M 31 i = M 31 i) ∧ (∀ i, v ≤ i → i < ilen H → lmX1_writeImage_14 g 31 34 k (ilen H) (chk (oct H) v.toNat) v M 31 i = oct H i) ∧ lmX1_writeImage_14 g 31 34 k (ilen H) (chk (oct H) v.toNat) v M 31 (ilen H) = chk (oct H) (ilen H).toNat := by
  have hb := ho.2.1
  have hl : ilen H ≤ 33 := by unfold ilen; omega
  intro k
  induction k with
  | zero =>
    intro v M hc h0 h1
    have : v = ilen H := by omega
    subst this
    show (∀ i, i < ilen H → fmX11_put M 31 34 (ilen H) (chk (oct H) (ilen H).toNat) 31 i = M 31 i) ∧ (∀ i, ilen H ≤ i → i < ilen H → fmX11_put M 31 34 (ilen H) (chk (oct H) (ilen H).toNat) 31 i = oct H i) ∧ fmX11_put M 31 34 (ilen H) (chk (oct H) (ilen H).toNat) 31 (ilen H) = _
    rw [rd_put h0 (by omega)]
    refine ⟨fun i hi => mset_k (by omega), fun i a b => by omega, mset_e⟩
  | succ k ih =>
    intro v M hc h0 h1
    have o1 := oct_b ho h0 (by omega : v < ilen H)
    have c1 := chk_b (oct H) v.toNat
    have e1 := oct_c ho hc h0 (by omega : v < ilen H)
    have e2 : chk (oct H) (v + 1).toNat = fX1_checkWith (chk (oct H) v.toNat) (oct H v) := by
      have : (v + 1).toNat = v.toNat + 1 := by omega
      rw [this, chkW c1.1 c1.2 o1.1 (by omega)]
      show (3 * chk (oct H) v.toNat + oct H (v.toNat : Int)) % 253 = _
      rw [Int.toNat_of_nonneg h0]
    have := ih (v + 1) (mset M 31 v (oct H v)) (Ch_put hg hc _ _ (by omega)) (by omega) (by omega)
    have e3 : lmX1_writeImage_14 g 31 34 (k + 1) (ilen H) (chk (oct H) v.toNat) v M = lmX1_writeImage_14 g 31 34 k (ilen H) (chk (oct H) (v + 1).toNat) (v + 1) (mset M 31 v (oct H v)) := by
      rw [e2, ← rd_put (n := 34) h0 (by omega), ← e1]
      rfl
    rw [e3]
    refine ⟨fun i hi => (this.1 i (by omega)).trans (mset_k (by omega)), fun i a b => ?_, this.2.2⟩
    by_cases c : i = v
    · rw [c]
      exact (this.1 v (by omega)).trans mset_e
    · exact this.2.1 i (by omega) b
theorem ckd {f : Int → Int} {P : Int} {np : Nat} (hb : ∀ i : Int, 0 ≤ i → i < np → 0 ≤ f i ∧ f i ≤ 255) : ∀ (k : Nat) (n v : Int) (M : Mem), (∀ i, 0 ≤ i → i < v + k → M P i = f i) → 0 ≤ v → v + k ≤ np →
    lX12_checked_6 P np k n (chk f v.toNat) v M = chk f (v.toNat + k) ∧ nlX12_checked_6 P np k n (chk f v.toNat) v M := by
  intro k
  induction k with
  | zero => exact fun n v M _ _ _ => ⟨rfl, trivial⟩
  | succ k ih =>
    intro n v M hM h0 h1
    have c1 := chk_b f v.toNat
    have b1 := hb v h0 (by omega)
    have e2 : Int.tmod (wr32 (wr32 (3 * chk f v.toNat) + M P v)) 253 = chk f (v + 1).toNat := by
      have : (v + 1).toNat = v.toNat + 1 := by omega
      rw [this, hM v h0 (by omega), wr32_id (x := 3 * chk f v.toNat) (by unfold r32; omega), wr32_id (by unfold r32; omega), Int.tmod_eq_emod_of_nonneg (by omega)]
      show _ = (3 * chk f v.toNat + f (v.toNat : Int)) % 253
      rw [Int.toNat_of_nonneg h0]
    have := ih n (v + 1) M (fun i a b => hM i a (by omega)) (by omega) (by omega)
    have e4 : (v + 1).toNat + k = v.toNat + (k + 1) := by omega
    rw [e4] at this
    show lX12_checked_6 P np k n (Int.tmod (wr32 (wr32 (3 * chk f v.toNat) + M P v)) 253) (v + 1) M = _ ∧ ((0 ≤ v ∧ v < (np : Int)) ∧ nlX12_checked_6 P np k n (Int.tmod (wr32 (wr32 (3 * chk f v.toNat) + M P v)) 253) (v + 1) M)
    rw [e2]
    exact ⟨this.1, ⟨h0, by omega⟩, this.2⟩
theorem wrts {M : Mem} {x : Int} (h : 0 ≤ M 66 89) (h1 : M 66 89 < 34) : fmX12_writes M x = mset (mset M 125 (M 66 89) x) 66 89 (M 66 89 + 1) := by
  unfold fmX12_writes
  have : mset M 125 (M 66 89) x 66 89 = M 66 89 := by simp [ms]
  rw [this, wr32_id (by unfold r32; omega)]
theorem Rh_wr {H : Hal} {M : Mem} (hr : Rh H M) (i x y : Int) : Rh H (mset (mset M 125 i x) 66 89 y) := by
  refine Rh_fr (g := 32) (M := M) ⟨fun q a b => ?_, by simp [ms], by simp [ms], fun q a b => ?_⟩ hr
  · rw [mset_p (by omega), mset_p (by omega)]
  · rw [mset_p (by omega), mset_p (by omega)]
theorem img_d {H : Hal} (ho : Hok H) : ∀ (k : Nat) (v : Int) (M : Mem), Rh H M → 0 ≤ v → v + k = H 0 2 → M 66 89 = 3 * H 0 4 + v → (∀ i, 0 ≤ i → i < M 66 89 → M 125 i = oct H i) →
    nlX12_image_56 k v M ∧ lX12_image_56 k v M = ilen H + 1 ∧ lmX12_image_56 k v M 66 89 = ilen H + 1 ∧ (∀ i, 0 ≤ i → i < ilen H → lmX12_image_56 k v M 125 i = oct H i) ∧ lmX12_image_56 k v M 125 (ilen H) = chk (oct H) (ilen H).toNat ∧ (∀ j, j ≠ 89 → lmX12_image_56 k v M 66 j = M 66 j) := by
  have hb := ho.2.1
  intro k
  induction k with
  | zero =>
    intro v M hr h0 h1 h2 h3
    have hn : M 66 89 = ilen H := by unfold ilen; omega
    have hl : 0 ≤ ilen H ∧ ilen H ≤ 33 := by unfold ilen; omega
    obtain ⟨f, hf⟩ : ∃ f : Int → Int, f = fun i => if 0 ≤ i ∧ i < ilen H then oct H i else 0 := ⟨_, rfl⟩
    have hfb : ∀ i : Int, 0 ≤ i → i < (34 : Nat) → 0 ≤ f i ∧ f i ≤ 255 := by
      intro i a b
      rw [hf]
      by_cases c : 0 ≤ i ∧ i < ilen H
      · have := oct_b ho c.1 c.2
        simp only [if_pos c]
        omega
      · simp only [if_neg c]
        omega
    have ck := ckd (P := 125) hfb (ilen H).toNat (M 66 89) 0 M (fun i a b => by rw [h3 i a (by omega), hf]; simp only [if_pos (show 0 ≤ i ∧ i < ilen H by omega)]) (by omega) (by omega)
    have e1 : fX12_checked M 125 34 (M 66 89) = chk (oct H) (ilen H).toNat := by
      unfold fX12_checked
      rw [hn]
      rw [hn] at ck
      have := ck.1
      simp only [Int.sub_zero]
      rw [show chk f (0 : Int).toNat = 151 from rfl] at this
      rw [this, show (0 : Int).toNat + (ilen H).toNat = (ilen H).toNat from Nat.zero_add _]
      refine chk_c _ (fun i a b => ?_)
      rw [hf]
      simp only [if_pos (show 0 ≤ i ∧ i < ilen H by omega)]
    have e2 : fmX12_writes M (chk (oct H) (ilen H).toNat) = mset (mset M 125 (ilen H) (chk (oct H) (ilen H).toNat)) 66 89 (ilen H + 1) := by
      rw [wrts (by omega) (by omega), hn]
    show (nX12_checked M 125 34 (M 66 89) ∧ nX12_writes M) ∧ (fmX12_writes M (fX12_checked M 125 34 (M 66 89))) 66 89 = _ ∧ (fmX12_writes M (fX12_checked M 125 34 (M 66 89))) 66 89 = _ ∧ (∀ i, 0 ≤ i → i < ilen H → (fmX12_writes M (fX12_checked M 125 34 (M 66 89))) 125 i = oct H i) ∧ (fmX12_writes M (fX12_checked M 125 34 (M 66 89))) 125 (ilen H) = _ ∧ (∀ j, j ≠ 89 → (fmX12_writes M (fX12_checked M 125 34 (M 66 89))) 66 j = M 66 j)
    rw [e1, e2]
    refine ⟨⟨?_, ?_⟩, by simp [ms], by simp [ms], fun i a b => ?_, by simp [ms], fun j hj => by simp [ms, hj]⟩
    · unfold nX12_checked
      rw [hn]
      rw [hn] at ck
      have ck2 := ck.2
      rw [show chk f (0 : Int).toNat = 151 from rfl] at ck2
      simpa using ck2
    · unfold nX12_writes
      omega
    · rw [mset_o (by decide), mset_k (by omega)]
      exact h3 i a (by omega)
  | succ k ih =>
    intro v M hr h0 h1 h2 h3
    have hd := (hr.2.2.1 v h0 (by omega)).2
    have e2 : fmX12_writes M (M 92 v) = mset (mset M 125 (M 66 89) (M 92 v)) 66 89 (M 66 89 + 1) := wrts (by omega) (by omega)
    have := ih (v + 1) _ (Rh_wr hr (M 66 89) (M 92 v) (M 66 89 + 1)) (by omega) (by omega) (by simp [ms]; omega) (fun i a b => by
      rw [mset_o (by decide)]
      rw [mset_e] at b
      by_cases c : i = M 66 89
      · rw [c, mset_e, hd, h2]
        unfold oct
        rw [if_neg (by omega)]
        congr 1
        omega
      · rw [mset_k c]
        exact h3 i a (by omega))
    show ((0 ≤ v ∧ v < 6) ∧ nX12_writes M ∧ nlX12_image_56 k (v + 1) (fmX12_writes M (M 92 v))) ∧ lX12_image_56 k (v + 1) (fmX12_writes M (M 92 v)) = _ ∧ lmX12_image_56 k (v + 1) (fmX12_writes M (M 92 v)) 66 89 = _ ∧ (∀ i, 0 ≤ i → i < ilen H → lmX12_image_56 k (v + 1) (fmX12_writes M (M 92 v)) 125 i = oct H i) ∧ lmX12_image_56 k (v + 1) (fmX12_writes M (M 92 v)) 125 (ilen H) = _ ∧ (∀ j, j ≠ 89 → lmX12_image_56 k (v + 1) (fmX12_writes M (M 92 v)) 66 j = M 66 j)
    rw [e2]
    refine ⟨⟨⟨h0, by omega⟩, by unfold nX12_writes; omega, this.1⟩, this.2.1, this.2.2.1, this.2.2.2.1, this.2.2.2.2.1, fun j hj => ?_⟩
    rw [this.2.2.2.2.2 j hj]
    simp [ms, hj]
