/-! the text of a hall: what a statement makes -/
section
variable {H : Hal} {w g : Int} {M M' : Mem}
theorem uW_o {c : Int} {f : Nat} (h : f ≠ 1) : uW H c f = H f := by
  funext i
  unfold uW
  rw [if_neg (fun z => h z.1)]
theorem uW_1 {c i : Int} : uW H c 1 i = if i = c then 1 else H 1 i := by
  unfold uW
  by_cases z : i = c
  · rw [if_pos ⟨rfl, z⟩, if_pos z]
  · rw [if_neg (fun y => z y.2), if_neg z]
theorem fre_o {H' : Hal} (h0 : H' 0 0 = H 0 0) (h1 : H' 0 1 = H 0 1) {c : Int} (e : H' 1 c = H 1 c) : fre H' c ↔ fre H c := by
  unfold fre
  rw [h0, h1, e]
theorem mst_1 {c : Int} (h : mst H 1 c = true) : dat H c = -1 ∧ smb H c = false := by
  unfold mst at h
  rw [if_pos rfl, Bool.and_eq_true] at h
  refine ⟨of_decide_eq_true h.1, ?_⟩
  cases z : smb H c with
  | false => rfl
  | true => rw [z] at h; exact absurd h.2 (by decide)
theorem mst_2 {c : Int} (h : mst H 2 c = true) : dat H c = -1 ∧ H 1 c = 0 := by
  unfold mst at h
  rw [if_neg (by decide), if_pos rfl, Bool.and_eq_true] at h
  exact ⟨of_decide_eq_true h.1, of_decide_eq_true h.2⟩
theorem mst_3 {k c : Int} (h1 : k ≠ 1) (h2 : k ≠ 2) (h : mst H k c = true) : H 1 c = 0 := by
  unfold mst at h
  rw [if_neg h1, if_neg h2] at h
  exact of_decide_eq_true h
theorem dat_n (ho : Hok H) {c : Int} (h : dat H c = -1) : ∀ k, 0 ≤ k → k < H 0 2 → H 2 k ≠ c := by
  have hb := ho.2.1
  intro k a d
  exact of_decide_eq_false ((fst1_ff (f := fun k => decide (H 2 k = c)) (H 0 2).toNat 0 (by omega)).mp h k a (by omega))
theorem smb_n (ho : Hok H) {c : Int} (h : smb H c = false) : (∀ p, 0 ≤ p → p < H 0 4 → H 7 p ≠ c) ∧ (∀ k, 0 ≤ k → k < H 0 3 → H 4 k ≠ c) := by
  have hb := ho.2.1
  unfold smb at h
  rw [Bool.or_eq_false_iff] at h
  have h1 := of_decide_eq_false h.1
  have h2 := of_decide_eq_false h.2
  have e1 : fst1 (fun p => decide (H 7 p = c)) 0 (H 0 4).toNat = -1 := Classical.byContradiction h1
  have e2 : fst1 (fun g => decide (H 4 g = c)) 0 (H 0 3).toNat = -1 := Classical.byContradiction h2
  refine ⟨fun p a d => ?_, fun k a d => ?_⟩
  · exact of_decide_eq_false ((fst1_ff (f := fun p => decide (H 7 p = c)) (H 0 4).toNat 0 (by omega)).mp e1 p a (by omega))
  · exact of_decide_eq_false ((fst1_ff (f := fun g => decide (H 4 g = c)) (H 0 3).toNat 0 (by omega)).mp e2 k a (by omega))
theorem uW_ok (hd : DOK H w) (hw : w < 15) {c : Int} (c0 : 0 ≤ c ∧ c < H 0 0 * H 0 1) (hm : mst H 1 c = true) : DOK (uW H c) (w + 1) := by
  have m := mst_1 hm
  have dn := dat_n hd.1 m.1
  have sn := smb_n hd.1 m.2
  obtain ⟨⟨o1, o2, o3, o4, o5, o6, o7, o8⟩, d1, d2, d3, d4⟩ := hd
  have e0 : uW H c 0 = H 0 := uW_o (by decide)
  have fr : ∀ x, x ≠ c → fre H x → fre (uW H c) x := fun x hx h => by
    refine (fre_o (by rw [e0]) (by rw [e0]) ?_).mpr h
    rw [uW_1, if_neg hx]
  refine ⟨⟨by rw [e0]; exact o1, by rw [e0]; exact o2, fun i a d => ?_, fun k a d => ?_, ?_, fun k a d => ?_, fun p a d => ?_, ?_⟩, by rw [e0]; exact d1, by omega, by omega, ?_⟩
  · rw [uW_1]
    by_cases z : i = c
    · rw [if_pos z]; exact Or.inr rfl
    · rw [if_neg z]; exact o3 i a d
  · rw [e0] at d
    rw [uW_o (f := 2) (by decide), uW_o (f := 3) (by decide)]
    have o := o4 k a d
    exact ⟨fr _ (dn k a d) o.1, o.2⟩
  · rw [e0, uW_o (f := 2) (by decide)]; exact o5
  · rw [e0] at d
    rw [uW_o (f := 4) (by decide), uW_o (f := 5) (by decide), uW_o (f := 6) (by decide), uW_o (f := 15) (by decide), uW_o (f := 16) (by decide)]
    have o := o6 k a d
    exact ⟨fr _ (sn.2 k a d) o.1, o.2⟩
  · rw [e0] at d
    rw [uW_o (f := 7) (by decide), uW_o (f := 8) (by decide), uW_o (f := 9) (by decide), uW_o (f := 10) (by decide), uW_o (f := 11) (by decide), uW_o (f := 12) (by decide), uW_o (f := 14) (by decide), uW_o (f := 16) (by decide)]
    have o := o7 p a d
    exact ⟨fr _ (sn.1 p a d) o.1, o.2⟩
  · rw [e0, uW_o (f := 12) (by decide), uW_o (f := 13) (by decide)]; exact o8
  · rw [e0, uW_o (f := 3) (by decide)]; exact d4
theorem uD_o {c : Int} {f : Nat} (h0 : f ≠ 0) (h2 : f ≠ 2) (h3 : f ≠ 3) : uD H c f = H f := by
  funext i
  unfold uD
  rw [if_neg (fun z => h0 z.1), if_neg (fun z => h2 z.1), if_neg (fun z => h3 z.1)]
theorem uD_0 {c i : Int} : uD H c 0 i = if i = 2 then H 0 2 + 1 else H 0 i := by
  unfold uD
  by_cases z : i = 2
  · rw [if_pos ⟨rfl, z⟩, if_pos z]
  · rw [if_neg (fun y => z y.2), if_neg z, if_neg (fun y => absurd y.1 (by decide)), if_neg (fun y => absurd y.1 (by decide))]
theorem uD_2 {c i : Int} : uD H c 2 i = if i = H 0 2 then c else H 2 i := by
  unfold uD
  rw [if_neg (fun y => absurd y.1 (by decide))]
  by_cases z : i = H 0 2
  · rw [if_pos ⟨rfl, z⟩, if_pos z]
  · rw [if_neg (fun y => z y.2), if_neg z, if_neg (fun y => absurd y.1 (by decide))]
theorem uD_3 {c i : Int} : uD H c 3 i = if i = H 0 2 then 0 else H 3 i := by
  unfold uD
  rw [if_neg (fun y => absurd y.1 (by decide)), if_neg (fun y => absurd y.1 (by decide))]
  by_cases z : i = H 0 2
  · rw [if_pos ⟨rfl, z⟩, if_pos z]
  · rw [if_neg (fun y => z y.2), if_neg z]
theorem uD_ok (hd : DOK H w) (hw : H 0 2 < 6) {c : Int} (c0 : 0 ≤ c ∧ c < H 0 0 * H 0 1) (hm : mst H 2 c = true) : DOK (uD H c) w := by
  have m := mst_2 hm
  have dn := dat_n hd.1 m.1
  obtain ⟨⟨o1, o2, o3, o4, o5, o6, o7, o8⟩, d1, d2, d3, d4⟩ := hd
  have e : ∀ i, i ≠ 2 → uD H c 0 i = H 0 i := fun i hi => by rw [uD_0, if_neg hi]
  have e2 : uD H c 0 2 = H 0 2 + 1 := by rw [uD_0, if_pos rfl]
  have fr : ∀ x, fre (uD H c) x ↔ fre H x := fun x => fre_o (e 0 (by decide)) (e 1 (by decide)) (by rw [uD_o (f := 1) (by decide) (by decide) (by decide)])
  have fc : fre H c := ⟨c0.1, c0.2, m.2⟩
  refine ⟨⟨?_, ?_, ?_, fun k a d => ?_, fun j k a d a' d' => ?_, fun k a d => ?_, fun p a d => ?_, ?_⟩, by rw [e 0 (by decide)]; exact d1, d2, d3, fun k a d => ?_⟩
  · rw [e 0 (by decide), e 1 (by decide), e 3 (by decide), e 4 (by decide), e2]
    rcases o1 with z | z
    · omega
    · exact Or.inr z
  · rw [e 3 (by decide), e 4 (by decide), e 5 (by decide), e 6 (by decide), e 7 (by decide), e 8 (by decide), e2]
    omega
  · rw [uD_o (f := 1) (by decide) (by decide) (by decide)]; exact o3
  · rw [e2] at d
    rw [uD_2, uD_3, fr]
    by_cases z : k = H 0 2
    · rw [if_pos z, if_pos z]; exact ⟨fc, Or.inl rfl⟩
    · rw [if_neg z, if_neg z]; exact o4 k a (by omega)
  · rw [e2] at d d'
    rw [uD_2, uD_2]
    by_cases z : j = H 0 2
    · by_cases y : k = H 0 2
      · intro _; omega
      · rw [if_pos z, if_neg y]
        intro v
        exact absurd v.symm (dn k a' (by omega))
    · by_cases y : k = H 0 2
      · rw [if_neg z, if_pos y]
        intro v
        exact absurd v (dn j a (by omega))
      · rw [if_neg z, if_neg y]
        exact o5 j k a (by omega) a' (by omega)
  · rw [e 3 (by decide)] at d
    rw [fr, uD_o (f := 4) (by decide) (by decide) (by decide), uD_o (f := 5) (by decide) (by decide) (by decide), uD_o (f := 6) (by decide) (by decide) (by decide), uD_o (f := 15) (by decide) (by decide) (by decide), uD_o (f := 16) (by decide) (by decide) (by decide)]
    exact o6 k a d
  · rw [e 4 (by decide)] at d
    rw [fr, uD_o (f := 7) (by decide) (by decide) (by decide), uD_o (f := 8) (by decide) (by decide) (by decide), uD_o (f := 9) (by decide) (by decide) (by decide), uD_o (f := 10) (by decide) (by decide) (by decide), uD_o (f := 11) (by decide) (by decide) (by decide), uD_o (f := 12) (by decide) (by decide) (by decide), uD_o (f := 14) (by decide) (by decide) (by decide), uD_o (f := 16) (by decide) (by decide) (by decide)]
    exact o7 p a d
  · rw [e 4 (by decide), uD_o (f := 12) (by decide) (by decide) (by decide), uD_o (f := 13) (by decide) (by decide) (by decide)]; exact o8
  · rw [e2] at d
    rw [uD_3]
    by_cases z : k = H 0 2
    · rw [if_pos z]
    · rw [if_neg z]; exact d4 k a (by omega)
theorem uR_o {k v : Int} {f : Nat} (h0 : f ≠ 0) : uR H k v f = H f := by
  funext i
  unfold uR
  rw [if_neg (fun z => h0 z.1)]
theorem uR_0 {k v i : Int} : uR H k v 0 i = if i = k then v else H 0 i := by
  unfold uR
  by_cases z : i = k
  · rw [if_pos ⟨rfl, z⟩, if_pos z]
  · rw [if_neg (fun y => z y.2), if_neg z]
theorem uR_ok (hd : DOK H w) {k v : Int} (hk : k = 5 ∨ k = 6 ∨ k = 7 ∨ k = 8) (v0 : 1 ≤ v) (v1 : v ≤ rmx k) : DOK (uR H k v) w := by
  obtain ⟨⟨o1, o2, o3, o4, o5, o6, o7, o8⟩, d1, d2, d3, d4⟩ := hd
  have e : ∀ i, i < 5 → uR H k v 0 i = H 0 i := fun i hi => by rw [uR_0, if_neg (by omega)]
  have fr : ∀ x, fre (uR H k v) x ↔ fre H x := fun x => fre_o (e 0 (by decide)) (e 1 (by decide)) (by rw [uR_o (f := 1) (by decide)])
  refine ⟨⟨?_, ?_, ?_, fun k' a d => ?_, ?_, fun k' a d => ?_, fun p a d => ?_, ?_⟩, by rw [e 0 (by decide)]; exact d1, d2, d3, ?_⟩
  · rw [e 0 (by decide), e 1 (by decide), e 2 (by decide), e 3 (by decide), e 4 (by decide)]; exact o1
  · rw [e 2 (by decide), e 3 (by decide), e 4 (by decide), uR_0, uR_0, uR_0, uR_0]
    unfold rmx at v1
    rcases hk with rfl | rfl | rfl | rfl
    · rw [if_pos rfl] at v1
      rw [if_pos rfl, if_neg (by decide), if_neg (by decide), if_neg (by decide)]
      omega
    · rw [if_neg (by decide), if_pos rfl] at v1
      rw [if_neg (by decide), if_pos rfl, if_neg (by decide), if_neg (by decide)]
      omega
    · rw [if_neg (by decide), if_neg (by decide), if_pos rfl] at v1
      rw [if_neg (by decide), if_neg (by decide), if_pos rfl, if_neg (by decide)]
      omega
    · rw [if_neg (by decide), if_neg (by decide), if_neg (by decide)] at v1
      rw [if_neg (by decide), if_neg (by decide), if_neg (by decide), if_pos rfl]
      omega
  · rw [uR_o (f := 1) (by decide)]; exact o3
  · rw [e 2 (by decide)] at d
    rw [fr, uR_o (f := 2) (by decide), uR_o (f := 3) (by decide)]
    exact o4 k' a d
  · rw [e 2 (by decide), uR_o (f := 2) (by decide)]; exact o5
  · rw [e 3 (by decide)] at d
    rw [fr, uR_o (f := 4) (by decide), uR_o (f := 5) (by decide), uR_o (f := 6) (by decide), uR_o (f := 15) (by decide), uR_o (f := 16) (by decide)]
    exact o6 k' a d
  · rw [e 4 (by decide)] at d
    rw [fr, uR_o (f := 7) (by decide), uR_o (f := 8) (by decide), uR_o (f := 9) (by decide), uR_o (f := 10) (by decide), uR_o (f := 11) (by decide), uR_o (f := 12) (by decide), uR_o (f := 14) (by decide), uR_o (f := 16) (by decide)]
    exact o7 p a d
  · rw [e 4 (by decide), uR_o (f := 12) (by decide), uR_o (f := 13) (by decide)]; exact o8
  · rw [e 2 (by decide), uR_o (f := 3) (by decide)]; exact d4
end
section
variable {H : Hal} {w g : Int} {M M' : Mem} {a a' c s l : Int}
theorem uG_0 {i : Int} (h : i ≠ 3) : uG H a a' c s l 0 i = H 0 i := by
  unfold uG
  simp [h]
theorem uG_03 : uG H a a' c s l 0 3 = H 0 3 + 1 := by
  unfold uG
  simp
theorem uG_4 {i : Int} : uG H a a' c s l 4 i = if i = H 0 3 then c else H 4 i := by unfold uG; simp
theorem uG_5 {i : Int} : uG H a a' c s l 5 i = if i = H 0 3 then s else H 5 i := by unfold uG; simp
theorem uG_6 {i : Int} : uG H a a' c s l 6 i = if i = H 0 3 then l else H 6 i := by unfold uG; simp
theorem uG_15 {i : Int} : uG H a a' c s l 15 i = if i = H 0 3 then a else H 15 i := by unfold uG; simp
theorem uG_16 {i : Int} : uG H a a' c s l 16 i = if i = 10 + H 0 3 then a' else H 16 i := by unfold uG; simp
theorem uG_o {f : Nat} (h0 : f ≠ 0) (h4 : f ≠ 4) (h5 : f ≠ 5) (h6 : f ≠ 6) (h15 : f ≠ 15) (h16 : f ≠ 16) : uG H a a' c s l f = H f := by
  funext i
  unfold uG
  simp [h0, h4, h5, h6, h15, h16]
theorem uG_ok (hd : DOK H w) (hw : H 0 3 < 4) (hf : fre H c) (s0 : 1 ≤ s ∧ s ≤ 9) (l0 : 1 ≤ l ∧ l ≤ 20) (hn : nmr a a') : DOK (uG H a a' c s l) w := by
  obtain ⟨⟨o1, o2, o3, o4, o5, o6, o7, o8⟩, d1, d2, d3, d4⟩ := hd
  have u : ∀ f : Nat, (f = 1 ∨ f = 2 ∨ f = 3 ∨ f = 7 ∨ f = 8 ∨ f = 9 ∨ f = 10 ∨ f = 11 ∨ f = 12 ∨ f = 13 ∨ f = 14) → uG H a a' c s l f = H f := fun f hf => uG_o (by omega) (by omega) (by omega) (by omega) (by omega) (by omega)
  have fr : ∀ x, fre (uG H a a' c s l) x ↔ fre H x := fun x => fre_o (uG_0 (by decide)) (uG_0 (by decide)) (by rw [u 1 (by decide)])
  refine ⟨⟨?_, ?_, ?_, fun k' a d => ?_, ?_, fun k' x d => ?_, fun p x d => ?_, ?_⟩, by rw [uG_0 (by decide)]; exact d1, d2, d3, ?_⟩
  · rw [uG_0 (by decide), uG_0 (by decide), uG_0 (by decide), uG_03, uG_0 (by decide)]
    rcases o1 with z | z
    · omega
    · exact Or.inr z
  · rw [uG_0 (by decide), uG_03, uG_0 (by decide), uG_0 (by decide), uG_0 (by decide), uG_0 (by decide), uG_0 (by decide)]
    omega
  · rw [u 1 (by decide)]; exact o3
  · rw [uG_0 (by decide)] at d
    rw [fr, u 2 (by decide), u 3 (by decide)]
    exact o4 k' a d
  · rw [uG_0 (by decide), u 2 (by decide)]; exact o5
  · rw [uG_03] at d
    rw [fr, uG_4, uG_5, uG_6, uG_15, uG_16]
    by_cases z : k' = H 0 3
    · rw [if_pos z, if_pos z, if_pos z, if_pos z, if_pos (by omega)]
      exact ⟨hf, s0.1, s0.2, l0.1, l0.2, hn⟩
    · rw [if_neg z, if_neg z, if_neg z, if_neg z, if_neg (by omega)]
      exact o6 k' x (by omega)
  · rw [uG_0 (by decide)] at d
    rw [fr, u 7 (by decide), u 8 (by decide), u 9 (by decide), u 10 (by decide), u 11 (by decide), u 12 (by decide), u 14 (by decide), uG_16, if_neg (by omega)]
    exact o7 p x d
  · rw [uG_0 (by decide), u 12 (by decide), u 13 (by decide)]; exact o8
  · rw [uG_0 (by decide), u 3 (by decide)]; exact d4
end
section
variable {H : Hal} {w g : Int} {M M' : Mem} {a a' c w' d m q k : Int} {st : Int → Int}
theorem uP_0 {i : Int} (h : i ≠ 4) : uP H a a' c w' d m st q k 0 i = H 0 i := by unfold uP; simp [h]
theorem uP_04 : uP H a a' c w' d m st q k 0 4 = H 0 4 + 1 := by unfold uP; simp
theorem uP_7 {i : Int} : uP H a a' c w' d m st q k 7 i = if i = H 0 4 then c else H 7 i := by unfold uP; simp
theorem uP_8 {i : Int} : uP H a a' c w' d m st q k 8 i = if i = H 0 4 then w' else H 8 i := by unfold uP; simp
theorem uP_9 {i : Int} : uP H a a' c w' d m st q k 9 i = if i = H 0 4 then d else H 9 i := by unfold uP; simp
theorem uP_10 {i : Int} : uP H a a' c w' d m st q k 10 i = if i = H 0 4 then m else H 10 i := by unfold uP; simp
theorem uP_11 {i : Int} : uP H a a' c w' d m st q k 11 i = if i = H 0 4 then k else H 11 i := by unfold uP; simp
theorem uP_12 {i : Int} : uP H a a' c w' d m st q k 12 i = if i = H 0 4 then q else H 12 i := by unfold uP; simp
theorem uP_13 {i : Int} : uP H a a' c w' d m st q k 13 i = if 12 * H 0 4 ≤ i ∧ i < 12 * H 0 4 + 12 then st (i - 12 * H 0 4) else H 13 i := by unfold uP; simp
theorem uP_14 {i : Int} : uP H a a' c w' d m st q k 14 i = if i = H 0 4 then a else H 14 i := by unfold uP; simp
theorem uP_16 {i : Int} : uP H a a' c w' d m st q k 16 i = if i = H 0 4 then a' else H 16 i := by unfold uP; simp
theorem uP_o {f : Nat} (h0 : f ≠ 0) (h : f < 7 ∨ f = 15) : uP H a a' c w' d m st q k f = H f := by
  funext i
  unfold uP
  have h1 : f ≠ 14 ∧ f ≠ 16 ∧ f ≠ 7 ∧ f ≠ 8 ∧ f ≠ 9 ∧ f ≠ 10 ∧ f ≠ 11 ∧ f ≠ 12 ∧ f ≠ 13 := by omega
  simp [h0, h1.1, h1.2.1, h1.2.2.1, h1.2.2.2.1, h1.2.2.2.2.1, h1.2.2.2.2.2.1, h1.2.2.2.2.2.2.1, h1.2.2.2.2.2.2.2.1, h1.2.2.2.2.2.2.2.2]
theorem uP_ok (hd : DOK H w) (hw : H 0 4 < 9) (hf : fre H c) (w0 : 0 ≤ w' ∧ w' ≤ 120) (d0 : 0 ≤ d ∧ d ≤ 9) (m0 : 0 ≤ m ∧ m ≤ 4) (k0 : k = 0 ∨ k = 1) (q0 : 1 ≤ q ∧ q ≤ 12) (hs : ∀ i, 0 ≤ i → i < q → 0 ≤ st i ∧ st i ≤ 4) (hn : nmr a a') : DOK (uP H a a' c w' d m st q k) w := by
  obtain ⟨⟨o1, o2, o3, o4, o5, o6, o7, o8⟩, d1, d2, d3, d4⟩ := hd
  have u : ∀ f : Nat, (f = 1 ∨ f = 2 ∨ f = 3 ∨ f = 4 ∨ f = 5 ∨ f = 6 ∨ f = 15) → uP H a a' c w' d m st q k f = H f := fun f hf => uP_o (by omega) (by omega)
  have fr : ∀ x, fre (uP H a a' c w' d m st q k) x ↔ fre H x := fun x => fre_o (uP_0 (by decide)) (uP_0 (by decide)) (by rw [u 1 (by decide)])
  refine ⟨⟨?_, ?_, ?_, fun k' a d => ?_, ?_, fun k' x d => ?_, fun p x y => ?_, fun p i x y z v => ?_⟩, by rw [uP_0 (by decide)]; exact d1, d2, d3, ?_⟩
  · rw [uP_0 (by decide), uP_0 (by decide), uP_0 (by decide), uP_0 (by decide), uP_04]
    rcases o1 with z | z
    · omega
    · exact Or.inr z
  · rw [uP_0 (by decide), uP_0 (by decide), uP_04, uP_0 (by decide), uP_0 (by decide), uP_0 (by decide), uP_0 (by decide)]
    omega
  · rw [u 1 (by decide)]; exact o3
  · rw [uP_0 (by decide)] at d
    rw [fr, u 2 (by decide), u 3 (by decide)]
    exact o4 k' a d
  · rw [uP_0 (by decide), u 2 (by decide)]; exact o5
  · rw [uP_0 (by decide)] at d
    rw [fr, u 4 (by decide), u 5 (by decide), u 6 (by decide), u 15 (by decide), uP_16, if_neg (by omega)]
    exact o6 k' x d
  · rw [uP_04] at y
    rw [fr, uP_7, uP_8, uP_9, uP_10, uP_11, uP_12, uP_14, uP_16]
    by_cases z : p = H 0 4
    · rw [if_pos z, if_pos z, if_pos z, if_pos z, if_pos z, if_pos z, if_pos z, if_pos z]
      exact ⟨hf, w0.1, w0.2, d0.1, d0.2, m0.1, m0.2, k0, q0.1, q0.2, hn⟩
    · rw [if_neg z, if_neg z, if_neg z, if_neg z, if_neg z, if_neg z, if_neg z, if_neg z]
      exact o7 p x (by omega)
  · rw [uP_04] at y
    rw [uP_12] at v
    rw [uP_13]
    by_cases e : p = H 0 4
    · rw [if_pos e] at v
      rw [if_pos (by omega), show 12 * p + i - 12 * H 0 4 = i by omega]
      exact hs i z v
    · rw [if_neg e] at v
      have o := (o7 p x (by omega)).2.2.2.2.2.2.2.2
      rw [if_neg (by omega)]
      exact o8 p i x (by omega) z v
  · rw [uP_0 (by decide), u 3 (by decide)]; exact d4
end
