/-! the text of a hall: all the statements of the reference -/
section
variable {b : Int → Int} {n p e w : Int} {H : Hal} {M M' : Mem} {Q : Int → Mem → Prop} {K : Mem → Prop}
theorem iK_s (hK : iK M) (r : tS M M') : iK M' := iK_fr (fun q hq => r.1 q (by omega) (by omega) (by omega) (by omega) (by omega) (by omega) (by omega) (by omega)) hK
theorem tS_f (h : rfr M M') : tS M M' := tS_r (tR_f h)
theorem r40 (h : rfr M M') : M' 66 40 = M 66 40 := h.2 40 (by decide) (by decide) (by decide) (by decide) (by decide) (by decide)
/-- what the reference has read in the end -/
def rdR (B : Mem) (K : Mem → Prop) (r : Sum (Int × Int) (Hal × Int)) : Prop :=
  (∀ f pl, r = Sum.inl (f, pl) → ∀ M' : Mem, tS B M' → rX f pl M' → K M') ∧ (∀ x, r = Sum.inr x → ∀ M' : Mem, tS B M' → M' 66 5 = 0 → M' 66 6 = -1 → M' 66 40 = x.2 → (∃ w, DOK x.1 w ∧ Dr x.1 w M') → K M')
theorem x150 {f pl : Int} (k : Nat) (hk : 0 < k) (x : rX f pl M) (h : K M) : PX12_text_150 K Q k M := by
  obtain ⟨k, rfl⟩ : ∃ i, k = i + 1 := ⟨k - 1, by omega⟩
  exact ⟨fun z => absurd z (rX_b x), fun _ => h⟩
theorem rd150 {B : Mem} : ∀ (j k : Nat) (s p e w : Int) (H : Hal) (M : Mem), s + j = 72 → 1 ≤ s → s ≤ 70 → j < k → rK b n p e M → Dr H w M → DOK H w → iK M → M 66 40 = s → tS B M → rdR B K (pZ b n j p e H w s) → PX12_text_150 K Q k M := by
  intro j
  induction j with
  | zero => intro k s p e w H M a a1 a2; omega
  | succ j ih =>
    intro k s p e w H M a a1 a2 hk hT hD hd hK hs t hR
    obtain ⟨k, rfl⟩ : ∃ i, k = i + 1 := ⟨k - 1, by omega⟩
    have eZ : pZ b n (j + 1) p e H w s = if n ≤ p then Sum.inr (H, s) else if s = 70 then Sum.inl (5, p) else bnd (pA b n p e H w) (fun x => pZ b n j x.2.1 x.2.2 x.1.1 x.1.2 (s + 1)) := rfl
    rw [eZ] at hR
    have ok : bOK b n p := hT.1.1
    refine ⟨fun _ => look_r hT (fun M3 r3 k3 h2 => ⟨fun z => ?_, fun z => ?_⟩), fun z => absurd hT.2.1 z⟩
    · by_cases v : n ≤ p
      · rw [if_pos v] at hR
        exact hR.2 _ rfl M3 (tS_t t (tS_f r3)) k3.2.1 k3.2.2 (by rw [r40 r3]; exact hs) ⟨w, hd, Dr_f r3 hD⟩
      · rw [if_neg v] at z
        have := (ok.2.2.1 p ok.2.2.2.1 (by omega)).1
        omega
    · have v : ¬ n ≤ p := fun v => z (if_pos v)
      rw [if_neg v] at hR
      have T3 := tS_t t (tS_f r3)
      refine tst_r hd (iK_r hK r3) k3 (Dr_f r3 hD) h2 (by rw [r40 r3]; exact hs) ⟨a1, a2⟩ (fun y M' t' x => ?_) (fun y f pl hp M' t' x => ?_) (fun y x hp M' t' c k' D' => ?_)
      · rw [if_pos y] at hR
        exact x150 k (by omega) x (hR.1 5 p rfl M' (tS_t T3 t') x)
      · rw [if_neg y] at hR
        exact x150 k (by omega) x (hR.1 f pl (bnd_l hp) M' (tS_t T3 t') x)
      · rw [if_neg y, bnd_r hp] at hR
        exact ih k (s + 1) x.2.1 x.2.2 x.1.2 x.1.1 M' (by omega) (by omega) (by omega) (by omega) k' D' (pA_ok hd ok hp) (iK_s (iK_r hK r3) t') c (tS_t T3 t') hR
theorem z70 : ∀ (j k : Nat) (v : Int) (M : Mem), 0 ≤ v → v + j = 3 → j < k → (∀ M' : Mem, (∀ q, q ≠ 85 → M' q = M q) → (∀ i, v ≤ i → i < 3 → M' 85 i = 0) → (∀ i, i < v → M' 85 i = M 85 i) → (∀ i, 3 ≤ i → M' 85 i = M 85 i) → K M') → PX12_text_70 K Q k v M := by
  intro j
  induction j with
  | zero =>
    intro k v M v0 h hk hQ
    obtain ⟨k, rfl⟩ : ∃ i, k = i + 1 := ⟨k - 1, by omega⟩
    exact ⟨fun _ => hQ M (fun _ _ => rfl) (fun i a c => by omega) (fun _ _ => rfl) (fun _ _ => rfl), fun z => by omega⟩
  | succ j ih =>
    intro k v M v0 h hk hQ
    obtain ⟨k, rfl⟩ : ∃ i, k = i + 1 := ⟨k - 1, by omega⟩
    refine ⟨fun z => by omega, fun _ => ⟨by omega, by omega, fun M3 h3 => ?_⟩⟩
    rw [wad (by omega) (by omega)]
    refine ih k (v + 1) M3 (by omega) (by omega) (by omega) (fun M' a1 a2 a3 a4 => hQ M' (fun q c => by rw [a1 q c, h3, mset_p c]) (fun i c d => ?_) (fun i c => by rw [a3 i (by omega), h3, mset_k (by omega)]) (fun i c => by rw [a4 i c, h3, mset_k (by omega)]))
    by_cases y : i = v
    · rw [a3 i (by omega), h3, y, mset_e]
    · exact a2 i (by omega) d
theorem z90 : ∀ (j k : Nat) (v : Int) (M : Mem), 0 ≤ v → v + j = 54 → j < k → (∀ M' : Mem, (∀ q, q ≠ 87 → M' q = M q) → (∀ i, v ≤ i → i < 54 → M' 87 i = 0) → (∀ i, i < v → M' 87 i = M 87 i) → (∀ i, 54 ≤ i → M' 87 i = M 87 i) → K M') → PX12_text_90 K Q k v M := by
  intro j
  induction j with
  | zero =>
    intro k v M v0 h hk hQ
    obtain ⟨k, rfl⟩ : ∃ i, k = i + 1 := ⟨k - 1, by omega⟩
    exact ⟨fun _ => hQ M (fun _ _ => rfl) (fun i a c => by omega) (fun _ _ => rfl) (fun _ _ => rfl), fun z => by omega⟩
  | succ j ih =>
    intro k v M v0 h hk hQ
    obtain ⟨k, rfl⟩ : ∃ i, k = i + 1 := ⟨k - 1, by omega⟩
    refine ⟨fun z => by omega, fun _ => ⟨by omega, by omega, fun M3 h3 => ?_⟩⟩
    rw [wad (by omega) (by omega)]
    refine ih k (v + 1) M3 (by omega) (by omega) (by omega) (fun M' a1 a2 a3 a4 => hQ M' (fun q c => by rw [a1 q c, h3, mset_p c]) (fun i c d => ?_) (fun i c => by rw [a3 i (by omega), h3, mset_k (by omega)]) (fun i c => by rw [a4 i c, h3, mset_k (by omega)]))
    by_cases y : i = v
    · rw [a3 i (by omega), h3, y, mset_e]
    · exact a2 i (by omega) d
end
