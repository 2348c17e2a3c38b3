/-! ask: the reference's words of a part -/
section
variable {b : Int → Int} {n p e o : Int} {c : Cds} {w : List Int} {M M' : Mem} {Q : Int → Mem → Prop} {K : Mem → Prop}
def w8 : List Nat := [114, 115, 116, 117, 118, 119, 120, 121]
theorem fdx_app : ∀ (A B : List Nat) (k : Int), 0 ≤ k → fdx b n p e (A ++ B) k = if fdx b n p e A k = -1 then fdx b n p e B (k + A.length) else fdx b n p e A k
  | [], B, k, _ => by
    rw [if_pos (show fdx b n p e [] k = -1 from rfl)]
    show fdx b n p e B k = fdx b n p e B (k + ((0 : Nat) : Int))
    rw [show k + ((0 : Nat) : Int) = k by omega]
  | i :: A, B, k, hk => by
    show fdx b n p e (i :: (A ++ B)) k = _
    cases h : iswd b n p e (wd i) with
    | true => rw [fdx_c1 h, fdx_c1 h, if_neg (by omega)]
    | false =>
      rw [fdx_c0 h, fdx_c0 h, fdx_app A B (k + 1) (by omega), show k + 1 + (A.length : Int) = k + ((i :: A).length : Nat) by show _ = k + ((A.length + 1 : Nat) : Int); omega]
/-- a word that is found is that one -/
theorem fdx_w : ∀ (L : List Nat) (k : Int) (j : Nat), fdx b n p e L k = k + j → fdx b n p e L k ≠ -1 → 0 ≤ k → iswd b n p e (wd (L.getD j 0)) = true
  | [], k, j, _, h, _ => absurd rfl h
  | i :: L, k, j, h, h1, hk => by
    cases z : iswd b n p e (wd i) with
    | true =>
      rw [fdx_c1 z] at h
      have : j = 0 := by omega
      rw [this]; exact z
    | false =>
      rw [fdx_c0 z] at h h1
      have fb := fdx_b (b := b) (n := n) (p := p) (e := e) L (k + 1) (by omega)
      cases j with
      | zero => omega
      | succ j => exact fdx_w L (k + 1) j (by omega) h1 (by omega)
theorem fdx_12 : fdx b n p e (fl 12) 0 = if fdx b n p e w8 0 = -1 then fdx b n p e [112, 113] 8 else fdx b n p e w8 0 := fdx_app w8 [112, 113] 0 (by decide)
theorem w8_b : fdx b n p e w8 0 = -1 ∨ (0 ≤ fdx b n p e w8 0 ∧ fdx b n p e w8 0 < 8) := fdx_b (b := b) (n := n) (p := p) (e := e) w8 0 (by decide)
theorem w8_w {k : Nat} (h : fdx b n p e w8 0 = k) : iswd b n p e (wd (114 + k)) = true := by
  have fb := w8_b (b := b) (n := n) (p := p) (e := e)
  have k8 : k < 8 := by omega
  have r := fdx_w (b := b) (n := n) (p := p) (e := e) w8 0 k (by omega) (by omega) (by decide)
  have e1 : w8.getD k 0 = 114 + k := by
    have key : ∀ k : Fin 8, w8.getD k 0 = 114 + k := by decide
    exact key ⟨k, k8⟩
  rw [e1] at r
  exact r
/-- min and max are no words of a part -/
theorem mm_no {i : Nat} (hi : i = 112 ∨ i = 113) (h : iswd b n p e (wd i) = true) : fdx b n p e w8 0 = -1 := by
  rcases w8_b (b := b) (n := n) (p := p) (e := e) with z | z
  · exact z
  · exfalso
    obtain ⟨k, hk⟩ : ∃ k : Nat, fdx b n p e w8 0 = k := ⟨(fdx b n p e w8 0).toNat, by omega⟩
    have r := isw_eq h (w8_w hk)
    have key : ∀ k : Fin 8, ¬ wd 112 = wd (114 + k) ∧ ¬ wd 113 = wd (114 + k) := by decide
    have k8 := key ⟨k, by omega⟩
    rcases hi with rfl | rfl
    · exact k8.1 r
    · exact k8.2 r
theorem mm_112 (h : iswd b n p e (wd 112) = true) : fdx b n p e (fl 12) 0 = 8 := by rw [fdx_12, if_pos (mm_no (Or.inl rfl) h), fdx_c1 h]
theorem mm_113 (h0 : iswd b n p e (wd 112) = false) (h : iswd b n p e (wd 113) = true) : fdx b n p e (fl 12) 0 = 9 := by rw [fdx_12, if_pos (mm_no (Or.inr rfl) h), fdx_c0 h0, fdx_c1 h]; rfl
theorem mm_w8 (h0 : iswd b n p e (wd 112) = false) (h : iswd b n p e (wd 113) = false) : fdx b n p e (fl 12) 0 = fdx b n p e w8 0 := by
  rw [fdx_12, fdx_c0 h0, fdx_c0 h]
  by_cases z : fdx b n p e w8 0 = -1
  · rw [if_pos z, z]; rfl
  · rw [if_neg z]
theorem hw1 {i L : Nat} {Q1 Q0 : Mem → Prop} (hi : 102 ≤ i ∧ i ≤ 121) (hL : (wd i).length = L) (hT : rK b n p e M) (hR : wR M) (h1 : iswd b n p e (wd i) = true → ∀ M' : Mem, rfr M M' → rK b n p e M' → M' 66 2 = p → Q1 M') (h0 : iswd b n p e (wd i) = false → ∀ M' : Mem, rfr M M' → rK b n p e M' → M' 66 2 = p → Q0 M') : PX12_isHere (i : Nat) L M (fun a M2 => ((a = 0 → Q0 M2) ∧ (¬ (a = 0) → Q1 M2))) := by
  rw [← hL]
  refine here_r hT (hR i hi) (by omega) (fun M' r k a => ?_)
  cases z : iswd b n p e (wd i) with
  | true => exact ⟨fun y => absurd y (by decide), fun _ => h1 z M' r k a⟩
  | false => exact ⟨fun _ => h0 z M' r k a, fun y => absurd rfl y⟩
theorem qwh_r (hT : rK b n p e M) (hR : wR M) (hQ : ∀ M' : Mem, rfr M M' → rK b n p e M' → M' 66 2 = p → Q (fdx b n p e w8 0) M') : PX12_qWordHere M Q := by
  have hq : ∀ v : Int, fdx b n p e w8 0 = v → ∀ M' : Mem, rfr M M' → rK b n p e M' → M' 66 2 = p → Q v M' := fun v hv M' r k a => by rw [← hv]; exact hQ M' r k a
  have wr : ∀ M' : Mem, rfr M M' → wR M' := fun M' r => wR_q (qfr_f r) hR
  clear hQ
  refine hw1 (i := 114) (by decide) rfl hT (wr _ (rfr_r M)) (fun z M' r k a => hq 0 (by unfold w8; rw [fdx_c1 z] <;> rfl) M' (rfr_t (rfr_r M) r) k a) (fun z0 N0 r0 k0 a0 => ?_)
  have R0 := rfr_t (rfr_r M) r0
  refine hw1 (i := 115) (by decide) rfl k0 (wr _ R0) (fun z M' r k a => hq 1 (by unfold w8; rw [fdx_c0 z0, fdx_c1 z] <;> rfl) M' (rfr_t R0 r) k a) (fun z1 N1 r1 k1 a1 => ?_)
  have R1 := rfr_t R0 r1
  refine hw1 (i := 116) (by decide) rfl k1 (wr _ R1) (fun z M' r k a => hq 2 (by unfold w8; rw [fdx_c0 z0, fdx_c0 z1, fdx_c1 z] <;> rfl) M' (rfr_t R1 r) k a) (fun z2 N2 r2 k2 a2 => ?_)
  have R2 := rfr_t R1 r2
  refine hw1 (i := 117) (by decide) rfl k2 (wr _ R2) (fun z M' r k a => hq 3 (by unfold w8; rw [fdx_c0 z0, fdx_c0 z1, fdx_c0 z2, fdx_c1 z] <;> rfl) M' (rfr_t R2 r) k a) (fun z3 N3 r3 k3 a3 => ?_)
  have R3 := rfr_t R2 r3
  refine hw1 (i := 118) (by decide) rfl k3 (wr _ R3) (fun z M' r k a => hq 4 (by unfold w8; rw [fdx_c0 z0, fdx_c0 z1, fdx_c0 z2, fdx_c0 z3, fdx_c1 z] <;> rfl) M' (rfr_t R3 r) k a) (fun z4 N4 r4 k4 a4 => ?_)
  have R4 := rfr_t R3 r4
  refine hw1 (i := 119) (by decide) rfl k4 (wr _ R4) (fun z M' r k a => hq 5 (by unfold w8; rw [fdx_c0 z0, fdx_c0 z1, fdx_c0 z2, fdx_c0 z3, fdx_c0 z4, fdx_c1 z] <;> rfl) M' (rfr_t R4 r) k a) (fun z5 N5 r5 k5 a5 => ?_)
  have R5 := rfr_t R4 r5
  refine hw1 (i := 120) (by decide) rfl k5 (wr _ R5) (fun z M' r k a => hq 6 (by unfold w8; rw [fdx_c0 z0, fdx_c0 z1, fdx_c0 z2, fdx_c0 z3, fdx_c0 z4, fdx_c0 z5, fdx_c1 z] <;> rfl) M' (rfr_t R5 r) k a) (fun z6 N6 r6 k6 a6 => ?_)
  have R6 := rfr_t R5 r6
  refine hw1 (i := 121) (by decide) rfl k6 (wr _ R6) (fun z M' r k a => hq 7 (by unfold w8; rw [fdx_c0 z0, fdx_c0 z1, fdx_c0 z2, fdx_c0 z3, fdx_c0 z4, fdx_c0 z5, fdx_c0 z6, fdx_c1 z] <;> rfl) M' (rfr_t R6 r) k a) (fun z7 N7 r7 k7 a7 => ?_)
  have R7 := rfr_t R6 r7
  exact hq (-1) (by unfold w8; rw [fdx_c0 z0, fdx_c0 z1, fdx_c0 z2, fdx_c0 z3, fdx_c0 z4, fdx_c0 z5, fdx_c0 z6, fdx_c0 z7] <;> rfl) _ R7 k7 a7
theorem qwo_r (v1 v2 : Int) (hT : rK b n p e M) (hR : wR M) (hQ : ∀ M' : Mem, rfr M M' → rK b n p e M' → M' 66 2 = p → Q (if fdx b n p e w8 0 < v1 then -1 else if v2 ≤ fdx b n p e w8 0 then -1 else fdx b n p e w8 0) M') : PX12_qWordOf v1 v2 M Q := qwh_r hT hR hQ
theorem aw1 {i L : Nat} (hi : 102 ≤ i ∧ i ≤ 121) (hL : (wd i).length = L) (hT : rK b n p e M) (hR : wR M) (h : iswd b n p e (wd i) = true) (hQ : ∀ M' : Mem, rfr M M' → rK b n (nxp b n p) (nxe b n p) M' → Q 0 M') : PX12_asks (i : Nat) L M Q := by
  rw [← hL]
  exact asks_r hT (hR i hi) (by omega) (fun z => by rw [h] at z; cases z) (fun _ M' r k => hQ M' r k)
theorem aw_r {k : Int} (hT : rK b n p e M) (hR : wR M) (h : fdx b n p e w8 0 = k) (k0 : 0 ≤ k) (hQ : ∀ M' : Mem, rfr M M' → rK b n (nxp b n p) (nxe b n p) M' → Q 0 M') : PX12_qAsksWord k M Q := by
  have fb := w8_b (b := b) (n := n) (p := p) (e := e)
  rw [h] at fb
  obtain ⟨m, rfl⟩ : ∃ m : Nat, k = m := ⟨k.toNat, by omega⟩
  have iw := w8_w h
  have m8 : m < 8 := by omega
  unfold PX12_qAsksWord
  refine ⟨fun z => ?_, fun z => ?_⟩
  · have : m = 0 := by omega
    subst this
    exact aw1 (i := 114) (by decide) rfl hT hR iw hQ
  refine ⟨fun z => ?_, fun z => ?_⟩
  · have : m = 1 := by omega
    subst this
    exact aw1 (i := 115) (by decide) rfl hT hR iw hQ
  refine ⟨fun z => ?_, fun z => ?_⟩
  · have : m = 2 := by omega
    subst this
    exact aw1 (i := 116) (by decide) rfl hT hR iw hQ
  refine ⟨fun z => ?_, fun z => ?_⟩
  · have : m = 3 := by omega
    subst this
    exact aw1 (i := 117) (by decide) rfl hT hR iw hQ
  refine ⟨fun z => ?_, fun z => ?_⟩
  · have : m = 4 := by omega
    subst this
    exact aw1 (i := 118) (by decide) rfl hT hR iw hQ
  refine ⟨fun z => ?_, fun z => ?_⟩
  · have : m = 5 := by omega
    subst this
    exact aw1 (i := 119) (by decide) rfl hT hR iw hQ
  refine ⟨fun z => ?_, fun z => ?_⟩
  · have : m = 6 := by omega
    subst this
    exact aw1 (i := 120) (by decide) rfl hT hR iw hQ
  have : m = 7 := by omega
  subst this
  exact aw1 (i := 121) (by decide) rfl hT hR iw hQ
theorem nb_aw {k : Int} (h : M 66 5 ≠ 0) (hQ : Q 0 M) : PX12_qAsksWord k M Q :=
  ⟨fun _ => nb_asks h hQ, fun _ => ⟨fun _ => nb_asks h hQ, fun _ => ⟨fun _ => nb_asks h hQ, fun _ => ⟨fun _ => nb_asks h hQ, fun _ => ⟨fun _ => nb_asks h hQ, fun _ => ⟨fun _ => nb_asks h hQ, fun _ => ⟨fun _ => nb_asks h hQ, fun _ => nb_asks h hQ⟩⟩⟩⟩⟩⟩⟩
theorem look_q (h : rQ b n p e c w o M) (hQ : ∀ M' : Mem, rfr M M' → rQ b n p e c w o M' → M' 66 2 = p → Q (if n ≤ p then -1 else b p) M') : PX12_look M Q := look_r h.1 (fun M' r k a => hQ M' r (rQ_f r k h) a)
end
