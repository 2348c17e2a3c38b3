/-! ask: the reference's state while it reads, what it drops -/
/-- what waits: as the class's numbers below 20; 20 to 25: what is open -/
def wco (s : Int) : Int := if s < 20 then rco (s, 0) else s
def wtS : List Int → Mem → Prop
  | [], _ => True
  | s :: w, M => M 123 (w.length : Int) = wco s ∧ wtS w M
def wR (M : Mem) : Prop := ∀ i : Nat, 102 ≤ i ∧ i ≤ 121 → ∀ j : Nat, j < (wd i).length → M (i : Nat) j = (wd i).getD j 0
def cR (c : Cds) (M : Mem) : Prop := M 66 79 = (c.length : Int) ∧ ∀ i : Nat, i < c.length → M 122 (i : Int) = rco (c.getD i (0, 0))
def rQ (b : Int → Int) (n p e : Int) (c : Cds) (w : List Int) (o : Int) (M : Mem) : Prop := rK b n p e M ∧ cR c M ∧ (M 66 81 = (w.length : Int) ∧ wtS w M) ∧ M 66 82 = o ∧ wR M
def qfr (M M' : Mem) : Prop := (∀ q, q ≠ 66 → q ≠ 122 → q ≠ 123 → M' q = M q) ∧ ∀ j, j ≠ 2 → j ≠ 4 → j ≠ 5 → j ≠ 6 → j ≠ 9 → j ≠ 27 → j ≠ 79 → j ≠ 81 → j ≠ 82 → M' 66 j = M 66 j
def mps (q : List Int) : Cds := q.map (fun s => (s, 0))
theorem qfr_r (M : Mem) : qfr M M := ⟨fun _ _ _ _ => rfl, fun _ _ _ _ _ _ _ _ _ _ => rfl⟩
theorem qfr_t {M N O : Mem} (h1 : qfr M N) (h2 : qfr N O) : qfr M O := ⟨fun q x y z => (h2.1 q x y z).trans (h1.1 q x y z), fun j a b c d e f g h i => (h2.2 j a b c d e f g h i).trans (h1.2 j a b c d e f g h i)⟩
theorem qfr_f {M N : Mem} (h : rfr M N) : qfr M N := ⟨fun q x _ _ => h.1 q x, fun j a b c d e f _ _ _ => h.2 j a b c d e f⟩
theorem qfr_B {M N : Mem} (h : qfr M N) : N 66 83 = M 66 83 := h.2 83 (by decide) (by decide) (by decide) (by decide) (by decide) (by decide) (by decide) (by decide) (by decide)
theorem wS_c {M M' : Mem} : ∀ w : List Int, (∀ i : Int, 0 ≤ i → i < w.length → M' 123 i = M 123 i) → wtS w M → wtS w M'
  | [], _, _ => trivial
  | s :: w, h, hw => ⟨by rw [h (w.length : Int) (by omega) (by show (w.length : Int) < ((w.length + 1 : Nat) : Int); omega)]; exact hw.1, wS_c w (fun i a c => h i a (by show i < ((w.length + 1 : Nat) : Int); omega)) hw.2⟩
theorem wS_a {M : Mem} : ∀ q w : List Int, wtS (q ++ w) M → wtS w M
  | [], _, h => h
  | _ :: q, w, h => wS_a q w h.2
theorem cR_c {c : Cds} {M M' : Mem} (h1 : M' 66 79 = M 66 79) (h2 : M' 122 = M 122) (h : cR c M) : cR c M' := by
  unfold cR at h ⊢; rw [h1, h2]; exact h
section
variable {b : Int → Int} {n p e o : Int} {c : Cds} {w : List Int} {M M' : Mem} {Q : Int → Mem → Prop}
theorem wR_q (h : qfr M M') (hR : wR M) : wR M' := fun i hi j hj => by rw [h.1 (i : Nat) (by omega) (by omega) (by omega)]; exact hR i hi j hj
theorem rQ_f {p' e' : Int} (r : rfr M M') (k : rK b n p' e' M') (h : rQ b n p e c w o M) : rQ b n p' e' c w o M' :=
  ⟨k, cR_c (r.2 79 (by decide) (by decide) (by decide) (by decide) (by decide) (by decide)) (r.1 122 (by decide)) h.2.1, ⟨by rw [r.2 81 (by decide) (by decide) (by decide) (by decide) (by decide) (by decide)]; exact h.2.2.1.1, wS_c w (fun i _ _ => by rw [r.1 123 (by decide)]) h.2.2.1.2⟩, by rw [r.2 82 (by decide) (by decide) (by decide) (by decide) (by decide) (by decide)]; exact h.2.2.2.1, wR_q (qfr_f r) h.2.2.2.2⟩
theorem rK_q (hT : rK b n p e M) (f1 : M' 67 = M 67) (f2 : ∀ j, j = 2 ∨ j = 3 ∨ j = 4 ∨ j = 5 ∨ j = 6 → M' 66 j = M 66 j) : rK b n p e M' := by
  unfold rK rT at hT ⊢
  rw [f1, f2 2 (by decide), f2 3 (by decide), f2 4 (by decide), f2 5 (by decide), f2 6 (by decide)]
  exact hT
theorem cd_r {x : Int × Int} {v : Int} (h : rQ b n p e c w o M) (hl : (c.length : Int) ≤ 1600) (hv : v = rco x) : nX12_qCode M ∧ rQ b n p e (c ++ [x]) w o (fmX12_qCode M v) ∧ qfr M (fmX12_qCode M v) ∧ fmX12_qCode M v 66 2 = M 66 2 := by
  obtain ⟨k, c1, w1, o1, r1⟩ := h
  have e : fmX12_qCode M v = mset (mset M 122 (c.length : Int) v) 66 79 ((c.length : Int) + 1) := by
    unfold fmX12_qCode
    rw [mset_o (by decide), c1.1, wad (by omega) (by omega)]
  have f : qfr M (mset (mset M 122 (c.length : Int) v) 66 79 ((c.length : Int) + 1)) := ⟨fun q x y z => by rw [mset_p x, mset_p y], fun j _ _ _ _ _ _ g _ _ => by rw [mset_k g, mset_o (by decide)]⟩
  rw [e]
  refine ⟨⟨by rw [c1.1]; omega, by rw [c1.1]; omega⟩, ⟨rK_q k (by rw [mset_p (by decide), mset_p (by decide)]) (fun j hj => by rw [mset_k (by omega), mset_o (by decide)]), ⟨by rw [mset_e, len_1], fun i hi => ?_⟩, ⟨by rw [mset_k (by decide), mset_o (by decide)]; exact w1.1, wS_c w (fun i _ _ => by rw [mset_o (by decide), mset_o (by decide)]) w1.2⟩, by rw [mset_k (by decide), mset_o (by decide)]; exact o1, wR_q f r1⟩, f, by rw [mset_k (by decide), mset_o (by decide)]⟩
  rw [gd_app c x i hi, mset_o (by decide)]
  by_cases z : i = c.length
  · rw [if_pos z, z, mset_e, hv]
  · rw [if_neg z, mset_k (by omega)]
    have : i < c.length + 1 := by
      have := hi
      rw [List.length_append] at this
      exact this
    exact c1.2 i (by omega)
theorem lenc (s : Int) (w : List Int) : (((s :: w).length : Nat) : Int) = (w.length : Int) + 1 := by show ((w.length + 1 : Nat) : Int) = _; omega
/-- the top of what waits is taken away -/
theorem tk_r {s : Int} (h : rQ b n p e c (s :: w) o M) (hl : (w.length : Int) ≤ 1600) : wr32 (M 66 81 - 1) = (w.length : Int) ∧ M 123 (w.length : Int) = wco s ∧ rQ b n p e c w o (mset M 66 81 (w.length : Int)) ∧ qfr M (mset M 66 81 (w.length : Int)) := by
  obtain ⟨k, c1, w1, o1, r1⟩ := h
  have f : qfr M (mset M 66 81 (w.length : Int)) := ⟨fun q x y z => by rw [mset_p x], fun j _ _ _ _ _ _ _ g _ => by rw [mset_k g]⟩
  refine ⟨?_, w1.2.1, ⟨rK_q k (by rw [mset_p (by decide)]) (fun j hj => by rw [mset_k (by omega)]), cR_c (by rw [mset_k (by decide)]) (by rw [mset_p (by decide)]) c1, ⟨mset_e, wS_c w (fun i _ _ => by rw [mset_o (by decide)]) w1.2.2⟩, by rw [mset_k (by decide)]; exact o1, wR_q f r1⟩, f⟩
  rw [w1.1, lenc, wsu (by omega) (by omega)]
  omega
theorem drp_r {s : Int} (h : rQ b n p e c (s :: w) o M) (hs : s < 20) (hl : (c.length : Int) + w.length ≤ 1600) : nX12_qDrops M ∧ rQ b n p e (c ++ [(s, 0)]) w o (fmX12_qDrops M) ∧ qfr M (fmX12_qDrops M) ∧ fmX12_qDrops M 66 2 = M 66 2 := by
  have t := tk_r h (by omega)
  have eN : mset M 66 81 (wr32 (M 66 81 - 1)) = mset M 66 81 (w.length : Int) := by rw [t.1]
  have e8 : mset M 66 81 (w.length : Int) 66 81 = (w.length : Int) := mset_e
  have ev : mset M 66 81 (w.length : Int) 123 (w.length : Int) = rco (s, 0) := by
    rw [mset_o (by decide), t.2.1]; unfold wco; rw [if_pos hs]
  have cd := cd_r (x := (s, 0)) (v := rco (s, 0)) t.2.2.1 (by omega) rfl
  unfold nX12_qDrops fmX12_qDrops
  rw [eN, e8, ev]
  refine ⟨⟨⟨by omega, by omega⟩, cd.1⟩, cd.2.1, qfr_t t.2.2.2 cd.2.2.1, ?_⟩
  rw [cd.2.2.2, mset_k (by decide)]
/-- one more is open; s waits -/
theorem op_r {s pl : Int} (h : rQ b n p e c w o M) (hl : (w.length : Int) ≤ 1600) (ho : 0 ≤ o ∧ o ≤ 6) : nX12_qOpens M ∧ (o = 6 → rfr M (fmX12_qOpens M (wco s) pl) ∧ rX 4 pl (fmX12_qOpens M (wco s) pl)) ∧ (o ≠ 6 → rQ b n p e c (s :: w) (o + 1) (fmX12_qOpens M (wco s) pl) ∧ qfr M (fmX12_qOpens M (wco s) pl) ∧ fmX12_qOpens M (wco s) pl 66 2 = M 66 2) := by
  obtain ⟨k, c1, w1, o1, r1⟩ := id h
  refine ⟨fun _ _ => ?_, fun z => ?_, fun z => ?_⟩
  · rw [mset_k (by decide), w1.1]; omega
  · unfold fmX12_qOpens
    rw [if_pos k.2.1, if_pos (by rw [o1]; exact z)]
    have f := rfail k 4 pl
    exact ⟨f.1, f.2.1, f.2.2, by decide⟩
  · have e : fmX12_qOpens M (wco s) pl = mset (mset (mset M 66 82 (o + 1)) 123 (w.length : Int) (wco s)) 66 81 ((w.length : Int) + 1) := by
      unfold fmX12_qOpens
      rw [if_pos k.2.1, if_neg (by rw [o1]; exact z), o1, wad (by omega) (by omega), mset_k (show (81 : Int) ≠ 82 by decide), w1.1, mset_o (show (66 : Int) ≠ 123 by decide), mset_k (show (81 : Int) ≠ 82 by decide), w1.1, wad (by omega) (by omega)]
    rw [e]
    have f : qfr M (mset (mset (mset M 66 82 (o + 1)) 123 (w.length : Int) (wco s)) 66 81 ((w.length : Int) + 1)) := ⟨fun q x y z => by rw [mset_p x, mset_p z, mset_p x], fun j _ _ _ _ _ _ _ g1 g2 => by rw [mset_k g1, mset_o (by decide), mset_k g2]⟩
    refine ⟨⟨rK_q k (by rw [mset_p (by decide), mset_p (by decide), mset_p (by decide)]) (fun j hj => by rw [mset_k (by omega), mset_o (by decide), mset_k (by omega)]), cR_c (by rw [mset_k (by decide), mset_o (by decide), mset_k (by decide)]) (by rw [mset_p (by decide), mset_p (by decide), mset_p (by decide)]) c1, ⟨by rw [mset_e, lenc], by rw [mset_o (by decide), mset_e], wS_c w (fun i x y => by rw [mset_o (by decide), mset_k (by omega), mset_o (by decide)]) w1.2⟩, by rw [mset_k (by decide), mset_o (by decide), mset_e], wR_q f r1⟩, f, by rw [mset_k (by decide), mset_o (by decide), mset_k (by decide)]⟩
/-- s waits from now on; what the code behind an operator does -/
theorem pu_r {s v : Int} (h : rQ b n p e c w o M) (hl : (w.length : Int) ≤ 1600) (hv : v = wco s) {K : Mem → Prop} (hK : ∀ M' : Mem, qfr M M' → rQ b n p e c (s :: w) o M' → K M') : 0 ≤ (M 66 81) ∧ (M 66 81) < 1700 ∧ (∀ M30 : Mem, M30 = (mset M 123 (M 66 81) v) → (∀ M32 : Mem, M32 = (mset M30 66 81 (wr32 ((M30 66 81) + 1))) → K M32)) := by
  obtain ⟨k, c1, w1, o1, r1⟩ := h
  rw [w1.1]
  refine ⟨by omega, by omega, fun M30 h30 M32 h32 => ?_⟩
  have e : M32 = mset (mset M 123 (w.length : Int) v) 66 81 ((w.length : Int) + 1) := by
    rw [h32, h30, mset_o (by decide), w1.1, wad (by omega) (by omega)]
  have f : qfr M M32 := by rw [e]; exact ⟨fun q x y z => by rw [mset_p x, mset_p z], fun j _ _ _ _ _ _ _ g1 _ => by rw [mset_k g1, mset_o (by decide)]⟩
  refine hK M32 f ⟨?_, ?_, ?_, ?_, wR_q f r1⟩
  · exact rK_q k (f.1 67 (by decide) (by decide) (by decide)) (fun j hj => by rw [e, mset_k (by omega), mset_o (by decide)])
  · exact cR_c (by rw [e, mset_k (by decide), mset_o (by decide)]) (by rw [e, mset_p (by decide), mset_p (by decide)]) c1
  · rw [e]
    exact ⟨by rw [mset_e, lenc], by rw [mset_o (by decide), mset_e, hv], wS_c w (fun i x y => by rw [mset_o (by decide), mset_k (by omega)]) w1.2⟩
  · rw [e, mset_k (by decide), mset_o (by decide)]; exact o1
/-- a sign that stands where the reader is, is passed -/
theorem sg_r (h : rQ b n p e c w o M) (hk : knd b n p e = 3) (ha : M 66 2 = p) : rQ b n (nxp b n p) (nxe b n p) c w o (mset M 66 2 (wr32 (M 66 2 + 1))) ∧ rfr M (mset M 66 2 (wr32 (M 66 2 + 1))) := by
  have ok : bOK b n p := h.1.1.1
  have b1 := ok.2.1
  have b2 := ok.2.2.2.1
  have b3 := ok.2.2.2.2.1
  rw [ha, wad (by omega) (by omega)]
  have f : rfr M (mset M 66 2 (p + 1)) := ⟨fun q x => mset_p x, fun j x _ _ _ _ _ => mset_k x⟩
  exact ⟨rQ_f f (rK_sg h.1 hk (fun q x => mset_p x) (fun j x => mset_k x) mset_e) h, f⟩
/-- a fault, with room for one more code -/
def rXq (f pl : Int) (M : Mem) : Prop := rX f pl M ∧ 0 ≤ M 66 79 ∧ M 66 79 < 1700
theorem rXq_f {f pl : Int} (h : rQ b n p e c w o M) (hl : (c.length : Int) ≤ 1600) (r : rfr M M') (x : rX f pl M') : rXq f pl M' := by
  have e1 : M' 66 79 = (c.length : Int) := by rw [r.2 79 (by decide) (by decide) (by decide) (by decide) (by decide) (by decide)]; exact h.2.1.1
  exact ⟨x, by omega, by omega⟩
end
