/-! from what the methods do (P) to what the law asks of them (Two) -/
def PX11_feed (v1 : Int) (v2 : Int) (v3 : Int) (v4 : Int) (v5 : Int) (M : Mem) (Q : Int → Mem → Prop) : Prop := Q (fX11_feed M v1 v2 v3 v4 v5) (fmX11_feed M v1 v2 v3 v4 v5)
theorem pPX11_feed {E : EV} {h : Int} {M : Mem} {v1 : Int} {v2 : Int} {v3 : Int} {v4 : Int} {v5 : Int} {Q : Int → Mem → Prop} (H : PX11_feed v1 v2 v3 v4 v5 M Q) : C2 E miX11_feed 3 h [(2, 0), (0, v1), (0, v2), (0, v3), (0, v4), (0, v5)] M (RI 0 Q) := by
  refine C2_mono (pX11_feed (E := E) (h := h) (M := M) (v1 := v1) (v2 := v2) (v3 := v3) (v4 := v4) (v5 := v5)) ?_
  rintro r M' ⟨rfl, rfl⟩
  exact ⟨_, rfl, H⟩
def PX12_feed (v1 : Int) (v2 : Int) (v3 : Int) (v4 : Int) (v5 : Int) (M : Mem) (Q : Int → Mem → Prop) : Prop := (nX12_feed M v1 v2 v3 v4 v5) ∧ Q (fX12_feed M v1 v2 v3 v4 v5) (fmX12_feed M v1 v2 v3 v4 v5)
theorem pPX12_feed {E : EV} {h : Int} {M : Mem} {v1 : Int} {v2 : Int} {v3 : Int} {v4 : Int} {v5 : Int} {Q : Int → Mem → Prop} (H : PX12_feed v1 v2 v3 v4 v5 M Q) : C2 E miX12_feed 1 h [(2, 66), (0, v1), (0, v2), (0, v3), (0, v4), (0, v5)] M (RI 0 Q) := by
  refine C2_mono (pX12_feed (E := E) (h := h) (M := M) (v1 := v1) (v2 := v2) (v3 := v3) (v4 := v4) (v5 := v5) H.1) ?_
  rintro r M' ⟨rfl, rfl⟩
  exact ⟨_, rfl, H.2⟩
def PX11_end (v1 : Int) (M : Mem) (Q : Int → Mem → Prop) : Prop := Q (fX11_end M v1) (fmX11_end M v1)
theorem pPX11_end {E : EV} {h : Int} {M : Mem} {v1 : Int} {Q : Int → Mem → Prop} (H : PX11_end v1 M Q) : C2 E miX11_end 2 h [(2, 0), (0, v1)] M (RI 0 Q) := by
  refine C2_mono (pX11_end (E := E) (h := h) (M := M) (v1 := v1)) ?_
  rintro r M' ⟨rfl, rfl⟩
  exact ⟨_, rfl, H⟩
def PX12_end (v1 : Int) (M : Mem) (Q : Int → Mem → Prop) : Prop := Q (fX12_end M v1) (fmX12_end M v1)
theorem pPX12_end {E : EV} {h : Int} {M : Mem} {v1 : Int} {Q : Int → Mem → Prop} (H : PX12_end v1 M Q) : C2 E miX12_end 1 h [(2, 66), (0, v1)] M (RI 0 Q) := by
  refine C2_mono (pX12_end (E := E) (h := h) (M := M) (v1 := v1)) ?_
  rintro r M' ⟨rfl, rfl⟩
  exact ⟨_, rfl, H⟩
def PX11_fault (v1 : Int) (M : Mem) (Q : Int → Mem → Prop) : Prop := Q (fX11_fault M v1) M
theorem pPX11_fault {E : EV} {h : Int} {M : Mem} {v1 : Int} {Q : Int → Mem → Prop} (H : PX11_fault v1 M Q) : C2 E miX11_fault 1 h [(2, 0), (0, v1)] M (RI 0 Q) := by
  refine C2_mono (pX11_fault (E := E) (h := h) (M := M) (v1 := v1)) ?_
  rintro r M' ⟨rfl, rfl⟩
  exact ⟨_, rfl, H⟩
def PX12_fault (v1 : Int) (M : Mem) (Q : Int → Mem → Prop) : Prop := Q (fX12_fault M v1) M
theorem pPX12_fault {E : EV} {h : Int} {M : Mem} {v1 : Int} {Q : Int → Mem → Prop} (H : PX12_fault v1 M Q) : C2 E miX12_fault 1 h [(2, 66), (0, v1)] M (RI 0 Q) := by
  refine C2_mono (pX12_fault (E := E) (h := h) (M := M) (v1 := v1)) ?_
  rintro r M' ⟨rfl, rfl⟩
  exact ⟨_, rfl, H⟩
def PX11_hall (h : Int) (v1 : Int) (M : Mem) (Q : Int → Mem → Prop) : Prop := Q (fX11_hall M h v1) M
theorem pPX11_hall {E : EV} {h : Int} {M : Mem} {v1 : Int} {Q : Int → Mem → Prop} (H : PX11_hall h v1 M Q) : C2 E miX11_hall 3 h [(2, 0), (0, v1)] M (RI 0 Q) := by
  refine C2_mono (pX11_hall (E := E) (h := h) (M := M) (v1 := v1)) ?_
  rintro r M' ⟨rfl, rfl⟩
  exact ⟨_, rfl, H⟩
def PX12_hall (v1 : Int) (M : Mem) (Q : Int → Mem → Prop) : Prop := (nX12_hall M v1) ∧ Q (fX12_hall M v1) M
theorem pPX12_hall {E : EV} {h : Int} {M : Mem} {v1 : Int} {Q : Int → Mem → Prop} (H : PX12_hall v1 M Q) : C2 E miX12_hall 3 h [(2, 66), (0, v1)] M (RI 0 Q) := by
  refine C2_mono (pX12_hall (E := E) (h := h) (M := M) (v1 := v1) H.1) ?_
  rintro r M' ⟨rfl, rfl⟩
  exact ⟨_, rfl, H.2⟩
def PX11_letter (h : Int) (v1 : Int) (v2 : Int) (v3 : Int) (M : Mem) (Q : Int → Mem → Prop) : Prop := Q (fX11_letter M h v1 v2 v3) M
theorem pPX11_letter {E : EV} {h : Int} {M : Mem} {v1 : Int} {v2 : Int} {v3 : Int} {Q : Int → Mem → Prop} (H : PX11_letter h v1 v2 v3 M Q) : C2 E miX11_letter 2 h [(2, 0), (0, v1), (0, v2), (0, v3)] M (RI 0 Q) := by
  refine C2_mono (pX11_letter (E := E) (h := h) (M := M) (v1 := v1) (v2 := v2) (v3 := v3)) ?_
  rintro r M' ⟨rfl, rfl⟩
  exact ⟨_, rfl, H⟩
def PX11_person (h : Int) (v1 : Int) (v2 : Int) (M : Mem) (Q : Int → Mem → Prop) : Prop := Q (fX11_person M h v1 v2) M
theorem pPX11_person {E : EV} {h : Int} {M : Mem} {v1 : Int} {v2 : Int} {Q : Int → Mem → Prop} (H : PX11_person h v1 v2 M Q) : C2 E miX11_person 2 h [(2, 0), (0, v1), (0, v2)] M (RI 0 Q) := by
  refine C2_mono (pX11_person (E := E) (h := h) (M := M) (v1 := v1) (v2 := v2)) ?_
  rintro r M' ⟨rfl, rfl⟩
  exact ⟨_, rfl, H⟩
def PX12_person (v1 : Int) (v2 : Int) (M : Mem) (Q : Int → Mem → Prop) : Prop := (nX12_person M v1 v2) ∧ Q (fX12_person M v1 v2) M
theorem pPX12_person {E : EV} {h : Int} {M : Mem} {v1 : Int} {v2 : Int} {Q : Int → Mem → Prop} (H : PX12_person v1 v2 M Q) : C2 E miX12_person 3 h [(2, 66), (0, v1), (0, v2)] M (RI 0 Q) := by
  refine C2_mono (pX12_person (E := E) (h := h) (M := M) (v1 := v1) (v2 := v2) H.1) ?_
  rintro r M' ⟨rfl, rfl⟩
  exact ⟨_, rfl, H.2⟩
def PX11_guard (h : Int) (v1 : Int) (v2 : Int) (M : Mem) (Q : Int → Mem → Prop) : Prop := Q (fX11_guard M h v1 v2) M
theorem pPX11_guard {E : EV} {h : Int} {M : Mem} {v1 : Int} {v2 : Int} {Q : Int → Mem → Prop} (H : PX11_guard h v1 v2 M Q) : C2 E miX11_guard 2 h [(2, 0), (0, v1), (0, v2)] M (RI 0 Q) := by
  refine C2_mono (pX11_guard (E := E) (h := h) (M := M) (v1 := v1) (v2 := v2)) ?_
  rintro r M' ⟨rfl, rfl⟩
  exact ⟨_, rfl, H⟩
def PX12_guard (v1 : Int) (v2 : Int) (M : Mem) (Q : Int → Mem → Prop) : Prop := (nX12_guard M v1 v2) ∧ Q (fX12_guard M v1 v2) M
theorem pPX12_guard {E : EV} {h : Int} {M : Mem} {v1 : Int} {v2 : Int} {Q : Int → Mem → Prop} (H : PX12_guard v1 v2 M Q) : C2 E miX12_guard 2 h [(2, 66), (0, v1), (0, v2)] M (RI 0 Q) := by
  refine C2_mono (pX12_guard (E := E) (h := h) (M := M) (v1 := v1) (v2 := v2) H.1) ?_
  rintro r M' ⟨rfl, rfl⟩
  exact ⟨_, rfl, H.2⟩
def PX11_set (h : Int) (v1 : Int) (v2 : Int) (v3 : Int) (M : Mem) (Q : Int → Mem → Prop) : Prop := Q (fX11_set M h v1 v2 v3) (fmX11_set M h v1 v2 v3)
theorem pPX11_set {E : EV} {h : Int} {M : Mem} {v1 : Int} {v2 : Int} {v3 : Int} {Q : Int → Mem → Prop} (H : PX11_set h v1 v2 v3 M Q) : C2 E miX11_set 4 h [(2, 0), (0, v1), (0, v2), (0, v3)] M (RI 0 Q) := by
  refine C2_mono (pX11_set (E := E) (h := h) (M := M) (v1 := v1) (v2 := v2) (v3 := v3)) ?_
  rintro r M' ⟨rfl, rfl⟩
  exact ⟨_, rfl, H⟩
def PX11_close (h : Int) (v1 : Int) (v2 : Int) (M : Mem) (Q : Int → Mem → Prop) : Prop := Q (fX11_close M h v1 v2) (fmX11_close M h v1 v2)
theorem pPX11_close {E : EV} {h : Int} {M : Mem} {v1 : Int} {v2 : Int} {Q : Int → Mem → Prop} (H : PX11_close h v1 v2 M Q) : C2 E miX11_close 3 h [(2, 0), (0, v1), (0, v2)] M (RI 0 Q) := by
  refine C2_mono (pX11_close (E := E) (h := h) (M := M) (v1 := v1) (v2 := v2)) ?_
  rintro r M' ⟨rfl, rfl⟩
  exact ⟨_, rfl, H⟩
def PX11_undo (h : Int) (M : Mem) (Q : Int → Mem → Prop) : Prop := Q (fX11_undo M) (fmX11_undo M h)
theorem pPX11_undo {E : EV} {h : Int} {M : Mem} {Q : Int → Mem → Prop} (H : PX11_undo h M Q) : C2 E miX11_undo 4 h [(2, 0)] M (RI 0 Q) := by
  refine C2_mono (pX11_undo (E := E) (h := h) (M := M) ) ?_
  rintro r M' ⟨rfl, rfl⟩
  exact ⟨_, rfl, H⟩
def PX11_come (h : Int) (v1 : Int) (M : Mem) (Q : Int → Mem → Prop) : Prop := Q (fX11_come M h v1) (fmX11_come M h v1)
theorem pPX11_come {E : EV} {h : Int} {M : Mem} {v1 : Int} {Q : Int → Mem → Prop} (H : PX11_come h v1 M Q) : C2 E miX11_come 2 h [(2, 0), (0, v1)] M (RI 0 Q) := by
  refine C2_mono (pX11_come (E := E) (h := h) (M := M) (v1 := v1)) ?_
  rintro r M' ⟨rfl, rfl⟩
  exact ⟨_, rfl, H⟩
def PX12_come (v1 : Int) (M : Mem) (Q : Int → Mem → Prop) : Prop := Q (fX12_come M v1) (fmX12_come M v1)
theorem pPX12_come {E : EV} {h : Int} {M : Mem} {v1 : Int} {Q : Int → Mem → Prop} (H : PX12_come v1 M Q) : C2 E miX12_come 2 h [(2, 66), (0, v1)] M (RI 0 Q) := by
  refine C2_mono (pX12_come (E := E) (h := h) (M := M) (v1 := v1)) ?_
  rintro r M' ⟨rfl, rfl⟩
  exact ⟨_, rfl, H⟩
def PX11_lot (h : Int) (M : Mem) (Q : Int → Mem → Prop) : Prop := Q (fX11_lot M h) (fmX11_lot M h)
theorem pPX11_lot {E : EV} {h : Int} {M : Mem} {Q : Int → Mem → Prop} (H : PX11_lot h M Q) : C2 E miX11_lot 2 h [(2, 0)] M (RI 0 Q) := by
  refine C2_mono (pX11_lot (E := E) (h := h) (M := M) ) ?_
  rintro r M' ⟨rfl, rfl⟩
  exact ⟨_, rfl, H⟩
def PX12_lot (M : Mem) (Q : Int → Mem → Prop) : Prop := (nX12_lot M) ∧ Q (fX12_lot M) (fmX12_lot M)
theorem pPX12_lot {E : EV} {h : Int} {M : Mem} {Q : Int → Mem → Prop} (H : PX12_lot M Q) : C2 E miX12_lot 2 h [(2, 66)] M (RI 0 Q) := by
  refine C2_mono (pX12_lot (E := E) (h := h) (M := M) H.1) ?_
  rintro r M' ⟨rfl, rfl⟩
  exact ⟨_, rfl, H.2⟩
def PX11_seed (v1 : Int) (M : Mem) (Q : Int → Mem → Prop) : Prop := Q (fX11_seed v1) (fmX11_seed M v1)
theorem pPX11_seed {E : EV} {h : Int} {M : Mem} {v1 : Int} {Q : Int → Mem → Prop} (H : PX11_seed v1 M Q) : C2 E miX11_seed 1 h [(2, 0), (0, v1)] M (RI 0 Q) := by
  refine C2_mono (pX11_seed (E := E) (h := h) (M := M) (v1 := v1)) ?_
  rintro r M' ⟨rfl, rfl⟩
  exact ⟨_, rfl, H⟩
def PX12_seed (v1 : Int) (M : Mem) (Q : Int → Mem → Prop) : Prop := Q (fX12_seed v1) (fmX12_seed M v1)
theorem pPX12_seed {E : EV} {h : Int} {M : Mem} {v1 : Int} {Q : Int → Mem → Prop} (H : PX12_seed v1 M Q) : C2 E miX12_seed 1 h [(2, 66), (0, v1)] M (RI 0 Q) := by
  refine C2_mono (pX12_seed (E := E) (h := h) (M := M) (v1 := v1)) ?_
  rintro r M' ⟨rfl, rfl⟩
  exact ⟨_, rfl, H⟩
def PX11_image (h : Int) (M : Mem) (Q : Int → Mem → Prop) : Prop := Q (fX11_image M h) (fmX11_image M h)
theorem pPX11_image {E : EV} {h : Int} {M : Mem} {Q : Int → Mem → Prop} (H : PX11_image h M Q) : C2 E miX11_image 4 h [(2, 0)] M (RI 0 Q) := by
  refine C2_mono (pX11_image (E := E) (h := h) (M := M) ) ?_
  rintro r M' ⟨rfl, rfl⟩
  exact ⟨_, rfl, H⟩
def PX12_image (M : Mem) (Q : Int → Mem → Prop) : Prop := (nX12_image M) ∧ Q (fX12_image M) (fmX12_image M)
theorem pPX12_image {E : EV} {h : Int} {M : Mem} {Q : Int → Mem → Prop} (H : PX12_image M Q) : C2 E miX12_image 2 h [(2, 66)] M (RI 0 Q) := by
  refine C2_mono (pX12_image (E := E) (h := h) (M := M) H.1) ?_
  rintro r M' ⟨rfl, rfl⟩
  exact ⟨_, rfl, H.2⟩
def PX11_octet (v1 : Int) (M : Mem) (Q : Int → Mem → Prop) : Prop := Q (fX11_octet M v1) M
theorem pPX11_octet {E : EV} {h : Int} {M : Mem} {v1 : Int} {Q : Int → Mem → Prop} (H : PX11_octet v1 M Q) : C2 E miX11_octet 2 h [(2, 0), (0, v1)] M (RI 0 Q) := by
  refine C2_mono (pX11_octet (E := E) (h := h) (M := M) (v1 := v1)) ?_
  rintro r M' ⟨rfl, rfl⟩
  exact ⟨_, rfl, H⟩
def PX12_octet (v1 : Int) (M : Mem) (Q : Int → Mem → Prop) : Prop := (nX12_octet M v1) ∧ Q (fX12_octet M v1) M
theorem pPX12_octet {E : EV} {h : Int} {M : Mem} {v1 : Int} {Q : Int → Mem → Prop} (H : PX12_octet v1 M Q) : C2 E miX12_octet 1 h [(2, 66), (0, v1)] M (RI 0 Q) := by
  refine C2_mono (pX12_octet (E := E) (h := h) (M := M) (v1 := v1) H.1) ?_
  rintro r M' ⟨rfl, rfl⟩
  exact ⟨_, rfl, H.2⟩
def PX11_on (h : Int) (M : Mem) (Q : Int → Mem → Prop) : Prop := Q (fX11_on M h) (fmX11_on M h)
theorem pPX11_on {E : EV} {h : Int} {M : Mem} {Q : Int → Mem → Prop} (H : PX11_on h M Q) : C2 E miX11_on 5 h [(2, 0)] M (RI 0 Q) := by
  refine C2_mono (pX11_on (E := E) (h := h) (M := M) ) ?_
  rintro r M' ⟨rfl, rfl⟩
  exact ⟨_, rfl, H⟩
def PX12_on (M : Mem) (Q : Int → Mem → Prop) : Prop := (nX12_on M) ∧ Q (fX12_on M) (fmX12_on M)
theorem pPX12_on {E : EV} {h : Int} {M : Mem} {Q : Int → Mem → Prop} (H : PX12_on M Q) : C2 E miX12_on 4 h [(2, 66)] M (RI 0 Q) := by
  refine C2_mono (pX12_on (E := E) (h := h) (M := M) H.1) ?_
  rintro r M' ⟨rfl, rfl⟩
  exact ⟨_, rfl, H.2⟩
theorem two_feed {E : EV} {I : Mem → Prop} (H : ∀ (v1 v2 v3 v4 v5 : Int) (M : Mem), I M → okS S0 M → r32 v1 → r32 v2 → r32 v3 → r32 v4 → r32 v5 → ∃ h, G h M ∧ PX11_feed v1 v2 v3 v4 v5 M (fun a M1 => G h M1 → PX12_feed v1 v2 v3 v4 v5 M1 (fun b M2 => G h M2 → b = a ∧ I M2))) : Two_feed E I := by
  intro v1 v2 v3 v4 v5 M hI ok hok
  obtain ⟨h, hG, HP⟩ := H v1 v2 v3 v4 v5 M hI hok (ok (0, v1) (by simp)) (ok (0, v2) (by simp)) (ok (0, v3) (by simp)) (ok (0, v4) (by simp)) (ok (0, v5) (by simp))
  refine Ct_mono (d' := 0) (nc := 0) (ns := 0) (pPX11_feed (E := E) HP hG) ?_
  rintro r S M1 ⟨rfl, hG1, a, rfl, H1⟩
  refine ⟨rfl, a, rfl, ?_⟩
  refine Ct_mono (d' := 0) (nc := 0) (ns := 0) (pPX12_feed (E := E) (h := h) (H1 hG1) hG1) ?_
  rintro r' S' M2 ⟨rfl, hG2, b, rfl, H2⟩
  obtain ⟨rfl, hI2⟩ := H2 hG2
  exact ⟨rfl, rfl, hI2⟩
theorem two_end {E : EV} {I : Mem → Prop} (H : ∀ (v1 : Int) (M : Mem), I M → okS S0 M → r32 v1 → ∃ h, G h M ∧ PX11_end v1 M (fun a M1 => G h M1 → PX12_end v1 M1 (fun b M2 => G h M2 → b = a ∧ I M2))) : Two_end E I := by
  intro v1 M hI ok hok
  obtain ⟨h, hG, HP⟩ := H v1 M hI hok (ok (0, v1) (by simp))
  refine Ct_mono (d' := 0) (nc := 0) (ns := 0) (pPX11_end (E := E) HP hG) ?_
  rintro r S M1 ⟨rfl, hG1, a, rfl, H1⟩
  refine ⟨rfl, a, rfl, ?_⟩
  refine Ct_mono (d' := 0) (nc := 0) (ns := 0) (pPX12_end (E := E) (h := h) (H1 hG1) hG1) ?_
  rintro r' S' M2 ⟨rfl, hG2, b, rfl, H2⟩
  obtain ⟨rfl, hI2⟩ := H2 hG2
  exact ⟨rfl, rfl, hI2⟩
theorem two_text {E : EV} {I : Mem → Prop} (H : ∀ (M : Mem), I M → okS S0 M → ∃ h, G h M ∧ PX11_text h (81 - h) M (fun a M1 => (∃ h', G h' M1) → PX12_text M1 (fun b M2 => (∃ h', G h' M2) → b = a ∧ I M2))) : Two_text E I := by
  intro M hI ok hok
  obtain ⟨h, hG, HP⟩ := H M hI hok
  have hhd : isG (81 - h) := by
    rcases hG.2.2.2 with z | z
    · exact Or.inr (by omega)
    · exact Or.inl (by omega)
  refine Ct_mono (d' := 0) (nc := 0) (ns := 0) (pX11_text (E := E) rfl hhd HP hG) ?_
  rintro r S M1 ⟨rfl, ⟨h', hG1⟩, a, rfl, H1⟩
  refine ⟨rfl, a, rfl, ?_⟩
  refine Ct_mono (d' := 0) (nc := 0) (ns := 0) (pX12_text (E := E) (h := h') (H1 ⟨_, hG1⟩) hG1) ?_
  rintro r' S' M2 ⟨rfl, hG2, b, rfl, H2⟩
  obtain ⟨rfl, hI2⟩ := H2 ⟨_, hG2⟩
  exact ⟨rfl, rfl, hI2⟩
theorem two_fault {E : EV} {I : Mem → Prop} (H : ∀ (v1 : Int) (M : Mem), I M → okS S0 M → r32 v1 → ∃ h, G h M ∧ PX11_fault v1 M (fun a M1 => G h M1 → PX12_fault v1 M1 (fun b M2 => G h M2 → b = a ∧ I M2))) : Two_fault E I := by
  intro v1 M hI ok hok
  obtain ⟨h, hG, HP⟩ := H v1 M hI hok (ok (0, v1) (by simp))
  refine Ct_mono (d' := 0) (nc := 0) (ns := 0) (pPX11_fault (E := E) HP hG) ?_
  rintro r S M1 ⟨rfl, hG1, a, rfl, H1⟩
  refine ⟨rfl, a, rfl, ?_⟩
  refine Ct_mono (d' := 0) (nc := 0) (ns := 0) (pPX12_fault (E := E) (h := h) (H1 hG1) hG1) ?_
  rintro r' S' M2 ⟨rfl, hG2, b, rfl, H2⟩
  obtain ⟨rfl, hI2⟩ := H2 hG2
  exact ⟨rfl, rfl, hI2⟩
theorem two_hall {E : EV} {I : Mem → Prop} (H : ∀ (v1 : Int) (M : Mem), I M → okS S0 M → r32 v1 → ∃ h, G h M ∧ PX11_hall h v1 M (fun a M1 => G h M1 → PX12_hall v1 M1 (fun b M2 => G h M2 → b = a ∧ I M2))) : Two_hall E I := by
  intro v1 M hI ok hok
  obtain ⟨h, hG, HP⟩ := H v1 M hI hok (ok (0, v1) (by simp))
  refine Ct_mono (d' := 0) (nc := 0) (ns := 0) (pPX11_hall (E := E) HP hG) ?_
  rintro r S M1 ⟨rfl, hG1, a, rfl, H1⟩
  refine ⟨rfl, a, rfl, ?_⟩
  refine Ct_mono (d' := 0) (nc := 0) (ns := 0) (pPX12_hall (E := E) (h := h) (H1 hG1) hG1) ?_
  rintro r' S' M2 ⟨rfl, hG2, b, rfl, H2⟩
  obtain ⟨rfl, hI2⟩ := H2 hG2
  exact ⟨rfl, rfl, hI2⟩
theorem two_letter {E : EV} {I : Mem → Prop} (H : ∀ (v1 v2 v3 : Int) (M : Mem), I M → okS S0 M → r32 v1 → r32 v2 → r32 v3 → ∃ h, G h M ∧ PX11_letter h v1 v2 v3 M (fun a M1 => G h M1 → PX12_letter v1 v2 v3 M1 (fun b M2 => G h M2 → b = a ∧ I M2))) : Two_letter E I := by
  intro v1 v2 v3 M hI ok hok
  obtain ⟨h, hG, HP⟩ := H v1 v2 v3 M hI hok (ok (0, v1) (by simp)) (ok (0, v2) (by simp)) (ok (0, v3) (by simp))
  refine Ct_mono (d' := 0) (nc := 0) (ns := 0) (pPX11_letter (E := E) HP hG) ?_
  rintro r S M1 ⟨rfl, hG1, a, rfl, H1⟩
  refine ⟨rfl, a, rfl, ?_⟩
  refine Ct_mono (d' := 0) (nc := 0) (ns := 0) (pX12_letter (E := E) (h := h) (H1 hG1) hG1) ?_
  rintro r' S' M2 ⟨rfl, hG2, b, rfl, H2⟩
  obtain ⟨rfl, hI2⟩ := H2 hG2
  exact ⟨rfl, rfl, hI2⟩
theorem two_person {E : EV} {I : Mem → Prop} (H : ∀ (v1 v2 : Int) (M : Mem), I M → okS S0 M → r32 v1 → r32 v2 → ∃ h, G h M ∧ PX11_person h v1 v2 M (fun a M1 => G h M1 → PX12_person v1 v2 M1 (fun b M2 => G h M2 → b = a ∧ I M2))) : Two_person E I := by
  intro v1 v2 M hI ok hok
  obtain ⟨h, hG, HP⟩ := H v1 v2 M hI hok (ok (0, v1) (by simp)) (ok (0, v2) (by simp))
  refine Ct_mono (d' := 0) (nc := 0) (ns := 0) (pPX11_person (E := E) HP hG) ?_
  rintro r S M1 ⟨rfl, hG1, a, rfl, H1⟩
  refine ⟨rfl, a, rfl, ?_⟩
  refine Ct_mono (d' := 0) (nc := 0) (ns := 0) (pPX12_person (E := E) (h := h) (H1 hG1) hG1) ?_
  rintro r' S' M2 ⟨rfl, hG2, b, rfl, H2⟩
  obtain ⟨rfl, hI2⟩ := H2 hG2
  exact ⟨rfl, rfl, hI2⟩
theorem two_guard {E : EV} {I : Mem → Prop} (H : ∀ (v1 v2 : Int) (M : Mem), I M → okS S0 M → r32 v1 → r32 v2 → ∃ h, G h M ∧ PX11_guard h v1 v2 M (fun a M1 => G h M1 → PX12_guard v1 v2 M1 (fun b M2 => G h M2 → b = a ∧ I M2))) : Two_guard E I := by
  intro v1 v2 M hI ok hok
  obtain ⟨h, hG, HP⟩ := H v1 v2 M hI hok (ok (0, v1) (by simp)) (ok (0, v2) (by simp))
  refine Ct_mono (d' := 0) (nc := 0) (ns := 0) (pPX11_guard (E := E) HP hG) ?_
  rintro r S M1 ⟨rfl, hG1, a, rfl, H1⟩
  refine ⟨rfl, a, rfl, ?_⟩
  refine Ct_mono (d' := 0) (nc := 0) (ns := 0) (pPX12_guard (E := E) (h := h) (H1 hG1) hG1) ?_
  rintro r' S' M2 ⟨rfl, hG2, b, rfl, H2⟩
  obtain ⟨rfl, hI2⟩ := H2 hG2
  exact ⟨rfl, rfl, hI2⟩
theorem two_door {E : EV} {I : Mem → Prop} (H : ∀ (v1 v2 : Int) (M : Mem), I M → okS S0 M → r32 v1 → r32 v2 → ∃ h, G h M ∧ PX11_door h v1 v2 M (fun a M1 => G h M1 → PX12_door v1 v2 M1 (fun b M2 => G h M2 → b = a ∧ I M2))) : Two_door E I := by
  intro v1 v2 M hI ok hok
  obtain ⟨h, hG, HP⟩ := H v1 v2 M hI hok (ok (0, v1) (by simp)) (ok (0, v2) (by simp))
  refine Ct_mono (d' := 0) (nc := 0) (ns := 0) (pX11_door (E := E) HP hG) ?_
  rintro r S M1 ⟨rfl, hG1, a, rfl, H1⟩
  refine ⟨rfl, a, rfl, ?_⟩
  refine Ct_mono (d' := 0) (nc := 0) (ns := 0) (pX12_door (E := E) (h := h) (H1 hG1) hG1) ?_
  rintro r' S' M2 ⟨rfl, hG2, b, rfl, H2⟩
  obtain ⟨rfl, hI2⟩ := H2 hG2
  exact ⟨rfl, rfl, hI2⟩
theorem two_where {E : EV} {I : Mem → Prop} (H : ∀ (v1 v2 : Int) (M : Mem), I M → okS S0 M → r32 v1 → r32 v2 → ∃ h, G h M ∧ PX11_where h v1 v2 M (fun a M1 => G h M1 → PX12_where v1 v2 M1 (fun b M2 => G h M2 → b = a ∧ I M2))) : Two_where E I := by
  intro v1 v2 M hI ok hok
  obtain ⟨h, hG, HP⟩ := H v1 v2 M hI hok (ok (0, v1) (by simp)) (ok (0, v2) (by simp))
  refine Ct_mono (d' := 0) (nc := 0) (ns := 0) (pX11_where (E := E) HP hG) ?_
  rintro r S M1 ⟨rfl, hG1, a, rfl, H1⟩
  refine ⟨rfl, a, rfl, ?_⟩
  refine Ct_mono (d' := 0) (nc := 0) (ns := 0) (pX12_where (E := E) (h := h) (H1 hG1) hG1) ?_
  rintro r' S' M2 ⟨rfl, hG2, b, rfl, H2⟩
  obtain ⟨rfl, hI2⟩ := H2 hG2
  exact ⟨rfl, rfl, hI2⟩
theorem two_does {E : EV} {I : Mem → Prop} (H : ∀ (v1 v2 : Int) (M : Mem), I M → okS S0 M → r32 v1 → r32 v2 → ∃ h, G h M ∧ PX11_does h v1 v2 M (fun a M1 => G h M1 → PX12_does v1 v2 M1 (fun b M2 => G h M2 → b = a ∧ I M2))) : Two_does E I := by
  intro v1 v2 M hI ok hok
  obtain ⟨h, hG, HP⟩ := H v1 v2 M hI hok (ok (0, v1) (by simp)) (ok (0, v2) (by simp))
  refine Ct_mono (d' := 0) (nc := 0) (ns := 0) (pX11_does (E := E) HP hG) ?_
  rintro r S M1 ⟨rfl, hG1, a, rfl, H1⟩
  refine ⟨rfl, a, rfl, ?_⟩
  refine Ct_mono (d' := 0) (nc := 0) (ns := 0) (pX12_does (E := E) (h := h) (H1 hG1) hG1) ?_
  rintro r' S' M2 ⟨rfl, hG2, b, rfl, H2⟩
  obtain ⟨rfl, hI2⟩ := H2 hG2
  exact ⟨rfl, rfl, hI2⟩
theorem two_count {E : EV} {I : Mem → Prop} (H : ∀ (v1 v2 : Int) (M : Mem), I M → okS S0 M → r32 v1 → r32 v2 → ∃ h, G h M ∧ PX11_count h v1 v2 M (fun a M1 => G h M1 → PX12_count v1 v2 M1 (fun b M2 => G h M2 → b = a ∧ I M2))) : Two_count E I := by
  intro v1 v2 M hI ok hok
  obtain ⟨h, hG, HP⟩ := H v1 v2 M hI hok (ok (0, v1) (by simp)) (ok (0, v2) (by simp))
  refine Ct_mono (d' := 0) (nc := 0) (ns := 0) (pX11_count (E := E) HP hG) ?_
  rintro r S M1 ⟨rfl, hG1, a, rfl, H1⟩
  refine ⟨rfl, a, rfl, ?_⟩
  refine Ct_mono (d' := 0) (nc := 0) (ns := 0) (pX12_count (E := E) (h := h) (H1 hG1) hG1) ?_
  rintro r' S' M2 ⟨rfl, hG2, b, rfl, H2⟩
  obtain ⟨rfl, hI2⟩ := H2 hG2
  exact ⟨rfl, rfl, hI2⟩
theorem two_whole {E : EV} {I : Mem → Prop} (H : ∀ (v1 : Int) (M : Mem), I M → okS S0 M → r32 v1 → ∃ h, G h M ∧ PX11_whole h v1 M (fun a M1 => G h M1 → PX12_whole v1 M1 (fun b M2 => G h M2 → b = a ∧ I M2))) : Two_whole E I := by
  intro v1 M hI ok hok
  obtain ⟨h, hG, HP⟩ := H v1 M hI hok (ok (0, v1) (by simp))
  refine Ct_mono (d' := 0) (nc := 0) (ns := 0) (pX11_whole (E := E) HP hG) ?_
  rintro r S M1 ⟨rfl, hG1, a, rfl, H1⟩
  refine ⟨rfl, a, rfl, ?_⟩
  refine Ct_mono (d' := 0) (nc := 0) (ns := 0) (pX12_whole (E := E) (h := h) (H1 hG1) hG1) ?_
  rintro r' S' M2 ⟨rfl, hG2, b, rfl, H2⟩
  obtain ⟨rfl, hI2⟩ := H2 hG2
  exact ⟨rfl, rfl, hI2⟩
theorem two_set {E : EV} {I : Mem → Prop} (H : ∀ (v1 v2 v3 : Int) (M : Mem), I M → okS S0 M → r32 v1 → r32 v2 → r32 v3 → ∃ h, G h M ∧ PX11_set h v1 v2 v3 M (fun a M1 => G h M1 → PX12_set v1 v2 v3 M1 (fun b M2 => G h M2 → b = a ∧ I M2))) : Two_set E I := by
  intro v1 v2 v3 M hI ok hok
  obtain ⟨h, hG, HP⟩ := H v1 v2 v3 M hI hok (ok (0, v1) (by simp)) (ok (0, v2) (by simp)) (ok (0, v3) (by simp))
  refine Ct_mono (d' := 0) (nc := 0) (ns := 0) (pPX11_set (E := E) HP hG) ?_
  rintro r S M1 ⟨rfl, hG1, a, rfl, H1⟩
  refine ⟨rfl, a, rfl, ?_⟩
  refine Ct_mono (d' := 0) (nc := 0) (ns := 0) (pX12_set (E := E) (h := h) (H1 hG1) hG1) ?_
  rintro r' S' M2 ⟨rfl, hG2, b, rfl, H2⟩
  obtain ⟨rfl, hI2⟩ := H2 hG2
  exact ⟨rfl, rfl, hI2⟩
theorem two_close {E : EV} {I : Mem → Prop} (H : ∀ (v1 v2 : Int) (M : Mem), (v2 = 0 ∨ v2 = 1) → I M → okS S0 M → r32 v1 → r32 v2 → ∃ h, G h M ∧ PX11_close h v1 v2 M (fun a M1 => G h M1 → PX12_close v1 v2 M1 (fun b M2 => G h M2 → b = a ∧ I M2))) : Two_close E I := by
  intro v1 v2 hz M hI ok hok
  obtain ⟨h, hG, HP⟩ := H v1 v2 M hz hI hok (ok (0, v1) (by simp)) (ok (0, v2) (by simp))
  refine Ct_mono (d' := 0) (nc := 0) (ns := 0) (pPX11_close (E := E) HP hG) ?_
  rintro r S M1 ⟨rfl, hG1, a, rfl, H1⟩
  refine ⟨rfl, a, rfl, ?_⟩
  refine Ct_mono (d' := 0) (nc := 0) (ns := 0) (pX12_close (E := E) (h := h) (H1 hG1) hG1) ?_
  rintro r' S' M2 ⟨rfl, hG2, b, rfl, H2⟩
  obtain ⟨rfl, hI2⟩ := H2 hG2
  exact ⟨rfl, rfl, hI2⟩
theorem two_undo {E : EV} {I : Mem → Prop} (H : ∀ (M : Mem), I M → okS S0 M → ∃ h, G h M ∧ PX11_undo h M (fun a M1 => G h M1 → PX12_undo M1 (fun b M2 => G h M2 → b = a ∧ I M2))) : Two_undo E I := by
  intro M hI ok hok
  obtain ⟨h, hG, HP⟩ := H M hI hok 
  refine Ct_mono (d' := 0) (nc := 0) (ns := 0) (pPX11_undo (E := E) HP hG) ?_
  rintro r S M1 ⟨rfl, hG1, a, rfl, H1⟩
  refine ⟨rfl, a, rfl, ?_⟩
  refine Ct_mono (d' := 0) (nc := 0) (ns := 0) (pX12_undo (E := E) (h := h) (H1 hG1) hG1) ?_
  rintro r' S' M2 ⟨rfl, hG2, b, rfl, H2⟩
  obtain ⟨rfl, hI2⟩ := H2 hG2
  exact ⟨rfl, rfl, hI2⟩
theorem two_come {E : EV} {I : Mem → Prop} (H : ∀ (v1 : Int) (M : Mem), I M → okS S0 M → r32 v1 → ∃ h, G h M ∧ PX11_come h v1 M (fun a M1 => G h M1 → PX12_come v1 M1 (fun b M2 => G h M2 → b = a ∧ I M2))) : Two_come E I := by
  intro v1 M hI ok hok
  obtain ⟨h, hG, HP⟩ := H v1 M hI hok (ok (0, v1) (by simp))
  refine Ct_mono (d' := 0) (nc := 0) (ns := 0) (pPX11_come (E := E) HP hG) ?_
  rintro r S M1 ⟨rfl, hG1, a, rfl, H1⟩
  refine ⟨rfl, a, rfl, ?_⟩
  refine Ct_mono (d' := 0) (nc := 0) (ns := 0) (pPX12_come (E := E) (h := h) (H1 hG1) hG1) ?_
  rintro r' S' M2 ⟨rfl, hG2, b, rfl, H2⟩
  obtain ⟨rfl, hI2⟩ := H2 hG2
  exact ⟨rfl, rfl, hI2⟩
theorem two_lot {E : EV} {I : Mem → Prop} (H : ∀ (M : Mem), I M → okS S0 M → ∃ h, G h M ∧ PX11_lot h M (fun a M1 => G h M1 → PX12_lot M1 (fun b M2 => G h M2 → b = a ∧ I M2))) : Two_lot E I := by
  intro M hI ok hok
  obtain ⟨h, hG, HP⟩ := H M hI hok 
  refine Ct_mono (d' := 0) (nc := 0) (ns := 0) (pPX11_lot (E := E) HP hG) ?_
  rintro r S M1 ⟨rfl, hG1, a, rfl, H1⟩
  refine ⟨rfl, a, rfl, ?_⟩
  refine Ct_mono (d' := 0) (nc := 0) (ns := 0) (pPX12_lot (E := E) (h := h) (H1 hG1) hG1) ?_
  rintro r' S' M2 ⟨rfl, hG2, b, rfl, H2⟩
  obtain ⟨rfl, hI2⟩ := H2 hG2
  exact ⟨rfl, rfl, hI2⟩
theorem two_seed {E : EV} {I : Mem → Prop} (H : ∀ (v1 : Int) (M : Mem), I M → okS S0 M → r32 v1 → ∃ h, G h M ∧ PX11_seed v1 M (fun a M1 => G h M1 → PX12_seed v1 M1 (fun b M2 => G h M2 → b = a ∧ I M2))) : Two_seed E I := by
  intro v1 M hI ok hok
  obtain ⟨h, hG, HP⟩ := H v1 M hI hok (ok (0, v1) (by simp))
  refine Ct_mono (d' := 0) (nc := 0) (ns := 0) (pPX11_seed (E := E) HP hG) ?_
  rintro r S M1 ⟨rfl, hG1, a, rfl, H1⟩
  refine ⟨rfl, a, rfl, ?_⟩
  refine Ct_mono (d' := 0) (nc := 0) (ns := 0) (pPX12_seed (E := E) (h := h) (H1 hG1) hG1) ?_
  rintro r' S' M2 ⟨rfl, hG2, b, rfl, H2⟩
  obtain ⟨rfl, hI2⟩ := H2 hG2
  exact ⟨rfl, rfl, hI2⟩
theorem two_odds {E : EV} {I : Mem → Prop} (H : ∀ (M : Mem), I M → okS S0 M → ∃ h, G h M ∧ PX11_odds h M (fun a M1 => G h M1 → PX12_odds M1 (fun b M2 => G h M2 → b = a ∧ I M2))) : Two_odds E I := by
  intro M hI ok hok
  obtain ⟨h, hG, HP⟩ := H M hI hok 
  refine Ct_mono (d' := 0) (nc := 0) (ns := 0) (pX11_odds (E := E) HP hG) ?_
  rintro r S M1 ⟨rfl, hG1, a, rfl, H1⟩
  refine ⟨rfl, a, rfl, ?_⟩
  refine Ct_mono (d' := 0) (nc := 0) (ns := 0) (pX12_odds (E := E) (h := h) (H1 hG1) hG1) ?_
  rintro r' S' M2 ⟨rfl, hG2, b, rfl, H2⟩
  obtain ⟨rfl, hI2⟩ := H2 hG2
  exact ⟨rfl, rfl, hI2⟩
theorem two_spark {E : EV} {I : Mem → Prop} (H : ∀ (v1 : Int) (M : Mem), I M → okS S0 M → r32 v1 → ∃ h, G h M ∧ PX11_spark h v1 M (fun a M1 => G h M1 → PX12_spark v1 M1 (fun b M2 => G h M2 → b = a ∧ I M2))) : Two_spark E I := by
  intro v1 M hI ok hok
  obtain ⟨h, hG, HP⟩ := H v1 M hI hok (ok (0, v1) (by simp))
  refine Ct_mono (d' := 0) (nc := 0) (ns := 0) (pX11_spark (E := E) HP hG) ?_
  rintro r S M1 ⟨rfl, hG1, a, rfl, H1⟩
  refine ⟨rfl, a, rfl, ?_⟩
  refine Ct_mono (d' := 0) (nc := 0) (ns := 0) (pX12_spark (E := E) (h := h) (H1 hG1) hG1) ?_
  rintro r' S' M2 ⟨rfl, hG2, b, rfl, H2⟩
  obtain ⟨rfl, hI2⟩ := H2 hG2
  exact ⟨rfl, rfl, hI2⟩
theorem two_daring {E : EV} {I : Mem → Prop} (H : ∀ (v1 : Int) (M : Mem), I M → okS S0 M → r32 v1 → ∃ h, G h M ∧ PX11_daring h v1 M (fun a M1 => G h M1 → PX12_daring v1 M1 (fun b M2 => G h M2 → b = a ∧ I M2))) : Two_daring E I := by
  intro v1 M hI ok hok
  obtain ⟨h, hG, HP⟩ := H v1 M hI hok (ok (0, v1) (by simp))
  refine Ct_mono (d' := 0) (nc := 0) (ns := 0) (pX11_daring (E := E) HP hG) ?_
  rintro r S M1 ⟨rfl, hG1, a, rfl, H1⟩
  refine ⟨rfl, a, rfl, ?_⟩
  refine Ct_mono (d' := 0) (nc := 0) (ns := 0) (pX12_daring (E := E) (h := h) (H1 hG1) hG1) ?_
  rintro r' S' M2 ⟨rfl, hG2, b, rfl, H2⟩
  obtain ⟨rfl, hI2⟩ := H2 hG2
  exact ⟨rfl, rfl, hI2⟩
theorem two_late {E : EV} {I : Mem → Prop} (H : ∀ (v1 : Int) (M : Mem), I M → okS S0 M → r32 v1 → ∃ h, G h M ∧ PX11_late h v1 M (fun a M1 => G h M1 → PX12_late v1 M1 (fun b M2 => G h M2 → b = a ∧ I M2))) : Two_late E I := by
  intro v1 M hI ok hok
  obtain ⟨h, hG, HP⟩ := H v1 M hI hok (ok (0, v1) (by simp))
  refine Ct_mono (d' := 0) (nc := 0) (ns := 0) (pX11_late (E := E) HP hG) ?_
  rintro r S M1 ⟨rfl, hG1, a, rfl, H1⟩
  refine ⟨rfl, a, rfl, ?_⟩
  refine Ct_mono (d' := 0) (nc := 0) (ns := 0) (pX12_late (E := E) (h := h) (H1 hG1) hG1) ?_
  rintro r' S' M2 ⟨rfl, hG2, b, rfl, H2⟩
  obtain ⟨rfl, hI2⟩ := H2 hG2
  exact ⟨rfl, rfl, hI2⟩
theorem two_post {E : EV} {I : Mem → Prop} (H : ∀ (v1 v2 : Int) (M : Mem), I M → okS S0 M → r32 v1 → r32 v2 → ∃ h, G h M ∧ PX11_post h v1 v2 M (fun a M1 => G h M1 → PX12_post v1 v2 M1 (fun b M2 => G h M2 → b = a ∧ I M2))) : Two_post E I := by
  intro v1 v2 M hI ok hok
  obtain ⟨h, hG, HP⟩ := H v1 v2 M hI hok (ok (0, v1) (by simp)) (ok (0, v2) (by simp))
  refine Ct_mono (d' := 0) (nc := 0) (ns := 0) (pX11_post (E := E) HP hG) ?_
  rintro r S M1 ⟨rfl, hG1, a, rfl, H1⟩
  refine ⟨rfl, a, rfl, ?_⟩
  refine Ct_mono (d' := 0) (nc := 0) (ns := 0) (pX12_post (E := E) (h := h) (H1 hG1) hG1) ?_
  rintro r' S' M2 ⟨rfl, hG2, b, rfl, H2⟩
  obtain ⟨rfl, hI2⟩ := H2 hG2
  exact ⟨rfl, rfl, hI2⟩
theorem two_ask {E : EV} {I : Mem → Prop} (H : ∀ (M : Mem), I M → okS S0 M → ∃ h, G h M ∧ PX11_ask h M (fun a M1 => G h M1 → PX12_ask M1 (fun b M2 => G h M2 → b = a ∧ I M2))) : Two_ask E I := by
  intro M hI ok hok
  obtain ⟨h, hG, HP⟩ := H M hI hok 
  refine Ct_mono (d' := 0) (nc := 0) (ns := 0) (pX11_ask (E := E) HP hG) ?_
  rintro r S M1 ⟨rfl, hG1, a, rfl, H1⟩
  refine ⟨rfl, a, rfl, ?_⟩
  refine Ct_mono (d' := 0) (nc := 0) (ns := 0) (pX12_ask (E := E) (h := h) (H1 hG1) hG1) ?_
  rintro r' S' M2 ⟨rfl, hG2, b, rfl, H2⟩
  obtain ⟨rfl, hI2⟩ := H2 hG2
  exact ⟨rfl, rfl, hI2⟩
theorem two_image {E : EV} {I : Mem → Prop} (H : ∀ (M : Mem), I M → okS S0 M → ∃ h, G h M ∧ PX11_image h M (fun a M1 => G h M1 → PX12_image M1 (fun b M2 => G h M2 → b = a ∧ I M2))) : Two_image E I := by
  intro M hI ok hok
  obtain ⟨h, hG, HP⟩ := H M hI hok 
  refine Ct_mono (d' := 0) (nc := 0) (ns := 0) (pPX11_image (E := E) HP hG) ?_
  rintro r S M1 ⟨rfl, hG1, a, rfl, H1⟩
  refine ⟨rfl, a, rfl, ?_⟩
  refine Ct_mono (d' := 0) (nc := 0) (ns := 0) (pPX12_image (E := E) (h := h) (H1 hG1) hG1) ?_
  rintro r' S' M2 ⟨rfl, hG2, b, rfl, H2⟩
  obtain ⟨rfl, hI2⟩ := H2 hG2
  exact ⟨rfl, rfl, hI2⟩
theorem two_octet {E : EV} {I : Mem → Prop} (H : ∀ (v1 : Int) (M : Mem), I M → okS S0 M → r32 v1 → ∃ h, G h M ∧ PX11_octet v1 M (fun a M1 => G h M1 → PX12_octet v1 M1 (fun b M2 => G h M2 → b = a ∧ I M2))) : Two_octet E I := by
  intro v1 M hI ok hok
  obtain ⟨h, hG, HP⟩ := H v1 M hI hok (ok (0, v1) (by simp))
  refine Ct_mono (d' := 0) (nc := 0) (ns := 0) (pPX11_octet (E := E) HP hG) ?_
  rintro r S M1 ⟨rfl, hG1, a, rfl, H1⟩
  refine ⟨rfl, a, rfl, ?_⟩
  refine Ct_mono (d' := 0) (nc := 0) (ns := 0) (pPX12_octet (E := E) (h := h) (H1 hG1) hG1) ?_
  rintro r' S' M2 ⟨rfl, hG2, b, rfl, H2⟩
  obtain ⟨rfl, hI2⟩ := H2 hG2
  exact ⟨rfl, rfl, hI2⟩
theorem two_on {E : EV} {I : Mem → Prop} (H : ∀ (M : Mem), I M → okS S0 M → ∃ h, G h M ∧ PX11_on h M (fun a M1 => G h M1 → PX12_on M1 (fun b M2 => G h M2 → b = a ∧ I M2))) : Two_on E I := by
  intro M hI ok hok
  obtain ⟨h, hG, HP⟩ := H M hI hok 
  refine Ct_mono (d' := 0) (nc := 0) (ns := 0) (pPX11_on (E := E) HP hG) ?_
  rintro r S M1 ⟨rfl, hG1, a, rfl, H1⟩
  refine ⟨rfl, a, rfl, ?_⟩
  refine Ct_mono (d' := 0) (nc := 0) (ns := 0) (pPX12_on (E := E) (h := h) (H1 hG1) hG1) ?_
  rintro r' S' M2 ⟨rfl, hG2, b, rfl, H2⟩
  obtain ⟨rfl, hI2⟩ := H2 hG2
  exact ⟨rfl, rfl, hI2⟩
