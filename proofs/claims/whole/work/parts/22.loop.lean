/-! the law's loop, from what the calls promise -/
/-- the class's call and the reference's one behind it: the same answer, the worlds go on -/
def Two (E : EV) (I : Mem → Prop) (mx mm : MI) (dx dm : Nat) (tag : Nat) (args : List MV) : Prop := ∀ M, I M → (∀ v ∈ args, okv 126 v) → okS S0 M →
  Ct E mx dx 0 0 ((2, 0) :: args) S0 M (fun r S M1 => S = S0 ∧ ∃ a, r = some (tag, a) ∧ Ct E mm dm 0 0 ((2, 66) :: args) S0 M1 (fun r' S' M2 => S' = S0 ∧ r' = some (tag, a) ∧ I M2))
def Two_feed (E : EV) (I : Mem → Prop) : Prop := ∀ v1 v2 v3 v4 v5 : Int, Two E I miX11_feed miX12_feed 3 1 0 [(0, v1), (0, v2), (0, v3), (0, v4), (0, v5)]
def Two_end (E : EV) (I : Mem → Prop) : Prop := ∀ v1 : Int, Two E I miX11_end miX12_end 2 1 0 [(0, v1)]
def Two_text (E : EV) (I : Mem → Prop) : Prop := Two E I miX11_text miX12_text 12 8 0 []
def Two_fault (E : EV) (I : Mem → Prop) : Prop := ∀ v1 : Int, Two E I miX11_fault miX12_fault 1 1 0 [(0, v1)]
def Two_hall (E : EV) (I : Mem → Prop) : Prop := ∀ v1 : Int, Two E I miX11_hall miX12_hall 3 3 0 [(0, v1)]
def Two_letter (E : EV) (I : Mem → Prop) : Prop := ∀ v1 v2 v3 : Int, Two E I miX11_letter miX12_letter 2 2 0 [(0, v1), (0, v2), (0, v3)]
def Two_person (E : EV) (I : Mem → Prop) : Prop := ∀ v1 v2 : Int, Two E I miX11_person miX12_person 2 3 0 [(0, v1), (0, v2)]
def Two_guard (E : EV) (I : Mem → Prop) : Prop := ∀ v1 v2 : Int, Two E I miX11_guard miX12_guard 2 2 0 [(0, v1), (0, v2)]
def Two_door (E : EV) (I : Mem → Prop) : Prop := ∀ v1 v2 : Int, Two E I miX11_door miX12_door 8 7 0 [(0, v1), (0, v2)]
def Two_where (E : EV) (I : Mem → Prop) : Prop := ∀ v1 v2 : Int, Two E I miX11_where miX12_where 8 7 0 [(0, v1), (0, v2)]
def Two_does (E : EV) (I : Mem → Prop) : Prop := ∀ v1 v2 : Int, Two E I miX11_does miX12_does 8 7 0 [(0, v1), (0, v2)]
def Two_count (E : EV) (I : Mem → Prop) : Prop := ∀ v1 v2 : Int, Two E I miX11_count miX12_count 8 7 0 [(0, v1), (0, v2)]
def Two_whole (E : EV) (I : Mem → Prop) : Prop := ∀ v1 : Int, Two E I miX11_whole miX12_whole 8 7 0 [(0, v1)]
def Two_set (E : EV) (I : Mem → Prop) : Prop := ∀ v1 v2 v3 : Int, Two E I miX11_set miX12_set 4 3 0 [(0, v1), (0, v2), (0, v3)]
def Two_close (E : EV) (I : Mem → Prop) : Prop := ∀ v1 v2 : Int, (v2 = 0 ∨ v2 = 1) → Two E I miX11_close miX12_close 3 3 0 [(0, v1), (0, v2)]
def Two_undo (E : EV) (I : Mem → Prop) : Prop := Two E I miX11_undo miX12_undo 4 2 0 []
def Two_come (E : EV) (I : Mem → Prop) : Prop := ∀ v1 : Int, Two E I miX11_come miX12_come 2 2 0 [(0, v1)]
def Two_lot (E : EV) (I : Mem → Prop) : Prop := Two E I miX11_lot miX12_lot 2 2 0 []
def Two_seed (E : EV) (I : Mem → Prop) : Prop := ∀ v1 : Int, Two E I miX11_seed miX12_seed 1 1 0 [(0, v1)]
def Two_odds (E : EV) (I : Mem → Prop) : Prop := Two E I miX11_odds miX12_odds 8 8 0 []
def Two_spark (E : EV) (I : Mem → Prop) : Prop := ∀ v1 : Int, Two E I miX11_spark miX12_spark 7 7 0 [(0, v1)]
def Two_daring (E : EV) (I : Mem → Prop) : Prop := ∀ v1 : Int, Two E I miX11_daring miX12_daring 7 8 0 [(0, v1)]
def Two_late (E : EV) (I : Mem → Prop) : Prop := ∀ v1 : Int, Two E I miX11_late miX12_late 7 8 0 [(0, v1)]
def Two_post (E : EV) (I : Mem → Prop) : Prop := ∀ v1 v2 : Int, Two E I miX11_post miX12_post 7 7 0 [(0, v1), (0, v2)]
def Two_ask (E : EV) (I : Mem → Prop) : Prop := Two E I miX11_ask miX12_ask 82 10 1 []
def Two_image (E : EV) (I : Mem → Prop) : Prop := Two E I miX11_image miX12_image 4 2 0 []
def Two_octet (E : EV) (I : Mem → Prop) : Prop := ∀ v1 : Int, Two E I miX11_octet miX12_octet 2 1 0 [(0, v1)]
def Two_on (E : EV) (I : Mem → Prop) : Prop := Two E I miX11_on miX12_on 5 4 0 []
def Twos (E : EV) (I : Mem → Prop) : Prop := Two_feed E I ∧ Two_end E I ∧ Two_text E I ∧ Two_fault E I ∧ Two_hall E I ∧ Two_letter E I ∧ Two_person E I ∧ Two_guard E I ∧ Two_door E I ∧ Two_where E I ∧ Two_does E I ∧ Two_count E I ∧ Two_whole E I ∧ Two_set E I ∧ Two_close E I ∧ Two_undo E I ∧ Two_come E I ∧ Two_lot E I ∧ Two_seed E I ∧ Two_odds E I ∧ Two_spark E I ∧ Two_daring E I ∧ Two_late E I ∧ Two_post E I ∧ Two_ask E I ∧ Two_image E I ∧ Two_octet E I ∧ Two_on E I
theorem sx (i : Int) (j : Nat) (h0 : 0 ≤ i) (h1 : i + 6 ≤ 3072) (hj : j ≤ 5) : wr32 (i + (j : Nat)) = i + (j : Nat) := wr32_id (by unfold r32; omega)
set_option maxHeartbeats 8000000 in
set_option maxRecDepth 100000 in
theorem law_loop {E : EV} {b Ln : Nat} {xs : Nat → Int32} {p : Program} {e : Env} {s : State} {m : MethodId} {below : List Frame} {meth : Method} {c : Code} (C : LA E b Ln xs p s m meth c) (I : Mem → Prop) (hT : Twos E I) : ∀ (k : Nat) (i : Int) (M : Mem), 0 ≤ i → i ≤ 3078 → (Ln : Int) - i < k → I M → TL E b Ln xs p e s m below meth c 18 [(2, 1015), (2, 0), (2, 66), (0, i)] [] S0 M 126 19621 := by
  obtain ⟨h_feed, h_end, h_text, h_fault, h_hall, h_letter, h_person, h_guard, h_door, h_where, h_does, h_count, h_whole, h_set, h_close, h_undo, h_come, h_lot, h_seed, h_odds, h_spark, h_daring, h_late, h_post, h_ask, h_image, h_octet, h_on⟩ := hT
  have hLn := C.2
  intro k
  induction k with
  | zero =>
    intro i M h0 h9 hk hI
    refine L_iload_n C (i := 3) (pc' := 19) dL_law_18 rfl rfl rfl ?_
    refine L_aload_n C (i := 0) (pc' := 20) dL_law_19 rfl rfl rfl ?_
    refine L_slen C (pc' := 21) dL_law_20 rfl ?_
    refine L_bipush C (pc' := 23) dL_law_21 rfl (by decide) rfl ?_
    refine L_isub C (pc' := 24) dL_law_23 rfl ?_
    refine L_icmp_gt C (pc' := 917) dL_law_24 (by decide) (pf := 27) rfl (fun _ => ?_) (fun z => absurd (by unfold wr32; omega) z)
    refine L_iconst C (pc' := 918) dL_law_917 (by decide) rfl ?_
    exact L_ret C dL_law_918 ⟨by decide, by decide⟩
  | succ k ih =>
    intro i M h0 h9 hk hI
    refine L_iload_n C (i := 3) (pc' := 19) dL_law_18 rfl rfl rfl ?_
    refine L_aload_n C (i := 0) (pc' := 20) dL_law_19 rfl rfl rfl ?_
    refine L_slen C (pc' := 21) dL_law_20 rfl ?_
    refine L_bipush C (pc' := 23) dL_law_21 rfl (by decide) rfl ?_
    refine L_isub C (pc' := 24) dL_law_23 rfl ?_
    refine L_icmp_gt C (pc' := 917) dL_law_24 (by decide) (pf := 27) rfl (fun _ => ?_) (fun hlt => ?_)
    · refine L_iconst C (pc' := 918) dL_law_917 (by decide) rfl ?_
      exact L_ret C dL_law_918 ⟨by decide, by decide⟩
    · have hi : i + 6 ≤ (Ln : Nat) := by unfold wr32 at hlt; omega
      clear hlt
      have next : ∀ M2, I M2 → TL E b Ln xs p e s m below meth c 911 [(2, 1015), (2, 0), (2, 66), (0, i)] [] S0 M2 126 19621 := by
        intro M2 hI2
        refine L_iinc C (L' := [(2, 1015), (2, 0), (2, 66), (0, i + 6)]) (pc' := 914) dL_law_911 rfl (by decide) (by rw [wr32_id (by unfold r32; omega)]; rfl) rfl ?_
        refine L_goto C (pc' := 18) dL_law_914 (by decide) ?_
        exact ih (i + 6) M2 (by omega) (by omega) (by omega) hI2
      refine L_aload_n C (i := 0) (pc' := 28) dL_law_27 rfl rfl rfl ?_
      refine L_iload_n C (i := 3) (pc' := 29) dL_law_28 rfl rfl rfl ?_
      refine L_sld C (pc' := 30) dL_law_29 h0 (by omega) rfl ?_
      refine L_bipush C (pc' := 32) dL_law_30 rfl (by decide) rfl ?_
      refine L_iand C (pc' := 33) dL_law_32 rfl ?_
      generalize m_and (xs i.toNat).toInt 31 = w
      by_cases c0 : w = 0
      · refine L_tableIn C (pc' := 160) dL_law_33 (by omega) (by omega) (by rw [c0] <;> rfl) (by decide) ?_
        refine L_aload_n C (i := 1) (pc' := 161) dL_law_160 rfl rfl rfl ?_
        refine L_aload_n C (i := 0) (pc' := 162) dL_law_161 rfl rfl rfl ?_
        refine L_iload_n C (i := 3) (pc' := 163) dL_law_162 rfl rfl rfl ?_
        refine L_iconst C (pc' := 164) dL_law_163 (by decide) rfl ?_
        refine L_iadd C (pc' := 165) dL_law_164 rfl ?_
        refine L_sld C (pc' := 166) dL_law_165 (by unfold wr32; omega) (by unfold wr32; omega) rfl ?_
        refine L_aload_n C (i := 0) (pc' := 167) dL_law_166 rfl rfl rfl ?_
        refine L_iload_n C (i := 3) (pc' := 168) dL_law_167 rfl rfl rfl ?_
        refine L_iconst C (pc' := 169) dL_law_168 (by decide) rfl ?_
        refine L_iadd C (pc' := 170) dL_law_169 rfl ?_
        refine L_sld C (pc' := 171) dL_law_170 (by unfold wr32; omega) (by unfold wr32; omega) rfl ?_
        refine L_aload_n C (i := 0) (pc' := 172) dL_law_171 rfl rfl rfl ?_
        refine L_iload_n C (i := 3) (pc' := 173) dL_law_172 rfl rfl rfl ?_
        refine L_iconst C (pc' := 174) dL_law_173 (by decide) rfl ?_
        refine L_iadd C (pc' := 175) dL_law_174 rfl ?_
        refine L_sld C (pc' := 176) dL_law_175 (by unfold wr32; omega) (by unfold wr32; omega) rfl ?_
        refine L_aload_n C (i := 0) (pc' := 177) dL_law_176 rfl rfl rfl ?_
        refine L_iload_n C (i := 3) (pc' := 178) dL_law_177 rfl rfl rfl ?_
        refine L_iconst C (pc' := 179) dL_law_178 (by decide) rfl ?_
        refine L_iadd C (pc' := 180) dL_law_179 rfl ?_
        refine L_sld C (pc' := 181) dL_law_180 (by unfold wr32; omega) (by unfold wr32; omega) rfl ?_
        refine L_aload_n C (i := 0) (pc' := 182) dL_law_181 rfl rfl rfl ?_
        refine L_iload_n C (i := 3) (pc' := 183) dL_law_182 rfl rfl rfl ?_
        refine L_iconst C (pc' := 184) dL_law_183 (by decide) rfl ?_
        refine L_iadd C (pc' := 185) dL_law_184 rfl ?_
        refine L_sld C (pc' := 186) dL_law_185 (by unfold wr32; omega) (by unfold wr32; omega) rfl ?_
        refine L_callV C (av := [(0, (xs (wr32 (i + 1)).toNat).toInt), (0, (xs (wr32 (i + 2)).toNat).toInt), (0, (xs (wr32 (i + 3)).toNat).toInt), (0, (xs (wr32 (i + 4)).toNat).toInt), (0, (xs (wr32 (i + 5)).toNat).toInt)]) (st := []) (d2 := 3) (nc2 := 0) (ns2 := 0) (pc' := 189) dL_law_186 mtX11_feed mvX11_feed mlL_13 cl11 rfl rfl rfl (Nat.le_of_ble_eq_true rfl) (by decide) ⟨by decide, by decide⟩ rfl (fun oa ok => h_feed (xs (wr32 (i + 1)).toNat).toInt (xs (wr32 (i + 2)).toNat).toInt (xs (wr32 (i + 3)).toNat).toInt (xs (wr32 (i + 4)).toNat).toInt (xs (wr32 (i + 5)).toNat).toInt M hI oa ok) ?_
        rintro _ _ M1 ⟨rfl, a, rfl, hC2⟩ _
        show TL E b Ln xs p e s m below meth c 189 [(2, 1015), (2, 0), (2, 66), (0, i)] [(0, a)] S0 M1 126 19621
        refine L_aload_n C (i := 2) (pc' := 190) dL_law_189 rfl rfl rfl ?_
        refine L_aload_n C (i := 0) (pc' := 191) dL_law_190 rfl rfl rfl ?_
        refine L_iload_n C (i := 3) (pc' := 192) dL_law_191 rfl rfl rfl ?_
        refine L_iconst C (pc' := 193) dL_law_192 (by decide) rfl ?_
        refine L_iadd C (pc' := 194) dL_law_193 rfl ?_
        refine L_sld C (pc' := 195) dL_law_194 (by unfold wr32; omega) (by unfold wr32; omega) rfl ?_
        refine L_aload_n C (i := 0) (pc' := 196) dL_law_195 rfl rfl rfl ?_
        refine L_iload_n C (i := 3) (pc' := 197) dL_law_196 rfl rfl rfl ?_
        refine L_iconst C (pc' := 198) dL_law_197 (by decide) rfl ?_
        refine L_iadd C (pc' := 199) dL_law_198 rfl ?_
        refine L_sld C (pc' := 200) dL_law_199 (by unfold wr32; omega) (by unfold wr32; omega) rfl ?_
        refine L_aload_n C (i := 0) (pc' := 201) dL_law_200 rfl rfl rfl ?_
        refine L_iload_n C (i := 3) (pc' := 202) dL_law_201 rfl rfl rfl ?_
        refine L_iconst C (pc' := 203) dL_law_202 (by decide) rfl ?_
        refine L_iadd C (pc' := 204) dL_law_203 rfl ?_
        refine L_sld C (pc' := 205) dL_law_204 (by unfold wr32; omega) (by unfold wr32; omega) rfl ?_
        refine L_aload_n C (i := 0) (pc' := 206) dL_law_205 rfl rfl rfl ?_
        refine L_iload_n C (i := 3) (pc' := 207) dL_law_206 rfl rfl rfl ?_
        refine L_iconst C (pc' := 208) dL_law_207 (by decide) rfl ?_
        refine L_iadd C (pc' := 209) dL_law_208 rfl ?_
        refine L_sld C (pc' := 210) dL_law_209 (by unfold wr32; omega) (by unfold wr32; omega) rfl ?_
        refine L_aload_n C (i := 0) (pc' := 211) dL_law_210 rfl rfl rfl ?_
        refine L_iload_n C (i := 3) (pc' := 212) dL_law_211 rfl rfl rfl ?_
        refine L_iconst C (pc' := 213) dL_law_212 (by decide) rfl ?_
        refine L_iadd C (pc' := 214) dL_law_213 rfl ?_
        refine L_sld C (pc' := 215) dL_law_214 (by unfold wr32; omega) (by unfold wr32; omega) rfl ?_
        refine L_callV C (av := [(0, (xs (wr32 (i + 1)).toNat).toInt), (0, (xs (wr32 (i + 2)).toNat).toInt), (0, (xs (wr32 (i + 3)).toNat).toInt), (0, (xs (wr32 (i + 4)).toNat).toInt), (0, (xs (wr32 (i + 5)).toNat).toInt)]) (st := [(0, a)]) (d2 := 1) (nc2 := 0) (ns2 := 0) (pc' := 218) dL_law_215 mtX12_feed mvX12_feed mlL_17 cl12 rfl rfl rfl (Nat.le_of_ble_eq_true rfl) (by decide) ⟨by decide, by decide⟩ rfl (fun oa ok => hC2) ?_
        rintro _ _ M2 ⟨rfl, rfl, hI2⟩ _
        show TL E b Ln xs p e s m below meth c 218 [(2, 1015), (2, 0), (2, 66), (0, i)] [(0, a), (0, a)] S0 M2 126 19621
        refine L_icmp_eq C (pc' := 911) dL_law_218 (by decide) (pf := 221) rfl (fun _ => ?_) (fun z => absurd rfl z)
        exact next M2 hI2
      by_cases c1 : w = 1
      · refine L_tableIn C (pc' := 223) dL_law_33 (by omega) (by omega) (by rw [c1] <;> rfl) (by decide) ?_
        refine L_aload_n C (i := 1) (pc' := 224) dL_law_223 rfl rfl rfl ?_
        refine L_aload_n C (i := 0) (pc' := 225) dL_law_224 rfl rfl rfl ?_
        refine L_iload_n C (i := 3) (pc' := 226) dL_law_225 rfl rfl rfl ?_
        refine L_iconst C (pc' := 227) dL_law_226 (by decide) rfl ?_
        refine L_iadd C (pc' := 228) dL_law_227 rfl ?_
        refine L_sld C (pc' := 229) dL_law_228 (by unfold wr32; omega) (by unfold wr32; omega) rfl ?_
        refine L_callV C (av := [(0, (xs (wr32 (i + 1)).toNat).toInt)]) (st := []) (d2 := 2) (nc2 := 0) (ns2 := 0) (pc' := 232) dL_law_229 mtX11_end mvX11_end mlL_18 cl11 rfl rfl rfl (Nat.le_of_ble_eq_true rfl) (by decide) ⟨by decide, by decide⟩ rfl (fun oa ok => h_end (xs (wr32 (i + 1)).toNat).toInt M hI oa ok) ?_
        rintro _ _ M1 ⟨rfl, a, rfl, hC2⟩ _
        show TL E b Ln xs p e s m below meth c 232 [(2, 1015), (2, 0), (2, 66), (0, i)] [(0, a)] S0 M1 126 19621
        refine L_aload_n C (i := 2) (pc' := 233) dL_law_232 rfl rfl rfl ?_
        refine L_aload_n C (i := 0) (pc' := 234) dL_law_233 rfl rfl rfl ?_
        refine L_iload_n C (i := 3) (pc' := 235) dL_law_234 rfl rfl rfl ?_
        refine L_iconst C (pc' := 236) dL_law_235 (by decide) rfl ?_
        refine L_iadd C (pc' := 237) dL_law_236 rfl ?_
        refine L_sld C (pc' := 238) dL_law_237 (by unfold wr32; omega) (by unfold wr32; omega) rfl ?_
        refine L_callV C (av := [(0, (xs (wr32 (i + 1)).toNat).toInt)]) (st := [(0, a)]) (d2 := 1) (nc2 := 0) (ns2 := 0) (pc' := 241) dL_law_238 mtX12_end mvX12_end mlL_22 cl12 rfl rfl rfl (Nat.le_of_ble_eq_true rfl) (by decide) ⟨by decide, by decide⟩ rfl (fun oa ok => hC2) ?_
        rintro _ _ M2 ⟨rfl, rfl, hI2⟩ _
        show TL E b Ln xs p e s m below meth c 241 [(2, 1015), (2, 0), (2, 66), (0, i)] [(0, a), (0, a)] S0 M2 126 19621
        refine L_icmp_eq C (pc' := 911) dL_law_241 (by decide) (pf := 244) rfl (fun _ => ?_) (fun z => absurd rfl z)
        exact next M2 hI2
      by_cases c2 : w = 2
      · refine L_tableIn C (pc' := 246) dL_law_33 (by omega) (by omega) (by rw [c2] <;> rfl) (by decide) ?_
        refine L_aload_n C (i := 1) (pc' := 247) dL_law_246 rfl rfl rfl ?_
        refine L_callV C (av := []) (st := []) (d2 := 12) (nc2 := 0) (ns2 := 0) (pc' := 250) dL_law_247 mtX11_text mvX11_text mlL_23 cl11 rfl rfl rfl (Nat.le_of_ble_eq_true rfl) (by decide) ⟨by decide, by decide⟩ rfl (fun oa ok => h_text M hI oa ok) ?_
        rintro _ _ M1 ⟨rfl, a, rfl, hC2⟩ _
        show TL E b Ln xs p e s m below meth c 250 [(2, 1015), (2, 0), (2, 66), (0, i)] [(0, a)] S0 M1 126 19621
        refine L_aload_n C (i := 2) (pc' := 251) dL_law_250 rfl rfl rfl ?_
        refine L_callV C (av := []) (st := [(0, a)]) (d2 := 8) (nc2 := 0) (ns2 := 0) (pc' := 254) dL_law_251 mtX12_text mvX12_text mlL_27 cl12 rfl rfl rfl (Nat.le_of_ble_eq_true rfl) (by decide) ⟨by decide, by decide⟩ rfl (fun oa ok => hC2) ?_
        rintro _ _ M2 ⟨rfl, rfl, hI2⟩ _
        show TL E b Ln xs p e s m below meth c 254 [(2, 1015), (2, 0), (2, 66), (0, i)] [(0, a), (0, a)] S0 M2 126 19621
        refine L_icmp_eq C (pc' := 911) dL_law_254 (by decide) (pf := 257) rfl (fun _ => ?_) (fun z => absurd rfl z)
        exact next M2 hI2
      by_cases c3 : w = 3
      · refine L_tableIn C (pc' := 259) dL_law_33 (by omega) (by omega) (by rw [c3] <;> rfl) (by decide) ?_
        refine L_aload_n C (i := 1) (pc' := 260) dL_law_259 rfl rfl rfl ?_
        refine L_aload_n C (i := 0) (pc' := 261) dL_law_260 rfl rfl rfl ?_
        refine L_iload_n C (i := 3) (pc' := 262) dL_law_261 rfl rfl rfl ?_
        refine L_iconst C (pc' := 263) dL_law_262 (by decide) rfl ?_
        refine L_iadd C (pc' := 264) dL_law_263 rfl ?_
        refine L_sld C (pc' := 265) dL_law_264 (by unfold wr32; omega) (by unfold wr32; omega) rfl ?_
        refine L_callV C (av := [(0, (xs (wr32 (i + 1)).toNat).toInt)]) (st := []) (d2 := 1) (nc2 := 0) (ns2 := 0) (pc' := 268) dL_law_265 mtX11_fault mvX11_fault mlL_28 cl11 rfl rfl rfl (Nat.le_of_ble_eq_true rfl) (by decide) ⟨by decide, by decide⟩ rfl (fun oa ok => h_fault (xs (wr32 (i + 1)).toNat).toInt M hI oa ok) ?_
        rintro _ _ M1 ⟨rfl, a, rfl, hC2⟩ _
        show TL E b Ln xs p e s m below meth c 268 [(2, 1015), (2, 0), (2, 66), (0, i)] [(0, a)] S0 M1 126 19621
        refine L_aload_n C (i := 2) (pc' := 269) dL_law_268 rfl rfl rfl ?_
        refine L_aload_n C (i := 0) (pc' := 270) dL_law_269 rfl rfl rfl ?_
        refine L_iload_n C (i := 3) (pc' := 271) dL_law_270 rfl rfl rfl ?_
        refine L_iconst C (pc' := 272) dL_law_271 (by decide) rfl ?_
        refine L_iadd C (pc' := 273) dL_law_272 rfl ?_
        refine L_sld C (pc' := 274) dL_law_273 (by unfold wr32; omega) (by unfold wr32; omega) rfl ?_
        refine L_callV C (av := [(0, (xs (wr32 (i + 1)).toNat).toInt)]) (st := [(0, a)]) (d2 := 1) (nc2 := 0) (ns2 := 0) (pc' := 277) dL_law_274 mtX12_fault mvX12_fault mlL_32 cl12 rfl rfl rfl (Nat.le_of_ble_eq_true rfl) (by decide) ⟨by decide, by decide⟩ rfl (fun oa ok => hC2) ?_
        rintro _ _ M2 ⟨rfl, rfl, hI2⟩ _
        show TL E b Ln xs p e s m below meth c 277 [(2, 1015), (2, 0), (2, 66), (0, i)] [(0, a), (0, a)] S0 M2 126 19621
        refine L_icmp_eq C (pc' := 911) dL_law_277 (by decide) (pf := 280) rfl (fun _ => ?_) (fun z => absurd rfl z)
        exact next M2 hI2
      by_cases c4 : w = 4
      · refine L_tableIn C (pc' := 282) dL_law_33 (by omega) (by omega) (by rw [c4] <;> rfl) (by decide) ?_
        refine L_aload_n C (i := 1) (pc' := 283) dL_law_282 rfl rfl rfl ?_
        refine L_aload_n C (i := 0) (pc' := 284) dL_law_283 rfl rfl rfl ?_
        refine L_iload_n C (i := 3) (pc' := 285) dL_law_284 rfl rfl rfl ?_
        refine L_iconst C (pc' := 286) dL_law_285 (by decide) rfl ?_
        refine L_iadd C (pc' := 287) dL_law_286 rfl ?_
        refine L_sld C (pc' := 288) dL_law_287 (by unfold wr32; omega) (by unfold wr32; omega) rfl ?_
        refine L_callV C (av := [(0, (xs (wr32 (i + 1)).toNat).toInt)]) (st := []) (d2 := 3) (nc2 := 0) (ns2 := 0) (pc' := 291) dL_law_288 mtX11_hall mvX11_hall mlL_33 cl11 rfl rfl rfl (Nat.le_of_ble_eq_true rfl) (by decide) ⟨by decide, by decide⟩ rfl (fun oa ok => h_hall (xs (wr32 (i + 1)).toNat).toInt M hI oa ok) ?_
        rintro _ _ M1 ⟨rfl, a, rfl, hC2⟩ _
        show TL E b Ln xs p e s m below meth c 291 [(2, 1015), (2, 0), (2, 66), (0, i)] [(0, a)] S0 M1 126 19621
        refine L_aload_n C (i := 2) (pc' := 292) dL_law_291 rfl rfl rfl ?_
        refine L_aload_n C (i := 0) (pc' := 293) dL_law_292 rfl rfl rfl ?_
        refine L_iload_n C (i := 3) (pc' := 294) dL_law_293 rfl rfl rfl ?_
        refine L_iconst C (pc' := 295) dL_law_294 (by decide) rfl ?_
        refine L_iadd C (pc' := 296) dL_law_295 rfl ?_
        refine L_sld C (pc' := 297) dL_law_296 (by unfold wr32; omega) (by unfold wr32; omega) rfl ?_
        refine L_callV C (av := [(0, (xs (wr32 (i + 1)).toNat).toInt)]) (st := [(0, a)]) (d2 := 3) (nc2 := 0) (ns2 := 0) (pc' := 300) dL_law_297 mtX12_hall mvX12_hall mlL_36 cl12 rfl rfl rfl (Nat.le_of_ble_eq_true rfl) (by decide) ⟨by decide, by decide⟩ rfl (fun oa ok => hC2) ?_
        rintro _ _ M2 ⟨rfl, rfl, hI2⟩ _
        show TL E b Ln xs p e s m below meth c 300 [(2, 1015), (2, 0), (2, 66), (0, i)] [(0, a), (0, a)] S0 M2 126 19621
        refine L_icmp_eq C (pc' := 911) dL_law_300 (by decide) (pf := 303) rfl (fun _ => ?_) (fun z => absurd rfl z)
        exact next M2 hI2
      by_cases c5 : w = 5
      · refine L_tableIn C (pc' := 305) dL_law_33 (by omega) (by omega) (by rw [c5] <;> rfl) (by decide) ?_
        refine L_aload_n C (i := 1) (pc' := 306) dL_law_305 rfl rfl rfl ?_
        refine L_aload_n C (i := 0) (pc' := 307) dL_law_306 rfl rfl rfl ?_
        refine L_iload_n C (i := 3) (pc' := 308) dL_law_307 rfl rfl rfl ?_
        refine L_iconst C (pc' := 309) dL_law_308 (by decide) rfl ?_
        refine L_iadd C (pc' := 310) dL_law_309 rfl ?_
        refine L_sld C (pc' := 311) dL_law_310 (by unfold wr32; omega) (by unfold wr32; omega) rfl ?_
        refine L_aload_n C (i := 0) (pc' := 312) dL_law_311 rfl rfl rfl ?_
        refine L_iload_n C (i := 3) (pc' := 313) dL_law_312 rfl rfl rfl ?_
        refine L_iconst C (pc' := 314) dL_law_313 (by decide) rfl ?_
        refine L_iadd C (pc' := 315) dL_law_314 rfl ?_
        refine L_sld C (pc' := 316) dL_law_315 (by unfold wr32; omega) (by unfold wr32; omega) rfl ?_
        refine L_aload_n C (i := 0) (pc' := 317) dL_law_316 rfl rfl rfl ?_
        refine L_iload_n C (i := 3) (pc' := 318) dL_law_317 rfl rfl rfl ?_
        refine L_iconst C (pc' := 319) dL_law_318 (by decide) rfl ?_
        refine L_iadd C (pc' := 320) dL_law_319 rfl ?_
        refine L_sld C (pc' := 321) dL_law_320 (by unfold wr32; omega) (by unfold wr32; omega) rfl ?_
        refine L_callV C (av := [(0, (xs (wr32 (i + 1)).toNat).toInt), (0, (xs (wr32 (i + 2)).toNat).toInt), (0, (xs (wr32 (i + 3)).toNat).toInt)]) (st := []) (d2 := 2) (nc2 := 0) (ns2 := 0) (pc' := 324) dL_law_321 mtX11_letter mvX11_letter mlL_37 cl11 rfl rfl rfl (Nat.le_of_ble_eq_true rfl) (by decide) ⟨by decide, by decide⟩ rfl (fun oa ok => h_letter (xs (wr32 (i + 1)).toNat).toInt (xs (wr32 (i + 2)).toNat).toInt (xs (wr32 (i + 3)).toNat).toInt M hI oa ok) ?_
        rintro _ _ M1 ⟨rfl, a, rfl, hC2⟩ _
        show TL E b Ln xs p e s m below meth c 324 [(2, 1015), (2, 0), (2, 66), (0, i)] [(0, a)] S0 M1 126 19621
        refine L_aload_n C (i := 2) (pc' := 325) dL_law_324 rfl rfl rfl ?_
        refine L_aload_n C (i := 0) (pc' := 326) dL_law_325 rfl rfl rfl ?_
        refine L_iload_n C (i := 3) (pc' := 327) dL_law_326 rfl rfl rfl ?_
        refine L_iconst C (pc' := 328) dL_law_327 (by decide) rfl ?_
        refine L_iadd C (pc' := 329) dL_law_328 rfl ?_
        refine L_sld C (pc' := 330) dL_law_329 (by unfold wr32; omega) (by unfold wr32; omega) rfl ?_
        refine L_aload_n C (i := 0) (pc' := 331) dL_law_330 rfl rfl rfl ?_
        refine L_iload_n C (i := 3) (pc' := 332) dL_law_331 rfl rfl rfl ?_
        refine L_iconst C (pc' := 333) dL_law_332 (by decide) rfl ?_
        refine L_iadd C (pc' := 334) dL_law_333 rfl ?_
        refine L_sld C (pc' := 335) dL_law_334 (by unfold wr32; omega) (by unfold wr32; omega) rfl ?_
        refine L_aload_n C (i := 0) (pc' := 336) dL_law_335 rfl rfl rfl ?_
        refine L_iload_n C (i := 3) (pc' := 337) dL_law_336 rfl rfl rfl ?_
        refine L_iconst C (pc' := 338) dL_law_337 (by decide) rfl ?_
        refine L_iadd C (pc' := 339) dL_law_338 rfl ?_
        refine L_sld C (pc' := 340) dL_law_339 (by unfold wr32; omega) (by unfold wr32; omega) rfl ?_
        refine L_callV C (av := [(0, (xs (wr32 (i + 1)).toNat).toInt), (0, (xs (wr32 (i + 2)).toNat).toInt), (0, (xs (wr32 (i + 3)).toNat).toInt)]) (st := [(0, a)]) (d2 := 2) (nc2 := 0) (ns2 := 0) (pc' := 343) dL_law_340 mtX12_letter mvX12_letter mlL_41 cl12 rfl rfl rfl (Nat.le_of_ble_eq_true rfl) (by decide) ⟨by decide, by decide⟩ rfl (fun oa ok => hC2) ?_
        rintro _ _ M2 ⟨rfl, rfl, hI2⟩ _
        show TL E b Ln xs p e s m below meth c 343 [(2, 1015), (2, 0), (2, 66), (0, i)] [(0, a), (0, a)] S0 M2 126 19621
        refine L_icmp_eq C (pc' := 911) dL_law_343 (by decide) (pf := 346) rfl (fun _ => ?_) (fun z => absurd rfl z)
        exact next M2 hI2
      by_cases c6 : w = 6
      · refine L_tableIn C (pc' := 348) dL_law_33 (by omega) (by omega) (by rw [c6] <;> rfl) (by decide) ?_
        refine L_aload_n C (i := 1) (pc' := 349) dL_law_348 rfl rfl rfl ?_
        refine L_aload_n C (i := 0) (pc' := 350) dL_law_349 rfl rfl rfl ?_
        refine L_iload_n C (i := 3) (pc' := 351) dL_law_350 rfl rfl rfl ?_
        refine L_iconst C (pc' := 352) dL_law_351 (by decide) rfl ?_
        refine L_iadd C (pc' := 353) dL_law_352 rfl ?_
        refine L_sld C (pc' := 354) dL_law_353 (by unfold wr32; omega) (by unfold wr32; omega) rfl ?_
        refine L_aload_n C (i := 0) (pc' := 355) dL_law_354 rfl rfl rfl ?_
        refine L_iload_n C (i := 3) (pc' := 356) dL_law_355 rfl rfl rfl ?_
        refine L_iconst C (pc' := 357) dL_law_356 (by decide) rfl ?_
        refine L_iadd C (pc' := 358) dL_law_357 rfl ?_
        refine L_sld C (pc' := 359) dL_law_358 (by unfold wr32; omega) (by unfold wr32; omega) rfl ?_
        refine L_callV C (av := [(0, (xs (wr32 (i + 1)).toNat).toInt), (0, (xs (wr32 (i + 2)).toNat).toInt)]) (st := []) (d2 := 2) (nc2 := 0) (ns2 := 0) (pc' := 362) dL_law_359 mtX11_person mvX11_person mlL_42 cl11 rfl rfl rfl (Nat.le_of_ble_eq_true rfl) (by decide) ⟨by decide, by decide⟩ rfl (fun oa ok => h_person (xs (wr32 (i + 1)).toNat).toInt (xs (wr32 (i + 2)).toNat).toInt M hI oa ok) ?_
        rintro _ _ M1 ⟨rfl, a, rfl, hC2⟩ _
        show TL E b Ln xs p e s m below meth c 362 [(2, 1015), (2, 0), (2, 66), (0, i)] [(0, a)] S0 M1 126 19621
        refine L_aload_n C (i := 2) (pc' := 363) dL_law_362 rfl rfl rfl ?_
        refine L_aload_n C (i := 0) (pc' := 364) dL_law_363 rfl rfl rfl ?_
        refine L_iload_n C (i := 3) (pc' := 365) dL_law_364 rfl rfl rfl ?_
        refine L_iconst C (pc' := 366) dL_law_365 (by decide) rfl ?_
        refine L_iadd C (pc' := 367) dL_law_366 rfl ?_
        refine L_sld C (pc' := 368) dL_law_367 (by unfold wr32; omega) (by unfold wr32; omega) rfl ?_
        refine L_aload_n C (i := 0) (pc' := 369) dL_law_368 rfl rfl rfl ?_
        refine L_iload_n C (i := 3) (pc' := 370) dL_law_369 rfl rfl rfl ?_
        refine L_iconst C (pc' := 371) dL_law_370 (by decide) rfl ?_
        refine L_iadd C (pc' := 372) dL_law_371 rfl ?_
        refine L_sld C (pc' := 373) dL_law_372 (by unfold wr32; omega) (by unfold wr32; omega) rfl ?_
        refine L_callV C (av := [(0, (xs (wr32 (i + 1)).toNat).toInt), (0, (xs (wr32 (i + 2)).toNat).toInt)]) (st := [(0, a)]) (d2 := 3) (nc2 := 0) (ns2 := 0) (pc' := 376) dL_law_373 mtX12_person mvX12_person mlL_46 cl12 rfl rfl rfl (Nat.le_of_ble_eq_true rfl) (by decide) ⟨by decide, by decide⟩ rfl (fun oa ok => hC2) ?_
        rintro _ _ M2 ⟨rfl, rfl, hI2⟩ _
        show TL E b Ln xs p e s m below meth c 376 [(2, 1015), (2, 0), (2, 66), (0, i)] [(0, a), (0, a)] S0 M2 126 19621
        refine L_icmp_eq C (pc' := 911) dL_law_376 (by decide) (pf := 379) rfl (fun _ => ?_) (fun z => absurd rfl z)
        exact next M2 hI2
      by_cases c7 : w = 7
      · refine L_tableIn C (pc' := 381) dL_law_33 (by omega) (by omega) (by rw [c7] <;> rfl) (by decide) ?_
        refine L_aload_n C (i := 1) (pc' := 382) dL_law_381 rfl rfl rfl ?_
        refine L_aload_n C (i := 0) (pc' := 383) dL_law_382 rfl rfl rfl ?_
        refine L_iload_n C (i := 3) (pc' := 384) dL_law_383 rfl rfl rfl ?_
        refine L_iconst C (pc' := 385) dL_law_384 (by decide) rfl ?_
        refine L_iadd C (pc' := 386) dL_law_385 rfl ?_
        refine L_sld C (pc' := 387) dL_law_386 (by unfold wr32; omega) (by unfold wr32; omega) rfl ?_
        refine L_aload_n C (i := 0) (pc' := 388) dL_law_387 rfl rfl rfl ?_
        refine L_iload_n C (i := 3) (pc' := 389) dL_law_388 rfl rfl rfl ?_
        refine L_iconst C (pc' := 390) dL_law_389 (by decide) rfl ?_
        refine L_iadd C (pc' := 391) dL_law_390 rfl ?_
        refine L_sld C (pc' := 392) dL_law_391 (by unfold wr32; omega) (by unfold wr32; omega) rfl ?_
        refine L_callV C (av := [(0, (xs (wr32 (i + 1)).toNat).toInt), (0, (xs (wr32 (i + 2)).toNat).toInt)]) (st := []) (d2 := 2) (nc2 := 0) (ns2 := 0) (pc' := 395) dL_law_392 mtX11_guard mvX11_guard mlL_47 cl11 rfl rfl rfl (Nat.le_of_ble_eq_true rfl) (by decide) ⟨by decide, by decide⟩ rfl (fun oa ok => h_guard (xs (wr32 (i + 1)).toNat).toInt (xs (wr32 (i + 2)).toNat).toInt M hI oa ok) ?_
        rintro _ _ M1 ⟨rfl, a, rfl, hC2⟩ _
        show TL E b Ln xs p e s m below meth c 395 [(2, 1015), (2, 0), (2, 66), (0, i)] [(0, a)] S0 M1 126 19621
        refine L_aload_n C (i := 2) (pc' := 396) dL_law_395 rfl rfl rfl ?_
        refine L_aload_n C (i := 0) (pc' := 397) dL_law_396 rfl rfl rfl ?_
        refine L_iload_n C (i := 3) (pc' := 398) dL_law_397 rfl rfl rfl ?_
        refine L_iconst C (pc' := 399) dL_law_398 (by decide) rfl ?_
        refine L_iadd C (pc' := 400) dL_law_399 rfl ?_
        refine L_sld C (pc' := 401) dL_law_400 (by unfold wr32; omega) (by unfold wr32; omega) rfl ?_
        refine L_aload_n C (i := 0) (pc' := 402) dL_law_401 rfl rfl rfl ?_
        refine L_iload_n C (i := 3) (pc' := 403) dL_law_402 rfl rfl rfl ?_
        refine L_iconst C (pc' := 404) dL_law_403 (by decide) rfl ?_
        refine L_iadd C (pc' := 405) dL_law_404 rfl ?_
        refine L_sld C (pc' := 406) dL_law_405 (by unfold wr32; omega) (by unfold wr32; omega) rfl ?_
        refine L_callV C (av := [(0, (xs (wr32 (i + 1)).toNat).toInt), (0, (xs (wr32 (i + 2)).toNat).toInt)]) (st := [(0, a)]) (d2 := 2) (nc2 := 0) (ns2 := 0) (pc' := 409) dL_law_406 mtX12_guard mvX12_guard mlL_50 cl12 rfl rfl rfl (Nat.le_of_ble_eq_true rfl) (by decide) ⟨by decide, by decide⟩ rfl (fun oa ok => hC2) ?_
        rintro _ _ M2 ⟨rfl, rfl, hI2⟩ _
        show TL E b Ln xs p e s m below meth c 409 [(2, 1015), (2, 0), (2, 66), (0, i)] [(0, a), (0, a)] S0 M2 126 19621
        refine L_icmp_eq C (pc' := 911) dL_law_409 (by decide) (pf := 412) rfl (fun _ => ?_) (fun z => absurd rfl z)
        exact next M2 hI2
      by_cases c8 : w = 8
      · refine L_tableIn C (pc' := 414) dL_law_33 (by omega) (by omega) (by rw [c8] <;> rfl) (by decide) ?_
        refine L_aload_n C (i := 1) (pc' := 415) dL_law_414 rfl rfl rfl ?_
        refine L_aload_n C (i := 0) (pc' := 416) dL_law_415 rfl rfl rfl ?_
        refine L_iload_n C (i := 3) (pc' := 417) dL_law_416 rfl rfl rfl ?_
        refine L_iconst C (pc' := 418) dL_law_417 (by decide) rfl ?_
        refine L_iadd C (pc' := 419) dL_law_418 rfl ?_
        refine L_sld C (pc' := 420) dL_law_419 (by unfold wr32; omega) (by unfold wr32; omega) rfl ?_
        refine L_aload_n C (i := 0) (pc' := 421) dL_law_420 rfl rfl rfl ?_
        refine L_iload_n C (i := 3) (pc' := 422) dL_law_421 rfl rfl rfl ?_
        refine L_iconst C (pc' := 423) dL_law_422 (by decide) rfl ?_
        refine L_iadd C (pc' := 424) dL_law_423 rfl ?_
        refine L_sld C (pc' := 425) dL_law_424 (by unfold wr32; omega) (by unfold wr32; omega) rfl ?_
        refine L_callV C (av := [(0, (xs (wr32 (i + 1)).toNat).toInt), (0, (xs (wr32 (i + 2)).toNat).toInt)]) (st := []) (d2 := 8) (nc2 := 0) (ns2 := 0) (pc' := 428) dL_law_425 mtX11_door mvX11_door mlL_51 cl11 rfl rfl rfl (Nat.le_of_ble_eq_true rfl) (by decide) ⟨by decide, by decide⟩ rfl (fun oa ok => h_door (xs (wr32 (i + 1)).toNat).toInt (xs (wr32 (i + 2)).toNat).toInt M hI oa ok) ?_
        rintro _ _ M1 ⟨rfl, a, rfl, hC2⟩ _
        show TL E b Ln xs p e s m below meth c 428 [(2, 1015), (2, 0), (2, 66), (0, i)] [(0, a)] S0 M1 126 19621
        refine L_aload_n C (i := 2) (pc' := 429) dL_law_428 rfl rfl rfl ?_
        refine L_aload_n C (i := 0) (pc' := 430) dL_law_429 rfl rfl rfl ?_
        refine L_iload_n C (i := 3) (pc' := 431) dL_law_430 rfl rfl rfl ?_
        refine L_iconst C (pc' := 432) dL_law_431 (by decide) rfl ?_
        refine L_iadd C (pc' := 433) dL_law_432 rfl ?_
        refine L_sld C (pc' := 434) dL_law_433 (by unfold wr32; omega) (by unfold wr32; omega) rfl ?_
        refine L_aload_n C (i := 0) (pc' := 435) dL_law_434 rfl rfl rfl ?_
        refine L_iload_n C (i := 3) (pc' := 436) dL_law_435 rfl rfl rfl ?_
        refine L_iconst C (pc' := 437) dL_law_436 (by decide) rfl ?_
        refine L_iadd C (pc' := 438) dL_law_437 rfl ?_
        refine L_sld C (pc' := 439) dL_law_438 (by unfold wr32; omega) (by unfold wr32; omega) rfl ?_
        refine L_callV C (av := [(0, (xs (wr32 (i + 1)).toNat).toInt), (0, (xs (wr32 (i + 2)).toNat).toInt)]) (st := [(0, a)]) (d2 := 7) (nc2 := 0) (ns2 := 0) (pc' := 442) dL_law_439 mtX12_door mvX12_door mlL_54 cl12 rfl rfl rfl (Nat.le_of_ble_eq_true rfl) (by decide) ⟨by decide, by decide⟩ rfl (fun oa ok => hC2) ?_
        rintro _ _ M2 ⟨rfl, rfl, hI2⟩ _
        show TL E b Ln xs p e s m below meth c 442 [(2, 1015), (2, 0), (2, 66), (0, i)] [(0, a), (0, a)] S0 M2 126 19621
        refine L_icmp_eq C (pc' := 911) dL_law_442 (by decide) (pf := 445) rfl (fun _ => ?_) (fun z => absurd rfl z)
        exact next M2 hI2
      by_cases c9 : w = 9
      · refine L_tableIn C (pc' := 447) dL_law_33 (by omega) (by omega) (by rw [c9] <;> rfl) (by decide) ?_
        refine L_aload_n C (i := 1) (pc' := 448) dL_law_447 rfl rfl rfl ?_
        refine L_aload_n C (i := 0) (pc' := 449) dL_law_448 rfl rfl rfl ?_
        refine L_iload_n C (i := 3) (pc' := 450) dL_law_449 rfl rfl rfl ?_
        refine L_iconst C (pc' := 451) dL_law_450 (by decide) rfl ?_
        refine L_iadd C (pc' := 452) dL_law_451 rfl ?_
        refine L_sld C (pc' := 453) dL_law_452 (by unfold wr32; omega) (by unfold wr32; omega) rfl ?_
        refine L_aload_n C (i := 0) (pc' := 454) dL_law_453 rfl rfl rfl ?_
        refine L_iload_n C (i := 3) (pc' := 455) dL_law_454 rfl rfl rfl ?_
        refine L_iconst C (pc' := 456) dL_law_455 (by decide) rfl ?_
        refine L_iadd C (pc' := 457) dL_law_456 rfl ?_
        refine L_sld C (pc' := 458) dL_law_457 (by unfold wr32; omega) (by unfold wr32; omega) rfl ?_
        refine L_callV C (av := [(0, (xs (wr32 (i + 1)).toNat).toInt), (0, (xs (wr32 (i + 2)).toNat).toInt)]) (st := []) (d2 := 8) (nc2 := 0) (ns2 := 0) (pc' := 461) dL_law_458 mtX11_where mvX11_where mlL_55 cl11 rfl rfl rfl (Nat.le_of_ble_eq_true rfl) (by decide) ⟨by decide, by decide⟩ rfl (fun oa ok => h_where (xs (wr32 (i + 1)).toNat).toInt (xs (wr32 (i + 2)).toNat).toInt M hI oa ok) ?_
        rintro _ _ M1 ⟨rfl, a, rfl, hC2⟩ _
        show TL E b Ln xs p e s m below meth c 461 [(2, 1015), (2, 0), (2, 66), (0, i)] [(0, a)] S0 M1 126 19621
        refine L_aload_n C (i := 2) (pc' := 462) dL_law_461 rfl rfl rfl ?_
        refine L_aload_n C (i := 0) (pc' := 463) dL_law_462 rfl rfl rfl ?_
        refine L_iload_n C (i := 3) (pc' := 464) dL_law_463 rfl rfl rfl ?_
        refine L_iconst C (pc' := 465) dL_law_464 (by decide) rfl ?_
        refine L_iadd C (pc' := 466) dL_law_465 rfl ?_
        refine L_sld C (pc' := 467) dL_law_466 (by unfold wr32; omega) (by unfold wr32; omega) rfl ?_
        refine L_aload_n C (i := 0) (pc' := 468) dL_law_467 rfl rfl rfl ?_
        refine L_iload_n C (i := 3) (pc' := 469) dL_law_468 rfl rfl rfl ?_
        refine L_iconst C (pc' := 470) dL_law_469 (by decide) rfl ?_
        refine L_iadd C (pc' := 471) dL_law_470 rfl ?_
        refine L_sld C (pc' := 472) dL_law_471 (by unfold wr32; omega) (by unfold wr32; omega) rfl ?_
        refine L_callV C (av := [(0, (xs (wr32 (i + 1)).toNat).toInt), (0, (xs (wr32 (i + 2)).toNat).toInt)]) (st := [(0, a)]) (d2 := 7) (nc2 := 0) (ns2 := 0) (pc' := 475) dL_law_472 mtX12_where mvX12_where mlL_58 cl12 rfl rfl rfl (Nat.le_of_ble_eq_true rfl) (by decide) ⟨by decide, by decide⟩ rfl (fun oa ok => hC2) ?_
        rintro _ _ M2 ⟨rfl, rfl, hI2⟩ _
        show TL E b Ln xs p e s m below meth c 475 [(2, 1015), (2, 0), (2, 66), (0, i)] [(0, a), (0, a)] S0 M2 126 19621
        refine L_icmp_eq C (pc' := 911) dL_law_475 (by decide) (pf := 478) rfl (fun _ => ?_) (fun z => absurd rfl z)
        exact next M2 hI2
      by_cases c10 : w = 10
      · refine L_tableIn C (pc' := 480) dL_law_33 (by omega) (by omega) (by rw [c10] <;> rfl) (by decide) ?_
        refine L_aload_n C (i := 1) (pc' := 481) dL_law_480 rfl rfl rfl ?_
        refine L_aload_n C (i := 0) (pc' := 482) dL_law_481 rfl rfl rfl ?_
        refine L_iload_n C (i := 3) (pc' := 483) dL_law_482 rfl rfl rfl ?_
        refine L_iconst C (pc' := 484) dL_law_483 (by decide) rfl ?_
        refine L_iadd C (pc' := 485) dL_law_484 rfl ?_
        refine L_sld C (pc' := 486) dL_law_485 (by unfold wr32; omega) (by unfold wr32; omega) rfl ?_
        refine L_aload_n C (i := 0) (pc' := 487) dL_law_486 rfl rfl rfl ?_
        refine L_iload_n C (i := 3) (pc' := 488) dL_law_487 rfl rfl rfl ?_
        refine L_iconst C (pc' := 489) dL_law_488 (by decide) rfl ?_
        refine L_iadd C (pc' := 490) dL_law_489 rfl ?_
        refine L_sld C (pc' := 491) dL_law_490 (by unfold wr32; omega) (by unfold wr32; omega) rfl ?_
        refine L_callV C (av := [(0, (xs (wr32 (i + 1)).toNat).toInt), (0, (xs (wr32 (i + 2)).toNat).toInt)]) (st := []) (d2 := 8) (nc2 := 0) (ns2 := 0) (pc' := 494) dL_law_491 mtX11_does mvX11_does mlL_59 cl11 rfl rfl rfl (Nat.le_of_ble_eq_true rfl) (by decide) ⟨by decide, by decide⟩ rfl (fun oa ok => h_does (xs (wr32 (i + 1)).toNat).toInt (xs (wr32 (i + 2)).toNat).toInt M hI oa ok) ?_
        rintro _ _ M1 ⟨rfl, a, rfl, hC2⟩ _
        show TL E b Ln xs p e s m below meth c 494 [(2, 1015), (2, 0), (2, 66), (0, i)] [(0, a)] S0 M1 126 19621
        refine L_aload_n C (i := 2) (pc' := 495) dL_law_494 rfl rfl rfl ?_
        refine L_aload_n C (i := 0) (pc' := 496) dL_law_495 rfl rfl rfl ?_
        refine L_iload_n C (i := 3) (pc' := 497) dL_law_496 rfl rfl rfl ?_
        refine L_iconst C (pc' := 498) dL_law_497 (by decide) rfl ?_
        refine L_iadd C (pc' := 499) dL_law_498 rfl ?_
        refine L_sld C (pc' := 500) dL_law_499 (by unfold wr32; omega) (by unfold wr32; omega) rfl ?_
        refine L_aload_n C (i := 0) (pc' := 501) dL_law_500 rfl rfl rfl ?_
        refine L_iload_n C (i := 3) (pc' := 502) dL_law_501 rfl rfl rfl ?_
        refine L_iconst C (pc' := 503) dL_law_502 (by decide) rfl ?_
        refine L_iadd C (pc' := 504) dL_law_503 rfl ?_
        refine L_sld C (pc' := 505) dL_law_504 (by unfold wr32; omega) (by unfold wr32; omega) rfl ?_
        refine L_callV C (av := [(0, (xs (wr32 (i + 1)).toNat).toInt), (0, (xs (wr32 (i + 2)).toNat).toInt)]) (st := [(0, a)]) (d2 := 7) (nc2 := 0) (ns2 := 0) (pc' := 508) dL_law_505 mtX12_does mvX12_does mlL_62 cl12 rfl rfl rfl (Nat.le_of_ble_eq_true rfl) (by decide) ⟨by decide, by decide⟩ rfl (fun oa ok => hC2) ?_
        rintro _ _ M2 ⟨rfl, rfl, hI2⟩ _
        show TL E b Ln xs p e s m below meth c 508 [(2, 1015), (2, 0), (2, 66), (0, i)] [(0, a), (0, a)] S0 M2 126 19621
        refine L_icmp_eq C (pc' := 911) dL_law_508 (by decide) (pf := 511) rfl (fun _ => ?_) (fun z => absurd rfl z)
        exact next M2 hI2
      by_cases c11 : w = 11
      · refine L_tableIn C (pc' := 513) dL_law_33 (by omega) (by omega) (by rw [c11] <;> rfl) (by decide) ?_
        refine L_aload_n C (i := 1) (pc' := 514) dL_law_513 rfl rfl rfl ?_
        refine L_aload_n C (i := 0) (pc' := 515) dL_law_514 rfl rfl rfl ?_
        refine L_iload_n C (i := 3) (pc' := 516) dL_law_515 rfl rfl rfl ?_
        refine L_iconst C (pc' := 517) dL_law_516 (by decide) rfl ?_
        refine L_iadd C (pc' := 518) dL_law_517 rfl ?_
        refine L_sld C (pc' := 519) dL_law_518 (by unfold wr32; omega) (by unfold wr32; omega) rfl ?_
        refine L_aload_n C (i := 0) (pc' := 520) dL_law_519 rfl rfl rfl ?_
        refine L_iload_n C (i := 3) (pc' := 521) dL_law_520 rfl rfl rfl ?_
        refine L_iconst C (pc' := 522) dL_law_521 (by decide) rfl ?_
        refine L_iadd C (pc' := 523) dL_law_522 rfl ?_
        refine L_sld C (pc' := 524) dL_law_523 (by unfold wr32; omega) (by unfold wr32; omega) rfl ?_
        refine L_callV C (av := [(0, (xs (wr32 (i + 1)).toNat).toInt), (0, (xs (wr32 (i + 2)).toNat).toInt)]) (st := []) (d2 := 8) (nc2 := 0) (ns2 := 0) (pc' := 527) dL_law_524 mtX11_count mvX11_count mlL_63 cl11 rfl rfl rfl (Nat.le_of_ble_eq_true rfl) (by decide) ⟨by decide, by decide⟩ rfl (fun oa ok => h_count (xs (wr32 (i + 1)).toNat).toInt (xs (wr32 (i + 2)).toNat).toInt M hI oa ok) ?_
        rintro _ _ M1 ⟨rfl, a, rfl, hC2⟩ _
        show TL E b Ln xs p e s m below meth c 527 [(2, 1015), (2, 0), (2, 66), (0, i)] [(0, a)] S0 M1 126 19621
        refine L_aload_n C (i := 2) (pc' := 528) dL_law_527 rfl rfl rfl ?_
        refine L_aload_n C (i := 0) (pc' := 529) dL_law_528 rfl rfl rfl ?_
        refine L_iload_n C (i := 3) (pc' := 530) dL_law_529 rfl rfl rfl ?_
        refine L_iconst C (pc' := 531) dL_law_530 (by decide) rfl ?_
        refine L_iadd C (pc' := 532) dL_law_531 rfl ?_
        refine L_sld C (pc' := 533) dL_law_532 (by unfold wr32; omega) (by unfold wr32; omega) rfl ?_
        refine L_aload_n C (i := 0) (pc' := 534) dL_law_533 rfl rfl rfl ?_
        refine L_iload_n C (i := 3) (pc' := 535) dL_law_534 rfl rfl rfl ?_
        refine L_iconst C (pc' := 536) dL_law_535 (by decide) rfl ?_
        refine L_iadd C (pc' := 537) dL_law_536 rfl ?_
        refine L_sld C (pc' := 538) dL_law_537 (by unfold wr32; omega) (by unfold wr32; omega) rfl ?_
        refine L_callV C (av := [(0, (xs (wr32 (i + 1)).toNat).toInt), (0, (xs (wr32 (i + 2)).toNat).toInt)]) (st := [(0, a)]) (d2 := 7) (nc2 := 0) (ns2 := 0) (pc' := 541) dL_law_538 mtX12_count mvX12_count mlL_66 cl12 rfl rfl rfl (Nat.le_of_ble_eq_true rfl) (by decide) ⟨by decide, by decide⟩ rfl (fun oa ok => hC2) ?_
        rintro _ _ M2 ⟨rfl, rfl, hI2⟩ _
        show TL E b Ln xs p e s m below meth c 541 [(2, 1015), (2, 0), (2, 66), (0, i)] [(0, a), (0, a)] S0 M2 126 19621
        refine L_icmp_eq C (pc' := 911) dL_law_541 (by decide) (pf := 544) rfl (fun _ => ?_) (fun z => absurd rfl z)
        exact next M2 hI2
      by_cases c12 : w = 12
      · refine L_tableIn C (pc' := 546) dL_law_33 (by omega) (by omega) (by rw [c12] <;> rfl) (by decide) ?_
        refine L_aload_n C (i := 1) (pc' := 547) dL_law_546 rfl rfl rfl ?_
        refine L_aload_n C (i := 0) (pc' := 548) dL_law_547 rfl rfl rfl ?_
        refine L_iload_n C (i := 3) (pc' := 549) dL_law_548 rfl rfl rfl ?_
        refine L_iconst C (pc' := 550) dL_law_549 (by decide) rfl ?_
        refine L_iadd C (pc' := 551) dL_law_550 rfl ?_
        refine L_sld C (pc' := 552) dL_law_551 (by unfold wr32; omega) (by unfold wr32; omega) rfl ?_
        refine L_callV C (av := [(0, (xs (wr32 (i + 1)).toNat).toInt)]) (st := []) (d2 := 8) (nc2 := 0) (ns2 := 0) (pc' := 555) dL_law_552 mtX11_whole mvX11_whole mlL_67 cl11 rfl rfl rfl (Nat.le_of_ble_eq_true rfl) (by decide) ⟨by decide, by decide⟩ rfl (fun oa ok => h_whole (xs (wr32 (i + 1)).toNat).toInt M hI oa ok) ?_
        rintro _ _ M1 ⟨rfl, a, rfl, hC2⟩ _
        show TL E b Ln xs p e s m below meth c 555 [(2, 1015), (2, 0), (2, 66), (0, i)] [(0, a)] S0 M1 126 19621
        refine L_aload_n C (i := 2) (pc' := 556) dL_law_555 rfl rfl rfl ?_
        refine L_aload_n C (i := 0) (pc' := 557) dL_law_556 rfl rfl rfl ?_
        refine L_iload_n C (i := 3) (pc' := 558) dL_law_557 rfl rfl rfl ?_
        refine L_iconst C (pc' := 559) dL_law_558 (by decide) rfl ?_
        refine L_iadd C (pc' := 560) dL_law_559 rfl ?_
        refine L_sld C (pc' := 561) dL_law_560 (by unfold wr32; omega) (by unfold wr32; omega) rfl ?_
        refine L_callV C (av := [(0, (xs (wr32 (i + 1)).toNat).toInt)]) (st := [(0, a)]) (d2 := 7) (nc2 := 0) (ns2 := 0) (pc' := 564) dL_law_561 mtX12_whole mvX12_whole mlL_70 cl12 rfl rfl rfl (Nat.le_of_ble_eq_true rfl) (by decide) ⟨by decide, by decide⟩ rfl (fun oa ok => hC2) ?_
        rintro _ _ M2 ⟨rfl, rfl, hI2⟩ _
        show TL E b Ln xs p e s m below meth c 564 [(2, 1015), (2, 0), (2, 66), (0, i)] [(0, a), (0, a)] S0 M2 126 19621
        refine L_icmp_eq C (pc' := 911) dL_law_564 (by decide) (pf := 567) rfl (fun _ => ?_) (fun z => absurd rfl z)
        exact next M2 hI2
      by_cases c13 : w = 13
      · refine L_tableIn C (pc' := 569) dL_law_33 (by omega) (by omega) (by rw [c13] <;> rfl) (by decide) ?_
        refine L_aload_n C (i := 1) (pc' := 570) dL_law_569 rfl rfl rfl ?_
        refine L_aload_n C (i := 0) (pc' := 571) dL_law_570 rfl rfl rfl ?_
        refine L_iload_n C (i := 3) (pc' := 572) dL_law_571 rfl rfl rfl ?_
        refine L_iconst C (pc' := 573) dL_law_572 (by decide) rfl ?_
        refine L_iadd C (pc' := 574) dL_law_573 rfl ?_
        refine L_sld C (pc' := 575) dL_law_574 (by unfold wr32; omega) (by unfold wr32; omega) rfl ?_
        refine L_aload_n C (i := 0) (pc' := 576) dL_law_575 rfl rfl rfl ?_
        refine L_iload_n C (i := 3) (pc' := 577) dL_law_576 rfl rfl rfl ?_
        refine L_iconst C (pc' := 578) dL_law_577 (by decide) rfl ?_
        refine L_iadd C (pc' := 579) dL_law_578 rfl ?_
        refine L_sld C (pc' := 580) dL_law_579 (by unfold wr32; omega) (by unfold wr32; omega) rfl ?_
        refine L_aload_n C (i := 0) (pc' := 581) dL_law_580 rfl rfl rfl ?_
        refine L_iload_n C (i := 3) (pc' := 582) dL_law_581 rfl rfl rfl ?_
        refine L_iconst C (pc' := 583) dL_law_582 (by decide) rfl ?_
        refine L_iadd C (pc' := 584) dL_law_583 rfl ?_
        refine L_sld C (pc' := 585) dL_law_584 (by unfold wr32; omega) (by unfold wr32; omega) rfl ?_
        refine L_callV C (av := [(0, (xs (wr32 (i + 1)).toNat).toInt), (0, (xs (wr32 (i + 2)).toNat).toInt), (0, (xs (wr32 (i + 3)).toNat).toInt)]) (st := []) (d2 := 4) (nc2 := 0) (ns2 := 0) (pc' := 588) dL_law_585 mtX11_set mvX11_set mlL_71 cl11 rfl rfl rfl (Nat.le_of_ble_eq_true rfl) (by decide) ⟨by decide, by decide⟩ rfl (fun oa ok => h_set (xs (wr32 (i + 1)).toNat).toInt (xs (wr32 (i + 2)).toNat).toInt (xs (wr32 (i + 3)).toNat).toInt M hI oa ok) ?_
        rintro _ _ M1 ⟨rfl, a, rfl, hC2⟩ _
        show TL E b Ln xs p e s m below meth c 588 [(2, 1015), (2, 0), (2, 66), (0, i)] [(0, a)] S0 M1 126 19621
        refine L_aload_n C (i := 2) (pc' := 589) dL_law_588 rfl rfl rfl ?_
        refine L_aload_n C (i := 0) (pc' := 590) dL_law_589 rfl rfl rfl ?_
        refine L_iload_n C (i := 3) (pc' := 591) dL_law_590 rfl rfl rfl ?_
        refine L_iconst C (pc' := 592) dL_law_591 (by decide) rfl ?_
        refine L_iadd C (pc' := 593) dL_law_592 rfl ?_
        refine L_sld C (pc' := 594) dL_law_593 (by unfold wr32; omega) (by unfold wr32; omega) rfl ?_
        refine L_aload_n C (i := 0) (pc' := 595) dL_law_594 rfl rfl rfl ?_
        refine L_iload_n C (i := 3) (pc' := 596) dL_law_595 rfl rfl rfl ?_
        refine L_iconst C (pc' := 597) dL_law_596 (by decide) rfl ?_
        refine L_iadd C (pc' := 598) dL_law_597 rfl ?_
        refine L_sld C (pc' := 599) dL_law_598 (by unfold wr32; omega) (by unfold wr32; omega) rfl ?_
        refine L_aload_n C (i := 0) (pc' := 600) dL_law_599 rfl rfl rfl ?_
        refine L_iload_n C (i := 3) (pc' := 601) dL_law_600 rfl rfl rfl ?_
        refine L_iconst C (pc' := 602) dL_law_601 (by decide) rfl ?_
        refine L_iadd C (pc' := 603) dL_law_602 rfl ?_
        refine L_sld C (pc' := 604) dL_law_603 (by unfold wr32; omega) (by unfold wr32; omega) rfl ?_
        refine L_callV C (av := [(0, (xs (wr32 (i + 1)).toNat).toInt), (0, (xs (wr32 (i + 2)).toNat).toInt), (0, (xs (wr32 (i + 3)).toNat).toInt)]) (st := [(0, a)]) (d2 := 3) (nc2 := 0) (ns2 := 0) (pc' := 607) dL_law_604 mtX12_set mvX12_set mlL_74 cl12 rfl rfl rfl (Nat.le_of_ble_eq_true rfl) (by decide) ⟨by decide, by decide⟩ rfl (fun oa ok => hC2) ?_
        rintro _ _ M2 ⟨rfl, rfl, hI2⟩ _
        show TL E b Ln xs p e s m below meth c 607 [(2, 1015), (2, 0), (2, 66), (0, i)] [(0, a), (0, a)] S0 M2 126 19621
        refine L_icmp_eq C (pc' := 911) dL_law_607 (by decide) (pf := 610) rfl (fun _ => ?_) (fun z => absurd rfl z)
        exact next M2 hI2
      by_cases c14 : w = 14
      · refine L_tableIn C (pc' := 612) dL_law_33 (by omega) (by omega) (by rw [c14] <;> rfl) (by decide) ?_
        by_cases hz0 : (xs (wr32 (i + 2)).toNat).toInt = 0
        · skip
          refine L_aload_n C (i := 1) (pc' := 613) dL_law_612 rfl rfl rfl ?_
          refine L_aload_n C (i := 0) (pc' := 614) dL_law_613 rfl rfl rfl ?_
          refine L_iload_n C (i := 3) (pc' := 615) dL_law_614 rfl rfl rfl ?_
          refine L_iconst C (pc' := 616) dL_law_615 (by decide) rfl ?_
          refine L_iadd C (pc' := 617) dL_law_616 rfl ?_
          refine L_sld C (pc' := 618) dL_law_617 (by unfold wr32; omega) (by unfold wr32; omega) rfl ?_
          refine L_aload_n C (i := 0) (pc' := 619) dL_law_618 rfl rfl rfl ?_
          refine L_iload_n C (i := 3) (pc' := 620) dL_law_619 rfl rfl rfl ?_
          refine L_iconst C (pc' := 621) dL_law_620 (by decide) rfl ?_
          refine L_iadd C (pc' := 622) dL_law_621 rfl ?_
          refine L_sld C (pc' := 623) dL_law_622 (by unfold wr32; omega) (by unfold wr32; omega) rfl ?_
          refine L_if_eq C (pc' := 630) dL_law_623 (by decide) (pf := 626) rfl (fun _ => ?_) (fun q => absurd hz0 q)
          refine L_iconst C (pc' := 631) dL_law_630 (by decide) rfl ?_
          refine L_callV C (av := [(0, (xs (wr32 (i + 1)).toNat).toInt), (0, 0)]) (st := []) (d2 := 3) (nc2 := 0) (ns2 := 0) (pc' := 634) dL_law_631 mtX11_close mvX11_close mlL_75 cl11 rfl rfl rfl (Nat.le_of_ble_eq_true rfl) (by decide) ⟨by decide, by decide⟩ rfl (fun oa ok => h_close ((xs (wr32 (i + 1)).toNat).toInt) 0 (by decide) M hI oa ok) ?_
          rintro _ _ M1 ⟨rfl, a, rfl, hC2⟩ _
          show TL E b Ln xs p e s m below meth c 634 [(2, 1015), (2, 0), (2, 66), (0, i)] [(0, a)] S0 M1 126 19621
          refine L_aload_n C (i := 2) (pc' := 635) dL_law_634 rfl rfl rfl ?_
          refine L_aload_n C (i := 0) (pc' := 636) dL_law_635 rfl rfl rfl ?_
          refine L_iload_n C (i := 3) (pc' := 637) dL_law_636 rfl rfl rfl ?_
          refine L_iconst C (pc' := 638) dL_law_637 (by decide) rfl ?_
          refine L_iadd C (pc' := 639) dL_law_638 rfl ?_
          refine L_sld C (pc' := 640) dL_law_639 (by unfold wr32; omega) (by unfold wr32; omega) rfl ?_
          refine L_aload_n C (i := 0) (pc' := 641) dL_law_640 rfl rfl rfl ?_
          refine L_iload_n C (i := 3) (pc' := 642) dL_law_641 rfl rfl rfl ?_
          refine L_iconst C (pc' := 643) dL_law_642 (by decide) rfl ?_
          refine L_iadd C (pc' := 644) dL_law_643 rfl ?_
          refine L_sld C (pc' := 645) dL_law_644 (by unfold wr32; omega) (by unfold wr32; omega) rfl ?_
          refine L_if_eq C (pc' := 652) dL_law_645 (by decide) (pf := 648) rfl (fun _ => ?_) (fun q => absurd hz0 q)
          refine L_iconst C (pc' := 653) dL_law_652 (by decide) rfl ?_
          refine L_callV C (av := [(0, (xs (wr32 (i + 1)).toNat).toInt), (0, 0)]) (st := [(0, a)]) (d2 := 3) (nc2 := 0) (ns2 := 0) (pc' := 656) dL_law_653 mtX12_close mvX12_close mlL_79 cl12 rfl rfl rfl (Nat.le_of_ble_eq_true rfl) (by decide) ⟨by decide, by decide⟩ rfl (fun oa ok => hC2) ?_
          rintro _ _ M2 ⟨rfl, rfl, hI2⟩ _
          show TL E b Ln xs p e s m below meth c 656 [(2, 1015), (2, 0), (2, 66), (0, i)] [(0, a), (0, a)] S0 M2 126 19621
          refine L_icmp_eq C (pc' := 911) dL_law_656 (by decide) (pf := 659) rfl (fun _ => ?_) (fun z => absurd rfl z)
          exact next M2 hI2
        · skip
          refine L_aload_n C (i := 1) (pc' := 613) dL_law_612 rfl rfl rfl ?_
          refine L_aload_n C (i := 0) (pc' := 614) dL_law_613 rfl rfl rfl ?_
          refine L_iload_n C (i := 3) (pc' := 615) dL_law_614 rfl rfl rfl ?_
          refine L_iconst C (pc' := 616) dL_law_615 (by decide) rfl ?_
          refine L_iadd C (pc' := 617) dL_law_616 rfl ?_
          refine L_sld C (pc' := 618) dL_law_617 (by unfold wr32; omega) (by unfold wr32; omega) rfl ?_
          refine L_aload_n C (i := 0) (pc' := 619) dL_law_618 rfl rfl rfl ?_
          refine L_iload_n C (i := 3) (pc' := 620) dL_law_619 rfl rfl rfl ?_
          refine L_iconst C (pc' := 621) dL_law_620 (by decide) rfl ?_
          refine L_iadd C (pc' := 622) dL_law_621 rfl ?_
          refine L_sld C (pc' := 623) dL_law_622 (by unfold wr32; omega) (by unfold wr32; omega) rfl ?_
          refine L_if_eq C (pc' := 630) dL_law_623 (by decide) (pf := 626) rfl (fun q => absurd q hz0) (fun _ => ?_)
          refine L_iconst C (pc' := 627) dL_law_626 (by decide) rfl ?_
          refine L_goto C (pc' := 631) dL_law_627 (by decide) ?_
          refine L_callV C (av := [(0, (xs (wr32 (i + 1)).toNat).toInt), (0, 1)]) (st := []) (d2 := 3) (nc2 := 0) (ns2 := 0) (pc' := 634) dL_law_631 mtX11_close mvX11_close mlL_75 cl11 rfl rfl rfl (Nat.le_of_ble_eq_true rfl) (by decide) ⟨by decide, by decide⟩ rfl (fun oa ok => h_close ((xs (wr32 (i + 1)).toNat).toInt) 1 (by decide) M hI oa ok) ?_
          rintro _ _ M1 ⟨rfl, a, rfl, hC2⟩ _
          show TL E b Ln xs p e s m below meth c 634 [(2, 1015), (2, 0), (2, 66), (0, i)] [(0, a)] S0 M1 126 19621
          refine L_aload_n C (i := 2) (pc' := 635) dL_law_634 rfl rfl rfl ?_
          refine L_aload_n C (i := 0) (pc' := 636) dL_law_635 rfl rfl rfl ?_
          refine L_iload_n C (i := 3) (pc' := 637) dL_law_636 rfl rfl rfl ?_
          refine L_iconst C (pc' := 638) dL_law_637 (by decide) rfl ?_
          refine L_iadd C (pc' := 639) dL_law_638 rfl ?_
          refine L_sld C (pc' := 640) dL_law_639 (by unfold wr32; omega) (by unfold wr32; omega) rfl ?_
          refine L_aload_n C (i := 0) (pc' := 641) dL_law_640 rfl rfl rfl ?_
          refine L_iload_n C (i := 3) (pc' := 642) dL_law_641 rfl rfl rfl ?_
          refine L_iconst C (pc' := 643) dL_law_642 (by decide) rfl ?_
          refine L_iadd C (pc' := 644) dL_law_643 rfl ?_
          refine L_sld C (pc' := 645) dL_law_644 (by unfold wr32; omega) (by unfold wr32; omega) rfl ?_
          refine L_if_eq C (pc' := 652) dL_law_645 (by decide) (pf := 648) rfl (fun q => absurd q hz0) (fun _ => ?_)
          refine L_iconst C (pc' := 649) dL_law_648 (by decide) rfl ?_
          refine L_goto C (pc' := 653) dL_law_649 (by decide) ?_
          refine L_callV C (av := [(0, (xs (wr32 (i + 1)).toNat).toInt), (0, 1)]) (st := [(0, a)]) (d2 := 3) (nc2 := 0) (ns2 := 0) (pc' := 656) dL_law_653 mtX12_close mvX12_close mlL_79 cl12 rfl rfl rfl (Nat.le_of_ble_eq_true rfl) (by decide) ⟨by decide, by decide⟩ rfl (fun oa ok => hC2) ?_
          rintro _ _ M2 ⟨rfl, rfl, hI2⟩ _
          show TL E b Ln xs p e s m below meth c 656 [(2, 1015), (2, 0), (2, 66), (0, i)] [(0, a), (0, a)] S0 M2 126 19621
          refine L_icmp_eq C (pc' := 911) dL_law_656 (by decide) (pf := 659) rfl (fun _ => ?_) (fun z => absurd rfl z)
          exact next M2 hI2
      by_cases c15 : w = 15
      · refine L_tableIn C (pc' := 661) dL_law_33 (by omega) (by omega) (by rw [c15] <;> rfl) (by decide) ?_
        refine L_aload_n C (i := 1) (pc' := 662) dL_law_661 rfl rfl rfl ?_
        refine L_callV C (av := []) (st := []) (d2 := 4) (nc2 := 0) (ns2 := 0) (pc' := 665) dL_law_662 mtX11_undo mvX11_undo mlL_80 cl11 rfl rfl rfl (Nat.le_of_ble_eq_true rfl) (by decide) ⟨by decide, by decide⟩ rfl (fun oa ok => h_undo M hI oa ok) ?_
        rintro _ _ M1 ⟨rfl, a, rfl, hC2⟩ _
        show TL E b Ln xs p e s m below meth c 665 [(2, 1015), (2, 0), (2, 66), (0, i)] [(0, a)] S0 M1 126 19621
        refine L_aload_n C (i := 2) (pc' := 666) dL_law_665 rfl rfl rfl ?_
        refine L_callV C (av := []) (st := [(0, a)]) (d2 := 2) (nc2 := 0) (ns2 := 0) (pc' := 669) dL_law_666 mtX12_undo mvX12_undo mlL_84 cl12 rfl rfl rfl (Nat.le_of_ble_eq_true rfl) (by decide) ⟨by decide, by decide⟩ rfl (fun oa ok => hC2) ?_
        rintro _ _ M2 ⟨rfl, rfl, hI2⟩ _
        show TL E b Ln xs p e s m below meth c 669 [(2, 1015), (2, 0), (2, 66), (0, i)] [(0, a), (0, a)] S0 M2 126 19621
        refine L_icmp_eq C (pc' := 911) dL_law_669 (by decide) (pf := 672) rfl (fun _ => ?_) (fun z => absurd rfl z)
        exact next M2 hI2
      by_cases c16 : w = 16
      · refine L_tableIn C (pc' := 674) dL_law_33 (by omega) (by omega) (by rw [c16] <;> rfl) (by decide) ?_
        refine L_aload_n C (i := 1) (pc' := 675) dL_law_674 rfl rfl rfl ?_
        refine L_aload_n C (i := 0) (pc' := 676) dL_law_675 rfl rfl rfl ?_
        refine L_iload_n C (i := 3) (pc' := 677) dL_law_676 rfl rfl rfl ?_
        refine L_iconst C (pc' := 678) dL_law_677 (by decide) rfl ?_
        refine L_iadd C (pc' := 679) dL_law_678 rfl ?_
        refine L_sld C (pc' := 680) dL_law_679 (by unfold wr32; omega) (by unfold wr32; omega) rfl ?_
        refine L_callV C (av := [(0, (xs (wr32 (i + 1)).toNat).toInt)]) (st := []) (d2 := 2) (nc2 := 0) (ns2 := 0) (pc' := 683) dL_law_680 mtX11_come mvX11_come mlL_85 cl11 rfl rfl rfl (Nat.le_of_ble_eq_true rfl) (by decide) ⟨by decide, by decide⟩ rfl (fun oa ok => h_come (xs (wr32 (i + 1)).toNat).toInt M hI oa ok) ?_
        rintro _ _ M1 ⟨rfl, a, rfl, hC2⟩ _
        show TL E b Ln xs p e s m below meth c 683 [(2, 1015), (2, 0), (2, 66), (0, i)] [(0, a)] S0 M1 126 19621
        refine L_aload_n C (i := 2) (pc' := 684) dL_law_683 rfl rfl rfl ?_
        refine L_aload_n C (i := 0) (pc' := 685) dL_law_684 rfl rfl rfl ?_
        refine L_iload_n C (i := 3) (pc' := 686) dL_law_685 rfl rfl rfl ?_
        refine L_iconst C (pc' := 687) dL_law_686 (by decide) rfl ?_
        refine L_iadd C (pc' := 688) dL_law_687 rfl ?_
        refine L_sld C (pc' := 689) dL_law_688 (by unfold wr32; omega) (by unfold wr32; omega) rfl ?_
        refine L_callV C (av := [(0, (xs (wr32 (i + 1)).toNat).toInt)]) (st := [(0, a)]) (d2 := 2) (nc2 := 0) (ns2 := 0) (pc' := 692) dL_law_689 mtX12_come mvX12_come mlL_88 cl12 rfl rfl rfl (Nat.le_of_ble_eq_true rfl) (by decide) ⟨by decide, by decide⟩ rfl (fun oa ok => hC2) ?_
        rintro _ _ M2 ⟨rfl, rfl, hI2⟩ _
        show TL E b Ln xs p e s m below meth c 692 [(2, 1015), (2, 0), (2, 66), (0, i)] [(0, a), (0, a)] S0 M2 126 19621
        refine L_icmp_eq C (pc' := 911) dL_law_692 (by decide) (pf := 695) rfl (fun _ => ?_) (fun z => absurd rfl z)
        exact next M2 hI2
      by_cases c17 : w = 17
      · refine L_tableIn C (pc' := 697) dL_law_33 (by omega) (by omega) (by rw [c17] <;> rfl) (by decide) ?_
        refine L_aload_n C (i := 1) (pc' := 698) dL_law_697 rfl rfl rfl ?_
        refine L_callV C (av := []) (st := []) (d2 := 2) (nc2 := 0) (ns2 := 0) (pc' := 701) dL_law_698 mtX11_lot mvX11_lot mlL_89 cl11 rfl rfl rfl (Nat.le_of_ble_eq_true rfl) (by decide) ⟨by decide, by decide⟩ rfl (fun oa ok => h_lot M hI oa ok) ?_
        rintro _ _ M1 ⟨rfl, a, rfl, hC2⟩ _
        show TL E b Ln xs p e s m below meth c 701 [(2, 1015), (2, 0), (2, 66), (0, i)] [(0, a)] S0 M1 126 19621
        refine L_aload_n C (i := 2) (pc' := 702) dL_law_701 rfl rfl rfl ?_
        refine L_callV C (av := []) (st := [(0, a)]) (d2 := 2) (nc2 := 0) (ns2 := 0) (pc' := 705) dL_law_702 mtX12_lot mvX12_lot mlL_92 cl12 rfl rfl rfl (Nat.le_of_ble_eq_true rfl) (by decide) ⟨by decide, by decide⟩ rfl (fun oa ok => hC2) ?_
        rintro _ _ M2 ⟨rfl, rfl, hI2⟩ _
        show TL E b Ln xs p e s m below meth c 705 [(2, 1015), (2, 0), (2, 66), (0, i)] [(0, a), (0, a)] S0 M2 126 19621
        refine L_icmp_eq C (pc' := 911) dL_law_705 (by decide) (pf := 708) rfl (fun _ => ?_) (fun z => absurd rfl z)
        exact next M2 hI2
      by_cases c18 : w = 18
      · refine L_tableIn C (pc' := 710) dL_law_33 (by omega) (by omega) (by rw [c18] <;> rfl) (by decide) ?_
        refine L_aload_n C (i := 1) (pc' := 711) dL_law_710 rfl rfl rfl ?_
        refine L_aload_n C (i := 0) (pc' := 712) dL_law_711 rfl rfl rfl ?_
        refine L_iload_n C (i := 3) (pc' := 713) dL_law_712 rfl rfl rfl ?_
        refine L_iconst C (pc' := 714) dL_law_713 (by decide) rfl ?_
        refine L_iadd C (pc' := 715) dL_law_714 rfl ?_
        refine L_sld C (pc' := 716) dL_law_715 (by unfold wr32; omega) (by unfold wr32; omega) rfl ?_
        refine L_callV C (av := [(0, (xs (wr32 (i + 1)).toNat).toInt)]) (st := []) (d2 := 1) (nc2 := 0) (ns2 := 0) (pc' := 719) dL_law_716 mtX11_seed mvX11_seed mlL_93 cl11 rfl rfl rfl (Nat.le_of_ble_eq_true rfl) (by decide) ⟨by decide, by decide⟩ rfl (fun oa ok => h_seed (xs (wr32 (i + 1)).toNat).toInt M hI oa ok) ?_
        rintro _ _ M1 ⟨rfl, a, rfl, hC2⟩ _
        show TL E b Ln xs p e s m below meth c 719 [(2, 1015), (2, 0), (2, 66), (0, i)] [(0, a)] S0 M1 126 19621
        refine L_aload_n C (i := 2) (pc' := 720) dL_law_719 rfl rfl rfl ?_
        refine L_aload_n C (i := 0) (pc' := 721) dL_law_720 rfl rfl rfl ?_
        refine L_iload_n C (i := 3) (pc' := 722) dL_law_721 rfl rfl rfl ?_
        refine L_iconst C (pc' := 723) dL_law_722 (by decide) rfl ?_
        refine L_iadd C (pc' := 724) dL_law_723 rfl ?_
        refine L_sld C (pc' := 725) dL_law_724 (by unfold wr32; omega) (by unfold wr32; omega) rfl ?_
        refine L_callV C (av := [(0, (xs (wr32 (i + 1)).toNat).toInt)]) (st := [(0, a)]) (d2 := 1) (nc2 := 0) (ns2 := 0) (pc' := 728) dL_law_725 mtX12_seed mvX12_seed mlL_96 cl12 rfl rfl rfl (Nat.le_of_ble_eq_true rfl) (by decide) ⟨by decide, by decide⟩ rfl (fun oa ok => hC2) ?_
        rintro _ _ M2 ⟨rfl, rfl, hI2⟩ _
        show TL E b Ln xs p e s m below meth c 728 [(2, 1015), (2, 0), (2, 66), (0, i)] [(0, a), (0, a)] S0 M2 126 19621
        refine L_icmp_eq C (pc' := 911) dL_law_728 (by decide) (pf := 731) rfl (fun _ => ?_) (fun z => absurd rfl z)
        exact next M2 hI2
      by_cases c19 : w = 19
      · refine L_tableIn C (pc' := 733) dL_law_33 (by omega) (by omega) (by rw [c19] <;> rfl) (by decide) ?_
        refine L_aload_n C (i := 1) (pc' := 734) dL_law_733 rfl rfl rfl ?_
        refine L_callV C (av := []) (st := []) (d2 := 8) (nc2 := 0) (ns2 := 0) (pc' := 737) dL_law_734 mtX11_odds mvX11_odds mlL_97 cl11 rfl rfl rfl (Nat.le_of_ble_eq_true rfl) (by decide) ⟨by decide, by decide⟩ rfl (fun oa ok => h_odds M hI oa ok) ?_
        rintro _ _ M1 ⟨rfl, a, rfl, hC2⟩ _
        show TL E b Ln xs p e s m below meth c 737 [(2, 1015), (2, 0), (2, 66), (0, i)] [(0, a)] S0 M1 126 19621
        refine L_aload_n C (i := 2) (pc' := 738) dL_law_737 rfl rfl rfl ?_
        refine L_callV C (av := []) (st := [(0, a)]) (d2 := 8) (nc2 := 0) (ns2 := 0) (pc' := 741) dL_law_738 mtX12_odds mvX12_odds mlL_100 cl12 rfl rfl rfl (Nat.le_of_ble_eq_true rfl) (by decide) ⟨by decide, by decide⟩ rfl (fun oa ok => hC2) ?_
        rintro _ _ M2 ⟨rfl, rfl, hI2⟩ _
        show TL E b Ln xs p e s m below meth c 741 [(2, 1015), (2, 0), (2, 66), (0, i)] [(0, a), (0, a)] S0 M2 126 19621
        refine L_icmp_eq C (pc' := 911) dL_law_741 (by decide) (pf := 744) rfl (fun _ => ?_) (fun z => absurd rfl z)
        exact next M2 hI2
      by_cases c20 : w = 20
      · refine L_tableIn C (pc' := 746) dL_law_33 (by omega) (by omega) (by rw [c20] <;> rfl) (by decide) ?_
        refine L_aload_n C (i := 1) (pc' := 747) dL_law_746 rfl rfl rfl ?_
        refine L_aload_n C (i := 0) (pc' := 748) dL_law_747 rfl rfl rfl ?_
        refine L_iload_n C (i := 3) (pc' := 749) dL_law_748 rfl rfl rfl ?_
        refine L_iconst C (pc' := 750) dL_law_749 (by decide) rfl ?_
        refine L_iadd C (pc' := 751) dL_law_750 rfl ?_
        refine L_sld C (pc' := 752) dL_law_751 (by unfold wr32; omega) (by unfold wr32; omega) rfl ?_
        refine L_callV C (av := [(0, (xs (wr32 (i + 1)).toNat).toInt)]) (st := []) (d2 := 7) (nc2 := 0) (ns2 := 0) (pc' := 755) dL_law_752 mtX11_spark mvX11_spark mlL_101 cl11 rfl rfl rfl (Nat.le_of_ble_eq_true rfl) (by decide) ⟨by decide, by decide⟩ rfl (fun oa ok => h_spark (xs (wr32 (i + 1)).toNat).toInt M hI oa ok) ?_
        rintro _ _ M1 ⟨rfl, a, rfl, hC2⟩ _
        show TL E b Ln xs p e s m below meth c 755 [(2, 1015), (2, 0), (2, 66), (0, i)] [(0, a)] S0 M1 126 19621
        refine L_aload_n C (i := 2) (pc' := 756) dL_law_755 rfl rfl rfl ?_
        refine L_aload_n C (i := 0) (pc' := 757) dL_law_756 rfl rfl rfl ?_
        refine L_iload_n C (i := 3) (pc' := 758) dL_law_757 rfl rfl rfl ?_
        refine L_iconst C (pc' := 759) dL_law_758 (by decide) rfl ?_
        refine L_iadd C (pc' := 760) dL_law_759 rfl ?_
        refine L_sld C (pc' := 761) dL_law_760 (by unfold wr32; omega) (by unfold wr32; omega) rfl ?_
        refine L_callV C (av := [(0, (xs (wr32 (i + 1)).toNat).toInt)]) (st := [(0, a)]) (d2 := 7) (nc2 := 0) (ns2 := 0) (pc' := 764) dL_law_761 mtX12_spark mvX12_spark mlL_104 cl12 rfl rfl rfl (Nat.le_of_ble_eq_true rfl) (by decide) ⟨by decide, by decide⟩ rfl (fun oa ok => hC2) ?_
        rintro _ _ M2 ⟨rfl, rfl, hI2⟩ _
        show TL E b Ln xs p e s m below meth c 764 [(2, 1015), (2, 0), (2, 66), (0, i)] [(0, a), (0, a)] S0 M2 126 19621
        refine L_icmp_eq C (pc' := 911) dL_law_764 (by decide) (pf := 767) rfl (fun _ => ?_) (fun z => absurd rfl z)
        exact next M2 hI2
      by_cases c21 : w = 21
      · refine L_tableIn C (pc' := 769) dL_law_33 (by omega) (by omega) (by rw [c21] <;> rfl) (by decide) ?_
        refine L_aload_n C (i := 1) (pc' := 770) dL_law_769 rfl rfl rfl ?_
        refine L_aload_n C (i := 0) (pc' := 771) dL_law_770 rfl rfl rfl ?_
        refine L_iload_n C (i := 3) (pc' := 772) dL_law_771 rfl rfl rfl ?_
        refine L_iconst C (pc' := 773) dL_law_772 (by decide) rfl ?_
        refine L_iadd C (pc' := 774) dL_law_773 rfl ?_
        refine L_sld C (pc' := 775) dL_law_774 (by unfold wr32; omega) (by unfold wr32; omega) rfl ?_
        refine L_callV C (av := [(0, (xs (wr32 (i + 1)).toNat).toInt)]) (st := []) (d2 := 7) (nc2 := 0) (ns2 := 0) (pc' := 778) dL_law_775 mtX11_daring mvX11_daring mlL_105 cl11 rfl rfl rfl (Nat.le_of_ble_eq_true rfl) (by decide) ⟨by decide, by decide⟩ rfl (fun oa ok => h_daring (xs (wr32 (i + 1)).toNat).toInt M hI oa ok) ?_
        rintro _ _ M1 ⟨rfl, a, rfl, hC2⟩ _
        show TL E b Ln xs p e s m below meth c 778 [(2, 1015), (2, 0), (2, 66), (0, i)] [(0, a)] S0 M1 126 19621
        refine L_aload_n C (i := 2) (pc' := 779) dL_law_778 rfl rfl rfl ?_
        refine L_aload_n C (i := 0) (pc' := 780) dL_law_779 rfl rfl rfl ?_
        refine L_iload_n C (i := 3) (pc' := 781) dL_law_780 rfl rfl rfl ?_
        refine L_iconst C (pc' := 782) dL_law_781 (by decide) rfl ?_
        refine L_iadd C (pc' := 783) dL_law_782 rfl ?_
        refine L_sld C (pc' := 784) dL_law_783 (by unfold wr32; omega) (by unfold wr32; omega) rfl ?_
        refine L_callV C (av := [(0, (xs (wr32 (i + 1)).toNat).toInt)]) (st := [(0, a)]) (d2 := 8) (nc2 := 0) (ns2 := 0) (pc' := 787) dL_law_784 mtX12_daring mvX12_daring mlL_108 cl12 rfl rfl rfl (Nat.le_of_ble_eq_true rfl) (by decide) ⟨by decide, by decide⟩ rfl (fun oa ok => hC2) ?_
        rintro _ _ M2 ⟨rfl, rfl, hI2⟩ _
        show TL E b Ln xs p e s m below meth c 787 [(2, 1015), (2, 0), (2, 66), (0, i)] [(0, a), (0, a)] S0 M2 126 19621
        refine L_icmp_eq C (pc' := 911) dL_law_787 (by decide) (pf := 790) rfl (fun _ => ?_) (fun z => absurd rfl z)
        exact next M2 hI2
      by_cases c22 : w = 22
      · refine L_tableIn C (pc' := 792) dL_law_33 (by omega) (by omega) (by rw [c22] <;> rfl) (by decide) ?_
        refine L_aload_n C (i := 1) (pc' := 793) dL_law_792 rfl rfl rfl ?_
        refine L_aload_n C (i := 0) (pc' := 794) dL_law_793 rfl rfl rfl ?_
        refine L_iload_n C (i := 3) (pc' := 795) dL_law_794 rfl rfl rfl ?_
        refine L_iconst C (pc' := 796) dL_law_795 (by decide) rfl ?_
        refine L_iadd C (pc' := 797) dL_law_796 rfl ?_
        refine L_sld C (pc' := 798) dL_law_797 (by unfold wr32; omega) (by unfold wr32; omega) rfl ?_
        refine L_callV C (av := [(0, (xs (wr32 (i + 1)).toNat).toInt)]) (st := []) (d2 := 7) (nc2 := 0) (ns2 := 0) (pc' := 801) dL_law_798 mtX11_late mvX11_late mlL_109 cl11 rfl rfl rfl (Nat.le_of_ble_eq_true rfl) (by decide) ⟨by decide, by decide⟩ rfl (fun oa ok => h_late (xs (wr32 (i + 1)).toNat).toInt M hI oa ok) ?_
        rintro _ _ M1 ⟨rfl, a, rfl, hC2⟩ _
        show TL E b Ln xs p e s m below meth c 801 [(2, 1015), (2, 0), (2, 66), (0, i)] [(0, a)] S0 M1 126 19621
        refine L_aload_n C (i := 2) (pc' := 802) dL_law_801 rfl rfl rfl ?_
        refine L_aload_n C (i := 0) (pc' := 803) dL_law_802 rfl rfl rfl ?_
        refine L_iload_n C (i := 3) (pc' := 804) dL_law_803 rfl rfl rfl ?_
        refine L_iconst C (pc' := 805) dL_law_804 (by decide) rfl ?_
        refine L_iadd C (pc' := 806) dL_law_805 rfl ?_
        refine L_sld C (pc' := 807) dL_law_806 (by unfold wr32; omega) (by unfold wr32; omega) rfl ?_
        refine L_callV C (av := [(0, (xs (wr32 (i + 1)).toNat).toInt)]) (st := [(0, a)]) (d2 := 8) (nc2 := 0) (ns2 := 0) (pc' := 810) dL_law_807 mtX12_late mvX12_late mlL_112 cl12 rfl rfl rfl (Nat.le_of_ble_eq_true rfl) (by decide) ⟨by decide, by decide⟩ rfl (fun oa ok => hC2) ?_
        rintro _ _ M2 ⟨rfl, rfl, hI2⟩ _
        show TL E b Ln xs p e s m below meth c 810 [(2, 1015), (2, 0), (2, 66), (0, i)] [(0, a), (0, a)] S0 M2 126 19621
        refine L_icmp_eq C (pc' := 911) dL_law_810 (by decide) (pf := 813) rfl (fun _ => ?_) (fun z => absurd rfl z)
        exact next M2 hI2
      by_cases c23 : w = 23
      · refine L_tableIn C (pc' := 815) dL_law_33 (by omega) (by omega) (by rw [c23] <;> rfl) (by decide) ?_
        refine L_aload_n C (i := 1) (pc' := 816) dL_law_815 rfl rfl rfl ?_
        refine L_aload_n C (i := 0) (pc' := 817) dL_law_816 rfl rfl rfl ?_
        refine L_iload_n C (i := 3) (pc' := 818) dL_law_817 rfl rfl rfl ?_
        refine L_iconst C (pc' := 819) dL_law_818 (by decide) rfl ?_
        refine L_iadd C (pc' := 820) dL_law_819 rfl ?_
        refine L_sld C (pc' := 821) dL_law_820 (by unfold wr32; omega) (by unfold wr32; omega) rfl ?_
        refine L_aload_n C (i := 0) (pc' := 822) dL_law_821 rfl rfl rfl ?_
        refine L_iload_n C (i := 3) (pc' := 823) dL_law_822 rfl rfl rfl ?_
        refine L_iconst C (pc' := 824) dL_law_823 (by decide) rfl ?_
        refine L_iadd C (pc' := 825) dL_law_824 rfl ?_
        refine L_sld C (pc' := 826) dL_law_825 (by unfold wr32; omega) (by unfold wr32; omega) rfl ?_
        refine L_callV C (av := [(0, (xs (wr32 (i + 1)).toNat).toInt), (0, (xs (wr32 (i + 2)).toNat).toInt)]) (st := []) (d2 := 7) (nc2 := 0) (ns2 := 0) (pc' := 829) dL_law_826 mtX11_post mvX11_post mlL_113 cl11 rfl rfl rfl (Nat.le_of_ble_eq_true rfl) (by decide) ⟨by decide, by decide⟩ rfl (fun oa ok => h_post (xs (wr32 (i + 1)).toNat).toInt (xs (wr32 (i + 2)).toNat).toInt M hI oa ok) ?_
        rintro _ _ M1 ⟨rfl, a, rfl, hC2⟩ _
        show TL E b Ln xs p e s m below meth c 829 [(2, 1015), (2, 0), (2, 66), (0, i)] [(0, a)] S0 M1 126 19621
        refine L_aload_n C (i := 2) (pc' := 830) dL_law_829 rfl rfl rfl ?_
        refine L_aload_n C (i := 0) (pc' := 831) dL_law_830 rfl rfl rfl ?_
        refine L_iload_n C (i := 3) (pc' := 832) dL_law_831 rfl rfl rfl ?_
        refine L_iconst C (pc' := 833) dL_law_832 (by decide) rfl ?_
        refine L_iadd C (pc' := 834) dL_law_833 rfl ?_
        refine L_sld C (pc' := 835) dL_law_834 (by unfold wr32; omega) (by unfold wr32; omega) rfl ?_
        refine L_aload_n C (i := 0) (pc' := 836) dL_law_835 rfl rfl rfl ?_
        refine L_iload_n C (i := 3) (pc' := 837) dL_law_836 rfl rfl rfl ?_
        refine L_iconst C (pc' := 838) dL_law_837 (by decide) rfl ?_
        refine L_iadd C (pc' := 839) dL_law_838 rfl ?_
        refine L_sld C (pc' := 840) dL_law_839 (by unfold wr32; omega) (by unfold wr32; omega) rfl ?_
        refine L_callV C (av := [(0, (xs (wr32 (i + 1)).toNat).toInt), (0, (xs (wr32 (i + 2)).toNat).toInt)]) (st := [(0, a)]) (d2 := 7) (nc2 := 0) (ns2 := 0) (pc' := 843) dL_law_840 mtX12_post mvX12_post mlL_116 cl12 rfl rfl rfl (Nat.le_of_ble_eq_true rfl) (by decide) ⟨by decide, by decide⟩ rfl (fun oa ok => hC2) ?_
        rintro _ _ M2 ⟨rfl, rfl, hI2⟩ _
        show TL E b Ln xs p e s m below meth c 843 [(2, 1015), (2, 0), (2, 66), (0, i)] [(0, a), (0, a)] S0 M2 126 19621
        refine L_icmp_eq C (pc' := 911) dL_law_843 (by decide) (pf := 846) rfl (fun _ => ?_) (fun z => absurd rfl z)
        exact next M2 hI2
      by_cases c24 : w = 24
      · refine L_tableIn C (pc' := 848) dL_law_33 (by omega) (by omega) (by rw [c24] <;> rfl) (by decide) ?_
        refine L_aload_n C (i := 1) (pc' := 849) dL_law_848 rfl rfl rfl ?_
        refine L_callV C (av := []) (st := []) (d2 := 82) (nc2 := 0) (ns2 := 0) (pc' := 852) dL_law_849 mtX11_ask mvX11_ask mlL_117 cl11 rfl rfl rfl (Nat.le_of_ble_eq_true rfl) (by decide) ⟨by decide, by decide⟩ rfl (fun oa ok => h_ask M hI oa ok) ?_
        rintro _ _ M1 ⟨rfl, a, rfl, hC2⟩ _
        show TL E b Ln xs p e s m below meth c 852 [(2, 1015), (2, 0), (2, 66), (0, i)] [(1, a)] S0 M1 126 19621
        refine L_aload_n C (i := 2) (pc' := 853) dL_law_852 rfl rfl rfl ?_
        refine L_callV C (av := []) (st := [(1, a)]) (d2 := 10) (nc2 := 0) (ns2 := 0) (pc' := 856) dL_law_853 mtX12_ask mvX12_ask mlL_121 cl12 rfl rfl rfl (Nat.le_of_ble_eq_true rfl) (by decide) ⟨by decide, by decide⟩ rfl (fun oa ok => hC2) ?_
        rintro _ _ M2 ⟨rfl, rfl, hI2⟩ _
        show TL E b Ln xs p e s m below meth c 856 [(2, 1015), (2, 0), (2, 66), (0, i)] [(1, a), (1, a)] S0 M2 126 19621
        refine L_lcmp C (pc' := 857) dL_law_856 rfl ?_
        refine L_if_eq C (pc' := 911) dL_law_857 (by decide) (pf := 860) rfl (fun _ => ?_) (fun z => absurd (by unfold m_cmp; simp) z)
        exact next M2 hI2
      by_cases c25 : w = 25
      · refine L_tableIn C (pc' := 862) dL_law_33 (by omega) (by omega) (by rw [c25] <;> rfl) (by decide) ?_
        refine L_aload_n C (i := 1) (pc' := 863) dL_law_862 rfl rfl rfl ?_
        refine L_callV C (av := []) (st := []) (d2 := 4) (nc2 := 0) (ns2 := 0) (pc' := 866) dL_law_863 mtX11_image mvX11_image mlL_122 cl11 rfl rfl rfl (Nat.le_of_ble_eq_true rfl) (by decide) ⟨by decide, by decide⟩ rfl (fun oa ok => h_image M hI oa ok) ?_
        rintro _ _ M1 ⟨rfl, a, rfl, hC2⟩ _
        show TL E b Ln xs p e s m below meth c 866 [(2, 1015), (2, 0), (2, 66), (0, i)] [(0, a)] S0 M1 126 19621
        refine L_aload_n C (i := 2) (pc' := 867) dL_law_866 rfl rfl rfl ?_
        refine L_callV C (av := []) (st := [(0, a)]) (d2 := 2) (nc2 := 0) (ns2 := 0) (pc' := 870) dL_law_867 mtX12_image mvX12_image mlL_125 cl12 rfl rfl rfl (Nat.le_of_ble_eq_true rfl) (by decide) ⟨by decide, by decide⟩ rfl (fun oa ok => hC2) ?_
        rintro _ _ M2 ⟨rfl, rfl, hI2⟩ _
        show TL E b Ln xs p e s m below meth c 870 [(2, 1015), (2, 0), (2, 66), (0, i)] [(0, a), (0, a)] S0 M2 126 19621
        refine L_icmp_eq C (pc' := 911) dL_law_870 (by decide) (pf := 873) rfl (fun _ => ?_) (fun z => absurd rfl z)
        exact next M2 hI2
      by_cases c26 : w = 26
      · refine L_tableIn C (pc' := 875) dL_law_33 (by omega) (by omega) (by rw [c26] <;> rfl) (by decide) ?_
        refine L_aload_n C (i := 1) (pc' := 876) dL_law_875 rfl rfl rfl ?_
        refine L_aload_n C (i := 0) (pc' := 877) dL_law_876 rfl rfl rfl ?_
        refine L_iload_n C (i := 3) (pc' := 878) dL_law_877 rfl rfl rfl ?_
        refine L_iconst C (pc' := 879) dL_law_878 (by decide) rfl ?_
        refine L_iadd C (pc' := 880) dL_law_879 rfl ?_
        refine L_sld C (pc' := 881) dL_law_880 (by unfold wr32; omega) (by unfold wr32; omega) rfl ?_
        refine L_callV C (av := [(0, (xs (wr32 (i + 1)).toNat).toInt)]) (st := []) (d2 := 2) (nc2 := 0) (ns2 := 0) (pc' := 884) dL_law_881 mtX11_octet mvX11_octet mlL_126 cl11 rfl rfl rfl (Nat.le_of_ble_eq_true rfl) (by decide) ⟨by decide, by decide⟩ rfl (fun oa ok => h_octet (xs (wr32 (i + 1)).toNat).toInt M hI oa ok) ?_
        rintro _ _ M1 ⟨rfl, a, rfl, hC2⟩ _
        show TL E b Ln xs p e s m below meth c 884 [(2, 1015), (2, 0), (2, 66), (0, i)] [(0, a)] S0 M1 126 19621
        refine L_aload_n C (i := 2) (pc' := 885) dL_law_884 rfl rfl rfl ?_
        refine L_aload_n C (i := 0) (pc' := 886) dL_law_885 rfl rfl rfl ?_
        refine L_iload_n C (i := 3) (pc' := 887) dL_law_886 rfl rfl rfl ?_
        refine L_iconst C (pc' := 888) dL_law_887 (by decide) rfl ?_
        refine L_iadd C (pc' := 889) dL_law_888 rfl ?_
        refine L_sld C (pc' := 890) dL_law_889 (by unfold wr32; omega) (by unfold wr32; omega) rfl ?_
        refine L_callV C (av := [(0, (xs (wr32 (i + 1)).toNat).toInt)]) (st := [(0, a)]) (d2 := 1) (nc2 := 0) (ns2 := 0) (pc' := 893) dL_law_890 mtX12_octet mvX12_octet mlL_129 cl12 rfl rfl rfl (Nat.le_of_ble_eq_true rfl) (by decide) ⟨by decide, by decide⟩ rfl (fun oa ok => hC2) ?_
        rintro _ _ M2 ⟨rfl, rfl, hI2⟩ _
        show TL E b Ln xs p e s m below meth c 893 [(2, 1015), (2, 0), (2, 66), (0, i)] [(0, a), (0, a)] S0 M2 126 19621
        refine L_icmp_eq C (pc' := 911) dL_law_893 (by decide) (pf := 896) rfl (fun _ => ?_) (fun z => absurd rfl z)
        exact next M2 hI2
      by_cases c27 : w = 27
      · refine L_tableIn C (pc' := 898) dL_law_33 (by omega) (by omega) (by rw [c27] <;> rfl) (by decide) ?_
        refine L_aload_n C (i := 1) (pc' := 899) dL_law_898 rfl rfl rfl ?_
        refine L_callV C (av := []) (st := []) (d2 := 5) (nc2 := 0) (ns2 := 0) (pc' := 902) dL_law_899 mtX11_on mvX11_on mlL_130 cl11 rfl rfl rfl (Nat.le_of_ble_eq_true rfl) (by decide) ⟨by decide, by decide⟩ rfl (fun oa ok => h_on M hI oa ok) ?_
        rintro _ _ M1 ⟨rfl, a, rfl, hC2⟩ _
        show TL E b Ln xs p e s m below meth c 902 [(2, 1015), (2, 0), (2, 66), (0, i)] [(0, a)] S0 M1 126 19621
        refine L_aload_n C (i := 2) (pc' := 903) dL_law_902 rfl rfl rfl ?_
        refine L_callV C (av := []) (st := [(0, a)]) (d2 := 4) (nc2 := 0) (ns2 := 0) (pc' := 906) dL_law_903 mtX12_on mvX12_on mlL_133 cl12 rfl rfl rfl (Nat.le_of_ble_eq_true rfl) (by decide) ⟨by decide, by decide⟩ rfl (fun oa ok => hC2) ?_
        rintro _ _ M2 ⟨rfl, rfl, hI2⟩ _
        show TL E b Ln xs p e s m below meth c 906 [(2, 1015), (2, 0), (2, 66), (0, i)] [(0, a), (0, a)] S0 M2 126 19621
        refine L_icmp_eq C (pc' := 911) dL_law_906 (by decide) (pf := 909) rfl (fun _ => ?_) (fun z => absurd rfl z)
        exact next M2 hI2
      · refine L_tableOut C (pc' := 911) dL_law_33 (by omega) (by decide) ?_
        exact next M hI
