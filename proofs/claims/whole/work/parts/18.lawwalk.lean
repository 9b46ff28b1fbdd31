set_option maxRecDepth 100000 in
set_option maxHeartbeats 40000000 in
theorem law_walk {Y : DY} {b L : Nat} {xs : Nat → Int32} {st : DSt} (hC : dm_C Y code R_law { frames := 11, cells := 897345, slots := 6404068, locals := 404 }) (hN : dm_N Y 9) (hLE : dm_LE Y b L xs) (hf : fL_law xs L st) : dm_W Y 0 0 st 0 [(0, DR (some b))] [] := by
  unfold fL_law at hf
  obtain ⟨s1, es1, hf⟩ := pb hf
  refine r_new (pc := 0) CF4 (fs := [DR none, DR none, DR none, DI 0, DI 0, DI 0, DI 0, DR none, DR none, DR none, DR none]) hC wd_1_15 wd_1_16 wd_1_1 (fun j hj => by rcases (show j = 0 ∨ j = 1 ∨ j = 2 ∨ j = 3 ∨ j = 4 ∨ j = 5 ∨ j = 6 ∨ j = 7 ∨ j = 8 ∨ j = 9 ∨ j = 10 by omega) with rfl | rfl | rfl | rfl | rfl | rfl | rfl | rfl | rfl | rfl | rfl <;> rfl) ⟨Nat.le_of_ble_eq_true rfl, Nat.le_of_ble_eq_true rfl⟩ dL_law_0 ?_
  rw [Option.some.inj es1]
  refine r_dup (pc := 3) hC dL_law_3 rfl ?_
  obtain ⟨q2, eq2, hf⟩ := pb hf
  refine r_callI (pc := 4) (As := []) (rest := [DR (some st.1)]) (stk' := [DR (some st.1)]) (k1_X4_init eq2) hC wd_1_17 wd_1_18 rfl wd_1_19 wd_1_1 md_X4_init rfl ⟨rfl, rfl, Nat.le_of_ble_eq_true rfl, Nat.le_of_ble_eq_true rfl, by show _ ≤ 897345; omega, by show _ ≤ 6404068; omega⟩ dL_law_4 rfl (Nat.le_of_ble_eq_true rfl) rfl ?_
  refine r_astore_n (pc := 7) (lv' := [(1, DR (some st.1)), (0, DR (some b))]) hC hN dL_law_7 rfl (by decide) rfl ?_
  obtain ⟨s3, es3, hf⟩ := pb hf
  refine r_new (pc := 8) CF5 (fs := [DI 0, DI 0, DI 0, DI 0, DI 0, DR none, DR none, DR none, DR none, DR none, DR none, DR none]) hC wd_3_96 wd_3_97 wd_1_3 (fun j hj => by rcases (show j = 0 ∨ j = 1 ∨ j = 2 ∨ j = 3 ∨ j = 4 ∨ j = 5 ∨ j = 6 ∨ j = 7 ∨ j = 8 ∨ j = 9 ∨ j = 10 ∨ j = 11 by omega) with rfl | rfl | rfl | rfl | rfl | rfl | rfl | rfl | rfl | rfl | rfl | rfl <;> rfl) ⟨Nat.le_of_ble_eq_true rfl, Nat.le_of_ble_eq_true rfl⟩ dL_law_8 ?_
  rw [Option.some.inj es3]
  refine r_dup (pc := 11) hC dL_law_11 rfl ?_
  obtain ⟨q4, eq4, hf⟩ := pb hf
  refine r_callI (pc := 12) (As := []) (rest := [DR (some q2.1)]) (stk' := [DR (some q2.1)]) (k1_X5_init eq4) hC wd_3_98 wd_3_99 rfl wd_3_100 wd_1_3 md_X5_init rfl ⟨rfl, rfl, Nat.le_of_ble_eq_true rfl, Nat.le_of_ble_eq_true rfl, by show _ ≤ 897345; omega, by show _ ≤ 6404068; omega⟩ dL_law_12 rfl (Nat.le_of_ble_eq_true rfl) rfl ?_
  refine r_astore_n (pc := 15) (lv' := [(2, DR (some q2.1)), (1, DR (some st.1)), (0, DR (some b))]) hC hN dL_law_15 rfl (by decide) rfl ?_
  refine r_iconst (pc := 16) (v := 1) hC dL_law_16 (by decide) ?_
  obtain ⟨s5, es5, hf⟩ := pb hf
  refine r_newa (pc := 17) (atype := .long) (t := .long) (kd := 5) (N := 1) (x := nL0 1) rfl (fun _ => rfl) (fun _ h => nomatch h) (fun _ => rfl) hC wd_4_104 (by decide) rfl (Nat.le_of_ble_eq_true rfl) ⟨Nat.le_of_ble_eq_true rfl, Nat.le_of_ble_eq_true rfl⟩ dL_law_17 ?_
  rw [Option.some.inj es5]
  refine r_astore_n (pc := 19) (lv' := [(3, DR (some q4.1)), (2, DR (some q2.1)), (1, DR (some st.1)), (0, DR (some b))]) hC hN dL_law_19 rfl (by decide) rfl ?_
  refine r_iconst (pc := 20) (v := 0) hC dL_law_20 (by decide) ?_
  refine r_istore (pc := 21) (lv' := [(4, DI 0), (3, DR (some q4.1)), (2, DR (some q2.1)), (1, DR (some st.1)), (0, DR (some b))]) hC hN dL_law_21 (by decide) rfl ?_
  refine dm_sub (lv' := [(0, DR (some b)), (1, DR (some st.1)), (2, DR (some q2.1)), (3, DR (some q4.1)), (4, DI 0)]) [4, 3, 2, 1, 0] rfl ?_
  have hloop : ∀ (n : Nat) (z6 : DSt × Int32) (cs ss : Nat), pLoop (fL_law_L23 st xs L q2 q4) n z6 → cs + n * 3 ≤ 897345 → ss + n * 18 ≤ 6404068 → dm_W Y cs ss z6.1 23 [(0, DR (some b)), (1, DR (some st.1)), (2, DR (some q2.1)), (3, DR (some q4.1)), (4, DI z6.2)] [] := by
    clear hf
    intro n
    induction n with
    | zero => intro z6 cs ss hf; exact hf.elim
    | succ n ih =>
      intro z6 cs ss hf hcs hss
      replace hf : fL_law_L23 st xs L q2 q4 z6 (pLoop (fL_law_L23 st xs L q2 q4) n) := hf
      unfold fL_law_L23 at hf
      refine r_iload (pc := 23) hC dL_law_23 4 rfl ?_
      refine r_aload_n (pc := 25) hC dL_law_25 rfl 0 rfl ?_
      refine r_slen (pc := 26) hLE hC dL_law_26 ?_
      refine r_iconst (pc := 27) (v := 4) hC dL_law_27 (by decide) ?_
      refine r_isub (pc := 28) hC dL_law_28 ?_
      refine r_icmp_gt (pc := 29) (tgt := 1419) hC dL_law_29 (by decide) (fun c362 => ?_) (fun c362 => ?_)
      · replace hf := pi_t c362 hf
        refine r_iconst (pc := 1419) (v := 1) hC dL_law_1419 (by decide) ?_
        exact r_lawret (pc := 1420) hLE hC dL_law_1420 (by show _ ≤ 897345; omega) (by show _ ≤ 6404068; omega)
      · replace hf := pi_f c362 hf
        refine r_aload_n (pc := 32) hC dL_law_32 rfl 0 rfl ?_
        refine r_iload (pc := 33) hC dL_law_33 4 rfl ?_
        obtain ⟨v7, ev7, hf⟩ := pb hf
        refine r_sld (pc := 35) hLE hC dL_law_35 ev7 ?_
        refine r_bipush (pc := 36) (v := 31) hC dL_law_36 (by decide) ?_
        refine r_iand (pc := 38) hC dL_law_38 ?_
        by_cases c8 : (v7 &&& 31) = 0
        · replace hf := pi_t c8 hf
          refine r_tswIn (pc := 39) (off := 97) (tgt := 136) hC dL_law_39 (by rw [c8]; decide) (by rw [c8]; decide) (by rw [c8]; rfl) (by decide) ?_
          refine r_aload_n (pc := 136) hC dL_law_136 rfl 1 rfl ?_
          refine r_aload_n (pc := 137) hC dL_law_137 rfl 0 rfl ?_
          refine r_iload (pc := 138) hC dL_law_138 4 rfl ?_
          refine r_iconst (pc := 140) (v := 1) hC dL_law_140 (by decide) ?_
          refine r_iadd (pc := 141) hC dL_law_141 ?_
          obtain ⟨v30, ev30, hf⟩ := pb hf
          refine r_sld (pc := 142) hLE hC dL_law_142 ev30 ?_
          refine r_aload_n (pc := 143) hC dL_law_143 rfl 3 rfl ?_
          obtain ⟨b31, gb31, hf⟩ := pb hf
          obtain ⟨r32, er32, okr32, hf⟩ := hf
          refine r_callSW (pc := 144) (As := [DR (some st.1), DI v30, DR (some q4.1)]) (rest := []) (kw_L_bowl gb31 er32 okr32) hC wd_2_29 wd_2_30 wd_2_31 wd_1_0 md_L_bowl rfl ⟨rfl, rfl, Nat.le_of_ble_eq_true rfl, Nat.le_of_ble_eq_true rfl, by show _ ≤ 897345; omega, by show _ ≤ 6404068; omega⟩ dL_law_144 rfl (Nat.le_of_ble_eq_true rfl) (fun rv u34 hF hdom => ?_)
          obtain ⟨k33, rfl⟩ := wr_int hF
          replace hf := hf k33 u34 hF hdom
          refine dm_to (pc' := 147) (stk' := [DI k33]) rfl rfl ?_
          refine r_istore (pc := 147) (lv' := [(5, DI k33), (0, DR (some b)), (1, DR (some st.1)), (2, DR (some q2.1)), (3, DR (some q4.1)), (4, DI z6.2)]) hC hN dL_law_147 (by decide) rfl ?_
          refine r_aload_n (pc := 149) hC dL_law_149 rfl 3 rfl ?_
          refine r_aload_n (pc := 150) hC dL_law_150 rfl 1 rfl ?_
          refine r_iload (pc := 151) hC dL_law_151 5 rfl ?_
          refine r_iconst (pc := 153) (v := 1) hC dL_law_153 (by decide) ?_
          refine r_iadd (pc := 154) hC dL_law_154 ?_
          obtain ⟨v35, ev35, hf⟩ := pb hf
          refine r_sld (pc := 155) hLE hC dL_law_155 ev35 ?_
          obtain ⟨b36, gb36, hf⟩ := pb hf
          obtain ⟨q37, eq37, hf⟩ := pb hf
          refine r_callV (pc := 156) (As := [DI v35]) (rest := []) (stk' := [DI q37.1]) (k1_X5_bowl eq37) gb36 rfl hC wd_3_143 wd_3_144 wd_3_145 wd_3_146 wd_1_3 md_X5_bowl rfl ⟨rfl, rfl, Nat.le_of_ble_eq_true rfl, Nat.le_of_ble_eq_true rfl, by show _ ≤ 897345; omega, by show _ ≤ 6404068; omega⟩ dL_law_156 rfl (Nat.le_of_ble_eq_true rfl) rfl ?_
          refine r_istore (pc := 159) (lv' := [(6, DI q37.1), (5, DI k33), (0, DR (some b)), (1, DR (some st.1)), (2, DR (some q2.1)), (3, DR (some q4.1)), (4, DI z6.2)]) hC hN dL_law_159 (by decide) rfl ?_
          refine r_aload_n (pc := 161) hC dL_law_161 rfl 4 rfl ?_
          obtain ⟨b38, gb38, hf⟩ := pb hf
          obtain ⟨q39, eq39, hf⟩ := pb hf
          refine r_callV (pc := 162) (As := []) (rest := []) (stk' := [DI q39]) (k1_X5_thrown eq39) gb38 rfl hC wd_3_139 wd_3_140 wd_3_141 wd_3_142 wd_1_3 md_X5_thrown rfl ⟨rfl, rfl, Nat.le_of_ble_eq_true rfl, Nat.le_of_ble_eq_true rfl, by show _ ≤ 897345; omega, by show _ ≤ 6404068; omega⟩ dL_law_162 rfl (Nat.le_of_ble_eq_true rfl) rfl ?_
          refine r_iload (pc := 165) hC dL_law_165 1 rfl ?_
          refine r_icmp_eq (pc := 167) (tgt := 172) hC dL_law_167 (by decide) (fun c43 => ?_) (fun c43 => ?_)
          · replace hf := pi_t c43 hf
            refine r_iload (pc := 172) hC dL_law_172 1 rfl ?_
            refine r_if_ne (pc := 174) (tgt := 189) hC dL_law_174 (by decide) (fun c42 => ?_) (fun c42 => ?_)
            · replace hf := pi_f c42 hf
              refine r_goto (pc := 189) (tgt := 1413) hC dL_law_189 (by decide) ?_
              refine r_iinc (pc := 1413) (pos := 6) (v := (z6.2 + 4)) (lv' := [(4, DI (z6.2 + 4)), (6, DI q37.1), (5, DI k33), (0, DR (some b)), (1, DR (some st.1)), (2, DR (some q2.1)), (3, DR (some q4.1))]) hC hN dL_law_1413 rfl rfl (by decide) rfl ?_
              refine r_goto (pc := 1416) (tgt := 23) hC dL_law_1416 (by decide) ?_
              exact dm_sub [3, 4, 5, 6, 0] rfl (ih (q37.2, (z6.2 + 4)) _ _ hf (by omega) (by omega))
            · replace hf := pi_t c42 hf
              refine r_aload_n (pc := 177) hC dL_law_177 rfl 5 rfl ?_
              refine r_iconst (pc := 178) (v := 0) hC dL_law_178 (by decide) ?_
              obtain ⟨v40, ev40, hf⟩ := pb hf
              refine r_laload (pc := 179) hC dL_law_179 ev40 ?_
              refine r_iload (pc := 180) hC dL_law_180 0 rfl ?_
              refine r_i2l (pc := 182) hC dL_law_182 ?_
              refine r_lcmp (pc := 183) hC dL_law_183 ?_
              refine r_if_eq (pc := 184) (tgt := 189) hC dL_law_184 (by decide) (fun c41 => ?_) (fun c41 => ?_)
              · replace hf := pi_t c41 hf
                refine r_goto (pc := 189) (tgt := 1413) hC dL_law_189 (by decide) ?_
                refine r_iinc (pc := 1413) (pos := 6) (v := (z6.2 + 4)) (lv' := [(4, DI (z6.2 + 4)), (6, DI q37.1), (5, DI k33), (0, DR (some b)), (1, DR (some st.1)), (2, DR (some q2.1)), (3, DR (some q4.1))]) hC hN dL_law_1413 rfl rfl (by decide) rfl ?_
                refine r_goto (pc := 1416) (tgt := 23) hC dL_law_1416 (by decide) ?_
                exact dm_sub [3, 4, 5, 6, 0] rfl (ih (q37.2, (z6.2 + 4)) _ _ hf (by omega) (by omega))
              · replace hf := pi_f c41 hf
                refine r_iconst (pc := 187) (v := 0) hC dL_law_187 (by decide) ?_
                exact absurd hf (by decide)
          · replace hf := pi_f c43 hf
            refine r_iconst (pc := 170) (v := 0) hC dL_law_170 (by decide) ?_
            exact absurd hf (by decide)
        replace hf := pi_f c8 hf
        by_cases c9 : (v7 &&& 31) = 1
        · replace hf := pi_t c9 hf
          refine r_tswIn (pc := 39) (off := 153) (tgt := 192) hC dL_law_39 (by rw [c9]; decide) (by rw [c9]; decide) (by rw [c9]; rfl) (by decide) ?_
          refine r_aload_n (pc := 192) hC dL_law_192 rfl 1 rfl ?_
          refine r_aload_n (pc := 193) hC dL_law_193 rfl 0 rfl ?_
          refine r_iload (pc := 194) hC dL_law_194 4 rfl ?_
          refine r_iconst (pc := 196) (v := 1) hC dL_law_196 (by decide) ?_
          refine r_iadd (pc := 197) hC dL_law_197 ?_
          obtain ⟨v44, ev44, hf⟩ := pb hf
          refine r_sld (pc := 198) hLE hC dL_law_198 ev44 ?_
          refine r_aload_n (pc := 199) hC dL_law_199 rfl 0 rfl ?_
          refine r_iload (pc := 200) hC dL_law_200 4 rfl ?_
          refine r_iconst (pc := 202) (v := 2) hC dL_law_202 (by decide) ?_
          refine r_iadd (pc := 203) hC dL_law_203 ?_
          obtain ⟨v45, ev45, hf⟩ := pb hf
          refine r_sld (pc := 204) hLE hC dL_law_204 ev45 ?_
          refine r_aload_n (pc := 205) hC dL_law_205 rfl 0 rfl ?_
          refine r_iload (pc := 206) hC dL_law_206 4 rfl ?_
          refine r_iconst (pc := 208) (v := 3) hC dL_law_208 (by decide) ?_
          refine r_iadd (pc := 209) hC dL_law_209 ?_
          obtain ⟨v46, ev46, hf⟩ := pb hf
          refine r_sld (pc := 210) hLE hC dL_law_210 ev46 ?_
          refine r_aload_n (pc := 211) hC dL_law_211 rfl 3 rfl ?_
          obtain ⟨b47, gb47, hf⟩ := pb hf
          obtain ⟨r48, er48, okr48, hf⟩ := hf
          refine r_callSW (pc := 212) (As := [DR (some st.1), DI v44, DI v45, DI v46, DR (some q4.1)]) (rest := []) (kw_L_warm gb47 er48 okr48) hC wd_2_90 wd_2_91 wd_2_92 wd_1_0 md_L_warm rfl ⟨rfl, rfl, Nat.le_of_ble_eq_true rfl, Nat.le_of_ble_eq_true rfl, by show _ ≤ 897345; omega, by show _ ≤ 6404068; omega⟩ dL_law_212 rfl (Nat.le_of_ble_eq_true rfl) (fun rv u50 hF hdom => ?_)
          obtain ⟨k49, rfl⟩ := wr_int hF
          replace hf := hf k49 u50 hF hdom
          refine dm_to (pc' := 215) (stk' := [DI k49]) rfl rfl ?_
          refine r_istore (pc := 215) (lv' := [(5, DI k49), (0, DR (some b)), (1, DR (some st.1)), (2, DR (some q2.1)), (3, DR (some q4.1)), (4, DI z6.2)]) hC hN dL_law_215 (by decide) rfl ?_
          refine r_aload_n (pc := 217) hC dL_law_217 rfl 3 rfl ?_
          refine r_aload_n (pc := 218) hC dL_law_218 rfl 1 rfl ?_
          refine r_iload (pc := 219) hC dL_law_219 5 rfl ?_
          refine r_iconst (pc := 221) (v := 1) hC dL_law_221 (by decide) ?_
          refine r_iadd (pc := 222) hC dL_law_222 ?_
          obtain ⟨v51, ev51, hf⟩ := pb hf
          refine r_sld (pc := 223) hLE hC dL_law_223 ev51 ?_
          refine r_aload_n (pc := 224) hC dL_law_224 rfl 1 rfl ?_
          refine r_iload (pc := 225) hC dL_law_225 5 rfl ?_
          refine r_iconst (pc := 227) (v := 2) hC dL_law_227 (by decide) ?_
          refine r_iadd (pc := 228) hC dL_law_228 ?_
          obtain ⟨v52, ev52, hf⟩ := pb hf
          refine r_sld (pc := 229) hLE hC dL_law_229 ev52 ?_
          refine r_aload_n (pc := 230) hC dL_law_230 rfl 1 rfl ?_
          refine r_iload (pc := 231) hC dL_law_231 5 rfl ?_
          refine r_iconst (pc := 233) (v := 3) hC dL_law_233 (by decide) ?_
          refine r_iadd (pc := 234) hC dL_law_234 ?_
          obtain ⟨v53, ev53, hf⟩ := pb hf
          refine r_sld (pc := 235) hLE hC dL_law_235 ev53 ?_
          obtain ⟨b54, gb54, hf⟩ := pb hf
          obtain ⟨q55, eq55, hf⟩ := pb hf
          refine r_callV (pc := 236) (As := [DI v51, DI v52, DI v53]) (rest := []) (stk' := [DI q55.1]) (k1_X5_warm eq55) gb54 rfl hC wd_3_158 wd_3_159 wd_3_160 wd_3_161 wd_1_3 md_X5_warm rfl ⟨rfl, rfl, Nat.le_of_ble_eq_true rfl, Nat.le_of_ble_eq_true rfl, by show _ ≤ 897345; omega, by show _ ≤ 6404068; omega⟩ dL_law_236 rfl (Nat.le_of_ble_eq_true rfl) rfl ?_
          refine r_istore (pc := 239) (lv' := [(6, DI q55.1), (5, DI k49), (0, DR (some b)), (1, DR (some st.1)), (2, DR (some q2.1)), (3, DR (some q4.1)), (4, DI z6.2)]) hC hN dL_law_239 (by decide) rfl ?_
          refine r_aload_n (pc := 241) hC dL_law_241 rfl 4 rfl ?_
          obtain ⟨b56, gb56, hf⟩ := pb hf
          obtain ⟨q57, eq57, hf⟩ := pb hf
          refine r_callV (pc := 242) (As := []) (rest := []) (stk' := [DI q57]) (k1_X5_thrown eq57) gb56 rfl hC wd_3_139 wd_3_140 wd_3_141 wd_3_142 wd_1_3 md_X5_thrown rfl ⟨rfl, rfl, Nat.le_of_ble_eq_true rfl, Nat.le_of_ble_eq_true rfl, by show _ ≤ 897345; omega, by show _ ≤ 6404068; omega⟩ dL_law_242 rfl (Nat.le_of_ble_eq_true rfl) rfl ?_
          refine r_iload (pc := 245) hC dL_law_245 1 rfl ?_
          refine r_icmp_eq (pc := 247) (tgt := 252) hC dL_law_247 (by decide) (fun c61 => ?_) (fun c61 => ?_)
          · replace hf := pi_t c61 hf
            refine r_iload (pc := 252) hC dL_law_252 1 rfl ?_
            refine r_if_ne (pc := 254) (tgt := 269) hC dL_law_254 (by decide) (fun c60 => ?_) (fun c60 => ?_)
            · replace hf := pi_f c60 hf
              refine r_goto (pc := 269) (tgt := 1413) hC dL_law_269 (by decide) ?_
              refine r_iinc (pc := 1413) (pos := 6) (v := (z6.2 + 4)) (lv' := [(4, DI (z6.2 + 4)), (6, DI q55.1), (5, DI k49), (0, DR (some b)), (1, DR (some st.1)), (2, DR (some q2.1)), (3, DR (some q4.1))]) hC hN dL_law_1413 rfl rfl (by decide) rfl ?_
              refine r_goto (pc := 1416) (tgt := 23) hC dL_law_1416 (by decide) ?_
              exact dm_sub [3, 4, 5, 6, 0] rfl (ih (q55.2, (z6.2 + 4)) _ _ hf (by omega) (by omega))
            · replace hf := pi_t c60 hf
              refine r_aload_n (pc := 257) hC dL_law_257 rfl 5 rfl ?_
              refine r_iconst (pc := 258) (v := 0) hC dL_law_258 (by decide) ?_
              obtain ⟨v58, ev58, hf⟩ := pb hf
              refine r_laload (pc := 259) hC dL_law_259 ev58 ?_
              refine r_iload (pc := 260) hC dL_law_260 0 rfl ?_
              refine r_i2l (pc := 262) hC dL_law_262 ?_
              refine r_lcmp (pc := 263) hC dL_law_263 ?_
              refine r_if_eq (pc := 264) (tgt := 269) hC dL_law_264 (by decide) (fun c59 => ?_) (fun c59 => ?_)
              · replace hf := pi_t c59 hf
                refine r_goto (pc := 269) (tgt := 1413) hC dL_law_269 (by decide) ?_
                refine r_iinc (pc := 1413) (pos := 6) (v := (z6.2 + 4)) (lv' := [(4, DI (z6.2 + 4)), (6, DI q55.1), (5, DI k49), (0, DR (some b)), (1, DR (some st.1)), (2, DR (some q2.1)), (3, DR (some q4.1))]) hC hN dL_law_1413 rfl rfl (by decide) rfl ?_
                refine r_goto (pc := 1416) (tgt := 23) hC dL_law_1416 (by decide) ?_
                exact dm_sub [3, 4, 5, 6, 0] rfl (ih (q55.2, (z6.2 + 4)) _ _ hf (by omega) (by omega))
              · replace hf := pi_f c59 hf
                refine r_iconst (pc := 267) (v := 0) hC dL_law_267 (by decide) ?_
                exact absurd hf (by decide)
          · replace hf := pi_f c61 hf
            refine r_iconst (pc := 250) (v := 0) hC dL_law_250 (by decide) ?_
            exact absurd hf (by decide)
        replace hf := pi_f c9 hf
        by_cases c10 : (v7 &&& 31) = 2
        · replace hf := pi_t c10 hf
          refine r_tswIn (pc := 39) (off := 233) (tgt := 272) hC dL_law_39 (by rw [c10]; decide) (by rw [c10]; decide) (by rw [c10]; rfl) (by decide) ?_
          refine r_aload_n (pc := 272) hC dL_law_272 rfl 1 rfl ?_
          refine r_aload_n (pc := 273) hC dL_law_273 rfl 0 rfl ?_
          refine r_iload (pc := 274) hC dL_law_274 4 rfl ?_
          refine r_iconst (pc := 276) (v := 1) hC dL_law_276 (by decide) ?_
          refine r_iadd (pc := 277) hC dL_law_277 ?_
          obtain ⟨v62, ev62, hf⟩ := pb hf
          refine r_sld (pc := 278) hLE hC dL_law_278 ev62 ?_
          refine r_aload_n (pc := 279) hC dL_law_279 rfl 0 rfl ?_
          refine r_iload (pc := 280) hC dL_law_280 4 rfl ?_
          refine r_iconst (pc := 282) (v := 2) hC dL_law_282 (by decide) ?_
          refine r_iadd (pc := 283) hC dL_law_283 ?_
          obtain ⟨v63, ev63, hf⟩ := pb hf
          refine r_sld (pc := 284) hLE hC dL_law_284 ev63 ?_
          refine r_aload_n (pc := 285) hC dL_law_285 rfl 3 rfl ?_
          obtain ⟨b64, gb64, hf⟩ := pb hf
          obtain ⟨r65, er65, okr65, hf⟩ := hf
          refine r_callSW (pc := 286) (As := [DR (some st.1), DI v62, DI v63, DR (some q4.1)]) (rest := []) (kw_L_seed gb64 er65 okr65) hC wd_2_128 wd_2_129 wd_2_130 wd_1_0 md_L_seed rfl ⟨rfl, rfl, Nat.le_of_ble_eq_true rfl, Nat.le_of_ble_eq_true rfl, by show _ ≤ 897345; omega, by show _ ≤ 6404068; omega⟩ dL_law_286 rfl (Nat.le_of_ble_eq_true rfl) (fun rv u67 hF hdom => ?_)
          obtain ⟨k66, rfl⟩ := wr_int hF
          replace hf := hf k66 u67 hF hdom
          refine dm_to (pc' := 289) (stk' := [DI k66]) rfl rfl ?_
          refine r_istore (pc := 289) (lv' := [(5, DI k66), (0, DR (some b)), (1, DR (some st.1)), (2, DR (some q2.1)), (3, DR (some q4.1)), (4, DI z6.2)]) hC hN dL_law_289 (by decide) rfl ?_
          refine r_aload_n (pc := 291) hC dL_law_291 rfl 3 rfl ?_
          refine r_aload_n (pc := 292) hC dL_law_292 rfl 1 rfl ?_
          refine r_iload (pc := 293) hC dL_law_293 5 rfl ?_
          refine r_iconst (pc := 295) (v := 1) hC dL_law_295 (by decide) ?_
          refine r_iadd (pc := 296) hC dL_law_296 ?_
          obtain ⟨v68, ev68, hf⟩ := pb hf
          refine r_sld (pc := 297) hLE hC dL_law_297 ev68 ?_
          refine r_aload_n (pc := 298) hC dL_law_298 rfl 1 rfl ?_
          refine r_iload (pc := 299) hC dL_law_299 5 rfl ?_
          refine r_iconst (pc := 301) (v := 2) hC dL_law_301 (by decide) ?_
          refine r_iadd (pc := 302) hC dL_law_302 ?_
          obtain ⟨v69, ev69, hf⟩ := pb hf
          refine r_sld (pc := 303) hLE hC dL_law_303 ev69 ?_
          obtain ⟨b70, gb70, hf⟩ := pb hf
          obtain ⟨q71, eq71, hf⟩ := pb hf
          refine r_callV (pc := 304) (As := [DI v68, DI v69]) (rest := []) (stk' := [DI q71.1]) (k1_X5_seed eq71) gb70 rfl hC wd_3_195 wd_3_196 wd_3_197 wd_3_198 wd_1_3 md_X5_seed rfl ⟨rfl, rfl, Nat.le_of_ble_eq_true rfl, Nat.le_of_ble_eq_true rfl, by show _ ≤ 897345; omega, by show _ ≤ 6404068; omega⟩ dL_law_304 rfl (Nat.le_of_ble_eq_true rfl) rfl ?_
          refine r_istore (pc := 307) (lv' := [(6, DI q71.1), (5, DI k66), (0, DR (some b)), (1, DR (some st.1)), (2, DR (some q2.1)), (3, DR (some q4.1)), (4, DI z6.2)]) hC hN dL_law_307 (by decide) rfl ?_
          refine r_aload_n (pc := 309) hC dL_law_309 rfl 4 rfl ?_
          obtain ⟨b72, gb72, hf⟩ := pb hf
          obtain ⟨q73, eq73, hf⟩ := pb hf
          refine r_callV (pc := 310) (As := []) (rest := []) (stk' := [DI q73]) (k1_X5_thrown eq73) gb72 rfl hC wd_3_139 wd_3_140 wd_3_141 wd_3_142 wd_1_3 md_X5_thrown rfl ⟨rfl, rfl, Nat.le_of_ble_eq_true rfl, Nat.le_of_ble_eq_true rfl, by show _ ≤ 897345; omega, by show _ ≤ 6404068; omega⟩ dL_law_310 rfl (Nat.le_of_ble_eq_true rfl) rfl ?_
          refine r_iload (pc := 313) hC dL_law_313 1 rfl ?_
          refine r_icmp_eq (pc := 315) (tgt := 320) hC dL_law_315 (by decide) (fun c77 => ?_) (fun c77 => ?_)
          · replace hf := pi_t c77 hf
            refine r_iload (pc := 320) hC dL_law_320 1 rfl ?_
            refine r_if_ne (pc := 322) (tgt := 337) hC dL_law_322 (by decide) (fun c76 => ?_) (fun c76 => ?_)
            · replace hf := pi_f c76 hf
              refine r_goto (pc := 337) (tgt := 1413) hC dL_law_337 (by decide) ?_
              refine r_iinc (pc := 1413) (pos := 6) (v := (z6.2 + 4)) (lv' := [(4, DI (z6.2 + 4)), (6, DI q71.1), (5, DI k66), (0, DR (some b)), (1, DR (some st.1)), (2, DR (some q2.1)), (3, DR (some q4.1))]) hC hN dL_law_1413 rfl rfl (by decide) rfl ?_
              refine r_goto (pc := 1416) (tgt := 23) hC dL_law_1416 (by decide) ?_
              exact dm_sub [3, 4, 5, 6, 0] rfl (ih (q71.2, (z6.2 + 4)) _ _ hf (by omega) (by omega))
            · replace hf := pi_t c76 hf
              refine r_aload_n (pc := 325) hC dL_law_325 rfl 5 rfl ?_
              refine r_iconst (pc := 326) (v := 0) hC dL_law_326 (by decide) ?_
              obtain ⟨v74, ev74, hf⟩ := pb hf
              refine r_laload (pc := 327) hC dL_law_327 ev74 ?_
              refine r_iload (pc := 328) hC dL_law_328 0 rfl ?_
              refine r_i2l (pc := 330) hC dL_law_330 ?_
              refine r_lcmp (pc := 331) hC dL_law_331 ?_
              refine r_if_eq (pc := 332) (tgt := 337) hC dL_law_332 (by decide) (fun c75 => ?_) (fun c75 => ?_)
              · replace hf := pi_t c75 hf
                refine r_goto (pc := 337) (tgt := 1413) hC dL_law_337 (by decide) ?_
                refine r_iinc (pc := 1413) (pos := 6) (v := (z6.2 + 4)) (lv' := [(4, DI (z6.2 + 4)), (6, DI q71.1), (5, DI k66), (0, DR (some b)), (1, DR (some st.1)), (2, DR (some q2.1)), (3, DR (some q4.1))]) hC hN dL_law_1413 rfl rfl (by decide) rfl ?_
                refine r_goto (pc := 1416) (tgt := 23) hC dL_law_1416 (by decide) ?_
                exact dm_sub [3, 4, 5, 6, 0] rfl (ih (q71.2, (z6.2 + 4)) _ _ hf (by omega) (by omega))
              · replace hf := pi_f c75 hf
                refine r_iconst (pc := 335) (v := 0) hC dL_law_335 (by decide) ?_
                exact absurd hf (by decide)
          · replace hf := pi_f c77 hf
            refine r_iconst (pc := 318) (v := 0) hC dL_law_318 (by decide) ?_
            exact absurd hf (by decide)
        replace hf := pi_f c10 hf
        by_cases c11 : (v7 &&& 31) = 3
        · replace hf := pi_t c11 hf
          refine r_tswIn (pc := 39) (off := 301) (tgt := 340) hC dL_law_39 (by rw [c11]; decide) (by rw [c11]; decide) (by rw [c11]; rfl) (by decide) ?_
          refine r_aload_n (pc := 340) hC dL_law_340 rfl 1 rfl ?_
          refine r_aload_n (pc := 341) hC dL_law_341 rfl 0 rfl ?_
          refine r_iload (pc := 342) hC dL_law_342 4 rfl ?_
          refine r_iconst (pc := 344) (v := 1) hC dL_law_344 (by decide) ?_
          refine r_iadd (pc := 345) hC dL_law_345 ?_
          obtain ⟨v78, ev78, hf⟩ := pb hf
          refine r_sld (pc := 346) hLE hC dL_law_346 ev78 ?_
          refine r_aload_n (pc := 347) hC dL_law_347 rfl 0 rfl ?_
          refine r_iload (pc := 348) hC dL_law_348 4 rfl ?_
          refine r_iconst (pc := 350) (v := 2) hC dL_law_350 (by decide) ?_
          refine r_iadd (pc := 351) hC dL_law_351 ?_
          obtain ⟨v79, ev79, hf⟩ := pb hf
          refine r_sld (pc := 352) hLE hC dL_law_352 ev79 ?_
          refine r_aload_n (pc := 353) hC dL_law_353 rfl 3 rfl ?_
          obtain ⟨b80, gb80, hf⟩ := pb hf
          obtain ⟨r81, er81, okr81, hf⟩ := hf
          refine r_callSW (pc := 354) (As := [DR (some st.1), DI v78, DI v79, DR (some q4.1)]) (rest := []) (kw_L_pour gb80 er81 okr81) hC wd_2_137 wd_2_138 wd_2_139 wd_1_0 md_L_pour rfl ⟨rfl, rfl, Nat.le_of_ble_eq_true rfl, Nat.le_of_ble_eq_true rfl, by show _ ≤ 897345; omega, by show _ ≤ 6404068; omega⟩ dL_law_354 rfl (Nat.le_of_ble_eq_true rfl) (fun rv u83 hF hdom => ?_)
          obtain ⟨k82, rfl⟩ := wr_int hF
          replace hf := hf k82 u83 hF hdom
          refine dm_to (pc' := 357) (stk' := [DI k82]) rfl rfl ?_
          refine r_istore (pc := 357) (lv' := [(5, DI k82), (0, DR (some b)), (1, DR (some st.1)), (2, DR (some q2.1)), (3, DR (some q4.1)), (4, DI z6.2)]) hC hN dL_law_357 (by decide) rfl ?_
          refine r_aload_n (pc := 359) hC dL_law_359 rfl 3 rfl ?_
          refine r_aload_n (pc := 360) hC dL_law_360 rfl 1 rfl ?_
          refine r_iload (pc := 361) hC dL_law_361 5 rfl ?_
          refine r_iconst (pc := 363) (v := 1) hC dL_law_363 (by decide) ?_
          refine r_iadd (pc := 364) hC dL_law_364 ?_
          obtain ⟨v84, ev84, hf⟩ := pb hf
          refine r_sld (pc := 365) hLE hC dL_law_365 ev84 ?_
          refine r_aload_n (pc := 366) hC dL_law_366 rfl 1 rfl ?_
          refine r_iload (pc := 367) hC dL_law_367 5 rfl ?_
          refine r_iconst (pc := 369) (v := 2) hC dL_law_369 (by decide) ?_
          refine r_iadd (pc := 370) hC dL_law_370 ?_
          obtain ⟨v85, ev85, hf⟩ := pb hf
          refine r_sld (pc := 371) hLE hC dL_law_371 ev85 ?_
          obtain ⟨b86, gb86, hf⟩ := pb hf
          obtain ⟨q87, eq87, hf⟩ := pb hf
          refine r_callV (pc := 372) (As := [DI v84, DI v85]) (rest := []) (stk' := [DI q87.1]) (k1_X5_pour eq87) gb86 rfl hC wd_3_199 wd_3_200 wd_3_201 wd_3_202 wd_1_3 md_X5_pour rfl ⟨rfl, rfl, Nat.le_of_ble_eq_true rfl, Nat.le_of_ble_eq_true rfl, by show _ ≤ 897345; omega, by show _ ≤ 6404068; omega⟩ dL_law_372 rfl (Nat.le_of_ble_eq_true rfl) rfl ?_
          refine r_istore (pc := 375) (lv' := [(6, DI q87.1), (5, DI k82), (0, DR (some b)), (1, DR (some st.1)), (2, DR (some q2.1)), (3, DR (some q4.1)), (4, DI z6.2)]) hC hN dL_law_375 (by decide) rfl ?_
          refine r_aload_n (pc := 377) hC dL_law_377 rfl 4 rfl ?_
          obtain ⟨b88, gb88, hf⟩ := pb hf
          obtain ⟨q89, eq89, hf⟩ := pb hf
          refine r_callV (pc := 378) (As := []) (rest := []) (stk' := [DI q89]) (k1_X5_thrown eq89) gb88 rfl hC wd_3_139 wd_3_140 wd_3_141 wd_3_142 wd_1_3 md_X5_thrown rfl ⟨rfl, rfl, Nat.le_of_ble_eq_true rfl, Nat.le_of_ble_eq_true rfl, by show _ ≤ 897345; omega, by show _ ≤ 6404068; omega⟩ dL_law_378 rfl (Nat.le_of_ble_eq_true rfl) rfl ?_
          refine r_iload (pc := 381) hC dL_law_381 1 rfl ?_
          refine r_icmp_eq (pc := 383) (tgt := 388) hC dL_law_383 (by decide) (fun c93 => ?_) (fun c93 => ?_)
          · replace hf := pi_t c93 hf
            refine r_iload (pc := 388) hC dL_law_388 1 rfl ?_
            refine r_if_ne (pc := 390) (tgt := 405) hC dL_law_390 (by decide) (fun c92 => ?_) (fun c92 => ?_)
            · replace hf := pi_f c92 hf
              refine r_goto (pc := 405) (tgt := 1413) hC dL_law_405 (by decide) ?_
              refine r_iinc (pc := 1413) (pos := 6) (v := (z6.2 + 4)) (lv' := [(4, DI (z6.2 + 4)), (6, DI q87.1), (5, DI k82), (0, DR (some b)), (1, DR (some st.1)), (2, DR (some q2.1)), (3, DR (some q4.1))]) hC hN dL_law_1413 rfl rfl (by decide) rfl ?_
              refine r_goto (pc := 1416) (tgt := 23) hC dL_law_1416 (by decide) ?_
              exact dm_sub [3, 4, 5, 6, 0] rfl (ih (q87.2, (z6.2 + 4)) _ _ hf (by omega) (by omega))
            · replace hf := pi_t c92 hf
              refine r_aload_n (pc := 393) hC dL_law_393 rfl 5 rfl ?_
              refine r_iconst (pc := 394) (v := 0) hC dL_law_394 (by decide) ?_
              obtain ⟨v90, ev90, hf⟩ := pb hf
              refine r_laload (pc := 395) hC dL_law_395 ev90 ?_
              refine r_iload (pc := 396) hC dL_law_396 0 rfl ?_
              refine r_i2l (pc := 398) hC dL_law_398 ?_
              refine r_lcmp (pc := 399) hC dL_law_399 ?_
              refine r_if_eq (pc := 400) (tgt := 405) hC dL_law_400 (by decide) (fun c91 => ?_) (fun c91 => ?_)
              · replace hf := pi_t c91 hf
                refine r_goto (pc := 405) (tgt := 1413) hC dL_law_405 (by decide) ?_
                refine r_iinc (pc := 1413) (pos := 6) (v := (z6.2 + 4)) (lv' := [(4, DI (z6.2 + 4)), (6, DI q87.1), (5, DI k82), (0, DR (some b)), (1, DR (some st.1)), (2, DR (some q2.1)), (3, DR (some q4.1))]) hC hN dL_law_1413 rfl rfl (by decide) rfl ?_
                refine r_goto (pc := 1416) (tgt := 23) hC dL_law_1416 (by decide) ?_
                exact dm_sub [3, 4, 5, 6, 0] rfl (ih (q87.2, (z6.2 + 4)) _ _ hf (by omega) (by omega))
              · replace hf := pi_f c91 hf
                refine r_iconst (pc := 403) (v := 0) hC dL_law_403 (by decide) ?_
                exact absurd hf (by decide)
          · replace hf := pi_f c93 hf
            refine r_iconst (pc := 386) (v := 0) hC dL_law_386 (by decide) ?_
            exact absurd hf (by decide)
        replace hf := pi_f c11 hf
        by_cases c12 : (v7 &&& 31) = 4
        · replace hf := pi_t c12 hf
          refine r_tswIn (pc := 39) (off := 369) (tgt := 408) hC dL_law_39 (by rw [c12]; decide) (by rw [c12]; decide) (by rw [c12]; rfl) (by decide) ?_
          refine r_aload_n (pc := 408) hC dL_law_408 rfl 1 rfl ?_
          refine r_aload_n (pc := 409) hC dL_law_409 rfl 0 rfl ?_
          refine r_iload (pc := 410) hC dL_law_410 4 rfl ?_
          refine r_iconst (pc := 412) (v := 1) hC dL_law_412 (by decide) ?_
          refine r_iadd (pc := 413) hC dL_law_413 ?_
          obtain ⟨v94, ev94, hf⟩ := pb hf
          refine r_sld (pc := 414) hLE hC dL_law_414 ev94 ?_
          refine r_aload_n (pc := 415) hC dL_law_415 rfl 0 rfl ?_
          refine r_iload (pc := 416) hC dL_law_416 4 rfl ?_
          refine r_iconst (pc := 418) (v := 2) hC dL_law_418 (by decide) ?_
          refine r_iadd (pc := 419) hC dL_law_419 ?_
          obtain ⟨v95, ev95, hf⟩ := pb hf
          refine r_sld (pc := 420) hLE hC dL_law_420 ev95 ?_
          refine r_aload_n (pc := 421) hC dL_law_421 rfl 0 rfl ?_
          refine r_iload (pc := 422) hC dL_law_422 4 rfl ?_
          refine r_iconst (pc := 424) (v := 3) hC dL_law_424 (by decide) ?_
          refine r_iadd (pc := 425) hC dL_law_425 ?_
          obtain ⟨v96, ev96, hf⟩ := pb hf
          refine r_sld (pc := 426) hLE hC dL_law_426 ev96 ?_
          refine r_aload_n (pc := 427) hC dL_law_427 rfl 3 rfl ?_
          obtain ⟨b97, gb97, hf⟩ := pb hf
          obtain ⟨r98, er98, okr98, hf⟩ := hf
          refine r_callSW (pc := 428) (As := [DR (some st.1), DI v94, DI v95, DI v96, DR (some q4.1)]) (rest := []) (kw_L_cast gb97 er98 okr98) hC wd_2_157 wd_2_158 wd_2_159 wd_1_0 md_L_cast rfl ⟨rfl, rfl, Nat.le_of_ble_eq_true rfl, Nat.le_of_ble_eq_true rfl, by show _ ≤ 897345; omega, by show _ ≤ 6404068; omega⟩ dL_law_428 rfl (Nat.le_of_ble_eq_true rfl) (fun rv u100 hF hdom => ?_)
          obtain ⟨k99, rfl⟩ := wr_int hF
          replace hf := hf k99 u100 hF hdom
          refine dm_to (pc' := 431) (stk' := [DI k99]) rfl rfl ?_
          refine r_istore (pc := 431) (lv' := [(5, DI k99), (0, DR (some b)), (1, DR (some st.1)), (2, DR (some q2.1)), (3, DR (some q4.1)), (4, DI z6.2)]) hC hN dL_law_431 (by decide) rfl ?_
          refine r_aload_n (pc := 433) hC dL_law_433 rfl 3 rfl ?_
          refine r_aload_n (pc := 434) hC dL_law_434 rfl 1 rfl ?_
          refine r_iload (pc := 435) hC dL_law_435 5 rfl ?_
          refine r_iconst (pc := 437) (v := 1) hC dL_law_437 (by decide) ?_
          refine r_iadd (pc := 438) hC dL_law_438 ?_
          obtain ⟨v101, ev101, hf⟩ := pb hf
          refine r_sld (pc := 439) hLE hC dL_law_439 ev101 ?_
          refine r_aload_n (pc := 440) hC dL_law_440 rfl 1 rfl ?_
          refine r_iload (pc := 441) hC dL_law_441 5 rfl ?_
          refine r_iconst (pc := 443) (v := 2) hC dL_law_443 (by decide) ?_
          refine r_iadd (pc := 444) hC dL_law_444 ?_
          obtain ⟨v102, ev102, hf⟩ := pb hf
          refine r_sld (pc := 445) hLE hC dL_law_445 ev102 ?_
          refine r_aload_n (pc := 446) hC dL_law_446 rfl 1 rfl ?_
          refine r_iload (pc := 447) hC dL_law_447 5 rfl ?_
          refine r_iconst (pc := 449) (v := 3) hC dL_law_449 (by decide) ?_
          refine r_iadd (pc := 450) hC dL_law_450 ?_
          obtain ⟨v103, ev103, hf⟩ := pb hf
          refine r_sld (pc := 451) hLE hC dL_law_451 ev103 ?_
          obtain ⟨b104, gb104, hf⟩ := pb hf
          obtain ⟨q105, eq105, hf⟩ := pb hf
          refine r_callV (pc := 452) (As := [DI v101, DI v102, DI v103]) (rest := []) (stk' := [DI q105.1]) (k1_X5_cast eq105) gb104 rfl hC wd_3_203 wd_3_204 wd_3_205 wd_3_206 wd_1_3 md_X5_cast rfl ⟨rfl, rfl, Nat.le_of_ble_eq_true rfl, Nat.le_of_ble_eq_true rfl, by show _ ≤ 897345; omega, by show _ ≤ 6404068; omega⟩ dL_law_452 rfl (Nat.le_of_ble_eq_true rfl) rfl ?_
          refine r_istore (pc := 455) (lv' := [(6, DI q105.1), (5, DI k99), (0, DR (some b)), (1, DR (some st.1)), (2, DR (some q2.1)), (3, DR (some q4.1)), (4, DI z6.2)]) hC hN dL_law_455 (by decide) rfl ?_
          refine r_aload_n (pc := 457) hC dL_law_457 rfl 4 rfl ?_
          obtain ⟨b106, gb106, hf⟩ := pb hf
          obtain ⟨q107, eq107, hf⟩ := pb hf
          refine r_callV (pc := 458) (As := []) (rest := []) (stk' := [DI q107]) (k1_X5_thrown eq107) gb106 rfl hC wd_3_139 wd_3_140 wd_3_141 wd_3_142 wd_1_3 md_X5_thrown rfl ⟨rfl, rfl, Nat.le_of_ble_eq_true rfl, Nat.le_of_ble_eq_true rfl, by show _ ≤ 897345; omega, by show _ ≤ 6404068; omega⟩ dL_law_458 rfl (Nat.le_of_ble_eq_true rfl) rfl ?_
          refine r_iload (pc := 461) hC dL_law_461 1 rfl ?_
          refine r_icmp_eq (pc := 463) (tgt := 468) hC dL_law_463 (by decide) (fun c111 => ?_) (fun c111 => ?_)
          · replace hf := pi_t c111 hf
            refine r_iload (pc := 468) hC dL_law_468 1 rfl ?_
            refine r_if_ne (pc := 470) (tgt := 485) hC dL_law_470 (by decide) (fun c110 => ?_) (fun c110 => ?_)
            · replace hf := pi_f c110 hf
              refine r_goto (pc := 485) (tgt := 1413) hC dL_law_485 (by decide) ?_
              refine r_iinc (pc := 1413) (pos := 6) (v := (z6.2 + 4)) (lv' := [(4, DI (z6.2 + 4)), (6, DI q105.1), (5, DI k99), (0, DR (some b)), (1, DR (some st.1)), (2, DR (some q2.1)), (3, DR (some q4.1))]) hC hN dL_law_1413 rfl rfl (by decide) rfl ?_
              refine r_goto (pc := 1416) (tgt := 23) hC dL_law_1416 (by decide) ?_
              exact dm_sub [3, 4, 5, 6, 0] rfl (ih (q105.2, (z6.2 + 4)) _ _ hf (by omega) (by omega))
            · replace hf := pi_t c110 hf
              refine r_aload_n (pc := 473) hC dL_law_473 rfl 5 rfl ?_
              refine r_iconst (pc := 474) (v := 0) hC dL_law_474 (by decide) ?_
              obtain ⟨v108, ev108, hf⟩ := pb hf
              refine r_laload (pc := 475) hC dL_law_475 ev108 ?_
              refine r_iload (pc := 476) hC dL_law_476 0 rfl ?_
              refine r_i2l (pc := 478) hC dL_law_478 ?_
              refine r_lcmp (pc := 479) hC dL_law_479 ?_
              refine r_if_eq (pc := 480) (tgt := 485) hC dL_law_480 (by decide) (fun c109 => ?_) (fun c109 => ?_)
              · replace hf := pi_t c109 hf
                refine r_goto (pc := 485) (tgt := 1413) hC dL_law_485 (by decide) ?_
                refine r_iinc (pc := 1413) (pos := 6) (v := (z6.2 + 4)) (lv' := [(4, DI (z6.2 + 4)), (6, DI q105.1), (5, DI k99), (0, DR (some b)), (1, DR (some st.1)), (2, DR (some q2.1)), (3, DR (some q4.1))]) hC hN dL_law_1413 rfl rfl (by decide) rfl ?_
                refine r_goto (pc := 1416) (tgt := 23) hC dL_law_1416 (by decide) ?_
                exact dm_sub [3, 4, 5, 6, 0] rfl (ih (q105.2, (z6.2 + 4)) _ _ hf (by omega) (by omega))
              · replace hf := pi_f c109 hf
                refine r_iconst (pc := 483) (v := 0) hC dL_law_483 (by decide) ?_
                exact absurd hf (by decide)
          · replace hf := pi_f c111 hf
            refine r_iconst (pc := 466) (v := 0) hC dL_law_466 (by decide) ?_
            exact absurd hf (by decide)
        replace hf := pi_f c12 hf
        by_cases c13 : (v7 &&& 31) = 5
        · replace hf := pi_t c13 hf
          refine r_tswIn (pc := 39) (off := 449) (tgt := 488) hC dL_law_39 (by rw [c13]; decide) (by rw [c13]; decide) (by rw [c13]; rfl) (by decide) ?_
          refine r_aload_n (pc := 488) hC dL_law_488 rfl 1 rfl ?_
          refine r_aload_n (pc := 489) hC dL_law_489 rfl 0 rfl ?_
          refine r_iload (pc := 490) hC dL_law_490 4 rfl ?_
          refine r_iconst (pc := 492) (v := 1) hC dL_law_492 (by decide) ?_
          refine r_iadd (pc := 493) hC dL_law_493 ?_
          obtain ⟨v112, ev112, hf⟩ := pb hf
          refine r_sld (pc := 494) hLE hC dL_law_494 ev112 ?_
          refine r_aload_n (pc := 495) hC dL_law_495 rfl 3 rfl ?_
          obtain ⟨b113, gb113, hf⟩ := pb hf
          obtain ⟨r114, er114, okr114, hf⟩ := hf
          refine r_callSW (pc := 496) (As := [DR (some st.1), DI v112, DR (some q4.1)]) (rest := []) (kw_L_polish gb113 er114 okr114) hC wd_2_204 wd_2_205 wd_2_206 wd_1_0 md_L_polish rfl ⟨rfl, rfl, Nat.le_of_ble_eq_true rfl, Nat.le_of_ble_eq_true rfl, by show _ ≤ 897345; omega, by show _ ≤ 6404068; omega⟩ dL_law_496 rfl (Nat.le_of_ble_eq_true rfl) (fun rv u116 hF hdom => ?_)
          obtain ⟨k115, rfl⟩ := wr_int hF
          replace hf := hf k115 u116 hF hdom
          refine dm_to (pc' := 499) (stk' := [DI k115]) rfl rfl ?_
          refine r_istore (pc := 499) (lv' := [(5, DI k115), (0, DR (some b)), (1, DR (some st.1)), (2, DR (some q2.1)), (3, DR (some q4.1)), (4, DI z6.2)]) hC hN dL_law_499 (by decide) rfl ?_
          refine r_aload_n (pc := 501) hC dL_law_501 rfl 3 rfl ?_
          refine r_aload_n (pc := 502) hC dL_law_502 rfl 1 rfl ?_
          refine r_iload (pc := 503) hC dL_law_503 5 rfl ?_
          refine r_iconst (pc := 505) (v := 1) hC dL_law_505 (by decide) ?_
          refine r_iadd (pc := 506) hC dL_law_506 ?_
          obtain ⟨v117, ev117, hf⟩ := pb hf
          refine r_sld (pc := 507) hLE hC dL_law_507 ev117 ?_
          obtain ⟨b118, gb118, hf⟩ := pb hf
          obtain ⟨q119, eq119, hf⟩ := pb hf
          refine r_callV (pc := 508) (As := [DI v117]) (rest := []) (stk' := [DI q119.1]) (k1_X5_polish eq119) gb118 rfl hC wd_3_219 wd_3_220 wd_3_221 wd_3_222 wd_1_3 md_X5_polish rfl ⟨rfl, rfl, Nat.le_of_ble_eq_true rfl, Nat.le_of_ble_eq_true rfl, by show _ ≤ 897345; omega, by show _ ≤ 6404068; omega⟩ dL_law_508 rfl (Nat.le_of_ble_eq_true rfl) rfl ?_
          refine r_istore (pc := 511) (lv' := [(6, DI q119.1), (5, DI k115), (0, DR (some b)), (1, DR (some st.1)), (2, DR (some q2.1)), (3, DR (some q4.1)), (4, DI z6.2)]) hC hN dL_law_511 (by decide) rfl ?_
          refine r_aload_n (pc := 513) hC dL_law_513 rfl 4 rfl ?_
          obtain ⟨b120, gb120, hf⟩ := pb hf
          obtain ⟨q121, eq121, hf⟩ := pb hf
          refine r_callV (pc := 514) (As := []) (rest := []) (stk' := [DI q121]) (k1_X5_thrown eq121) gb120 rfl hC wd_3_139 wd_3_140 wd_3_141 wd_3_142 wd_1_3 md_X5_thrown rfl ⟨rfl, rfl, Nat.le_of_ble_eq_true rfl, Nat.le_of_ble_eq_true rfl, by show _ ≤ 897345; omega, by show _ ≤ 6404068; omega⟩ dL_law_514 rfl (Nat.le_of_ble_eq_true rfl) rfl ?_
          refine r_iload (pc := 517) hC dL_law_517 1 rfl ?_
          refine r_icmp_eq (pc := 519) (tgt := 524) hC dL_law_519 (by decide) (fun c125 => ?_) (fun c125 => ?_)
          · replace hf := pi_t c125 hf
            refine r_iload (pc := 524) hC dL_law_524 1 rfl ?_
            refine r_if_ne (pc := 526) (tgt := 541) hC dL_law_526 (by decide) (fun c124 => ?_) (fun c124 => ?_)
            · replace hf := pi_f c124 hf
              refine r_goto (pc := 541) (tgt := 1413) hC dL_law_541 (by decide) ?_
              refine r_iinc (pc := 1413) (pos := 6) (v := (z6.2 + 4)) (lv' := [(4, DI (z6.2 + 4)), (6, DI q119.1), (5, DI k115), (0, DR (some b)), (1, DR (some st.1)), (2, DR (some q2.1)), (3, DR (some q4.1))]) hC hN dL_law_1413 rfl rfl (by decide) rfl ?_
              refine r_goto (pc := 1416) (tgt := 23) hC dL_law_1416 (by decide) ?_
              exact dm_sub [3, 4, 5, 6, 0] rfl (ih (q119.2, (z6.2 + 4)) _ _ hf (by omega) (by omega))
            · replace hf := pi_t c124 hf
              refine r_aload_n (pc := 529) hC dL_law_529 rfl 5 rfl ?_
              refine r_iconst (pc := 530) (v := 0) hC dL_law_530 (by decide) ?_
              obtain ⟨v122, ev122, hf⟩ := pb hf
              refine r_laload (pc := 531) hC dL_law_531 ev122 ?_
              refine r_iload (pc := 532) hC dL_law_532 0 rfl ?_
              refine r_i2l (pc := 534) hC dL_law_534 ?_
              refine r_lcmp (pc := 535) hC dL_law_535 ?_
              refine r_if_eq (pc := 536) (tgt := 541) hC dL_law_536 (by decide) (fun c123 => ?_) (fun c123 => ?_)
              · replace hf := pi_t c123 hf
                refine r_goto (pc := 541) (tgt := 1413) hC dL_law_541 (by decide) ?_
                refine r_iinc (pc := 1413) (pos := 6) (v := (z6.2 + 4)) (lv' := [(4, DI (z6.2 + 4)), (6, DI q119.1), (5, DI k115), (0, DR (some b)), (1, DR (some st.1)), (2, DR (some q2.1)), (3, DR (some q4.1))]) hC hN dL_law_1413 rfl rfl (by decide) rfl ?_
                refine r_goto (pc := 1416) (tgt := 23) hC dL_law_1416 (by decide) ?_
                exact dm_sub [3, 4, 5, 6, 0] rfl (ih (q119.2, (z6.2 + 4)) _ _ hf (by omega) (by omega))
              · replace hf := pi_f c123 hf
                refine r_iconst (pc := 539) (v := 0) hC dL_law_539 (by decide) ?_
                exact absurd hf (by decide)
          · replace hf := pi_f c125 hf
            refine r_iconst (pc := 522) (v := 0) hC dL_law_522 (by decide) ?_
            exact absurd hf (by decide)
        replace hf := pi_f c13 hf
        by_cases c14 : (v7 &&& 31) = 6
        · replace hf := pi_t c14 hf
          refine r_tswIn (pc := 39) (off := 505) (tgt := 544) hC dL_law_39 (by rw [c14]; decide) (by rw [c14]; decide) (by rw [c14]; rfl) (by decide) ?_
          refine r_aload_n (pc := 544) hC dL_law_544 rfl 1 rfl ?_
          refine r_aload_n (pc := 545) hC dL_law_545 rfl 0 rfl ?_
          refine r_iload (pc := 546) hC dL_law_546 4 rfl ?_
          refine r_iconst (pc := 548) (v := 1) hC dL_law_548 (by decide) ?_
          refine r_iadd (pc := 549) hC dL_law_549 ?_
          obtain ⟨v126, ev126, hf⟩ := pb hf
          refine r_sld (pc := 550) hLE hC dL_law_550 ev126 ?_
          refine r_aload_n (pc := 551) hC dL_law_551 rfl 0 rfl ?_
          refine r_iload (pc := 552) hC dL_law_552 4 rfl ?_
          refine r_iconst (pc := 554) (v := 2) hC dL_law_554 (by decide) ?_
          refine r_iadd (pc := 555) hC dL_law_555 ?_
          obtain ⟨v127, ev127, hf⟩ := pb hf
          refine r_sld (pc := 556) hLE hC dL_law_556 ev127 ?_
          refine r_aload_n (pc := 557) hC dL_law_557 rfl 0 rfl ?_
          refine r_iload (pc := 558) hC dL_law_558 4 rfl ?_
          refine r_iconst (pc := 560) (v := 3) hC dL_law_560 (by decide) ?_
          refine r_iadd (pc := 561) hC dL_law_561 ?_
          obtain ⟨v128, ev128, hf⟩ := pb hf
          refine r_sld (pc := 562) hLE hC dL_law_562 ev128 ?_
          refine r_if_eq (pc := 563) (tgt := 570) hC dL_law_563 (by decide) (fun c177 => ?_) (fun c177 => ?_)
          · replace hf := pi_t c177 hf
            refine r_iconst (pc := 570) (v := 0) hC dL_law_570 (by decide) ?_
            refine r_aload_n (pc := 571) hC dL_law_571 rfl 3 rfl ?_
            obtain ⟨b129, gb129, hf⟩ := pb hf
            obtain ⟨r130, er130, okr130, hf⟩ := hf
            refine r_callSW (pc := 572) (As := [DR (some st.1), DI v126, DI v127, DI 0, DR (some q4.1)]) (rest := []) (kw_L_split gb129 er130 okr130) hC wd_2_211 wd_2_212 wd_2_213 wd_1_0 md_L_split rfl ⟨rfl, rfl, Nat.le_of_ble_eq_true rfl, Nat.le_of_ble_eq_true rfl, by show _ ≤ 897345; omega, by show _ ≤ 6404068; omega⟩ dL_law_572 rfl (Nat.le_of_ble_eq_true rfl) (fun rv u132 hF hdom => ?_)
            obtain ⟨k131, rfl⟩ := wr_int hF
            replace hf := hf k131 u132 hF hdom
            refine dm_to (pc' := 575) (stk' := [DI k131]) rfl rfl ?_
            refine r_istore (pc := 575) (lv' := [(5, DI k131), (0, DR (some b)), (1, DR (some st.1)), (2, DR (some q2.1)), (3, DR (some q4.1)), (4, DI z6.2)]) hC hN dL_law_575 (by decide) rfl ?_
            refine r_aload_n (pc := 577) hC dL_law_577 rfl 3 rfl ?_
            refine r_aload_n (pc := 578) hC dL_law_578 rfl 1 rfl ?_
            refine r_iload (pc := 579) hC dL_law_579 5 rfl ?_
            refine r_iconst (pc := 581) (v := 1) hC dL_law_581 (by decide) ?_
            refine r_iadd (pc := 582) hC dL_law_582 ?_
            obtain ⟨v133, ev133, hf⟩ := pb hf
            refine r_sld (pc := 583) hLE hC dL_law_583 ev133 ?_
            refine r_aload_n (pc := 584) hC dL_law_584 rfl 1 rfl ?_
            refine r_iload (pc := 585) hC dL_law_585 5 rfl ?_
            refine r_iconst (pc := 587) (v := 2) hC dL_law_587 (by decide) ?_
            refine r_iadd (pc := 588) hC dL_law_588 ?_
            obtain ⟨v134, ev134, hf⟩ := pb hf
            refine r_sld (pc := 589) hLE hC dL_law_589 ev134 ?_
            refine r_aload_n (pc := 590) hC dL_law_590 rfl 1 rfl ?_
            refine r_iload (pc := 591) hC dL_law_591 5 rfl ?_
            refine r_iconst (pc := 593) (v := 3) hC dL_law_593 (by decide) ?_
            refine r_iadd (pc := 594) hC dL_law_594 ?_
            obtain ⟨v135, ev135, hf⟩ := pb hf
            refine r_sld (pc := 595) hLE hC dL_law_595 ev135 ?_
            refine r_if_eq (pc := 596) (tgt := 603) hC dL_law_596 (by decide) (fun c152 => ?_) (fun c152 => ?_)
            · replace hf := pi_t c152 hf
              refine r_iconst (pc := 603) (v := 0) hC dL_law_603 (by decide) ?_
              obtain ⟨b136, gb136, hf⟩ := pb hf
              obtain ⟨q137, eq137, hf⟩ := pb hf
              refine r_callV (pc := 604) (As := [DI v133, DI v134, DI 0]) (rest := []) (stk' := [DI q137.1]) (k1_X5_split eq137) gb136 rfl hC wd_3_231 wd_3_232 wd_3_233 wd_3_234 wd_1_3 md_X5_split rfl ⟨rfl, rfl, Nat.le_of_ble_eq_true rfl, Nat.le_of_ble_eq_true rfl, by show _ ≤ 897345; omega, by show _ ≤ 6404068; omega⟩ dL_law_604 rfl (Nat.le_of_ble_eq_true rfl) rfl ?_
              refine r_istore (pc := 607) (lv' := [(6, DI q137.1), (5, DI k131), (0, DR (some b)), (1, DR (some st.1)), (2, DR (some q2.1)), (3, DR (some q4.1)), (4, DI z6.2)]) hC hN dL_law_607 (by decide) rfl ?_
              refine r_aload_n (pc := 609) hC dL_law_609 rfl 4 rfl ?_
              obtain ⟨b138, gb138, hf⟩ := pb hf
              obtain ⟨q139, eq139, hf⟩ := pb hf
              refine r_callV (pc := 610) (As := []) (rest := []) (stk' := [DI q139]) (k1_X5_thrown eq139) gb138 rfl hC wd_3_139 wd_3_140 wd_3_141 wd_3_142 wd_1_3 md_X5_thrown rfl ⟨rfl, rfl, Nat.le_of_ble_eq_true rfl, Nat.le_of_ble_eq_true rfl, by show _ ≤ 897345; omega, by show _ ≤ 6404068; omega⟩ dL_law_610 rfl (Nat.le_of_ble_eq_true rfl) rfl ?_
              refine r_iload (pc := 613) hC dL_law_613 1 rfl ?_
              refine r_icmp_eq (pc := 615) (tgt := 620) hC dL_law_615 (by decide) (fun c143 => ?_) (fun c143 => ?_)
              · replace hf := pi_t c143 hf
                refine r_iload (pc := 620) hC dL_law_620 1 rfl ?_
                refine r_if_ne (pc := 622) (tgt := 637) hC dL_law_622 (by decide) (fun c142 => ?_) (fun c142 => ?_)
                · replace hf := pi_f c142 hf
                  refine r_goto (pc := 637) (tgt := 1413) hC dL_law_637 (by decide) ?_
                  refine r_iinc (pc := 1413) (pos := 6) (v := (z6.2 + 4)) (lv' := [(4, DI (z6.2 + 4)), (6, DI q137.1), (5, DI k131), (0, DR (some b)), (1, DR (some st.1)), (2, DR (some q2.1)), (3, DR (some q4.1))]) hC hN dL_law_1413 rfl rfl (by decide) rfl ?_
                  refine r_goto (pc := 1416) (tgt := 23) hC dL_law_1416 (by decide) ?_
                  exact dm_sub [3, 4, 5, 6, 0] rfl (ih (q137.2, (z6.2 + 4)) _ _ hf (by omega) (by omega))
                · replace hf := pi_t c142 hf
                  refine r_aload_n (pc := 625) hC dL_law_625 rfl 5 rfl ?_
                  refine r_iconst (pc := 626) (v := 0) hC dL_law_626 (by decide) ?_
                  obtain ⟨v140, ev140, hf⟩ := pb hf
                  refine r_laload (pc := 627) hC dL_law_627 ev140 ?_
                  refine r_iload (pc := 628) hC dL_law_628 0 rfl ?_
                  refine r_i2l (pc := 630) hC dL_law_630 ?_
                  refine r_lcmp (pc := 631) hC dL_law_631 ?_
                  refine r_if_eq (pc := 632) (tgt := 637) hC dL_law_632 (by decide) (fun c141 => ?_) (fun c141 => ?_)
                  · replace hf := pi_t c141 hf
                    refine r_goto (pc := 637) (tgt := 1413) hC dL_law_637 (by decide) ?_
                    refine r_iinc (pc := 1413) (pos := 6) (v := (z6.2 + 4)) (lv' := [(4, DI (z6.2 + 4)), (6, DI q137.1), (5, DI k131), (0, DR (some b)), (1, DR (some st.1)), (2, DR (some q2.1)), (3, DR (some q4.1))]) hC hN dL_law_1413 rfl rfl (by decide) rfl ?_
                    refine r_goto (pc := 1416) (tgt := 23) hC dL_law_1416 (by decide) ?_
                    exact dm_sub [3, 4, 5, 6, 0] rfl (ih (q137.2, (z6.2 + 4)) _ _ hf (by omega) (by omega))
                  · replace hf := pi_f c141 hf
                    refine r_iconst (pc := 635) (v := 0) hC dL_law_635 (by decide) ?_
                    exact absurd hf (by decide)
              · replace hf := pi_f c143 hf
                refine r_iconst (pc := 618) (v := 0) hC dL_law_618 (by decide) ?_
                exact absurd hf (by decide)
            · replace hf := pi_f c152 hf
              refine r_iconst (pc := 599) (v := 1) hC dL_law_599 (by decide) ?_
              refine r_goto (pc := 600) (tgt := 604) hC dL_law_600 (by decide) ?_
              obtain ⟨b144, gb144, hf⟩ := pb hf
              obtain ⟨q145, eq145, hf⟩ := pb hf
              refine r_callV (pc := 604) (As := [DI v133, DI v134, DI 1]) (rest := []) (stk' := [DI q145.1]) (k1_X5_split eq145) gb144 rfl hC wd_3_231 wd_3_232 wd_3_233 wd_3_234 wd_1_3 md_X5_split rfl ⟨rfl, rfl, Nat.le_of_ble_eq_true rfl, Nat.le_of_ble_eq_true rfl, by show _ ≤ 897345; omega, by show _ ≤ 6404068; omega⟩ dL_law_604 rfl (Nat.le_of_ble_eq_true rfl) rfl ?_
              refine r_istore (pc := 607) (lv' := [(6, DI q145.1), (5, DI k131), (0, DR (some b)), (1, DR (some st.1)), (2, DR (some q2.1)), (3, DR (some q4.1)), (4, DI z6.2)]) hC hN dL_law_607 (by decide) rfl ?_
              refine r_aload_n (pc := 609) hC dL_law_609 rfl 4 rfl ?_
              obtain ⟨b146, gb146, hf⟩ := pb hf
              obtain ⟨q147, eq147, hf⟩ := pb hf
              refine r_callV (pc := 610) (As := []) (rest := []) (stk' := [DI q147]) (k1_X5_thrown eq147) gb146 rfl hC wd_3_139 wd_3_140 wd_3_141 wd_3_142 wd_1_3 md_X5_thrown rfl ⟨rfl, rfl, Nat.le_of_ble_eq_true rfl, Nat.le_of_ble_eq_true rfl, by show _ ≤ 897345; omega, by show _ ≤ 6404068; omega⟩ dL_law_610 rfl (Nat.le_of_ble_eq_true rfl) rfl ?_
              refine r_iload (pc := 613) hC dL_law_613 1 rfl ?_
              refine r_icmp_eq (pc := 615) (tgt := 620) hC dL_law_615 (by decide) (fun c151 => ?_) (fun c151 => ?_)
              · replace hf := pi_t c151 hf
                refine r_iload (pc := 620) hC dL_law_620 1 rfl ?_
                refine r_if_ne (pc := 622) (tgt := 637) hC dL_law_622 (by decide) (fun c150 => ?_) (fun c150 => ?_)
                · replace hf := pi_f c150 hf
                  refine r_goto (pc := 637) (tgt := 1413) hC dL_law_637 (by decide) ?_
                  refine r_iinc (pc := 1413) (pos := 6) (v := (z6.2 + 4)) (lv' := [(4, DI (z6.2 + 4)), (6, DI q145.1), (5, DI k131), (0, DR (some b)), (1, DR (some st.1)), (2, DR (some q2.1)), (3, DR (some q4.1))]) hC hN dL_law_1413 rfl rfl (by decide) rfl ?_
                  refine r_goto (pc := 1416) (tgt := 23) hC dL_law_1416 (by decide) ?_
                  exact dm_sub [3, 4, 5, 6, 0] rfl (ih (q145.2, (z6.2 + 4)) _ _ hf (by omega) (by omega))
                · replace hf := pi_t c150 hf
                  refine r_aload_n (pc := 625) hC dL_law_625 rfl 5 rfl ?_
                  refine r_iconst (pc := 626) (v := 0) hC dL_law_626 (by decide) ?_
                  obtain ⟨v148, ev148, hf⟩ := pb hf
                  refine r_laload (pc := 627) hC dL_law_627 ev148 ?_
                  refine r_iload (pc := 628) hC dL_law_628 0 rfl ?_
                  refine r_i2l (pc := 630) hC dL_law_630 ?_
                  refine r_lcmp (pc := 631) hC dL_law_631 ?_
                  refine r_if_eq (pc := 632) (tgt := 637) hC dL_law_632 (by decide) (fun c149 => ?_) (fun c149 => ?_)
                  · replace hf := pi_t c149 hf
                    refine r_goto (pc := 637) (tgt := 1413) hC dL_law_637 (by decide) ?_
                    refine r_iinc (pc := 1413) (pos := 6) (v := (z6.2 + 4)) (lv' := [(4, DI (z6.2 + 4)), (6, DI q145.1), (5, DI k131), (0, DR (some b)), (1, DR (some st.1)), (2, DR (some q2.1)), (3, DR (some q4.1))]) hC hN dL_law_1413 rfl rfl (by decide) rfl ?_
                    refine r_goto (pc := 1416) (tgt := 23) hC dL_law_1416 (by decide) ?_
                    exact dm_sub [3, 4, 5, 6, 0] rfl (ih (q145.2, (z6.2 + 4)) _ _ hf (by omega) (by omega))
                  · replace hf := pi_f c149 hf
                    refine r_iconst (pc := 635) (v := 0) hC dL_law_635 (by decide) ?_
                    exact absurd hf (by decide)
              · replace hf := pi_f c151 hf
                refine r_iconst (pc := 618) (v := 0) hC dL_law_618 (by decide) ?_
                exact absurd hf (by decide)
          · replace hf := pi_f c177 hf
            refine r_iconst (pc := 566) (v := 1) hC dL_law_566 (by decide) ?_
            refine r_goto (pc := 567) (tgt := 571) hC dL_law_567 (by decide) ?_
            refine r_aload_n (pc := 571) hC dL_law_571 rfl 3 rfl ?_
            obtain ⟨b153, gb153, hf⟩ := pb hf
            obtain ⟨r154, er154, okr154, hf⟩ := hf
            refine r_callSW (pc := 572) (As := [DR (some st.1), DI v126, DI v127, DI 1, DR (some q4.1)]) (rest := []) (kw_L_split gb153 er154 okr154) hC wd_2_211 wd_2_212 wd_2_213 wd_1_0 md_L_split rfl ⟨rfl, rfl, Nat.le_of_ble_eq_true rfl, Nat.le_of_ble_eq_true rfl, by show _ ≤ 897345; omega, by show _ ≤ 6404068; omega⟩ dL_law_572 rfl (Nat.le_of_ble_eq_true rfl) (fun rv u156 hF hdom => ?_)
            obtain ⟨k155, rfl⟩ := wr_int hF
            replace hf := hf k155 u156 hF hdom
            refine dm_to (pc' := 575) (stk' := [DI k155]) rfl rfl ?_
            refine r_istore (pc := 575) (lv' := [(5, DI k155), (0, DR (some b)), (1, DR (some st.1)), (2, DR (some q2.1)), (3, DR (some q4.1)), (4, DI z6.2)]) hC hN dL_law_575 (by decide) rfl ?_
            refine r_aload_n (pc := 577) hC dL_law_577 rfl 3 rfl ?_
            refine r_aload_n (pc := 578) hC dL_law_578 rfl 1 rfl ?_
            refine r_iload (pc := 579) hC dL_law_579 5 rfl ?_
            refine r_iconst (pc := 581) (v := 1) hC dL_law_581 (by decide) ?_
            refine r_iadd (pc := 582) hC dL_law_582 ?_
            obtain ⟨v157, ev157, hf⟩ := pb hf
            refine r_sld (pc := 583) hLE hC dL_law_583 ev157 ?_
            refine r_aload_n (pc := 584) hC dL_law_584 rfl 1 rfl ?_
            refine r_iload (pc := 585) hC dL_law_585 5 rfl ?_
            refine r_iconst (pc := 587) (v := 2) hC dL_law_587 (by decide) ?_
            refine r_iadd (pc := 588) hC dL_law_588 ?_
            obtain ⟨v158, ev158, hf⟩ := pb hf
            refine r_sld (pc := 589) hLE hC dL_law_589 ev158 ?_
            refine r_aload_n (pc := 590) hC dL_law_590 rfl 1 rfl ?_
            refine r_iload (pc := 591) hC dL_law_591 5 rfl ?_
            refine r_iconst (pc := 593) (v := 3) hC dL_law_593 (by decide) ?_
            refine r_iadd (pc := 594) hC dL_law_594 ?_
            obtain ⟨v159, ev159, hf⟩ := pb hf
            refine r_sld (pc := 595) hLE hC dL_law_595 ev159 ?_
            refine r_if_eq (pc := 596) (tgt := 603) hC dL_law_596 (by decide) (fun c176 => ?_) (fun c176 => ?_)
            · replace hf := pi_t c176 hf
              refine r_iconst (pc := 603) (v := 0) hC dL_law_603 (by decide) ?_
              obtain ⟨b160, gb160, hf⟩ := pb hf
              obtain ⟨q161, eq161, hf⟩ := pb hf
              refine r_callV (pc := 604) (As := [DI v157, DI v158, DI 0]) (rest := []) (stk' := [DI q161.1]) (k1_X5_split eq161) gb160 rfl hC wd_3_231 wd_3_232 wd_3_233 wd_3_234 wd_1_3 md_X5_split rfl ⟨rfl, rfl, Nat.le_of_ble_eq_true rfl, Nat.le_of_ble_eq_true rfl, by show _ ≤ 897345; omega, by show _ ≤ 6404068; omega⟩ dL_law_604 rfl (Nat.le_of_ble_eq_true rfl) rfl ?_
              refine r_istore (pc := 607) (lv' := [(6, DI q161.1), (5, DI k155), (0, DR (some b)), (1, DR (some st.1)), (2, DR (some q2.1)), (3, DR (some q4.1)), (4, DI z6.2)]) hC hN dL_law_607 (by decide) rfl ?_
              refine r_aload_n (pc := 609) hC dL_law_609 rfl 4 rfl ?_
              obtain ⟨b162, gb162, hf⟩ := pb hf
              obtain ⟨q163, eq163, hf⟩ := pb hf
              refine r_callV (pc := 610) (As := []) (rest := []) (stk' := [DI q163]) (k1_X5_thrown eq163) gb162 rfl hC wd_3_139 wd_3_140 wd_3_141 wd_3_142 wd_1_3 md_X5_thrown rfl ⟨rfl, rfl, Nat.le_of_ble_eq_true rfl, Nat.le_of_ble_eq_true rfl, by show _ ≤ 897345; omega, by show _ ≤ 6404068; omega⟩ dL_law_610 rfl (Nat.le_of_ble_eq_true rfl) rfl ?_
              refine r_iload (pc := 613) hC dL_law_613 1 rfl ?_
              refine r_icmp_eq (pc := 615) (tgt := 620) hC dL_law_615 (by decide) (fun c167 => ?_) (fun c167 => ?_)
              · replace hf := pi_t c167 hf
                refine r_iload (pc := 620) hC dL_law_620 1 rfl ?_
                refine r_if_ne (pc := 622) (tgt := 637) hC dL_law_622 (by decide) (fun c166 => ?_) (fun c166 => ?_)
                · replace hf := pi_f c166 hf
                  refine r_goto (pc := 637) (tgt := 1413) hC dL_law_637 (by decide) ?_
                  refine r_iinc (pc := 1413) (pos := 6) (v := (z6.2 + 4)) (lv' := [(4, DI (z6.2 + 4)), (6, DI q161.1), (5, DI k155), (0, DR (some b)), (1, DR (some st.1)), (2, DR (some q2.1)), (3, DR (some q4.1))]) hC hN dL_law_1413 rfl rfl (by decide) rfl ?_
                  refine r_goto (pc := 1416) (tgt := 23) hC dL_law_1416 (by decide) ?_
                  exact dm_sub [3, 4, 5, 6, 0] rfl (ih (q161.2, (z6.2 + 4)) _ _ hf (by omega) (by omega))
                · replace hf := pi_t c166 hf
                  refine r_aload_n (pc := 625) hC dL_law_625 rfl 5 rfl ?_
                  refine r_iconst (pc := 626) (v := 0) hC dL_law_626 (by decide) ?_
                  obtain ⟨v164, ev164, hf⟩ := pb hf
                  refine r_laload (pc := 627) hC dL_law_627 ev164 ?_
                  refine r_iload (pc := 628) hC dL_law_628 0 rfl ?_
                  refine r_i2l (pc := 630) hC dL_law_630 ?_
                  refine r_lcmp (pc := 631) hC dL_law_631 ?_
                  refine r_if_eq (pc := 632) (tgt := 637) hC dL_law_632 (by decide) (fun c165 => ?_) (fun c165 => ?_)
                  · replace hf := pi_t c165 hf
                    refine r_goto (pc := 637) (tgt := 1413) hC dL_law_637 (by decide) ?_
                    refine r_iinc (pc := 1413) (pos := 6) (v := (z6.2 + 4)) (lv' := [(4, DI (z6.2 + 4)), (6, DI q161.1), (5, DI k155), (0, DR (some b)), (1, DR (some st.1)), (2, DR (some q2.1)), (3, DR (some q4.1))]) hC hN dL_law_1413 rfl rfl (by decide) rfl ?_
                    refine r_goto (pc := 1416) (tgt := 23) hC dL_law_1416 (by decide) ?_
                    exact dm_sub [3, 4, 5, 6, 0] rfl (ih (q161.2, (z6.2 + 4)) _ _ hf (by omega) (by omega))
                  · replace hf := pi_f c165 hf
                    refine r_iconst (pc := 635) (v := 0) hC dL_law_635 (by decide) ?_
                    exact absurd hf (by decide)
              · replace hf := pi_f c167 hf
                refine r_iconst (pc := 618) (v := 0) hC dL_law_618 (by decide) ?_
                exact absurd hf (by decide)
            · replace hf := pi_f c176 hf
              refine r_iconst (pc := 599) (v := 1) hC dL_law_599 (by decide) ?_
              refine r_goto (pc := 600) (tgt := 604) hC dL_law_600 (by decide) ?_
              obtain ⟨b168, gb168, hf⟩ := pb hf
              obtain ⟨q169, eq169, hf⟩ := pb hf
              refine r_callV (pc := 604) (As := [DI v157, DI v158, DI 1]) (rest := []) (stk' := [DI q169.1]) (k1_X5_split eq169) gb168 rfl hC wd_3_231 wd_3_232 wd_3_233 wd_3_234 wd_1_3 md_X5_split rfl ⟨rfl, rfl, Nat.le_of_ble_eq_true rfl, Nat.le_of_ble_eq_true rfl, by show _ ≤ 897345; omega, by show _ ≤ 6404068; omega⟩ dL_law_604 rfl (Nat.le_of_ble_eq_true rfl) rfl ?_
              refine r_istore (pc := 607) (lv' := [(6, DI q169.1), (5, DI k155), (0, DR (some b)), (1, DR (some st.1)), (2, DR (some q2.1)), (3, DR (some q4.1)), (4, DI z6.2)]) hC hN dL_law_607 (by decide) rfl ?_
              refine r_aload_n (pc := 609) hC dL_law_609 rfl 4 rfl ?_
              obtain ⟨b170, gb170, hf⟩ := pb hf
              obtain ⟨q171, eq171, hf⟩ := pb hf
              refine r_callV (pc := 610) (As := []) (rest := []) (stk' := [DI q171]) (k1_X5_thrown eq171) gb170 rfl hC wd_3_139 wd_3_140 wd_3_141 wd_3_142 wd_1_3 md_X5_thrown rfl ⟨rfl, rfl, Nat.le_of_ble_eq_true rfl, Nat.le_of_ble_eq_true rfl, by show _ ≤ 897345; omega, by show _ ≤ 6404068; omega⟩ dL_law_610 rfl (Nat.le_of_ble_eq_true rfl) rfl ?_
              refine r_iload (pc := 613) hC dL_law_613 1 rfl ?_
              refine r_icmp_eq (pc := 615) (tgt := 620) hC dL_law_615 (by decide) (fun c175 => ?_) (fun c175 => ?_)
              · replace hf := pi_t c175 hf
                refine r_iload (pc := 620) hC dL_law_620 1 rfl ?_
                refine r_if_ne (pc := 622) (tgt := 637) hC dL_law_622 (by decide) (fun c174 => ?_) (fun c174 => ?_)
                · replace hf := pi_f c174 hf
                  refine r_goto (pc := 637) (tgt := 1413) hC dL_law_637 (by decide) ?_
                  refine r_iinc (pc := 1413) (pos := 6) (v := (z6.2 + 4)) (lv' := [(4, DI (z6.2 + 4)), (6, DI q169.1), (5, DI k155), (0, DR (some b)), (1, DR (some st.1)), (2, DR (some q2.1)), (3, DR (some q4.1))]) hC hN dL_law_1413 rfl rfl (by decide) rfl ?_
                  refine r_goto (pc := 1416) (tgt := 23) hC dL_law_1416 (by decide) ?_
                  exact dm_sub [3, 4, 5, 6, 0] rfl (ih (q169.2, (z6.2 + 4)) _ _ hf (by omega) (by omega))
                · replace hf := pi_t c174 hf
                  refine r_aload_n (pc := 625) hC dL_law_625 rfl 5 rfl ?_
                  refine r_iconst (pc := 626) (v := 0) hC dL_law_626 (by decide) ?_
                  obtain ⟨v172, ev172, hf⟩ := pb hf
                  refine r_laload (pc := 627) hC dL_law_627 ev172 ?_
                  refine r_iload (pc := 628) hC dL_law_628 0 rfl ?_
                  refine r_i2l (pc := 630) hC dL_law_630 ?_
                  refine r_lcmp (pc := 631) hC dL_law_631 ?_
                  refine r_if_eq (pc := 632) (tgt := 637) hC dL_law_632 (by decide) (fun c173 => ?_) (fun c173 => ?_)
                  · replace hf := pi_t c173 hf
                    refine r_goto (pc := 637) (tgt := 1413) hC dL_law_637 (by decide) ?_
                    refine r_iinc (pc := 1413) (pos := 6) (v := (z6.2 + 4)) (lv' := [(4, DI (z6.2 + 4)), (6, DI q169.1), (5, DI k155), (0, DR (some b)), (1, DR (some st.1)), (2, DR (some q2.1)), (3, DR (some q4.1))]) hC hN dL_law_1413 rfl rfl (by decide) rfl ?_
                    refine r_goto (pc := 1416) (tgt := 23) hC dL_law_1416 (by decide) ?_
                    exact dm_sub [3, 4, 5, 6, 0] rfl (ih (q169.2, (z6.2 + 4)) _ _ hf (by omega) (by omega))
                  · replace hf := pi_f c173 hf
                    refine r_iconst (pc := 635) (v := 0) hC dL_law_635 (by decide) ?_
                    exact absurd hf (by decide)
              · replace hf := pi_f c175 hf
                refine r_iconst (pc := 618) (v := 0) hC dL_law_618 (by decide) ?_
                exact absurd hf (by decide)
        replace hf := pi_f c14 hf
        by_cases c15 : (v7 &&& 31) = 7
        · replace hf := pi_t c15 hf
          refine r_tswIn (pc := 39) (off := 601) (tgt := 640) hC dL_law_39 (by rw [c15]; decide) (by rw [c15]; decide) (by rw [c15]; rfl) (by decide) ?_
          refine r_aload_n (pc := 640) hC dL_law_640 rfl 1 rfl ?_
          refine r_aload_n (pc := 641) hC dL_law_641 rfl 0 rfl ?_
          refine r_iload (pc := 642) hC dL_law_642 4 rfl ?_
          refine r_iconst (pc := 644) (v := 1) hC dL_law_644 (by decide) ?_
          refine r_iadd (pc := 645) hC dL_law_645 ?_
          obtain ⟨v178, ev178, hf⟩ := pb hf
          refine r_sld (pc := 646) hLE hC dL_law_646 ev178 ?_
          refine r_aload_n (pc := 647) hC dL_law_647 rfl 0 rfl ?_
          refine r_iload (pc := 648) hC dL_law_648 4 rfl ?_
          refine r_iconst (pc := 650) (v := 2) hC dL_law_650 (by decide) ?_
          refine r_iadd (pc := 651) hC dL_law_651 ?_
          obtain ⟨v179, ev179, hf⟩ := pb hf
          refine r_sld (pc := 652) hLE hC dL_law_652 ev179 ?_
          refine r_aload_n (pc := 653) hC dL_law_653 rfl 3 rfl ?_
          obtain ⟨b180, gb180, hf⟩ := pb hf
          obtain ⟨r181, er181, okr181, hf⟩ := hf
          refine r_callSW (pc := 654) (As := [DR (some st.1), DI v178, DI v179, DR (some q4.1)]) (rest := []) (kw_L_melt gb180 er181 okr181) hC wd_2_229 wd_2_230 wd_2_231 wd_1_0 md_L_melt rfl ⟨rfl, rfl, Nat.le_of_ble_eq_true rfl, Nat.le_of_ble_eq_true rfl, by show _ ≤ 897345; omega, by show _ ≤ 6404068; omega⟩ dL_law_654 rfl (Nat.le_of_ble_eq_true rfl) (fun rv u183 hF hdom => ?_)
          obtain ⟨k182, rfl⟩ := wr_int hF
          replace hf := hf k182 u183 hF hdom
          refine dm_to (pc' := 657) (stk' := [DI k182]) rfl rfl ?_
          refine r_istore (pc := 657) (lv' := [(5, DI k182), (0, DR (some b)), (1, DR (some st.1)), (2, DR (some q2.1)), (3, DR (some q4.1)), (4, DI z6.2)]) hC hN dL_law_657 (by decide) rfl ?_
          refine r_aload_n (pc := 659) hC dL_law_659 rfl 3 rfl ?_
          refine r_aload_n (pc := 660) hC dL_law_660 rfl 1 rfl ?_
          refine r_iload (pc := 661) hC dL_law_661 5 rfl ?_
          refine r_iconst (pc := 663) (v := 1) hC dL_law_663 (by decide) ?_
          refine r_iadd (pc := 664) hC dL_law_664 ?_
          obtain ⟨v184, ev184, hf⟩ := pb hf
          refine r_sld (pc := 665) hLE hC dL_law_665 ev184 ?_
          refine r_aload_n (pc := 666) hC dL_law_666 rfl 1 rfl ?_
          refine r_iload (pc := 667) hC dL_law_667 5 rfl ?_
          refine r_iconst (pc := 669) (v := 2) hC dL_law_669 (by decide) ?_
          refine r_iadd (pc := 670) hC dL_law_670 ?_
          obtain ⟨v185, ev185, hf⟩ := pb hf
          refine r_sld (pc := 671) hLE hC dL_law_671 ev185 ?_
          obtain ⟨b186, gb186, hf⟩ := pb hf
          obtain ⟨q187, eq187, hf⟩ := pb hf
          refine r_callV (pc := 672) (As := [DI v184, DI v185]) (rest := []) (stk' := [DI q187.1]) (k1_X5_melt eq187) gb186 rfl hC wd_3_238 wd_3_239 wd_4_0 wd_4_1 wd_1_3 md_X5_melt rfl ⟨rfl, rfl, Nat.le_of_ble_eq_true rfl, Nat.le_of_ble_eq_true rfl, by show _ ≤ 897345; omega, by show _ ≤ 6404068; omega⟩ dL_law_672 rfl (Nat.le_of_ble_eq_true rfl) rfl ?_
          refine r_istore (pc := 675) (lv' := [(6, DI q187.1), (5, DI k182), (0, DR (some b)), (1, DR (some st.1)), (2, DR (some q2.1)), (3, DR (some q4.1)), (4, DI z6.2)]) hC hN dL_law_675 (by decide) rfl ?_
          refine r_aload_n (pc := 677) hC dL_law_677 rfl 4 rfl ?_
          obtain ⟨b188, gb188, hf⟩ := pb hf
          obtain ⟨q189, eq189, hf⟩ := pb hf
          refine r_callV (pc := 678) (As := []) (rest := []) (stk' := [DI q189]) (k1_X5_thrown eq189) gb188 rfl hC wd_3_139 wd_3_140 wd_3_141 wd_3_142 wd_1_3 md_X5_thrown rfl ⟨rfl, rfl, Nat.le_of_ble_eq_true rfl, Nat.le_of_ble_eq_true rfl, by show _ ≤ 897345; omega, by show _ ≤ 6404068; omega⟩ dL_law_678 rfl (Nat.le_of_ble_eq_true rfl) rfl ?_
          refine r_iload (pc := 681) hC dL_law_681 1 rfl ?_
          refine r_icmp_eq (pc := 683) (tgt := 688) hC dL_law_683 (by decide) (fun c193 => ?_) (fun c193 => ?_)
          · replace hf := pi_t c193 hf
            refine r_iload (pc := 688) hC dL_law_688 1 rfl ?_
            refine r_if_ne (pc := 690) (tgt := 705) hC dL_law_690 (by decide) (fun c192 => ?_) (fun c192 => ?_)
            · replace hf := pi_f c192 hf
              refine r_goto (pc := 705) (tgt := 1413) hC dL_law_705 (by decide) ?_
              refine r_iinc (pc := 1413) (pos := 6) (v := (z6.2 + 4)) (lv' := [(4, DI (z6.2 + 4)), (6, DI q187.1), (5, DI k182), (0, DR (some b)), (1, DR (some st.1)), (2, DR (some q2.1)), (3, DR (some q4.1))]) hC hN dL_law_1413 rfl rfl (by decide) rfl ?_
              refine r_goto (pc := 1416) (tgt := 23) hC dL_law_1416 (by decide) ?_
              exact dm_sub [3, 4, 5, 6, 0] rfl (ih (q187.2, (z6.2 + 4)) _ _ hf (by omega) (by omega))
            · replace hf := pi_t c192 hf
              refine r_aload_n (pc := 693) hC dL_law_693 rfl 5 rfl ?_
              refine r_iconst (pc := 694) (v := 0) hC dL_law_694 (by decide) ?_
              obtain ⟨v190, ev190, hf⟩ := pb hf
              refine r_laload (pc := 695) hC dL_law_695 ev190 ?_
              refine r_iload (pc := 696) hC dL_law_696 0 rfl ?_
              refine r_i2l (pc := 698) hC dL_law_698 ?_
              refine r_lcmp (pc := 699) hC dL_law_699 ?_
              refine r_if_eq (pc := 700) (tgt := 705) hC dL_law_700 (by decide) (fun c191 => ?_) (fun c191 => ?_)
              · replace hf := pi_t c191 hf
                refine r_goto (pc := 705) (tgt := 1413) hC dL_law_705 (by decide) ?_
                refine r_iinc (pc := 1413) (pos := 6) (v := (z6.2 + 4)) (lv' := [(4, DI (z6.2 + 4)), (6, DI q187.1), (5, DI k182), (0, DR (some b)), (1, DR (some st.1)), (2, DR (some q2.1)), (3, DR (some q4.1))]) hC hN dL_law_1413 rfl rfl (by decide) rfl ?_
                refine r_goto (pc := 1416) (tgt := 23) hC dL_law_1416 (by decide) ?_
                exact dm_sub [3, 4, 5, 6, 0] rfl (ih (q187.2, (z6.2 + 4)) _ _ hf (by omega) (by omega))
              · replace hf := pi_f c191 hf
                refine r_iconst (pc := 703) (v := 0) hC dL_law_703 (by decide) ?_
                exact absurd hf (by decide)
          · replace hf := pi_f c193 hf
            refine r_iconst (pc := 686) (v := 0) hC dL_law_686 (by decide) ?_
            exact absurd hf (by decide)
        replace hf := pi_f c15 hf
        by_cases c16 : (v7 &&& 31) = 8
        · replace hf := pi_t c16 hf
          refine r_tswIn (pc := 39) (off := 669) (tgt := 708) hC dL_law_39 (by rw [c16]; decide) (by rw [c16]; decide) (by rw [c16]; rfl) (by decide) ?_
          refine r_aload_n (pc := 708) hC dL_law_708 rfl 1 rfl ?_
          refine r_aload_n (pc := 709) hC dL_law_709 rfl 0 rfl ?_
          refine r_iload (pc := 710) hC dL_law_710 4 rfl ?_
          refine r_iconst (pc := 712) (v := 1) hC dL_law_712 (by decide) ?_
          refine r_iadd (pc := 713) hC dL_law_713 ?_
          obtain ⟨v194, ev194, hf⟩ := pb hf
          refine r_sld (pc := 714) hLE hC dL_law_714 ev194 ?_
          refine r_aload_n (pc := 715) hC dL_law_715 rfl 0 rfl ?_
          refine r_iload (pc := 716) hC dL_law_716 4 rfl ?_
          refine r_iconst (pc := 718) (v := 2) hC dL_law_718 (by decide) ?_
          refine r_iadd (pc := 719) hC dL_law_719 ?_
          obtain ⟨v195, ev195, hf⟩ := pb hf
          refine r_sld (pc := 720) hLE hC dL_law_720 ev195 ?_
          refine r_aload_n (pc := 721) hC dL_law_721 rfl 3 rfl ?_
          obtain ⟨b196, gb196, hf⟩ := pb hf
          obtain ⟨r197, er197, okr197, hf⟩ := hf
          refine r_callSW (pc := 722) (As := [DR (some st.1), DI v194, DI v195, DR (some q4.1)]) (rest := []) (kw_L_box gb196 er197 okr197) hC wd_2_237 wd_2_238 wd_2_239 wd_1_0 md_L_box rfl ⟨rfl, rfl, Nat.le_of_ble_eq_true rfl, Nat.le_of_ble_eq_true rfl, by show _ ≤ 897345; omega, by show _ ≤ 6404068; omega⟩ dL_law_722 rfl (Nat.le_of_ble_eq_true rfl) (fun rv u199 hF hdom => ?_)
          obtain ⟨k198, rfl⟩ := wr_int hF
          replace hf := hf k198 u199 hF hdom
          refine dm_to (pc' := 725) (stk' := [DI k198]) rfl rfl ?_
          refine r_istore (pc := 725) (lv' := [(5, DI k198), (0, DR (some b)), (1, DR (some st.1)), (2, DR (some q2.1)), (3, DR (some q4.1)), (4, DI z6.2)]) hC hN dL_law_725 (by decide) rfl ?_
          refine r_aload_n (pc := 727) hC dL_law_727 rfl 3 rfl ?_
          refine r_aload_n (pc := 728) hC dL_law_728 rfl 1 rfl ?_
          refine r_iload (pc := 729) hC dL_law_729 5 rfl ?_
          refine r_iconst (pc := 731) (v := 1) hC dL_law_731 (by decide) ?_
          refine r_iadd (pc := 732) hC dL_law_732 ?_
          obtain ⟨v200, ev200, hf⟩ := pb hf
          refine r_sld (pc := 733) hLE hC dL_law_733 ev200 ?_
          refine r_aload_n (pc := 734) hC dL_law_734 rfl 1 rfl ?_
          refine r_iload (pc := 735) hC dL_law_735 5 rfl ?_
          refine r_iconst (pc := 737) (v := 2) hC dL_law_737 (by decide) ?_
          refine r_iadd (pc := 738) hC dL_law_738 ?_
          obtain ⟨v201, ev201, hf⟩ := pb hf
          refine r_sld (pc := 739) hLE hC dL_law_739 ev201 ?_
          obtain ⟨b202, gb202, hf⟩ := pb hf
          obtain ⟨q203, eq203, hf⟩ := pb hf
          refine r_callV (pc := 740) (As := [DI v200, DI v201]) (rest := []) (stk' := [DI q203.1]) (k1_X5_box eq203) gb202 rfl hC wd_4_10 wd_4_11 wd_4_12 wd_4_13 wd_1_3 md_X5_box rfl ⟨rfl, rfl, Nat.le_of_ble_eq_true rfl, Nat.le_of_ble_eq_true rfl, by show _ ≤ 897345; omega, by show _ ≤ 6404068; omega⟩ dL_law_740 rfl (Nat.le_of_ble_eq_true rfl) rfl ?_
          refine r_istore (pc := 743) (lv' := [(6, DI q203.1), (5, DI k198), (0, DR (some b)), (1, DR (some st.1)), (2, DR (some q2.1)), (3, DR (some q4.1)), (4, DI z6.2)]) hC hN dL_law_743 (by decide) rfl ?_
          refine r_aload_n (pc := 745) hC dL_law_745 rfl 4 rfl ?_
          obtain ⟨b204, gb204, hf⟩ := pb hf
          obtain ⟨q205, eq205, hf⟩ := pb hf
          refine r_callV (pc := 746) (As := []) (rest := []) (stk' := [DI q205]) (k1_X5_thrown eq205) gb204 rfl hC wd_3_139 wd_3_140 wd_3_141 wd_3_142 wd_1_3 md_X5_thrown rfl ⟨rfl, rfl, Nat.le_of_ble_eq_true rfl, Nat.le_of_ble_eq_true rfl, by show _ ≤ 897345; omega, by show _ ≤ 6404068; omega⟩ dL_law_746 rfl (Nat.le_of_ble_eq_true rfl) rfl ?_
          refine r_iload (pc := 749) hC dL_law_749 1 rfl ?_
          refine r_icmp_eq (pc := 751) (tgt := 756) hC dL_law_751 (by decide) (fun c209 => ?_) (fun c209 => ?_)
          · replace hf := pi_t c209 hf
            refine r_iload (pc := 756) hC dL_law_756 1 rfl ?_
            refine r_if_ne (pc := 758) (tgt := 773) hC dL_law_758 (by decide) (fun c208 => ?_) (fun c208 => ?_)
            · replace hf := pi_f c208 hf
              refine r_goto (pc := 773) (tgt := 1413) hC dL_law_773 (by decide) ?_
              refine r_iinc (pc := 1413) (pos := 6) (v := (z6.2 + 4)) (lv' := [(4, DI (z6.2 + 4)), (6, DI q203.1), (5, DI k198), (0, DR (some b)), (1, DR (some st.1)), (2, DR (some q2.1)), (3, DR (some q4.1))]) hC hN dL_law_1413 rfl rfl (by decide) rfl ?_
              refine r_goto (pc := 1416) (tgt := 23) hC dL_law_1416 (by decide) ?_
              exact dm_sub [3, 4, 5, 6, 0] rfl (ih (q203.2, (z6.2 + 4)) _ _ hf (by omega) (by omega))
            · replace hf := pi_t c208 hf
              refine r_aload_n (pc := 761) hC dL_law_761 rfl 5 rfl ?_
              refine r_iconst (pc := 762) (v := 0) hC dL_law_762 (by decide) ?_
              obtain ⟨v206, ev206, hf⟩ := pb hf
              refine r_laload (pc := 763) hC dL_law_763 ev206 ?_
              refine r_iload (pc := 764) hC dL_law_764 0 rfl ?_
              refine r_i2l (pc := 766) hC dL_law_766 ?_
              refine r_lcmp (pc := 767) hC dL_law_767 ?_
              refine r_if_eq (pc := 768) (tgt := 773) hC dL_law_768 (by decide) (fun c207 => ?_) (fun c207 => ?_)
              · replace hf := pi_t c207 hf
                refine r_goto (pc := 773) (tgt := 1413) hC dL_law_773 (by decide) ?_
                refine r_iinc (pc := 1413) (pos := 6) (v := (z6.2 + 4)) (lv' := [(4, DI (z6.2 + 4)), (6, DI q203.1), (5, DI k198), (0, DR (some b)), (1, DR (some st.1)), (2, DR (some q2.1)), (3, DR (some q4.1))]) hC hN dL_law_1413 rfl rfl (by decide) rfl ?_
                refine r_goto (pc := 1416) (tgt := 23) hC dL_law_1416 (by decide) ?_
                exact dm_sub [3, 4, 5, 6, 0] rfl (ih (q203.2, (z6.2 + 4)) _ _ hf (by omega) (by omega))
              · replace hf := pi_f c207 hf
                refine r_iconst (pc := 771) (v := 0) hC dL_law_771 (by decide) ?_
                exact absurd hf (by decide)
          · replace hf := pi_f c209 hf
            refine r_iconst (pc := 754) (v := 0) hC dL_law_754 (by decide) ?_
            exact absurd hf (by decide)
        replace hf := pi_f c16 hf
        by_cases c17 : (v7 &&& 31) = 9
        · replace hf := pi_t c17 hf
          refine r_tswIn (pc := 39) (off := 737) (tgt := 776) hC dL_law_39 (by rw [c17]; decide) (by rw [c17]; decide) (by rw [c17]; rfl) (by decide) ?_
          refine r_aload_n (pc := 776) hC dL_law_776 rfl 1 rfl ?_
          obtain ⟨b210, gb210, hf⟩ := pb hf
          obtain ⟨q211, eq211, hf⟩ := pb hf
          refine r_callV (pc := 777) (As := []) (rest := []) (stk' := [DI q211.1]) (k1_X4_fill eq211) gb210 rfl hC wd_1_77 wd_1_78 wd_1_79 wd_1_80 wd_1_1 md_X4_fill rfl ⟨rfl, rfl, Nat.le_of_ble_eq_true rfl, Nat.le_of_ble_eq_true rfl, by show _ ≤ 897345; omega, by show _ ≤ 6404068; omega⟩ dL_law_777 rfl (Nat.le_of_ble_eq_true rfl) rfl ?_
          refine r_aload_n (pc := 780) hC dL_law_780 rfl 2 rfl ?_
          obtain ⟨b212, gb212, hf⟩ := pb hf
          obtain ⟨q213, eq213, hf⟩ := pb hf
          refine r_callV (pc := 781) (As := []) (rest := [DI q211.1]) (stk' := [DI q213.1, DI q211.1]) (k1_X5_fill eq213) gb212 rfl hC wd_4_14 wd_4_15 wd_4_16 wd_4_17 wd_1_3 md_X5_fill rfl ⟨rfl, rfl, Nat.le_of_ble_eq_true rfl, Nat.le_of_ble_eq_true rfl, by show _ ≤ 897345; omega, by show _ ≤ 6404068; omega⟩ dL_law_781 rfl (Nat.le_of_ble_eq_true rfl) rfl ?_
          refine r_icmp_eq (pc := 784) (tgt := 1413) hC dL_law_784 (by decide) (fun c214 => ?_) (fun c214 => ?_)
          · replace hf := pi_t c214 hf
            refine r_iinc (pc := 1413) (pos := 4) (v := (z6.2 + 4)) (lv' := [(4, DI (z6.2 + 4)), (0, DR (some b)), (1, DR (some st.1)), (2, DR (some q2.1)), (3, DR (some q4.1))]) hC hN dL_law_1413 rfl rfl (by decide) rfl ?_
            refine r_goto (pc := 1416) (tgt := 23) hC dL_law_1416 (by decide) ?_
            exact dm_sub [1, 2, 3, 4, 0] rfl (ih (q213.2, (z6.2 + 4)) _ _ hf (by omega) (by omega))
          · replace hf := pi_f c214 hf
            refine r_iconst (pc := 787) (v := 0) hC dL_law_787 (by decide) ?_
            exact absurd hf (by decide)
        replace hf := pi_f c17 hf
        by_cases c18 : (v7 &&& 31) = 10
        · replace hf := pi_t c18 hf
          refine r_tswIn (pc := 39) (off := 750) (tgt := 789) hC dL_law_39 (by rw [c18]; decide) (by rw [c18]; decide) (by rw [c18]; rfl) (by decide) ?_
          refine r_aload_n (pc := 789) hC dL_law_789 rfl 1 rfl ?_
          refine r_aload_n (pc := 790) hC dL_law_790 rfl 0 rfl ?_
          refine r_iload (pc := 791) hC dL_law_791 4 rfl ?_
          refine r_iconst (pc := 793) (v := 1) hC dL_law_793 (by decide) ?_
          refine r_iadd (pc := 794) hC dL_law_794 ?_
          obtain ⟨v215, ev215, hf⟩ := pb hf
          refine r_sld (pc := 795) hLE hC dL_law_795 ev215 ?_
          refine r_aload_n (pc := 796) hC dL_law_796 rfl 0 rfl ?_
          refine r_iload (pc := 797) hC dL_law_797 4 rfl ?_
          refine r_iconst (pc := 799) (v := 2) hC dL_law_799 (by decide) ?_
          refine r_iadd (pc := 800) hC dL_law_800 ?_
          obtain ⟨v216, ev216, hf⟩ := pb hf
          refine r_sld (pc := 801) hLE hC dL_law_801 ev216 ?_
          refine r_aload_n (pc := 802) hC dL_law_802 rfl 3 rfl ?_
          obtain ⟨b217, gb217, hf⟩ := pb hf
          obtain ⟨r218, er218, okr218, hf⟩ := hf
          refine r_callSW (pc := 803) (As := [DR (some st.1), DI v215, DI v216, DR (some q4.1)]) (rest := []) (kw_L_pass gb217 er218 okr218) hC wd_3_32 wd_3_33 wd_3_34 wd_1_0 md_L_pass rfl ⟨rfl, rfl, Nat.le_of_ble_eq_true rfl, Nat.le_of_ble_eq_true rfl, by show _ ≤ 897345; omega, by show _ ≤ 6404068; omega⟩ dL_law_803 rfl (Nat.le_of_ble_eq_true rfl) (fun rv u220 hF hdom => ?_)
          obtain ⟨k219, rfl⟩ := wr_int hF
          replace hf := hf k219 u220 hF hdom
          refine dm_to (pc' := 806) (stk' := [DI k219]) rfl rfl ?_
          refine r_istore (pc := 806) (lv' := [(5, DI k219), (0, DR (some b)), (1, DR (some st.1)), (2, DR (some q2.1)), (3, DR (some q4.1)), (4, DI z6.2)]) hC hN dL_law_806 (by decide) rfl ?_
          refine r_aload_n (pc := 808) hC dL_law_808 rfl 3 rfl ?_
          refine r_aload_n (pc := 809) hC dL_law_809 rfl 1 rfl ?_
          refine r_iload (pc := 810) hC dL_law_810 5 rfl ?_
          refine r_iconst (pc := 812) (v := 1) hC dL_law_812 (by decide) ?_
          refine r_iadd (pc := 813) hC dL_law_813 ?_
          obtain ⟨v221, ev221, hf⟩ := pb hf
          refine r_sld (pc := 814) hLE hC dL_law_814 ev221 ?_
          refine r_aload_n (pc := 815) hC dL_law_815 rfl 1 rfl ?_
          refine r_iload (pc := 816) hC dL_law_816 5 rfl ?_
          refine r_iconst (pc := 818) (v := 2) hC dL_law_818 (by decide) ?_
          refine r_iadd (pc := 819) hC dL_law_819 ?_
          obtain ⟨v222, ev222, hf⟩ := pb hf
          refine r_sld (pc := 820) hLE hC dL_law_820 ev222 ?_
          obtain ⟨b223, gb223, hf⟩ := pb hf
          obtain ⟨q224, eq224, hf⟩ := pb hf
          refine r_callV (pc := 821) (As := [DI v221, DI v222]) (rest := []) (stk' := [DI q224.1]) (k1_X5_pass eq224) gb223 rfl hC wd_4_34 wd_4_35 wd_4_36 wd_4_37 wd_1_3 md_X5_pass rfl ⟨rfl, rfl, Nat.le_of_ble_eq_true rfl, Nat.le_of_ble_eq_true rfl, by show _ ≤ 897345; omega, by show _ ≤ 6404068; omega⟩ dL_law_821 rfl (Nat.le_of_ble_eq_true rfl) rfl ?_
          refine r_istore (pc := 824) (lv' := [(6, DI q224.1), (5, DI k219), (0, DR (some b)), (1, DR (some st.1)), (2, DR (some q2.1)), (3, DR (some q4.1)), (4, DI z6.2)]) hC hN dL_law_824 (by decide) rfl ?_
          refine r_aload_n (pc := 826) hC dL_law_826 rfl 4 rfl ?_
          obtain ⟨b225, gb225, hf⟩ := pb hf
          obtain ⟨q226, eq226, hf⟩ := pb hf
          refine r_callV (pc := 827) (As := []) (rest := []) (stk' := [DI q226]) (k1_X5_thrown eq226) gb225 rfl hC wd_3_139 wd_3_140 wd_3_141 wd_3_142 wd_1_3 md_X5_thrown rfl ⟨rfl, rfl, Nat.le_of_ble_eq_true rfl, Nat.le_of_ble_eq_true rfl, by show _ ≤ 897345; omega, by show _ ≤ 6404068; omega⟩ dL_law_827 rfl (Nat.le_of_ble_eq_true rfl) rfl ?_
          refine r_iload (pc := 830) hC dL_law_830 1 rfl ?_
          refine r_icmp_eq (pc := 832) (tgt := 837) hC dL_law_832 (by decide) (fun c230 => ?_) (fun c230 => ?_)
          · replace hf := pi_t c230 hf
            refine r_iload (pc := 837) hC dL_law_837 1 rfl ?_
            refine r_if_ne (pc := 839) (tgt := 854) hC dL_law_839 (by decide) (fun c229 => ?_) (fun c229 => ?_)
            · replace hf := pi_f c229 hf
              refine r_goto (pc := 854) (tgt := 1413) hC dL_law_854 (by decide) ?_
              refine r_iinc (pc := 1413) (pos := 6) (v := (z6.2 + 4)) (lv' := [(4, DI (z6.2 + 4)), (6, DI q224.1), (5, DI k219), (0, DR (some b)), (1, DR (some st.1)), (2, DR (some q2.1)), (3, DR (some q4.1))]) hC hN dL_law_1413 rfl rfl (by decide) rfl ?_
              refine r_goto (pc := 1416) (tgt := 23) hC dL_law_1416 (by decide) ?_
              exact dm_sub [3, 4, 5, 6, 0] rfl (ih (q224.2, (z6.2 + 4)) _ _ hf (by omega) (by omega))
            · replace hf := pi_t c229 hf
              refine r_aload_n (pc := 842) hC dL_law_842 rfl 5 rfl ?_
              refine r_iconst (pc := 843) (v := 0) hC dL_law_843 (by decide) ?_
              obtain ⟨v227, ev227, hf⟩ := pb hf
              refine r_laload (pc := 844) hC dL_law_844 ev227 ?_
              refine r_iload (pc := 845) hC dL_law_845 0 rfl ?_
              refine r_i2l (pc := 847) hC dL_law_847 ?_
              refine r_lcmp (pc := 848) hC dL_law_848 ?_
              refine r_if_eq (pc := 849) (tgt := 854) hC dL_law_849 (by decide) (fun c228 => ?_) (fun c228 => ?_)
              · replace hf := pi_t c228 hf
                refine r_goto (pc := 854) (tgt := 1413) hC dL_law_854 (by decide) ?_
                refine r_iinc (pc := 1413) (pos := 6) (v := (z6.2 + 4)) (lv' := [(4, DI (z6.2 + 4)), (6, DI q224.1), (5, DI k219), (0, DR (some b)), (1, DR (some st.1)), (2, DR (some q2.1)), (3, DR (some q4.1))]) hC hN dL_law_1413 rfl rfl (by decide) rfl ?_
                refine r_goto (pc := 1416) (tgt := 23) hC dL_law_1416 (by decide) ?_
                exact dm_sub [3, 4, 5, 6, 0] rfl (ih (q224.2, (z6.2 + 4)) _ _ hf (by omega) (by omega))
              · replace hf := pi_f c228 hf
                refine r_iconst (pc := 852) (v := 0) hC dL_law_852 (by decide) ?_
                exact absurd hf (by decide)
          · replace hf := pi_f c230 hf
            refine r_iconst (pc := 835) (v := 0) hC dL_law_835 (by decide) ?_
            exact absurd hf (by decide)
        replace hf := pi_f c18 hf
        by_cases c19 : (v7 &&& 31) = 11
        · replace hf := pi_t c19 hf
          refine r_tswIn (pc := 39) (off := 818) (tgt := 857) hC dL_law_39 (by rw [c19]; decide) (by rw [c19]; decide) (by rw [c19]; rfl) (by decide) ?_
          refine r_aload_n (pc := 857) hC dL_law_857 rfl 1 rfl ?_
          refine r_aload_n (pc := 858) hC dL_law_858 rfl 0 rfl ?_
          refine r_iload (pc := 859) hC dL_law_859 4 rfl ?_
          refine r_iconst (pc := 861) (v := 1) hC dL_law_861 (by decide) ?_
          refine r_iadd (pc := 862) hC dL_law_862 ?_
          obtain ⟨v231, ev231, hf⟩ := pb hf
          refine r_sld (pc := 863) hLE hC dL_law_863 ev231 ?_
          refine r_aload_n (pc := 864) hC dL_law_864 rfl 0 rfl ?_
          refine r_iload (pc := 865) hC dL_law_865 4 rfl ?_
          refine r_iconst (pc := 867) (v := 2) hC dL_law_867 (by decide) ?_
          refine r_iadd (pc := 868) hC dL_law_868 ?_
          obtain ⟨v232, ev232, hf⟩ := pb hf
          refine r_sld (pc := 869) hLE hC dL_law_869 ev232 ?_
          refine r_aload_n (pc := 870) hC dL_law_870 rfl 3 rfl ?_
          obtain ⟨b233, gb233, hf⟩ := pb hf
          obtain ⟨r234, er234, okr234, hf⟩ := hf
          refine r_callSW (pc := 871) (As := [DR (some st.1), DI v231, DI v232, DR (some q4.1)]) (rest := []) (kw_L_told gb233 er234 okr234) hC wd_3_53 wd_3_54 wd_3_55 wd_1_0 md_L_told rfl ⟨rfl, rfl, Nat.le_of_ble_eq_true rfl, Nat.le_of_ble_eq_true rfl, by show _ ≤ 897345; omega, by show _ ≤ 6404068; omega⟩ dL_law_871 rfl (Nat.le_of_ble_eq_true rfl) (fun rv u236 hF hdom => ?_)
          obtain ⟨k235, rfl⟩ := wr_int hF
          replace hf := hf k235 u236 hF hdom
          refine dm_to (pc' := 874) (stk' := [DI k235]) rfl rfl ?_
          refine r_istore (pc := 874) (lv' := [(5, DI k235), (0, DR (some b)), (1, DR (some st.1)), (2, DR (some q2.1)), (3, DR (some q4.1)), (4, DI z6.2)]) hC hN dL_law_874 (by decide) rfl ?_
          refine r_aload_n (pc := 876) hC dL_law_876 rfl 3 rfl ?_
          refine r_aload_n (pc := 877) hC dL_law_877 rfl 1 rfl ?_
          refine r_iload (pc := 878) hC dL_law_878 5 rfl ?_
          refine r_iconst (pc := 880) (v := 1) hC dL_law_880 (by decide) ?_
          refine r_iadd (pc := 881) hC dL_law_881 ?_
          obtain ⟨v237, ev237, hf⟩ := pb hf
          refine r_sld (pc := 882) hLE hC dL_law_882 ev237 ?_
          refine r_aload_n (pc := 883) hC dL_law_883 rfl 1 rfl ?_
          refine r_iload (pc := 884) hC dL_law_884 5 rfl ?_
          refine r_iconst (pc := 886) (v := 2) hC dL_law_886 (by decide) ?_
          refine r_iadd (pc := 887) hC dL_law_887 ?_
          obtain ⟨v238, ev238, hf⟩ := pb hf
          refine r_sld (pc := 888) hLE hC dL_law_888 ev238 ?_
          obtain ⟨b239, gb239, hf⟩ := pb hf
          obtain ⟨q240, eq240, hf⟩ := pb hf
          refine r_callV (pc := 889) (As := [DI v237, DI v238]) (rest := []) (stk' := [DI q240.1]) (k1_X5_told eq240) gb239 rfl hC wd_4_46 wd_4_47 wd_4_48 wd_4_49 wd_1_3 md_X5_told rfl ⟨rfl, rfl, Nat.le_of_ble_eq_true rfl, Nat.le_of_ble_eq_true rfl, by show _ ≤ 897345; omega, by show _ ≤ 6404068; omega⟩ dL_law_889 rfl (Nat.le_of_ble_eq_true rfl) rfl ?_
          refine r_istore (pc := 892) (lv' := [(6, DI q240.1), (5, DI k235), (0, DR (some b)), (1, DR (some st.1)), (2, DR (some q2.1)), (3, DR (some q4.1)), (4, DI z6.2)]) hC hN dL_law_892 (by decide) rfl ?_
          refine r_aload_n (pc := 894) hC dL_law_894 rfl 4 rfl ?_
          obtain ⟨b241, gb241, hf⟩ := pb hf
          obtain ⟨q242, eq242, hf⟩ := pb hf
          refine r_callV (pc := 895) (As := []) (rest := []) (stk' := [DI q242]) (k1_X5_thrown eq242) gb241 rfl hC wd_3_139 wd_3_140 wd_3_141 wd_3_142 wd_1_3 md_X5_thrown rfl ⟨rfl, rfl, Nat.le_of_ble_eq_true rfl, Nat.le_of_ble_eq_true rfl, by show _ ≤ 897345; omega, by show _ ≤ 6404068; omega⟩ dL_law_895 rfl (Nat.le_of_ble_eq_true rfl) rfl ?_
          refine r_iload (pc := 898) hC dL_law_898 1 rfl ?_
          refine r_icmp_eq (pc := 900) (tgt := 905) hC dL_law_900 (by decide) (fun c246 => ?_) (fun c246 => ?_)
          · replace hf := pi_t c246 hf
            refine r_iload (pc := 905) hC dL_law_905 1 rfl ?_
            refine r_if_ne (pc := 907) (tgt := 922) hC dL_law_907 (by decide) (fun c245 => ?_) (fun c245 => ?_)
            · replace hf := pi_f c245 hf
              refine r_goto (pc := 922) (tgt := 1413) hC dL_law_922 (by decide) ?_
              refine r_iinc (pc := 1413) (pos := 6) (v := (z6.2 + 4)) (lv' := [(4, DI (z6.2 + 4)), (6, DI q240.1), (5, DI k235), (0, DR (some b)), (1, DR (some st.1)), (2, DR (some q2.1)), (3, DR (some q4.1))]) hC hN dL_law_1413 rfl rfl (by decide) rfl ?_
              refine r_goto (pc := 1416) (tgt := 23) hC dL_law_1416 (by decide) ?_
              exact dm_sub [3, 4, 5, 6, 0] rfl (ih (q240.2, (z6.2 + 4)) _ _ hf (by omega) (by omega))
            · replace hf := pi_t c245 hf
              refine r_aload_n (pc := 910) hC dL_law_910 rfl 5 rfl ?_
              refine r_iconst (pc := 911) (v := 0) hC dL_law_911 (by decide) ?_
              obtain ⟨v243, ev243, hf⟩ := pb hf
              refine r_laload (pc := 912) hC dL_law_912 ev243 ?_
              refine r_iload (pc := 913) hC dL_law_913 0 rfl ?_
              refine r_i2l (pc := 915) hC dL_law_915 ?_
              refine r_lcmp (pc := 916) hC dL_law_916 ?_
              refine r_if_eq (pc := 917) (tgt := 922) hC dL_law_917 (by decide) (fun c244 => ?_) (fun c244 => ?_)
              · replace hf := pi_t c244 hf
                refine r_goto (pc := 922) (tgt := 1413) hC dL_law_922 (by decide) ?_
                refine r_iinc (pc := 1413) (pos := 6) (v := (z6.2 + 4)) (lv' := [(4, DI (z6.2 + 4)), (6, DI q240.1), (5, DI k235), (0, DR (some b)), (1, DR (some st.1)), (2, DR (some q2.1)), (3, DR (some q4.1))]) hC hN dL_law_1413 rfl rfl (by decide) rfl ?_
                refine r_goto (pc := 1416) (tgt := 23) hC dL_law_1416 (by decide) ?_
                exact dm_sub [3, 4, 5, 6, 0] rfl (ih (q240.2, (z6.2 + 4)) _ _ hf (by omega) (by omega))
              · replace hf := pi_f c244 hf
                refine r_iconst (pc := 920) (v := 0) hC dL_law_920 (by decide) ?_
                exact absurd hf (by decide)
          · replace hf := pi_f c246 hf
            refine r_iconst (pc := 903) (v := 0) hC dL_law_903 (by decide) ?_
            exact absurd hf (by decide)
        replace hf := pi_f c19 hf
        by_cases c20 : (v7 &&& 31) = 12
        · replace hf := pi_t c20 hf
          refine r_tswIn (pc := 39) (off := 886) (tgt := 925) hC dL_law_39 (by rw [c20]; decide) (by rw [c20]; decide) (by rw [c20]; rfl) (by decide) ?_
          refine r_aload_n (pc := 925) hC dL_law_925 rfl 1 rfl ?_
          refine r_aload_n (pc := 926) hC dL_law_926 rfl 0 rfl ?_
          refine r_iload (pc := 927) hC dL_law_927 4 rfl ?_
          refine r_iconst (pc := 929) (v := 1) hC dL_law_929 (by decide) ?_
          refine r_iadd (pc := 930) hC dL_law_930 ?_
          obtain ⟨v247, ev247, hf⟩ := pb hf
          refine r_sld (pc := 931) hLE hC dL_law_931 ev247 ?_
          refine r_aload_n (pc := 932) hC dL_law_932 rfl 0 rfl ?_
          refine r_iload (pc := 933) hC dL_law_933 4 rfl ?_
          refine r_iconst (pc := 935) (v := 2) hC dL_law_935 (by decide) ?_
          refine r_iadd (pc := 936) hC dL_law_936 ?_
          obtain ⟨v248, ev248, hf⟩ := pb hf
          refine r_sld (pc := 937) hLE hC dL_law_937 ev248 ?_
          refine r_aload_n (pc := 938) hC dL_law_938 rfl 3 rfl ?_
          obtain ⟨b249, gb249, hf⟩ := pb hf
          obtain ⟨r250, er250, okr250, hf⟩ := hf
          refine r_callSW (pc := 939) (As := [DR (some st.1), DI v247, DI v248, DR (some q4.1)]) (rest := []) (kw_L_about gb249 er250 okr250) hC wd_3_57 wd_3_58 wd_3_59 wd_1_0 md_L_about rfl ⟨rfl, rfl, Nat.le_of_ble_eq_true rfl, Nat.le_of_ble_eq_true rfl, by show _ ≤ 897345; omega, by show _ ≤ 6404068; omega⟩ dL_law_939 rfl (Nat.le_of_ble_eq_true rfl) (fun rv u252 hF hdom => ?_)
          obtain ⟨k251, rfl⟩ := wr_int hF
          replace hf := hf k251 u252 hF hdom
          refine dm_to (pc' := 942) (stk' := [DI k251]) rfl rfl ?_
          refine r_istore (pc := 942) (lv' := [(5, DI k251), (0, DR (some b)), (1, DR (some st.1)), (2, DR (some q2.1)), (3, DR (some q4.1)), (4, DI z6.2)]) hC hN dL_law_942 (by decide) rfl ?_
          refine r_aload_n (pc := 944) hC dL_law_944 rfl 3 rfl ?_
          refine r_aload_n (pc := 945) hC dL_law_945 rfl 1 rfl ?_
          refine r_iload (pc := 946) hC dL_law_946 5 rfl ?_
          refine r_iconst (pc := 948) (v := 1) hC dL_law_948 (by decide) ?_
          refine r_iadd (pc := 949) hC dL_law_949 ?_
          obtain ⟨v253, ev253, hf⟩ := pb hf
          refine r_sld (pc := 950) hLE hC dL_law_950 ev253 ?_
          refine r_aload_n (pc := 951) hC dL_law_951 rfl 1 rfl ?_
          refine r_iload (pc := 952) hC dL_law_952 5 rfl ?_
          refine r_iconst (pc := 954) (v := 2) hC dL_law_954 (by decide) ?_
          refine r_iadd (pc := 955) hC dL_law_955 ?_
          obtain ⟨v254, ev254, hf⟩ := pb hf
          refine r_sld (pc := 956) hLE hC dL_law_956 ev254 ?_
          obtain ⟨b255, gb255, hf⟩ := pb hf
          obtain ⟨q256, eq256, hf⟩ := pb hf
          refine r_callV (pc := 957) (As := [DI v253, DI v254]) (rest := []) (stk' := [DI q256.1]) (k1_X5_about eq256) gb255 rfl hC wd_4_54 wd_4_55 wd_4_56 wd_4_57 wd_1_3 md_X5_about rfl ⟨rfl, rfl, Nat.le_of_ble_eq_true rfl, Nat.le_of_ble_eq_true rfl, by show _ ≤ 897345; omega, by show _ ≤ 6404068; omega⟩ dL_law_957 rfl (Nat.le_of_ble_eq_true rfl) rfl ?_
          refine r_istore (pc := 960) (lv' := [(6, DI q256.1), (5, DI k251), (0, DR (some b)), (1, DR (some st.1)), (2, DR (some q2.1)), (3, DR (some q4.1)), (4, DI z6.2)]) hC hN dL_law_960 (by decide) rfl ?_
          refine r_aload_n (pc := 962) hC dL_law_962 rfl 4 rfl ?_
          obtain ⟨b257, gb257, hf⟩ := pb hf
          obtain ⟨q258, eq258, hf⟩ := pb hf
          refine r_callV (pc := 963) (As := []) (rest := []) (stk' := [DI q258]) (k1_X5_thrown eq258) gb257 rfl hC wd_3_139 wd_3_140 wd_3_141 wd_3_142 wd_1_3 md_X5_thrown rfl ⟨rfl, rfl, Nat.le_of_ble_eq_true rfl, Nat.le_of_ble_eq_true rfl, by show _ ≤ 897345; omega, by show _ ≤ 6404068; omega⟩ dL_law_963 rfl (Nat.le_of_ble_eq_true rfl) rfl ?_
          refine r_iload (pc := 966) hC dL_law_966 1 rfl ?_
          refine r_icmp_eq (pc := 968) (tgt := 973) hC dL_law_968 (by decide) (fun c262 => ?_) (fun c262 => ?_)
          · replace hf := pi_t c262 hf
            refine r_iload (pc := 973) hC dL_law_973 1 rfl ?_
            refine r_if_ne (pc := 975) (tgt := 990) hC dL_law_975 (by decide) (fun c261 => ?_) (fun c261 => ?_)
            · replace hf := pi_f c261 hf
              refine r_goto (pc := 990) (tgt := 1413) hC dL_law_990 (by decide) ?_
              refine r_iinc (pc := 1413) (pos := 6) (v := (z6.2 + 4)) (lv' := [(4, DI (z6.2 + 4)), (6, DI q256.1), (5, DI k251), (0, DR (some b)), (1, DR (some st.1)), (2, DR (some q2.1)), (3, DR (some q4.1))]) hC hN dL_law_1413 rfl rfl (by decide) rfl ?_
              refine r_goto (pc := 1416) (tgt := 23) hC dL_law_1416 (by decide) ?_
              exact dm_sub [3, 4, 5, 6, 0] rfl (ih (q256.2, (z6.2 + 4)) _ _ hf (by omega) (by omega))
            · replace hf := pi_t c261 hf
              refine r_aload_n (pc := 978) hC dL_law_978 rfl 5 rfl ?_
              refine r_iconst (pc := 979) (v := 0) hC dL_law_979 (by decide) ?_
              obtain ⟨v259, ev259, hf⟩ := pb hf
              refine r_laload (pc := 980) hC dL_law_980 ev259 ?_
              refine r_iload (pc := 981) hC dL_law_981 0 rfl ?_
              refine r_i2l (pc := 983) hC dL_law_983 ?_
              refine r_lcmp (pc := 984) hC dL_law_984 ?_
              refine r_if_eq (pc := 985) (tgt := 990) hC dL_law_985 (by decide) (fun c260 => ?_) (fun c260 => ?_)
              · replace hf := pi_t c260 hf
                refine r_goto (pc := 990) (tgt := 1413) hC dL_law_990 (by decide) ?_
                refine r_iinc (pc := 1413) (pos := 6) (v := (z6.2 + 4)) (lv' := [(4, DI (z6.2 + 4)), (6, DI q256.1), (5, DI k251), (0, DR (some b)), (1, DR (some st.1)), (2, DR (some q2.1)), (3, DR (some q4.1))]) hC hN dL_law_1413 rfl rfl (by decide) rfl ?_
                refine r_goto (pc := 1416) (tgt := 23) hC dL_law_1416 (by decide) ?_
                exact dm_sub [3, 4, 5, 6, 0] rfl (ih (q256.2, (z6.2 + 4)) _ _ hf (by omega) (by omega))
              · replace hf := pi_f c260 hf
                refine r_iconst (pc := 988) (v := 0) hC dL_law_988 (by decide) ?_
                exact absurd hf (by decide)
          · replace hf := pi_f c262 hf
            refine r_iconst (pc := 971) (v := 0) hC dL_law_971 (by decide) ?_
            exact absurd hf (by decide)
        replace hf := pi_f c20 hf
        by_cases c21 : (v7 &&& 31) = 13
        · replace hf := pi_t c21 hf
          refine r_tswIn (pc := 39) (off := 954) (tgt := 993) hC dL_law_39 (by rw [c21]; decide) (by rw [c21]; decide) (by rw [c21]; rfl) (by decide) ?_
          refine r_aload_n (pc := 993) hC dL_law_993 rfl 1 rfl ?_
          refine r_aload_n (pc := 994) hC dL_law_994 rfl 0 rfl ?_
          refine r_iload (pc := 995) hC dL_law_995 4 rfl ?_
          refine r_iconst (pc := 997) (v := 1) hC dL_law_997 (by decide) ?_
          refine r_iadd (pc := 998) hC dL_law_998 ?_
          obtain ⟨v263, ev263, hf⟩ := pb hf
          refine r_sld (pc := 999) hLE hC dL_law_999 ev263 ?_
          refine r_aload_n (pc := 1000) hC dL_law_1000 rfl 0 rfl ?_
          refine r_iload (pc := 1001) hC dL_law_1001 4 rfl ?_
          refine r_iconst (pc := 1003) (v := 2) hC dL_law_1003 (by decide) ?_
          refine r_iadd (pc := 1004) hC dL_law_1004 ?_
          obtain ⟨v264, ev264, hf⟩ := pb hf
          refine r_sld (pc := 1005) hLE hC dL_law_1005 ev264 ?_
          refine r_aload_n (pc := 1006) hC dL_law_1006 rfl 3 rfl ?_
          obtain ⟨b265, gb265, hf⟩ := pb hf
          obtain ⟨r266, er266, okr266, hf⟩ := hf
          refine r_callSW (pc := 1007) (As := [DR (some st.1), DI v263, DI v264, DR (some q4.1)]) (rest := []) (kw_L_order gb265 er266 okr266) hC wd_3_61 wd_3_62 wd_3_63 wd_1_0 md_L_order rfl ⟨rfl, rfl, Nat.le_of_ble_eq_true rfl, Nat.le_of_ble_eq_true rfl, by show _ ≤ 897345; omega, by show _ ≤ 6404068; omega⟩ dL_law_1007 rfl (Nat.le_of_ble_eq_true rfl) (fun rv u268 hF hdom => ?_)
          obtain ⟨k267, rfl⟩ := wr_int hF
          replace hf := hf k267 u268 hF hdom
          refine dm_to (pc' := 1010) (stk' := [DI k267]) rfl rfl ?_
          refine r_istore (pc := 1010) (lv' := [(5, DI k267), (0, DR (some b)), (1, DR (some st.1)), (2, DR (some q2.1)), (3, DR (some q4.1)), (4, DI z6.2)]) hC hN dL_law_1010 (by decide) rfl ?_
          refine r_aload_n (pc := 1012) hC dL_law_1012 rfl 3 rfl ?_
          refine r_aload_n (pc := 1013) hC dL_law_1013 rfl 1 rfl ?_
          refine r_iload (pc := 1014) hC dL_law_1014 5 rfl ?_
          refine r_iconst (pc := 1016) (v := 1) hC dL_law_1016 (by decide) ?_
          refine r_iadd (pc := 1017) hC dL_law_1017 ?_
          obtain ⟨v269, ev269, hf⟩ := pb hf
          refine r_sld (pc := 1018) hLE hC dL_law_1018 ev269 ?_
          refine r_aload_n (pc := 1019) hC dL_law_1019 rfl 1 rfl ?_
          refine r_iload (pc := 1020) hC dL_law_1020 5 rfl ?_
          refine r_iconst (pc := 1022) (v := 2) hC dL_law_1022 (by decide) ?_
          refine r_iadd (pc := 1023) hC dL_law_1023 ?_
          obtain ⟨v270, ev270, hf⟩ := pb hf
          refine r_sld (pc := 1024) hLE hC dL_law_1024 ev270 ?_
          obtain ⟨b271, gb271, hf⟩ := pb hf
          obtain ⟨q272, eq272, hf⟩ := pb hf
          refine r_callV (pc := 1025) (As := [DI v269, DI v270]) (rest := []) (stk' := [DI q272.1]) (k1_X5_order eq272) gb271 rfl hC wd_4_62 wd_4_63 wd_4_64 wd_4_65 wd_1_3 md_X5_order rfl ⟨rfl, rfl, Nat.le_of_ble_eq_true rfl, Nat.le_of_ble_eq_true rfl, by show _ ≤ 897345; omega, by show _ ≤ 6404068; omega⟩ dL_law_1025 rfl (Nat.le_of_ble_eq_true rfl) rfl ?_
          refine r_istore (pc := 1028) (lv' := [(6, DI q272.1), (5, DI k267), (0, DR (some b)), (1, DR (some st.1)), (2, DR (some q2.1)), (3, DR (some q4.1)), (4, DI z6.2)]) hC hN dL_law_1028 (by decide) rfl ?_
          refine r_aload_n (pc := 1030) hC dL_law_1030 rfl 4 rfl ?_
          obtain ⟨b273, gb273, hf⟩ := pb hf
          obtain ⟨q274, eq274, hf⟩ := pb hf
          refine r_callV (pc := 1031) (As := []) (rest := []) (stk' := [DI q274]) (k1_X5_thrown eq274) gb273 rfl hC wd_3_139 wd_3_140 wd_3_141 wd_3_142 wd_1_3 md_X5_thrown rfl ⟨rfl, rfl, Nat.le_of_ble_eq_true rfl, Nat.le_of_ble_eq_true rfl, by show _ ≤ 897345; omega, by show _ ≤ 6404068; omega⟩ dL_law_1031 rfl (Nat.le_of_ble_eq_true rfl) rfl ?_
          refine r_iload (pc := 1034) hC dL_law_1034 1 rfl ?_
          refine r_icmp_eq (pc := 1036) (tgt := 1041) hC dL_law_1036 (by decide) (fun c278 => ?_) (fun c278 => ?_)
          · replace hf := pi_t c278 hf
            refine r_iload (pc := 1041) hC dL_law_1041 1 rfl ?_
            refine r_if_ne (pc := 1043) (tgt := 1058) hC dL_law_1043 (by decide) (fun c277 => ?_) (fun c277 => ?_)
            · replace hf := pi_f c277 hf
              refine r_goto (pc := 1058) (tgt := 1413) hC dL_law_1058 (by decide) ?_
              refine r_iinc (pc := 1413) (pos := 6) (v := (z6.2 + 4)) (lv' := [(4, DI (z6.2 + 4)), (6, DI q272.1), (5, DI k267), (0, DR (some b)), (1, DR (some st.1)), (2, DR (some q2.1)), (3, DR (some q4.1))]) hC hN dL_law_1413 rfl rfl (by decide) rfl ?_
              refine r_goto (pc := 1416) (tgt := 23) hC dL_law_1416 (by decide) ?_
              exact dm_sub [3, 4, 5, 6, 0] rfl (ih (q272.2, (z6.2 + 4)) _ _ hf (by omega) (by omega))
            · replace hf := pi_t c277 hf
              refine r_aload_n (pc := 1046) hC dL_law_1046 rfl 5 rfl ?_
              refine r_iconst (pc := 1047) (v := 0) hC dL_law_1047 (by decide) ?_
              obtain ⟨v275, ev275, hf⟩ := pb hf
              refine r_laload (pc := 1048) hC dL_law_1048 ev275 ?_
              refine r_iload (pc := 1049) hC dL_law_1049 0 rfl ?_
              refine r_i2l (pc := 1051) hC dL_law_1051 ?_
              refine r_lcmp (pc := 1052) hC dL_law_1052 ?_
              refine r_if_eq (pc := 1053) (tgt := 1058) hC dL_law_1053 (by decide) (fun c276 => ?_) (fun c276 => ?_)
              · replace hf := pi_t c276 hf
                refine r_goto (pc := 1058) (tgt := 1413) hC dL_law_1058 (by decide) ?_
                refine r_iinc (pc := 1413) (pos := 6) (v := (z6.2 + 4)) (lv' := [(4, DI (z6.2 + 4)), (6, DI q272.1), (5, DI k267), (0, DR (some b)), (1, DR (some st.1)), (2, DR (some q2.1)), (3, DR (some q4.1))]) hC hN dL_law_1413 rfl rfl (by decide) rfl ?_
                refine r_goto (pc := 1416) (tgt := 23) hC dL_law_1416 (by decide) ?_
                exact dm_sub [3, 4, 5, 6, 0] rfl (ih (q272.2, (z6.2 + 4)) _ _ hf (by omega) (by omega))
              · replace hf := pi_f c276 hf
                refine r_iconst (pc := 1056) (v := 0) hC dL_law_1056 (by decide) ?_
                exact absurd hf (by decide)
          · replace hf := pi_f c278 hf
            refine r_iconst (pc := 1039) (v := 0) hC dL_law_1039 (by decide) ?_
            exact absurd hf (by decide)
        replace hf := pi_f c21 hf
        by_cases c22 : (v7 &&& 31) = 14
        · replace hf := pi_t c22 hf
          refine r_tswIn (pc := 39) (off := 1022) (tgt := 1061) hC dL_law_39 (by rw [c22]; decide) (by rw [c22]; decide) (by rw [c22]; rfl) (by decide) ?_
          refine r_aload_n (pc := 1061) hC dL_law_1061 rfl 1 rfl ?_
          refine r_aload_n (pc := 1062) hC dL_law_1062 rfl 0 rfl ?_
          refine r_iload (pc := 1063) hC dL_law_1063 4 rfl ?_
          refine r_iconst (pc := 1065) (v := 1) hC dL_law_1065 (by decide) ?_
          refine r_iadd (pc := 1066) hC dL_law_1066 ?_
          obtain ⟨v279, ev279, hf⟩ := pb hf
          refine r_sld (pc := 1067) hLE hC dL_law_1067 ev279 ?_
          refine r_aload_n (pc := 1068) hC dL_law_1068 rfl 3 rfl ?_
          obtain ⟨b280, gb280, hf⟩ := pb hf
          obtain ⟨r281, er281, okr281, hf⟩ := hf
          refine r_callSW (pc := 1069) (As := [DR (some st.1), DI v279, DR (some q4.1)]) (rest := []) (kw_L_count gb280 er281 okr281) hC wd_3_65 wd_3_66 wd_3_67 wd_1_0 md_L_count rfl ⟨rfl, rfl, Nat.le_of_ble_eq_true rfl, Nat.le_of_ble_eq_true rfl, by show _ ≤ 897345; omega, by show _ ≤ 6404068; omega⟩ dL_law_1069 rfl (Nat.le_of_ble_eq_true rfl) (fun rv u283 hF hdom => ?_)
          obtain ⟨k282, rfl⟩ := wr_int hF
          replace hf := hf k282 u283 hF hdom
          refine dm_to (pc' := 1072) (stk' := [DI k282]) rfl rfl ?_
          refine r_istore (pc := 1072) (lv' := [(5, DI k282), (0, DR (some b)), (1, DR (some st.1)), (2, DR (some q2.1)), (3, DR (some q4.1)), (4, DI z6.2)]) hC hN dL_law_1072 (by decide) rfl ?_
          refine r_aload_n (pc := 1074) hC dL_law_1074 rfl 3 rfl ?_
          refine r_aload_n (pc := 1075) hC dL_law_1075 rfl 1 rfl ?_
          refine r_iload (pc := 1076) hC dL_law_1076 5 rfl ?_
          refine r_iconst (pc := 1078) (v := 1) hC dL_law_1078 (by decide) ?_
          refine r_iadd (pc := 1079) hC dL_law_1079 ?_
          obtain ⟨v284, ev284, hf⟩ := pb hf
          refine r_sld (pc := 1080) hLE hC dL_law_1080 ev284 ?_
          obtain ⟨b285, gb285, hf⟩ := pb hf
          obtain ⟨q286, eq286, hf⟩ := pb hf
          refine r_callV (pc := 1081) (As := [DI v284]) (rest := []) (stk' := [DI q286.1]) (k1_X5_count eq286) gb285 rfl hC wd_4_66 wd_4_67 wd_4_68 wd_4_69 wd_1_3 md_X5_count rfl ⟨rfl, rfl, Nat.le_of_ble_eq_true rfl, Nat.le_of_ble_eq_true rfl, by show _ ≤ 897345; omega, by show _ ≤ 6404068; omega⟩ dL_law_1081 rfl (Nat.le_of_ble_eq_true rfl) rfl ?_
          refine r_istore (pc := 1084) (lv' := [(6, DI q286.1), (5, DI k282), (0, DR (some b)), (1, DR (some st.1)), (2, DR (some q2.1)), (3, DR (some q4.1)), (4, DI z6.2)]) hC hN dL_law_1084 (by decide) rfl ?_
          refine r_aload_n (pc := 1086) hC dL_law_1086 rfl 4 rfl ?_
          obtain ⟨b287, gb287, hf⟩ := pb hf
          obtain ⟨q288, eq288, hf⟩ := pb hf
          refine r_callV (pc := 1087) (As := []) (rest := []) (stk' := [DI q288]) (k1_X5_thrown eq288) gb287 rfl hC wd_3_139 wd_3_140 wd_3_141 wd_3_142 wd_1_3 md_X5_thrown rfl ⟨rfl, rfl, Nat.le_of_ble_eq_true rfl, Nat.le_of_ble_eq_true rfl, by show _ ≤ 897345; omega, by show _ ≤ 6404068; omega⟩ dL_law_1087 rfl (Nat.le_of_ble_eq_true rfl) rfl ?_
          refine r_iload (pc := 1090) hC dL_law_1090 1 rfl ?_
          refine r_icmp_eq (pc := 1092) (tgt := 1097) hC dL_law_1092 (by decide) (fun c292 => ?_) (fun c292 => ?_)
          · replace hf := pi_t c292 hf
            refine r_iload (pc := 1097) hC dL_law_1097 1 rfl ?_
            refine r_if_ne (pc := 1099) (tgt := 1114) hC dL_law_1099 (by decide) (fun c291 => ?_) (fun c291 => ?_)
            · replace hf := pi_f c291 hf
              refine r_goto (pc := 1114) (tgt := 1413) hC dL_law_1114 (by decide) ?_
              refine r_iinc (pc := 1413) (pos := 6) (v := (z6.2 + 4)) (lv' := [(4, DI (z6.2 + 4)), (6, DI q286.1), (5, DI k282), (0, DR (some b)), (1, DR (some st.1)), (2, DR (some q2.1)), (3, DR (some q4.1))]) hC hN dL_law_1413 rfl rfl (by decide) rfl ?_
              refine r_goto (pc := 1416) (tgt := 23) hC dL_law_1416 (by decide) ?_
              exact dm_sub [3, 4, 5, 6, 0] rfl (ih (q286.2, (z6.2 + 4)) _ _ hf (by omega) (by omega))
            · replace hf := pi_t c291 hf
              refine r_aload_n (pc := 1102) hC dL_law_1102 rfl 5 rfl ?_
              refine r_iconst (pc := 1103) (v := 0) hC dL_law_1103 (by decide) ?_
              obtain ⟨v289, ev289, hf⟩ := pb hf
              refine r_laload (pc := 1104) hC dL_law_1104 ev289 ?_
              refine r_iload (pc := 1105) hC dL_law_1105 0 rfl ?_
              refine r_i2l (pc := 1107) hC dL_law_1107 ?_
              refine r_lcmp (pc := 1108) hC dL_law_1108 ?_
              refine r_if_eq (pc := 1109) (tgt := 1114) hC dL_law_1109 (by decide) (fun c290 => ?_) (fun c290 => ?_)
              · replace hf := pi_t c290 hf
                refine r_goto (pc := 1114) (tgt := 1413) hC dL_law_1114 (by decide) ?_
                refine r_iinc (pc := 1413) (pos := 6) (v := (z6.2 + 4)) (lv' := [(4, DI (z6.2 + 4)), (6, DI q286.1), (5, DI k282), (0, DR (some b)), (1, DR (some st.1)), (2, DR (some q2.1)), (3, DR (some q4.1))]) hC hN dL_law_1413 rfl rfl (by decide) rfl ?_
                refine r_goto (pc := 1416) (tgt := 23) hC dL_law_1416 (by decide) ?_
                exact dm_sub [3, 4, 5, 6, 0] rfl (ih (q286.2, (z6.2 + 4)) _ _ hf (by omega) (by omega))
              · replace hf := pi_f c290 hf
                refine r_iconst (pc := 1112) (v := 0) hC dL_law_1112 (by decide) ?_
                exact absurd hf (by decide)
          · replace hf := pi_f c292 hf
            refine r_iconst (pc := 1095) (v := 0) hC dL_law_1095 (by decide) ?_
            exact absurd hf (by decide)
        replace hf := pi_f c22 hf
        by_cases c23 : (v7 &&& 31) = 15
        · replace hf := pi_t c23 hf
          refine r_tswIn (pc := 39) (off := 1078) (tgt := 1117) hC dL_law_39 (by rw [c23]; decide) (by rw [c23]; decide) (by rw [c23]; rfl) (by decide) ?_
          refine r_aload_n (pc := 1117) hC dL_law_1117 rfl 1 rfl ?_
          refine r_aload_n (pc := 1118) hC dL_law_1118 rfl 0 rfl ?_
          refine r_iload (pc := 1119) hC dL_law_1119 4 rfl ?_
          refine r_iconst (pc := 1121) (v := 1) hC dL_law_1121 (by decide) ?_
          refine r_iadd (pc := 1122) hC dL_law_1122 ?_
          obtain ⟨v293, ev293, hf⟩ := pb hf
          refine r_sld (pc := 1123) hLE hC dL_law_1123 ev293 ?_
          refine r_aload_n (pc := 1124) hC dL_law_1124 rfl 0 rfl ?_
          refine r_iload (pc := 1125) hC dL_law_1125 4 rfl ?_
          refine r_iconst (pc := 1127) (v := 2) hC dL_law_1127 (by decide) ?_
          refine r_iadd (pc := 1128) hC dL_law_1128 ?_
          obtain ⟨v294, ev294, hf⟩ := pb hf
          refine r_sld (pc := 1129) hLE hC dL_law_1129 ev294 ?_
          refine r_aload_n (pc := 1130) hC dL_law_1130 rfl 0 rfl ?_
          refine r_iload (pc := 1131) hC dL_law_1131 4 rfl ?_
          refine r_iconst (pc := 1133) (v := 3) hC dL_law_1133 (by decide) ?_
          refine r_iadd (pc := 1134) hC dL_law_1134 ?_
          obtain ⟨v295, ev295, hf⟩ := pb hf
          refine r_sld (pc := 1135) hLE hC dL_law_1135 ev295 ?_
          refine r_aload_n (pc := 1136) hC dL_law_1136 rfl 3 rfl ?_
          obtain ⟨b296, gb296, hf⟩ := pb hf
          obtain ⟨r297, er297, okr297, hf⟩ := hf
          refine r_callSW (pc := 1137) (As := [DR (some st.1), DI v293, DI v294, DI v295, DR (some q4.1)]) (rest := []) (kw_L_would gb296 er297 okr297) hC wd_3_69 wd_3_70 wd_3_71 wd_1_0 md_L_would rfl ⟨rfl, rfl, Nat.le_of_ble_eq_true rfl, Nat.le_of_ble_eq_true rfl, by show _ ≤ 897345; omega, by show _ ≤ 6404068; omega⟩ dL_law_1137 rfl (Nat.le_of_ble_eq_true rfl) (fun rv u299 hF hdom => ?_)
          obtain ⟨k298, rfl⟩ := wr_int hF
          replace hf := hf k298 u299 hF hdom
          refine dm_to (pc' := 1140) (stk' := [DI k298]) rfl rfl ?_
          refine r_istore (pc := 1140) (lv' := [(5, DI k298), (0, DR (some b)), (1, DR (some st.1)), (2, DR (some q2.1)), (3, DR (some q4.1)), (4, DI z6.2)]) hC hN dL_law_1140 (by decide) rfl ?_
          refine r_aload_n (pc := 1142) hC dL_law_1142 rfl 3 rfl ?_
          refine r_aload_n (pc := 1143) hC dL_law_1143 rfl 1 rfl ?_
          refine r_iload (pc := 1144) hC dL_law_1144 5 rfl ?_
          refine r_iconst (pc := 1146) (v := 1) hC dL_law_1146 (by decide) ?_
          refine r_iadd (pc := 1147) hC dL_law_1147 ?_
          obtain ⟨v300, ev300, hf⟩ := pb hf
          refine r_sld (pc := 1148) hLE hC dL_law_1148 ev300 ?_
          refine r_aload_n (pc := 1149) hC dL_law_1149 rfl 1 rfl ?_
          refine r_iload (pc := 1150) hC dL_law_1150 5 rfl ?_
          refine r_iconst (pc := 1152) (v := 2) hC dL_law_1152 (by decide) ?_
          refine r_iadd (pc := 1153) hC dL_law_1153 ?_
          obtain ⟨v301, ev301, hf⟩ := pb hf
          refine r_sld (pc := 1154) hLE hC dL_law_1154 ev301 ?_
          refine r_aload_n (pc := 1155) hC dL_law_1155 rfl 1 rfl ?_
          refine r_iload (pc := 1156) hC dL_law_1156 5 rfl ?_
          refine r_iconst (pc := 1158) (v := 3) hC dL_law_1158 (by decide) ?_
          refine r_iadd (pc := 1159) hC dL_law_1159 ?_
          obtain ⟨v302, ev302, hf⟩ := pb hf
          refine r_sld (pc := 1160) hLE hC dL_law_1160 ev302 ?_
          obtain ⟨b303, gb303, hf⟩ := pb hf
          obtain ⟨q304, eq304, hf⟩ := pb hf
          refine r_callV (pc := 1161) (As := [DI v300, DI v301, DI v302]) (rest := []) (stk' := [DI q304.1]) (k1_X5_would eq304) gb303 rfl hC wd_4_74 wd_4_75 wd_4_76 wd_4_77 wd_1_3 md_X5_would rfl ⟨rfl, rfl, Nat.le_of_ble_eq_true rfl, Nat.le_of_ble_eq_true rfl, by show _ ≤ 897345; omega, by show _ ≤ 6404068; omega⟩ dL_law_1161 rfl (Nat.le_of_ble_eq_true rfl) rfl ?_
          refine r_istore (pc := 1164) (lv' := [(6, DI q304.1), (5, DI k298), (0, DR (some b)), (1, DR (some st.1)), (2, DR (some q2.1)), (3, DR (some q4.1)), (4, DI z6.2)]) hC hN dL_law_1164 (by decide) rfl ?_
          refine r_aload_n (pc := 1166) hC dL_law_1166 rfl 4 rfl ?_
          obtain ⟨b305, gb305, hf⟩ := pb hf
          obtain ⟨q306, eq306, hf⟩ := pb hf
          refine r_callV (pc := 1167) (As := []) (rest := []) (stk' := [DI q306]) (k1_X5_thrown eq306) gb305 rfl hC wd_3_139 wd_3_140 wd_3_141 wd_3_142 wd_1_3 md_X5_thrown rfl ⟨rfl, rfl, Nat.le_of_ble_eq_true rfl, Nat.le_of_ble_eq_true rfl, by show _ ≤ 897345; omega, by show _ ≤ 6404068; omega⟩ dL_law_1167 rfl (Nat.le_of_ble_eq_true rfl) rfl ?_
          refine r_iload (pc := 1170) hC dL_law_1170 1 rfl ?_
          refine r_icmp_eq (pc := 1172) (tgt := 1177) hC dL_law_1172 (by decide) (fun c310 => ?_) (fun c310 => ?_)
          · replace hf := pi_t c310 hf
            refine r_iload (pc := 1177) hC dL_law_1177 1 rfl ?_
            refine r_if_ne (pc := 1179) (tgt := 1194) hC dL_law_1179 (by decide) (fun c309 => ?_) (fun c309 => ?_)
            · replace hf := pi_f c309 hf
              refine r_goto (pc := 1194) (tgt := 1413) hC dL_law_1194 (by decide) ?_
              refine r_iinc (pc := 1413) (pos := 6) (v := (z6.2 + 4)) (lv' := [(4, DI (z6.2 + 4)), (6, DI q304.1), (5, DI k298), (0, DR (some b)), (1, DR (some st.1)), (2, DR (some q2.1)), (3, DR (some q4.1))]) hC hN dL_law_1413 rfl rfl (by decide) rfl ?_
              refine r_goto (pc := 1416) (tgt := 23) hC dL_law_1416 (by decide) ?_
              exact dm_sub [3, 4, 5, 6, 0] rfl (ih (q304.2, (z6.2 + 4)) _ _ hf (by omega) (by omega))
            · replace hf := pi_t c309 hf
              refine r_aload_n (pc := 1182) hC dL_law_1182 rfl 5 rfl ?_
              refine r_iconst (pc := 1183) (v := 0) hC dL_law_1183 (by decide) ?_
              obtain ⟨v307, ev307, hf⟩ := pb hf
              refine r_laload (pc := 1184) hC dL_law_1184 ev307 ?_
              refine r_iload (pc := 1185) hC dL_law_1185 0 rfl ?_
              refine r_i2l (pc := 1187) hC dL_law_1187 ?_
              refine r_lcmp (pc := 1188) hC dL_law_1188 ?_
              refine r_if_eq (pc := 1189) (tgt := 1194) hC dL_law_1189 (by decide) (fun c308 => ?_) (fun c308 => ?_)
              · replace hf := pi_t c308 hf
                refine r_goto (pc := 1194) (tgt := 1413) hC dL_law_1194 (by decide) ?_
                refine r_iinc (pc := 1413) (pos := 6) (v := (z6.2 + 4)) (lv' := [(4, DI (z6.2 + 4)), (6, DI q304.1), (5, DI k298), (0, DR (some b)), (1, DR (some st.1)), (2, DR (some q2.1)), (3, DR (some q4.1))]) hC hN dL_law_1413 rfl rfl (by decide) rfl ?_
                refine r_goto (pc := 1416) (tgt := 23) hC dL_law_1416 (by decide) ?_
                exact dm_sub [3, 4, 5, 6, 0] rfl (ih (q304.2, (z6.2 + 4)) _ _ hf (by omega) (by omega))
              · replace hf := pi_f c308 hf
                refine r_iconst (pc := 1192) (v := 0) hC dL_law_1192 (by decide) ?_
                exact absurd hf (by decide)
          · replace hf := pi_f c310 hf
            refine r_iconst (pc := 1175) (v := 0) hC dL_law_1175 (by decide) ?_
            exact absurd hf (by decide)
        replace hf := pi_f c23 hf
        by_cases c24 : (v7 &&& 31) = 16
        · replace hf := pi_t c24 hf
          refine r_tswIn (pc := 39) (off := 1158) (tgt := 1197) hC dL_law_39 (by rw [c24]; decide) (by rw [c24]; decide) (by rw [c24]; rfl) (by decide) ?_
          refine r_aload_n (pc := 1197) hC dL_law_1197 rfl 1 rfl ?_
          refine r_aload_n (pc := 1198) hC dL_law_1198 rfl 0 rfl ?_
          refine r_iload (pc := 1199) hC dL_law_1199 4 rfl ?_
          refine r_iconst (pc := 1201) (v := 1) hC dL_law_1201 (by decide) ?_
          refine r_iadd (pc := 1202) hC dL_law_1202 ?_
          obtain ⟨v311, ev311, hf⟩ := pb hf
          refine r_sld (pc := 1203) hLE hC dL_law_1203 ev311 ?_
          refine r_aload_n (pc := 1204) hC dL_law_1204 rfl 0 rfl ?_
          refine r_iload (pc := 1205) hC dL_law_1205 4 rfl ?_
          refine r_iconst (pc := 1207) (v := 2) hC dL_law_1207 (by decide) ?_
          refine r_iadd (pc := 1208) hC dL_law_1208 ?_
          obtain ⟨v312, ev312, hf⟩ := pb hf
          refine r_sld (pc := 1209) hLE hC dL_law_1209 ev312 ?_
          refine r_aload_n (pc := 1210) hC dL_law_1210 rfl 0 rfl ?_
          refine r_iload (pc := 1211) hC dL_law_1211 4 rfl ?_
          refine r_iconst (pc := 1213) (v := 3) hC dL_law_1213 (by decide) ?_
          refine r_iadd (pc := 1214) hC dL_law_1214 ?_
          obtain ⟨v313, ev313, hf⟩ := pb hf
          refine r_sld (pc := 1215) hLE hC dL_law_1215 ev313 ?_
          refine r_aload_n (pc := 1216) hC dL_law_1216 rfl 3 rfl ?_
          obtain ⟨b314, gb314, hf⟩ := pb hf
          obtain ⟨r315, er315, okr315, hf⟩ := hf
          refine r_callSW (pc := 1217) (As := [DR (some st.1), DI v311, DI v312, DI v313, DR (some q4.1)]) (rest := []) (kw_L_best gb314 er315 okr315) hC wd_3_80 wd_3_81 wd_3_82 wd_1_0 md_L_best rfl ⟨rfl, rfl, Nat.le_of_ble_eq_true rfl, Nat.le_of_ble_eq_true rfl, by show _ ≤ 897345; omega, by show _ ≤ 6404068; omega⟩ dL_law_1217 rfl (Nat.le_of_ble_eq_true rfl) (fun rv u317 hF hdom => ?_)
          obtain ⟨k316, rfl⟩ := wr_int hF
          replace hf := hf k316 u317 hF hdom
          refine dm_to (pc' := 1220) (stk' := [DI k316]) rfl rfl ?_
          refine r_istore (pc := 1220) (lv' := [(5, DI k316), (0, DR (some b)), (1, DR (some st.1)), (2, DR (some q2.1)), (3, DR (some q4.1)), (4, DI z6.2)]) hC hN dL_law_1220 (by decide) rfl ?_
          refine r_aload_n (pc := 1222) hC dL_law_1222 rfl 3 rfl ?_
          refine r_aload_n (pc := 1223) hC dL_law_1223 rfl 1 rfl ?_
          refine r_iload (pc := 1224) hC dL_law_1224 5 rfl ?_
          refine r_iconst (pc := 1226) (v := 1) hC dL_law_1226 (by decide) ?_
          refine r_iadd (pc := 1227) hC dL_law_1227 ?_
          obtain ⟨v318, ev318, hf⟩ := pb hf
          refine r_sld (pc := 1228) hLE hC dL_law_1228 ev318 ?_
          refine r_aload_n (pc := 1229) hC dL_law_1229 rfl 1 rfl ?_
          refine r_iload (pc := 1230) hC dL_law_1230 5 rfl ?_
          refine r_iconst (pc := 1232) (v := 2) hC dL_law_1232 (by decide) ?_
          refine r_iadd (pc := 1233) hC dL_law_1233 ?_
          obtain ⟨v319, ev319, hf⟩ := pb hf
          refine r_sld (pc := 1234) hLE hC dL_law_1234 ev319 ?_
          refine r_aload_n (pc := 1235) hC dL_law_1235 rfl 1 rfl ?_
          refine r_iload (pc := 1236) hC dL_law_1236 5 rfl ?_
          refine r_iconst (pc := 1238) (v := 3) hC dL_law_1238 (by decide) ?_
          refine r_iadd (pc := 1239) hC dL_law_1239 ?_
          obtain ⟨v320, ev320, hf⟩ := pb hf
          refine r_sld (pc := 1240) hLE hC dL_law_1240 ev320 ?_
          obtain ⟨b321, gb321, hf⟩ := pb hf
          obtain ⟨q322, eq322, hf⟩ := pb hf
          refine r_callV (pc := 1241) (As := [DI v318, DI v319, DI v320]) (rest := []) (stk' := [DI q322.1]) (k1_X5_best eq322) gb321 rfl hC wd_4_78 wd_4_79 wd_4_80 wd_4_81 wd_1_3 md_X5_best rfl ⟨rfl, rfl, Nat.le_of_ble_eq_true rfl, Nat.le_of_ble_eq_true rfl, by show _ ≤ 897345; omega, by show _ ≤ 6404068; omega⟩ dL_law_1241 rfl (Nat.le_of_ble_eq_true rfl) rfl ?_
          refine r_istore (pc := 1244) (lv' := [(6, DI q322.1), (5, DI k316), (0, DR (some b)), (1, DR (some st.1)), (2, DR (some q2.1)), (3, DR (some q4.1)), (4, DI z6.2)]) hC hN dL_law_1244 (by decide) rfl ?_
          refine r_aload_n (pc := 1246) hC dL_law_1246 rfl 4 rfl ?_
          obtain ⟨b323, gb323, hf⟩ := pb hf
          obtain ⟨q324, eq324, hf⟩ := pb hf
          refine r_callV (pc := 1247) (As := []) (rest := []) (stk' := [DI q324]) (k1_X5_thrown eq324) gb323 rfl hC wd_3_139 wd_3_140 wd_3_141 wd_3_142 wd_1_3 md_X5_thrown rfl ⟨rfl, rfl, Nat.le_of_ble_eq_true rfl, Nat.le_of_ble_eq_true rfl, by show _ ≤ 897345; omega, by show _ ≤ 6404068; omega⟩ dL_law_1247 rfl (Nat.le_of_ble_eq_true rfl) rfl ?_
          refine r_iload (pc := 1250) hC dL_law_1250 1 rfl ?_
          refine r_icmp_eq (pc := 1252) (tgt := 1257) hC dL_law_1252 (by decide) (fun c328 => ?_) (fun c328 => ?_)
          · replace hf := pi_t c328 hf
            refine r_iload (pc := 1257) hC dL_law_1257 1 rfl ?_
            refine r_if_ne (pc := 1259) (tgt := 1274) hC dL_law_1259 (by decide) (fun c327 => ?_) (fun c327 => ?_)
            · replace hf := pi_f c327 hf
              refine r_goto (pc := 1274) (tgt := 1413) hC dL_law_1274 (by decide) ?_
              refine r_iinc (pc := 1413) (pos := 6) (v := (z6.2 + 4)) (lv' := [(4, DI (z6.2 + 4)), (6, DI q322.1), (5, DI k316), (0, DR (some b)), (1, DR (some st.1)), (2, DR (some q2.1)), (3, DR (some q4.1))]) hC hN dL_law_1413 rfl rfl (by decide) rfl ?_
              refine r_goto (pc := 1416) (tgt := 23) hC dL_law_1416 (by decide) ?_
              exact dm_sub [3, 4, 5, 6, 0] rfl (ih (q322.2, (z6.2 + 4)) _ _ hf (by omega) (by omega))
            · replace hf := pi_t c327 hf
              refine r_aload_n (pc := 1262) hC dL_law_1262 rfl 5 rfl ?_
              refine r_iconst (pc := 1263) (v := 0) hC dL_law_1263 (by decide) ?_
              obtain ⟨v325, ev325, hf⟩ := pb hf
              refine r_laload (pc := 1264) hC dL_law_1264 ev325 ?_
              refine r_iload (pc := 1265) hC dL_law_1265 0 rfl ?_
              refine r_i2l (pc := 1267) hC dL_law_1267 ?_
              refine r_lcmp (pc := 1268) hC dL_law_1268 ?_
              refine r_if_eq (pc := 1269) (tgt := 1274) hC dL_law_1269 (by decide) (fun c326 => ?_) (fun c326 => ?_)
              · replace hf := pi_t c326 hf
                refine r_goto (pc := 1274) (tgt := 1413) hC dL_law_1274 (by decide) ?_
                refine r_iinc (pc := 1413) (pos := 6) (v := (z6.2 + 4)) (lv' := [(4, DI (z6.2 + 4)), (6, DI q322.1), (5, DI k316), (0, DR (some b)), (1, DR (some st.1)), (2, DR (some q2.1)), (3, DR (some q4.1))]) hC hN dL_law_1413 rfl rfl (by decide) rfl ?_
                refine r_goto (pc := 1416) (tgt := 23) hC dL_law_1416 (by decide) ?_
                exact dm_sub [3, 4, 5, 6, 0] rfl (ih (q322.2, (z6.2 + 4)) _ _ hf (by omega) (by omega))
              · replace hf := pi_f c326 hf
                refine r_iconst (pc := 1272) (v := 0) hC dL_law_1272 (by decide) ?_
                exact absurd hf (by decide)
          · replace hf := pi_f c328 hf
            refine r_iconst (pc := 1255) (v := 0) hC dL_law_1255 (by decide) ?_
            exact absurd hf (by decide)
        replace hf := pi_f c24 hf
        by_cases c25 : (v7 &&& 31) = 17
        · replace hf := pi_t c25 hf
          refine r_tswIn (pc := 39) (off := 1238) (tgt := 1277) hC dL_law_39 (by rw [c25]; decide) (by rw [c25]; decide) (by rw [c25]; rfl) (by decide) ?_
          refine r_aload_n (pc := 1277) hC dL_law_1277 rfl 1 rfl ?_
          refine r_aload_n (pc := 1278) hC dL_law_1278 rfl 0 rfl ?_
          refine r_iload (pc := 1279) hC dL_law_1279 4 rfl ?_
          refine r_iconst (pc := 1281) (v := 1) hC dL_law_1281 (by decide) ?_
          refine r_iadd (pc := 1282) hC dL_law_1282 ?_
          obtain ⟨v329, ev329, hf⟩ := pb hf
          refine r_sld (pc := 1283) hLE hC dL_law_1283 ev329 ?_
          refine r_aload_n (pc := 1284) hC dL_law_1284 rfl 0 rfl ?_
          refine r_iload (pc := 1285) hC dL_law_1285 4 rfl ?_
          refine r_iconst (pc := 1287) (v := 2) hC dL_law_1287 (by decide) ?_
          refine r_iadd (pc := 1288) hC dL_law_1288 ?_
          obtain ⟨v330, ev330, hf⟩ := pb hf
          refine r_sld (pc := 1289) hLE hC dL_law_1289 ev330 ?_
          refine r_aload_n (pc := 1290) hC dL_law_1290 rfl 3 rfl ?_
          obtain ⟨b331, gb331, hf⟩ := pb hf
          obtain ⟨r332, er332, okr332, hf⟩ := hf
          refine r_callSW (pc := 1291) (As := [DR (some st.1), DI v329, DI v330, DR (some q4.1)]) (rest := []) (kw_L_until gb331 er332 okr332) hC wd_3_88 wd_3_89 wd_3_90 wd_1_0 md_L_until rfl ⟨rfl, rfl, Nat.le_of_ble_eq_true rfl, Nat.le_of_ble_eq_true rfl, by show _ ≤ 897345; omega, by show _ ≤ 6404068; omega⟩ dL_law_1291 rfl (Nat.le_of_ble_eq_true rfl) (fun rv u334 hF hdom => ?_)
          obtain ⟨k333, rfl⟩ := wr_int hF
          replace hf := hf k333 u334 hF hdom
          refine dm_to (pc' := 1294) (stk' := [DI k333]) rfl rfl ?_
          refine r_istore (pc := 1294) (lv' := [(5, DI k333), (0, DR (some b)), (1, DR (some st.1)), (2, DR (some q2.1)), (3, DR (some q4.1)), (4, DI z6.2)]) hC hN dL_law_1294 (by decide) rfl ?_
          refine r_aload_n (pc := 1296) hC dL_law_1296 rfl 3 rfl ?_
          refine r_aload_n (pc := 1297) hC dL_law_1297 rfl 1 rfl ?_
          refine r_iload (pc := 1298) hC dL_law_1298 5 rfl ?_
          refine r_iconst (pc := 1300) (v := 1) hC dL_law_1300 (by decide) ?_
          refine r_iadd (pc := 1301) hC dL_law_1301 ?_
          obtain ⟨v335, ev335, hf⟩ := pb hf
          refine r_sld (pc := 1302) hLE hC dL_law_1302 ev335 ?_
          refine r_aload_n (pc := 1303) hC dL_law_1303 rfl 1 rfl ?_
          refine r_iload (pc := 1304) hC dL_law_1304 5 rfl ?_
          refine r_iconst (pc := 1306) (v := 2) hC dL_law_1306 (by decide) ?_
          refine r_iadd (pc := 1307) hC dL_law_1307 ?_
          obtain ⟨v336, ev336, hf⟩ := pb hf
          refine r_sld (pc := 1308) hLE hC dL_law_1308 ev336 ?_
          obtain ⟨b337, gb337, hf⟩ := pb hf
          obtain ⟨q338, eq338, hf⟩ := pb hf
          refine r_callV (pc := 1309) (As := [DI v335, DI v336]) (rest := []) (stk' := [DI q338.1]) (k1_X5_until eq338) gb337 rfl hC wd_4_82 wd_4_83 wd_4_84 wd_4_85 wd_1_3 md_X5_until rfl ⟨rfl, rfl, Nat.le_of_ble_eq_true rfl, Nat.le_of_ble_eq_true rfl, by show _ ≤ 897345; omega, by show _ ≤ 6404068; omega⟩ dL_law_1309 rfl (Nat.le_of_ble_eq_true rfl) rfl ?_
          refine r_istore (pc := 1312) (lv' := [(6, DI q338.1), (5, DI k333), (0, DR (some b)), (1, DR (some st.1)), (2, DR (some q2.1)), (3, DR (some q4.1)), (4, DI z6.2)]) hC hN dL_law_1312 (by decide) rfl ?_
          refine r_aload_n (pc := 1314) hC dL_law_1314 rfl 4 rfl ?_
          obtain ⟨b339, gb339, hf⟩ := pb hf
          obtain ⟨q340, eq340, hf⟩ := pb hf
          refine r_callV (pc := 1315) (As := []) (rest := []) (stk' := [DI q340]) (k1_X5_thrown eq340) gb339 rfl hC wd_3_139 wd_3_140 wd_3_141 wd_3_142 wd_1_3 md_X5_thrown rfl ⟨rfl, rfl, Nat.le_of_ble_eq_true rfl, Nat.le_of_ble_eq_true rfl, by show _ ≤ 897345; omega, by show _ ≤ 6404068; omega⟩ dL_law_1315 rfl (Nat.le_of_ble_eq_true rfl) rfl ?_
          refine r_iload (pc := 1318) hC dL_law_1318 1 rfl ?_
          refine r_icmp_eq (pc := 1320) (tgt := 1325) hC dL_law_1320 (by decide) (fun c344 => ?_) (fun c344 => ?_)
          · replace hf := pi_t c344 hf
            refine r_iload (pc := 1325) hC dL_law_1325 1 rfl ?_
            refine r_if_ne (pc := 1327) (tgt := 1342) hC dL_law_1327 (by decide) (fun c343 => ?_) (fun c343 => ?_)
            · replace hf := pi_f c343 hf
              refine r_goto (pc := 1342) (tgt := 1413) hC dL_law_1342 (by decide) ?_
              refine r_iinc (pc := 1413) (pos := 6) (v := (z6.2 + 4)) (lv' := [(4, DI (z6.2 + 4)), (6, DI q338.1), (5, DI k333), (0, DR (some b)), (1, DR (some st.1)), (2, DR (some q2.1)), (3, DR (some q4.1))]) hC hN dL_law_1413 rfl rfl (by decide) rfl ?_
              refine r_goto (pc := 1416) (tgt := 23) hC dL_law_1416 (by decide) ?_
              exact dm_sub [3, 4, 5, 6, 0] rfl (ih (q338.2, (z6.2 + 4)) _ _ hf (by omega) (by omega))
            · replace hf := pi_t c343 hf
              refine r_aload_n (pc := 1330) hC dL_law_1330 rfl 5 rfl ?_
              refine r_iconst (pc := 1331) (v := 0) hC dL_law_1331 (by decide) ?_
              obtain ⟨v341, ev341, hf⟩ := pb hf
              refine r_laload (pc := 1332) hC dL_law_1332 ev341 ?_
              refine r_iload (pc := 1333) hC dL_law_1333 0 rfl ?_
              refine r_i2l (pc := 1335) hC dL_law_1335 ?_
              refine r_lcmp (pc := 1336) hC dL_law_1336 ?_
              refine r_if_eq (pc := 1337) (tgt := 1342) hC dL_law_1337 (by decide) (fun c342 => ?_) (fun c342 => ?_)
              · replace hf := pi_t c342 hf
                refine r_goto (pc := 1342) (tgt := 1413) hC dL_law_1342 (by decide) ?_
                refine r_iinc (pc := 1413) (pos := 6) (v := (z6.2 + 4)) (lv' := [(4, DI (z6.2 + 4)), (6, DI q338.1), (5, DI k333), (0, DR (some b)), (1, DR (some st.1)), (2, DR (some q2.1)), (3, DR (some q4.1))]) hC hN dL_law_1413 rfl rfl (by decide) rfl ?_
                refine r_goto (pc := 1416) (tgt := 23) hC dL_law_1416 (by decide) ?_
                exact dm_sub [3, 4, 5, 6, 0] rfl (ih (q338.2, (z6.2 + 4)) _ _ hf (by omega) (by omega))
              · replace hf := pi_f c342 hf
                refine r_iconst (pc := 1340) (v := 0) hC dL_law_1340 (by decide) ?_
                exact absurd hf (by decide)
          · replace hf := pi_f c344 hf
            refine r_iconst (pc := 1323) (v := 0) hC dL_law_1323 (by decide) ?_
            exact absurd hf (by decide)
        replace hf := pi_f c25 hf
        by_cases c26 : (v7 &&& 31) = 18
        · replace hf := pi_t c26 hf
          refine r_tswIn (pc := 39) (off := 1306) (tgt := 1345) hC dL_law_39 (by rw [c26]; decide) (by rw [c26]; decide) (by rw [c26]; rfl) (by decide) ?_
          refine r_aload_n (pc := 1345) hC dL_law_1345 rfl 1 rfl ?_
          obtain ⟨b345, gb345, hf⟩ := pb hf
          obtain ⟨q346, eq346, hf⟩ := pb hf
          refine r_callV (pc := 1346) (As := []) (rest := []) (stk' := [DI q346.1]) (k1_X4_advise eq346) gb345 rfl hC wd_1_120 wd_1_121 wd_1_122 wd_1_123 wd_1_1 md_X4_advise rfl ⟨rfl, rfl, Nat.le_of_ble_eq_true rfl, Nat.le_of_ble_eq_true rfl, by show _ ≤ 897345; omega, by show _ ≤ 6404068; omega⟩ dL_law_1346 rfl (Nat.le_of_ble_eq_true rfl) rfl ?_
          refine r_aload_n (pc := 1349) hC dL_law_1349 rfl 2 rfl ?_
          obtain ⟨b347, gb347, hf⟩ := pb hf
          obtain ⟨q348, eq348, hf⟩ := pb hf
          refine r_callV (pc := 1350) (As := []) (rest := [DI q346.1]) (stk' := [DI q348.1, DI q346.1]) (k1_X5_advise eq348) gb347 rfl hC wd_4_86 wd_4_87 wd_4_88 wd_4_89 wd_1_3 md_X5_advise rfl ⟨rfl, rfl, Nat.le_of_ble_eq_true rfl, Nat.le_of_ble_eq_true rfl, by show _ ≤ 897345; omega, by show _ ≤ 6404068; omega⟩ dL_law_1350 rfl (Nat.le_of_ble_eq_true rfl) rfl ?_
          refine r_icmp_eq (pc := 1353) (tgt := 1413) hC dL_law_1353 (by decide) (fun c349 => ?_) (fun c349 => ?_)
          · replace hf := pi_t c349 hf
            refine r_iinc (pc := 1413) (pos := 4) (v := (z6.2 + 4)) (lv' := [(4, DI (z6.2 + 4)), (0, DR (some b)), (1, DR (some st.1)), (2, DR (some q2.1)), (3, DR (some q4.1))]) hC hN dL_law_1413 rfl rfl (by decide) rfl ?_
            refine r_goto (pc := 1416) (tgt := 23) hC dL_law_1416 (by decide) ?_
            exact dm_sub [1, 2, 3, 4, 0] rfl (ih (q348.2, (z6.2 + 4)) _ _ hf (by omega) (by omega))
          · replace hf := pi_f c349 hf
            refine r_iconst (pc := 1356) (v := 0) hC dL_law_1356 (by decide) ?_
            exact absurd hf (by decide)
        replace hf := pi_f c26 hf
        by_cases c27 : (v7 &&& 31) = 19
        · replace hf := pi_t c27 hf
          refine r_tswIn (pc := 39) (off := 1319) (tgt := 1358) hC dL_law_39 (by rw [c27]; decide) (by rw [c27]; decide) (by rw [c27]; rfl) (by decide) ?_
          refine r_aload_n (pc := 1358) hC dL_law_1358 rfl 1 rfl ?_
          obtain ⟨b350, gb350, hf⟩ := pb hf
          obtain ⟨q351, eq351, hf⟩ := pb hf
          refine r_callV (pc := 1359) (As := []) (rest := []) (stk' := [DD q351]) (k1_X4_mean eq351) gb350 rfl hC wd_1_124 wd_1_125 wd_1_126 wd_1_127 wd_1_1 md_X4_mean rfl ⟨rfl, rfl, Nat.le_of_ble_eq_true rfl, Nat.le_of_ble_eq_true rfl, by show _ ≤ 897345; omega, by show _ ≤ 6404068; omega⟩ dL_law_1359 rfl (Nat.le_of_ble_eq_true rfl) rfl ?_
          refine r_dstore (pc := 1362) (lv' := [(5, DD q351), (0, DR (some b)), (1, DR (some st.1)), (2, DR (some q2.1)), (3, DR (some q4.1)), (4, DI z6.2)]) hC hN dL_law_1362 (by decide) rfl ?_
          refine r_aload_n (pc := 1364) hC dL_law_1364 rfl 3 rfl ?_
          obtain ⟨b352, gb352, hf⟩ := pb hf
          obtain ⟨q353, eq353, hf⟩ := pb hf
          refine r_callV (pc := 1365) (As := []) (rest := []) (stk' := [DD q353.1]) (k1_X5_mean eq353) gb352 rfl hC wd_4_94 wd_4_95 wd_4_96 wd_4_97 wd_1_3 md_X5_mean rfl ⟨rfl, rfl, Nat.le_of_ble_eq_true rfl, Nat.le_of_ble_eq_true rfl, by show _ ≤ 897345; omega, by show _ ≤ 6404068; omega⟩ dL_law_1365 rfl (Nat.le_of_ble_eq_true rfl) rfl ?_
          refine r_dstore (pc := 1368) (lv' := [(7, DD q353.1), (5, DD q351), (0, DR (some b)), (1, DR (some st.1)), (2, DR (some q2.1)), (3, DR (some q4.1)), (4, DI z6.2)]) hC hN dL_law_1368 (by decide) rfl ?_
          refine r_dload (pc := 1370) hC dL_law_1370 1 rfl ?_
          refine r_dload (pc := 1372) hC dL_law_1372 0 rfl ?_
          refine r_dcmp (pc := 1374) hC dL_law_1374 ?_
          refine r_if_eq (pc := 1375) (tgt := 1396) hC dL_law_1375 (by decide) (fun c356 => ?_) (fun c356 => ?_)
          · replace hf := pi_t c356 hf
            refine r_goto (pc := 1396) (tgt := 1413) hC dL_law_1396 (by decide) ?_
            refine r_iinc (pc := 1413) (pos := 6) (v := (z6.2 + 4)) (lv' := [(4, DI (z6.2 + 4)), (7, DD q353.1), (5, DD q351), (0, DR (some b)), (1, DR (some st.1)), (2, DR (some q2.1)), (3, DR (some q4.1))]) hC hN dL_law_1413 rfl rfl (by decide) rfl ?_
            refine r_goto (pc := 1416) (tgt := 23) hC dL_law_1416 (by decide) ?_
            exact dm_sub [3, 4, 5, 6, 0] rfl (ih (q353.2, (z6.2 + 4)) _ _ hf (by omega) (by omega))
          · replace hf := pi_f c356 hf
            refine r_dload (pc := 1378) hC dL_law_1378 1 rfl ?_
            refine r_dload (pc := 1380) hC dL_law_1380 1 rfl ?_
            refine r_dcmp (pc := 1382) hC dL_law_1382 ?_
            refine r_if_eq (pc := 1383) (tgt := 1394) hC dL_law_1383 (by decide) (fun c355 => ?_) (fun c355 => ?_)
            · replace hf := pi_t c355 hf
              refine r_iconst (pc := 1394) (v := 0) hC dL_law_1394 (by decide) ?_
              exact absurd hf (by decide)
            · replace hf := pi_f c355 hf
              refine r_dload (pc := 1386) hC dL_law_1386 0 rfl ?_
              refine r_dload (pc := 1388) hC dL_law_1388 0 rfl ?_
              refine r_dcmp (pc := 1390) hC dL_law_1390 ?_
              refine r_if_ne (pc := 1391) (tgt := 1396) hC dL_law_1391 (by decide) (fun c354 => ?_) (fun c354 => ?_)
              · replace hf := pi_f c354 hf
                refine r_goto (pc := 1396) (tgt := 1413) hC dL_law_1396 (by decide) ?_
                refine r_iinc (pc := 1413) (pos := 6) (v := (z6.2 + 4)) (lv' := [(4, DI (z6.2 + 4)), (7, DD q353.1), (5, DD q351), (0, DR (some b)), (1, DR (some st.1)), (2, DR (some q2.1)), (3, DR (some q4.1))]) hC hN dL_law_1413 rfl rfl (by decide) rfl ?_
                refine r_goto (pc := 1416) (tgt := 23) hC dL_law_1416 (by decide) ?_
                exact dm_sub [3, 4, 5, 6, 0] rfl (ih (q353.2, (z6.2 + 4)) _ _ hf (by omega) (by omega))
              · replace hf := pi_t c354 hf
                refine r_iconst (pc := 1394) (v := 0) hC dL_law_1394 (by decide) ?_
                exact absurd hf (by decide)
        replace hf := pi_f c27 hf
        by_cases c28 : (v7 &&& 31) = 20
        · replace hf := pi_t c28 hf
          refine r_tswIn (pc := 39) (off := 1360) (tgt := 1399) hC dL_law_39 (by rw [c28]; decide) (by rw [c28]; decide) (by rw [c28]; rfl) (by decide) ?_
          refine r_aload_n (pc := 1399) hC dL_law_1399 rfl 1 rfl ?_
          obtain ⟨b357, gb357, hf⟩ := pb hf
          obtain ⟨q358, eq358, hf⟩ := pb hf
          refine r_callV (pc := 1400) (As := []) (rest := []) (stk' := [DL q358]) (k1_X4_digest eq358) gb357 rfl hC wd_1_128 wd_1_129 wd_1_130 wd_1_131 wd_1_1 md_X4_digest rfl ⟨rfl, rfl, Nat.le_of_ble_eq_true rfl, Nat.le_of_ble_eq_true rfl, by show _ ≤ 897345; omega, by show _ ≤ 6404068; omega⟩ dL_law_1400 rfl (Nat.le_of_ble_eq_true rfl) rfl ?_
          refine r_aload_n (pc := 1403) hC dL_law_1403 rfl 2 rfl ?_
          obtain ⟨b359, gb359, hf⟩ := pb hf
          obtain ⟨q360, eq360, hf⟩ := pb hf
          refine r_callV (pc := 1404) (As := []) (rest := [DL q358]) (stk' := [DL q360.1, DL q358]) (k1_X5_digest eq360) gb359 rfl hC wd_4_98 wd_4_99 wd_4_100 wd_4_101 wd_1_3 md_X5_digest rfl ⟨rfl, rfl, Nat.le_of_ble_eq_true rfl, Nat.le_of_ble_eq_true rfl, by show _ ≤ 897345; omega, by show _ ≤ 6404068; omega⟩ dL_law_1404 rfl (Nat.le_of_ble_eq_true rfl) rfl ?_
          refine r_lcmp (pc := 1407) hC dL_law_1407 ?_
          refine r_if_eq (pc := 1408) (tgt := 1413) hC dL_law_1408 (by decide) (fun c361 => ?_) (fun c361 => ?_)
          · replace hf := pi_t c361 hf
            refine r_iinc (pc := 1413) (pos := 4) (v := (z6.2 + 4)) (lv' := [(4, DI (z6.2 + 4)), (0, DR (some b)), (1, DR (some st.1)), (2, DR (some q2.1)), (3, DR (some q4.1))]) hC hN dL_law_1413 rfl rfl (by decide) rfl ?_
            refine r_goto (pc := 1416) (tgt := 23) hC dL_law_1416 (by decide) ?_
            exact dm_sub [1, 2, 3, 4, 0] rfl (ih (q360.2, (z6.2 + 4)) _ _ hf (by omega) (by omega))
          · replace hf := pi_f c361 hf
            refine r_iconst (pc := 1411) (v := 0) hC dL_law_1411 (by decide) ?_
            exact absurd hf (by decide)
        replace hf := pi_f c28 hf
        have ho : ∀ k, k < 21 → ¬ (v7 &&& 31) = nI k := by
          intro k hk hz
          rcases (show k = 0 ∨ k = 1 ∨ k = 2 ∨ k = 3 ∨ k = 4 ∨ k = 5 ∨ k = 6 ∨ k = 7 ∨ k = 8 ∨ k = 9 ∨ k = 10 ∨ k = 11 ∨ k = 12 ∨ k = 13 ∨ k = 14 ∨ k = 15 ∨ k = 16 ∨ k = 17 ∨ k = 18 ∨ k = 19 ∨ k = 20 by omega) with rfl | rfl | rfl | rfl | rfl | rfl | rfl | rfl | rfl | rfl | rfl | rfl | rfl | rfl | rfl | rfl | rfl | rfl | rfl | rfl | rfl
          · exact c8 (hz.trans rfl)
          · exact c9 (hz.trans rfl)
          · exact c10 (hz.trans rfl)
          · exact c11 (hz.trans rfl)
          · exact c12 (hz.trans rfl)
          · exact c13 (hz.trans rfl)
          · exact c14 (hz.trans rfl)
          · exact c15 (hz.trans rfl)
          · exact c16 (hz.trans rfl)
          · exact c17 (hz.trans rfl)
          · exact c18 (hz.trans rfl)
          · exact c19 (hz.trans rfl)
          · exact c20 (hz.trans rfl)
          · exact c21 (hz.trans rfl)
          · exact c22 (hz.trans rfl)
          · exact c23 (hz.trans rfl)
          · exact c24 (hz.trans rfl)
          · exact c25 (hz.trans rfl)
          · exact c26 (hz.trans rfl)
          · exact c27 (hz.trans rfl)
          · exact c28 (hz.trans rfl)
        refine r_tswOut (pc := 39) (tgt := 1413) hC dL_law_39 (by have q := dm_out (by decide) ho; omega) (by decide) ?_
        refine r_iinc (pc := 1413) (pos := 4) (v := (z6.2 + 4)) (lv' := [(4, DI (z6.2 + 4)), (0, DR (some b)), (1, DR (some st.1)), (2, DR (some q2.1)), (3, DR (some q4.1))]) hC hN dL_law_1413 rfl rfl (by decide) rfl ?_
        refine r_goto (pc := 1416) (tgt := 23) hC dL_law_1416 (by decide) ?_
        exact dm_sub [1, 2, 3, 4, 0] rfl (ih (z6.1, (z6.2 + 4)) _ _ hf (by omega) (by omega))
  exact hloop 520 (s5, 0) _ _ hf (by omega) (by omega)
