def xbL {β : Type} (X : Option (Int64 × xSt)) (K : Int64 → (Nat → Nat → Int32) → (Nat → Nat → Int64) → xRr → Option β) : Option β := match X with
  | none => none
  | some q => K q.1 q.2.1 q.2.2.1 q.2.2.2
theorem xg_bL {β : Type} {X : Option (Int64 × xSt)} {K : Int64 → (Nat → Nat → Int32) → (Nat → Nat → Int64) → xRr → Option β} {o : β} {P : Prop} (h : xbL X K = some o) (k : ∀ v hi hl r, X = some (v, hi, hl, r) → K v hi hl r = some o → P) : P := by
  cases X with
  | none => cases h
  | some q => exact k q.1 q.2.1 q.2.2.1 q.2.2.2 rfl h
section
variable {z : xZ}
def F_L_law_1128 (z : xZ) (K18 : Int32 → (Nat → Nat → Int32) → (Nat → Nat → Int64) → xRr → Option (Int32 × xSt)) (v3 : Int32) (hi : Nat → Nat → Int32) (hl : Nat → Nat → Int64) (r : xRr) : Option (Int32 × xSt) := K18 (v3 + (7)) hi hl r
set_option maxRecDepth 20000 in
set_option maxHeartbeats 2000000 in
theorem r_L_law_1128 (K18 : Int32 → (Nat → Nat → Int32) → (Nat → Nat → Int64) → xRr → Option (Int32 × xSt)) (hK18 : ∀ (v3 : Int32) (hi : Nat → Nat → Int32) (hl : Nat → Nat → Int64) (r : xRr) (o : Int32 × xSt), K18 v3 hi hl r = some o → xR (RL, cL_law, 4, false, 3) (40, 122, 13196) z 122 13196 18 [some (.ref 1000003), some (.ref 0), some (.ref 90), some (.int v3)] [] (xhp hi hl r) (xoI o)) (v3 : Int32) (hi : Nat → Nat → Int32) (hl : Nat → Nat → Int64) (r : xRr) (o : Int32 × xSt) (h : F_L_law_1128 z K18 v3 hi hl r = some o) : xR (RL, cL_law, 4, false, 3) (40, 122, 13196) z 122 13196 1128 [some (.ref 1000003), some (.ref 0), some (.ref 90), some (.int v3)] [] (xhp hi hl r) (xoI o) := by
  refine x_iinc (pc' := 1131) (v := (v3 + (7))) (L' := [some (.ref 1000003), some (.ref 0), some (.ref 90), some (.int (v3 + (7)))]) dL_law_1128 rfl rfl (Nat.le_of_ble_eq_true rfl) rfl rfl ?_
  refine x_goto (tgt := 18) dL_law_1131 (by decide) ?_
  exact hK18 _ _ _ _ _ h
def F_L_law_172 (z : xZ) (K18 : Int32 → (Nat → Nat → Int32) → (Nat → Nat → Int64) → xRr → Option (Int32 × xSt)) (v3 : Int32) (hi : Nat → Nat → Int32) (hl : Nat → Nat → Int64) (r : xRr) : Option (Int32 × xSt) := if xok (v3 + (1 : Int32)) z.1 = true then if xok (v3 + (2 : Int32)) z.1 = true then xbI (F_X11_bank (z.2 (Int32.toNatClampNeg (v3 + (1 : Int32)))) (z.2 (Int32.toNatClampNeg (v3 + (2 : Int32)))) hi hl r) (fun w4 hi4 hl4 r4 => xbI (F_X12_bank (z.2 (Int32.toNatClampNeg (v3 + (1 : Int32)))) (z.2 (Int32.toNatClampNeg (v3 + (2 : Int32)))) hi4 hl4 r4) (fun w6 hi6 hl6 r6 => if w4 = w6 then F_L_law_1128 z K18 v3 hi6 hl6 r6 else some ((0 : Int32), hi6, hl6, r6))) else none else none
set_option maxRecDepth 20000 in
set_option maxHeartbeats 2000000 in
theorem r_L_law_172 (K18 : Int32 → (Nat → Nat → Int32) → (Nat → Nat → Int64) → xRr → Option (Int32 × xSt)) (hK18 : ∀ (v3 : Int32) (hi : Nat → Nat → Int32) (hl : Nat → Nat → Int64) (r : xRr) (o : Int32 × xSt), K18 v3 hi hl r = some o → xR (RL, cL_law, 4, false, 3) (40, 122, 13196) z 122 13196 18 [some (.ref 1000003), some (.ref 0), some (.ref 90), some (.int v3)] [] (xhp hi hl r) (xoI o)) (v3 : Int32) (hi : Nat → Nat → Int32) (hl : Nat → Nat → Int64) (r : xRr) (o : Int32 × xSt) (h : F_L_law_172 z K18 v3 hi hl r = some o) : xR (RL, cL_law, 4, false, 3) (40, 122, 13196) z 122 13196 172 [some (.ref 1000003), some (.ref 0), some (.ref 90), some (.int v3)] [] (xhp hi hl r) (xoI o) := by
  refine x_aload_n (pc' := 173) dL_law_172 rfl rfl ?_
  refine x_aload_n (pc' := 174) dL_law_173 rfl rfl ?_
  refine x_iload_n (pc' := 175) dL_law_174 rfl rfl ?_
  refine x_iconst (pc' := 176) (x := 1) dL_law_175 (by decide) rfl ?_
  refine x_iadd (pc' := 177) dL_law_176 rfl ?_
  refine xg_if h (fun g1 h => ?_)
  refine x_scld (pc' := 178) dL_law_177 (xok_in g1) rfl ?_
  refine x_aload_n (pc' := 179) dL_law_178 rfl rfl ?_
  refine x_iload_n (pc' := 180) dL_law_179 rfl rfl ?_
  refine x_iconst (pc' := 181) (x := 2) dL_law_180 (by decide) rfl ?_
  refine x_iadd (pc' := 182) dL_law_181 rfl ?_
  refine xg_if h (fun g2 h => ?_)
  refine x_scld (pc' := 183) dL_law_182 (xok_in g2) rfl ?_
  refine xg_bI h (fun w4 hi4 hl4 r4 e3 h => ?_)
  refine x_callV (pc' := 186) (S := []) (As := [.int (z.2 (Int32.toNatClampNeg (v3 + (1 : Int32)))), .int (z.2 (Int32.toNatClampNeg (v3 + (2 : Int32))))]) (b' := (1, 0, 0)) dL_law_183 l_L_13 m_X11_bank rfl rfl (show 0 < 122 by decide) rfl (Nat.le_of_ble_eq_true rfl) (Nat.le_of_ble_eq_true rfl) (Nat.le_of_ble_eq_true rfl) (Nat.le_of_ble_eq_true rfl) (r_X11_bank _ _ _ _ _ _ e3) rfl ?_
  refine x_aload_n (pc' := 187) dL_law_186 rfl rfl ?_
  refine x_aload_n (pc' := 188) dL_law_187 rfl rfl ?_
  refine x_iload_n (pc' := 189) dL_law_188 rfl rfl ?_
  refine x_iconst (pc' := 190) (x := 1) dL_law_189 (by decide) rfl ?_
  refine x_iadd (pc' := 191) dL_law_190 rfl ?_
  refine x_scld (pc' := 192) dL_law_191 (xok_in g1) rfl ?_
  refine x_aload_n (pc' := 193) dL_law_192 rfl rfl ?_
  refine x_iload_n (pc' := 194) dL_law_193 rfl rfl ?_
  refine x_iconst (pc' := 195) (x := 2) dL_law_194 (by decide) rfl ?_
  refine x_iadd (pc' := 196) dL_law_195 rfl ?_
  refine x_scld (pc' := 197) dL_law_196 (xok_in g2) rfl ?_
  refine xg_bI h (fun w6 hi6 hl6 r6 e5 h => ?_)
  refine x_callV (pc' := 200) (S := [.int w4]) (As := [.int (z.2 (Int32.toNatClampNeg (v3 + (1 : Int32)))), .int (z.2 (Int32.toNatClampNeg (v3 + (2 : Int32))))]) (b' := (1, 0, 0)) dL_law_197 l_L_17 m_X12_bank rfl rfl (show 90 < 122 by decide) rfl (Nat.le_of_ble_eq_true rfl) (Nat.le_of_ble_eq_true rfl) (Nat.le_of_ble_eq_true rfl) (Nat.le_of_ble_eq_true rfl) (r_X12_bank _ _ _ _ _ _ e5) rfl ?_
  refine xg_ite h (fun g7 h => ?_) (fun g7 h => ?_)
  · refine x_icmp_eq (tgt := 1128) (pc' := 203) dL_law_200 (by decide) rfl (fun _ => ?_) (fun hn => absurd g7 hn)
    exact r_L_law_1128 K18 hK18 _ _ _ _ _ h
  · refine x_icmp_eq (tgt := 1128) (pc' := 203) dL_law_200 (by decide) rfl (fun hn => absurd hn g7) (fun _ => ?_)
    refine x_iconst (pc' := 204) (x := 0) dL_law_203 (by decide) rfl ?_
    obtain rfl := Option.some.inj h
    exact x_zret dL_law_204 rfl (Or.inl rfl) rfl (Nat.le_of_ble_eq_true rfl) rfl
def F_L_law_205 (z : xZ) (K18 : Int32 → (Nat → Nat → Int32) → (Nat → Nat → Int64) → xRr → Option (Int32 × xSt)) (v3 : Int32) (hi : Nat → Nat → Int32) (hl : Nat → Nat → Int64) (r : xRr) : Option (Int32 × xSt) := if xok (v3 + (1 : Int32)) z.1 = true then if xok (v3 + (2 : Int32)) z.1 = true then if xok (v3 + (3 : Int32)) z.1 = true then if xok (v3 + (4 : Int32)) z.1 = true then if xok (v3 + (5 : Int32)) z.1 = true then xbI (F_X11_view (z.2 (Int32.toNatClampNeg (v3 + (1 : Int32)))) (z.2 (Int32.toNatClampNeg (v3 + (2 : Int32)))) (z.2 (Int32.toNatClampNeg (v3 + (3 : Int32)))) (z.2 (Int32.toNatClampNeg (v3 + (4 : Int32)))) (z.2 (Int32.toNatClampNeg (v3 + (5 : Int32)))) hi hl r) (fun w7 hi7 hl7 r7 => xbI (F_X12_view (z.2 (Int32.toNatClampNeg (v3 + (1 : Int32)))) (z.2 (Int32.toNatClampNeg (v3 + (2 : Int32)))) (z.2 (Int32.toNatClampNeg (v3 + (3 : Int32)))) (z.2 (Int32.toNatClampNeg (v3 + (4 : Int32)))) (z.2 (Int32.toNatClampNeg (v3 + (5 : Int32)))) hi7 hl7 r7) (fun w9 hi9 hl9 r9 => if w7 = w9 then F_L_law_1128 z K18 v3 hi9 hl9 r9 else some ((0 : Int32), hi9, hl9, r9))) else none else none else none else none else none
set_option maxRecDepth 20000 in
set_option maxHeartbeats 2000000 in
theorem r_L_law_205 (K18 : Int32 → (Nat → Nat → Int32) → (Nat → Nat → Int64) → xRr → Option (Int32 × xSt)) (hK18 : ∀ (v3 : Int32) (hi : Nat → Nat → Int32) (hl : Nat → Nat → Int64) (r : xRr) (o : Int32 × xSt), K18 v3 hi hl r = some o → xR (RL, cL_law, 4, false, 3) (40, 122, 13196) z 122 13196 18 [some (.ref 1000003), some (.ref 0), some (.ref 90), some (.int v3)] [] (xhp hi hl r) (xoI o)) (v3 : Int32) (hi : Nat → Nat → Int32) (hl : Nat → Nat → Int64) (r : xRr) (o : Int32 × xSt) (h : F_L_law_205 z K18 v3 hi hl r = some o) : xR (RL, cL_law, 4, false, 3) (40, 122, 13196) z 122 13196 205 [some (.ref 1000003), some (.ref 0), some (.ref 90), some (.int v3)] [] (xhp hi hl r) (xoI o) := by
  refine x_aload_n (pc' := 206) dL_law_205 rfl rfl ?_
  refine x_aload_n (pc' := 207) dL_law_206 rfl rfl ?_
  refine x_iload_n (pc' := 208) dL_law_207 rfl rfl ?_
  refine x_iconst (pc' := 209) (x := 1) dL_law_208 (by decide) rfl ?_
  refine x_iadd (pc' := 210) dL_law_209 rfl ?_
  refine xg_if h (fun g1 h => ?_)
  refine x_scld (pc' := 211) dL_law_210 (xok_in g1) rfl ?_
  refine x_aload_n (pc' := 212) dL_law_211 rfl rfl ?_
  refine x_iload_n (pc' := 213) dL_law_212 rfl rfl ?_
  refine x_iconst (pc' := 214) (x := 2) dL_law_213 (by decide) rfl ?_
  refine x_iadd (pc' := 215) dL_law_214 rfl ?_
  refine xg_if h (fun g2 h => ?_)
  refine x_scld (pc' := 216) dL_law_215 (xok_in g2) rfl ?_
  refine x_aload_n (pc' := 217) dL_law_216 rfl rfl ?_
  refine x_iload_n (pc' := 218) dL_law_217 rfl rfl ?_
  refine x_iconst (pc' := 219) (x := 3) dL_law_218 (by decide) rfl ?_
  refine x_iadd (pc' := 220) dL_law_219 rfl ?_
  refine xg_if h (fun g3 h => ?_)
  refine x_scld (pc' := 221) dL_law_220 (xok_in g3) rfl ?_
  refine x_aload_n (pc' := 222) dL_law_221 rfl rfl ?_
  refine x_iload_n (pc' := 223) dL_law_222 rfl rfl ?_
  refine x_iconst (pc' := 224) (x := 4) dL_law_223 (by decide) rfl ?_
  refine x_iadd (pc' := 225) dL_law_224 rfl ?_
  refine xg_if h (fun g4 h => ?_)
  refine x_scld (pc' := 226) dL_law_225 (xok_in g4) rfl ?_
  refine x_aload_n (pc' := 227) dL_law_226 rfl rfl ?_
  refine x_iload_n (pc' := 228) dL_law_227 rfl rfl ?_
  refine x_iconst (pc' := 229) (x := 5) dL_law_228 (by decide) rfl ?_
  refine x_iadd (pc' := 230) dL_law_229 rfl ?_
  refine xg_if h (fun g5 h => ?_)
  refine x_scld (pc' := 231) dL_law_230 (xok_in g5) rfl ?_
  refine xg_bI h (fun w7 hi7 hl7 r7 e6 h => ?_)
  refine x_callV (pc' := 234) (S := []) (As := [.int (z.2 (Int32.toNatClampNeg (v3 + (1 : Int32)))), .int (z.2 (Int32.toNatClampNeg (v3 + (2 : Int32)))), .int (z.2 (Int32.toNatClampNeg (v3 + (3 : Int32)))), .int (z.2 (Int32.toNatClampNeg (v3 + (4 : Int32)))), .int (z.2 (Int32.toNatClampNeg (v3 + (5 : Int32))))]) (b' := (2, 0, 0)) dL_law_231 l_L_18 m_X11_view rfl rfl (show 0 < 122 by decide) rfl (Nat.le_of_ble_eq_true rfl) (Nat.le_of_ble_eq_true rfl) (Nat.le_of_ble_eq_true rfl) (Nat.le_of_ble_eq_true rfl) (r_X11_view _ _ _ _ _ _ _ _ _ e6) rfl ?_
  refine x_aload_n (pc' := 235) dL_law_234 rfl rfl ?_
  refine x_aload_n (pc' := 236) dL_law_235 rfl rfl ?_
  refine x_iload_n (pc' := 237) dL_law_236 rfl rfl ?_
  refine x_iconst (pc' := 238) (x := 1) dL_law_237 (by decide) rfl ?_
  refine x_iadd (pc' := 239) dL_law_238 rfl ?_
  refine x_scld (pc' := 240) dL_law_239 (xok_in g1) rfl ?_
  refine x_aload_n (pc' := 241) dL_law_240 rfl rfl ?_
  refine x_iload_n (pc' := 242) dL_law_241 rfl rfl ?_
  refine x_iconst (pc' := 243) (x := 2) dL_law_242 (by decide) rfl ?_
  refine x_iadd (pc' := 244) dL_law_243 rfl ?_
  refine x_scld (pc' := 245) dL_law_244 (xok_in g2) rfl ?_
  refine x_aload_n (pc' := 246) dL_law_245 rfl rfl ?_
  refine x_iload_n (pc' := 247) dL_law_246 rfl rfl ?_
  refine x_iconst (pc' := 248) (x := 3) dL_law_247 (by decide) rfl ?_
  refine x_iadd (pc' := 249) dL_law_248 rfl ?_
  refine x_scld (pc' := 250) dL_law_249 (xok_in g3) rfl ?_
  refine x_aload_n (pc' := 251) dL_law_250 rfl rfl ?_
  refine x_iload_n (pc' := 252) dL_law_251 rfl rfl ?_
  refine x_iconst (pc' := 253) (x := 4) dL_law_252 (by decide) rfl ?_
  refine x_iadd (pc' := 254) dL_law_253 rfl ?_
  refine x_scld (pc' := 255) dL_law_254 (xok_in g4) rfl ?_
  refine x_aload_n (pc' := 256) dL_law_255 rfl rfl ?_
  refine x_iload_n (pc' := 257) dL_law_256 rfl rfl ?_
  refine x_iconst (pc' := 258) (x := 5) dL_law_257 (by decide) rfl ?_
  refine x_iadd (pc' := 259) dL_law_258 rfl ?_
  refine x_scld (pc' := 260) dL_law_259 (xok_in g5) rfl ?_
  refine xg_bI h (fun w9 hi9 hl9 r9 e8 h => ?_)
  refine x_callV (pc' := 263) (S := [.int w7]) (As := [.int (z.2 (Int32.toNatClampNeg (v3 + (1 : Int32)))), .int (z.2 (Int32.toNatClampNeg (v3 + (2 : Int32)))), .int (z.2 (Int32.toNatClampNeg (v3 + (3 : Int32)))), .int (z.2 (Int32.toNatClampNeg (v3 + (4 : Int32)))), .int (z.2 (Int32.toNatClampNeg (v3 + (5 : Int32))))]) (b' := (2, 0, 0)) dL_law_260 l_L_22 m_X12_view rfl rfl (show 90 < 122 by decide) rfl (Nat.le_of_ble_eq_true rfl) (Nat.le_of_ble_eq_true rfl) (Nat.le_of_ble_eq_true rfl) (Nat.le_of_ble_eq_true rfl) (r_X12_view _ _ _ _ _ _ _ _ _ e8) rfl ?_
  refine xg_ite h (fun g10 h => ?_) (fun g10 h => ?_)
  · refine x_icmp_eq (tgt := 1128) (pc' := 266) dL_law_263 (by decide) rfl (fun _ => ?_) (fun hn => absurd g10 hn)
    exact r_L_law_1128 K18 hK18 _ _ _ _ _ h
  · refine x_icmp_eq (tgt := 1128) (pc' := 266) dL_law_263 (by decide) rfl (fun hn => absurd hn g10) (fun _ => ?_)
    refine x_iconst (pc' := 267) (x := 0) dL_law_266 (by decide) rfl ?_
    obtain rfl := Option.some.inj h
    exact x_zret dL_law_267 rfl (Or.inl rfl) rfl (Nat.le_of_ble_eq_true rfl) rfl
def F_L_law_268 (z : xZ) (K18 : Int32 → (Nat → Nat → Int32) → (Nat → Nat → Int64) → xRr → Option (Int32 × xSt)) (v3 : Int32) (hi : Nat → Nat → Int32) (hl : Nat → Nat → Int64) (r : xRr) : Option (Int32 × xSt) := xbI (F_X11_clear hi hl r) (fun w2 hi2 hl2 r2 => xbI (F_X12_clear hi2 hl2 r2) (fun w4 hi4 hl4 r4 => if w2 = w4 then F_L_law_1128 z K18 v3 hi4 hl4 r4 else some ((0 : Int32), hi4, hl4, r4)))
set_option maxRecDepth 20000 in
set_option maxHeartbeats 2000000 in
theorem r_L_law_268 (K18 : Int32 → (Nat → Nat → Int32) → (Nat → Nat → Int64) → xRr → Option (Int32 × xSt)) (hK18 : ∀ (v3 : Int32) (hi : Nat → Nat → Int32) (hl : Nat → Nat → Int64) (r : xRr) (o : Int32 × xSt), K18 v3 hi hl r = some o → xR (RL, cL_law, 4, false, 3) (40, 122, 13196) z 122 13196 18 [some (.ref 1000003), some (.ref 0), some (.ref 90), some (.int v3)] [] (xhp hi hl r) (xoI o)) (v3 : Int32) (hi : Nat → Nat → Int32) (hl : Nat → Nat → Int64) (r : xRr) (o : Int32 × xSt) (h : F_L_law_268 z K18 v3 hi hl r = some o) : xR (RL, cL_law, 4, false, 3) (40, 122, 13196) z 122 13196 268 [some (.ref 1000003), some (.ref 0), some (.ref 90), some (.int v3)] [] (xhp hi hl r) (xoI o) := by
  refine x_aload_n (pc' := 269) dL_law_268 rfl rfl ?_
  refine xg_bI h (fun w2 hi2 hl2 r2 e1 h => ?_)
  refine x_callV (pc' := 272) (S := []) (As := []) (b' := (3, 0, 0)) dL_law_269 l_L_23 m_X11_clear rfl rfl (show 0 < 122 by decide) rfl (Nat.le_of_ble_eq_true rfl) (Nat.le_of_ble_eq_true rfl) (Nat.le_of_ble_eq_true rfl) (Nat.le_of_ble_eq_true rfl) (r_X11_clear _ _ _ _ e1) rfl ?_
  refine x_aload_n (pc' := 273) dL_law_272 rfl rfl ?_
  refine xg_bI h (fun w4 hi4 hl4 r4 e3 h => ?_)
  refine x_callV (pc' := 276) (S := [.int w2]) (As := []) (b' := (0, 0, 0)) dL_law_273 l_L_27 m_X12_clear rfl rfl (show 90 < 122 by decide) rfl (Nat.le_of_ble_eq_true rfl) (Nat.le_of_ble_eq_true rfl) (Nat.le_of_ble_eq_true rfl) (Nat.le_of_ble_eq_true rfl) (r_X12_clear _ _ _ _ e3) rfl ?_
  refine xg_ite h (fun g5 h => ?_) (fun g5 h => ?_)
  · refine x_icmp_eq (tgt := 1128) (pc' := 279) dL_law_276 (by decide) rfl (fun _ => ?_) (fun hn => absurd g5 hn)
    exact r_L_law_1128 K18 hK18 _ _ _ _ _ h
  · refine x_icmp_eq (tgt := 1128) (pc' := 279) dL_law_276 (by decide) rfl (fun hn => absurd hn g5) (fun _ => ?_)
    refine x_iconst (pc' := 280) (x := 0) dL_law_279 (by decide) rfl ?_
    obtain rfl := Option.some.inj h
    exact x_zret dL_law_280 rfl (Or.inl rfl) rfl (Nat.le_of_ble_eq_true rfl) rfl
def F_L_law_281 (z : xZ) (K18 : Int32 → (Nat → Nat → Int32) → (Nat → Nat → Int64) → xRr → Option (Int32 × xSt)) (v3 : Int32) (hi : Nat → Nat → Int32) (hl : Nat → Nat → Int64) (r : xRr) : Option (Int32 × xSt) := if xok (v3 + (1 : Int32)) z.1 = true then if xok (v3 + (2 : Int32)) z.1 = true then xbI (F_X11_reads (z.2 (Int32.toNatClampNeg (v3 + (1 : Int32)))) (z.2 (Int32.toNatClampNeg (v3 + (2 : Int32)))) hi hl r) (fun w4 hi4 hl4 r4 => xbI (F_X12_reads (z.2 (Int32.toNatClampNeg (v3 + (1 : Int32)))) (z.2 (Int32.toNatClampNeg (v3 + (2 : Int32)))) hi4 hl4 r4) (fun w6 hi6 hl6 r6 => if w4 = w6 then F_L_law_1128 z K18 v3 hi6 hl6 r6 else some ((0 : Int32), hi6, hl6, r6))) else none else none
set_option maxRecDepth 20000 in
set_option maxHeartbeats 2000000 in
theorem r_L_law_281 (K18 : Int32 → (Nat → Nat → Int32) → (Nat → Nat → Int64) → xRr → Option (Int32 × xSt)) (hK18 : ∀ (v3 : Int32) (hi : Nat → Nat → Int32) (hl : Nat → Nat → Int64) (r : xRr) (o : Int32 × xSt), K18 v3 hi hl r = some o → xR (RL, cL_law, 4, false, 3) (40, 122, 13196) z 122 13196 18 [some (.ref 1000003), some (.ref 0), some (.ref 90), some (.int v3)] [] (xhp hi hl r) (xoI o)) (v3 : Int32) (hi : Nat → Nat → Int32) (hl : Nat → Nat → Int64) (r : xRr) (o : Int32 × xSt) (h : F_L_law_281 z K18 v3 hi hl r = some o) : xR (RL, cL_law, 4, false, 3) (40, 122, 13196) z 122 13196 281 [some (.ref 1000003), some (.ref 0), some (.ref 90), some (.int v3)] [] (xhp hi hl r) (xoI o) := by
  refine x_aload_n (pc' := 282) dL_law_281 rfl rfl ?_
  refine x_aload_n (pc' := 283) dL_law_282 rfl rfl ?_
  refine x_iload_n (pc' := 284) dL_law_283 rfl rfl ?_
  refine x_iconst (pc' := 285) (x := 1) dL_law_284 (by decide) rfl ?_
  refine x_iadd (pc' := 286) dL_law_285 rfl ?_
  refine xg_if h (fun g1 h => ?_)
  refine x_scld (pc' := 287) dL_law_286 (xok_in g1) rfl ?_
  refine x_aload_n (pc' := 288) dL_law_287 rfl rfl ?_
  refine x_iload_n (pc' := 289) dL_law_288 rfl rfl ?_
  refine x_iconst (pc' := 290) (x := 2) dL_law_289 (by decide) rfl ?_
  refine x_iadd (pc' := 291) dL_law_290 rfl ?_
  refine xg_if h (fun g2 h => ?_)
  refine x_scld (pc' := 292) dL_law_291 (xok_in g2) rfl ?_
  refine xg_bI h (fun w4 hi4 hl4 r4 e3 h => ?_)
  refine x_callV (pc' := 295) (S := []) (As := [.int (z.2 (Int32.toNatClampNeg (v3 + (1 : Int32)))), .int (z.2 (Int32.toNatClampNeg (v3 + (2 : Int32))))]) (b' := (5, 0, 0)) dL_law_292 l_L_28 m_X11_reads rfl rfl (show 0 < 122 by decide) rfl (Nat.le_of_ble_eq_true rfl) (Nat.le_of_ble_eq_true rfl) (Nat.le_of_ble_eq_true rfl) (Nat.le_of_ble_eq_true rfl) (r_X11_reads _ _ _ _ _ _ e3) rfl ?_
  refine x_aload_n (pc' := 296) dL_law_295 rfl rfl ?_
  refine x_aload_n (pc' := 297) dL_law_296 rfl rfl ?_
  refine x_iload_n (pc' := 298) dL_law_297 rfl rfl ?_
  refine x_iconst (pc' := 299) (x := 1) dL_law_298 (by decide) rfl ?_
  refine x_iadd (pc' := 300) dL_law_299 rfl ?_
  refine x_scld (pc' := 301) dL_law_300 (xok_in g1) rfl ?_
  refine x_aload_n (pc' := 302) dL_law_301 rfl rfl ?_
  refine x_iload_n (pc' := 303) dL_law_302 rfl rfl ?_
  refine x_iconst (pc' := 304) (x := 2) dL_law_303 (by decide) rfl ?_
  refine x_iadd (pc' := 305) dL_law_304 rfl ?_
  refine x_scld (pc' := 306) dL_law_305 (xok_in g2) rfl ?_
  refine xg_bI h (fun w6 hi6 hl6 r6 e5 h => ?_)
  refine x_callV (pc' := 309) (S := [.int w4]) (As := [.int (z.2 (Int32.toNatClampNeg (v3 + (1 : Int32)))), .int (z.2 (Int32.toNatClampNeg (v3 + (2 : Int32))))]) (b' := (5, 0, 0)) dL_law_306 l_L_31 m_X12_reads rfl rfl (show 90 < 122 by decide) rfl (Nat.le_of_ble_eq_true rfl) (Nat.le_of_ble_eq_true rfl) (Nat.le_of_ble_eq_true rfl) (Nat.le_of_ble_eq_true rfl) (r_X12_reads _ _ _ _ _ _ e5) rfl ?_
  refine xg_ite h (fun g7 h => ?_) (fun g7 h => ?_)
  · refine x_icmp_eq (tgt := 1128) (pc' := 312) dL_law_309 (by decide) rfl (fun _ => ?_) (fun hn => absurd g7 hn)
    exact r_L_law_1128 K18 hK18 _ _ _ _ _ h
  · refine x_icmp_eq (tgt := 1128) (pc' := 312) dL_law_309 (by decide) rfl (fun hn => absurd hn g7) (fun _ => ?_)
    refine x_iconst (pc' := 313) (x := 0) dL_law_312 (by decide) rfl ?_
    obtain rfl := Option.some.inj h
    exact x_zret dL_law_313 rfl (Or.inl rfl) rfl (Nat.le_of_ble_eq_true rfl) rfl
def F_L_law_314 (z : xZ) (K18 : Int32 → (Nat → Nat → Int32) → (Nat → Nat → Int64) → xRr → Option (Int32 × xSt)) (v3 : Int32) (hi : Nat → Nat → Int32) (hl : Nat → Nat → Int64) (r : xRr) : Option (Int32 × xSt) := if xok (v3 + (1 : Int32)) z.1 = true then if xok (v3 + (2 : Int32)) z.1 = true then xbI (F_X11_looks (z.2 (Int32.toNatClampNeg (v3 + (1 : Int32)))) (z.2 (Int32.toNatClampNeg (v3 + (2 : Int32)))) hi hl r) (fun w4 hi4 hl4 r4 => xbI (F_X12_looks (z.2 (Int32.toNatClampNeg (v3 + (1 : Int32)))) (z.2 (Int32.toNatClampNeg (v3 + (2 : Int32)))) hi4 hl4 r4) (fun w6 hi6 hl6 r6 => if w4 = w6 then F_L_law_1128 z K18 v3 hi6 hl6 r6 else some ((0 : Int32), hi6, hl6, r6))) else none else none
set_option maxRecDepth 20000 in
set_option maxHeartbeats 2000000 in
theorem r_L_law_314 (K18 : Int32 → (Nat → Nat → Int32) → (Nat → Nat → Int64) → xRr → Option (Int32 × xSt)) (hK18 : ∀ (v3 : Int32) (hi : Nat → Nat → Int32) (hl : Nat → Nat → Int64) (r : xRr) (o : Int32 × xSt), K18 v3 hi hl r = some o → xR (RL, cL_law, 4, false, 3) (40, 122, 13196) z 122 13196 18 [some (.ref 1000003), some (.ref 0), some (.ref 90), some (.int v3)] [] (xhp hi hl r) (xoI o)) (v3 : Int32) (hi : Nat → Nat → Int32) (hl : Nat → Nat → Int64) (r : xRr) (o : Int32 × xSt) (h : F_L_law_314 z K18 v3 hi hl r = some o) : xR (RL, cL_law, 4, false, 3) (40, 122, 13196) z 122 13196 314 [some (.ref 1000003), some (.ref 0), some (.ref 90), some (.int v3)] [] (xhp hi hl r) (xoI o) := by
  refine x_aload_n (pc' := 315) dL_law_314 rfl rfl ?_
  refine x_aload_n (pc' := 316) dL_law_315 rfl rfl ?_
  refine x_iload_n (pc' := 317) dL_law_316 rfl rfl ?_
  refine x_iconst (pc' := 318) (x := 1) dL_law_317 (by decide) rfl ?_
  refine x_iadd (pc' := 319) dL_law_318 rfl ?_
  refine xg_if h (fun g1 h => ?_)
  refine x_scld (pc' := 320) dL_law_319 (xok_in g1) rfl ?_
  refine x_aload_n (pc' := 321) dL_law_320 rfl rfl ?_
  refine x_iload_n (pc' := 322) dL_law_321 rfl rfl ?_
  refine x_iconst (pc' := 323) (x := 2) dL_law_322 (by decide) rfl ?_
  refine x_iadd (pc' := 324) dL_law_323 rfl ?_
  refine xg_if h (fun g2 h => ?_)
  refine x_scld (pc' := 325) dL_law_324 (xok_in g2) rfl ?_
  refine xg_bI h (fun w4 hi4 hl4 r4 e3 h => ?_)
  refine x_callV (pc' := 328) (S := []) (As := [.int (z.2 (Int32.toNatClampNeg (v3 + (1 : Int32)))), .int (z.2 (Int32.toNatClampNeg (v3 + (2 : Int32))))]) (b' := (4, 0, 0)) dL_law_325 l_L_32 m_X11_looks rfl rfl (show 0 < 122 by decide) rfl (Nat.le_of_ble_eq_true rfl) (Nat.le_of_ble_eq_true rfl) (Nat.le_of_ble_eq_true rfl) (Nat.le_of_ble_eq_true rfl) (r_X11_looks _ _ _ _ _ _ e3) rfl ?_
  refine x_aload_n (pc' := 329) dL_law_328 rfl rfl ?_
  refine x_aload_n (pc' := 330) dL_law_329 rfl rfl ?_
  refine x_iload_n (pc' := 331) dL_law_330 rfl rfl ?_
  refine x_iconst (pc' := 332) (x := 1) dL_law_331 (by decide) rfl ?_
  refine x_iadd (pc' := 333) dL_law_332 rfl ?_
  refine x_scld (pc' := 334) dL_law_333 (xok_in g1) rfl ?_
  refine x_aload_n (pc' := 335) dL_law_334 rfl rfl ?_
  refine x_iload_n (pc' := 336) dL_law_335 rfl rfl ?_
  refine x_iconst (pc' := 337) (x := 2) dL_law_336 (by decide) rfl ?_
  refine x_iadd (pc' := 338) dL_law_337 rfl ?_
  refine x_scld (pc' := 339) dL_law_338 (xok_in g2) rfl ?_
  refine xg_bI h (fun w6 hi6 hl6 r6 e5 h => ?_)
  refine x_callV (pc' := 342) (S := [.int w4]) (As := [.int (z.2 (Int32.toNatClampNeg (v3 + (1 : Int32)))), .int (z.2 (Int32.toNatClampNeg (v3 + (2 : Int32))))]) (b' := (2, 0, 0)) dL_law_339 l_L_35 m_X12_looks rfl rfl (show 90 < 122 by decide) rfl (Nat.le_of_ble_eq_true rfl) (Nat.le_of_ble_eq_true rfl) (Nat.le_of_ble_eq_true rfl) (Nat.le_of_ble_eq_true rfl) (r_X12_looks _ _ _ _ _ _ e5) rfl ?_
  refine xg_ite h (fun g7 h => ?_) (fun g7 h => ?_)
  · refine x_icmp_eq (tgt := 1128) (pc' := 345) dL_law_342 (by decide) rfl (fun _ => ?_) (fun hn => absurd g7 hn)
    exact r_L_law_1128 K18 hK18 _ _ _ _ _ h
  · refine x_icmp_eq (tgt := 1128) (pc' := 345) dL_law_342 (by decide) rfl (fun hn => absurd hn g7) (fun _ => ?_)
    refine x_iconst (pc' := 346) (x := 0) dL_law_345 (by decide) rfl ?_
    obtain rfl := Option.some.inj h
    exact x_zret dL_law_346 rfl (Or.inl rfl) rfl (Nat.le_of_ble_eq_true rfl) rfl
def F_L_law_347 (z : xZ) (K18 : Int32 → (Nat → Nat → Int32) → (Nat → Nat → Int64) → xRr → Option (Int32 × xSt)) (v3 : Int32) (hi : Nat → Nat → Int32) (hl : Nat → Nat → Int64) (r : xRr) : Option (Int32 × xSt) := xbL (F_X11_number hi hl r) (fun w2 hi2 hl2 r2 => xbL (F_X12_number hi2 hl2 r2) (fun w4 hi4 hl4 r4 => if (lg_cmp w2 w4) = 0 then F_L_law_1128 z K18 v3 hi4 hl4 r4 else some ((0 : Int32), hi4, hl4, r4)))
set_option maxRecDepth 20000 in
set_option maxHeartbeats 2000000 in
theorem r_L_law_347 (K18 : Int32 → (Nat → Nat → Int32) → (Nat → Nat → Int64) → xRr → Option (Int32 × xSt)) (hK18 : ∀ (v3 : Int32) (hi : Nat → Nat → Int32) (hl : Nat → Nat → Int64) (r : xRr) (o : Int32 × xSt), K18 v3 hi hl r = some o → xR (RL, cL_law, 4, false, 3) (40, 122, 13196) z 122 13196 18 [some (.ref 1000003), some (.ref 0), some (.ref 90), some (.int v3)] [] (xhp hi hl r) (xoI o)) (v3 : Int32) (hi : Nat → Nat → Int32) (hl : Nat → Nat → Int64) (r : xRr) (o : Int32 × xSt) (h : F_L_law_347 z K18 v3 hi hl r = some o) : xR (RL, cL_law, 4, false, 3) (40, 122, 13196) z 122 13196 347 [some (.ref 1000003), some (.ref 0), some (.ref 90), some (.int v3)] [] (xhp hi hl r) (xoI o) := by
  refine x_aload_n (pc' := 348) dL_law_347 rfl rfl ?_
  refine xg_bL h (fun w2 hi2 hl2 r2 e1 h => ?_)
  refine x_callV (pc' := 351) (S := []) (As := []) (b' := (0, 0, 0)) dL_law_348 l_L_36 m_X11_number rfl rfl (show 0 < 122 by decide) rfl (Nat.le_of_ble_eq_true rfl) (Nat.le_of_ble_eq_true rfl) (Nat.le_of_ble_eq_true rfl) (Nat.le_of_ble_eq_true rfl) (r_X11_number _ _ _ _ e1) rfl ?_
  refine x_aload_n (pc' := 352) dL_law_351 rfl rfl ?_
  refine xg_bL h (fun w4 hi4 hl4 r4 e3 h => ?_)
  refine x_callV (pc' := 355) (S := [.long w2]) (As := []) (b' := (0, 0, 0)) dL_law_352 l_L_40 m_X12_number rfl rfl (show 90 < 122 by decide) rfl (Nat.le_of_ble_eq_true rfl) (Nat.le_of_ble_eq_true rfl) (Nat.le_of_ble_eq_true rfl) (Nat.le_of_ble_eq_true rfl) (r_X12_number _ _ _ _ e3) rfl ?_
  refine x_lcmp (pc' := 356) dL_law_355 rfl ?_
  refine xg_ite h (fun g5 h => ?_) (fun g5 h => ?_)
  · refine x_if_eq (tgt := 1128) (pc' := 359) dL_law_356 (by decide) rfl (fun _ => ?_) (fun hn => absurd g5 hn)
    exact r_L_law_1128 K18 hK18 _ _ _ _ _ h
  · refine x_if_eq (tgt := 1128) (pc' := 359) dL_law_356 (by decide) rfl (fun hn => absurd hn g5) (fun _ => ?_)
    refine x_iconst (pc' := 360) (x := 0) dL_law_359 (by decide) rfl ?_
    obtain rfl := Option.some.inj h
    exact x_zret dL_law_360 rfl (Or.inl rfl) rfl (Nat.le_of_ble_eq_true rfl) rfl
def F_L_law_361 (z : xZ) (K18 : Int32 → (Nat → Nat → Int32) → (Nat → Nat → Int64) → xRr → Option (Int32 × xSt)) (v3 : Int32) (hi : Nat → Nat → Int32) (hl : Nat → Nat → Int64) (r : xRr) : Option (Int32 × xSt) := xbI (F_X11_kind hi hl r) (fun w2 hi2 hl2 r2 => xbI (F_X12_kind hi2 hl2 r2) (fun w4 hi4 hl4 r4 => if w2 = w4 then F_L_law_1128 z K18 v3 hi4 hl4 r4 else some ((0 : Int32), hi4, hl4, r4)))
set_option maxRecDepth 20000 in
set_option maxHeartbeats 2000000 in
theorem r_L_law_361 (K18 : Int32 → (Nat → Nat → Int32) → (Nat → Nat → Int64) → xRr → Option (Int32 × xSt)) (hK18 : ∀ (v3 : Int32) (hi : Nat → Nat → Int32) (hl : Nat → Nat → Int64) (r : xRr) (o : Int32 × xSt), K18 v3 hi hl r = some o → xR (RL, cL_law, 4, false, 3) (40, 122, 13196) z 122 13196 18 [some (.ref 1000003), some (.ref 0), some (.ref 90), some (.int v3)] [] (xhp hi hl r) (xoI o)) (v3 : Int32) (hi : Nat → Nat → Int32) (hl : Nat → Nat → Int64) (r : xRr) (o : Int32 × xSt) (h : F_L_law_361 z K18 v3 hi hl r = some o) : xR (RL, cL_law, 4, false, 3) (40, 122, 13196) z 122 13196 361 [some (.ref 1000003), some (.ref 0), some (.ref 90), some (.int v3)] [] (xhp hi hl r) (xoI o) := by
  refine x_aload_n (pc' := 362) dL_law_361 rfl rfl ?_
  refine xg_bI h (fun w2 hi2 hl2 r2 e1 h => ?_)
  refine x_callV (pc' := 365) (S := []) (As := []) (b' := (0, 0, 0)) dL_law_362 l_L_41 m_X11_kind rfl rfl (show 0 < 122 by decide) rfl (Nat.le_of_ble_eq_true rfl) (Nat.le_of_ble_eq_true rfl) (Nat.le_of_ble_eq_true rfl) (Nat.le_of_ble_eq_true rfl) (r_X11_kind _ _ _ _ e1) rfl ?_
  refine x_aload_n (pc' := 366) dL_law_365 rfl rfl ?_
  refine xg_bI h (fun w4 hi4 hl4 r4 e3 h => ?_)
  refine x_callV (pc' := 369) (S := [.int w2]) (As := []) (b' := (0, 0, 0)) dL_law_366 l_L_44 m_X12_kind rfl rfl (show 90 < 122 by decide) rfl (Nat.le_of_ble_eq_true rfl) (Nat.le_of_ble_eq_true rfl) (Nat.le_of_ble_eq_true rfl) (Nat.le_of_ble_eq_true rfl) (r_X12_kind _ _ _ _ e3) rfl ?_
  refine xg_ite h (fun g5 h => ?_) (fun g5 h => ?_)
  · refine x_icmp_eq (tgt := 1128) (pc' := 372) dL_law_369 (by decide) rfl (fun _ => ?_) (fun hn => absurd g5 hn)
    exact r_L_law_1128 K18 hK18 _ _ _ _ _ h
  · refine x_icmp_eq (tgt := 1128) (pc' := 372) dL_law_369 (by decide) rfl (fun hn => absurd hn g5) (fun _ => ?_)
    refine x_iconst (pc' := 373) (x := 0) dL_law_372 (by decide) rfl ?_
    obtain rfl := Option.some.inj h
    exact x_zret dL_law_373 rfl (Or.inl rfl) rfl (Nat.le_of_ble_eq_true rfl) rfl
def F_L_law_374 (z : xZ) (K18 : Int32 → (Nat → Nat → Int32) → (Nat → Nat → Int64) → xRr → Option (Int32 × xSt)) (v3 : Int32) (hi : Nat → Nat → Int32) (hl : Nat → Nat → Int64) (r : xRr) : Option (Int32 × xSt) := if xok (v3 + (1 : Int32)) z.1 = true then if xok (v3 + (2 : Int32)) z.1 = true then if xok (v3 + (3 : Int32)) z.1 = true then if xok (v3 + (4 : Int32)) z.1 = true then if xok (v3 + (5 : Int32)) z.1 = true then if xok (v3 + (6 : Int32)) z.1 = true then xbI (F_X11_writes (z.2 (Int32.toNatClampNeg (v3 + (1 : Int32)))) (z.2 (Int32.toNatClampNeg (v3 + (2 : Int32)))) (z.2 (Int32.toNatClampNeg (v3 + (3 : Int32)))) (z.2 (Int32.toNatClampNeg (v3 + (4 : Int32)))) (((Int32.toInt64 (z.2 (Int32.toNatClampNeg (v3 + (5 : Int32))))) <<< ((Int32.toInt64 (32 : Int32)) &&& 63)) ||| ((Int32.toInt64 (z.2 (Int32.toNatClampNeg (v3 + (6 : Int32))))) &&& (4294967295 : Int64))) hi hl r) (fun w8 hi8 hl8 r8 => xbI (F_X12_writes (z.2 (Int32.toNatClampNeg (v3 + (1 : Int32)))) (z.2 (Int32.toNatClampNeg (v3 + (2 : Int32)))) (z.2 (Int32.toNatClampNeg (v3 + (3 : Int32)))) (z.2 (Int32.toNatClampNeg (v3 + (4 : Int32)))) (((Int32.toInt64 (z.2 (Int32.toNatClampNeg (v3 + (5 : Int32))))) <<< ((Int32.toInt64 (32 : Int32)) &&& 63)) ||| ((Int32.toInt64 (z.2 (Int32.toNatClampNeg (v3 + (6 : Int32))))) &&& (4294967295 : Int64))) hi8 hl8 r8) (fun w10 hi10 hl10 r10 => if w8 = w10 then F_L_law_1128 z K18 v3 hi10 hl10 r10 else some ((0 : Int32), hi10, hl10, r10))) else none else none else none else none else none else none
set_option maxRecDepth 20000 in
set_option maxHeartbeats 2000000 in
theorem r_L_law_374 (K18 : Int32 → (Nat → Nat → Int32) → (Nat → Nat → Int64) → xRr → Option (Int32 × xSt)) (hK18 : ∀ (v3 : Int32) (hi : Nat → Nat → Int32) (hl : Nat → Nat → Int64) (r : xRr) (o : Int32 × xSt), K18 v3 hi hl r = some o → xR (RL, cL_law, 4, false, 3) (40, 122, 13196) z 122 13196 18 [some (.ref 1000003), some (.ref 0), some (.ref 90), some (.int v3)] [] (xhp hi hl r) (xoI o)) (v3 : Int32) (hi : Nat → Nat → Int32) (hl : Nat → Nat → Int64) (r : xRr) (o : Int32 × xSt) (h : F_L_law_374 z K18 v3 hi hl r = some o) : xR (RL, cL_law, 4, false, 3) (40, 122, 13196) z 122 13196 374 [some (.ref 1000003), some (.ref 0), some (.ref 90), some (.int v3)] [] (xhp hi hl r) (xoI o) := by
  refine x_aload_n (pc' := 375) dL_law_374 rfl rfl ?_
  refine x_aload_n (pc' := 376) dL_law_375 rfl rfl ?_
  refine x_iload_n (pc' := 377) dL_law_376 rfl rfl ?_
  refine x_iconst (pc' := 378) (x := 1) dL_law_377 (by decide) rfl ?_
  refine x_iadd (pc' := 379) dL_law_378 rfl ?_
  refine xg_if h (fun g1 h => ?_)
  refine x_scld (pc' := 380) dL_law_379 (xok_in g1) rfl ?_
  refine x_aload_n (pc' := 381) dL_law_380 rfl rfl ?_
  refine x_iload_n (pc' := 382) dL_law_381 rfl rfl ?_
  refine x_iconst (pc' := 383) (x := 2) dL_law_382 (by decide) rfl ?_
  refine x_iadd (pc' := 384) dL_law_383 rfl ?_
  refine xg_if h (fun g2 h => ?_)
  refine x_scld (pc' := 385) dL_law_384 (xok_in g2) rfl ?_
  refine x_aload_n (pc' := 386) dL_law_385 rfl rfl ?_
  refine x_iload_n (pc' := 387) dL_law_386 rfl rfl ?_
  refine x_iconst (pc' := 388) (x := 3) dL_law_387 (by decide) rfl ?_
  refine x_iadd (pc' := 389) dL_law_388 rfl ?_
  refine xg_if h (fun g3 h => ?_)
  refine x_scld (pc' := 390) dL_law_389 (xok_in g3) rfl ?_
  refine x_aload_n (pc' := 391) dL_law_390 rfl rfl ?_
  refine x_iload_n (pc' := 392) dL_law_391 rfl rfl ?_
  refine x_iconst (pc' := 393) (x := 4) dL_law_392 (by decide) rfl ?_
  refine x_iadd (pc' := 394) dL_law_393 rfl ?_
  refine xg_if h (fun g4 h => ?_)
  refine x_scld (pc' := 395) dL_law_394 (xok_in g4) rfl ?_
  refine x_aload_n (pc' := 396) dL_law_395 rfl rfl ?_
  refine x_iload_n (pc' := 397) dL_law_396 rfl rfl ?_
  refine x_iconst (pc' := 398) (x := 5) dL_law_397 (by decide) rfl ?_
  refine x_iadd (pc' := 399) dL_law_398 rfl ?_
  refine xg_if h (fun g5 h => ?_)
  refine x_scld (pc' := 400) dL_law_399 (xok_in g5) rfl ?_
  refine x_i2l (pc' := 401) dL_law_400 rfl ?_
  refine x_bipush (pc' := 403) (x := 32) dL_law_401 (by decide) rfl ?_
  refine x_lshl (pc' := 404) dL_law_403 rfl ?_
  refine x_aload_n (pc' := 405) dL_law_404 rfl rfl ?_
  refine x_iload_n (pc' := 406) dL_law_405 rfl rfl ?_
  refine x_bipush (pc' := 408) (x := 6) dL_law_406 (by decide) rfl ?_
  refine x_iadd (pc' := 409) dL_law_408 rfl ?_
  refine xg_if h (fun g6 h => ?_)
  refine x_scld (pc' := 410) dL_law_409 (xok_in g6) rfl ?_
  refine x_i2l (pc' := 411) dL_law_410 rfl ?_
  refine x_ldc2 (pc' := 414) dL_law_411 k_L_45 rfl ?_
  refine x_land (pc' := 415) dL_law_414 rfl ?_
  refine x_lor (pc' := 416) dL_law_415 rfl ?_
  refine xg_bI h (fun w8 hi8 hl8 r8 e7 h => ?_)
  refine x_callV (pc' := 419) (S := []) (As := [.int (z.2 (Int32.toNatClampNeg (v3 + (1 : Int32)))), .int (z.2 (Int32.toNatClampNeg (v3 + (2 : Int32)))), .int (z.2 (Int32.toNatClampNeg (v3 + (3 : Int32)))), .int (z.2 (Int32.toNatClampNeg (v3 + (4 : Int32)))), .long (((Int32.toInt64 (z.2 (Int32.toNatClampNeg (v3 + (5 : Int32))))) <<< ((Int32.toInt64 (32 : Int32)) &&& 63)) ||| ((Int32.toInt64 (z.2 (Int32.toNatClampNeg (v3 + (6 : Int32))))) &&& (4294967295 : Int64)))]) (b' := (5, 0, 0)) dL_law_416 l_L_47 m_X11_writes rfl rfl (show 0 < 122 by decide) rfl (Nat.le_of_ble_eq_true rfl) (Nat.le_of_ble_eq_true rfl) (Nat.le_of_ble_eq_true rfl) (Nat.le_of_ble_eq_true rfl) (r_X11_writes _ _ _ _ _ _ _ _ _ e7) rfl ?_
  refine x_aload_n (pc' := 420) dL_law_419 rfl rfl ?_
  refine x_aload_n (pc' := 421) dL_law_420 rfl rfl ?_
  refine x_iload_n (pc' := 422) dL_law_421 rfl rfl ?_
  refine x_iconst (pc' := 423) (x := 1) dL_law_422 (by decide) rfl ?_
  refine x_iadd (pc' := 424) dL_law_423 rfl ?_
  refine x_scld (pc' := 425) dL_law_424 (xok_in g1) rfl ?_
  refine x_aload_n (pc' := 426) dL_law_425 rfl rfl ?_
  refine x_iload_n (pc' := 427) dL_law_426 rfl rfl ?_
  refine x_iconst (pc' := 428) (x := 2) dL_law_427 (by decide) rfl ?_
  refine x_iadd (pc' := 429) dL_law_428 rfl ?_
  refine x_scld (pc' := 430) dL_law_429 (xok_in g2) rfl ?_
  refine x_aload_n (pc' := 431) dL_law_430 rfl rfl ?_
  refine x_iload_n (pc' := 432) dL_law_431 rfl rfl ?_
  refine x_iconst (pc' := 433) (x := 3) dL_law_432 (by decide) rfl ?_
  refine x_iadd (pc' := 434) dL_law_433 rfl ?_
  refine x_scld (pc' := 435) dL_law_434 (xok_in g3) rfl ?_
  refine x_aload_n (pc' := 436) dL_law_435 rfl rfl ?_
  refine x_iload_n (pc' := 437) dL_law_436 rfl rfl ?_
  refine x_iconst (pc' := 438) (x := 4) dL_law_437 (by decide) rfl ?_
  refine x_iadd (pc' := 439) dL_law_438 rfl ?_
  refine x_scld (pc' := 440) dL_law_439 (xok_in g4) rfl ?_
  refine x_aload_n (pc' := 441) dL_law_440 rfl rfl ?_
  refine x_iload_n (pc' := 442) dL_law_441 rfl rfl ?_
  refine x_iconst (pc' := 443) (x := 5) dL_law_442 (by decide) rfl ?_
  refine x_iadd (pc' := 444) dL_law_443 rfl ?_
  refine x_scld (pc' := 445) dL_law_444 (xok_in g5) rfl ?_
  refine x_i2l (pc' := 446) dL_law_445 rfl ?_
  refine x_bipush (pc' := 448) (x := 32) dL_law_446 (by decide) rfl ?_
  refine x_lshl (pc' := 449) dL_law_448 rfl ?_
  refine x_aload_n (pc' := 450) dL_law_449 rfl rfl ?_
  refine x_iload_n (pc' := 451) dL_law_450 rfl rfl ?_
  refine x_bipush (pc' := 453) (x := 6) dL_law_451 (by decide) rfl ?_
  refine x_iadd (pc' := 454) dL_law_453 rfl ?_
  refine x_scld (pc' := 455) dL_law_454 (xok_in g6) rfl ?_
  refine x_i2l (pc' := 456) dL_law_455 rfl ?_
  refine x_ldc2 (pc' := 459) dL_law_456 k_L_45 rfl ?_
  refine x_land (pc' := 460) dL_law_459 rfl ?_
  refine x_lor (pc' := 461) dL_law_460 rfl ?_
  refine xg_bI h (fun w10 hi10 hl10 r10 e9 h => ?_)
  refine x_callV (pc' := 464) (S := [.int w8]) (As := [.int (z.2 (Int32.toNatClampNeg (v3 + (1 : Int32)))), .int (z.2 (Int32.toNatClampNeg (v3 + (2 : Int32)))), .int (z.2 (Int32.toNatClampNeg (v3 + (3 : Int32)))), .int (z.2 (Int32.toNatClampNeg (v3 + (4 : Int32)))), .long (((Int32.toInt64 (z.2 (Int32.toNatClampNeg (v3 + (5 : Int32))))) <<< ((Int32.toInt64 (32 : Int32)) &&& 63)) ||| ((Int32.toInt64 (z.2 (Int32.toNatClampNeg (v3 + (6 : Int32))))) &&& (4294967295 : Int64)))]) (b' := (5, 0, 0)) dL_law_461 l_L_51 m_X12_writes rfl rfl (show 90 < 122 by decide) rfl (Nat.le_of_ble_eq_true rfl) (Nat.le_of_ble_eq_true rfl) (Nat.le_of_ble_eq_true rfl) (Nat.le_of_ble_eq_true rfl) (r_X12_writes _ _ _ _ _ _ _ _ _ e9) rfl ?_
  refine xg_ite h (fun g11 h => ?_) (fun g11 h => ?_)
  · refine x_icmp_eq (tgt := 1128) (pc' := 467) dL_law_464 (by decide) rfl (fun _ => ?_) (fun hn => absurd g11 hn)
    exact r_L_law_1128 K18 hK18 _ _ _ _ _ h
  · refine x_icmp_eq (tgt := 1128) (pc' := 467) dL_law_464 (by decide) rfl (fun hn => absurd hn g11) (fun _ => ?_)
    refine x_iconst (pc' := 468) (x := 0) dL_law_467 (by decide) rfl ?_
    obtain rfl := Option.some.inj h
    exact x_zret dL_law_468 rfl (Or.inl rfl) rfl (Nat.le_of_ble_eq_true rfl) rfl
def F_L_law_469 (z : xZ) (K18 : Int32 → (Nat → Nat → Int32) → (Nat → Nat → Int64) → xRr → Option (Int32 × xSt)) (v3 : Int32) (hi : Nat → Nat → Int32) (hl : Nat → Nat → Int64) (r : xRr) : Option (Int32 × xSt) := if xok (v3 + (1 : Int32)) z.1 = true then if xok (v3 + (2 : Int32)) z.1 = true then if xok (v3 + (3 : Int32)) z.1 = true then if xok (v3 + (4 : Int32)) z.1 = true then if xok (v3 + (5 : Int32)) z.1 = true then xbI (F_X11_does (z.2 (Int32.toNatClampNeg (v3 + (1 : Int32)))) (z.2 (Int32.toNatClampNeg (v3 + (2 : Int32)))) (z.2 (Int32.toNatClampNeg (v3 + (3 : Int32)))) (z.2 (Int32.toNatClampNeg (v3 + (4 : Int32)))) (z.2 (Int32.toNatClampNeg (v3 + (5 : Int32)))) hi hl r) (fun w7 hi7 hl7 r7 => xbI (F_X12_does (z.2 (Int32.toNatClampNeg (v3 + (1 : Int32)))) (z.2 (Int32.toNatClampNeg (v3 + (2 : Int32)))) (z.2 (Int32.toNatClampNeg (v3 + (3 : Int32)))) (z.2 (Int32.toNatClampNeg (v3 + (4 : Int32)))) (z.2 (Int32.toNatClampNeg (v3 + (5 : Int32)))) hi7 hl7 r7) (fun w9 hi9 hl9 r9 => if w7 = w9 then F_L_law_1128 z K18 v3 hi9 hl9 r9 else some ((0 : Int32), hi9, hl9, r9))) else none else none else none else none else none
set_option maxRecDepth 20000 in
set_option maxHeartbeats 2000000 in
theorem r_L_law_469 (K18 : Int32 → (Nat → Nat → Int32) → (Nat → Nat → Int64) → xRr → Option (Int32 × xSt)) (hK18 : ∀ (v3 : Int32) (hi : Nat → Nat → Int32) (hl : Nat → Nat → Int64) (r : xRr) (o : Int32 × xSt), K18 v3 hi hl r = some o → xR (RL, cL_law, 4, false, 3) (40, 122, 13196) z 122 13196 18 [some (.ref 1000003), some (.ref 0), some (.ref 90), some (.int v3)] [] (xhp hi hl r) (xoI o)) (v3 : Int32) (hi : Nat → Nat → Int32) (hl : Nat → Nat → Int64) (r : xRr) (o : Int32 × xSt) (h : F_L_law_469 z K18 v3 hi hl r = some o) : xR (RL, cL_law, 4, false, 3) (40, 122, 13196) z 122 13196 469 [some (.ref 1000003), some (.ref 0), some (.ref 90), some (.int v3)] [] (xhp hi hl r) (xoI o) := by
  refine x_aload_n (pc' := 470) dL_law_469 rfl rfl ?_
  refine x_aload_n (pc' := 471) dL_law_470 rfl rfl ?_
  refine x_iload_n (pc' := 472) dL_law_471 rfl rfl ?_
  refine x_iconst (pc' := 473) (x := 1) dL_law_472 (by decide) rfl ?_
  refine x_iadd (pc' := 474) dL_law_473 rfl ?_
  refine xg_if h (fun g1 h => ?_)
  refine x_scld (pc' := 475) dL_law_474 (xok_in g1) rfl ?_
  refine x_aload_n (pc' := 476) dL_law_475 rfl rfl ?_
  refine x_iload_n (pc' := 477) dL_law_476 rfl rfl ?_
  refine x_iconst (pc' := 478) (x := 2) dL_law_477 (by decide) rfl ?_
  refine x_iadd (pc' := 479) dL_law_478 rfl ?_
  refine xg_if h (fun g2 h => ?_)
  refine x_scld (pc' := 480) dL_law_479 (xok_in g2) rfl ?_
  refine x_aload_n (pc' := 481) dL_law_480 rfl rfl ?_
  refine x_iload_n (pc' := 482) dL_law_481 rfl rfl ?_
  refine x_iconst (pc' := 483) (x := 3) dL_law_482 (by decide) rfl ?_
  refine x_iadd (pc' := 484) dL_law_483 rfl ?_
  refine xg_if h (fun g3 h => ?_)
  refine x_scld (pc' := 485) dL_law_484 (xok_in g3) rfl ?_
  refine x_aload_n (pc' := 486) dL_law_485 rfl rfl ?_
  refine x_iload_n (pc' := 487) dL_law_486 rfl rfl ?_
  refine x_iconst (pc' := 488) (x := 4) dL_law_487 (by decide) rfl ?_
  refine x_iadd (pc' := 489) dL_law_488 rfl ?_
  refine xg_if h (fun g4 h => ?_)
  refine x_scld (pc' := 490) dL_law_489 (xok_in g4) rfl ?_
  refine x_aload_n (pc' := 491) dL_law_490 rfl rfl ?_
  refine x_iload_n (pc' := 492) dL_law_491 rfl rfl ?_
  refine x_iconst (pc' := 493) (x := 5) dL_law_492 (by decide) rfl ?_
  refine x_iadd (pc' := 494) dL_law_493 rfl ?_
  refine xg_if h (fun g5 h => ?_)
  refine x_scld (pc' := 495) dL_law_494 (xok_in g5) rfl ?_
  refine xg_bI h (fun w7 hi7 hl7 r7 e6 h => ?_)
  refine x_callV (pc' := 498) (S := []) (As := [.int (z.2 (Int32.toNatClampNeg (v3 + (1 : Int32)))), .int (z.2 (Int32.toNatClampNeg (v3 + (2 : Int32)))), .int (z.2 (Int32.toNatClampNeg (v3 + (3 : Int32)))), .int (z.2 (Int32.toNatClampNeg (v3 + (4 : Int32)))), .int (z.2 (Int32.toNatClampNeg (v3 + (5 : Int32))))]) (b' := (7, 0, 0)) dL_law_495 l_L_52 m_X11_does rfl rfl (show 0 < 122 by decide) rfl (Nat.le_of_ble_eq_true rfl) (Nat.le_of_ble_eq_true rfl) (Nat.le_of_ble_eq_true rfl) (Nat.le_of_ble_eq_true rfl) (r_X11_does _ _ _ _ _ _ _ _ _ e6) rfl ?_
  refine x_aload_n (pc' := 499) dL_law_498 rfl rfl ?_
  refine x_aload_n (pc' := 500) dL_law_499 rfl rfl ?_
  refine x_iload_n (pc' := 501) dL_law_500 rfl rfl ?_
  refine x_iconst (pc' := 502) (x := 1) dL_law_501 (by decide) rfl ?_
  refine x_iadd (pc' := 503) dL_law_502 rfl ?_
  refine x_scld (pc' := 504) dL_law_503 (xok_in g1) rfl ?_
  refine x_aload_n (pc' := 505) dL_law_504 rfl rfl ?_
  refine x_iload_n (pc' := 506) dL_law_505 rfl rfl ?_
  refine x_iconst (pc' := 507) (x := 2) dL_law_506 (by decide) rfl ?_
  refine x_iadd (pc' := 508) dL_law_507 rfl ?_
  refine x_scld (pc' := 509) dL_law_508 (xok_in g2) rfl ?_
  refine x_aload_n (pc' := 510) dL_law_509 rfl rfl ?_
  refine x_iload_n (pc' := 511) dL_law_510 rfl rfl ?_
  refine x_iconst (pc' := 512) (x := 3) dL_law_511 (by decide) rfl ?_
  refine x_iadd (pc' := 513) dL_law_512 rfl ?_
  refine x_scld (pc' := 514) dL_law_513 (xok_in g3) rfl ?_
  refine x_aload_n (pc' := 515) dL_law_514 rfl rfl ?_
  refine x_iload_n (pc' := 516) dL_law_515 rfl rfl ?_
  refine x_iconst (pc' := 517) (x := 4) dL_law_516 (by decide) rfl ?_
  refine x_iadd (pc' := 518) dL_law_517 rfl ?_
  refine x_scld (pc' := 519) dL_law_518 (xok_in g4) rfl ?_
  refine x_aload_n (pc' := 520) dL_law_519 rfl rfl ?_
  refine x_iload_n (pc' := 521) dL_law_520 rfl rfl ?_
  refine x_iconst (pc' := 522) (x := 5) dL_law_521 (by decide) rfl ?_
  refine x_iadd (pc' := 523) dL_law_522 rfl ?_
  refine x_scld (pc' := 524) dL_law_523 (xok_in g5) rfl ?_
  refine xg_bI h (fun w9 hi9 hl9 r9 e8 h => ?_)
  refine x_callV (pc' := 527) (S := [.int w7]) (As := [.int (z.2 (Int32.toNatClampNeg (v3 + (1 : Int32)))), .int (z.2 (Int32.toNatClampNeg (v3 + (2 : Int32)))), .int (z.2 (Int32.toNatClampNeg (v3 + (3 : Int32)))), .int (z.2 (Int32.toNatClampNeg (v3 + (4 : Int32)))), .int (z.2 (Int32.toNatClampNeg (v3 + (5 : Int32))))]) (b' := (7, 0, 0)) dL_law_524 l_L_55 m_X12_does rfl rfl (show 90 < 122 by decide) rfl (Nat.le_of_ble_eq_true rfl) (Nat.le_of_ble_eq_true rfl) (Nat.le_of_ble_eq_true rfl) (Nat.le_of_ble_eq_true rfl) (r_X12_does _ _ _ _ _ _ _ _ _ e8) rfl ?_
  refine xg_ite h (fun g10 h => ?_) (fun g10 h => ?_)
  · refine x_icmp_eq (tgt := 1128) (pc' := 530) dL_law_527 (by decide) rfl (fun _ => ?_) (fun hn => absurd g10 hn)
    exact r_L_law_1128 K18 hK18 _ _ _ _ _ h
  · refine x_icmp_eq (tgt := 1128) (pc' := 530) dL_law_527 (by decide) rfl (fun hn => absurd hn g10) (fun _ => ?_)
    refine x_iconst (pc' := 531) (x := 0) dL_law_530 (by decide) rfl ?_
    obtain rfl := Option.some.inj h
    exact x_zret dL_law_531 rfl (Or.inl rfl) rfl (Nat.le_of_ble_eq_true rfl) rfl
def F_L_law_532 (z : xZ) (K18 : Int32 → (Nat → Nat → Int32) → (Nat → Nat → Int64) → xRr → Option (Int32 × xSt)) (v3 : Int32) (hi : Nat → Nat → Int32) (hl : Nat → Nat → Int64) (r : xRr) : Option (Int32 × xSt) := if xok (v3 + (1 : Int32)) z.1 = true then if xok (v3 + (2 : Int32)) z.1 = true then if xok (v3 + (3 : Int32)) z.1 = true then xbI (F_X11_copies (z.2 (Int32.toNatClampNeg (v3 + (1 : Int32)))) (z.2 (Int32.toNatClampNeg (v3 + (2 : Int32)))) (z.2 (Int32.toNatClampNeg (v3 + (3 : Int32)))) hi hl r) (fun w5 hi5 hl5 r5 => xbI (F_X12_copies (z.2 (Int32.toNatClampNeg (v3 + (1 : Int32)))) (z.2 (Int32.toNatClampNeg (v3 + (2 : Int32)))) (z.2 (Int32.toNatClampNeg (v3 + (3 : Int32)))) hi5 hl5 r5) (fun w7 hi7 hl7 r7 => if w5 = w7 then F_L_law_1128 z K18 v3 hi7 hl7 r7 else some ((0 : Int32), hi7, hl7, r7))) else none else none else none
set_option maxRecDepth 20000 in
set_option maxHeartbeats 2000000 in
theorem r_L_law_532 (K18 : Int32 → (Nat → Nat → Int32) → (Nat → Nat → Int64) → xRr → Option (Int32 × xSt)) (hK18 : ∀ (v3 : Int32) (hi : Nat → Nat → Int32) (hl : Nat → Nat → Int64) (r : xRr) (o : Int32 × xSt), K18 v3 hi hl r = some o → xR (RL, cL_law, 4, false, 3) (40, 122, 13196) z 122 13196 18 [some (.ref 1000003), some (.ref 0), some (.ref 90), some (.int v3)] [] (xhp hi hl r) (xoI o)) (v3 : Int32) (hi : Nat → Nat → Int32) (hl : Nat → Nat → Int64) (r : xRr) (o : Int32 × xSt) (h : F_L_law_532 z K18 v3 hi hl r = some o) : xR (RL, cL_law, 4, false, 3) (40, 122, 13196) z 122 13196 532 [some (.ref 1000003), some (.ref 0), some (.ref 90), some (.int v3)] [] (xhp hi hl r) (xoI o) := by
  refine x_aload_n (pc' := 533) dL_law_532 rfl rfl ?_
  refine x_aload_n (pc' := 534) dL_law_533 rfl rfl ?_
  refine x_iload_n (pc' := 535) dL_law_534 rfl rfl ?_
  refine x_iconst (pc' := 536) (x := 1) dL_law_535 (by decide) rfl ?_
  refine x_iadd (pc' := 537) dL_law_536 rfl ?_
  refine xg_if h (fun g1 h => ?_)
  refine x_scld (pc' := 538) dL_law_537 (xok_in g1) rfl ?_
  refine x_aload_n (pc' := 539) dL_law_538 rfl rfl ?_
  refine x_iload_n (pc' := 540) dL_law_539 rfl rfl ?_
  refine x_iconst (pc' := 541) (x := 2) dL_law_540 (by decide) rfl ?_
  refine x_iadd (pc' := 542) dL_law_541 rfl ?_
  refine xg_if h (fun g2 h => ?_)
  refine x_scld (pc' := 543) dL_law_542 (xok_in g2) rfl ?_
  refine x_aload_n (pc' := 544) dL_law_543 rfl rfl ?_
  refine x_iload_n (pc' := 545) dL_law_544 rfl rfl ?_
  refine x_iconst (pc' := 546) (x := 3) dL_law_545 (by decide) rfl ?_
  refine x_iadd (pc' := 547) dL_law_546 rfl ?_
  refine xg_if h (fun g3 h => ?_)
  refine x_scld (pc' := 548) dL_law_547 (xok_in g3) rfl ?_
  refine xg_bI h (fun w5 hi5 hl5 r5 e4 h => ?_)
  refine x_callV (pc' := 551) (S := []) (As := [.int (z.2 (Int32.toNatClampNeg (v3 + (1 : Int32)))), .int (z.2 (Int32.toNatClampNeg (v3 + (2 : Int32)))), .int (z.2 (Int32.toNatClampNeg (v3 + (3 : Int32))))]) (b' := (8, 0, 0)) dL_law_548 l_L_56 m_X11_copies rfl rfl (show 0 < 122 by decide) rfl (Nat.le_of_ble_eq_true rfl) (Nat.le_of_ble_eq_true rfl) (Nat.le_of_ble_eq_true rfl) (Nat.le_of_ble_eq_true rfl) (r_X11_copies _ _ _ _ _ _ _ e4) rfl ?_
  refine x_aload_n (pc' := 552) dL_law_551 rfl rfl ?_
  refine x_aload_n (pc' := 553) dL_law_552 rfl rfl ?_
  refine x_iload_n (pc' := 554) dL_law_553 rfl rfl ?_
  refine x_iconst (pc' := 555) (x := 1) dL_law_554 (by decide) rfl ?_
  refine x_iadd (pc' := 556) dL_law_555 rfl ?_
  refine x_scld (pc' := 557) dL_law_556 (xok_in g1) rfl ?_
  refine x_aload_n (pc' := 558) dL_law_557 rfl rfl ?_
  refine x_iload_n (pc' := 559) dL_law_558 rfl rfl ?_
  refine x_iconst (pc' := 560) (x := 2) dL_law_559 (by decide) rfl ?_
  refine x_iadd (pc' := 561) dL_law_560 rfl ?_
  refine x_scld (pc' := 562) dL_law_561 (xok_in g2) rfl ?_
  refine x_aload_n (pc' := 563) dL_law_562 rfl rfl ?_
  refine x_iload_n (pc' := 564) dL_law_563 rfl rfl ?_
  refine x_iconst (pc' := 565) (x := 3) dL_law_564 (by decide) rfl ?_
  refine x_iadd (pc' := 566) dL_law_565 rfl ?_
  refine x_scld (pc' := 567) dL_law_566 (xok_in g3) rfl ?_
  refine xg_bI h (fun w7 hi7 hl7 r7 e6 h => ?_)
  refine x_callV (pc' := 570) (S := [.int w5]) (As := [.int (z.2 (Int32.toNatClampNeg (v3 + (1 : Int32)))), .int (z.2 (Int32.toNatClampNeg (v3 + (2 : Int32)))), .int (z.2 (Int32.toNatClampNeg (v3 + (3 : Int32))))]) (b' := (7, 0, 0)) dL_law_567 l_L_60 m_X12_copies rfl rfl (show 90 < 122 by decide) rfl (Nat.le_of_ble_eq_true rfl) (Nat.le_of_ble_eq_true rfl) (Nat.le_of_ble_eq_true rfl) (Nat.le_of_ble_eq_true rfl) (r_X12_copies _ _ _ _ _ _ _ e6) rfl ?_
  refine xg_ite h (fun g8 h => ?_) (fun g8 h => ?_)
  · refine x_icmp_eq (tgt := 1128) (pc' := 573) dL_law_570 (by decide) rfl (fun _ => ?_) (fun hn => absurd g8 hn)
    exact r_L_law_1128 K18 hK18 _ _ _ _ _ h
  · refine x_icmp_eq (tgt := 1128) (pc' := 573) dL_law_570 (by decide) rfl (fun hn => absurd hn g8) (fun _ => ?_)
    refine x_iconst (pc' := 574) (x := 0) dL_law_573 (by decide) rfl ?_
    obtain rfl := Option.some.inj h
    exact x_zret dL_law_574 rfl (Or.inl rfl) rfl (Nat.le_of_ble_eq_true rfl) rfl
def F_L_law_575 (z : xZ) (K18 : Int32 → (Nat → Nat → Int32) → (Nat → Nat → Int64) → xRr → Option (Int32 × xSt)) (v3 : Int32) (hi : Nat → Nat → Int32) (hl : Nat → Nat → Int64) (r : xRr) : Option (Int32 × xSt) := xbI (F_X11_undo hi hl r) (fun w2 hi2 hl2 r2 => xbI (F_X12_undo hi2 hl2 r2) (fun w4 hi4 hl4 r4 => if w2 = w4 then F_L_law_1128 z K18 v3 hi4 hl4 r4 else some ((0 : Int32), hi4, hl4, r4)))
set_option maxRecDepth 20000 in
set_option maxHeartbeats 2000000 in
theorem r_L_law_575 (K18 : Int32 → (Nat → Nat → Int32) → (Nat → Nat → Int64) → xRr → Option (Int32 × xSt)) (hK18 : ∀ (v3 : Int32) (hi : Nat → Nat → Int32) (hl : Nat → Nat → Int64) (r : xRr) (o : Int32 × xSt), K18 v3 hi hl r = some o → xR (RL, cL_law, 4, false, 3) (40, 122, 13196) z 122 13196 18 [some (.ref 1000003), some (.ref 0), some (.ref 90), some (.int v3)] [] (xhp hi hl r) (xoI o)) (v3 : Int32) (hi : Nat → Nat → Int32) (hl : Nat → Nat → Int64) (r : xRr) (o : Int32 × xSt) (h : F_L_law_575 z K18 v3 hi hl r = some o) : xR (RL, cL_law, 4, false, 3) (40, 122, 13196) z 122 13196 575 [some (.ref 1000003), some (.ref 0), some (.ref 90), some (.int v3)] [] (xhp hi hl r) (xoI o) := by
  refine x_aload_n (pc' := 576) dL_law_575 rfl rfl ?_
  refine xg_bI h (fun w2 hi2 hl2 r2 e1 h => ?_)
  refine x_callV (pc' := 579) (S := []) (As := []) (b' := (3, 0, 0)) dL_law_576 l_L_61 m_X11_undo rfl rfl (show 0 < 122 by decide) rfl (Nat.le_of_ble_eq_true rfl) (Nat.le_of_ble_eq_true rfl) (Nat.le_of_ble_eq_true rfl) (Nat.le_of_ble_eq_true rfl) (r_X11_undo _ _ _ _ e1) rfl ?_
  refine x_aload_n (pc' := 580) dL_law_579 rfl rfl ?_
  refine xg_bI h (fun w4 hi4 hl4 r4 e3 h => ?_)
  refine x_callV (pc' := 583) (S := [.int w2]) (As := []) (b' := (1, 0, 0)) dL_law_580 l_L_64 m_X12_undo rfl rfl (show 90 < 122 by decide) rfl (Nat.le_of_ble_eq_true rfl) (Nat.le_of_ble_eq_true rfl) (Nat.le_of_ble_eq_true rfl) (Nat.le_of_ble_eq_true rfl) (r_X12_undo _ _ _ _ e3) rfl ?_
  refine xg_ite h (fun g5 h => ?_) (fun g5 h => ?_)
  · refine x_icmp_eq (tgt := 1128) (pc' := 586) dL_law_583 (by decide) rfl (fun _ => ?_) (fun hn => absurd g5 hn)
    exact r_L_law_1128 K18 hK18 _ _ _ _ _ h
  · refine x_icmp_eq (tgt := 1128) (pc' := 586) dL_law_583 (by decide) rfl (fun hn => absurd hn g5) (fun _ => ?_)
    refine x_iconst (pc' := 587) (x := 0) dL_law_586 (by decide) rfl ?_
    obtain rfl := Option.some.inj h
    exact x_zret dL_law_587 rfl (Or.inl rfl) rfl (Nat.le_of_ble_eq_true rfl) rfl
def F_L_law_588 (z : xZ) (K18 : Int32 → (Nat → Nat → Int32) → (Nat → Nat → Int64) → xRr → Option (Int32 × xSt)) (v3 : Int32) (hi : Nat → Nat → Int32) (hl : Nat → Nat → Int64) (r : xRr) : Option (Int32 × xSt) := if xok (v3 + (1 : Int32)) z.1 = true then if xok (v3 + (2 : Int32)) z.1 = true then if xok (v3 + (3 : Int32)) z.1 = true then if xok (v3 + (4 : Int32)) z.1 = true then if xok (v3 + (5 : Int32)) z.1 = true then xbI (F_X11_plans (z.2 (Int32.toNatClampNeg (v3 + (1 : Int32)))) (z.2 (Int32.toNatClampNeg (v3 + (2 : Int32)))) (z.2 (Int32.toNatClampNeg (v3 + (3 : Int32)))) (z.2 (Int32.toNatClampNeg (v3 + (4 : Int32)))) (z.2 (Int32.toNatClampNeg (v3 + (5 : Int32)))) hi hl r) (fun w7 hi7 hl7 r7 => xbI (F_X12_plans (z.2 (Int32.toNatClampNeg (v3 + (1 : Int32)))) (z.2 (Int32.toNatClampNeg (v3 + (2 : Int32)))) (z.2 (Int32.toNatClampNeg (v3 + (3 : Int32)))) (z.2 (Int32.toNatClampNeg (v3 + (4 : Int32)))) (z.2 (Int32.toNatClampNeg (v3 + (5 : Int32)))) hi7 hl7 r7) (fun w9 hi9 hl9 r9 => if w7 = w9 then F_L_law_1128 z K18 v3 hi9 hl9 r9 else some ((0 : Int32), hi9, hl9, r9))) else none else none else none else none else none
set_option maxRecDepth 20000 in
set_option maxHeartbeats 2000000 in
theorem r_L_law_588 (K18 : Int32 → (Nat → Nat → Int32) → (Nat → Nat → Int64) → xRr → Option (Int32 × xSt)) (hK18 : ∀ (v3 : Int32) (hi : Nat → Nat → Int32) (hl : Nat → Nat → Int64) (r : xRr) (o : Int32 × xSt), K18 v3 hi hl r = some o → xR (RL, cL_law, 4, false, 3) (40, 122, 13196) z 122 13196 18 [some (.ref 1000003), some (.ref 0), some (.ref 90), some (.int v3)] [] (xhp hi hl r) (xoI o)) (v3 : Int32) (hi : Nat → Nat → Int32) (hl : Nat → Nat → Int64) (r : xRr) (o : Int32 × xSt) (h : F_L_law_588 z K18 v3 hi hl r = some o) : xR (RL, cL_law, 4, false, 3) (40, 122, 13196) z 122 13196 588 [some (.ref 1000003), some (.ref 0), some (.ref 90), some (.int v3)] [] (xhp hi hl r) (xoI o) := by
  refine x_aload_n (pc' := 589) dL_law_588 rfl rfl ?_
  refine x_aload_n (pc' := 590) dL_law_589 rfl rfl ?_
  refine x_iload_n (pc' := 591) dL_law_590 rfl rfl ?_
  refine x_iconst (pc' := 592) (x := 1) dL_law_591 (by decide) rfl ?_
  refine x_iadd (pc' := 593) dL_law_592 rfl ?_
  refine xg_if h (fun g1 h => ?_)
  refine x_scld (pc' := 594) dL_law_593 (xok_in g1) rfl ?_
  refine x_aload_n (pc' := 595) dL_law_594 rfl rfl ?_
  refine x_iload_n (pc' := 596) dL_law_595 rfl rfl ?_
  refine x_iconst (pc' := 597) (x := 2) dL_law_596 (by decide) rfl ?_
  refine x_iadd (pc' := 598) dL_law_597 rfl ?_
  refine xg_if h (fun g2 h => ?_)
  refine x_scld (pc' := 599) dL_law_598 (xok_in g2) rfl ?_
  refine x_aload_n (pc' := 600) dL_law_599 rfl rfl ?_
  refine x_iload_n (pc' := 601) dL_law_600 rfl rfl ?_
  refine x_iconst (pc' := 602) (x := 3) dL_law_601 (by decide) rfl ?_
  refine x_iadd (pc' := 603) dL_law_602 rfl ?_
  refine xg_if h (fun g3 h => ?_)
  refine x_scld (pc' := 604) dL_law_603 (xok_in g3) rfl ?_
  refine x_aload_n (pc' := 605) dL_law_604 rfl rfl ?_
  refine x_iload_n (pc' := 606) dL_law_605 rfl rfl ?_
  refine x_iconst (pc' := 607) (x := 4) dL_law_606 (by decide) rfl ?_
  refine x_iadd (pc' := 608) dL_law_607 rfl ?_
  refine xg_if h (fun g4 h => ?_)
  refine x_scld (pc' := 609) dL_law_608 (xok_in g4) rfl ?_
  refine x_aload_n (pc' := 610) dL_law_609 rfl rfl ?_
  refine x_iload_n (pc' := 611) dL_law_610 rfl rfl ?_
  refine x_iconst (pc' := 612) (x := 5) dL_law_611 (by decide) rfl ?_
  refine x_iadd (pc' := 613) dL_law_612 rfl ?_
  refine xg_if h (fun g5 h => ?_)
  refine x_scld (pc' := 614) dL_law_613 (xok_in g5) rfl ?_
  refine xg_bI h (fun w7 hi7 hl7 r7 e6 h => ?_)
  refine x_callV (pc' := 617) (S := []) (As := [.int (z.2 (Int32.toNatClampNeg (v3 + (1 : Int32)))), .int (z.2 (Int32.toNatClampNeg (v3 + (2 : Int32)))), .int (z.2 (Int32.toNatClampNeg (v3 + (3 : Int32)))), .int (z.2 (Int32.toNatClampNeg (v3 + (4 : Int32)))), .int (z.2 (Int32.toNatClampNeg (v3 + (5 : Int32))))]) (b' := (2, 0, 0)) dL_law_614 l_L_65 m_X11_plans rfl rfl (show 0 < 122 by decide) rfl (Nat.le_of_ble_eq_true rfl) (Nat.le_of_ble_eq_true rfl) (Nat.le_of_ble_eq_true rfl) (Nat.le_of_ble_eq_true rfl) (r_X11_plans _ _ _ _ _ _ _ _ _ e6) rfl ?_
  refine x_aload_n (pc' := 618) dL_law_617 rfl rfl ?_
  refine x_aload_n (pc' := 619) dL_law_618 rfl rfl ?_
  refine x_iload_n (pc' := 620) dL_law_619 rfl rfl ?_
  refine x_iconst (pc' := 621) (x := 1) dL_law_620 (by decide) rfl ?_
  refine x_iadd (pc' := 622) dL_law_621 rfl ?_
  refine x_scld (pc' := 623) dL_law_622 (xok_in g1) rfl ?_
  refine x_aload_n (pc' := 624) dL_law_623 rfl rfl ?_
  refine x_iload_n (pc' := 625) dL_law_624 rfl rfl ?_
  refine x_iconst (pc' := 626) (x := 2) dL_law_625 (by decide) rfl ?_
  refine x_iadd (pc' := 627) dL_law_626 rfl ?_
  refine x_scld (pc' := 628) dL_law_627 (xok_in g2) rfl ?_
  refine x_aload_n (pc' := 629) dL_law_628 rfl rfl ?_
  refine x_iload_n (pc' := 630) dL_law_629 rfl rfl ?_
  refine x_iconst (pc' := 631) (x := 3) dL_law_630 (by decide) rfl ?_
  refine x_iadd (pc' := 632) dL_law_631 rfl ?_
  refine x_scld (pc' := 633) dL_law_632 (xok_in g3) rfl ?_
  refine x_aload_n (pc' := 634) dL_law_633 rfl rfl ?_
  refine x_iload_n (pc' := 635) dL_law_634 rfl rfl ?_
  refine x_iconst (pc' := 636) (x := 4) dL_law_635 (by decide) rfl ?_
  refine x_iadd (pc' := 637) dL_law_636 rfl ?_
  refine x_scld (pc' := 638) dL_law_637 (xok_in g4) rfl ?_
  refine x_aload_n (pc' := 639) dL_law_638 rfl rfl ?_
  refine x_iload_n (pc' := 640) dL_law_639 rfl rfl ?_
  refine x_iconst (pc' := 641) (x := 5) dL_law_640 (by decide) rfl ?_
  refine x_iadd (pc' := 642) dL_law_641 rfl ?_
  refine x_scld (pc' := 643) dL_law_642 (xok_in g5) rfl ?_
  refine xg_bI h (fun w9 hi9 hl9 r9 e8 h => ?_)
  refine x_callV (pc' := 646) (S := [.int w7]) (As := [.int (z.2 (Int32.toNatClampNeg (v3 + (1 : Int32)))), .int (z.2 (Int32.toNatClampNeg (v3 + (2 : Int32)))), .int (z.2 (Int32.toNatClampNeg (v3 + (3 : Int32)))), .int (z.2 (Int32.toNatClampNeg (v3 + (4 : Int32)))), .int (z.2 (Int32.toNatClampNeg (v3 + (5 : Int32))))]) (b' := (3, 0, 0)) dL_law_643 l_L_68 m_X12_plans rfl rfl (show 90 < 122 by decide) rfl (Nat.le_of_ble_eq_true rfl) (Nat.le_of_ble_eq_true rfl) (Nat.le_of_ble_eq_true rfl) (Nat.le_of_ble_eq_true rfl) (r_X12_plans _ _ _ _ _ _ _ _ _ e8) rfl ?_
  refine xg_ite h (fun g10 h => ?_) (fun g10 h => ?_)
  · refine x_icmp_eq (tgt := 1128) (pc' := 649) dL_law_646 (by decide) rfl (fun _ => ?_) (fun hn => absurd g10 hn)
    exact r_L_law_1128 K18 hK18 _ _ _ _ _ h
  · refine x_icmp_eq (tgt := 1128) (pc' := 649) dL_law_646 (by decide) rfl (fun hn => absurd hn g10) (fun _ => ?_)
    refine x_iconst (pc' := 650) (x := 0) dL_law_649 (by decide) rfl ?_
    obtain rfl := Option.some.inj h
    exact x_zret dL_law_650 rfl (Or.inl rfl) rfl (Nat.le_of_ble_eq_true rfl) rfl
def F_L_law_651 (z : xZ) (K18 : Int32 → (Nat → Nat → Int32) → (Nat → Nat → Int64) → xRr → Option (Int32 × xSt)) (v3 : Int32) (hi : Nat → Nat → Int32) (hl : Nat → Nat → Int64) (r : xRr) : Option (Int32 × xSt) := xbI (F_X11_drops hi hl r) (fun w2 hi2 hl2 r2 => xbI (F_X12_drops hi2 hl2 r2) (fun w4 hi4 hl4 r4 => if w2 = w4 then F_L_law_1128 z K18 v3 hi4 hl4 r4 else some ((0 : Int32), hi4, hl4, r4)))
set_option maxRecDepth 20000 in
set_option maxHeartbeats 2000000 in
theorem r_L_law_651 (K18 : Int32 → (Nat → Nat → Int32) → (Nat → Nat → Int64) → xRr → Option (Int32 × xSt)) (hK18 : ∀ (v3 : Int32) (hi : Nat → Nat → Int32) (hl : Nat → Nat → Int64) (r : xRr) (o : Int32 × xSt), K18 v3 hi hl r = some o → xR (RL, cL_law, 4, false, 3) (40, 122, 13196) z 122 13196 18 [some (.ref 1000003), some (.ref 0), some (.ref 90), some (.int v3)] [] (xhp hi hl r) (xoI o)) (v3 : Int32) (hi : Nat → Nat → Int32) (hl : Nat → Nat → Int64) (r : xRr) (o : Int32 × xSt) (h : F_L_law_651 z K18 v3 hi hl r = some o) : xR (RL, cL_law, 4, false, 3) (40, 122, 13196) z 122 13196 651 [some (.ref 1000003), some (.ref 0), some (.ref 90), some (.int v3)] [] (xhp hi hl r) (xoI o) := by
  refine x_aload_n (pc' := 652) dL_law_651 rfl rfl ?_
  refine xg_bI h (fun w2 hi2 hl2 r2 e1 h => ?_)
  refine x_callV (pc' := 655) (S := []) (As := []) (b' := (2, 0, 0)) dL_law_652 l_L_69 m_X11_drops rfl rfl (show 0 < 122 by decide) rfl (Nat.le_of_ble_eq_true rfl) (Nat.le_of_ble_eq_true rfl) (Nat.le_of_ble_eq_true rfl) (Nat.le_of_ble_eq_true rfl) (r_X11_drops _ _ _ _ e1) rfl ?_
  refine x_aload_n (pc' := 656) dL_law_655 rfl rfl ?_
  refine xg_bI h (fun w4 hi4 hl4 r4 e3 h => ?_)
  refine x_callV (pc' := 659) (S := [.int w2]) (As := []) (b' := (0, 0, 0)) dL_law_656 l_L_72 m_X12_drops rfl rfl (show 90 < 122 by decide) rfl (Nat.le_of_ble_eq_true rfl) (Nat.le_of_ble_eq_true rfl) (Nat.le_of_ble_eq_true rfl) (Nat.le_of_ble_eq_true rfl) (r_X12_drops _ _ _ _ e3) rfl ?_
  refine xg_ite h (fun g5 h => ?_) (fun g5 h => ?_)
  · refine x_icmp_eq (tgt := 1128) (pc' := 662) dL_law_659 (by decide) rfl (fun _ => ?_) (fun hn => absurd g5 hn)
    exact r_L_law_1128 K18 hK18 _ _ _ _ _ h
  · refine x_icmp_eq (tgt := 1128) (pc' := 662) dL_law_659 (by decide) rfl (fun hn => absurd hn g5) (fun _ => ?_)
    refine x_iconst (pc' := 663) (x := 0) dL_law_662 (by decide) rfl ?_
    obtain rfl := Option.some.inj h
    exact x_zret dL_law_663 rfl (Or.inl rfl) rfl (Nat.le_of_ble_eq_true rfl) rfl
def F_L_law_664 (z : xZ) (K18 : Int32 → (Nat → Nat → Int32) → (Nat → Nat → Int64) → xRr → Option (Int32 × xSt)) (v3 : Int32) (hi : Nat → Nat → Int32) (hl : Nat → Nat → Int64) (r : xRr) : Option (Int32 × xSt) := if xok (v3 + (1 : Int32)) z.1 = true then if xok (v3 + (2 : Int32)) z.1 = true then xbI (F_X11_modes (z.2 (Int32.toNatClampNeg (v3 + (1 : Int32)))) (z.2 (Int32.toNatClampNeg (v3 + (2 : Int32)))) hi hl r) (fun w4 hi4 hl4 r4 => xbI (F_X12_modes (z.2 (Int32.toNatClampNeg (v3 + (1 : Int32)))) (z.2 (Int32.toNatClampNeg (v3 + (2 : Int32)))) hi4 hl4 r4) (fun w6 hi6 hl6 r6 => if w4 = w6 then F_L_law_1128 z K18 v3 hi6 hl6 r6 else some ((0 : Int32), hi6, hl6, r6))) else none else none
set_option maxRecDepth 20000 in
set_option maxHeartbeats 2000000 in
theorem r_L_law_664 (K18 : Int32 → (Nat → Nat → Int32) → (Nat → Nat → Int64) → xRr → Option (Int32 × xSt)) (hK18 : ∀ (v3 : Int32) (hi : Nat → Nat → Int32) (hl : Nat → Nat → Int64) (r : xRr) (o : Int32 × xSt), K18 v3 hi hl r = some o → xR (RL, cL_law, 4, false, 3) (40, 122, 13196) z 122 13196 18 [some (.ref 1000003), some (.ref 0), some (.ref 90), some (.int v3)] [] (xhp hi hl r) (xoI o)) (v3 : Int32) (hi : Nat → Nat → Int32) (hl : Nat → Nat → Int64) (r : xRr) (o : Int32 × xSt) (h : F_L_law_664 z K18 v3 hi hl r = some o) : xR (RL, cL_law, 4, false, 3) (40, 122, 13196) z 122 13196 664 [some (.ref 1000003), some (.ref 0), some (.ref 90), some (.int v3)] [] (xhp hi hl r) (xoI o) := by
  refine x_aload_n (pc' := 665) dL_law_664 rfl rfl ?_
  refine x_aload_n (pc' := 666) dL_law_665 rfl rfl ?_
  refine x_iload_n (pc' := 667) dL_law_666 rfl rfl ?_
  refine x_iconst (pc' := 668) (x := 1) dL_law_667 (by decide) rfl ?_
  refine x_iadd (pc' := 669) dL_law_668 rfl ?_
  refine xg_if h (fun g1 h => ?_)
  refine x_scld (pc' := 670) dL_law_669 (xok_in g1) rfl ?_
  refine x_aload_n (pc' := 671) dL_law_670 rfl rfl ?_
  refine x_iload_n (pc' := 672) dL_law_671 rfl rfl ?_
  refine x_iconst (pc' := 673) (x := 2) dL_law_672 (by decide) rfl ?_
  refine x_iadd (pc' := 674) dL_law_673 rfl ?_
  refine xg_if h (fun g2 h => ?_)
  refine x_scld (pc' := 675) dL_law_674 (xok_in g2) rfl ?_
  refine xg_bI h (fun w4 hi4 hl4 r4 e3 h => ?_)
  refine x_callV (pc' := 678) (S := []) (As := [.int (z.2 (Int32.toNatClampNeg (v3 + (1 : Int32)))), .int (z.2 (Int32.toNatClampNeg (v3 + (2 : Int32))))]) (b' := (2, 0, 0)) dL_law_675 l_L_73 m_X11_modes rfl rfl (show 0 < 122 by decide) rfl (Nat.le_of_ble_eq_true rfl) (Nat.le_of_ble_eq_true rfl) (Nat.le_of_ble_eq_true rfl) (Nat.le_of_ble_eq_true rfl) (r_X11_modes _ _ _ _ _ _ e3) rfl ?_
  refine x_aload_n (pc' := 679) dL_law_678 rfl rfl ?_
  refine x_aload_n (pc' := 680) dL_law_679 rfl rfl ?_
  refine x_iload_n (pc' := 681) dL_law_680 rfl rfl ?_
  refine x_iconst (pc' := 682) (x := 1) dL_law_681 (by decide) rfl ?_
  refine x_iadd (pc' := 683) dL_law_682 rfl ?_
  refine x_scld (pc' := 684) dL_law_683 (xok_in g1) rfl ?_
  refine x_aload_n (pc' := 685) dL_law_684 rfl rfl ?_
  refine x_iload_n (pc' := 686) dL_law_685 rfl rfl ?_
  refine x_iconst (pc' := 687) (x := 2) dL_law_686 (by decide) rfl ?_
  refine x_iadd (pc' := 688) dL_law_687 rfl ?_
  refine x_scld (pc' := 689) dL_law_688 (xok_in g2) rfl ?_
  refine xg_bI h (fun w6 hi6 hl6 r6 e5 h => ?_)
  refine x_callV (pc' := 692) (S := [.int w4]) (As := [.int (z.2 (Int32.toNatClampNeg (v3 + (1 : Int32)))), .int (z.2 (Int32.toNatClampNeg (v3 + (2 : Int32))))]) (b' := (1, 0, 0)) dL_law_689 l_L_76 m_X12_modes rfl rfl (show 90 < 122 by decide) rfl (Nat.le_of_ble_eq_true rfl) (Nat.le_of_ble_eq_true rfl) (Nat.le_of_ble_eq_true rfl) (Nat.le_of_ble_eq_true rfl) (r_X12_modes _ _ _ _ _ _ e5) rfl ?_
  refine xg_ite h (fun g7 h => ?_) (fun g7 h => ?_)
  · refine x_icmp_eq (tgt := 1128) (pc' := 695) dL_law_692 (by decide) rfl (fun _ => ?_) (fun hn => absurd g7 hn)
    exact r_L_law_1128 K18 hK18 _ _ _ _ _ h
  · refine x_icmp_eq (tgt := 1128) (pc' := 695) dL_law_692 (by decide) rfl (fun hn => absurd hn g7) (fun _ => ?_)
    refine x_iconst (pc' := 696) (x := 0) dL_law_695 (by decide) rfl ?_
    obtain rfl := Option.some.inj h
    exact x_zret dL_law_696 rfl (Or.inl rfl) rfl (Nat.le_of_ble_eq_true rfl) rfl
def F_L_law_697 (z : xZ) (K18 : Int32 → (Nat → Nat → Int32) → (Nat → Nat → Int64) → xRr → Option (Int32 × xSt)) (v3 : Int32) (hi : Nat → Nat → Int32) (hl : Nat → Nat → Int64) (r : xRr) : Option (Int32 × xSt) := xbI (F_X11_runs hi hl r) (fun w2 hi2 hl2 r2 => xbI (F_X12_runs hi2 hl2 r2) (fun w4 hi4 hl4 r4 => if w2 = w4 then F_L_law_1128 z K18 v3 hi4 hl4 r4 else some ((0 : Int32), hi4, hl4, r4)))
set_option maxRecDepth 20000 in
set_option maxHeartbeats 2000000 in
theorem r_L_law_697 (K18 : Int32 → (Nat → Nat → Int32) → (Nat → Nat → Int64) → xRr → Option (Int32 × xSt)) (hK18 : ∀ (v3 : Int32) (hi : Nat → Nat → Int32) (hl : Nat → Nat → Int64) (r : xRr) (o : Int32 × xSt), K18 v3 hi hl r = some o → xR (RL, cL_law, 4, false, 3) (40, 122, 13196) z 122 13196 18 [some (.ref 1000003), some (.ref 0), some (.ref 90), some (.int v3)] [] (xhp hi hl r) (xoI o)) (v3 : Int32) (hi : Nat → Nat → Int32) (hl : Nat → Nat → Int64) (r : xRr) (o : Int32 × xSt) (h : F_L_law_697 z K18 v3 hi hl r = some o) : xR (RL, cL_law, 4, false, 3) (40, 122, 13196) z 122 13196 697 [some (.ref 1000003), some (.ref 0), some (.ref 90), some (.int v3)] [] (xhp hi hl r) (xoI o) := by
  refine x_aload_n (pc' := 698) dL_law_697 rfl rfl ?_
  refine xg_bI h (fun w2 hi2 hl2 r2 e1 h => ?_)
  refine x_callV (pc' := 701) (S := []) (As := []) (b' := (8, 0, 0)) dL_law_698 l_L_77 m_X11_runs rfl rfl (show 0 < 122 by decide) rfl (Nat.le_of_ble_eq_true rfl) (Nat.le_of_ble_eq_true rfl) (Nat.le_of_ble_eq_true rfl) (Nat.le_of_ble_eq_true rfl) (r_X11_runs _ _ _ _ e1) rfl ?_
  refine x_aload_n (pc' := 702) dL_law_701 rfl rfl ?_
  refine xg_bI h (fun w4 hi4 hl4 r4 e3 h => ?_)
  refine x_callV (pc' := 705) (S := [.int w2]) (As := []) (b' := (9, 0, 0)) dL_law_702 l_L_80 m_X12_runs rfl rfl (show 90 < 122 by decide) rfl (Nat.le_of_ble_eq_true rfl) (Nat.le_of_ble_eq_true rfl) (Nat.le_of_ble_eq_true rfl) (Nat.le_of_ble_eq_true rfl) (r_X12_runs _ _ _ _ e3) rfl ?_
  refine xg_ite h (fun g5 h => ?_) (fun g5 h => ?_)
  · refine x_icmp_eq (tgt := 1128) (pc' := 708) dL_law_705 (by decide) rfl (fun _ => ?_) (fun hn => absurd g5 hn)
    exact r_L_law_1128 K18 hK18 _ _ _ _ _ h
  · refine x_icmp_eq (tgt := 1128) (pc' := 708) dL_law_705 (by decide) rfl (fun hn => absurd hn g5) (fun _ => ?_)
    refine x_iconst (pc' := 709) (x := 0) dL_law_708 (by decide) rfl ?_
    obtain rfl := Option.some.inj h
    exact x_zret dL_law_709 rfl (Or.inl rfl) rfl (Nat.le_of_ble_eq_true rfl) rfl
def F_L_law_710 (z : xZ) (K18 : Int32 → (Nat → Nat → Int32) → (Nat → Nat → Int64) → xRr → Option (Int32 × xSt)) (v3 : Int32) (hi : Nat → Nat → Int32) (hl : Nat → Nat → Int64) (r : xRr) : Option (Int32 × xSt) := if xok (v3 + (1 : Int32)) z.1 = true then if xok (v3 + (2 : Int32)) z.1 = true then xbI (F_X11_line (z.2 (Int32.toNatClampNeg (v3 + (1 : Int32)))) (z.2 (Int32.toNatClampNeg (v3 + (2 : Int32)))) hi hl r) (fun w4 hi4 hl4 r4 => xbI (F_X12_line (z.2 (Int32.toNatClampNeg (v3 + (1 : Int32)))) (z.2 (Int32.toNatClampNeg (v3 + (2 : Int32)))) hi4 hl4 r4) (fun w6 hi6 hl6 r6 => if w4 = w6 then F_L_law_1128 z K18 v3 hi6 hl6 r6 else some ((0 : Int32), hi6, hl6, r6))) else none else none
set_option maxRecDepth 20000 in
set_option maxHeartbeats 2000000 in
theorem r_L_law_710 (K18 : Int32 → (Nat → Nat → Int32) → (Nat → Nat → Int64) → xRr → Option (Int32 × xSt)) (hK18 : ∀ (v3 : Int32) (hi : Nat → Nat → Int32) (hl : Nat → Nat → Int64) (r : xRr) (o : Int32 × xSt), K18 v3 hi hl r = some o → xR (RL, cL_law, 4, false, 3) (40, 122, 13196) z 122 13196 18 [some (.ref 1000003), some (.ref 0), some (.ref 90), some (.int v3)] [] (xhp hi hl r) (xoI o)) (v3 : Int32) (hi : Nat → Nat → Int32) (hl : Nat → Nat → Int64) (r : xRr) (o : Int32 × xSt) (h : F_L_law_710 z K18 v3 hi hl r = some o) : xR (RL, cL_law, 4, false, 3) (40, 122, 13196) z 122 13196 710 [some (.ref 1000003), some (.ref 0), some (.ref 90), some (.int v3)] [] (xhp hi hl r) (xoI o) := by
  refine x_aload_n (pc' := 711) dL_law_710 rfl rfl ?_
  refine x_aload_n (pc' := 712) dL_law_711 rfl rfl ?_
  refine x_iload_n (pc' := 713) dL_law_712 rfl rfl ?_
  refine x_iconst (pc' := 714) (x := 1) dL_law_713 (by decide) rfl ?_
  refine x_iadd (pc' := 715) dL_law_714 rfl ?_
  refine xg_if h (fun g1 h => ?_)
  refine x_scld (pc' := 716) dL_law_715 (xok_in g1) rfl ?_
  refine x_aload_n (pc' := 717) dL_law_716 rfl rfl ?_
  refine x_iload_n (pc' := 718) dL_law_717 rfl rfl ?_
  refine x_iconst (pc' := 719) (x := 2) dL_law_718 (by decide) rfl ?_
  refine x_iadd (pc' := 720) dL_law_719 rfl ?_
  refine xg_if h (fun g2 h => ?_)
  refine x_scld (pc' := 721) dL_law_720 (xok_in g2) rfl ?_
  refine xg_bI h (fun w4 hi4 hl4 r4 e3 h => ?_)
  refine x_callV (pc' := 724) (S := []) (As := [.int (z.2 (Int32.toNatClampNeg (v3 + (1 : Int32)))), .int (z.2 (Int32.toNatClampNeg (v3 + (2 : Int32))))]) (b' := (1, 0, 0)) dL_law_721 l_L_81 m_X11_line rfl rfl (show 0 < 122 by decide) rfl (Nat.le_of_ble_eq_true rfl) (Nat.le_of_ble_eq_true rfl) (Nat.le_of_ble_eq_true rfl) (Nat.le_of_ble_eq_true rfl) (r_X11_line _ _ _ _ _ _ e3) rfl ?_
  refine x_aload_n (pc' := 725) dL_law_724 rfl rfl ?_
  refine x_aload_n (pc' := 726) dL_law_725 rfl rfl ?_
  refine x_iload_n (pc' := 727) dL_law_726 rfl rfl ?_
  refine x_iconst (pc' := 728) (x := 1) dL_law_727 (by decide) rfl ?_
  refine x_iadd (pc' := 729) dL_law_728 rfl ?_
  refine x_scld (pc' := 730) dL_law_729 (xok_in g1) rfl ?_
  refine x_aload_n (pc' := 731) dL_law_730 rfl rfl ?_
  refine x_iload_n (pc' := 732) dL_law_731 rfl rfl ?_
  refine x_iconst (pc' := 733) (x := 2) dL_law_732 (by decide) rfl ?_
  refine x_iadd (pc' := 734) dL_law_733 rfl ?_
  refine x_scld (pc' := 735) dL_law_734 (xok_in g2) rfl ?_
  refine xg_bI h (fun w6 hi6 hl6 r6 e5 h => ?_)
  refine x_callV (pc' := 738) (S := [.int w4]) (As := [.int (z.2 (Int32.toNatClampNeg (v3 + (1 : Int32)))), .int (z.2 (Int32.toNatClampNeg (v3 + (2 : Int32))))]) (b' := (1, 0, 0)) dL_law_735 l_L_84 m_X12_line rfl rfl (show 90 < 122 by decide) rfl (Nat.le_of_ble_eq_true rfl) (Nat.le_of_ble_eq_true rfl) (Nat.le_of_ble_eq_true rfl) (Nat.le_of_ble_eq_true rfl) (r_X12_line _ _ _ _ _ _ e5) rfl ?_
  refine xg_ite h (fun g7 h => ?_) (fun g7 h => ?_)
  · refine x_icmp_eq (tgt := 1128) (pc' := 741) dL_law_738 (by decide) rfl (fun _ => ?_) (fun hn => absurd g7 hn)
    exact r_L_law_1128 K18 hK18 _ _ _ _ _ h
  · refine x_icmp_eq (tgt := 1128) (pc' := 741) dL_law_738 (by decide) rfl (fun hn => absurd hn g7) (fun _ => ?_)
    refine x_iconst (pc' := 742) (x := 0) dL_law_741 (by decide) rfl ?_
    obtain rfl := Option.some.inj h
    exact x_zret dL_law_742 rfl (Or.inl rfl) rfl (Nat.le_of_ble_eq_true rfl) rfl
def F_L_law_743 (z : xZ) (K18 : Int32 → (Nat → Nat → Int32) → (Nat → Nat → Int64) → xRr → Option (Int32 × xSt)) (v3 : Int32) (hi : Nat → Nat → Int32) (hl : Nat → Nat → Int64) (r : xRr) : Option (Int32 × xSt) := if xok (v3 + (1 : Int32)) z.1 = true then xbI (F_X11_met (z.2 (Int32.toNatClampNeg (v3 + (1 : Int32)))) hi hl r) (fun w3 hi3 hl3 r3 => xbI (F_X12_met (z.2 (Int32.toNatClampNeg (v3 + (1 : Int32)))) hi3 hl3 r3) (fun w5 hi5 hl5 r5 => if w3 = w5 then F_L_law_1128 z K18 v3 hi5 hl5 r5 else some ((0 : Int32), hi5, hl5, r5))) else none
set_option maxRecDepth 20000 in
set_option maxHeartbeats 2000000 in
theorem r_L_law_743 (K18 : Int32 → (Nat → Nat → Int32) → (Nat → Nat → Int64) → xRr → Option (Int32 × xSt)) (hK18 : ∀ (v3 : Int32) (hi : Nat → Nat → Int32) (hl : Nat → Nat → Int64) (r : xRr) (o : Int32 × xSt), K18 v3 hi hl r = some o → xR (RL, cL_law, 4, false, 3) (40, 122, 13196) z 122 13196 18 [some (.ref 1000003), some (.ref 0), some (.ref 90), some (.int v3)] [] (xhp hi hl r) (xoI o)) (v3 : Int32) (hi : Nat → Nat → Int32) (hl : Nat → Nat → Int64) (r : xRr) (o : Int32 × xSt) (h : F_L_law_743 z K18 v3 hi hl r = some o) : xR (RL, cL_law, 4, false, 3) (40, 122, 13196) z 122 13196 743 [some (.ref 1000003), some (.ref 0), some (.ref 90), some (.int v3)] [] (xhp hi hl r) (xoI o) := by
  refine x_aload_n (pc' := 744) dL_law_743 rfl rfl ?_
  refine x_aload_n (pc' := 745) dL_law_744 rfl rfl ?_
  refine x_iload_n (pc' := 746) dL_law_745 rfl rfl ?_
  refine x_iconst (pc' := 747) (x := 1) dL_law_746 (by decide) rfl ?_
  refine x_iadd (pc' := 748) dL_law_747 rfl ?_
  refine xg_if h (fun g1 h => ?_)
  refine x_scld (pc' := 749) dL_law_748 (xok_in g1) rfl ?_
  refine xg_bI h (fun w3 hi3 hl3 r3 e2 h => ?_)
  refine x_callV (pc' := 752) (S := []) (As := [.int (z.2 (Int32.toNatClampNeg (v3 + (1 : Int32))))]) (b' := (2, 0, 0)) dL_law_749 l_L_85 m_X11_met rfl rfl (show 0 < 122 by decide) rfl (Nat.le_of_ble_eq_true rfl) (Nat.le_of_ble_eq_true rfl) (Nat.le_of_ble_eq_true rfl) (Nat.le_of_ble_eq_true rfl) (r_X11_met _ _ _ _ _ e2) rfl ?_
  refine x_aload_n (pc' := 753) dL_law_752 rfl rfl ?_
  refine x_aload_n (pc' := 754) dL_law_753 rfl rfl ?_
  refine x_iload_n (pc' := 755) dL_law_754 rfl rfl ?_
  refine x_iconst (pc' := 756) (x := 1) dL_law_755 (by decide) rfl ?_
  refine x_iadd (pc' := 757) dL_law_756 rfl ?_
  refine x_scld (pc' := 758) dL_law_757 (xok_in g1) rfl ?_
  refine xg_bI h (fun w5 hi5 hl5 r5 e4 h => ?_)
  refine x_callV (pc' := 761) (S := [.int w3]) (As := [.int (z.2 (Int32.toNatClampNeg (v3 + (1 : Int32))))]) (b' := (1, 0, 0)) dL_law_758 l_L_89 m_X12_met rfl rfl (show 90 < 122 by decide) rfl (Nat.le_of_ble_eq_true rfl) (Nat.le_of_ble_eq_true rfl) (Nat.le_of_ble_eq_true rfl) (Nat.le_of_ble_eq_true rfl) (r_X12_met _ _ _ _ _ e4) rfl ?_
  refine xg_ite h (fun g6 h => ?_) (fun g6 h => ?_)
  · refine x_icmp_eq (tgt := 1128) (pc' := 764) dL_law_761 (by decide) rfl (fun _ => ?_) (fun hn => absurd g6 hn)
    exact r_L_law_1128 K18 hK18 _ _ _ _ _ h
  · refine x_icmp_eq (tgt := 1128) (pc' := 764) dL_law_761 (by decide) rfl (fun hn => absurd hn g6) (fun _ => ?_)
    refine x_iconst (pc' := 765) (x := 0) dL_law_764 (by decide) rfl ?_
    obtain rfl := Option.some.inj h
    exact x_zret dL_law_765 rfl (Or.inl rfl) rfl (Nat.le_of_ble_eq_true rfl) rfl
def F_L_law_766 (z : xZ) (K18 : Int32 → (Nat → Nat → Int32) → (Nat → Nat → Int64) → xRr → Option (Int32 × xSt)) (v3 : Int32) (hi : Nat → Nat → Int32) (hl : Nat → Nat → Int64) (r : xRr) : Option (Int32 × xSt) := if xok (v3 + (1 : Int32)) z.1 = true then xbI (F_X11_forecast (z.2 (Int32.toNatClampNeg (v3 + (1 : Int32)))) hi hl r) (fun w3 hi3 hl3 r3 => xbI (F_X12_forecast (z.2 (Int32.toNatClampNeg (v3 + (1 : Int32)))) hi3 hl3 r3) (fun w5 hi5 hl5 r5 => if w3 = w5 then F_L_law_1128 z K18 v3 hi5 hl5 r5 else some ((0 : Int32), hi5, hl5, r5))) else none
set_option maxRecDepth 20000 in
set_option maxHeartbeats 2000000 in
theorem r_L_law_766 (K18 : Int32 → (Nat → Nat → Int32) → (Nat → Nat → Int64) → xRr → Option (Int32 × xSt)) (hK18 : ∀ (v3 : Int32) (hi : Nat → Nat → Int32) (hl : Nat → Nat → Int64) (r : xRr) (o : Int32 × xSt), K18 v3 hi hl r = some o → xR (RL, cL_law, 4, false, 3) (40, 122, 13196) z 122 13196 18 [some (.ref 1000003), some (.ref 0), some (.ref 90), some (.int v3)] [] (xhp hi hl r) (xoI o)) (v3 : Int32) (hi : Nat → Nat → Int32) (hl : Nat → Nat → Int64) (r : xRr) (o : Int32 × xSt) (h : F_L_law_766 z K18 v3 hi hl r = some o) : xR (RL, cL_law, 4, false, 3) (40, 122, 13196) z 122 13196 766 [some (.ref 1000003), some (.ref 0), some (.ref 90), some (.int v3)] [] (xhp hi hl r) (xoI o) := by
  refine x_aload_n (pc' := 767) dL_law_766 rfl rfl ?_
  refine x_aload_n (pc' := 768) dL_law_767 rfl rfl ?_
  refine x_iload_n (pc' := 769) dL_law_768 rfl rfl ?_
  refine x_iconst (pc' := 770) (x := 1) dL_law_769 (by decide) rfl ?_
  refine x_iadd (pc' := 771) dL_law_770 rfl ?_
  refine xg_if h (fun g1 h => ?_)
  refine x_scld (pc' := 772) dL_law_771 (xok_in g1) rfl ?_
  refine xg_bI h (fun w3 hi3 hl3 r3 e2 h => ?_)
  refine x_callV (pc' := 775) (S := []) (As := [.int (z.2 (Int32.toNatClampNeg (v3 + (1 : Int32))))]) (b' := (6, 0, 0)) dL_law_772 l_L_90 m_X11_forecast rfl rfl (show 0 < 122 by decide) rfl (Nat.le_of_ble_eq_true rfl) (Nat.le_of_ble_eq_true rfl) (Nat.le_of_ble_eq_true rfl) (Nat.le_of_ble_eq_true rfl) (r_X11_forecast _ _ _ _ _ e2) rfl ?_
  refine x_aload_n (pc' := 776) dL_law_775 rfl rfl ?_
  refine x_aload_n (pc' := 777) dL_law_776 rfl rfl ?_
  refine x_iload_n (pc' := 778) dL_law_777 rfl rfl ?_
  refine x_iconst (pc' := 779) (x := 1) dL_law_778 (by decide) rfl ?_
  refine x_iadd (pc' := 780) dL_law_779 rfl ?_
  refine x_scld (pc' := 781) dL_law_780 (xok_in g1) rfl ?_
  refine xg_bI h (fun w5 hi5 hl5 r5 e4 h => ?_)
  refine x_callV (pc' := 784) (S := [.int w3]) (As := [.int (z.2 (Int32.toNatClampNeg (v3 + (1 : Int32))))]) (b' := (8, 0, 0)) dL_law_781 l_L_93 m_X12_forecast rfl rfl (show 90 < 122 by decide) rfl (Nat.le_of_ble_eq_true rfl) (Nat.le_of_ble_eq_true rfl) (Nat.le_of_ble_eq_true rfl) (Nat.le_of_ble_eq_true rfl) (r_X12_forecast _ _ _ _ _ e4) rfl ?_
  refine xg_ite h (fun g6 h => ?_) (fun g6 h => ?_)
  · refine x_icmp_eq (tgt := 1128) (pc' := 787) dL_law_784 (by decide) rfl (fun _ => ?_) (fun hn => absurd g6 hn)
    exact r_L_law_1128 K18 hK18 _ _ _ _ _ h
  · refine x_icmp_eq (tgt := 1128) (pc' := 787) dL_law_784 (by decide) rfl (fun hn => absurd hn g6) (fun _ => ?_)
    refine x_iconst (pc' := 788) (x := 0) dL_law_787 (by decide) rfl ?_
    obtain rfl := Option.some.inj h
    exact x_zret dL_law_788 rfl (Or.inl rfl) rfl (Nat.le_of_ble_eq_true rfl) rfl
def F_L_law_789 (z : xZ) (K18 : Int32 → (Nat → Nat → Int32) → (Nat → Nat → Int64) → xRr → Option (Int32 × xSt)) (v3 : Int32) (hi : Nat → Nat → Int32) (hl : Nat → Nat → Int64) (r : xRr) : Option (Int32 × xSt) := if xok (v3 + (1 : Int32)) z.1 = true then xbI (F_X11_wave (z.2 (Int32.toNatClampNeg (v3 + (1 : Int32)))) hi hl r) (fun w3 hi3 hl3 r3 => xbI (F_X12_wave (z.2 (Int32.toNatClampNeg (v3 + (1 : Int32)))) hi3 hl3 r3) (fun w5 hi5 hl5 r5 => if w3 = w5 then F_L_law_1128 z K18 v3 hi5 hl5 r5 else some ((0 : Int32), hi5, hl5, r5))) else none
set_option maxRecDepth 20000 in
set_option maxHeartbeats 2000000 in
theorem r_L_law_789 (K18 : Int32 → (Nat → Nat → Int32) → (Nat → Nat → Int64) → xRr → Option (Int32 × xSt)) (hK18 : ∀ (v3 : Int32) (hi : Nat → Nat → Int32) (hl : Nat → Nat → Int64) (r : xRr) (o : Int32 × xSt), K18 v3 hi hl r = some o → xR (RL, cL_law, 4, false, 3) (40, 122, 13196) z 122 13196 18 [some (.ref 1000003), some (.ref 0), some (.ref 90), some (.int v3)] [] (xhp hi hl r) (xoI o)) (v3 : Int32) (hi : Nat → Nat → Int32) (hl : Nat → Nat → Int64) (r : xRr) (o : Int32 × xSt) (h : F_L_law_789 z K18 v3 hi hl r = some o) : xR (RL, cL_law, 4, false, 3) (40, 122, 13196) z 122 13196 789 [some (.ref 1000003), some (.ref 0), some (.ref 90), some (.int v3)] [] (xhp hi hl r) (xoI o) := by
  refine x_aload_n (pc' := 790) dL_law_789 rfl rfl ?_
  refine x_aload_n (pc' := 791) dL_law_790 rfl rfl ?_
  refine x_iload_n (pc' := 792) dL_law_791 rfl rfl ?_
  refine x_iconst (pc' := 793) (x := 1) dL_law_792 (by decide) rfl ?_
  refine x_iadd (pc' := 794) dL_law_793 rfl ?_
  refine xg_if h (fun g1 h => ?_)
  refine x_scld (pc' := 795) dL_law_794 (xok_in g1) rfl ?_
  refine xg_bI h (fun w3 hi3 hl3 r3 e2 h => ?_)
  refine x_callV (pc' := 798) (S := []) (As := [.int (z.2 (Int32.toNatClampNeg (v3 + (1 : Int32))))]) (b' := (3, 0, 0)) dL_law_795 l_L_94 m_X11_wave rfl rfl (show 0 < 122 by decide) rfl (Nat.le_of_ble_eq_true rfl) (Nat.le_of_ble_eq_true rfl) (Nat.le_of_ble_eq_true rfl) (Nat.le_of_ble_eq_true rfl) (r_X11_wave _ _ _ _ _ e2) rfl ?_
  refine x_aload_n (pc' := 799) dL_law_798 rfl rfl ?_
  refine x_aload_n (pc' := 800) dL_law_799 rfl rfl ?_
  refine x_iload_n (pc' := 801) dL_law_800 rfl rfl ?_
  refine x_iconst (pc' := 802) (x := 1) dL_law_801 (by decide) rfl ?_
  refine x_iadd (pc' := 803) dL_law_802 rfl ?_
  refine x_scld (pc' := 804) dL_law_803 (xok_in g1) rfl ?_
  refine xg_bI h (fun w5 hi5 hl5 r5 e4 h => ?_)
  refine x_callV (pc' := 807) (S := [.int w3]) (As := [.int (z.2 (Int32.toNatClampNeg (v3 + (1 : Int32))))]) (b' := (7, 0, 0)) dL_law_804 l_L_97 m_X12_wave rfl rfl (show 90 < 122 by decide) rfl (Nat.le_of_ble_eq_true rfl) (Nat.le_of_ble_eq_true rfl) (Nat.le_of_ble_eq_true rfl) (Nat.le_of_ble_eq_true rfl) (r_X12_wave _ _ _ _ _ e4) rfl ?_
  refine xg_ite h (fun g6 h => ?_) (fun g6 h => ?_)
  · refine x_icmp_eq (tgt := 1128) (pc' := 810) dL_law_807 (by decide) rfl (fun _ => ?_) (fun hn => absurd g6 hn)
    exact r_L_law_1128 K18 hK18 _ _ _ _ _ h
  · refine x_icmp_eq (tgt := 1128) (pc' := 810) dL_law_807 (by decide) rfl (fun hn => absurd hn g6) (fun _ => ?_)
    refine x_iconst (pc' := 811) (x := 0) dL_law_810 (by decide) rfl ?_
    obtain rfl := Option.some.inj h
    exact x_zret dL_law_811 rfl (Or.inl rfl) rfl (Nat.le_of_ble_eq_true rfl) rfl
def F_L_law_812 (z : xZ) (K18 : Int32 → (Nat → Nat → Int32) → (Nat → Nat → Int64) → xRr → Option (Int32 × xSt)) (v3 : Int32) (hi : Nat → Nat → Int32) (hl : Nat → Nat → Int64) (r : xRr) : Option (Int32 × xSt) := xbI (F_X11_reorders hi hl r) (fun w2 hi2 hl2 r2 => xbI (F_X12_reorders hi2 hl2 r2) (fun w4 hi4 hl4 r4 => if w2 = w4 then F_L_law_1128 z K18 v3 hi4 hl4 r4 else some ((0 : Int32), hi4, hl4, r4)))
set_option maxRecDepth 20000 in
set_option maxHeartbeats 2000000 in
theorem r_L_law_812 (K18 : Int32 → (Nat → Nat → Int32) → (Nat → Nat → Int64) → xRr → Option (Int32 × xSt)) (hK18 : ∀ (v3 : Int32) (hi : Nat → Nat → Int32) (hl : Nat → Nat → Int64) (r : xRr) (o : Int32 × xSt), K18 v3 hi hl r = some o → xR (RL, cL_law, 4, false, 3) (40, 122, 13196) z 122 13196 18 [some (.ref 1000003), some (.ref 0), some (.ref 90), some (.int v3)] [] (xhp hi hl r) (xoI o)) (v3 : Int32) (hi : Nat → Nat → Int32) (hl : Nat → Nat → Int64) (r : xRr) (o : Int32 × xSt) (h : F_L_law_812 z K18 v3 hi hl r = some o) : xR (RL, cL_law, 4, false, 3) (40, 122, 13196) z 122 13196 812 [some (.ref 1000003), some (.ref 0), some (.ref 90), some (.int v3)] [] (xhp hi hl r) (xoI o) := by
  refine x_aload_n (pc' := 813) dL_law_812 rfl rfl ?_
  refine xg_bI h (fun w2 hi2 hl2 r2 e1 h => ?_)
  refine x_callV (pc' := 816) (S := []) (As := []) (b' := (3, 0, 0)) dL_law_813 l_L_98 m_X11_reorders rfl rfl (show 0 < 122 by decide) rfl (Nat.le_of_ble_eq_true rfl) (Nat.le_of_ble_eq_true rfl) (Nat.le_of_ble_eq_true rfl) (Nat.le_of_ble_eq_true rfl) (r_X11_reorders _ _ _ _ e1) rfl ?_
  refine x_aload_n (pc' := 817) dL_law_816 rfl rfl ?_
  refine xg_bI h (fun w4 hi4 hl4 r4 e3 h => ?_)
  refine x_callV (pc' := 820) (S := [.int w2]) (As := []) (b' := (7, 0, 0)) dL_law_817 l_L_101 m_X12_reorders rfl rfl (show 90 < 122 by decide) rfl (Nat.le_of_ble_eq_true rfl) (Nat.le_of_ble_eq_true rfl) (Nat.le_of_ble_eq_true rfl) (Nat.le_of_ble_eq_true rfl) (r_X12_reorders _ _ _ _ e3) rfl ?_
  refine xg_ite h (fun g5 h => ?_) (fun g5 h => ?_)
  · refine x_icmp_eq (tgt := 1128) (pc' := 823) dL_law_820 (by decide) rfl (fun _ => ?_) (fun hn => absurd g5 hn)
    exact r_L_law_1128 K18 hK18 _ _ _ _ _ h
  · refine x_icmp_eq (tgt := 1128) (pc' := 823) dL_law_820 (by decide) rfl (fun hn => absurd hn g5) (fun _ => ?_)
    refine x_iconst (pc' := 824) (x := 0) dL_law_823 (by decide) rfl ?_
    obtain rfl := Option.some.inj h
    exact x_zret dL_law_824 rfl (Or.inl rfl) rfl (Nat.le_of_ble_eq_true rfl) rfl
def F_L_law_825 (z : xZ) (K18 : Int32 → (Nat → Nat → Int32) → (Nat → Nat → Int64) → xRr → Option (Int32 × xSt)) (v3 : Int32) (hi : Nat → Nat → Int32) (hl : Nat → Nat → Int64) (r : xRr) : Option (Int32 × xSt) := if xok (v3 + (1 : Int32)) z.1 = true then if xok (v3 + (2 : Int32)) z.1 = true then xbI (F_X11_joins (z.2 (Int32.toNatClampNeg (v3 + (1 : Int32)))) (z.2 (Int32.toNatClampNeg (v3 + (2 : Int32)))) hi hl r) (fun w4 hi4 hl4 r4 => xbI (F_X12_joins (z.2 (Int32.toNatClampNeg (v3 + (1 : Int32)))) (z.2 (Int32.toNatClampNeg (v3 + (2 : Int32)))) hi4 hl4 r4) (fun w6 hi6 hl6 r6 => if w4 = w6 then F_L_law_1128 z K18 v3 hi6 hl6 r6 else some ((0 : Int32), hi6, hl6, r6))) else none else none
set_option maxRecDepth 20000 in
set_option maxHeartbeats 2000000 in
theorem r_L_law_825 (K18 : Int32 → (Nat → Nat → Int32) → (Nat → Nat → Int64) → xRr → Option (Int32 × xSt)) (hK18 : ∀ (v3 : Int32) (hi : Nat → Nat → Int32) (hl : Nat → Nat → Int64) (r : xRr) (o : Int32 × xSt), K18 v3 hi hl r = some o → xR (RL, cL_law, 4, false, 3) (40, 122, 13196) z 122 13196 18 [some (.ref 1000003), some (.ref 0), some (.ref 90), some (.int v3)] [] (xhp hi hl r) (xoI o)) (v3 : Int32) (hi : Nat → Nat → Int32) (hl : Nat → Nat → Int64) (r : xRr) (o : Int32 × xSt) (h : F_L_law_825 z K18 v3 hi hl r = some o) : xR (RL, cL_law, 4, false, 3) (40, 122, 13196) z 122 13196 825 [some (.ref 1000003), some (.ref 0), some (.ref 90), some (.int v3)] [] (xhp hi hl r) (xoI o) := by
  refine x_aload_n (pc' := 826) dL_law_825 rfl rfl ?_
  refine x_aload_n (pc' := 827) dL_law_826 rfl rfl ?_
  refine x_iload_n (pc' := 828) dL_law_827 rfl rfl ?_
  refine x_iconst (pc' := 829) (x := 1) dL_law_828 (by decide) rfl ?_
  refine x_iadd (pc' := 830) dL_law_829 rfl ?_
  refine xg_if h (fun g1 h => ?_)
  refine x_scld (pc' := 831) dL_law_830 (xok_in g1) rfl ?_
  refine x_aload_n (pc' := 832) dL_law_831 rfl rfl ?_
  refine x_iload_n (pc' := 833) dL_law_832 rfl rfl ?_
  refine x_iconst (pc' := 834) (x := 2) dL_law_833 (by decide) rfl ?_
  refine x_iadd (pc' := 835) dL_law_834 rfl ?_
  refine xg_if h (fun g2 h => ?_)
  refine x_scld (pc' := 836) dL_law_835 (xok_in g2) rfl ?_
  refine xg_bI h (fun w4 hi4 hl4 r4 e3 h => ?_)
  refine x_callV (pc' := 839) (S := []) (As := [.int (z.2 (Int32.toNatClampNeg (v3 + (1 : Int32)))), .int (z.2 (Int32.toNatClampNeg (v3 + (2 : Int32))))]) (b' := (1, 0, 0)) dL_law_836 l_L_102 m_X11_joins rfl rfl (show 0 < 122 by decide) rfl (Nat.le_of_ble_eq_true rfl) (Nat.le_of_ble_eq_true rfl) (Nat.le_of_ble_eq_true rfl) (Nat.le_of_ble_eq_true rfl) (r_X11_joins _ _ _ _ _ _ e3) rfl ?_
  refine x_aload_n (pc' := 840) dL_law_839 rfl rfl ?_
  refine x_aload_n (pc' := 841) dL_law_840 rfl rfl ?_
  refine x_iload_n (pc' := 842) dL_law_841 rfl rfl ?_
  refine x_iconst (pc' := 843) (x := 1) dL_law_842 (by decide) rfl ?_
  refine x_iadd (pc' := 844) dL_law_843 rfl ?_
  refine x_scld (pc' := 845) dL_law_844 (xok_in g1) rfl ?_
  refine x_aload_n (pc' := 846) dL_law_845 rfl rfl ?_
  refine x_iload_n (pc' := 847) dL_law_846 rfl rfl ?_
  refine x_iconst (pc' := 848) (x := 2) dL_law_847 (by decide) rfl ?_
  refine x_iadd (pc' := 849) dL_law_848 rfl ?_
  refine x_scld (pc' := 850) dL_law_849 (xok_in g2) rfl ?_
  refine xg_bI h (fun w6 hi6 hl6 r6 e5 h => ?_)
  refine x_callV (pc' := 853) (S := [.int w4]) (As := [.int (z.2 (Int32.toNatClampNeg (v3 + (1 : Int32)))), .int (z.2 (Int32.toNatClampNeg (v3 + (2 : Int32))))]) (b' := (2, 0, 0)) dL_law_850 l_L_105 m_X12_joins rfl rfl (show 90 < 122 by decide) rfl (Nat.le_of_ble_eq_true rfl) (Nat.le_of_ble_eq_true rfl) (Nat.le_of_ble_eq_true rfl) (Nat.le_of_ble_eq_true rfl) (r_X12_joins _ _ _ _ _ _ e5) rfl ?_
  refine xg_ite h (fun g7 h => ?_) (fun g7 h => ?_)
  · refine x_icmp_eq (tgt := 1128) (pc' := 856) dL_law_853 (by decide) rfl (fun _ => ?_) (fun hn => absurd g7 hn)
    exact r_L_law_1128 K18 hK18 _ _ _ _ _ h
  · refine x_icmp_eq (tgt := 1128) (pc' := 856) dL_law_853 (by decide) rfl (fun hn => absurd hn g7) (fun _ => ?_)
    refine x_iconst (pc' := 857) (x := 0) dL_law_856 (by decide) rfl ?_
    obtain rfl := Option.some.inj h
    exact x_zret dL_law_857 rfl (Or.inl rfl) rfl (Nat.le_of_ble_eq_true rfl) rfl
def F_L_law_858 (z : xZ) (K18 : Int32 → (Nat → Nat → Int32) → (Nat → Nat → Int64) → xRr → Option (Int32 × xSt)) (v3 : Int32) (hi : Nat → Nat → Int32) (hl : Nat → Nat → Int64) (r : xRr) : Option (Int32 × xSt) := if xok (v3 + (1 : Int32)) z.1 = true then if xok (v3 + (2 : Int32)) z.1 = true then if xok (v3 + (3 : Int32)) z.1 = true then xbI (F_X11_would (z.2 (Int32.toNatClampNeg (v3 + (1 : Int32)))) (z.2 (Int32.toNatClampNeg (v3 + (2 : Int32)))) (z.2 (Int32.toNatClampNeg (v3 + (3 : Int32)))) hi hl r) (fun w5 hi5 hl5 r5 => xbI (F_X12_would (z.2 (Int32.toNatClampNeg (v3 + (1 : Int32)))) (z.2 (Int32.toNatClampNeg (v3 + (2 : Int32)))) (z.2 (Int32.toNatClampNeg (v3 + (3 : Int32)))) hi5 hl5 r5) (fun w7 hi7 hl7 r7 => if w5 = w7 then F_L_law_1128 z K18 v3 hi7 hl7 r7 else some ((0 : Int32), hi7, hl7, r7))) else none else none else none
set_option maxRecDepth 20000 in
set_option maxHeartbeats 2000000 in
theorem r_L_law_858 (K18 : Int32 → (Nat → Nat → Int32) → (Nat → Nat → Int64) → xRr → Option (Int32 × xSt)) (hK18 : ∀ (v3 : Int32) (hi : Nat → Nat → Int32) (hl : Nat → Nat → Int64) (r : xRr) (o : Int32 × xSt), K18 v3 hi hl r = some o → xR (RL, cL_law, 4, false, 3) (40, 122, 13196) z 122 13196 18 [some (.ref 1000003), some (.ref 0), some (.ref 90), some (.int v3)] [] (xhp hi hl r) (xoI o)) (v3 : Int32) (hi : Nat → Nat → Int32) (hl : Nat → Nat → Int64) (r : xRr) (o : Int32 × xSt) (h : F_L_law_858 z K18 v3 hi hl r = some o) : xR (RL, cL_law, 4, false, 3) (40, 122, 13196) z 122 13196 858 [some (.ref 1000003), some (.ref 0), some (.ref 90), some (.int v3)] [] (xhp hi hl r) (xoI o) := by
  refine x_aload_n (pc' := 859) dL_law_858 rfl rfl ?_
  refine x_aload_n (pc' := 860) dL_law_859 rfl rfl ?_
  refine x_iload_n (pc' := 861) dL_law_860 rfl rfl ?_
  refine x_iconst (pc' := 862) (x := 1) dL_law_861 (by decide) rfl ?_
  refine x_iadd (pc' := 863) dL_law_862 rfl ?_
  refine xg_if h (fun g1 h => ?_)
  refine x_scld (pc' := 864) dL_law_863 (xok_in g1) rfl ?_
  refine x_aload_n (pc' := 865) dL_law_864 rfl rfl ?_
  refine x_iload_n (pc' := 866) dL_law_865 rfl rfl ?_
  refine x_iconst (pc' := 867) (x := 2) dL_law_866 (by decide) rfl ?_
  refine x_iadd (pc' := 868) dL_law_867 rfl ?_
  refine xg_if h (fun g2 h => ?_)
  refine x_scld (pc' := 869) dL_law_868 (xok_in g2) rfl ?_
  refine x_aload_n (pc' := 870) dL_law_869 rfl rfl ?_
  refine x_iload_n (pc' := 871) dL_law_870 rfl rfl ?_
  refine x_iconst (pc' := 872) (x := 3) dL_law_871 (by decide) rfl ?_
  refine x_iadd (pc' := 873) dL_law_872 rfl ?_
  refine xg_if h (fun g3 h => ?_)
  refine x_scld (pc' := 874) dL_law_873 (xok_in g3) rfl ?_
  refine xg_bI h (fun w5 hi5 hl5 r5 e4 h => ?_)
  refine x_callV (pc' := 877) (S := []) (As := [.int (z.2 (Int32.toNatClampNeg (v3 + (1 : Int32)))), .int (z.2 (Int32.toNatClampNeg (v3 + (2 : Int32)))), .int (z.2 (Int32.toNatClampNeg (v3 + (3 : Int32))))]) (b' := (2, 0, 0)) dL_law_874 l_L_106 m_X11_would rfl rfl (show 0 < 122 by decide) rfl (Nat.le_of_ble_eq_true rfl) (Nat.le_of_ble_eq_true rfl) (Nat.le_of_ble_eq_true rfl) (Nat.le_of_ble_eq_true rfl) (r_X11_would _ _ _ _ _ _ _ e4) rfl ?_
  refine x_aload_n (pc' := 878) dL_law_877 rfl rfl ?_
  refine x_aload_n (pc' := 879) dL_law_878 rfl rfl ?_
  refine x_iload_n (pc' := 880) dL_law_879 rfl rfl ?_
  refine x_iconst (pc' := 881) (x := 1) dL_law_880 (by decide) rfl ?_
  refine x_iadd (pc' := 882) dL_law_881 rfl ?_
  refine x_scld (pc' := 883) dL_law_882 (xok_in g1) rfl ?_
  refine x_aload_n (pc' := 884) dL_law_883 rfl rfl ?_
  refine x_iload_n (pc' := 885) dL_law_884 rfl rfl ?_
  refine x_iconst (pc' := 886) (x := 2) dL_law_885 (by decide) rfl ?_
  refine x_iadd (pc' := 887) dL_law_886 rfl ?_
  refine x_scld (pc' := 888) dL_law_887 (xok_in g2) rfl ?_
  refine x_aload_n (pc' := 889) dL_law_888 rfl rfl ?_
  refine x_iload_n (pc' := 890) dL_law_889 rfl rfl ?_
  refine x_iconst (pc' := 891) (x := 3) dL_law_890 (by decide) rfl ?_
  refine x_iadd (pc' := 892) dL_law_891 rfl ?_
  refine x_scld (pc' := 893) dL_law_892 (xok_in g3) rfl ?_
  refine xg_bI h (fun w7 hi7 hl7 r7 e6 h => ?_)
  refine x_callV (pc' := 896) (S := [.int w5]) (As := [.int (z.2 (Int32.toNatClampNeg (v3 + (1 : Int32)))), .int (z.2 (Int32.toNatClampNeg (v3 + (2 : Int32)))), .int (z.2 (Int32.toNatClampNeg (v3 + (3 : Int32))))]) (b' := (4, 0, 0)) dL_law_893 l_L_109 m_X12_would rfl rfl (show 90 < 122 by decide) rfl (Nat.le_of_ble_eq_true rfl) (Nat.le_of_ble_eq_true rfl) (Nat.le_of_ble_eq_true rfl) (Nat.le_of_ble_eq_true rfl) (r_X12_would _ _ _ _ _ _ _ e6) rfl ?_
  refine xg_ite h (fun g8 h => ?_) (fun g8 h => ?_)
  · refine x_icmp_eq (tgt := 1128) (pc' := 899) dL_law_896 (by decide) rfl (fun _ => ?_) (fun hn => absurd g8 hn)
    exact r_L_law_1128 K18 hK18 _ _ _ _ _ h
  · refine x_icmp_eq (tgt := 1128) (pc' := 899) dL_law_896 (by decide) rfl (fun hn => absurd hn g8) (fun _ => ?_)
    refine x_iconst (pc' := 900) (x := 0) dL_law_899 (by decide) rfl ?_
    obtain rfl := Option.some.inj h
    exact x_zret dL_law_900 rfl (Or.inl rfl) rfl (Nat.le_of_ble_eq_true rfl) rfl
def F_L_law_901 (z : xZ) (K18 : Int32 → (Nat → Nat → Int32) → (Nat → Nat → Int64) → xRr → Option (Int32 × xSt)) (v3 : Int32) (hi : Nat → Nat → Int32) (hl : Nat → Nat → Int64) (r : xRr) : Option (Int32 × xSt) := if xok (v3 + (1 : Int32)) z.1 = true then if xok (v3 + (2 : Int32)) z.1 = true then xbI (F_X11_shares (z.2 (Int32.toNatClampNeg (v3 + (1 : Int32)))) (z.2 (Int32.toNatClampNeg (v3 + (2 : Int32)))) hi hl r) (fun w4 hi4 hl4 r4 => xbI (F_X12_shares (z.2 (Int32.toNatClampNeg (v3 + (1 : Int32)))) (z.2 (Int32.toNatClampNeg (v3 + (2 : Int32)))) hi4 hl4 r4) (fun w6 hi6 hl6 r6 => if w4 = w6 then F_L_law_1128 z K18 v3 hi6 hl6 r6 else some ((0 : Int32), hi6, hl6, r6))) else none else none
set_option maxRecDepth 20000 in
set_option maxHeartbeats 2000000 in
theorem r_L_law_901 (K18 : Int32 → (Nat → Nat → Int32) → (Nat → Nat → Int64) → xRr → Option (Int32 × xSt)) (hK18 : ∀ (v3 : Int32) (hi : Nat → Nat → Int32) (hl : Nat → Nat → Int64) (r : xRr) (o : Int32 × xSt), K18 v3 hi hl r = some o → xR (RL, cL_law, 4, false, 3) (40, 122, 13196) z 122 13196 18 [some (.ref 1000003), some (.ref 0), some (.ref 90), some (.int v3)] [] (xhp hi hl r) (xoI o)) (v3 : Int32) (hi : Nat → Nat → Int32) (hl : Nat → Nat → Int64) (r : xRr) (o : Int32 × xSt) (h : F_L_law_901 z K18 v3 hi hl r = some o) : xR (RL, cL_law, 4, false, 3) (40, 122, 13196) z 122 13196 901 [some (.ref 1000003), some (.ref 0), some (.ref 90), some (.int v3)] [] (xhp hi hl r) (xoI o) := by
  refine x_aload_n (pc' := 902) dL_law_901 rfl rfl ?_
  refine x_aload_n (pc' := 903) dL_law_902 rfl rfl ?_
  refine x_iload_n (pc' := 904) dL_law_903 rfl rfl ?_
  refine x_iconst (pc' := 905) (x := 1) dL_law_904 (by decide) rfl ?_
  refine x_iadd (pc' := 906) dL_law_905 rfl ?_
  refine xg_if h (fun g1 h => ?_)
  refine x_scld (pc' := 907) dL_law_906 (xok_in g1) rfl ?_
  refine x_aload_n (pc' := 908) dL_law_907 rfl rfl ?_
  refine x_iload_n (pc' := 909) dL_law_908 rfl rfl ?_
  refine x_iconst (pc' := 910) (x := 2) dL_law_909 (by decide) rfl ?_
  refine x_iadd (pc' := 911) dL_law_910 rfl ?_
  refine xg_if h (fun g2 h => ?_)
  refine x_scld (pc' := 912) dL_law_911 (xok_in g2) rfl ?_
  refine xg_bI h (fun w4 hi4 hl4 r4 e3 h => ?_)
  refine x_callV (pc' := 915) (S := []) (As := [.int (z.2 (Int32.toNatClampNeg (v3 + (1 : Int32)))), .int (z.2 (Int32.toNatClampNeg (v3 + (2 : Int32))))]) (b' := (4, 0, 0)) dL_law_912 l_L_110 m_X11_shares rfl rfl (show 0 < 122 by decide) rfl (Nat.le_of_ble_eq_true rfl) (Nat.le_of_ble_eq_true rfl) (Nat.le_of_ble_eq_true rfl) (Nat.le_of_ble_eq_true rfl) (r_X11_shares _ _ _ _ _ _ e3) rfl ?_
  refine x_aload_n (pc' := 916) dL_law_915 rfl rfl ?_
  refine x_aload_n (pc' := 917) dL_law_916 rfl rfl ?_
  refine x_iload_n (pc' := 918) dL_law_917 rfl rfl ?_
  refine x_iconst (pc' := 919) (x := 1) dL_law_918 (by decide) rfl ?_
  refine x_iadd (pc' := 920) dL_law_919 rfl ?_
  refine x_scld (pc' := 921) dL_law_920 (xok_in g1) rfl ?_
  refine x_aload_n (pc' := 922) dL_law_921 rfl rfl ?_
  refine x_iload_n (pc' := 923) dL_law_922 rfl rfl ?_
  refine x_iconst (pc' := 924) (x := 2) dL_law_923 (by decide) rfl ?_
  refine x_iadd (pc' := 925) dL_law_924 rfl ?_
  refine x_scld (pc' := 926) dL_law_925 (xok_in g2) rfl ?_
  refine xg_bI h (fun w6 hi6 hl6 r6 e5 h => ?_)
  refine x_callV (pc' := 929) (S := [.int w4]) (As := [.int (z.2 (Int32.toNatClampNeg (v3 + (1 : Int32)))), .int (z.2 (Int32.toNatClampNeg (v3 + (2 : Int32))))]) (b' := (3, 0, 0)) dL_law_926 l_L_113 m_X12_shares rfl rfl (show 90 < 122 by decide) rfl (Nat.le_of_ble_eq_true rfl) (Nat.le_of_ble_eq_true rfl) (Nat.le_of_ble_eq_true rfl) (Nat.le_of_ble_eq_true rfl) (r_X12_shares _ _ _ _ _ _ e5) rfl ?_
  refine xg_ite h (fun g7 h => ?_) (fun g7 h => ?_)
  · refine x_icmp_eq (tgt := 1128) (pc' := 932) dL_law_929 (by decide) rfl (fun _ => ?_) (fun hn => absurd g7 hn)
    exact r_L_law_1128 K18 hK18 _ _ _ _ _ h
  · refine x_icmp_eq (tgt := 1128) (pc' := 932) dL_law_929 (by decide) rfl (fun hn => absurd hn g7) (fun _ => ?_)
    refine x_iconst (pc' := 933) (x := 0) dL_law_932 (by decide) rfl ?_
    obtain rfl := Option.some.inj h
    exact x_zret dL_law_933 rfl (Or.inl rfl) rfl (Nat.le_of_ble_eq_true rfl) rfl
def F_L_law_934 (z : xZ) (K18 : Int32 → (Nat → Nat → Int32) → (Nat → Nat → Int64) → xRr → Option (Int32 × xSt)) (v3 : Int32) (hi : Nat → Nat → Int32) (hl : Nat → Nat → Int64) (r : xRr) : Option (Int32 × xSt) := if xok (v3 + (1 : Int32)) z.1 = true then if xok (v3 + (2 : Int32)) z.1 = true then xbI (F_X11_safe (z.2 (Int32.toNatClampNeg (v3 + (1 : Int32)))) (z.2 (Int32.toNatClampNeg (v3 + (2 : Int32)))) hi hl r) (fun w4 hi4 hl4 r4 => xbI (F_X12_safe (z.2 (Int32.toNatClampNeg (v3 + (1 : Int32)))) (z.2 (Int32.toNatClampNeg (v3 + (2 : Int32)))) hi4 hl4 r4) (fun w6 hi6 hl6 r6 => if w4 = w6 then F_L_law_1128 z K18 v3 hi6 hl6 r6 else some ((0 : Int32), hi6, hl6, r6))) else none else none
set_option maxRecDepth 20000 in
set_option maxHeartbeats 2000000 in
theorem r_L_law_934 (K18 : Int32 → (Nat → Nat → Int32) → (Nat → Nat → Int64) → xRr → Option (Int32 × xSt)) (hK18 : ∀ (v3 : Int32) (hi : Nat → Nat → Int32) (hl : Nat → Nat → Int64) (r : xRr) (o : Int32 × xSt), K18 v3 hi hl r = some o → xR (RL, cL_law, 4, false, 3) (40, 122, 13196) z 122 13196 18 [some (.ref 1000003), some (.ref 0), some (.ref 90), some (.int v3)] [] (xhp hi hl r) (xoI o)) (v3 : Int32) (hi : Nat → Nat → Int32) (hl : Nat → Nat → Int64) (r : xRr) (o : Int32 × xSt) (h : F_L_law_934 z K18 v3 hi hl r = some o) : xR (RL, cL_law, 4, false, 3) (40, 122, 13196) z 122 13196 934 [some (.ref 1000003), some (.ref 0), some (.ref 90), some (.int v3)] [] (xhp hi hl r) (xoI o) := by
  refine x_aload_n (pc' := 935) dL_law_934 rfl rfl ?_
  refine x_aload_n (pc' := 936) dL_law_935 rfl rfl ?_
  refine x_iload_n (pc' := 937) dL_law_936 rfl rfl ?_
  refine x_iconst (pc' := 938) (x := 1) dL_law_937 (by decide) rfl ?_
  refine x_iadd (pc' := 939) dL_law_938 rfl ?_
  refine xg_if h (fun g1 h => ?_)
  refine x_scld (pc' := 940) dL_law_939 (xok_in g1) rfl ?_
  refine x_aload_n (pc' := 941) dL_law_940 rfl rfl ?_
  refine x_iload_n (pc' := 942) dL_law_941 rfl rfl ?_
  refine x_iconst (pc' := 943) (x := 2) dL_law_942 (by decide) rfl ?_
  refine x_iadd (pc' := 944) dL_law_943 rfl ?_
  refine xg_if h (fun g2 h => ?_)
  refine x_scld (pc' := 945) dL_law_944 (xok_in g2) rfl ?_
  refine xg_bI h (fun w4 hi4 hl4 r4 e3 h => ?_)
  refine x_callV (pc' := 948) (S := []) (As := [.int (z.2 (Int32.toNatClampNeg (v3 + (1 : Int32)))), .int (z.2 (Int32.toNatClampNeg (v3 + (2 : Int32))))]) (b' := (4, 0, 0)) dL_law_945 l_L_114 m_X11_safe rfl rfl (show 0 < 122 by decide) rfl (Nat.le_of_ble_eq_true rfl) (Nat.le_of_ble_eq_true rfl) (Nat.le_of_ble_eq_true rfl) (Nat.le_of_ble_eq_true rfl) (r_X11_safe _ _ _ _ _ _ e3) rfl ?_
  refine x_aload_n (pc' := 949) dL_law_948 rfl rfl ?_
  refine x_aload_n (pc' := 950) dL_law_949 rfl rfl ?_
  refine x_iload_n (pc' := 951) dL_law_950 rfl rfl ?_
  refine x_iconst (pc' := 952) (x := 1) dL_law_951 (by decide) rfl ?_
  refine x_iadd (pc' := 953) dL_law_952 rfl ?_
  refine x_scld (pc' := 954) dL_law_953 (xok_in g1) rfl ?_
  refine x_aload_n (pc' := 955) dL_law_954 rfl rfl ?_
  refine x_iload_n (pc' := 956) dL_law_955 rfl rfl ?_
  refine x_iconst (pc' := 957) (x := 2) dL_law_956 (by decide) rfl ?_
  refine x_iadd (pc' := 958) dL_law_957 rfl ?_
  refine x_scld (pc' := 959) dL_law_958 (xok_in g2) rfl ?_
  refine xg_bI h (fun w6 hi6 hl6 r6 e5 h => ?_)
  refine x_callV (pc' := 962) (S := [.int w4]) (As := [.int (z.2 (Int32.toNatClampNeg (v3 + (1 : Int32)))), .int (z.2 (Int32.toNatClampNeg (v3 + (2 : Int32))))]) (b' := (4, 0, 0)) dL_law_959 l_L_117 m_X12_safe rfl rfl (show 90 < 122 by decide) rfl (Nat.le_of_ble_eq_true rfl) (Nat.le_of_ble_eq_true rfl) (Nat.le_of_ble_eq_true rfl) (Nat.le_of_ble_eq_true rfl) (r_X12_safe _ _ _ _ _ _ e5) rfl ?_
  refine xg_ite h (fun g7 h => ?_) (fun g7 h => ?_)
  · refine x_icmp_eq (tgt := 1128) (pc' := 965) dL_law_962 (by decide) rfl (fun _ => ?_) (fun hn => absurd g7 hn)
    exact r_L_law_1128 K18 hK18 _ _ _ _ _ h
  · refine x_icmp_eq (tgt := 1128) (pc' := 965) dL_law_962 (by decide) rfl (fun hn => absurd hn g7) (fun _ => ?_)
    refine x_iconst (pc' := 966) (x := 0) dL_law_965 (by decide) rfl ?_
    obtain rfl := Option.some.inj h
    exact x_zret dL_law_966 rfl (Or.inl rfl) rfl (Nat.le_of_ble_eq_true rfl) rfl
def F_L_law_967 (z : xZ) (K18 : Int32 → (Nat → Nat → Int32) → (Nat → Nat → Int64) → xRr → Option (Int32 × xSt)) (v3 : Int32) (hi : Nat → Nat → Int32) (hl : Nat → Nat → Int64) (r : xRr) : Option (Int32 × xSt) := if xok (v3 + (1 : Int32)) z.1 = true then if xok (v3 + (2 : Int32)) z.1 = true then xbI (F_X11_sees (z.2 (Int32.toNatClampNeg (v3 + (1 : Int32)))) (z.2 (Int32.toNatClampNeg (v3 + (2 : Int32)))) hi hl r) (fun w4 hi4 hl4 r4 => xbI (F_X12_sees (z.2 (Int32.toNatClampNeg (v3 + (1 : Int32)))) (z.2 (Int32.toNatClampNeg (v3 + (2 : Int32)))) hi4 hl4 r4) (fun w6 hi6 hl6 r6 => if w4 = w6 then F_L_law_1128 z K18 v3 hi6 hl6 r6 else some ((0 : Int32), hi6, hl6, r6))) else none else none
set_option maxRecDepth 20000 in
set_option maxHeartbeats 2000000 in
theorem r_L_law_967 (K18 : Int32 → (Nat → Nat → Int32) → (Nat → Nat → Int64) → xRr → Option (Int32 × xSt)) (hK18 : ∀ (v3 : Int32) (hi : Nat → Nat → Int32) (hl : Nat → Nat → Int64) (r : xRr) (o : Int32 × xSt), K18 v3 hi hl r = some o → xR (RL, cL_law, 4, false, 3) (40, 122, 13196) z 122 13196 18 [some (.ref 1000003), some (.ref 0), some (.ref 90), some (.int v3)] [] (xhp hi hl r) (xoI o)) (v3 : Int32) (hi : Nat → Nat → Int32) (hl : Nat → Nat → Int64) (r : xRr) (o : Int32 × xSt) (h : F_L_law_967 z K18 v3 hi hl r = some o) : xR (RL, cL_law, 4, false, 3) (40, 122, 13196) z 122 13196 967 [some (.ref 1000003), some (.ref 0), some (.ref 90), some (.int v3)] [] (xhp hi hl r) (xoI o) := by
  refine x_aload_n (pc' := 968) dL_law_967 rfl rfl ?_
  refine x_aload_n (pc' := 969) dL_law_968 rfl rfl ?_
  refine x_iload_n (pc' := 970) dL_law_969 rfl rfl ?_
  refine x_iconst (pc' := 971) (x := 1) dL_law_970 (by decide) rfl ?_
  refine x_iadd (pc' := 972) dL_law_971 rfl ?_
  refine xg_if h (fun g1 h => ?_)
  refine x_scld (pc' := 973) dL_law_972 (xok_in g1) rfl ?_
  refine x_aload_n (pc' := 974) dL_law_973 rfl rfl ?_
  refine x_iload_n (pc' := 975) dL_law_974 rfl rfl ?_
  refine x_iconst (pc' := 976) (x := 2) dL_law_975 (by decide) rfl ?_
  refine x_iadd (pc' := 977) dL_law_976 rfl ?_
  refine xg_if h (fun g2 h => ?_)
  refine x_scld (pc' := 978) dL_law_977 (xok_in g2) rfl ?_
  refine xg_bI h (fun w4 hi4 hl4 r4 e3 h => ?_)
  refine x_callV (pc' := 981) (S := []) (As := [.int (z.2 (Int32.toNatClampNeg (v3 + (1 : Int32)))), .int (z.2 (Int32.toNatClampNeg (v3 + (2 : Int32))))]) (b' := (2, 0, 0)) dL_law_978 l_L_118 m_X11_sees rfl rfl (show 0 < 122 by decide) rfl (Nat.le_of_ble_eq_true rfl) (Nat.le_of_ble_eq_true rfl) (Nat.le_of_ble_eq_true rfl) (Nat.le_of_ble_eq_true rfl) (r_X11_sees _ _ _ _ _ _ e3) rfl ?_
  refine x_aload_n (pc' := 982) dL_law_981 rfl rfl ?_
  refine x_aload_n (pc' := 983) dL_law_982 rfl rfl ?_
  refine x_iload_n (pc' := 984) dL_law_983 rfl rfl ?_
  refine x_iconst (pc' := 985) (x := 1) dL_law_984 (by decide) rfl ?_
  refine x_iadd (pc' := 986) dL_law_985 rfl ?_
  refine x_scld (pc' := 987) dL_law_986 (xok_in g1) rfl ?_
  refine x_aload_n (pc' := 988) dL_law_987 rfl rfl ?_
  refine x_iload_n (pc' := 989) dL_law_988 rfl rfl ?_
  refine x_iconst (pc' := 990) (x := 2) dL_law_989 (by decide) rfl ?_
  refine x_iadd (pc' := 991) dL_law_990 rfl ?_
  refine x_scld (pc' := 992) dL_law_991 (xok_in g2) rfl ?_
  refine xg_bI h (fun w6 hi6 hl6 r6 e5 h => ?_)
  refine x_callV (pc' := 995) (S := [.int w4]) (As := [.int (z.2 (Int32.toNatClampNeg (v3 + (1 : Int32)))), .int (z.2 (Int32.toNatClampNeg (v3 + (2 : Int32))))]) (b' := (1, 0, 0)) dL_law_992 l_L_121 m_X12_sees rfl rfl (show 90 < 122 by decide) rfl (Nat.le_of_ble_eq_true rfl) (Nat.le_of_ble_eq_true rfl) (Nat.le_of_ble_eq_true rfl) (Nat.le_of_ble_eq_true rfl) (r_X12_sees _ _ _ _ _ _ e5) rfl ?_
  refine xg_ite h (fun g7 h => ?_) (fun g7 h => ?_)
  · refine x_icmp_eq (tgt := 1128) (pc' := 998) dL_law_995 (by decide) rfl (fun _ => ?_) (fun hn => absurd g7 hn)
    exact r_L_law_1128 K18 hK18 _ _ _ _ _ h
  · refine x_icmp_eq (tgt := 1128) (pc' := 998) dL_law_995 (by decide) rfl (fun hn => absurd hn g7) (fun _ => ?_)
    refine x_iconst (pc' := 999) (x := 0) dL_law_998 (by decide) rfl ?_
    obtain rfl := Option.some.inj h
    exact x_zret dL_law_999 rfl (Or.inl rfl) rfl (Nat.le_of_ble_eq_true rfl) rfl
def F_L_law_1000 (z : xZ) (K18 : Int32 → (Nat → Nat → Int32) → (Nat → Nat → Int64) → xRr → Option (Int32 × xSt)) (v3 : Int32) (hi : Nat → Nat → Int32) (hl : Nat → Nat → Int64) (r : xRr) : Option (Int32 × xSt) := xbI (F_X11_forget hi hl r) (fun w2 hi2 hl2 r2 => xbI (F_X12_forget hi2 hl2 r2) (fun w4 hi4 hl4 r4 => if w2 = w4 then F_L_law_1128 z K18 v3 hi4 hl4 r4 else some ((0 : Int32), hi4, hl4, r4)))
set_option maxRecDepth 20000 in
set_option maxHeartbeats 2000000 in
theorem r_L_law_1000 (K18 : Int32 → (Nat → Nat → Int32) → (Nat → Nat → Int64) → xRr → Option (Int32 × xSt)) (hK18 : ∀ (v3 : Int32) (hi : Nat → Nat → Int32) (hl : Nat → Nat → Int64) (r : xRr) (o : Int32 × xSt), K18 v3 hi hl r = some o → xR (RL, cL_law, 4, false, 3) (40, 122, 13196) z 122 13196 18 [some (.ref 1000003), some (.ref 0), some (.ref 90), some (.int v3)] [] (xhp hi hl r) (xoI o)) (v3 : Int32) (hi : Nat → Nat → Int32) (hl : Nat → Nat → Int64) (r : xRr) (o : Int32 × xSt) (h : F_L_law_1000 z K18 v3 hi hl r = some o) : xR (RL, cL_law, 4, false, 3) (40, 122, 13196) z 122 13196 1000 [some (.ref 1000003), some (.ref 0), some (.ref 90), some (.int v3)] [] (xhp hi hl r) (xoI o) := by
  refine x_aload_n (pc' := 1001) dL_law_1000 rfl rfl ?_
  refine xg_bI h (fun w2 hi2 hl2 r2 e1 h => ?_)
  refine x_callV (pc' := 1004) (S := []) (As := []) (b' := (1, 0, 0)) dL_law_1001 l_L_122 m_X11_forget rfl rfl (show 0 < 122 by decide) rfl (Nat.le_of_ble_eq_true rfl) (Nat.le_of_ble_eq_true rfl) (Nat.le_of_ble_eq_true rfl) (Nat.le_of_ble_eq_true rfl) (r_X11_forget _ _ _ _ e1) rfl ?_
  refine x_aload_n (pc' := 1005) dL_law_1004 rfl rfl ?_
  refine xg_bI h (fun w4 hi4 hl4 r4 e3 h => ?_)
  refine x_callV (pc' := 1008) (S := [.int w2]) (As := []) (b' := (0, 0, 0)) dL_law_1005 l_L_125 m_X12_forget rfl rfl (show 90 < 122 by decide) rfl (Nat.le_of_ble_eq_true rfl) (Nat.le_of_ble_eq_true rfl) (Nat.le_of_ble_eq_true rfl) (Nat.le_of_ble_eq_true rfl) (r_X12_forget _ _ _ _ e3) rfl ?_
  refine xg_ite h (fun g5 h => ?_) (fun g5 h => ?_)
  · refine x_icmp_eq (tgt := 1128) (pc' := 1011) dL_law_1008 (by decide) rfl (fun _ => ?_) (fun hn => absurd g5 hn)
    exact r_L_law_1128 K18 hK18 _ _ _ _ _ h
  · refine x_icmp_eq (tgt := 1128) (pc' := 1011) dL_law_1008 (by decide) rfl (fun hn => absurd hn g5) (fun _ => ?_)
    refine x_iconst (pc' := 1012) (x := 0) dL_law_1011 (by decide) rfl ?_
    obtain rfl := Option.some.inj h
    exact x_zret dL_law_1012 rfl (Or.inl rfl) rfl (Nat.le_of_ble_eq_true rfl) rfl
def F_L_law_1013 (z : xZ) (K18 : Int32 → (Nat → Nat → Int32) → (Nat → Nat → Int64) → xRr → Option (Int32 × xSt)) (v3 : Int32) (hi : Nat → Nat → Int32) (hl : Nat → Nat → Int64) (r : xRr) : Option (Int32 × xSt) := if xok (v3 + (1 : Int32)) z.1 = true then xbI (F_X11_unseen (z.2 (Int32.toNatClampNeg (v3 + (1 : Int32)))) hi hl r) (fun w3 hi3 hl3 r3 => xbI (F_X12_unseen (z.2 (Int32.toNatClampNeg (v3 + (1 : Int32)))) hi3 hl3 r3) (fun w5 hi5 hl5 r5 => if w3 = w5 then F_L_law_1128 z K18 v3 hi5 hl5 r5 else some ((0 : Int32), hi5, hl5, r5))) else none
set_option maxRecDepth 20000 in
set_option maxHeartbeats 2000000 in
theorem r_L_law_1013 (K18 : Int32 → (Nat → Nat → Int32) → (Nat → Nat → Int64) → xRr → Option (Int32 × xSt)) (hK18 : ∀ (v3 : Int32) (hi : Nat → Nat → Int32) (hl : Nat → Nat → Int64) (r : xRr) (o : Int32 × xSt), K18 v3 hi hl r = some o → xR (RL, cL_law, 4, false, 3) (40, 122, 13196) z 122 13196 18 [some (.ref 1000003), some (.ref 0), some (.ref 90), some (.int v3)] [] (xhp hi hl r) (xoI o)) (v3 : Int32) (hi : Nat → Nat → Int32) (hl : Nat → Nat → Int64) (r : xRr) (o : Int32 × xSt) (h : F_L_law_1013 z K18 v3 hi hl r = some o) : xR (RL, cL_law, 4, false, 3) (40, 122, 13196) z 122 13196 1013 [some (.ref 1000003), some (.ref 0), some (.ref 90), some (.int v3)] [] (xhp hi hl r) (xoI o) := by
  refine x_aload_n (pc' := 1014) dL_law_1013 rfl rfl ?_
  refine x_aload_n (pc' := 1015) dL_law_1014 rfl rfl ?_
  refine x_iload_n (pc' := 1016) dL_law_1015 rfl rfl ?_
  refine x_iconst (pc' := 1017) (x := 1) dL_law_1016 (by decide) rfl ?_
  refine x_iadd (pc' := 1018) dL_law_1017 rfl ?_
  refine xg_if h (fun g1 h => ?_)
  refine x_scld (pc' := 1019) dL_law_1018 (xok_in g1) rfl ?_
  refine xg_bI h (fun w3 hi3 hl3 r3 e2 h => ?_)
  refine x_callV (pc' := 1022) (S := []) (As := [.int (z.2 (Int32.toNatClampNeg (v3 + (1 : Int32))))]) (b' := (1, 0, 0)) dL_law_1019 l_L_126 m_X11_unseen rfl rfl (show 0 < 122 by decide) rfl (Nat.le_of_ble_eq_true rfl) (Nat.le_of_ble_eq_true rfl) (Nat.le_of_ble_eq_true rfl) (Nat.le_of_ble_eq_true rfl) (r_X11_unseen _ _ _ _ _ e2) rfl ?_
  refine x_aload_n (pc' := 1023) dL_law_1022 rfl rfl ?_
  refine x_aload_n (pc' := 1024) dL_law_1023 rfl rfl ?_
  refine x_iload_n (pc' := 1025) dL_law_1024 rfl rfl ?_
  refine x_iconst (pc' := 1026) (x := 1) dL_law_1025 (by decide) rfl ?_
  refine x_iadd (pc' := 1027) dL_law_1026 rfl ?_
  refine x_scld (pc' := 1028) dL_law_1027 (xok_in g1) rfl ?_
  refine xg_bI h (fun w5 hi5 hl5 r5 e4 h => ?_)
  refine x_callV (pc' := 1031) (S := [.int w3]) (As := [.int (z.2 (Int32.toNatClampNeg (v3 + (1 : Int32))))]) (b' := (5, 0, 0)) dL_law_1028 l_L_129 m_X12_unseen rfl rfl (show 90 < 122 by decide) rfl (Nat.le_of_ble_eq_true rfl) (Nat.le_of_ble_eq_true rfl) (Nat.le_of_ble_eq_true rfl) (Nat.le_of_ble_eq_true rfl) (r_X12_unseen _ _ _ _ _ e4) rfl ?_
  refine xg_ite h (fun g6 h => ?_) (fun g6 h => ?_)
  · refine x_icmp_eq (tgt := 1128) (pc' := 1034) dL_law_1031 (by decide) rfl (fun _ => ?_) (fun hn => absurd g6 hn)
    exact r_L_law_1128 K18 hK18 _ _ _ _ _ h
  · refine x_icmp_eq (tgt := 1128) (pc' := 1034) dL_law_1031 (by decide) rfl (fun hn => absurd hn g6) (fun _ => ?_)
    refine x_iconst (pc' := 1035) (x := 0) dL_law_1034 (by decide) rfl ?_
    obtain rfl := Option.some.inj h
    exact x_zret dL_law_1035 rfl (Or.inl rfl) rfl (Nat.le_of_ble_eq_true rfl) rfl
def F_L_law_1036 (z : xZ) (K18 : Int32 → (Nat → Nat → Int32) → (Nat → Nat → Int64) → xRr → Option (Int32 × xSt)) (v3 : Int32) (hi : Nat → Nat → Int32) (hl : Nat → Nat → Int64) (r : xRr) : Option (Int32 × xSt) := if xok (v3 + (1 : Int32)) z.1 = true then xbI (F_X11_fewest (z.2 (Int32.toNatClampNeg (v3 + (1 : Int32)))) hi hl r) (fun w3 hi3 hl3 r3 => xbI (F_X12_fewest (z.2 (Int32.toNatClampNeg (v3 + (1 : Int32)))) hi3 hl3 r3) (fun w5 hi5 hl5 r5 => if w3 = w5 then F_L_law_1128 z K18 v3 hi5 hl5 r5 else some ((0 : Int32), hi5, hl5, r5))) else none
set_option maxRecDepth 20000 in
set_option maxHeartbeats 2000000 in
theorem r_L_law_1036 (K18 : Int32 → (Nat → Nat → Int32) → (Nat → Nat → Int64) → xRr → Option (Int32 × xSt)) (hK18 : ∀ (v3 : Int32) (hi : Nat → Nat → Int32) (hl : Nat → Nat → Int64) (r : xRr) (o : Int32 × xSt), K18 v3 hi hl r = some o → xR (RL, cL_law, 4, false, 3) (40, 122, 13196) z 122 13196 18 [some (.ref 1000003), some (.ref 0), some (.ref 90), some (.int v3)] [] (xhp hi hl r) (xoI o)) (v3 : Int32) (hi : Nat → Nat → Int32) (hl : Nat → Nat → Int64) (r : xRr) (o : Int32 × xSt) (h : F_L_law_1036 z K18 v3 hi hl r = some o) : xR (RL, cL_law, 4, false, 3) (40, 122, 13196) z 122 13196 1036 [some (.ref 1000003), some (.ref 0), some (.ref 90), some (.int v3)] [] (xhp hi hl r) (xoI o) := by
  refine x_aload_n (pc' := 1037) dL_law_1036 rfl rfl ?_
  refine x_aload_n (pc' := 1038) dL_law_1037 rfl rfl ?_
  refine x_iload_n (pc' := 1039) dL_law_1038 rfl rfl ?_
  refine x_iconst (pc' := 1040) (x := 1) dL_law_1039 (by decide) rfl ?_
  refine x_iadd (pc' := 1041) dL_law_1040 rfl ?_
  refine xg_if h (fun g1 h => ?_)
  refine x_scld (pc' := 1042) dL_law_1041 (xok_in g1) rfl ?_
  refine xg_bI h (fun w3 hi3 hl3 r3 e2 h => ?_)
  refine x_callV (pc' := 1045) (S := []) (As := [.int (z.2 (Int32.toNatClampNeg (v3 + (1 : Int32))))]) (b' := (33, 0, 0)) dL_law_1042 l_L_130 m_X11_fewest rfl rfl (show 0 < 122 by decide) rfl (Nat.le_of_ble_eq_true rfl) (Nat.le_of_ble_eq_true rfl) (Nat.le_of_ble_eq_true rfl) (Nat.le_of_ble_eq_true rfl) (r_X11_fewest _ _ _ _ _ e2) rfl ?_
  refine x_aload_n (pc' := 1046) dL_law_1045 rfl rfl ?_
  refine x_aload_n (pc' := 1047) dL_law_1046 rfl rfl ?_
  refine x_iload_n (pc' := 1048) dL_law_1047 rfl rfl ?_
  refine x_iconst (pc' := 1049) (x := 1) dL_law_1048 (by decide) rfl ?_
  refine x_iadd (pc' := 1050) dL_law_1049 rfl ?_
  refine x_scld (pc' := 1051) dL_law_1050 (xok_in g1) rfl ?_
  refine xg_bI h (fun w5 hi5 hl5 r5 e4 h => ?_)
  refine x_callV (pc' := 1054) (S := [.int w3]) (As := [.int (z.2 (Int32.toNatClampNeg (v3 + (1 : Int32))))]) (b' := (5, 0, 0)) dL_law_1051 l_L_133 m_X12_fewest rfl rfl (show 90 < 122 by decide) rfl (Nat.le_of_ble_eq_true rfl) (Nat.le_of_ble_eq_true rfl) (Nat.le_of_ble_eq_true rfl) (Nat.le_of_ble_eq_true rfl) (r_X12_fewest _ _ _ _ _ e4) rfl ?_
  refine xg_ite h (fun g6 h => ?_) (fun g6 h => ?_)
  · refine x_icmp_eq (tgt := 1128) (pc' := 1057) dL_law_1054 (by decide) rfl (fun _ => ?_) (fun hn => absurd g6 hn)
    exact r_L_law_1128 K18 hK18 _ _ _ _ _ h
  · refine x_icmp_eq (tgt := 1128) (pc' := 1057) dL_law_1054 (by decide) rfl (fun hn => absurd hn g6) (fun _ => ?_)
    refine x_iconst (pc' := 1058) (x := 0) dL_law_1057 (by decide) rfl ?_
    obtain rfl := Option.some.inj h
    exact x_zret dL_law_1058 rfl (Or.inl rfl) rfl (Nat.le_of_ble_eq_true rfl) rfl
def F_L_law_1059 (z : xZ) (K18 : Int32 → (Nat → Nat → Int32) → (Nat → Nat → Int64) → xRr → Option (Int32 × xSt)) (v3 : Int32) (hi : Nat → Nat → Int32) (hl : Nat → Nat → Int64) (r : xRr) : Option (Int32 × xSt) := if xok (v3 + (1 : Int32)) z.1 = true then xbI (F_X11_keep (z.2 (Int32.toNatClampNeg (v3 + (1 : Int32)))) hi hl r) (fun w3 hi3 hl3 r3 => xbI (F_X12_keep (z.2 (Int32.toNatClampNeg (v3 + (1 : Int32)))) hi3 hl3 r3) (fun w5 hi5 hl5 r5 => if w3 = w5 then F_L_law_1128 z K18 v3 hi5 hl5 r5 else some ((0 : Int32), hi5, hl5, r5))) else none
set_option maxRecDepth 20000 in
set_option maxHeartbeats 2000000 in
theorem r_L_law_1059 (K18 : Int32 → (Nat → Nat → Int32) → (Nat → Nat → Int64) → xRr → Option (Int32 × xSt)) (hK18 : ∀ (v3 : Int32) (hi : Nat → Nat → Int32) (hl : Nat → Nat → Int64) (r : xRr) (o : Int32 × xSt), K18 v3 hi hl r = some o → xR (RL, cL_law, 4, false, 3) (40, 122, 13196) z 122 13196 18 [some (.ref 1000003), some (.ref 0), some (.ref 90), some (.int v3)] [] (xhp hi hl r) (xoI o)) (v3 : Int32) (hi : Nat → Nat → Int32) (hl : Nat → Nat → Int64) (r : xRr) (o : Int32 × xSt) (h : F_L_law_1059 z K18 v3 hi hl r = some o) : xR (RL, cL_law, 4, false, 3) (40, 122, 13196) z 122 13196 1059 [some (.ref 1000003), some (.ref 0), some (.ref 90), some (.int v3)] [] (xhp hi hl r) (xoI o) := by
  refine x_aload_n (pc' := 1060) dL_law_1059 rfl rfl ?_
  refine x_aload_n (pc' := 1061) dL_law_1060 rfl rfl ?_
  refine x_iload_n (pc' := 1062) dL_law_1061 rfl rfl ?_
  refine x_iconst (pc' := 1063) (x := 1) dL_law_1062 (by decide) rfl ?_
  refine x_iadd (pc' := 1064) dL_law_1063 rfl ?_
  refine xg_if h (fun g1 h => ?_)
  refine x_scld (pc' := 1065) dL_law_1064 (xok_in g1) rfl ?_
  refine xg_bI h (fun w3 hi3 hl3 r3 e2 h => ?_)
  refine x_callV (pc' := 1068) (S := []) (As := [.int (z.2 (Int32.toNatClampNeg (v3 + (1 : Int32))))]) (b' := (2, 0, 0)) dL_law_1065 l_L_134 m_X11_keep rfl rfl (show 0 < 122 by decide) rfl (Nat.le_of_ble_eq_true rfl) (Nat.le_of_ble_eq_true rfl) (Nat.le_of_ble_eq_true rfl) (Nat.le_of_ble_eq_true rfl) (r_X11_keep _ _ _ _ _ e2) rfl ?_
  refine x_aload_n (pc' := 1069) dL_law_1068 rfl rfl ?_
  refine x_aload_n (pc' := 1070) dL_law_1069 rfl rfl ?_
  refine x_iload_n (pc' := 1071) dL_law_1070 rfl rfl ?_
  refine x_iconst (pc' := 1072) (x := 1) dL_law_1071 (by decide) rfl ?_
  refine x_iadd (pc' := 1073) dL_law_1072 rfl ?_
  refine x_scld (pc' := 1074) dL_law_1073 (xok_in g1) rfl ?_
  refine xg_bI h (fun w5 hi5 hl5 r5 e4 h => ?_)
  refine x_callV (pc' := 1077) (S := [.int w3]) (As := [.int (z.2 (Int32.toNatClampNeg (v3 + (1 : Int32))))]) (b' := (1, 0, 0)) dL_law_1074 l_L_137 m_X12_keep rfl rfl (show 90 < 122 by decide) rfl (Nat.le_of_ble_eq_true rfl) (Nat.le_of_ble_eq_true rfl) (Nat.le_of_ble_eq_true rfl) (Nat.le_of_ble_eq_true rfl) (r_X12_keep _ _ _ _ _ e4) rfl ?_
  refine xg_ite h (fun g6 h => ?_) (fun g6 h => ?_)
  · refine x_icmp_eq (tgt := 1128) (pc' := 1080) dL_law_1077 (by decide) rfl (fun _ => ?_) (fun hn => absurd g6 hn)
    exact r_L_law_1128 K18 hK18 _ _ _ _ _ h
  · refine x_icmp_eq (tgt := 1128) (pc' := 1080) dL_law_1077 (by decide) rfl (fun hn => absurd hn g6) (fun _ => ?_)
    refine x_iconst (pc' := 1081) (x := 0) dL_law_1080 (by decide) rfl ?_
    obtain rfl := Option.some.inj h
    exact x_zret dL_law_1081 rfl (Or.inl rfl) rfl (Nat.le_of_ble_eq_true rfl) rfl
def F_L_law_1082 (z : xZ) (K18 : Int32 → (Nat → Nat → Int32) → (Nat → Nat → Int64) → xRr → Option (Int32 × xSt)) (v3 : Int32) (hi : Nat → Nat → Int32) (hl : Nat → Nat → Int64) (r : xRr) : Option (Int32 × xSt) := if xok (v3 + (1 : Int32)) z.1 = true then xbI (F_X11_back (z.2 (Int32.toNatClampNeg (v3 + (1 : Int32)))) hi hl r) (fun w3 hi3 hl3 r3 => xbI (F_X12_back (z.2 (Int32.toNatClampNeg (v3 + (1 : Int32)))) hi3 hl3 r3) (fun w5 hi5 hl5 r5 => if w3 = w5 then F_L_law_1128 z K18 v3 hi5 hl5 r5 else some ((0 : Int32), hi5, hl5, r5))) else none
set_option maxRecDepth 20000 in
set_option maxHeartbeats 2000000 in
theorem r_L_law_1082 (K18 : Int32 → (Nat → Nat → Int32) → (Nat → Nat → Int64) → xRr → Option (Int32 × xSt)) (hK18 : ∀ (v3 : Int32) (hi : Nat → Nat → Int32) (hl : Nat → Nat → Int64) (r : xRr) (o : Int32 × xSt), K18 v3 hi hl r = some o → xR (RL, cL_law, 4, false, 3) (40, 122, 13196) z 122 13196 18 [some (.ref 1000003), some (.ref 0), some (.ref 90), some (.int v3)] [] (xhp hi hl r) (xoI o)) (v3 : Int32) (hi : Nat → Nat → Int32) (hl : Nat → Nat → Int64) (r : xRr) (o : Int32 × xSt) (h : F_L_law_1082 z K18 v3 hi hl r = some o) : xR (RL, cL_law, 4, false, 3) (40, 122, 13196) z 122 13196 1082 [some (.ref 1000003), some (.ref 0), some (.ref 90), some (.int v3)] [] (xhp hi hl r) (xoI o) := by
  refine x_aload_n (pc' := 1083) dL_law_1082 rfl rfl ?_
  refine x_aload_n (pc' := 1084) dL_law_1083 rfl rfl ?_
  refine x_iload_n (pc' := 1085) dL_law_1084 rfl rfl ?_
  refine x_iconst (pc' := 1086) (x := 1) dL_law_1085 (by decide) rfl ?_
  refine x_iadd (pc' := 1087) dL_law_1086 rfl ?_
  refine xg_if h (fun g1 h => ?_)
  refine x_scld (pc' := 1088) dL_law_1087 (xok_in g1) rfl ?_
  refine xg_bI h (fun w3 hi3 hl3 r3 e2 h => ?_)
  refine x_callV (pc' := 1091) (S := []) (As := [.int (z.2 (Int32.toNatClampNeg (v3 + (1 : Int32))))]) (b' := (2, 0, 0)) dL_law_1088 l_L_138 m_X11_back rfl rfl (show 0 < 122 by decide) rfl (Nat.le_of_ble_eq_true rfl) (Nat.le_of_ble_eq_true rfl) (Nat.le_of_ble_eq_true rfl) (Nat.le_of_ble_eq_true rfl) (r_X11_back _ _ _ _ _ e2) rfl ?_
  refine x_aload_n (pc' := 1092) dL_law_1091 rfl rfl ?_
  refine x_aload_n (pc' := 1093) dL_law_1092 rfl rfl ?_
  refine x_iload_n (pc' := 1094) dL_law_1093 rfl rfl ?_
  refine x_iconst (pc' := 1095) (x := 1) dL_law_1094 (by decide) rfl ?_
  refine x_iadd (pc' := 1096) dL_law_1095 rfl ?_
  refine x_scld (pc' := 1097) dL_law_1096 (xok_in g1) rfl ?_
  refine xg_bI h (fun w5 hi5 hl5 r5 e4 h => ?_)
  refine x_callV (pc' := 1100) (S := [.int w3]) (As := [.int (z.2 (Int32.toNatClampNeg (v3 + (1 : Int32))))]) (b' := (1, 0, 0)) dL_law_1097 l_L_141 m_X12_back rfl rfl (show 90 < 122 by decide) rfl (Nat.le_of_ble_eq_true rfl) (Nat.le_of_ble_eq_true rfl) (Nat.le_of_ble_eq_true rfl) (Nat.le_of_ble_eq_true rfl) (r_X12_back _ _ _ _ _ e4) rfl ?_
  refine xg_ite h (fun g6 h => ?_) (fun g6 h => ?_)
  · refine x_icmp_eq (tgt := 1128) (pc' := 1103) dL_law_1100 (by decide) rfl (fun _ => ?_) (fun hn => absurd g6 hn)
    exact r_L_law_1128 K18 hK18 _ _ _ _ _ h
  · refine x_icmp_eq (tgt := 1128) (pc' := 1103) dL_law_1100 (by decide) rfl (fun hn => absurd hn g6) (fun _ => ?_)
    refine x_iconst (pc' := 1104) (x := 0) dL_law_1103 (by decide) rfl ?_
    obtain rfl := Option.some.inj h
    exact x_zret dL_law_1104 rfl (Or.inl rfl) rfl (Nat.le_of_ble_eq_true rfl) rfl
def F_L_law_1105 (z : xZ) (K18 : Int32 → (Nat → Nat → Int32) → (Nat → Nat → Int64) → xRr → Option (Int32 × xSt)) (v3 : Int32) (hi : Nat → Nat → Int32) (hl : Nat → Nat → Int64) (r : xRr) : Option (Int32 × xSt) := if xok (v3 + (1 : Int32)) z.1 = true then xbI (F_X11_count (z.2 (Int32.toNatClampNeg (v3 + (1 : Int32)))) hi hl r) (fun w3 hi3 hl3 r3 => xbI (F_X12_count (z.2 (Int32.toNatClampNeg (v3 + (1 : Int32)))) hi3 hl3 r3) (fun w5 hi5 hl5 r5 => if w3 = w5 then F_L_law_1128 z K18 v3 hi5 hl5 r5 else some ((0 : Int32), hi5, hl5, r5))) else none
set_option maxRecDepth 20000 in
set_option maxHeartbeats 2000000 in
theorem r_L_law_1105 (K18 : Int32 → (Nat → Nat → Int32) → (Nat → Nat → Int64) → xRr → Option (Int32 × xSt)) (hK18 : ∀ (v3 : Int32) (hi : Nat → Nat → Int32) (hl : Nat → Nat → Int64) (r : xRr) (o : Int32 × xSt), K18 v3 hi hl r = some o → xR (RL, cL_law, 4, false, 3) (40, 122, 13196) z 122 13196 18 [some (.ref 1000003), some (.ref 0), some (.ref 90), some (.int v3)] [] (xhp hi hl r) (xoI o)) (v3 : Int32) (hi : Nat → Nat → Int32) (hl : Nat → Nat → Int64) (r : xRr) (o : Int32 × xSt) (h : F_L_law_1105 z K18 v3 hi hl r = some o) : xR (RL, cL_law, 4, false, 3) (40, 122, 13196) z 122 13196 1105 [some (.ref 1000003), some (.ref 0), some (.ref 90), some (.int v3)] [] (xhp hi hl r) (xoI o) := by
  refine x_aload_n (pc' := 1106) dL_law_1105 rfl rfl ?_
  refine x_aload_n (pc' := 1107) dL_law_1106 rfl rfl ?_
  refine x_iload_n (pc' := 1108) dL_law_1107 rfl rfl ?_
  refine x_iconst (pc' := 1109) (x := 1) dL_law_1108 (by decide) rfl ?_
  refine x_iadd (pc' := 1110) dL_law_1109 rfl ?_
  refine xg_if h (fun g1 h => ?_)
  refine x_scld (pc' := 1111) dL_law_1110 (xok_in g1) rfl ?_
  refine xg_bI h (fun w3 hi3 hl3 r3 e2 h => ?_)
  refine x_callV (pc' := 1114) (S := []) (As := [.int (z.2 (Int32.toNatClampNeg (v3 + (1 : Int32))))]) (b' := (0, 0, 0)) dL_law_1111 l_L_142 m_X11_count rfl rfl (show 0 < 122 by decide) rfl (Nat.le_of_ble_eq_true rfl) (Nat.le_of_ble_eq_true rfl) (Nat.le_of_ble_eq_true rfl) (Nat.le_of_ble_eq_true rfl) (r_X11_count _ _ _ _ _ e2) rfl ?_
  refine x_aload_n (pc' := 1115) dL_law_1114 rfl rfl ?_
  refine x_aload_n (pc' := 1116) dL_law_1115 rfl rfl ?_
  refine x_iload_n (pc' := 1117) dL_law_1116 rfl rfl ?_
  refine x_iconst (pc' := 1118) (x := 1) dL_law_1117 (by decide) rfl ?_
  refine x_iadd (pc' := 1119) dL_law_1118 rfl ?_
  refine x_scld (pc' := 1120) dL_law_1119 (xok_in g1) rfl ?_
  refine xg_bI h (fun w5 hi5 hl5 r5 e4 h => ?_)
  refine x_callV (pc' := 1123) (S := [.int w3]) (As := [.int (z.2 (Int32.toNatClampNeg (v3 + (1 : Int32))))]) (b' := (1, 0, 0)) dL_law_1120 l_L_145 m_X12_count rfl rfl (show 90 < 122 by decide) rfl (Nat.le_of_ble_eq_true rfl) (Nat.le_of_ble_eq_true rfl) (Nat.le_of_ble_eq_true rfl) (Nat.le_of_ble_eq_true rfl) (r_X12_count _ _ _ _ _ e4) rfl ?_
  refine xg_ite h (fun g6 h => ?_) (fun g6 h => ?_)
  · refine x_icmp_eq (tgt := 1128) (pc' := 1126) dL_law_1123 (by decide) rfl (fun _ => ?_) (fun hn => absurd g6 hn)
    exact r_L_law_1128 K18 hK18 _ _ _ _ _ h
  · refine x_icmp_eq (tgt := 1128) (pc' := 1126) dL_law_1123 (by decide) rfl (fun hn => absurd hn g6) (fun _ => ?_)
    refine x_iconst (pc' := 1127) (x := 0) dL_law_1126 (by decide) rfl ?_
    obtain rfl := Option.some.inj h
    exact x_zret dL_law_1127 rfl (Or.inl rfl) rfl (Nat.le_of_ble_eq_true rfl) rfl
def F_L_law_18 (z : xZ) : Nat → Int32 → (Nat → Nat → Int32) → (Nat → Nat → Int64) → xRr → Option (Int32 × xSt)
  | 0, _, _, _, _ => none
  | n + 1, v3, hi, hl, r => if ((Int32.ofNat z.1) - (7 : Int32)) < v3 then some ((1 : Int32), hi, hl, r) else if xok v3 z.1 = true then if ((z.2 (Int32.toNatClampNeg v3)) &&& (31 : Int32)) = 0 then F_L_law_172 z (F_L_law_18 z n) v3 hi hl r else if ((z.2 (Int32.toNatClampNeg v3)) &&& (31 : Int32)) = 1 then F_L_law_205 z (F_L_law_18 z n) v3 hi hl r else if ((z.2 (Int32.toNatClampNeg v3)) &&& (31 : Int32)) = 2 then F_L_law_268 z (F_L_law_18 z n) v3 hi hl r else if ((z.2 (Int32.toNatClampNeg v3)) &&& (31 : Int32)) = 3 then F_L_law_281 z (F_L_law_18 z n) v3 hi hl r else if ((z.2 (Int32.toNatClampNeg v3)) &&& (31 : Int32)) = 4 then F_L_law_314 z (F_L_law_18 z n) v3 hi hl r else if ((z.2 (Int32.toNatClampNeg v3)) &&& (31 : Int32)) = 5 then F_L_law_347 z (F_L_law_18 z n) v3 hi hl r else if ((z.2 (Int32.toNatClampNeg v3)) &&& (31 : Int32)) = 6 then F_L_law_361 z (F_L_law_18 z n) v3 hi hl r else if ((z.2 (Int32.toNatClampNeg v3)) &&& (31 : Int32)) = 7 then F_L_law_374 z (F_L_law_18 z n) v3 hi hl r else if ((z.2 (Int32.toNatClampNeg v3)) &&& (31 : Int32)) = 8 then F_L_law_469 z (F_L_law_18 z n) v3 hi hl r else if ((z.2 (Int32.toNatClampNeg v3)) &&& (31 : Int32)) = 9 then F_L_law_532 z (F_L_law_18 z n) v3 hi hl r else if ((z.2 (Int32.toNatClampNeg v3)) &&& (31 : Int32)) = 10 then F_L_law_575 z (F_L_law_18 z n) v3 hi hl r else if ((z.2 (Int32.toNatClampNeg v3)) &&& (31 : Int32)) = 11 then F_L_law_588 z (F_L_law_18 z n) v3 hi hl r else if ((z.2 (Int32.toNatClampNeg v3)) &&& (31 : Int32)) = 12 then F_L_law_651 z (F_L_law_18 z n) v3 hi hl r else if ((z.2 (Int32.toNatClampNeg v3)) &&& (31 : Int32)) = 13 then F_L_law_664 z (F_L_law_18 z n) v3 hi hl r else if ((z.2 (Int32.toNatClampNeg v3)) &&& (31 : Int32)) = 14 then F_L_law_697 z (F_L_law_18 z n) v3 hi hl r else if ((z.2 (Int32.toNatClampNeg v3)) &&& (31 : Int32)) = 15 then F_L_law_710 z (F_L_law_18 z n) v3 hi hl r else if ((z.2 (Int32.toNatClampNeg v3)) &&& (31 : Int32)) = 16 then F_L_law_743 z (F_L_law_18 z n) v3 hi hl r else if ((z.2 (Int32.toNatClampNeg v3)) &&& (31 : Int32)) = 17 then F_L_law_766 z (F_L_law_18 z n) v3 hi hl r else if ((z.2 (Int32.toNatClampNeg v3)) &&& (31 : Int32)) = 18 then F_L_law_789 z (F_L_law_18 z n) v3 hi hl r else if ((z.2 (Int32.toNatClampNeg v3)) &&& (31 : Int32)) = 19 then F_L_law_812 z (F_L_law_18 z n) v3 hi hl r else if ((z.2 (Int32.toNatClampNeg v3)) &&& (31 : Int32)) = 20 then F_L_law_825 z (F_L_law_18 z n) v3 hi hl r else if ((z.2 (Int32.toNatClampNeg v3)) &&& (31 : Int32)) = 21 then F_L_law_858 z (F_L_law_18 z n) v3 hi hl r else if ((z.2 (Int32.toNatClampNeg v3)) &&& (31 : Int32)) = 22 then F_L_law_901 z (F_L_law_18 z n) v3 hi hl r else if ((z.2 (Int32.toNatClampNeg v3)) &&& (31 : Int32)) = 23 then F_L_law_934 z (F_L_law_18 z n) v3 hi hl r else if ((z.2 (Int32.toNatClampNeg v3)) &&& (31 : Int32)) = 24 then F_L_law_967 z (F_L_law_18 z n) v3 hi hl r else if ((z.2 (Int32.toNatClampNeg v3)) &&& (31 : Int32)) = 25 then F_L_law_1000 z (F_L_law_18 z n) v3 hi hl r else if ((z.2 (Int32.toNatClampNeg v3)) &&& (31 : Int32)) = 26 then F_L_law_1013 z (F_L_law_18 z n) v3 hi hl r else if ((z.2 (Int32.toNatClampNeg v3)) &&& (31 : Int32)) = 27 then F_L_law_1036 z (F_L_law_18 z n) v3 hi hl r else if ((z.2 (Int32.toNatClampNeg v3)) &&& (31 : Int32)) = 28 then F_L_law_1059 z (F_L_law_18 z n) v3 hi hl r else if ((z.2 (Int32.toNatClampNeg v3)) &&& (31 : Int32)) = 29 then F_L_law_1082 z (F_L_law_18 z n) v3 hi hl r else if ((z.2 (Int32.toNatClampNeg v3)) &&& (31 : Int32)) = 30 then F_L_law_1105 z (F_L_law_18 z n) v3 hi hl r else F_L_law_1128 z (F_L_law_18 z n) v3 hi hl r else none
set_option maxRecDepth 20000 in
set_option maxHeartbeats 2000000 in
theorem r_L_law_18 : ∀ (n : Nat) (v3 : Int32) (hi : Nat → Nat → Int32) (hl : Nat → Nat → Int64) (r : xRr) (o : Int32 × xSt), F_L_law_18 z n v3 hi hl r = some o → xR (RL, cL_law, 4, false, 3) (40, 122, 13196) z 122 13196 18 [some (.ref 1000003), some (.ref 0), some (.ref 90), some (.int v3)] [] (xhp hi hl r) (xoI o) := by
  intro n
  induction n with
  | zero =>
    intro v3 hi hl r o h
    have h : none = some o := h
    cases h
  | succ n ih =>
    intro v3 hi hl r o h
    refine x_iload_n (pc' := 19) dL_law_18 rfl rfl ?_
    refine x_aload_n (pc' := 20) dL_law_19 rfl rfl ?_
    refine x_scl (pc' := 21) dL_law_20 rfl ?_
    refine x_bipush (pc' := 23) (x := 7) dL_law_21 (by decide) rfl ?_
    refine x_isub (pc' := 24) dL_law_23 rfl ?_
    refine xg_ite h (fun g1 h => ?_) (fun g1 h => ?_)
    · refine x_icmp_gt (tgt := 1134) (pc' := 27) dL_law_24 (by decide) rfl (fun _ => ?_) (fun hn => absurd g1 hn)
      refine x_iconst (pc' := 1135) (x := 1) dL_law_1134 (by decide) rfl ?_
      obtain rfl := Option.some.inj h
      exact x_zret dL_law_1135 rfl (Or.inr rfl) rfl (Nat.le_of_ble_eq_true rfl) rfl
    · refine x_icmp_gt (tgt := 1134) (pc' := 27) dL_law_24 (by decide) rfl (fun hn => absurd hn g1) (fun _ => ?_)
      refine x_aload_n (pc' := 28) dL_law_27 rfl rfl ?_
      refine x_iload_n (pc' := 29) dL_law_28 rfl rfl ?_
      refine xg_if h (fun g2 h => ?_)
      refine x_scld (pc' := 30) dL_law_29 (xok_in g2) rfl ?_
      refine x_bipush (pc' := 32) (x := 31) dL_law_30 (by decide) rfl ?_
      refine x_iand (pc' := 33) dL_law_32 rfl ?_
      refine xg_ite h (fun g3 h => ?_) (fun g3 h => ?_)
      · refine x_tabIn (tgt := 172) (off := 139) dL_law_33 (by rw [g3]; decide) (by rw [g3]; decide) (by rw [g3]; rfl) (by decide) ?_
        exact r_L_law_172 (F_L_law_18 z n) ih _ _ _ _ _ h
      · refine xg_ite h (fun g4 h => ?_) (fun g4 h => ?_)
        · refine x_tabIn (tgt := 205) (off := 172) dL_law_33 (by rw [g4]; decide) (by rw [g4]; decide) (by rw [g4]; rfl) (by decide) ?_
          exact r_L_law_205 (F_L_law_18 z n) ih _ _ _ _ _ h
        · refine xg_ite h (fun g5 h => ?_) (fun g5 h => ?_)
          · refine x_tabIn (tgt := 268) (off := 235) dL_law_33 (by rw [g5]; decide) (by rw [g5]; decide) (by rw [g5]; rfl) (by decide) ?_
            exact r_L_law_268 (F_L_law_18 z n) ih _ _ _ _ _ h
          · refine xg_ite h (fun g6 h => ?_) (fun g6 h => ?_)
            · refine x_tabIn (tgt := 281) (off := 248) dL_law_33 (by rw [g6]; decide) (by rw [g6]; decide) (by rw [g6]; rfl) (by decide) ?_
              exact r_L_law_281 (F_L_law_18 z n) ih _ _ _ _ _ h
            · refine xg_ite h (fun g7 h => ?_) (fun g7 h => ?_)
              · refine x_tabIn (tgt := 314) (off := 281) dL_law_33 (by rw [g7]; decide) (by rw [g7]; decide) (by rw [g7]; rfl) (by decide) ?_
                exact r_L_law_314 (F_L_law_18 z n) ih _ _ _ _ _ h
              · refine xg_ite h (fun g8 h => ?_) (fun g8 h => ?_)
                · refine x_tabIn (tgt := 347) (off := 314) dL_law_33 (by rw [g8]; decide) (by rw [g8]; decide) (by rw [g8]; rfl) (by decide) ?_
                  exact r_L_law_347 (F_L_law_18 z n) ih _ _ _ _ _ h
                · refine xg_ite h (fun g9 h => ?_) (fun g9 h => ?_)
                  · refine x_tabIn (tgt := 361) (off := 328) dL_law_33 (by rw [g9]; decide) (by rw [g9]; decide) (by rw [g9]; rfl) (by decide) ?_
                    exact r_L_law_361 (F_L_law_18 z n) ih _ _ _ _ _ h
                  · refine xg_ite h (fun g10 h => ?_) (fun g10 h => ?_)
                    · refine x_tabIn (tgt := 374) (off := 341) dL_law_33 (by rw [g10]; decide) (by rw [g10]; decide) (by rw [g10]; rfl) (by decide) ?_
                      exact r_L_law_374 (F_L_law_18 z n) ih _ _ _ _ _ h
                    · refine xg_ite h (fun g11 h => ?_) (fun g11 h => ?_)
                      · refine x_tabIn (tgt := 469) (off := 436) dL_law_33 (by rw [g11]; decide) (by rw [g11]; decide) (by rw [g11]; rfl) (by decide) ?_
                        exact r_L_law_469 (F_L_law_18 z n) ih _ _ _ _ _ h
                      · refine xg_ite h (fun g12 h => ?_) (fun g12 h => ?_)
                        · refine x_tabIn (tgt := 532) (off := 499) dL_law_33 (by rw [g12]; decide) (by rw [g12]; decide) (by rw [g12]; rfl) (by decide) ?_
                          exact r_L_law_532 (F_L_law_18 z n) ih _ _ _ _ _ h
                        · refine xg_ite h (fun g13 h => ?_) (fun g13 h => ?_)
                          · refine x_tabIn (tgt := 575) (off := 542) dL_law_33 (by rw [g13]; decide) (by rw [g13]; decide) (by rw [g13]; rfl) (by decide) ?_
                            exact r_L_law_575 (F_L_law_18 z n) ih _ _ _ _ _ h
                          · refine xg_ite h (fun g14 h => ?_) (fun g14 h => ?_)
                            · refine x_tabIn (tgt := 588) (off := 555) dL_law_33 (by rw [g14]; decide) (by rw [g14]; decide) (by rw [g14]; rfl) (by decide) ?_
                              exact r_L_law_588 (F_L_law_18 z n) ih _ _ _ _ _ h
                            · refine xg_ite h (fun g15 h => ?_) (fun g15 h => ?_)
                              · refine x_tabIn (tgt := 651) (off := 618) dL_law_33 (by rw [g15]; decide) (by rw [g15]; decide) (by rw [g15]; rfl) (by decide) ?_
                                exact r_L_law_651 (F_L_law_18 z n) ih _ _ _ _ _ h
                              · refine xg_ite h (fun g16 h => ?_) (fun g16 h => ?_)
                                · refine x_tabIn (tgt := 664) (off := 631) dL_law_33 (by rw [g16]; decide) (by rw [g16]; decide) (by rw [g16]; rfl) (by decide) ?_
                                  exact r_L_law_664 (F_L_law_18 z n) ih _ _ _ _ _ h
                                · refine xg_ite h (fun g17 h => ?_) (fun g17 h => ?_)
                                  · refine x_tabIn (tgt := 697) (off := 664) dL_law_33 (by rw [g17]; decide) (by rw [g17]; decide) (by rw [g17]; rfl) (by decide) ?_
                                    exact r_L_law_697 (F_L_law_18 z n) ih _ _ _ _ _ h
                                  · refine xg_ite h (fun g18 h => ?_) (fun g18 h => ?_)
                                    · refine x_tabIn (tgt := 710) (off := 677) dL_law_33 (by rw [g18]; decide) (by rw [g18]; decide) (by rw [g18]; rfl) (by decide) ?_
                                      exact r_L_law_710 (F_L_law_18 z n) ih _ _ _ _ _ h
                                    · refine xg_ite h (fun g19 h => ?_) (fun g19 h => ?_)
                                      · refine x_tabIn (tgt := 743) (off := 710) dL_law_33 (by rw [g19]; decide) (by rw [g19]; decide) (by rw [g19]; rfl) (by decide) ?_
                                        exact r_L_law_743 (F_L_law_18 z n) ih _ _ _ _ _ h
                                      · refine xg_ite h (fun g20 h => ?_) (fun g20 h => ?_)
                                        · refine x_tabIn (tgt := 766) (off := 733) dL_law_33 (by rw [g20]; decide) (by rw [g20]; decide) (by rw [g20]; rfl) (by decide) ?_
                                          exact r_L_law_766 (F_L_law_18 z n) ih _ _ _ _ _ h
                                        · refine xg_ite h (fun g21 h => ?_) (fun g21 h => ?_)
                                          · refine x_tabIn (tgt := 789) (off := 756) dL_law_33 (by rw [g21]; decide) (by rw [g21]; decide) (by rw [g21]; rfl) (by decide) ?_
                                            exact r_L_law_789 (F_L_law_18 z n) ih _ _ _ _ _ h
                                          · refine xg_ite h (fun g22 h => ?_) (fun g22 h => ?_)
                                            · refine x_tabIn (tgt := 812) (off := 779) dL_law_33 (by rw [g22]; decide) (by rw [g22]; decide) (by rw [g22]; rfl) (by decide) ?_
                                              exact r_L_law_812 (F_L_law_18 z n) ih _ _ _ _ _ h
                                            · refine xg_ite h (fun g23 h => ?_) (fun g23 h => ?_)
                                              · refine x_tabIn (tgt := 825) (off := 792) dL_law_33 (by rw [g23]; decide) (by rw [g23]; decide) (by rw [g23]; rfl) (by decide) ?_
                                                exact r_L_law_825 (F_L_law_18 z n) ih _ _ _ _ _ h
                                              · refine xg_ite h (fun g24 h => ?_) (fun g24 h => ?_)
                                                · refine x_tabIn (tgt := 858) (off := 825) dL_law_33 (by rw [g24]; decide) (by rw [g24]; decide) (by rw [g24]; rfl) (by decide) ?_
                                                  exact r_L_law_858 (F_L_law_18 z n) ih _ _ _ _ _ h
                                                · refine xg_ite h (fun g25 h => ?_) (fun g25 h => ?_)
                                                  · refine x_tabIn (tgt := 901) (off := 868) dL_law_33 (by rw [g25]; decide) (by rw [g25]; decide) (by rw [g25]; rfl) (by decide) ?_
                                                    exact r_L_law_901 (F_L_law_18 z n) ih _ _ _ _ _ h
                                                  · refine xg_ite h (fun g26 h => ?_) (fun g26 h => ?_)
                                                    · refine x_tabIn (tgt := 934) (off := 901) dL_law_33 (by rw [g26]; decide) (by rw [g26]; decide) (by rw [g26]; rfl) (by decide) ?_
                                                      exact r_L_law_934 (F_L_law_18 z n) ih _ _ _ _ _ h
                                                    · refine xg_ite h (fun g27 h => ?_) (fun g27 h => ?_)
                                                      · refine x_tabIn (tgt := 967) (off := 934) dL_law_33 (by rw [g27]; decide) (by rw [g27]; decide) (by rw [g27]; rfl) (by decide) ?_
                                                        exact r_L_law_967 (F_L_law_18 z n) ih _ _ _ _ _ h
                                                      · refine xg_ite h (fun g28 h => ?_) (fun g28 h => ?_)
                                                        · refine x_tabIn (tgt := 1000) (off := 967) dL_law_33 (by rw [g28]; decide) (by rw [g28]; decide) (by rw [g28]; rfl) (by decide) ?_
                                                          exact r_L_law_1000 (F_L_law_18 z n) ih _ _ _ _ _ h
                                                        · refine xg_ite h (fun g29 h => ?_) (fun g29 h => ?_)
                                                          · refine x_tabIn (tgt := 1013) (off := 980) dL_law_33 (by rw [g29]; decide) (by rw [g29]; decide) (by rw [g29]; rfl) (by decide) ?_
                                                            exact r_L_law_1013 (F_L_law_18 z n) ih _ _ _ _ _ h
                                                          · refine xg_ite h (fun g30 h => ?_) (fun g30 h => ?_)
                                                            · refine x_tabIn (tgt := 1036) (off := 1003) dL_law_33 (by rw [g30]; decide) (by rw [g30]; decide) (by rw [g30]; rfl) (by decide) ?_
                                                              exact r_L_law_1036 (F_L_law_18 z n) ih _ _ _ _ _ h
                                                            · refine xg_ite h (fun g31 h => ?_) (fun g31 h => ?_)
                                                              · refine x_tabIn (tgt := 1059) (off := 1026) dL_law_33 (by rw [g31]; decide) (by rw [g31]; decide) (by rw [g31]; rfl) (by decide) ?_
                                                                exact r_L_law_1059 (F_L_law_18 z n) ih _ _ _ _ _ h
                                                              · refine xg_ite h (fun g32 h => ?_) (fun g32 h => ?_)
                                                                · refine x_tabIn (tgt := 1082) (off := 1049) dL_law_33 (by rw [g32]; decide) (by rw [g32]; decide) (by rw [g32]; rfl) (by decide) ?_
                                                                  exact r_L_law_1082 (F_L_law_18 z n) ih _ _ _ _ _ h
                                                                · refine xg_ite h (fun g33 h => ?_) (fun g33 h => ?_)
                                                                  · refine x_tabIn (tgt := 1105) (off := 1072) dL_law_33 (by rw [g33]; decide) (by rw [g33]; decide) (by rw [g33]; rfl) (by decide) ?_
                                                                    exact r_L_law_1105 (F_L_law_18 z n) ih _ _ _ _ _ h
                                                                  · refine x_tabOut (tgt := 1128) dL_law_33 (by have t0 := lv_neT g3 (a := 0) (by decide); have t1 := lv_neT g4 (a := 1) (by decide); have t2 := lv_neT g5 (a := 2) (by decide); have t3 := lv_neT g6 (a := 3) (by decide); have t4 := lv_neT g7 (a := 4) (by decide); have t5 := lv_neT g8 (a := 5) (by decide); have t6 := lv_neT g9 (a := 6) (by decide); have t7 := lv_neT g10 (a := 7) (by decide); have t8 := lv_neT g11 (a := 8) (by decide); have t9 := lv_neT g12 (a := 9) (by decide); have t10 := lv_neT g13 (a := 10) (by decide); have t11 := lv_neT g14 (a := 11) (by decide); have t12 := lv_neT g15 (a := 12) (by decide); have t13 := lv_neT g16 (a := 13) (by decide); have t14 := lv_neT g17 (a := 14) (by decide); have t15 := lv_neT g18 (a := 15) (by decide); have t16 := lv_neT g19 (a := 16) (by decide); have t17 := lv_neT g20 (a := 17) (by decide); have t18 := lv_neT g21 (a := 18) (by decide); have t19 := lv_neT g22 (a := 19) (by decide); have t20 := lv_neT g23 (a := 20) (by decide); have t21 := lv_neT g24 (a := 21) (by decide); have t22 := lv_neT g25 (a := 22) (by decide); have t23 := lv_neT g26 (a := 23) (by decide); have t24 := lv_neT g27 (a := 24) (by decide); have t25 := lv_neT g28 (a := 25) (by decide); have t26 := lv_neT g29 (a := 26) (by decide); have t27 := lv_neT g30 (a := 27) (by decide); have t28 := lv_neT g31 (a := 28) (by decide); have t29 := lv_neT g32 (a := 29) (by decide); have t30 := lv_neT g33 (a := 30) (by decide); omega) (by decide) ?_
                                                                    exact r_L_law_1128 (F_L_law_18 z n) ih _ _ _ _ _ h
end
