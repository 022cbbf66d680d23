theorem bk_L_law_18 {X : ZS} {σ : ZM} {T : Bool → ZM → Prop} {x3 : Int} (h : (r32 x3) ∧ (r32 ((X.1 : Int) - 5)) ∧ ((((X.1 : Int) - 5) < x3) → T true σ) ∧ ((¬ (((X.1 : Int) - 5) < x3)) → (0 ≤ x3) ∧ (x3 < (X.1 : Int)) ∧ (r32 (((X.2 (x3).toNat).toInt) % 2 ^ 5)) ∧ (((((X.2 (x3).toNat).toInt) % 2 ^ 5) = 0) → (0 ≤ (x3 + 1)) ∧ ((x3 + 1) < (X.1 : Int)) ∧ (r32 (x3 + 1)) ∧ (0 ≤ (x3 + 2)) ∧ ((x3 + 2) < (X.1 : Int)) ∧ (r32 (x3 + 2)) ∧ (0 ≤ (x3 + 3)) ∧ ((x3 + 3) < (X.1 : Int)) ∧ (r32 (x3 + 3)) ∧ ZC X (rX11_row zN) mX11_row [(2, 1), (0, ((X.2 ((x3 + 1)).toNat).toInt)), (0, ((X.2 ((x3 + 2)).toNat).toInt)), (0, ((X.2 ((x3 + 3)).toNat).toInt))] zN σ (zQi (fun r15 σ16 => ZC X (rX12_row zN) mX12_row [(2, 211), (0, ((X.2 ((x3 + 1)).toNat).toInt)), (0, ((X.2 ((x3 + 2)).toNat).toInt)), (0, ((X.2 ((x3 + 3)).toNat).toInt))] zN σ16 (zQi (fun r17 σ18 => (r32 r15) ∧ (r32 r17) ∧ ((r15 = r17) → Z X (rL_law zN) mL_law 18 [(3, 0), (2, 1), (2, 211), (0, (x3 + 5))] [] zN σ18 (zQz T)) ∧ ((¬ r15 = r17) → T false σ18)))))) ∧ (((((X.2 (x3).toNat).toInt) % 2 ^ 5) = 1) → (0 ≤ (x3 + 1)) ∧ ((x3 + 1) < (X.1 : Int)) ∧ (r32 (x3 + 1)) ∧ ZC X (rX11_tear zN) mX11_tear [(2, 1), (0, ((X.2 ((x3 + 1)).toNat).toInt))] zN σ (zQz (fun r24 σ25 => ZC X (rX12_tear zN) mX12_tear [(2, 211), (0, ((X.2 ((x3 + 1)).toNat).toInt))] zN σ25 (zQz (fun r26 σ27 => (((zb r24) = (zb r26)) → Z X (rL_law zN) mL_law 18 [(3, 0), (2, 1), (2, 211), (0, (x3 + 5))] [] zN σ27 (zQz T)) ∧ ((¬ (zb r24) = (zb r26)) → T false σ27)))))) ∧ (((((X.2 (x3).toNat).toInt) % 2 ^ 5) = 2) → (0 ≤ (x3 + 1)) ∧ ((x3 + 1) < (X.1 : Int)) ∧ (r32 (x3 + 1)) ∧ (0 ≤ (x3 + 2)) ∧ ((x3 + 2) < (X.1 : Int)) ∧ (r32 (x3 + 2)) ∧ (0 ≤ (x3 + 3)) ∧ ((x3 + 3) < (X.1 : Int)) ∧ (r32 (x3 + 3)) ∧ (r32 ((X.2 ((x3 + 3)).toNat).toInt)) ∧ (0 ≤ (x3 + 4)) ∧ ((x3 + 4) < (X.1 : Int)) ∧ (r32 (x3 + 4)) ∧ (r32 ((X.2 ((x3 + 4)).toNat).toInt)) ∧ ZC X (rX11_write zN) mX11_write [(2, 1), (0, ((X.2 ((x3 + 1)).toNat).toInt)), (0, ((X.2 ((x3 + 2)).toNat).toInt)), (1, ((((X.2 ((x3 + 3)).toNat).toInt) * 4294967296) + (((X.2 ((x3 + 4)).toNat).toInt) % 4294967296)))] zN σ (zQi (fun r42 σ43 => ZC X (rX12_write zN) mX12_write [(2, 211), (0, ((X.2 ((x3 + 1)).toNat).toInt)), (0, ((X.2 ((x3 + 2)).toNat).toInt)), (1, ((((X.2 ((x3 + 3)).toNat).toInt) * 4294967296) + (((X.2 ((x3 + 4)).toNat).toInt) % 4294967296)))] zN σ43 (zQi (fun r44 σ45 => (r32 r42) ∧ (r32 r44) ∧ ((r42 = r44) → Z X (rL_law zN) mL_law 18 [(3, 0), (2, 1), (2, 211), (0, (x3 + 5))] [] zN σ45 (zQz T)) ∧ ((¬ r42 = r44) → T false σ45)))))) ∧ (((((X.2 (x3).toNat).toInt) % 2 ^ 5) = 3) → (0 ≤ (x3 + 1)) ∧ ((x3 + 1) < (X.1 : Int)) ∧ (r32 (x3 + 1)) ∧ ZC X (rX11_seen zN) mX11_seen [(2, 1), (0, ((X.2 ((x3 + 1)).toNat).toInt))] zN σ (zQi (fun r51 σ52 => ZC X (rX12_seen zN) mX12_seen [(2, 211), (0, ((X.2 ((x3 + 1)).toNat).toInt))] zN σ52 (zQi (fun r53 σ54 => (r32 r51) ∧ (r32 r53) ∧ ((r51 = r53) → Z X (rL_law zN) mL_law 18 [(3, 0), (2, 1), (2, 211), (0, (x3 + 5))] [] zN σ54 (zQz T)) ∧ ((¬ r51 = r53) → T false σ54)))))) ∧ (((((X.2 (x3).toNat).toInt) % 2 ^ 5) = 4) → (0 ≤ (x3 + 1)) ∧ ((x3 + 1) < (X.1 : Int)) ∧ (r32 (x3 + 1)) ∧ (0 ≤ (x3 + 2)) ∧ ((x3 + 2) < (X.1 : Int)) ∧ (r32 (x3 + 2)) ∧ (0 ≤ (x3 + 3)) ∧ ((x3 + 3) < (X.1 : Int)) ∧ (r32 (x3 + 3)) ∧ (0 ≤ (x3 + 4)) ∧ ((x3 + 4) < (X.1 : Int)) ∧ (r32 (x3 + 4)) ∧ ZC X (rX11_see zN) mX11_see [(2, 1), (0, ((X.2 ((x3 + 1)).toNat).toInt)), (0, ((X.2 ((x3 + 2)).toNat).toInt)), (0, ((X.2 ((x3 + 3)).toNat).toInt)), (0, ((X.2 ((x3 + 4)).toNat).toInt))] zN σ (zQi (fun r69 σ70 => ZC X (rX12_see zN) mX12_see [(2, 211), (0, ((X.2 ((x3 + 1)).toNat).toInt)), (0, ((X.2 ((x3 + 2)).toNat).toInt)), (0, ((X.2 ((x3 + 3)).toNat).toInt)), (0, ((X.2 ((x3 + 4)).toNat).toInt))] zN σ70 (zQi (fun r71 σ72 => (r32 r69) ∧ (r32 r71) ∧ ((r69 = r71) → Z X (rL_law zN) mL_law 18 [(3, 0), (2, 1), (2, 211), (0, (x3 + 5))] [] zN σ72 (zQz T)) ∧ ((¬ r69 = r71) → T false σ72)))))) ∧ (((((X.2 (x3).toNat).toInt) % 2 ^ 5) = 5) → (0 ≤ (x3 + 1)) ∧ ((x3 + 1) < (X.1 : Int)) ∧ (r32 (x3 + 1)) ∧ ZC X (rX11_drop zN) mX11_drop [(2, 1), (0, ((X.2 ((x3 + 1)).toNat).toInt))] zN σ (zQi (fun r78 σ79 => ZC X (rX12_drop zN) mX12_drop [(2, 211), (0, ((X.2 ((x3 + 1)).toNat).toInt))] zN σ79 (zQi (fun r80 σ81 => (r32 r78) ∧ (r32 r80) ∧ ((r78 = r80) → Z X (rL_law zN) mL_law 18 [(3, 0), (2, 1), (2, 211), (0, (x3 + 5))] [] zN σ81 (zQz T)) ∧ ((¬ r78 = r80) → T false σ81)))))) ∧ (((((X.2 (x3).toNat).toInt) % 2 ^ 5) = 6) → (0 ≤ (x3 + 1)) ∧ ((x3 + 1) < (X.1 : Int)) ∧ (r32 (x3 + 1)) ∧ ZC X (rX11_straight zN) mX11_straight [(2, 1), (0, ((X.2 ((x3 + 1)).toNat).toInt))] zN σ (zQi (fun r87 σ88 => ZC X (rX12_straight zN) mX12_straight [(2, 211), (0, ((X.2 ((x3 + 1)).toNat).toInt))] zN σ88 (zQi (fun r89 σ90 => (r32 r87) ∧ (r32 r89) ∧ ((r87 = r89) → Z X (rL_law zN) mL_law 18 [(3, 0), (2, 1), (2, 211), (0, (x3 + 5))] [] zN σ90 (zQz T)) ∧ ((¬ r87 = r89) → T false σ90)))))) ∧ (((((X.2 (x3).toNat).toInt) % 2 ^ 5) = 7) → (0 ≤ (x3 + 1)) ∧ ((x3 + 1) < (X.1 : Int)) ∧ (r32 (x3 + 1)) ∧ (0 ≤ (x3 + 2)) ∧ ((x3 + 2) < (X.1 : Int)) ∧ (r32 (x3 + 2)) ∧ ZC X (rX11_capped zN) mX11_capped [(2, 1), (0, ((X.2 ((x3 + 1)).toNat).toInt)), (0, ((X.2 ((x3 + 2)).toNat).toInt))] zN σ (zQi (fun r99 σ100 => ZC X (rX12_capped zN) mX12_capped [(2, 211), (0, ((X.2 ((x3 + 1)).toNat).toInt)), (0, ((X.2 ((x3 + 2)).toNat).toInt))] zN σ100 (zQi (fun r101 σ102 => (r32 r99) ∧ (r32 r101) ∧ ((r99 = r101) → Z X (rL_law zN) mL_law 18 [(3, 0), (2, 1), (2, 211), (0, (x3 + 5))] [] zN σ102 (zQz T)) ∧ ((¬ r99 = r101) → T false σ102)))))) ∧ (((((X.2 (x3).toNat).toInt) % 2 ^ 5) = 8) → (0 ≤ (x3 + 1)) ∧ ((x3 + 1) < (X.1 : Int)) ∧ (r32 (x3 + 1)) ∧ ZC X (rX11_table zN) mX11_table [(2, 1), (0, ((X.2 ((x3 + 1)).toNat).toInt))] zN σ (zQi (fun r108 σ109 => ZC X (rX12_table zN) mX12_table [(2, 211), (0, ((X.2 ((x3 + 1)).toNat).toInt))] zN σ109 (zQi (fun r110 σ111 => (r32 r108) ∧ (r32 r110) ∧ ((r108 = r110) → Z X (rL_law zN) mL_law 18 [(3, 0), (2, 1), (2, 211), (0, (x3 + 5))] [] zN σ111 (zQz T)) ∧ ((¬ r108 = r110) → T false σ111)))))) ∧ (((((X.2 (x3).toNat).toInt) % 2 ^ 5) = 9) → (0 ≤ (x3 + 1)) ∧ ((x3 + 1) < (X.1 : Int)) ∧ (r32 (x3 + 1)) ∧ (0 ≤ (x3 + 2)) ∧ ((x3 + 2) < (X.1 : Int)) ∧ (r32 (x3 + 2)) ∧ ZC X (rX11_sum zN) mX11_sum [(2, 1), (0, ((X.2 ((x3 + 1)).toNat).toInt)), (0, ((X.2 ((x3 + 2)).toNat).toInt))] zN σ (zQi (fun r120 σ121 => ZC X (rX12_sum zN) mX12_sum [(2, 211), (0, ((X.2 ((x3 + 1)).toNat).toInt)), (0, ((X.2 ((x3 + 2)).toNat).toInt))] zN σ121 (zQi (fun r122 σ123 => (r32 r120) ∧ (r32 r122) ∧ ((r120 = r122) → Z X (rL_law zN) mL_law 18 [(3, 0), (2, 1), (2, 211), (0, (x3 + 5))] [] zN σ123 (zQz T)) ∧ ((¬ r120 = r122) → T false σ123)))))) ∧ (((((X.2 (x3).toNat).toInt) % 2 ^ 5) = 10) → (0 ≤ (x3 + 1)) ∧ ((x3 + 1) < (X.1 : Int)) ∧ (r32 (x3 + 1)) ∧ (0 ≤ (x3 + 2)) ∧ ((x3 + 2) < (X.1 : Int)) ∧ (r32 (x3 + 2)) ∧ ZC X (rX11_unlike zN) mX11_unlike [(2, 1), (0, ((X.2 ((x3 + 1)).toNat).toInt)), (0, ((X.2 ((x3 + 2)).toNat).toInt))] zN σ (zQi (fun r132 σ133 => ZC X (rX12_unlike zN) mX12_unlike [(2, 211), (0, ((X.2 ((x3 + 1)).toNat).toInt)), (0, ((X.2 ((x3 + 2)).toNat).toInt))] zN σ133 (zQi (fun r134 σ135 => (r32 r132) ∧ (r32 r134) ∧ ((r132 = r134) → Z X (rL_law zN) mL_law 18 [(3, 0), (2, 1), (2, 211), (0, (x3 + 5))] [] zN σ135 (zQz T)) ∧ ((¬ r132 = r134) → T false σ135)))))) ∧ (((((X.2 (x3).toNat).toInt) % 2 ^ 5) = 11) → (0 ≤ (x3 + 1)) ∧ ((x3 + 1) < (X.1 : Int)) ∧ (r32 (x3 + 1)) ∧ ZC X (rX11_use zN) mX11_use [(2, 1), (0, ((X.2 ((x3 + 1)).toNat).toInt))] zN σ (zQz (fun r141 σ142 => ZC X (rX12_use zN) mX12_use [(2, 211), (0, ((X.2 ((x3 + 1)).toNat).toInt))] zN σ142 (zQz (fun r143 σ144 => (((zb r141) = (zb r143)) → Z X (rL_law zN) mL_law 18 [(3, 0), (2, 1), (2, 211), (0, (x3 + 5))] [] zN σ144 (zQz T)) ∧ ((¬ (zb r141) = (zb r143)) → T false σ144)))))) ∧ (((((X.2 (x3).toNat).toInt) % 2 ^ 5) = 12) → (0 ≤ (x3 + 1)) ∧ ((x3 + 1) < (X.1 : Int)) ∧ (r32 (x3 + 1)) ∧ ZC X (rX11_nearest zN) mX11_nearest [(2, 1), (0, ((X.2 ((x3 + 1)).toNat).toInt))] zN σ (zQz (fun r148 σ149 => ZC X (rX12_nearest zN) mX12_nearest [(2, 211), (0, ((X.2 ((x3 + 1)).toNat).toInt))] zN σ149 (zQz (fun r150 σ151 => (((zb r148) = (zb r150)) → Z X (rL_law zN) mL_law 18 [(3, 0), (2, 1), (2, 211), (0, (x3 + 5))] [] zN σ151 (zQz T)) ∧ ((¬ (zb r148) = (zb r150)) → T false σ151)))))) ∧ (((((X.2 (x3).toNat).toInt) % 2 ^ 5) = 13) → (0 ≤ (x3 + 1)) ∧ ((x3 + 1) < (X.1 : Int)) ∧ (r32 (x3 + 1)) ∧ (0 ≤ (x3 + 2)) ∧ ((x3 + 2) < (X.1 : Int)) ∧ (r32 (x3 + 2)) ∧ ZC X (rX11_ask zN) mX11_ask [(2, 1), (0, ((X.2 ((x3 + 1)).toNat).toInt)), (0, ((X.2 ((x3 + 2)).toNat).toInt))] zN σ (zQi (fun r158 σ159 => ZC X (rX12_ask zN) mX12_ask [(2, 211), (0, ((X.2 ((x3 + 1)).toNat).toInt)), (0, ((X.2 ((x3 + 2)).toNat).toInt))] zN σ159 (zQi (fun r160 σ161 => (r32 r158) ∧ (r32 r160) ∧ ((r158 = r160) → Z X (rL_law zN) mL_law 18 [(3, 0), (2, 1), (2, 211), (0, (x3 + 5))] [] zN σ161 (zQz T)) ∧ ((¬ r158 = r160) → T false σ161)))))) ∧ (((((X.2 (x3).toNat).toInt) % 2 ^ 5) = 14) → (0 ≤ (x3 + 1)) ∧ ((x3 + 1) < (X.1 : Int)) ∧ (r32 (x3 + 1)) ∧ ZC X (rX11_mean zN) mX11_mean [(2, 1), (0, ((X.2 ((x3 + 1)).toNat).toInt))] zN σ (zQi (fun r167 σ168 => ZC X (rX12_mean zN) mX12_mean [(2, 211), (0, ((X.2 ((x3 + 1)).toNat).toInt))] zN σ168 (zQi (fun r169 σ170 => (r32 r167) ∧ (r32 r169) ∧ ((r167 = r169) → Z X (rL_law zN) mL_law 18 [(3, 0), (2, 1), (2, 211), (0, (x3 + 5))] [] zN σ170 (zQz T)) ∧ ((¬ r167 = r169) → T false σ170)))))) ∧ (((((X.2 (x3).toNat).toInt) % 2 ^ 5) = 15) → (0 ≤ (x3 + 1)) ∧ ((x3 + 1) < (X.1 : Int)) ∧ (r32 (x3 + 1)) ∧ ZC X (rX11_answer zN) mX11_answer [(2, 1), (0, ((X.2 ((x3 + 1)).toNat).toInt))] zN σ (zQz (fun r176 σ177 => ZC X (rX12_answer zN) mX12_answer [(2, 211), (0, ((X.2 ((x3 + 1)).toNat).toInt))] zN σ177 (zQz (fun r178 σ179 => (((zb r176) = (zb r178)) → Z X (rL_law zN) mL_law 18 [(3, 0), (2, 1), (2, 211), (0, (x3 + 5))] [] zN σ179 (zQz T)) ∧ ((¬ (zb r176) = (zb r178)) → T false σ179)))))) ∧ (((((X.2 (x3).toNat).toInt) % 2 ^ 5) = 16) → (0 ≤ (x3 + 1)) ∧ ((x3 + 1) < (X.1 : Int)) ∧ (r32 (x3 + 1)) ∧ ZC X (rX11_leftOut zN) mX11_leftOut [(2, 1), (0, ((X.2 ((x3 + 1)).toNat).toInt))] zN σ (zQz (fun r183 σ184 => ZC X (rX12_leftOut zN) mX12_leftOut [(2, 211), (0, ((X.2 ((x3 + 1)).toNat).toInt))] zN σ184 (zQz (fun r185 σ186 => (((zb r183) = (zb r185)) → Z X (rL_law zN) mL_law 18 [(3, 0), (2, 1), (2, 211), (0, (x3 + 5))] [] zN σ186 (zQz T)) ∧ ((¬ (zb r183) = (zb r185)) → T false σ186)))))) ∧ (((((X.2 (x3).toNat).toInt) % 2 ^ 5) = 17) → ZC X (rX11_worst zN) mX11_worst [(2, 1)] zN σ (zQi (fun r187 σ188 => ZC X (rX12_worst_ zN) mX12_worst_ [(2, 211)] zN σ188 (zQi (fun r189 σ190 => (r32 r187) ∧ (r32 r189) ∧ ((r187 = r189) → Z X (rL_law zN) mL_law 18 [(3, 0), (2, 1), (2, 211), (0, (x3 + 5))] [] zN σ190 (zQz T)) ∧ ((¬ r187 = r189) → T false σ190)))))) ∧ (((((X.2 (x3).toNat).toInt) % 2 ^ 5) = 18) → ZC X (rX11_best zN) mX11_best [(2, 1)] zN σ (zQi (fun r193 σ194 => ZC X (rX12_best zN) mX12_best [(2, 211)] zN σ194 (zQi (fun r195 σ196 => (r32 r193) ∧ (r32 r195) ∧ ((r193 = r195) → Z X (rL_law zN) mL_law 18 [(3, 0), (2, 1), (2, 211), (0, (x3 + 5))] [] zN σ196 (zQz T)) ∧ ((¬ r193 = r195) → T false σ196)))))) ∧ (((((X.2 (x3).toNat).toInt) % 2 ^ 5) = 19) → (0 ≤ (x3 + 1)) ∧ ((x3 + 1) < (X.1 : Int)) ∧ (r32 (x3 + 1)) ∧ ZC X (rX11_allowed zN) mX11_allowed [(2, 1), (0, ((X.2 ((x3 + 1)).toNat).toInt))] zN σ (zQi (fun r202 σ203 => ZC X (rX12_allowed zN) mX12_allowed [(2, 211), (0, ((X.2 ((x3 + 1)).toNat).toInt))] zN σ203 (zQi (fun r204 σ205 => (r32 r202) ∧ (r32 r204) ∧ ((r202 = r204) → Z X (rL_law zN) mL_law 18 [(3, 0), (2, 1), (2, 211), (0, (x3 + 5))] [] zN σ205 (zQz T)) ∧ ((¬ r202 = r204) → T false σ205)))))) ∧ (((((X.2 (x3).toNat).toInt) % 2 ^ 5) = 20) → (0 ≤ (x3 + 1)) ∧ ((x3 + 1) < (X.1 : Int)) ∧ (r32 (x3 + 1)) ∧ (0 ≤ (x3 + 2)) ∧ ((x3 + 2) < (X.1 : Int)) ∧ (r32 (x3 + 2)) ∧ ZC X (rX11_pairs zN) mX11_pairs [(2, 1), (0, ((X.2 ((x3 + 1)).toNat).toInt)), (0, ((X.2 ((x3 + 2)).toNat).toInt))] zN σ (zQi (fun r214 σ215 => ZC X (rX12_pairs zN) mX12_pairs [(2, 211), (0, ((X.2 ((x3 + 1)).toNat).toInt)), (0, ((X.2 ((x3 + 2)).toNat).toInt))] zN σ215 (zQi (fun r216 σ217 => (r32 r214) ∧ (r32 r216) ∧ ((r214 = r216) → Z X (rL_law zN) mL_law 18 [(3, 0), (2, 1), (2, 211), (0, (x3 + 5))] [] zN σ217 (zQz T)) ∧ ((¬ r214 = r216) → T false σ217)))))) ∧ (((((X.2 (x3).toNat).toInt) % 2 ^ 5) = 21) → (0 ≤ (x3 + 1)) ∧ ((x3 + 1) < (X.1 : Int)) ∧ (r32 (x3 + 1)) ∧ (0 ≤ (x3 + 2)) ∧ ((x3 + 2) < (X.1 : Int)) ∧ (r32 (x3 + 2)) ∧ ZC X (rX11_band zN) mX11_band [(2, 1), (0, ((X.2 ((x3 + 1)).toNat).toInt)), (0, ((X.2 ((x3 + 2)).toNat).toInt))] zN σ (zQz (fun r226 σ227 => ZC X (rX12_band zN) mX12_band [(2, 211), (0, ((X.2 ((x3 + 1)).toNat).toInt)), (0, ((X.2 ((x3 + 2)).toNat).toInt))] zN σ227 (zQz (fun r228 σ229 => (((zb r226) = (zb r228)) → Z X (rL_law zN) mL_law 18 [(3, 0), (2, 1), (2, 211), (0, (x3 + 5))] [] zN σ229 (zQz T)) ∧ ((¬ (zb r226) = (zb r228)) → T false σ229)))))) ∧ (((((X.2 (x3).toNat).toInt) % 2 ^ 5) = 22) → (0 ≤ (x3 + 1)) ∧ ((x3 + 1) < (X.1 : Int)) ∧ (r32 (x3 + 1)) ∧ ZC X (rX11_look zN) mX11_look [(2, 1), (0, ((X.2 ((x3 + 1)).toNat).toInt))] zN σ (zQi (fun r233 σ234 => ZC X (rX12_look zN) mX12_look [(2, 211), (0, ((X.2 ((x3 + 1)).toNat).toInt))] zN σ234 (zQi (fun r235 σ236 => (r32 r233) ∧ (r32 r235) ∧ ((r233 = r235) → Z X (rL_law zN) mL_law 18 [(3, 0), (2, 1), (2, 211), (0, (x3 + 5))] [] zN σ236 (zQz T)) ∧ ((¬ r233 = r235) → T false σ236)))))) ∧ (((((X.2 (x3).toNat).toInt) % 2 ^ 5) = 23) → (0 ≤ (x3 + 1)) ∧ ((x3 + 1) < (X.1 : Int)) ∧ (r32 (x3 + 1)) ∧ (r32 ((X.2 ((x3 + 1)).toNat).toInt)) ∧ ((((X.2 ((x3 + 1)).toNat).toInt) = 0) → (0 ≤ (x3 + 2)) ∧ ((x3 + 2) < (X.1 : Int)) ∧ (r32 (x3 + 2)) ∧ ZC X (rX11_part zN) mX11_part [(2, 1), (0, 0), (0, ((X.2 ((x3 + 2)).toNat).toInt))] zN σ (zQi (fun r246 σ247 => ((((X.2 ((x3 + 1)).toNat).toInt) = 0) → ZC X (rX12_part zN) mX12_part [(2, 211), (0, 0), (0, ((X.2 ((x3 + 2)).toNat).toInt))] zN σ247 (zQi (fun r248 σ249 => (r32 r246) ∧ (r32 r248) ∧ ((r246 = r248) → Z X (rL_law zN) mL_law 18 [(3, 0), (2, 1), (2, 211), (0, (x3 + 5))] [] zN σ249 (zQz T)) ∧ ((¬ r246 = r248) → T false σ249)))) ∧ ((¬ ((X.2 ((x3 + 1)).toNat).toInt) = 0) → ZC X (rX12_part zN) mX12_part [(2, 211), (0, 1), (0, ((X.2 ((x3 + 2)).toNat).toInt))] zN σ247 (zQi (fun r252 σ253 => (r32 r246) ∧ (r32 r252) ∧ ((r246 = r252) → Z X (rL_law zN) mL_law 18 [(3, 0), (2, 1), (2, 211), (0, (x3 + 5))] [] zN σ253 (zQz T)) ∧ ((¬ r246 = r252) → T false σ253))))))) ∧ ((¬ ((X.2 ((x3 + 1)).toNat).toInt) = 0) → (0 ≤ (x3 + 2)) ∧ ((x3 + 2) < (X.1 : Int)) ∧ (r32 (x3 + 2)) ∧ ZC X (rX11_part zN) mX11_part [(2, 1), (0, 1), (0, ((X.2 ((x3 + 2)).toNat).toInt))] zN σ (zQi (fun r259 σ260 => ((((X.2 ((x3 + 1)).toNat).toInt) = 0) → ZC X (rX12_part zN) mX12_part [(2, 211), (0, 0), (0, ((X.2 ((x3 + 2)).toNat).toInt))] zN σ260 (zQi (fun r261 σ262 => (r32 r259) ∧ (r32 r261) ∧ ((r259 = r261) → Z X (rL_law zN) mL_law 18 [(3, 0), (2, 1), (2, 211), (0, (x3 + 5))] [] zN σ262 (zQz T)) ∧ ((¬ r259 = r261) → T false σ262)))) ∧ ((¬ ((X.2 ((x3 + 1)).toNat).toInt) = 0) → ZC X (rX12_part zN) mX12_part [(2, 211), (0, 1), (0, ((X.2 ((x3 + 2)).toNat).toInt))] zN σ260 (zQi (fun r265 σ266 => (r32 r259) ∧ (r32 r265) ∧ ((r259 = r265) → Z X (rL_law zN) mL_law 18 [(3, 0), (2, 1), (2, 211), (0, (x3 + 5))] [] zN σ266 (zQz T)) ∧ ((¬ r259 = r265) → T false σ266)))))))) ∧ (((((X.2 (x3).toNat).toInt) % 2 ^ 5) = 24) → (0 ≤ (x3 + 1)) ∧ ((x3 + 1) < (X.1 : Int)) ∧ (r32 (x3 + 1)) ∧ (0 ≤ (x3 + 2)) ∧ ((x3 + 2) < (X.1 : Int)) ∧ (r32 (x3 + 2)) ∧ ZC X (rX11_told zN) mX11_told [(2, 1), (0, ((X.2 ((x3 + 1)).toNat).toInt)), (0, ((X.2 ((x3 + 2)).toNat).toInt))] zN σ (zQi (fun r275 σ276 => ZC X (rX12_told_ zN) mX12_told_ [(2, 211), (0, ((X.2 ((x3 + 1)).toNat).toInt)), (0, ((X.2 ((x3 + 2)).toNat).toInt))] zN σ276 (zQi (fun r277 σ278 => (r32 r275) ∧ (r32 r277) ∧ ((r275 = r277) → Z X (rL_law zN) mL_law 18 [(3, 0), (2, 1), (2, 211), (0, (x3 + 5))] [] zN σ278 (zQz T)) ∧ ((¬ r275 = r277) → T false σ278)))))) ∧ (((((X.2 (x3).toNat).toInt) % 2 ^ 5) = 25) → (0 ≤ (x3 + 1)) ∧ ((x3 + 1) < (X.1 : Int)) ∧ (r32 (x3 + 1)) ∧ ZC X (rX11_count zN) mX11_count [(2, 1), (0, ((X.2 ((x3 + 1)).toNat).toInt))] zN σ (zQi (fun r284 σ285 => ZC X (rX12_count zN) mX12_count [(2, 211), (0, ((X.2 ((x3 + 1)).toNat).toInt))] zN σ285 (zQi (fun r286 σ287 => (r32 r284) ∧ (r32 r286) ∧ ((r284 = r286) → Z X (rL_law zN) mL_law 18 [(3, 0), (2, 1), (2, 211), (0, (x3 + 5))] [] zN σ287 (zQz T)) ∧ ((¬ r284 = r286) → T false σ287)))))) ∧ (((((X.2 (x3).toNat).toInt) % 2 ^ 5) < 0 ∨ 25 < (((X.2 (x3).toNat).toInt) % 2 ^ 5)) → Z X (rL_law zN) mL_law 18 [(3, 0), (2, 1), (2, 211), (0, (x3 + 5))] [] zN σ (zQz T)))) : Z X (rL_law zN) mL_law 18 [(3, 0), (2, 1), (2, 211), (0, x3)] [] zN σ (zQz T) := by
  refine Z_iload_n 3 dL_law_18 rfl rfl ?_
  refine Z_xload_n 0 dL_law_19 rfl rfl ?_
  refine Z_slen dL_law_20 ?_
  refine Z_iconst dL_law_21 ?_
  refine Z_isub dL_law_22 ?_
  obtain ⟨g1, h⟩ := h
  obtain ⟨g2, h⟩ := h
  refine Z_icmp_gt (tgt := 932) dL_law_23 (by decide) g1 g2 (fun c => ?_) (fun c => ?_)
  · replace h := h.1 c
    refine Z_iconst dL_law_932 ?_
    exact Z_zreturn dL_law_933 rfl (Or.inr rfl) rfl ⟨rfl, true, rfl, h⟩
  · replace h := h.2 c
    refine Z_xload_n 0 dL_law_26 rfl rfl ?_
    refine Z_iload_n 3 dL_law_27 rfl rfl ?_
    obtain ⟨g3, h⟩ := h
    obtain ⟨g4, h⟩ := h
    refine Z_sld dL_law_28 g3 g4 g1 ?_
    refine Z_bipush dL_law_29 (by decide) ?_
    refine Z_iand 5 dL_law_31 (by decide) (by decide) ?_
    obtain ⟨g5, h⟩ := h
    by_cases c0 : (((X.2 (x3).toNat).toInt) % 2 ^ 5) = 0
    · replace h := h.1 c0
      refine Z_tabIn (tgt := 152) dL_law_32 g5 0 c0 (by decide) (by decide) rfl (by decide) ?_
      refine Z_aload_n 1 dL_law_152 rfl rfl ?_
      refine Z_xload_n 0 dL_law_153 rfl rfl ?_
      refine Z_iload_n 3 dL_law_154 rfl rfl ?_
      refine Z_iconst dL_law_155 ?_
      refine Z_iadd dL_law_156 ?_
      obtain ⟨g6, h⟩ := h
      obtain ⟨g7, h⟩ := h
      obtain ⟨g8, h⟩ := h
      refine Z_sld dL_law_157 g6 g7 g8 ?_
      refine Z_xload_n 0 dL_law_158 rfl rfl ?_
      refine Z_iload_n 3 dL_law_159 rfl rfl ?_
      refine Z_iconst dL_law_160 ?_
      refine Z_iadd dL_law_161 ?_
      obtain ⟨g9, h⟩ := h
      obtain ⟨g10, h⟩ := h
      obtain ⟨g11, h⟩ := h
      refine Z_sld dL_law_162 g9 g10 g11 ?_
      refine Z_xload_n 0 dL_law_163 rfl rfl ?_
      refine Z_iload_n 3 dL_law_164 rfl rfl ?_
      refine Z_iconst dL_law_165 ?_
      refine Z_iadd dL_law_166 ?_
      obtain ⟨g12, h⟩ := h
      obtain ⟨g13, h⟩ := h
      obtain ⟨g14, h⟩ := h
      refine Z_sld dL_law_167 g12 g13 g14 ?_
      refine Z_invV (T := TX11) (N := 15) (ci := 11) (M' := mX11_row) (ρ' := rX11_row zN) (st := []) [(0, ((X.2 ((x3 + 1)).toNat).toInt)), (0, ((X.2 ((x3 + 2)).toNat).toInt)), (0, ((X.2 ((x3 + 3)).toNat).toInt))] dL_law_168 rfl rfl la_1 (z_leN la_1 (by decide)) (by decide) rfl rfl (kX11_row.cl (Nat.le_of_ble_eq_true rfl) (Nat.le_refl _) (Nat.le_refl _) (Nat.le_of_ble_eq_true rfl) (Nat.le_of_ble_eq_true rfl) (Nat.le_of_ble_eq_true rfl)) (mlL_13 rfl) iX11_row sX11_row h (z_ki (fun r15 σ16 h => ?_))
      refine Z_aload_n 2 dL_law_171 rfl rfl ?_
      refine Z_xload_n 0 dL_law_172 rfl rfl ?_
      refine Z_iload_n 3 dL_law_173 rfl rfl ?_
      refine Z_iconst dL_law_174 ?_
      refine Z_iadd dL_law_175 ?_
      refine Z_sld dL_law_176 g6 g7 g8 ?_
      refine Z_xload_n 0 dL_law_177 rfl rfl ?_
      refine Z_iload_n 3 dL_law_178 rfl rfl ?_
      refine Z_iconst dL_law_179 ?_
      refine Z_iadd dL_law_180 ?_
      refine Z_sld dL_law_181 g9 g10 g11 ?_
      refine Z_xload_n 0 dL_law_182 rfl rfl ?_
      refine Z_iload_n 3 dL_law_183 rfl rfl ?_
      refine Z_iconst dL_law_184 ?_
      refine Z_iadd dL_law_185 ?_
      refine Z_sld dL_law_186 g12 g13 g14 ?_
      refine Z_invV (T := TX12) (N := 30) (ci := 12) (M' := mX12_row) (ρ' := rX12_row zN) (st := [(0, r15)]) [(0, ((X.2 ((x3 + 1)).toNat).toInt)), (0, ((X.2 ((x3 + 2)).toNat).toInt)), (0, ((X.2 ((x3 + 3)).toNat).toInt))] dL_law_187 rfl rfl la_211 (z_leN la_211 (by decide)) (by decide) rfl rfl (kX12_row.cl (Nat.le_of_ble_eq_true rfl) (Nat.le_refl _) (Nat.le_refl _) (Nat.le_of_ble_eq_true rfl) (Nat.le_of_ble_eq_true rfl) (Nat.le_of_ble_eq_true rfl)) (mlL_17 rfl) iX12_row sX12_row h (z_ki (fun r17 σ18 h => ?_))
      obtain ⟨g19, h⟩ := h
      obtain ⟨g20, h⟩ := h
      refine Z_icmp_eq (tgt := 926) dL_law_190 (by decide) g19 g20 (fun c => ?_) (fun c => ?_)
      · replace h := h.1 c
        refine Z_iinc (L' := [(3, 0), (2, 1), (2, 211), (0, (x3 + 5))]) dL_law_926 rfl (Nat.le_of_ble_eq_true rfl) rfl ?_
        refine Z_goto (tgt := 18) dL_law_929 (by decide) ?_
        exact Z_few (z_few_k (z_few_k (z_few_k (z_few_k z_few_0)))) h
      · replace h := h.2 c
        refine Z_iconst dL_law_193 ?_
        exact Z_zreturn dL_law_194 rfl (Or.inl rfl) rfl ⟨rfl, false, rfl, h⟩
    replace h := h.2
    by_cases c1 : (((X.2 (x3).toNat).toInt) % 2 ^ 5) = 1
    · replace h := h.1 c1
      refine Z_tabIn (tgt := 195) dL_law_32 g5 1 c1 (by decide) (by decide) rfl (by decide) ?_
      refine Z_aload_n 1 dL_law_195 rfl rfl ?_
      refine Z_xload_n 0 dL_law_196 rfl rfl ?_
      refine Z_iload_n 3 dL_law_197 rfl rfl ?_
      refine Z_iconst dL_law_198 ?_
      refine Z_iadd dL_law_199 ?_
      obtain ⟨g21, h⟩ := h
      obtain ⟨g22, h⟩ := h
      obtain ⟨g23, h⟩ := h
      refine Z_sld dL_law_200 g21 g22 g23 ?_
      refine Z_invV (T := TX11) (N := 15) (ci := 11) (M' := mX11_tear) (ρ' := rX11_tear zN) (st := []) [(0, ((X.2 ((x3 + 1)).toNat).toInt))] dL_law_201 rfl rfl la_1 (z_leN la_1 (by decide)) (by decide) rfl rfl (kX11_tear.cl (Nat.le_of_ble_eq_true rfl) (Nat.le_refl _) (Nat.le_refl _) (Nat.le_of_ble_eq_true rfl) (Nat.le_of_ble_eq_true rfl) (Nat.le_of_ble_eq_true rfl)) (mlL_18 rfl) iX11_tear sX11_tear h (z_kz (fun r24 σ25 h => ?_))
      refine Z_aload_n 2 dL_law_204 rfl rfl ?_
      refine Z_xload_n 0 dL_law_205 rfl rfl ?_
      refine Z_iload_n 3 dL_law_206 rfl rfl ?_
      refine Z_iconst dL_law_207 ?_
      refine Z_iadd dL_law_208 ?_
      refine Z_sld dL_law_209 g21 g22 g23 ?_
      refine Z_invV (T := TX12) (N := 30) (ci := 12) (M' := mX12_tear) (ρ' := rX12_tear zN) (st := [(0, (zb r24))]) [(0, ((X.2 ((x3 + 1)).toNat).toInt))] dL_law_210 rfl rfl la_211 (z_leN la_211 (by decide)) (by decide) rfl rfl (kX12_tear.cl (Nat.le_of_ble_eq_true rfl) (Nat.le_refl _) (Nat.le_refl _) (Nat.le_of_ble_eq_true rfl) (Nat.le_of_ble_eq_true rfl) (Nat.le_of_ble_eq_true rfl)) (mlL_22 rfl) iX12_tear sX12_tear h (z_kz (fun r26 σ27 h => ?_))
      refine Z_icmp_eq (tgt := 926) dL_law_213 (by decide) (zb_r _) (zb_r _) (fun c => ?_) (fun c => ?_)
      · replace h := h.1 c
        refine Z_iinc (L' := [(3, 0), (2, 1), (2, 211), (0, (x3 + 5))]) dL_law_926 rfl (Nat.le_of_ble_eq_true rfl) rfl ?_
        refine Z_goto (tgt := 18) dL_law_929 (by decide) ?_
        exact Z_few (z_few_k (z_few_k (z_few_k (z_few_k z_few_0)))) h
      · replace h := h.2 c
        refine Z_iconst dL_law_216 ?_
        exact Z_zreturn dL_law_217 rfl (Or.inl rfl) rfl ⟨rfl, false, rfl, h⟩
    replace h := h.2
    by_cases c2 : (((X.2 (x3).toNat).toInt) % 2 ^ 5) = 2
    · replace h := h.1 c2
      refine Z_tabIn (tgt := 218) dL_law_32 g5 2 c2 (by decide) (by decide) rfl (by decide) ?_
      refine Z_aload_n 1 dL_law_218 rfl rfl ?_
      refine Z_xload_n 0 dL_law_219 rfl rfl ?_
      refine Z_iload_n 3 dL_law_220 rfl rfl ?_
      refine Z_iconst dL_law_221 ?_
      refine Z_iadd dL_law_222 ?_
      obtain ⟨g28, h⟩ := h
      obtain ⟨g29, h⟩ := h
      obtain ⟨g30, h⟩ := h
      refine Z_sld dL_law_223 g28 g29 g30 ?_
      refine Z_xload_n 0 dL_law_224 rfl rfl ?_
      refine Z_iload_n 3 dL_law_225 rfl rfl ?_
      refine Z_iconst dL_law_226 ?_
      refine Z_iadd dL_law_227 ?_
      obtain ⟨g31, h⟩ := h
      obtain ⟨g32, h⟩ := h
      obtain ⟨g33, h⟩ := h
      refine Z_sld dL_law_228 g31 g32 g33 ?_
      refine Z_xload_n 0 dL_law_229 rfl rfl ?_
      refine Z_iload_n 3 dL_law_230 rfl rfl ?_
      refine Z_iconst dL_law_231 ?_
      refine Z_iadd dL_law_232 ?_
      obtain ⟨g34, h⟩ := h
      obtain ⟨g35, h⟩ := h
      obtain ⟨g36, h⟩ := h
      refine Z_sld dL_law_233 g34 g35 g36 ?_
      obtain ⟨g37, h⟩ := h
      refine Z_i2l dL_law_234 g37 ?_
      refine Z_bipush dL_law_235 (by decide) ?_
      refine Z_lshl dL_law_237 ?_
      refine Z_xload_n 0 dL_law_238 rfl rfl ?_
      refine Z_iload_n 3 dL_law_239 rfl rfl ?_
      refine Z_iconst dL_law_240 ?_
      refine Z_iadd dL_law_241 ?_
      obtain ⟨g38, h⟩ := h
      obtain ⟨g39, h⟩ := h
      obtain ⟨g40, h⟩ := h
      refine Z_sld dL_law_242 g38 g39 g40 ?_
      obtain ⟨g41, h⟩ := h
      refine Z_i2l dL_law_243 g41 ?_
      refine Z_ldc2 (x := 4294967295) dL_law_244 ctL_23 rfl ?_
      refine Z_land dL_law_247 ?_
      refine Z_lor dL_law_248 (Int.emod_nonneg _ (by decide)) (Int.emod_lt_of_pos _ (by decide)) ?_
      refine Z_invV (T := TX11) (N := 15) (ci := 11) (M' := mX11_write) (ρ' := rX11_write zN) (st := []) [(0, ((X.2 ((x3 + 1)).toNat).toInt)), (0, ((X.2 ((x3 + 2)).toNat).toInt)), (1, ((((X.2 ((x3 + 3)).toNat).toInt) * 4294967296) + (((X.2 ((x3 + 4)).toNat).toInt) % 4294967296)))] dL_law_249 rfl rfl la_1 (z_leN la_1 (by decide)) (by decide) rfl rfl (kX11_write.cl (Nat.le_of_ble_eq_true rfl) (Nat.le_refl _) (Nat.le_refl _) (Nat.le_of_ble_eq_true rfl) (Nat.le_of_ble_eq_true rfl) (Nat.le_of_ble_eq_true rfl)) (mlL_25 rfl) iX11_write sX11_write h (z_ki (fun r42 σ43 h => ?_))
      refine Z_aload_n 2 dL_law_252 rfl rfl ?_
      refine Z_xload_n 0 dL_law_253 rfl rfl ?_
      refine Z_iload_n 3 dL_law_254 rfl rfl ?_
      refine Z_iconst dL_law_255 ?_
      refine Z_iadd dL_law_256 ?_
      refine Z_sld dL_law_257 g28 g29 g30 ?_
      refine Z_xload_n 0 dL_law_258 rfl rfl ?_
      refine Z_iload_n 3 dL_law_259 rfl rfl ?_
      refine Z_iconst dL_law_260 ?_
      refine Z_iadd dL_law_261 ?_
      refine Z_sld dL_law_262 g31 g32 g33 ?_
      refine Z_xload_n 0 dL_law_263 rfl rfl ?_
      refine Z_iload_n 3 dL_law_264 rfl rfl ?_
      refine Z_iconst dL_law_265 ?_
      refine Z_iadd dL_law_266 ?_
      refine Z_sld dL_law_267 g34 g35 g36 ?_
      refine Z_i2l dL_law_268 g37 ?_
      refine Z_bipush dL_law_269 (by decide) ?_
      refine Z_lshl dL_law_271 ?_
      refine Z_xload_n 0 dL_law_272 rfl rfl ?_
      refine Z_iload_n 3 dL_law_273 rfl rfl ?_
      refine Z_iconst dL_law_274 ?_
      refine Z_iadd dL_law_275 ?_
      refine Z_sld dL_law_276 g38 g39 g40 ?_
      refine Z_i2l dL_law_277 g41 ?_
      refine Z_ldc2 (x := 4294967295) dL_law_278 ctL_23 rfl ?_
      refine Z_land dL_law_281 ?_
      refine Z_lor dL_law_282 (Int.emod_nonneg _ (by decide)) (Int.emod_lt_of_pos _ (by decide)) ?_
      refine Z_invV (T := TX12) (N := 30) (ci := 12) (M' := mX12_write) (ρ' := rX12_write zN) (st := [(0, r42)]) [(0, ((X.2 ((x3 + 1)).toNat).toInt)), (0, ((X.2 ((x3 + 2)).toNat).toInt)), (1, ((((X.2 ((x3 + 3)).toNat).toInt) * 4294967296) + (((X.2 ((x3 + 4)).toNat).toInt) % 4294967296)))] dL_law_283 rfl rfl la_211 (z_leN la_211 (by decide)) (by decide) rfl rfl (kX12_write.cl (Nat.le_of_ble_eq_true rfl) (Nat.le_refl _) (Nat.le_refl _) (Nat.le_of_ble_eq_true rfl) (Nat.le_of_ble_eq_true rfl) (Nat.le_of_ble_eq_true rfl)) (mlL_29 rfl) iX12_write sX12_write h (z_ki (fun r44 σ45 h => ?_))
      obtain ⟨g46, h⟩ := h
      obtain ⟨g47, h⟩ := h
      refine Z_icmp_eq (tgt := 926) dL_law_286 (by decide) g46 g47 (fun c => ?_) (fun c => ?_)
      · replace h := h.1 c
        refine Z_iinc (L' := [(3, 0), (2, 1), (2, 211), (0, (x3 + 5))]) dL_law_926 rfl (Nat.le_of_ble_eq_true rfl) rfl ?_
        refine Z_goto (tgt := 18) dL_law_929 (by decide) ?_
        exact Z_few (z_few_k (z_few_k (z_few_k (z_few_k z_few_0)))) h
      · replace h := h.2 c
        refine Z_iconst dL_law_289 ?_
        exact Z_zreturn dL_law_290 rfl (Or.inl rfl) rfl ⟨rfl, false, rfl, h⟩
    replace h := h.2
    by_cases c3 : (((X.2 (x3).toNat).toInt) % 2 ^ 5) = 3
    · replace h := h.1 c3
      refine Z_tabIn (tgt := 291) dL_law_32 g5 3 c3 (by decide) (by decide) rfl (by decide) ?_
      refine Z_aload_n 1 dL_law_291 rfl rfl ?_
      refine Z_xload_n 0 dL_law_292 rfl rfl ?_
      refine Z_iload_n 3 dL_law_293 rfl rfl ?_
      refine Z_iconst dL_law_294 ?_
      refine Z_iadd dL_law_295 ?_
      obtain ⟨g48, h⟩ := h
      obtain ⟨g49, h⟩ := h
      obtain ⟨g50, h⟩ := h
      refine Z_sld dL_law_296 g48 g49 g50 ?_
      refine Z_invV (T := TX11) (N := 15) (ci := 11) (M' := mX11_seen) (ρ' := rX11_seen zN) (st := []) [(0, ((X.2 ((x3 + 1)).toNat).toInt))] dL_law_297 rfl rfl la_1 (z_leN la_1 (by decide)) (by decide) rfl rfl (kX11_seen.cl (Nat.le_of_ble_eq_true rfl) (Nat.le_refl _) (Nat.le_refl _) (Nat.le_of_ble_eq_true rfl) (Nat.le_of_ble_eq_true rfl) (Nat.le_of_ble_eq_true rfl)) (mlL_30 rfl) iX11_seen sX11_seen h (z_ki (fun r51 σ52 h => ?_))
      refine Z_aload_n 2 dL_law_300 rfl rfl ?_
      refine Z_xload_n 0 dL_law_301 rfl rfl ?_
      refine Z_iload_n 3 dL_law_302 rfl rfl ?_
      refine Z_iconst dL_law_303 ?_
      refine Z_iadd dL_law_304 ?_
      refine Z_sld dL_law_305 g48 g49 g50 ?_
      refine Z_invV (T := TX12) (N := 30) (ci := 12) (M' := mX12_seen) (ρ' := rX12_seen zN) (st := [(0, r51)]) [(0, ((X.2 ((x3 + 1)).toNat).toInt))] dL_law_306 rfl rfl la_211 (z_leN la_211 (by decide)) (by decide) rfl rfl (kX12_seen.cl (Nat.le_of_ble_eq_true rfl) (Nat.le_refl _) (Nat.le_refl _) (Nat.le_of_ble_eq_true rfl) (Nat.le_of_ble_eq_true rfl) (Nat.le_of_ble_eq_true rfl)) (mlL_34 rfl) iX12_seen sX12_seen h (z_ki (fun r53 σ54 h => ?_))
      obtain ⟨g55, h⟩ := h
      obtain ⟨g56, h⟩ := h
      refine Z_icmp_eq (tgt := 926) dL_law_309 (by decide) g55 g56 (fun c => ?_) (fun c => ?_)
      · replace h := h.1 c
        refine Z_iinc (L' := [(3, 0), (2, 1), (2, 211), (0, (x3 + 5))]) dL_law_926 rfl (Nat.le_of_ble_eq_true rfl) rfl ?_
        refine Z_goto (tgt := 18) dL_law_929 (by decide) ?_
        exact Z_few (z_few_k (z_few_k (z_few_k (z_few_k z_few_0)))) h
      · replace h := h.2 c
        refine Z_iconst dL_law_312 ?_
        exact Z_zreturn dL_law_313 rfl (Or.inl rfl) rfl ⟨rfl, false, rfl, h⟩
    replace h := h.2
    by_cases c4 : (((X.2 (x3).toNat).toInt) % 2 ^ 5) = 4
    · replace h := h.1 c4
      refine Z_tabIn (tgt := 314) dL_law_32 g5 4 c4 (by decide) (by decide) rfl (by decide) ?_
      refine Z_aload_n 1 dL_law_314 rfl rfl ?_
      refine Z_xload_n 0 dL_law_315 rfl rfl ?_
      refine Z_iload_n 3 dL_law_316 rfl rfl ?_
      refine Z_iconst dL_law_317 ?_
      refine Z_iadd dL_law_318 ?_
      obtain ⟨g57, h⟩ := h
      obtain ⟨g58, h⟩ := h
      obtain ⟨g59, h⟩ := h
      refine Z_sld dL_law_319 g57 g58 g59 ?_
      refine Z_xload_n 0 dL_law_320 rfl rfl ?_
      refine Z_iload_n 3 dL_law_321 rfl rfl ?_
      refine Z_iconst dL_law_322 ?_
      refine Z_iadd dL_law_323 ?_
      obtain ⟨g60, h⟩ := h
      obtain ⟨g61, h⟩ := h
      obtain ⟨g62, h⟩ := h
      refine Z_sld dL_law_324 g60 g61 g62 ?_
      refine Z_xload_n 0 dL_law_325 rfl rfl ?_
      refine Z_iload_n 3 dL_law_326 rfl rfl ?_
      refine Z_iconst dL_law_327 ?_
      refine Z_iadd dL_law_328 ?_
      obtain ⟨g63, h⟩ := h
      obtain ⟨g64, h⟩ := h
      obtain ⟨g65, h⟩ := h
      refine Z_sld dL_law_329 g63 g64 g65 ?_
      refine Z_xload_n 0 dL_law_330 rfl rfl ?_
      refine Z_iload_n 3 dL_law_331 rfl rfl ?_
      refine Z_iconst dL_law_332 ?_
      refine Z_iadd dL_law_333 ?_
      obtain ⟨g66, h⟩ := h
      obtain ⟨g67, h⟩ := h
      obtain ⟨g68, h⟩ := h
      refine Z_sld dL_law_334 g66 g67 g68 ?_
      refine Z_invV (T := TX11) (N := 15) (ci := 11) (M' := mX11_see) (ρ' := rX11_see zN) (st := []) [(0, ((X.2 ((x3 + 1)).toNat).toInt)), (0, ((X.2 ((x3 + 2)).toNat).toInt)), (0, ((X.2 ((x3 + 3)).toNat).toInt)), (0, ((X.2 ((x3 + 4)).toNat).toInt))] dL_law_335 rfl rfl la_1 (z_leN la_1 (by decide)) (by decide) rfl rfl (kX11_see.cl (Nat.le_of_ble_eq_true rfl) (Nat.le_refl _) (Nat.le_refl _) (Nat.le_of_ble_eq_true rfl) (Nat.le_of_ble_eq_true rfl) (Nat.le_of_ble_eq_true rfl)) (mlL_35 rfl) iX11_see sX11_see h (z_ki (fun r69 σ70 h => ?_))
      refine Z_aload_n 2 dL_law_338 rfl rfl ?_
      refine Z_xload_n 0 dL_law_339 rfl rfl ?_
      refine Z_iload_n 3 dL_law_340 rfl rfl ?_
      refine Z_iconst dL_law_341 ?_
      refine Z_iadd dL_law_342 ?_
      refine Z_sld dL_law_343 g57 g58 g59 ?_
      refine Z_xload_n 0 dL_law_344 rfl rfl ?_
      refine Z_iload_n 3 dL_law_345 rfl rfl ?_
      refine Z_iconst dL_law_346 ?_
      refine Z_iadd dL_law_347 ?_
      refine Z_sld dL_law_348 g60 g61 g62 ?_
      refine Z_xload_n 0 dL_law_349 rfl rfl ?_
      refine Z_iload_n 3 dL_law_350 rfl rfl ?_
      refine Z_iconst dL_law_351 ?_
      refine Z_iadd dL_law_352 ?_
      refine Z_sld dL_law_353 g63 g64 g65 ?_
      refine Z_xload_n 0 dL_law_354 rfl rfl ?_
      refine Z_iload_n 3 dL_law_355 rfl rfl ?_
      refine Z_iconst dL_law_356 ?_
      refine Z_iadd dL_law_357 ?_
      refine Z_sld dL_law_358 g66 g67 g68 ?_
      refine Z_invV (T := TX12) (N := 30) (ci := 12) (M' := mX12_see) (ρ' := rX12_see zN) (st := [(0, r69)]) [(0, ((X.2 ((x3 + 1)).toNat).toInt)), (0, ((X.2 ((x3 + 2)).toNat).toInt)), (0, ((X.2 ((x3 + 3)).toNat).toInt)), (0, ((X.2 ((x3 + 4)).toNat).toInt))] dL_law_359 rfl rfl la_211 (z_leN la_211 (by decide)) (by decide) rfl rfl (kX12_see.cl (Nat.le_of_ble_eq_true rfl) (Nat.le_refl _) (Nat.le_refl _) (Nat.le_of_ble_eq_true rfl) (Nat.le_of_ble_eq_true rfl) (Nat.le_of_ble_eq_true rfl)) (mlL_39 rfl) iX12_see sX12_see h (z_ki (fun r71 σ72 h => ?_))
      obtain ⟨g73, h⟩ := h
      obtain ⟨g74, h⟩ := h
      refine Z_icmp_eq (tgt := 926) dL_law_362 (by decide) g73 g74 (fun c => ?_) (fun c => ?_)
      · replace h := h.1 c
        refine Z_iinc (L' := [(3, 0), (2, 1), (2, 211), (0, (x3 + 5))]) dL_law_926 rfl (Nat.le_of_ble_eq_true rfl) rfl ?_
        refine Z_goto (tgt := 18) dL_law_929 (by decide) ?_
        exact Z_few (z_few_k (z_few_k (z_few_k (z_few_k z_few_0)))) h
      · replace h := h.2 c
        refine Z_iconst dL_law_365 ?_
        exact Z_zreturn dL_law_366 rfl (Or.inl rfl) rfl ⟨rfl, false, rfl, h⟩
    replace h := h.2
    by_cases c5 : (((X.2 (x3).toNat).toInt) % 2 ^ 5) = 5
    · replace h := h.1 c5
      refine Z_tabIn (tgt := 367) dL_law_32 g5 5 c5 (by decide) (by decide) rfl (by decide) ?_
      refine Z_aload_n 1 dL_law_367 rfl rfl ?_
      refine Z_xload_n 0 dL_law_368 rfl rfl ?_
      refine Z_iload_n 3 dL_law_369 rfl rfl ?_
      refine Z_iconst dL_law_370 ?_
      refine Z_iadd dL_law_371 ?_
      obtain ⟨g75, h⟩ := h
      obtain ⟨g76, h⟩ := h
      obtain ⟨g77, h⟩ := h
      refine Z_sld dL_law_372 g75 g76 g77 ?_
      refine Z_invV (T := TX11) (N := 15) (ci := 11) (M' := mX11_drop) (ρ' := rX11_drop zN) (st := []) [(0, ((X.2 ((x3 + 1)).toNat).toInt))] dL_law_373 rfl rfl la_1 (z_leN la_1 (by decide)) (by decide) rfl rfl (kX11_drop.cl (Nat.le_of_ble_eq_true rfl) (Nat.le_refl _) (Nat.le_refl _) (Nat.le_of_ble_eq_true rfl) (Nat.le_of_ble_eq_true rfl) (Nat.le_of_ble_eq_true rfl)) (mlL_40 rfl) iX11_drop sX11_drop h (z_ki (fun r78 σ79 h => ?_))
      refine Z_aload_n 2 dL_law_376 rfl rfl ?_
      refine Z_xload_n 0 dL_law_377 rfl rfl ?_
      refine Z_iload_n 3 dL_law_378 rfl rfl ?_
      refine Z_iconst dL_law_379 ?_
      refine Z_iadd dL_law_380 ?_
      refine Z_sld dL_law_381 g75 g76 g77 ?_
      refine Z_invV (T := TX12) (N := 30) (ci := 12) (M' := mX12_drop) (ρ' := rX12_drop zN) (st := [(0, r78)]) [(0, ((X.2 ((x3 + 1)).toNat).toInt))] dL_law_382 rfl rfl la_211 (z_leN la_211 (by decide)) (by decide) rfl rfl (kX12_drop.cl (Nat.le_of_ble_eq_true rfl) (Nat.le_refl _) (Nat.le_refl _) (Nat.le_of_ble_eq_true rfl) (Nat.le_of_ble_eq_true rfl) (Nat.le_of_ble_eq_true rfl)) (mlL_43 rfl) iX12_drop sX12_drop h (z_ki (fun r80 σ81 h => ?_))
      obtain ⟨g82, h⟩ := h
      obtain ⟨g83, h⟩ := h
      refine Z_icmp_eq (tgt := 926) dL_law_385 (by decide) g82 g83 (fun c => ?_) (fun c => ?_)
      · replace h := h.1 c
        refine Z_iinc (L' := [(3, 0), (2, 1), (2, 211), (0, (x3 + 5))]) dL_law_926 rfl (Nat.le_of_ble_eq_true rfl) rfl ?_
        refine Z_goto (tgt := 18) dL_law_929 (by decide) ?_
        exact Z_few (z_few_k (z_few_k (z_few_k (z_few_k z_few_0)))) h
      · replace h := h.2 c
        refine Z_iconst dL_law_388 ?_
        exact Z_zreturn dL_law_389 rfl (Or.inl rfl) rfl ⟨rfl, false, rfl, h⟩
    replace h := h.2
    by_cases c6 : (((X.2 (x3).toNat).toInt) % 2 ^ 5) = 6
    · replace h := h.1 c6
      refine Z_tabIn (tgt := 390) dL_law_32 g5 6 c6 (by decide) (by decide) rfl (by decide) ?_
      refine Z_aload_n 1 dL_law_390 rfl rfl ?_
      refine Z_xload_n 0 dL_law_391 rfl rfl ?_
      refine Z_iload_n 3 dL_law_392 rfl rfl ?_
      refine Z_iconst dL_law_393 ?_
      refine Z_iadd dL_law_394 ?_
      obtain ⟨g84, h⟩ := h
      obtain ⟨g85, h⟩ := h
      obtain ⟨g86, h⟩ := h
      refine Z_sld dL_law_395 g84 g85 g86 ?_
      refine Z_invV (T := TX11) (N := 15) (ci := 11) (M' := mX11_straight) (ρ' := rX11_straight zN) (st := []) [(0, ((X.2 ((x3 + 1)).toNat).toInt))] dL_law_396 rfl rfl la_1 (z_leN la_1 (by decide)) (by decide) rfl rfl (kX11_straight.cl (Nat.le_of_ble_eq_true rfl) (Nat.le_refl _) (Nat.le_refl _) (Nat.le_of_ble_eq_true rfl) (Nat.le_of_ble_eq_true rfl) (Nat.le_of_ble_eq_true rfl)) (mlL_44 rfl) iX11_straight sX11_straight h (z_ki (fun r87 σ88 h => ?_))
      refine Z_aload_n 2 dL_law_399 rfl rfl ?_
      refine Z_xload_n 0 dL_law_400 rfl rfl ?_
      refine Z_iload_n 3 dL_law_401 rfl rfl ?_
      refine Z_iconst dL_law_402 ?_
      refine Z_iadd dL_law_403 ?_
      refine Z_sld dL_law_404 g84 g85 g86 ?_
      refine Z_invV (T := TX12) (N := 30) (ci := 12) (M' := mX12_straight) (ρ' := rX12_straight zN) (st := [(0, r87)]) [(0, ((X.2 ((x3 + 1)).toNat).toInt))] dL_law_405 rfl rfl la_211 (z_leN la_211 (by decide)) (by decide) rfl rfl (kX12_straight.cl (Nat.le_of_ble_eq_true rfl) (Nat.le_refl _) (Nat.le_refl _) (Nat.le_of_ble_eq_true rfl) (Nat.le_of_ble_eq_true rfl) (Nat.le_of_ble_eq_true rfl)) (mlL_47 rfl) iX12_straight sX12_straight h (z_ki (fun r89 σ90 h => ?_))
      obtain ⟨g91, h⟩ := h
      obtain ⟨g92, h⟩ := h
      refine Z_icmp_eq (tgt := 926) dL_law_408 (by decide) g91 g92 (fun c => ?_) (fun c => ?_)
      · replace h := h.1 c
        refine Z_iinc (L' := [(3, 0), (2, 1), (2, 211), (0, (x3 + 5))]) dL_law_926 rfl (Nat.le_of_ble_eq_true rfl) rfl ?_
        refine Z_goto (tgt := 18) dL_law_929 (by decide) ?_
        exact Z_few (z_few_k (z_few_k (z_few_k (z_few_k z_few_0)))) h
      · replace h := h.2 c
        refine Z_iconst dL_law_411 ?_
        exact Z_zreturn dL_law_412 rfl (Or.inl rfl) rfl ⟨rfl, false, rfl, h⟩
    replace h := h.2
    by_cases c7 : (((X.2 (x3).toNat).toInt) % 2 ^ 5) = 7
    · replace h := h.1 c7
      refine Z_tabIn (tgt := 413) dL_law_32 g5 7 c7 (by decide) (by decide) rfl (by decide) ?_
      refine Z_aload_n 1 dL_law_413 rfl rfl ?_
      refine Z_xload_n 0 dL_law_414 rfl rfl ?_
      refine Z_iload_n 3 dL_law_415 rfl rfl ?_
      refine Z_iconst dL_law_416 ?_
      refine Z_iadd dL_law_417 ?_
      obtain ⟨g93, h⟩ := h
      obtain ⟨g94, h⟩ := h
      obtain ⟨g95, h⟩ := h
      refine Z_sld dL_law_418 g93 g94 g95 ?_
      refine Z_xload_n 0 dL_law_419 rfl rfl ?_
      refine Z_iload_n 3 dL_law_420 rfl rfl ?_
      refine Z_iconst dL_law_421 ?_
      refine Z_iadd dL_law_422 ?_
      obtain ⟨g96, h⟩ := h
      obtain ⟨g97, h⟩ := h
      obtain ⟨g98, h⟩ := h
      refine Z_sld dL_law_423 g96 g97 g98 ?_
      refine Z_invV (T := TX11) (N := 15) (ci := 11) (M' := mX11_capped) (ρ' := rX11_capped zN) (st := []) [(0, ((X.2 ((x3 + 1)).toNat).toInt)), (0, ((X.2 ((x3 + 2)).toNat).toInt))] dL_law_424 rfl rfl la_1 (z_leN la_1 (by decide)) (by decide) rfl rfl (kX11_capped.cl (Nat.le_of_ble_eq_true rfl) (Nat.le_refl _) (Nat.le_refl _) (Nat.le_of_ble_eq_true rfl) (Nat.le_of_ble_eq_true rfl) (Nat.le_of_ble_eq_true rfl)) (mlL_48 rfl) iX11_capped sX11_capped h (z_ki (fun r99 σ100 h => ?_))
      refine Z_aload_n 2 dL_law_427 rfl rfl ?_
      refine Z_xload_n 0 dL_law_428 rfl rfl ?_
      refine Z_iload_n 3 dL_law_429 rfl rfl ?_
      refine Z_iconst dL_law_430 ?_
      refine Z_iadd dL_law_431 ?_
      refine Z_sld dL_law_432 g93 g94 g95 ?_
      refine Z_xload_n 0 dL_law_433 rfl rfl ?_
      refine Z_iload_n 3 dL_law_434 rfl rfl ?_
      refine Z_iconst dL_law_435 ?_
      refine Z_iadd dL_law_436 ?_
      refine Z_sld dL_law_437 g96 g97 g98 ?_
      refine Z_invV (T := TX12) (N := 30) (ci := 12) (M' := mX12_capped) (ρ' := rX12_capped zN) (st := [(0, r99)]) [(0, ((X.2 ((x3 + 1)).toNat).toInt)), (0, ((X.2 ((x3 + 2)).toNat).toInt))] dL_law_438 rfl rfl la_211 (z_leN la_211 (by decide)) (by decide) rfl rfl (kX12_capped.cl (Nat.le_of_ble_eq_true rfl) (Nat.le_refl _) (Nat.le_refl _) (Nat.le_of_ble_eq_true rfl) (Nat.le_of_ble_eq_true rfl) (Nat.le_of_ble_eq_true rfl)) (mlL_52 rfl) iX12_capped sX12_capped h (z_ki (fun r101 σ102 h => ?_))
      obtain ⟨g103, h⟩ := h
      obtain ⟨g104, h⟩ := h
      refine Z_icmp_eq (tgt := 926) dL_law_441 (by decide) g103 g104 (fun c => ?_) (fun c => ?_)
      · replace h := h.1 c
        refine Z_iinc (L' := [(3, 0), (2, 1), (2, 211), (0, (x3 + 5))]) dL_law_926 rfl (Nat.le_of_ble_eq_true rfl) rfl ?_
        refine Z_goto (tgt := 18) dL_law_929 (by decide) ?_
        exact Z_few (z_few_k (z_few_k (z_few_k (z_few_k z_few_0)))) h
      · replace h := h.2 c
        refine Z_iconst dL_law_444 ?_
        exact Z_zreturn dL_law_445 rfl (Or.inl rfl) rfl ⟨rfl, false, rfl, h⟩
    replace h := h.2
    by_cases c8 : (((X.2 (x3).toNat).toInt) % 2 ^ 5) = 8
    · replace h := h.1 c8
      refine Z_tabIn (tgt := 446) dL_law_32 g5 8 c8 (by decide) (by decide) rfl (by decide) ?_
      refine Z_aload_n 1 dL_law_446 rfl rfl ?_
      refine Z_xload_n 0 dL_law_447 rfl rfl ?_
      refine Z_iload_n 3 dL_law_448 rfl rfl ?_
      refine Z_iconst dL_law_449 ?_
      refine Z_iadd dL_law_450 ?_
      obtain ⟨g105, h⟩ := h
      obtain ⟨g106, h⟩ := h
      obtain ⟨g107, h⟩ := h
      refine Z_sld dL_law_451 g105 g106 g107 ?_
      refine Z_invV (T := TX11) (N := 15) (ci := 11) (M' := mX11_table) (ρ' := rX11_table zN) (st := []) [(0, ((X.2 ((x3 + 1)).toNat).toInt))] dL_law_452 rfl rfl la_1 (z_leN la_1 (by decide)) (by decide) rfl rfl (kX11_table.cl (Nat.le_of_ble_eq_true rfl) (Nat.le_refl _) (Nat.le_refl _) (Nat.le_of_ble_eq_true rfl) (Nat.le_of_ble_eq_true rfl) (Nat.le_of_ble_eq_true rfl)) (mlL_53 rfl) iX11_table sX11_table h (z_ki (fun r108 σ109 h => ?_))
      refine Z_aload_n 2 dL_law_455 rfl rfl ?_
      refine Z_xload_n 0 dL_law_456 rfl rfl ?_
      refine Z_iload_n 3 dL_law_457 rfl rfl ?_
      refine Z_iconst dL_law_458 ?_
      refine Z_iadd dL_law_459 ?_
      refine Z_sld dL_law_460 g105 g106 g107 ?_
      refine Z_invV (T := TX12) (N := 30) (ci := 12) (M' := mX12_table) (ρ' := rX12_table zN) (st := [(0, r108)]) [(0, ((X.2 ((x3 + 1)).toNat).toInt))] dL_law_461 rfl rfl la_211 (z_leN la_211 (by decide)) (by decide) rfl rfl (kX12_table.cl (Nat.le_of_ble_eq_true rfl) (Nat.le_refl _) (Nat.le_refl _) (Nat.le_of_ble_eq_true rfl) (Nat.le_of_ble_eq_true rfl) (Nat.le_of_ble_eq_true rfl)) (mlL_56 rfl) iX12_table sX12_table h (z_ki (fun r110 σ111 h => ?_))
      obtain ⟨g112, h⟩ := h
      obtain ⟨g113, h⟩ := h
      refine Z_icmp_eq (tgt := 926) dL_law_464 (by decide) g112 g113 (fun c => ?_) (fun c => ?_)
      · replace h := h.1 c
        refine Z_iinc (L' := [(3, 0), (2, 1), (2, 211), (0, (x3 + 5))]) dL_law_926 rfl (Nat.le_of_ble_eq_true rfl) rfl ?_
        refine Z_goto (tgt := 18) dL_law_929 (by decide) ?_
        exact Z_few (z_few_k (z_few_k (z_few_k (z_few_k z_few_0)))) h
      · replace h := h.2 c
        refine Z_iconst dL_law_467 ?_
        exact Z_zreturn dL_law_468 rfl (Or.inl rfl) rfl ⟨rfl, false, rfl, h⟩
    replace h := h.2
    by_cases c9 : (((X.2 (x3).toNat).toInt) % 2 ^ 5) = 9
    · replace h := h.1 c9
      refine Z_tabIn (tgt := 469) dL_law_32 g5 9 c9 (by decide) (by decide) rfl (by decide) ?_
      refine Z_aload_n 1 dL_law_469 rfl rfl ?_
      refine Z_xload_n 0 dL_law_470 rfl rfl ?_
      refine Z_iload_n 3 dL_law_471 rfl rfl ?_
      refine Z_iconst dL_law_472 ?_
      refine Z_iadd dL_law_473 ?_
      obtain ⟨g114, h⟩ := h
      obtain ⟨g115, h⟩ := h
      obtain ⟨g116, h⟩ := h
      refine Z_sld dL_law_474 g114 g115 g116 ?_
      refine Z_xload_n 0 dL_law_475 rfl rfl ?_
      refine Z_iload_n 3 dL_law_476 rfl rfl ?_
      refine Z_iconst dL_law_477 ?_
      refine Z_iadd dL_law_478 ?_
      obtain ⟨g117, h⟩ := h
      obtain ⟨g118, h⟩ := h
      obtain ⟨g119, h⟩ := h
      refine Z_sld dL_law_479 g117 g118 g119 ?_
      refine Z_invV (T := TX11) (N := 15) (ci := 11) (M' := mX11_sum) (ρ' := rX11_sum zN) (st := []) [(0, ((X.2 ((x3 + 1)).toNat).toInt)), (0, ((X.2 ((x3 + 2)).toNat).toInt))] dL_law_480 rfl rfl la_1 (z_leN la_1 (by decide)) (by decide) rfl rfl (kX11_sum.cl (Nat.le_of_ble_eq_true rfl) (Nat.le_refl _) (Nat.le_refl _) (Nat.le_of_ble_eq_true rfl) (Nat.le_of_ble_eq_true rfl) (Nat.le_of_ble_eq_true rfl)) (mlL_57 rfl) iX11_sum sX11_sum h (z_ki (fun r120 σ121 h => ?_))
      refine Z_aload_n 2 dL_law_483 rfl rfl ?_
      refine Z_xload_n 0 dL_law_484 rfl rfl ?_
      refine Z_iload_n 3 dL_law_485 rfl rfl ?_
      refine Z_iconst dL_law_486 ?_
      refine Z_iadd dL_law_487 ?_
      refine Z_sld dL_law_488 g114 g115 g116 ?_
      refine Z_xload_n 0 dL_law_489 rfl rfl ?_
      refine Z_iload_n 3 dL_law_490 rfl rfl ?_
      refine Z_iconst dL_law_491 ?_
      refine Z_iadd dL_law_492 ?_
      refine Z_sld dL_law_493 g117 g118 g119 ?_
      refine Z_invV (T := TX12) (N := 30) (ci := 12) (M' := mX12_sum) (ρ' := rX12_sum zN) (st := [(0, r120)]) [(0, ((X.2 ((x3 + 1)).toNat).toInt)), (0, ((X.2 ((x3 + 2)).toNat).toInt))] dL_law_494 rfl rfl la_211 (z_leN la_211 (by decide)) (by decide) rfl rfl (kX12_sum.cl (Nat.le_of_ble_eq_true rfl) (Nat.le_refl _) (Nat.le_refl _) (Nat.le_of_ble_eq_true rfl) (Nat.le_of_ble_eq_true rfl) (Nat.le_of_ble_eq_true rfl)) (mlL_60 rfl) iX12_sum sX12_sum h (z_ki (fun r122 σ123 h => ?_))
      obtain ⟨g124, h⟩ := h
      obtain ⟨g125, h⟩ := h
      refine Z_icmp_eq (tgt := 926) dL_law_497 (by decide) g124 g125 (fun c => ?_) (fun c => ?_)
      · replace h := h.1 c
        refine Z_iinc (L' := [(3, 0), (2, 1), (2, 211), (0, (x3 + 5))]) dL_law_926 rfl (Nat.le_of_ble_eq_true rfl) rfl ?_
        refine Z_goto (tgt := 18) dL_law_929 (by decide) ?_
        exact Z_few (z_few_k (z_few_k (z_few_k (z_few_k z_few_0)))) h
      · replace h := h.2 c
        refine Z_iconst dL_law_500 ?_
        exact Z_zreturn dL_law_501 rfl (Or.inl rfl) rfl ⟨rfl, false, rfl, h⟩
    replace h := h.2
    by_cases c10 : (((X.2 (x3).toNat).toInt) % 2 ^ 5) = 10
    · replace h := h.1 c10
      refine Z_tabIn (tgt := 502) dL_law_32 g5 10 c10 (by decide) (by decide) rfl (by decide) ?_
      refine Z_aload_n 1 dL_law_502 rfl rfl ?_
      refine Z_xload_n 0 dL_law_503 rfl rfl ?_
      refine Z_iload_n 3 dL_law_504 rfl rfl ?_
      refine Z_iconst dL_law_505 ?_
      refine Z_iadd dL_law_506 ?_
      obtain ⟨g126, h⟩ := h
      obtain ⟨g127, h⟩ := h
      obtain ⟨g128, h⟩ := h
      refine Z_sld dL_law_507 g126 g127 g128 ?_
      refine Z_xload_n 0 dL_law_508 rfl rfl ?_
      refine Z_iload_n 3 dL_law_509 rfl rfl ?_
      refine Z_iconst dL_law_510 ?_
      refine Z_iadd dL_law_511 ?_
      obtain ⟨g129, h⟩ := h
      obtain ⟨g130, h⟩ := h
      obtain ⟨g131, h⟩ := h
      refine Z_sld dL_law_512 g129 g130 g131 ?_
      refine Z_invV (T := TX11) (N := 15) (ci := 11) (M' := mX11_unlike) (ρ' := rX11_unlike zN) (st := []) [(0, ((X.2 ((x3 + 1)).toNat).toInt)), (0, ((X.2 ((x3 + 2)).toNat).toInt))] dL_law_513 rfl rfl la_1 (z_leN la_1 (by decide)) (by decide) rfl rfl (kX11_unlike.cl (Nat.le_of_ble_eq_true rfl) (Nat.le_refl _) (Nat.le_refl _) (Nat.le_of_ble_eq_true rfl) (Nat.le_of_ble_eq_true rfl) (Nat.le_of_ble_eq_true rfl)) (mlL_61 rfl) iX11_unlike sX11_unlike h (z_ki (fun r132 σ133 h => ?_))
      refine Z_aload_n 2 dL_law_516 rfl rfl ?_
      refine Z_xload_n 0 dL_law_517 rfl rfl ?_
      refine Z_iload_n 3 dL_law_518 rfl rfl ?_
      refine Z_iconst dL_law_519 ?_
      refine Z_iadd dL_law_520 ?_
      refine Z_sld dL_law_521 g126 g127 g128 ?_
      refine Z_xload_n 0 dL_law_522 rfl rfl ?_
      refine Z_iload_n 3 dL_law_523 rfl rfl ?_
      refine Z_iconst dL_law_524 ?_
      refine Z_iadd dL_law_525 ?_
      refine Z_sld dL_law_526 g129 g130 g131 ?_
      refine Z_invV (T := TX12) (N := 30) (ci := 12) (M' := mX12_unlike) (ρ' := rX12_unlike zN) (st := [(0, r132)]) [(0, ((X.2 ((x3 + 1)).toNat).toInt)), (0, ((X.2 ((x3 + 2)).toNat).toInt))] dL_law_527 rfl rfl la_211 (z_leN la_211 (by decide)) (by decide) rfl rfl (kX12_unlike.cl (Nat.le_of_ble_eq_true rfl) (Nat.le_refl _) (Nat.le_refl _) (Nat.le_of_ble_eq_true rfl) (Nat.le_of_ble_eq_true rfl) (Nat.le_of_ble_eq_true rfl)) (mlL_64 rfl) iX12_unlike sX12_unlike h (z_ki (fun r134 σ135 h => ?_))
      obtain ⟨g136, h⟩ := h
      obtain ⟨g137, h⟩ := h
      refine Z_icmp_eq (tgt := 926) dL_law_530 (by decide) g136 g137 (fun c => ?_) (fun c => ?_)
      · replace h := h.1 c
        refine Z_iinc (L' := [(3, 0), (2, 1), (2, 211), (0, (x3 + 5))]) dL_law_926 rfl (Nat.le_of_ble_eq_true rfl) rfl ?_
        refine Z_goto (tgt := 18) dL_law_929 (by decide) ?_
        exact Z_few (z_few_k (z_few_k (z_few_k (z_few_k z_few_0)))) h
      · replace h := h.2 c
        refine Z_iconst dL_law_533 ?_
        exact Z_zreturn dL_law_534 rfl (Or.inl rfl) rfl ⟨rfl, false, rfl, h⟩
    replace h := h.2
    by_cases c11 : (((X.2 (x3).toNat).toInt) % 2 ^ 5) = 11
    · replace h := h.1 c11
      refine Z_tabIn (tgt := 535) dL_law_32 g5 11 c11 (by decide) (by decide) rfl (by decide) ?_
      refine Z_aload_n 1 dL_law_535 rfl rfl ?_
      refine Z_xload_n 0 dL_law_536 rfl rfl ?_
      refine Z_iload_n 3 dL_law_537 rfl rfl ?_
      refine Z_iconst dL_law_538 ?_
      refine Z_iadd dL_law_539 ?_
      obtain ⟨g138, h⟩ := h
      obtain ⟨g139, h⟩ := h
      obtain ⟨g140, h⟩ := h
      refine Z_sld dL_law_540 g138 g139 g140 ?_
      refine Z_invV (T := TX11) (N := 15) (ci := 11) (M' := mX11_use) (ρ' := rX11_use zN) (st := []) [(0, ((X.2 ((x3 + 1)).toNat).toInt))] dL_law_541 rfl rfl la_1 (z_leN la_1 (by decide)) (by decide) rfl rfl (kX11_use.cl (Nat.le_of_ble_eq_true rfl) (Nat.le_refl _) (Nat.le_refl _) (Nat.le_of_ble_eq_true rfl) (Nat.le_of_ble_eq_true rfl) (Nat.le_of_ble_eq_true rfl)) (mlL_65 rfl) iX11_use sX11_use h (z_kz (fun r141 σ142 h => ?_))
      refine Z_aload_n 2 dL_law_544 rfl rfl ?_
      refine Z_xload_n 0 dL_law_545 rfl rfl ?_
      refine Z_iload_n 3 dL_law_546 rfl rfl ?_
      refine Z_iconst dL_law_547 ?_
      refine Z_iadd dL_law_548 ?_
      refine Z_sld dL_law_549 g138 g139 g140 ?_
      refine Z_invV (T := TX12) (N := 30) (ci := 12) (M' := mX12_use) (ρ' := rX12_use zN) (st := [(0, (zb r141))]) [(0, ((X.2 ((x3 + 1)).toNat).toInt))] dL_law_550 rfl rfl la_211 (z_leN la_211 (by decide)) (by decide) rfl rfl (kX12_use.cl (Nat.le_of_ble_eq_true rfl) (Nat.le_refl _) (Nat.le_refl _) (Nat.le_of_ble_eq_true rfl) (Nat.le_of_ble_eq_true rfl) (Nat.le_of_ble_eq_true rfl)) (mlL_68 rfl) iX12_use sX12_use h (z_kz (fun r143 σ144 h => ?_))
      refine Z_icmp_eq (tgt := 926) dL_law_553 (by decide) (zb_r _) (zb_r _) (fun c => ?_) (fun c => ?_)
      · replace h := h.1 c
        refine Z_iinc (L' := [(3, 0), (2, 1), (2, 211), (0, (x3 + 5))]) dL_law_926 rfl (Nat.le_of_ble_eq_true rfl) rfl ?_
        refine Z_goto (tgt := 18) dL_law_929 (by decide) ?_
        exact Z_few (z_few_k (z_few_k (z_few_k (z_few_k z_few_0)))) h
      · replace h := h.2 c
        refine Z_iconst dL_law_556 ?_
        exact Z_zreturn dL_law_557 rfl (Or.inl rfl) rfl ⟨rfl, false, rfl, h⟩
    replace h := h.2
    by_cases c12 : (((X.2 (x3).toNat).toInt) % 2 ^ 5) = 12
    · replace h := h.1 c12
      refine Z_tabIn (tgt := 558) dL_law_32 g5 12 c12 (by decide) (by decide) rfl (by decide) ?_
      refine Z_aload_n 1 dL_law_558 rfl rfl ?_
      refine Z_xload_n 0 dL_law_559 rfl rfl ?_
      refine Z_iload_n 3 dL_law_560 rfl rfl ?_
      refine Z_iconst dL_law_561 ?_
      refine Z_iadd dL_law_562 ?_
      obtain ⟨g145, h⟩ := h
      obtain ⟨g146, h⟩ := h
      obtain ⟨g147, h⟩ := h
      refine Z_sld dL_law_563 g145 g146 g147 ?_
      refine Z_invV (T := TX11) (N := 15) (ci := 11) (M' := mX11_nearest) (ρ' := rX11_nearest zN) (st := []) [(0, ((X.2 ((x3 + 1)).toNat).toInt))] dL_law_564 rfl rfl la_1 (z_leN la_1 (by decide)) (by decide) rfl rfl (kX11_nearest.cl (Nat.le_of_ble_eq_true rfl) (Nat.le_refl _) (Nat.le_refl _) (Nat.le_of_ble_eq_true rfl) (Nat.le_of_ble_eq_true rfl) (Nat.le_of_ble_eq_true rfl)) (mlL_69 rfl) iX11_nearest sX11_nearest h (z_kz (fun r148 σ149 h => ?_))
      refine Z_aload_n 2 dL_law_567 rfl rfl ?_
      refine Z_xload_n 0 dL_law_568 rfl rfl ?_
      refine Z_iload_n 3 dL_law_569 rfl rfl ?_
      refine Z_iconst dL_law_570 ?_
      refine Z_iadd dL_law_571 ?_
      refine Z_sld dL_law_572 g145 g146 g147 ?_
      refine Z_invV (T := TX12) (N := 30) (ci := 12) (M' := mX12_nearest) (ρ' := rX12_nearest zN) (st := [(0, (zb r148))]) [(0, ((X.2 ((x3 + 1)).toNat).toInt))] dL_law_573 rfl rfl la_211 (z_leN la_211 (by decide)) (by decide) rfl rfl (kX12_nearest.cl (Nat.le_of_ble_eq_true rfl) (Nat.le_refl _) (Nat.le_refl _) (Nat.le_of_ble_eq_true rfl) (Nat.le_of_ble_eq_true rfl) (Nat.le_of_ble_eq_true rfl)) (mlL_72 rfl) iX12_nearest sX12_nearest h (z_kz (fun r150 σ151 h => ?_))
      refine Z_icmp_eq (tgt := 926) dL_law_576 (by decide) (zb_r _) (zb_r _) (fun c => ?_) (fun c => ?_)
      · replace h := h.1 c
        refine Z_iinc (L' := [(3, 0), (2, 1), (2, 211), (0, (x3 + 5))]) dL_law_926 rfl (Nat.le_of_ble_eq_true rfl) rfl ?_
        refine Z_goto (tgt := 18) dL_law_929 (by decide) ?_
        exact Z_few (z_few_k (z_few_k (z_few_k (z_few_k z_few_0)))) h
      · replace h := h.2 c
        refine Z_iconst dL_law_579 ?_
        exact Z_zreturn dL_law_580 rfl (Or.inl rfl) rfl ⟨rfl, false, rfl, h⟩
    replace h := h.2
    by_cases c13 : (((X.2 (x3).toNat).toInt) % 2 ^ 5) = 13
    · replace h := h.1 c13
      refine Z_tabIn (tgt := 581) dL_law_32 g5 13 c13 (by decide) (by decide) rfl (by decide) ?_
      refine Z_aload_n 1 dL_law_581 rfl rfl ?_
      refine Z_xload_n 0 dL_law_582 rfl rfl ?_
      refine Z_iload_n 3 dL_law_583 rfl rfl ?_
      refine Z_iconst dL_law_584 ?_
      refine Z_iadd dL_law_585 ?_
      obtain ⟨g152, h⟩ := h
      obtain ⟨g153, h⟩ := h
      obtain ⟨g154, h⟩ := h
      refine Z_sld dL_law_586 g152 g153 g154 ?_
      refine Z_xload_n 0 dL_law_587 rfl rfl ?_
      refine Z_iload_n 3 dL_law_588 rfl rfl ?_
      refine Z_iconst dL_law_589 ?_
      refine Z_iadd dL_law_590 ?_
      obtain ⟨g155, h⟩ := h
      obtain ⟨g156, h⟩ := h
      obtain ⟨g157, h⟩ := h
      refine Z_sld dL_law_591 g155 g156 g157 ?_
      refine Z_invV (T := TX11) (N := 15) (ci := 11) (M' := mX11_ask) (ρ' := rX11_ask zN) (st := []) [(0, ((X.2 ((x3 + 1)).toNat).toInt)), (0, ((X.2 ((x3 + 2)).toNat).toInt))] dL_law_592 rfl rfl la_1 (z_leN la_1 (by decide)) (by decide) rfl rfl (kX11_ask.cl (Nat.le_of_ble_eq_true rfl) (Nat.le_refl _) (Nat.le_refl _) (Nat.le_of_ble_eq_true rfl) (Nat.le_of_ble_eq_true rfl) (Nat.le_of_ble_eq_true rfl)) (mlL_73 rfl) iX11_ask sX11_ask h (z_ki (fun r158 σ159 h => ?_))
      refine Z_aload_n 2 dL_law_595 rfl rfl ?_
      refine Z_xload_n 0 dL_law_596 rfl rfl ?_
      refine Z_iload_n 3 dL_law_597 rfl rfl ?_
      refine Z_iconst dL_law_598 ?_
      refine Z_iadd dL_law_599 ?_
      refine Z_sld dL_law_600 g152 g153 g154 ?_
      refine Z_xload_n 0 dL_law_601 rfl rfl ?_
      refine Z_iload_n 3 dL_law_602 rfl rfl ?_
      refine Z_iconst dL_law_603 ?_
      refine Z_iadd dL_law_604 ?_
      refine Z_sld dL_law_605 g155 g156 g157 ?_
      refine Z_invV (T := TX12) (N := 30) (ci := 12) (M' := mX12_ask) (ρ' := rX12_ask zN) (st := [(0, r158)]) [(0, ((X.2 ((x3 + 1)).toNat).toInt)), (0, ((X.2 ((x3 + 2)).toNat).toInt))] dL_law_606 rfl rfl la_211 (z_leN la_211 (by decide)) (by decide) rfl rfl (kX12_ask.cl (Nat.le_of_ble_eq_true rfl) (Nat.le_refl _) (Nat.le_refl _) (Nat.le_of_ble_eq_true rfl) (Nat.le_of_ble_eq_true rfl) (Nat.le_of_ble_eq_true rfl)) (mlL_76 rfl) iX12_ask sX12_ask h (z_ki (fun r160 σ161 h => ?_))
      obtain ⟨g162, h⟩ := h
      obtain ⟨g163, h⟩ := h
      refine Z_icmp_eq (tgt := 926) dL_law_609 (by decide) g162 g163 (fun c => ?_) (fun c => ?_)
      · replace h := h.1 c
        refine Z_iinc (L' := [(3, 0), (2, 1), (2, 211), (0, (x3 + 5))]) dL_law_926 rfl (Nat.le_of_ble_eq_true rfl) rfl ?_
        refine Z_goto (tgt := 18) dL_law_929 (by decide) ?_
        exact Z_few (z_few_k (z_few_k (z_few_k (z_few_k z_few_0)))) h
      · replace h := h.2 c
        refine Z_iconst dL_law_612 ?_
        exact Z_zreturn dL_law_613 rfl (Or.inl rfl) rfl ⟨rfl, false, rfl, h⟩
    replace h := h.2
    by_cases c14 : (((X.2 (x3).toNat).toInt) % 2 ^ 5) = 14
    · replace h := h.1 c14
      refine Z_tabIn (tgt := 614) dL_law_32 g5 14 c14 (by decide) (by decide) rfl (by decide) ?_
      refine Z_aload_n 1 dL_law_614 rfl rfl ?_
      refine Z_xload_n 0 dL_law_615 rfl rfl ?_
      refine Z_iload_n 3 dL_law_616 rfl rfl ?_
      refine Z_iconst dL_law_617 ?_
      refine Z_iadd dL_law_618 ?_
      obtain ⟨g164, h⟩ := h
      obtain ⟨g165, h⟩ := h
      obtain ⟨g166, h⟩ := h
      refine Z_sld dL_law_619 g164 g165 g166 ?_
      refine Z_invV (T := TX11) (N := 15) (ci := 11) (M' := mX11_mean) (ρ' := rX11_mean zN) (st := []) [(0, ((X.2 ((x3 + 1)).toNat).toInt))] dL_law_620 rfl rfl la_1 (z_leN la_1 (by decide)) (by decide) rfl rfl (kX11_mean.cl (Nat.le_of_ble_eq_true rfl) (Nat.le_refl _) (Nat.le_refl _) (Nat.le_of_ble_eq_true rfl) (Nat.le_of_ble_eq_true rfl) (Nat.le_of_ble_eq_true rfl)) (mlL_77 rfl) iX11_mean sX11_mean h (z_ki (fun r167 σ168 h => ?_))
      refine Z_aload_n 2 dL_law_623 rfl rfl ?_
      refine Z_xload_n 0 dL_law_624 rfl rfl ?_
      refine Z_iload_n 3 dL_law_625 rfl rfl ?_
      refine Z_iconst dL_law_626 ?_
      refine Z_iadd dL_law_627 ?_
      refine Z_sld dL_law_628 g164 g165 g166 ?_
      refine Z_invV (T := TX12) (N := 30) (ci := 12) (M' := mX12_mean) (ρ' := rX12_mean zN) (st := [(0, r167)]) [(0, ((X.2 ((x3 + 1)).toNat).toInt))] dL_law_629 rfl rfl la_211 (z_leN la_211 (by decide)) (by decide) rfl rfl (kX12_mean.cl (Nat.le_of_ble_eq_true rfl) (Nat.le_refl _) (Nat.le_refl _) (Nat.le_of_ble_eq_true rfl) (Nat.le_of_ble_eq_true rfl) (Nat.le_of_ble_eq_true rfl)) (mlL_80 rfl) iX12_mean sX12_mean h (z_ki (fun r169 σ170 h => ?_))
      obtain ⟨g171, h⟩ := h
      obtain ⟨g172, h⟩ := h
      refine Z_icmp_eq (tgt := 926) dL_law_632 (by decide) g171 g172 (fun c => ?_) (fun c => ?_)
      · replace h := h.1 c
        refine Z_iinc (L' := [(3, 0), (2, 1), (2, 211), (0, (x3 + 5))]) dL_law_926 rfl (Nat.le_of_ble_eq_true rfl) rfl ?_
        refine Z_goto (tgt := 18) dL_law_929 (by decide) ?_
        exact Z_few (z_few_k (z_few_k (z_few_k (z_few_k z_few_0)))) h
      · replace h := h.2 c
        refine Z_iconst dL_law_635 ?_
        exact Z_zreturn dL_law_636 rfl (Or.inl rfl) rfl ⟨rfl, false, rfl, h⟩
    replace h := h.2
    by_cases c15 : (((X.2 (x3).toNat).toInt) % 2 ^ 5) = 15
    · replace h := h.1 c15
      refine Z_tabIn (tgt := 637) dL_law_32 g5 15 c15 (by decide) (by decide) rfl (by decide) ?_
      refine Z_aload_n 1 dL_law_637 rfl rfl ?_
      refine Z_xload_n 0 dL_law_638 rfl rfl ?_
      refine Z_iload_n 3 dL_law_639 rfl rfl ?_
      refine Z_iconst dL_law_640 ?_
      refine Z_iadd dL_law_641 ?_
      obtain ⟨g173, h⟩ := h
      obtain ⟨g174, h⟩ := h
      obtain ⟨g175, h⟩ := h
      refine Z_sld dL_law_642 g173 g174 g175 ?_
      refine Z_invV (T := TX11) (N := 15) (ci := 11) (M' := mX11_answer) (ρ' := rX11_answer zN) (st := []) [(0, ((X.2 ((x3 + 1)).toNat).toInt))] dL_law_643 rfl rfl la_1 (z_leN la_1 (by decide)) (by decide) rfl rfl (kX11_answer.cl (Nat.le_of_ble_eq_true rfl) (Nat.le_refl _) (Nat.le_refl _) (Nat.le_of_ble_eq_true rfl) (Nat.le_of_ble_eq_true rfl) (Nat.le_of_ble_eq_true rfl)) (mlL_81 rfl) iX11_answer sX11_answer h (z_kz (fun r176 σ177 h => ?_))
      refine Z_aload_n 2 dL_law_646 rfl rfl ?_
      refine Z_xload_n 0 dL_law_647 rfl rfl ?_
      refine Z_iload_n 3 dL_law_648 rfl rfl ?_
      refine Z_iconst dL_law_649 ?_
      refine Z_iadd dL_law_650 ?_
      refine Z_sld dL_law_651 g173 g174 g175 ?_
      refine Z_invV (T := TX12) (N := 30) (ci := 12) (M' := mX12_answer) (ρ' := rX12_answer zN) (st := [(0, (zb r176))]) [(0, ((X.2 ((x3 + 1)).toNat).toInt))] dL_law_652 rfl rfl la_211 (z_leN la_211 (by decide)) (by decide) rfl rfl (kX12_answer.cl (Nat.le_of_ble_eq_true rfl) (Nat.le_refl _) (Nat.le_refl _) (Nat.le_of_ble_eq_true rfl) (Nat.le_of_ble_eq_true rfl) (Nat.le_of_ble_eq_true rfl)) (mlL_84 rfl) iX12_answer sX12_answer h (z_kz (fun r178 σ179 h => ?_))
      refine Z_icmp_eq (tgt := 926) dL_law_655 (by decide) (zb_r _) (zb_r _) (fun c => ?_) (fun c => ?_)
      · replace h := h.1 c
        refine Z_iinc (L' := [(3, 0), (2, 1), (2, 211), (0, (x3 + 5))]) dL_law_926 rfl (Nat.le_of_ble_eq_true rfl) rfl ?_
        refine Z_goto (tgt := 18) dL_law_929 (by decide) ?_
        exact Z_few (z_few_k (z_few_k (z_few_k (z_few_k z_few_0)))) h
      · replace h := h.2 c
        refine Z_iconst dL_law_658 ?_
        exact Z_zreturn dL_law_659 rfl (Or.inl rfl) rfl ⟨rfl, false, rfl, h⟩
    replace h := h.2
    by_cases c16 : (((X.2 (x3).toNat).toInt) % 2 ^ 5) = 16
    · replace h := h.1 c16
      refine Z_tabIn (tgt := 660) dL_law_32 g5 16 c16 (by decide) (by decide) rfl (by decide) ?_
      refine Z_aload_n 1 dL_law_660 rfl rfl ?_
      refine Z_xload_n 0 dL_law_661 rfl rfl ?_
      refine Z_iload_n 3 dL_law_662 rfl rfl ?_
      refine Z_iconst dL_law_663 ?_
      refine Z_iadd dL_law_664 ?_
      obtain ⟨g180, h⟩ := h
      obtain ⟨g181, h⟩ := h
      obtain ⟨g182, h⟩ := h
      refine Z_sld dL_law_665 g180 g181 g182 ?_
      refine Z_invV (T := TX11) (N := 15) (ci := 11) (M' := mX11_leftOut) (ρ' := rX11_leftOut zN) (st := []) [(0, ((X.2 ((x3 + 1)).toNat).toInt))] dL_law_666 rfl rfl la_1 (z_leN la_1 (by decide)) (by decide) rfl rfl (kX11_leftOut.cl (Nat.le_of_ble_eq_true rfl) (Nat.le_refl _) (Nat.le_refl _) (Nat.le_of_ble_eq_true rfl) (Nat.le_of_ble_eq_true rfl) (Nat.le_of_ble_eq_true rfl)) (mlL_85 rfl) iX11_leftOut sX11_leftOut h (z_kz (fun r183 σ184 h => ?_))
      refine Z_aload_n 2 dL_law_669 rfl rfl ?_
      refine Z_xload_n 0 dL_law_670 rfl rfl ?_
      refine Z_iload_n 3 dL_law_671 rfl rfl ?_
      refine Z_iconst dL_law_672 ?_
      refine Z_iadd dL_law_673 ?_
      refine Z_sld dL_law_674 g180 g181 g182 ?_
      refine Z_invV (T := TX12) (N := 30) (ci := 12) (M' := mX12_leftOut) (ρ' := rX12_leftOut zN) (st := [(0, (zb r183))]) [(0, ((X.2 ((x3 + 1)).toNat).toInt))] dL_law_675 rfl rfl la_211 (z_leN la_211 (by decide)) (by decide) rfl rfl (kX12_leftOut.cl (Nat.le_of_ble_eq_true rfl) (Nat.le_refl _) (Nat.le_refl _) (Nat.le_of_ble_eq_true rfl) (Nat.le_of_ble_eq_true rfl) (Nat.le_of_ble_eq_true rfl)) (mlL_88 rfl) iX12_leftOut sX12_leftOut h (z_kz (fun r185 σ186 h => ?_))
      refine Z_icmp_eq (tgt := 926) dL_law_678 (by decide) (zb_r _) (zb_r _) (fun c => ?_) (fun c => ?_)
      · replace h := h.1 c
        refine Z_iinc (L' := [(3, 0), (2, 1), (2, 211), (0, (x3 + 5))]) dL_law_926 rfl (Nat.le_of_ble_eq_true rfl) rfl ?_
        refine Z_goto (tgt := 18) dL_law_929 (by decide) ?_
        exact Z_few (z_few_k (z_few_k (z_few_k (z_few_k z_few_0)))) h
      · replace h := h.2 c
        refine Z_iconst dL_law_681 ?_
        exact Z_zreturn dL_law_682 rfl (Or.inl rfl) rfl ⟨rfl, false, rfl, h⟩
    replace h := h.2
    by_cases c17 : (((X.2 (x3).toNat).toInt) % 2 ^ 5) = 17
    · replace h := h.1 c17
      refine Z_tabIn (tgt := 683) dL_law_32 g5 17 c17 (by decide) (by decide) rfl (by decide) ?_
      refine Z_aload_n 1 dL_law_683 rfl rfl ?_
      refine Z_invV (T := TX11) (N := 15) (ci := 11) (M' := mX11_worst) (ρ' := rX11_worst zN) (st := []) [] dL_law_684 rfl rfl la_1 (z_leN la_1 (by decide)) (by decide) rfl rfl (kX11_worst.cl (Nat.le_of_ble_eq_true rfl) (Nat.le_refl _) (Nat.le_refl _) (Nat.le_of_ble_eq_true rfl) (Nat.le_of_ble_eq_true rfl) (Nat.le_of_ble_eq_true rfl)) (mlL_89 rfl) iX11_worst sX11_worst h (z_ki (fun r187 σ188 h => ?_))
      refine Z_aload_n 2 dL_law_687 rfl rfl ?_
      refine Z_invV (T := TX12) (N := 30) (ci := 12) (M' := mX12_worst_) (ρ' := rX12_worst_ zN) (st := [(0, r187)]) [] dL_law_688 rfl rfl la_211 (z_leN la_211 (by decide)) (by decide) rfl rfl (kX12_worst_.cl (Nat.le_of_ble_eq_true rfl) (Nat.le_refl _) (Nat.le_refl _) (Nat.le_of_ble_eq_true rfl) (Nat.le_of_ble_eq_true rfl) (Nat.le_of_ble_eq_true rfl)) (mlL_93 rfl) iX12_worst_ sX12_worst_ h (z_ki (fun r189 σ190 h => ?_))
      obtain ⟨g191, h⟩ := h
      obtain ⟨g192, h⟩ := h
      refine Z_icmp_eq (tgt := 926) dL_law_691 (by decide) g191 g192 (fun c => ?_) (fun c => ?_)
      · replace h := h.1 c
        refine Z_iinc (L' := [(3, 0), (2, 1), (2, 211), (0, (x3 + 5))]) dL_law_926 rfl (Nat.le_of_ble_eq_true rfl) rfl ?_
        refine Z_goto (tgt := 18) dL_law_929 (by decide) ?_
        exact Z_few (z_few_k (z_few_k (z_few_k (z_few_k z_few_0)))) h
      · replace h := h.2 c
        refine Z_iconst dL_law_694 ?_
        exact Z_zreturn dL_law_695 rfl (Or.inl rfl) rfl ⟨rfl, false, rfl, h⟩
    replace h := h.2
    by_cases c18 : (((X.2 (x3).toNat).toInt) % 2 ^ 5) = 18
    · replace h := h.1 c18
      refine Z_tabIn (tgt := 696) dL_law_32 g5 18 c18 (by decide) (by decide) rfl (by decide) ?_
      refine Z_aload_n 1 dL_law_696 rfl rfl ?_
      refine Z_invV (T := TX11) (N := 15) (ci := 11) (M' := mX11_best) (ρ' := rX11_best zN) (st := []) [] dL_law_697 rfl rfl la_1 (z_leN la_1 (by decide)) (by decide) rfl rfl (kX11_best.cl (Nat.le_of_ble_eq_true rfl) (Nat.le_refl _) (Nat.le_refl _) (Nat.le_of_ble_eq_true rfl) (Nat.le_of_ble_eq_true rfl) (Nat.le_of_ble_eq_true rfl)) (mlL_94 rfl) iX11_best sX11_best h (z_ki (fun r193 σ194 h => ?_))
      refine Z_aload_n 2 dL_law_700 rfl rfl ?_
      refine Z_invV (T := TX12) (N := 30) (ci := 12) (M' := mX12_best) (ρ' := rX12_best zN) (st := [(0, r193)]) [] dL_law_701 rfl rfl la_211 (z_leN la_211 (by decide)) (by decide) rfl rfl (kX12_best.cl (Nat.le_of_ble_eq_true rfl) (Nat.le_refl _) (Nat.le_refl _) (Nat.le_of_ble_eq_true rfl) (Nat.le_of_ble_eq_true rfl) (Nat.le_of_ble_eq_true rfl)) (mlL_97 rfl) iX12_best sX12_best h (z_ki (fun r195 σ196 h => ?_))
      obtain ⟨g197, h⟩ := h
      obtain ⟨g198, h⟩ := h
      refine Z_icmp_eq (tgt := 926) dL_law_704 (by decide) g197 g198 (fun c => ?_) (fun c => ?_)
      · replace h := h.1 c
        refine Z_iinc (L' := [(3, 0), (2, 1), (2, 211), (0, (x3 + 5))]) dL_law_926 rfl (Nat.le_of_ble_eq_true rfl) rfl ?_
        refine Z_goto (tgt := 18) dL_law_929 (by decide) ?_
        exact Z_few (z_few_k (z_few_k (z_few_k (z_few_k z_few_0)))) h
      · replace h := h.2 c
        refine Z_iconst dL_law_707 ?_
        exact Z_zreturn dL_law_708 rfl (Or.inl rfl) rfl ⟨rfl, false, rfl, h⟩
    replace h := h.2
    by_cases c19 : (((X.2 (x3).toNat).toInt) % 2 ^ 5) = 19
    · replace h := h.1 c19
      refine Z_tabIn (tgt := 709) dL_law_32 g5 19 c19 (by decide) (by decide) rfl (by decide) ?_
      refine Z_aload_n 1 dL_law_709 rfl rfl ?_
      refine Z_xload_n 0 dL_law_710 rfl rfl ?_
      refine Z_iload_n 3 dL_law_711 rfl rfl ?_
      refine Z_iconst dL_law_712 ?_
      refine Z_iadd dL_law_713 ?_
      obtain ⟨g199, h⟩ := h
      obtain ⟨g200, h⟩ := h
      obtain ⟨g201, h⟩ := h
      refine Z_sld dL_law_714 g199 g200 g201 ?_
      refine Z_invV (T := TX11) (N := 15) (ci := 11) (M' := mX11_allowed) (ρ' := rX11_allowed zN) (st := []) [(0, ((X.2 ((x3 + 1)).toNat).toInt))] dL_law_715 rfl rfl la_1 (z_leN la_1 (by decide)) (by decide) rfl rfl (kX11_allowed.cl (Nat.le_of_ble_eq_true rfl) (Nat.le_refl _) (Nat.le_refl _) (Nat.le_of_ble_eq_true rfl) (Nat.le_of_ble_eq_true rfl) (Nat.le_of_ble_eq_true rfl)) (mlL_98 rfl) iX11_allowed sX11_allowed h (z_ki (fun r202 σ203 h => ?_))
      refine Z_aload_n 2 dL_law_718 rfl rfl ?_
      refine Z_xload_n 0 dL_law_719 rfl rfl ?_
      refine Z_iload_n 3 dL_law_720 rfl rfl ?_
      refine Z_iconst dL_law_721 ?_
      refine Z_iadd dL_law_722 ?_
      refine Z_sld dL_law_723 g199 g200 g201 ?_
      refine Z_invV (T := TX12) (N := 30) (ci := 12) (M' := mX12_allowed) (ρ' := rX12_allowed zN) (st := [(0, r202)]) [(0, ((X.2 ((x3 + 1)).toNat).toInt))] dL_law_724 rfl rfl la_211 (z_leN la_211 (by decide)) (by decide) rfl rfl (kX12_allowed.cl (Nat.le_of_ble_eq_true rfl) (Nat.le_refl _) (Nat.le_refl _) (Nat.le_of_ble_eq_true rfl) (Nat.le_of_ble_eq_true rfl) (Nat.le_of_ble_eq_true rfl)) (mlL_101 rfl) iX12_allowed sX12_allowed h (z_ki (fun r204 σ205 h => ?_))
      obtain ⟨g206, h⟩ := h
      obtain ⟨g207, h⟩ := h
      refine Z_icmp_eq (tgt := 926) dL_law_727 (by decide) g206 g207 (fun c => ?_) (fun c => ?_)
      · replace h := h.1 c
        refine Z_iinc (L' := [(3, 0), (2, 1), (2, 211), (0, (x3 + 5))]) dL_law_926 rfl (Nat.le_of_ble_eq_true rfl) rfl ?_
        refine Z_goto (tgt := 18) dL_law_929 (by decide) ?_
        exact Z_few (z_few_k (z_few_k (z_few_k (z_few_k z_few_0)))) h
      · replace h := h.2 c
        refine Z_iconst dL_law_730 ?_
        exact Z_zreturn dL_law_731 rfl (Or.inl rfl) rfl ⟨rfl, false, rfl, h⟩
    replace h := h.2
    by_cases c20 : (((X.2 (x3).toNat).toInt) % 2 ^ 5) = 20
    · replace h := h.1 c20
      refine Z_tabIn (tgt := 732) dL_law_32 g5 20 c20 (by decide) (by decide) rfl (by decide) ?_
      refine Z_aload_n 1 dL_law_732 rfl rfl ?_
      refine Z_xload_n 0 dL_law_733 rfl rfl ?_
      refine Z_iload_n 3 dL_law_734 rfl rfl ?_
      refine Z_iconst dL_law_735 ?_
      refine Z_iadd dL_law_736 ?_
      obtain ⟨g208, h⟩ := h
      obtain ⟨g209, h⟩ := h
      obtain ⟨g210, h⟩ := h
      refine Z_sld dL_law_737 g208 g209 g210 ?_
      refine Z_xload_n 0 dL_law_738 rfl rfl ?_
      refine Z_iload_n 3 dL_law_739 rfl rfl ?_
      refine Z_iconst dL_law_740 ?_
      refine Z_iadd dL_law_741 ?_
      obtain ⟨g211, h⟩ := h
      obtain ⟨g212, h⟩ := h
      obtain ⟨g213, h⟩ := h
      refine Z_sld dL_law_742 g211 g212 g213 ?_
      refine Z_invV (T := TX11) (N := 15) (ci := 11) (M' := mX11_pairs) (ρ' := rX11_pairs zN) (st := []) [(0, ((X.2 ((x3 + 1)).toNat).toInt)), (0, ((X.2 ((x3 + 2)).toNat).toInt))] dL_law_743 rfl rfl la_1 (z_leN la_1 (by decide)) (by decide) rfl rfl (kX11_pairs.cl (Nat.le_of_ble_eq_true rfl) (Nat.le_refl _) (Nat.le_refl _) (Nat.le_of_ble_eq_true rfl) (Nat.le_of_ble_eq_true rfl) (Nat.le_of_ble_eq_true rfl)) (mlL_102 rfl) iX11_pairs sX11_pairs h (z_ki (fun r214 σ215 h => ?_))
      refine Z_aload_n 2 dL_law_746 rfl rfl ?_
      refine Z_xload_n 0 dL_law_747 rfl rfl ?_
      refine Z_iload_n 3 dL_law_748 rfl rfl ?_
      refine Z_iconst dL_law_749 ?_
      refine Z_iadd dL_law_750 ?_
      refine Z_sld dL_law_751 g208 g209 g210 ?_
      refine Z_xload_n 0 dL_law_752 rfl rfl ?_
      refine Z_iload_n 3 dL_law_753 rfl rfl ?_
      refine Z_iconst dL_law_754 ?_
      refine Z_iadd dL_law_755 ?_
      refine Z_sld dL_law_756 g211 g212 g213 ?_
      refine Z_invV (T := TX12) (N := 30) (ci := 12) (M' := mX12_pairs) (ρ' := rX12_pairs zN) (st := [(0, r214)]) [(0, ((X.2 ((x3 + 1)).toNat).toInt)), (0, ((X.2 ((x3 + 2)).toNat).toInt))] dL_law_757 rfl rfl la_211 (z_leN la_211 (by decide)) (by decide) rfl rfl (kX12_pairs.cl (Nat.le_of_ble_eq_true rfl) (Nat.le_refl _) (Nat.le_refl _) (Nat.le_of_ble_eq_true rfl) (Nat.le_of_ble_eq_true rfl) (Nat.le_of_ble_eq_true rfl)) (mlL_105 rfl) iX12_pairs sX12_pairs h (z_ki (fun r216 σ217 h => ?_))
      obtain ⟨g218, h⟩ := h
      obtain ⟨g219, h⟩ := h
      refine Z_icmp_eq (tgt := 926) dL_law_760 (by decide) g218 g219 (fun c => ?_) (fun c => ?_)
      · replace h := h.1 c
        refine Z_iinc (L' := [(3, 0), (2, 1), (2, 211), (0, (x3 + 5))]) dL_law_926 rfl (Nat.le_of_ble_eq_true rfl) rfl ?_
        refine Z_goto (tgt := 18) dL_law_929 (by decide) ?_
        exact Z_few (z_few_k (z_few_k (z_few_k (z_few_k z_few_0)))) h
      · replace h := h.2 c
        refine Z_iconst dL_law_763 ?_
        exact Z_zreturn dL_law_764 rfl (Or.inl rfl) rfl ⟨rfl, false, rfl, h⟩
    replace h := h.2
    by_cases c21 : (((X.2 (x3).toNat).toInt) % 2 ^ 5) = 21
    · replace h := h.1 c21
      refine Z_tabIn (tgt := 765) dL_law_32 g5 21 c21 (by decide) (by decide) rfl (by decide) ?_
      refine Z_aload_n 1 dL_law_765 rfl rfl ?_
      refine Z_xload_n 0 dL_law_766 rfl rfl ?_
      refine Z_iload_n 3 dL_law_767 rfl rfl ?_
      refine Z_iconst dL_law_768 ?_
      refine Z_iadd dL_law_769 ?_
      obtain ⟨g220, h⟩ := h
      obtain ⟨g221, h⟩ := h
      obtain ⟨g222, h⟩ := h
      refine Z_sld dL_law_770 g220 g221 g222 ?_
      refine Z_xload_n 0 dL_law_771 rfl rfl ?_
      refine Z_iload_n 3 dL_law_772 rfl rfl ?_
      refine Z_iconst dL_law_773 ?_
      refine Z_iadd dL_law_774 ?_
      obtain ⟨g223, h⟩ := h
      obtain ⟨g224, h⟩ := h
      obtain ⟨g225, h⟩ := h
      refine Z_sld dL_law_775 g223 g224 g225 ?_
      refine Z_invV (T := TX11) (N := 15) (ci := 11) (M' := mX11_band) (ρ' := rX11_band zN) (st := []) [(0, ((X.2 ((x3 + 1)).toNat).toInt)), (0, ((X.2 ((x3 + 2)).toNat).toInt))] dL_law_776 rfl rfl la_1 (z_leN la_1 (by decide)) (by decide) rfl rfl (kX11_band.cl (Nat.le_of_ble_eq_true rfl) (Nat.le_refl _) (Nat.le_refl _) (Nat.le_of_ble_eq_true rfl) (Nat.le_of_ble_eq_true rfl) (Nat.le_of_ble_eq_true rfl)) (mlL_106 rfl) iX11_band sX11_band h (z_kz (fun r226 σ227 h => ?_))
      refine Z_aload_n 2 dL_law_779 rfl rfl ?_
      refine Z_xload_n 0 dL_law_780 rfl rfl ?_
      refine Z_iload_n 3 dL_law_781 rfl rfl ?_
      refine Z_iconst dL_law_782 ?_
      refine Z_iadd dL_law_783 ?_
      refine Z_sld dL_law_784 g220 g221 g222 ?_
      refine Z_xload_n 0 dL_law_785 rfl rfl ?_
      refine Z_iload_n 3 dL_law_786 rfl rfl ?_
      refine Z_iconst dL_law_787 ?_
      refine Z_iadd dL_law_788 ?_
      refine Z_sld dL_law_789 g223 g224 g225 ?_
      refine Z_invV (T := TX12) (N := 30) (ci := 12) (M' := mX12_band) (ρ' := rX12_band zN) (st := [(0, (zb r226))]) [(0, ((X.2 ((x3 + 1)).toNat).toInt)), (0, ((X.2 ((x3 + 2)).toNat).toInt))] dL_law_790 rfl rfl la_211 (z_leN la_211 (by decide)) (by decide) rfl rfl (kX12_band.cl (Nat.le_of_ble_eq_true rfl) (Nat.le_refl _) (Nat.le_refl _) (Nat.le_of_ble_eq_true rfl) (Nat.le_of_ble_eq_true rfl) (Nat.le_of_ble_eq_true rfl)) (mlL_110 rfl) iX12_band sX12_band h (z_kz (fun r228 σ229 h => ?_))
      refine Z_icmp_eq (tgt := 926) dL_law_793 (by decide) (zb_r _) (zb_r _) (fun c => ?_) (fun c => ?_)
      · replace h := h.1 c
        refine Z_iinc (L' := [(3, 0), (2, 1), (2, 211), (0, (x3 + 5))]) dL_law_926 rfl (Nat.le_of_ble_eq_true rfl) rfl ?_
        refine Z_goto (tgt := 18) dL_law_929 (by decide) ?_
        exact Z_few (z_few_k (z_few_k (z_few_k (z_few_k z_few_0)))) h
      · replace h := h.2 c
        refine Z_iconst dL_law_796 ?_
        exact Z_zreturn dL_law_797 rfl (Or.inl rfl) rfl ⟨rfl, false, rfl, h⟩
    replace h := h.2
    by_cases c22 : (((X.2 (x3).toNat).toInt) % 2 ^ 5) = 22
    · replace h := h.1 c22
      refine Z_tabIn (tgt := 798) dL_law_32 g5 22 c22 (by decide) (by decide) rfl (by decide) ?_
      refine Z_aload_n 1 dL_law_798 rfl rfl ?_
      refine Z_xload_n 0 dL_law_799 rfl rfl ?_
      refine Z_iload_n 3 dL_law_800 rfl rfl ?_
      refine Z_iconst dL_law_801 ?_
      refine Z_iadd dL_law_802 ?_
      obtain ⟨g230, h⟩ := h
      obtain ⟨g231, h⟩ := h
      obtain ⟨g232, h⟩ := h
      refine Z_sld dL_law_803 g230 g231 g232 ?_
      refine Z_invV (T := TX11) (N := 15) (ci := 11) (M' := mX11_look) (ρ' := rX11_look zN) (st := []) [(0, ((X.2 ((x3 + 1)).toNat).toInt))] dL_law_804 rfl rfl la_1 (z_leN la_1 (by decide)) (by decide) rfl rfl (kX11_look.cl (Nat.le_of_ble_eq_true rfl) (Nat.le_refl _) (Nat.le_refl _) (Nat.le_of_ble_eq_true rfl) (Nat.le_of_ble_eq_true rfl) (Nat.le_of_ble_eq_true rfl)) (mlL_111 rfl) iX11_look sX11_look h (z_ki (fun r233 σ234 h => ?_))
      refine Z_aload_n 2 dL_law_807 rfl rfl ?_
      refine Z_xload_n 0 dL_law_808 rfl rfl ?_
      refine Z_iload_n 3 dL_law_809 rfl rfl ?_
      refine Z_iconst dL_law_810 ?_
      refine Z_iadd dL_law_811 ?_
      refine Z_sld dL_law_812 g230 g231 g232 ?_
      refine Z_invV (T := TX12) (N := 30) (ci := 12) (M' := mX12_look) (ρ' := rX12_look zN) (st := [(0, r233)]) [(0, ((X.2 ((x3 + 1)).toNat).toInt))] dL_law_813 rfl rfl la_211 (z_leN la_211 (by decide)) (by decide) rfl rfl (kX12_look.cl (Nat.le_of_ble_eq_true rfl) (Nat.le_refl _) (Nat.le_refl _) (Nat.le_of_ble_eq_true rfl) (Nat.le_of_ble_eq_true rfl) (Nat.le_of_ble_eq_true rfl)) (mlL_114 rfl) iX12_look sX12_look h (z_ki (fun r235 σ236 h => ?_))
      obtain ⟨g237, h⟩ := h
      obtain ⟨g238, h⟩ := h
      refine Z_icmp_eq (tgt := 926) dL_law_816 (by decide) g237 g238 (fun c => ?_) (fun c => ?_)
      · replace h := h.1 c
        refine Z_iinc (L' := [(3, 0), (2, 1), (2, 211), (0, (x3 + 5))]) dL_law_926 rfl (Nat.le_of_ble_eq_true rfl) rfl ?_
        refine Z_goto (tgt := 18) dL_law_929 (by decide) ?_
        exact Z_few (z_few_k (z_few_k (z_few_k (z_few_k z_few_0)))) h
      · replace h := h.2 c
        refine Z_iconst dL_law_819 ?_
        exact Z_zreturn dL_law_820 rfl (Or.inl rfl) rfl ⟨rfl, false, rfl, h⟩
    replace h := h.2
    by_cases c23 : (((X.2 (x3).toNat).toInt) % 2 ^ 5) = 23
    · replace h := h.1 c23
      refine Z_tabIn (tgt := 821) dL_law_32 g5 23 c23 (by decide) (by decide) rfl (by decide) ?_
      refine Z_aload_n 1 dL_law_821 rfl rfl ?_
      refine Z_xload_n 0 dL_law_822 rfl rfl ?_
      refine Z_iload_n 3 dL_law_823 rfl rfl ?_
      refine Z_iconst dL_law_824 ?_
      refine Z_iadd dL_law_825 ?_
      obtain ⟨g239, h⟩ := h
      obtain ⟨g240, h⟩ := h
      obtain ⟨g241, h⟩ := h
      refine Z_sld dL_law_826 g239 g240 g241 ?_
      obtain ⟨g242, h⟩ := h
      refine Z_if_eq (tgt := 834) dL_law_827 (by decide) g242 (fun c => ?_) (fun c => ?_)
      · replace h := h.1 c
        refine Z_iconst dL_law_834 ?_
        refine Z_xload_n 0 dL_law_835 rfl rfl ?_
        refine Z_iload_n 3 dL_law_836 rfl rfl ?_
        refine Z_iconst dL_law_837 ?_
        refine Z_iadd dL_law_838 ?_
        obtain ⟨g243, h⟩ := h
        obtain ⟨g244, h⟩ := h
        obtain ⟨g245, h⟩ := h
        refine Z_sld dL_law_839 g243 g244 g245 ?_
        refine Z_invV (T := TX11) (N := 15) (ci := 11) (M' := mX11_part) (ρ' := rX11_part zN) (st := []) [(0, 0), (0, ((X.2 ((x3 + 2)).toNat).toInt))] dL_law_840 rfl rfl la_1 (z_leN la_1 (by decide)) (by decide) rfl rfl (kX11_part.cl (Nat.le_of_ble_eq_true rfl) (Nat.le_refl _) (Nat.le_refl _) (Nat.le_of_ble_eq_true rfl) (Nat.le_of_ble_eq_true rfl) (Nat.le_of_ble_eq_true rfl)) (mlL_115 rfl) iX11_part sX11_part h (z_ki (fun r246 σ247 h => ?_))
        refine Z_aload_n 2 dL_law_843 rfl rfl ?_
        refine Z_xload_n 0 dL_law_844 rfl rfl ?_
        refine Z_iload_n 3 dL_law_845 rfl rfl ?_
        refine Z_iconst dL_law_846 ?_
        refine Z_iadd dL_law_847 ?_
        refine Z_sld dL_law_848 g239 g240 g241 ?_
        refine Z_if_eq (tgt := 856) dL_law_849 (by decide) g242 (fun c => ?_) (fun c => ?_)
        · replace h := h.1 c
          refine Z_iconst dL_law_856 ?_
          refine Z_xload_n 0 dL_law_857 rfl rfl ?_
          refine Z_iload_n 3 dL_law_858 rfl rfl ?_
          refine Z_iconst dL_law_859 ?_
          refine Z_iadd dL_law_860 ?_
          refine Z_sld dL_law_861 g243 g244 g245 ?_
          refine Z_invV (T := TX12) (N := 30) (ci := 12) (M' := mX12_part) (ρ' := rX12_part zN) (st := [(0, r246)]) [(0, 0), (0, ((X.2 ((x3 + 2)).toNat).toInt))] dL_law_862 rfl rfl la_211 (z_leN la_211 (by decide)) (by decide) rfl rfl (kX12_part.cl (Nat.le_of_ble_eq_true rfl) (Nat.le_refl _) (Nat.le_refl _) (Nat.le_of_ble_eq_true rfl) (Nat.le_of_ble_eq_true rfl) (Nat.le_of_ble_eq_true rfl)) (mlL_119 rfl) iX12_part sX12_part h (z_ki (fun r248 σ249 h => ?_))
          obtain ⟨g250, h⟩ := h
          obtain ⟨g251, h⟩ := h
          refine Z_icmp_eq (tgt := 926) dL_law_865 (by decide) g250 g251 (fun c => ?_) (fun c => ?_)
          · replace h := h.1 c
            refine Z_iinc (L' := [(3, 0), (2, 1), (2, 211), (0, (x3 + 5))]) dL_law_926 rfl (Nat.le_of_ble_eq_true rfl) rfl ?_
            refine Z_goto (tgt := 18) dL_law_929 (by decide) ?_
            exact Z_few (z_few_k (z_few_k (z_few_k (z_few_k z_few_0)))) h
          · replace h := h.2 c
            refine Z_iconst dL_law_868 ?_
            exact Z_zreturn dL_law_869 rfl (Or.inl rfl) rfl ⟨rfl, false, rfl, h⟩
        · replace h := h.2 c
          refine Z_iconst dL_law_852 ?_
          refine Z_goto (tgt := 857) dL_law_853 (by decide) ?_
          refine Z_xload_n 0 dL_law_857 rfl rfl ?_
          refine Z_iload_n 3 dL_law_858 rfl rfl ?_
          refine Z_iconst dL_law_859 ?_
          refine Z_iadd dL_law_860 ?_
          refine Z_sld dL_law_861 g243 g244 g245 ?_
          refine Z_invV (T := TX12) (N := 30) (ci := 12) (M' := mX12_part) (ρ' := rX12_part zN) (st := [(0, r246)]) [(0, 1), (0, ((X.2 ((x3 + 2)).toNat).toInt))] dL_law_862 rfl rfl la_211 (z_leN la_211 (by decide)) (by decide) rfl rfl (kX12_part.cl (Nat.le_of_ble_eq_true rfl) (Nat.le_refl _) (Nat.le_refl _) (Nat.le_of_ble_eq_true rfl) (Nat.le_of_ble_eq_true rfl) (Nat.le_of_ble_eq_true rfl)) (mlL_119 rfl) iX12_part sX12_part h (z_ki (fun r252 σ253 h => ?_))
          obtain ⟨g254, h⟩ := h
          obtain ⟨g255, h⟩ := h
          refine Z_icmp_eq (tgt := 926) dL_law_865 (by decide) g254 g255 (fun c => ?_) (fun c => ?_)
          · replace h := h.1 c
            refine Z_iinc (L' := [(3, 0), (2, 1), (2, 211), (0, (x3 + 5))]) dL_law_926 rfl (Nat.le_of_ble_eq_true rfl) rfl ?_
            refine Z_goto (tgt := 18) dL_law_929 (by decide) ?_
            exact Z_few (z_few_k (z_few_k (z_few_k (z_few_k z_few_0)))) h
          · replace h := h.2 c
            refine Z_iconst dL_law_868 ?_
            exact Z_zreturn dL_law_869 rfl (Or.inl rfl) rfl ⟨rfl, false, rfl, h⟩
      · replace h := h.2 c
        refine Z_iconst dL_law_830 ?_
        refine Z_goto (tgt := 835) dL_law_831 (by decide) ?_
        refine Z_xload_n 0 dL_law_835 rfl rfl ?_
        refine Z_iload_n 3 dL_law_836 rfl rfl ?_
        refine Z_iconst dL_law_837 ?_
        refine Z_iadd dL_law_838 ?_
        obtain ⟨g256, h⟩ := h
        obtain ⟨g257, h⟩ := h
        obtain ⟨g258, h⟩ := h
        refine Z_sld dL_law_839 g256 g257 g258 ?_
        refine Z_invV (T := TX11) (N := 15) (ci := 11) (M' := mX11_part) (ρ' := rX11_part zN) (st := []) [(0, 1), (0, ((X.2 ((x3 + 2)).toNat).toInt))] dL_law_840 rfl rfl la_1 (z_leN la_1 (by decide)) (by decide) rfl rfl (kX11_part.cl (Nat.le_of_ble_eq_true rfl) (Nat.le_refl _) (Nat.le_refl _) (Nat.le_of_ble_eq_true rfl) (Nat.le_of_ble_eq_true rfl) (Nat.le_of_ble_eq_true rfl)) (mlL_115 rfl) iX11_part sX11_part h (z_ki (fun r259 σ260 h => ?_))
        refine Z_aload_n 2 dL_law_843 rfl rfl ?_
        refine Z_xload_n 0 dL_law_844 rfl rfl ?_
        refine Z_iload_n 3 dL_law_845 rfl rfl ?_
        refine Z_iconst dL_law_846 ?_
        refine Z_iadd dL_law_847 ?_
        refine Z_sld dL_law_848 g239 g240 g241 ?_
        refine Z_if_eq (tgt := 856) dL_law_849 (by decide) g242 (fun c => ?_) (fun c => ?_)
        · replace h := h.1 c
          refine Z_iconst dL_law_856 ?_
          refine Z_xload_n 0 dL_law_857 rfl rfl ?_
          refine Z_iload_n 3 dL_law_858 rfl rfl ?_
          refine Z_iconst dL_law_859 ?_
          refine Z_iadd dL_law_860 ?_
          refine Z_sld dL_law_861 g256 g257 g258 ?_
          refine Z_invV (T := TX12) (N := 30) (ci := 12) (M' := mX12_part) (ρ' := rX12_part zN) (st := [(0, r259)]) [(0, 0), (0, ((X.2 ((x3 + 2)).toNat).toInt))] dL_law_862 rfl rfl la_211 (z_leN la_211 (by decide)) (by decide) rfl rfl (kX12_part.cl (Nat.le_of_ble_eq_true rfl) (Nat.le_refl _) (Nat.le_refl _) (Nat.le_of_ble_eq_true rfl) (Nat.le_of_ble_eq_true rfl) (Nat.le_of_ble_eq_true rfl)) (mlL_119 rfl) iX12_part sX12_part h (z_ki (fun r261 σ262 h => ?_))
          obtain ⟨g263, h⟩ := h
          obtain ⟨g264, h⟩ := h
          refine Z_icmp_eq (tgt := 926) dL_law_865 (by decide) g263 g264 (fun c => ?_) (fun c => ?_)
          · replace h := h.1 c
            refine Z_iinc (L' := [(3, 0), (2, 1), (2, 211), (0, (x3 + 5))]) dL_law_926 rfl (Nat.le_of_ble_eq_true rfl) rfl ?_
            refine Z_goto (tgt := 18) dL_law_929 (by decide) ?_
            exact Z_few (z_few_k (z_few_k (z_few_k (z_few_k z_few_0)))) h
          · replace h := h.2 c
            refine Z_iconst dL_law_868 ?_
            exact Z_zreturn dL_law_869 rfl (Or.inl rfl) rfl ⟨rfl, false, rfl, h⟩
        · replace h := h.2 c
          refine Z_iconst dL_law_852 ?_
          refine Z_goto (tgt := 857) dL_law_853 (by decide) ?_
          refine Z_xload_n 0 dL_law_857 rfl rfl ?_
          refine Z_iload_n 3 dL_law_858 rfl rfl ?_
          refine Z_iconst dL_law_859 ?_
          refine Z_iadd dL_law_860 ?_
          refine Z_sld dL_law_861 g256 g257 g258 ?_
          refine Z_invV (T := TX12) (N := 30) (ci := 12) (M' := mX12_part) (ρ' := rX12_part zN) (st := [(0, r259)]) [(0, 1), (0, ((X.2 ((x3 + 2)).toNat).toInt))] dL_law_862 rfl rfl la_211 (z_leN la_211 (by decide)) (by decide) rfl rfl (kX12_part.cl (Nat.le_of_ble_eq_true rfl) (Nat.le_refl _) (Nat.le_refl _) (Nat.le_of_ble_eq_true rfl) (Nat.le_of_ble_eq_true rfl) (Nat.le_of_ble_eq_true rfl)) (mlL_119 rfl) iX12_part sX12_part h (z_ki (fun r265 σ266 h => ?_))
          obtain ⟨g267, h⟩ := h
          obtain ⟨g268, h⟩ := h
          refine Z_icmp_eq (tgt := 926) dL_law_865 (by decide) g267 g268 (fun c => ?_) (fun c => ?_)
          · replace h := h.1 c
            refine Z_iinc (L' := [(3, 0), (2, 1), (2, 211), (0, (x3 + 5))]) dL_law_926 rfl (Nat.le_of_ble_eq_true rfl) rfl ?_
            refine Z_goto (tgt := 18) dL_law_929 (by decide) ?_
            exact Z_few (z_few_k (z_few_k (z_few_k (z_few_k z_few_0)))) h
          · replace h := h.2 c
            refine Z_iconst dL_law_868 ?_
            exact Z_zreturn dL_law_869 rfl (Or.inl rfl) rfl ⟨rfl, false, rfl, h⟩
    replace h := h.2
    by_cases c24 : (((X.2 (x3).toNat).toInt) % 2 ^ 5) = 24
    · replace h := h.1 c24
      refine Z_tabIn (tgt := 870) dL_law_32 g5 24 c24 (by decide) (by decide) rfl (by decide) ?_
      refine Z_aload_n 1 dL_law_870 rfl rfl ?_
      refine Z_xload_n 0 dL_law_871 rfl rfl ?_
      refine Z_iload_n 3 dL_law_872 rfl rfl ?_
      refine Z_iconst dL_law_873 ?_
      refine Z_iadd dL_law_874 ?_
      obtain ⟨g269, h⟩ := h
      obtain ⟨g270, h⟩ := h
      obtain ⟨g271, h⟩ := h
      refine Z_sld dL_law_875 g269 g270 g271 ?_
      refine Z_xload_n 0 dL_law_876 rfl rfl ?_
      refine Z_iload_n 3 dL_law_877 rfl rfl ?_
      refine Z_iconst dL_law_878 ?_
      refine Z_iadd dL_law_879 ?_
      obtain ⟨g272, h⟩ := h
      obtain ⟨g273, h⟩ := h
      obtain ⟨g274, h⟩ := h
      refine Z_sld dL_law_880 g272 g273 g274 ?_
      refine Z_invV (T := TX11) (N := 15) (ci := 11) (M' := mX11_told) (ρ' := rX11_told zN) (st := []) [(0, ((X.2 ((x3 + 1)).toNat).toInt)), (0, ((X.2 ((x3 + 2)).toNat).toInt))] dL_law_881 rfl rfl la_1 (z_leN la_1 (by decide)) (by decide) rfl rfl (kX11_told.cl (Nat.le_of_ble_eq_true rfl) (Nat.le_refl _) (Nat.le_refl _) (Nat.le_of_ble_eq_true rfl) (Nat.le_of_ble_eq_true rfl) (Nat.le_of_ble_eq_true rfl)) (mlL_120 rfl) iX11_told sX11_told h (z_ki (fun r275 σ276 h => ?_))
      refine Z_aload_n 2 dL_law_884 rfl rfl ?_
      refine Z_xload_n 0 dL_law_885 rfl rfl ?_
      refine Z_iload_n 3 dL_law_886 rfl rfl ?_
      refine Z_iconst dL_law_887 ?_
      refine Z_iadd dL_law_888 ?_
      refine Z_sld dL_law_889 g269 g270 g271 ?_
      refine Z_xload_n 0 dL_law_890 rfl rfl ?_
      refine Z_iload_n 3 dL_law_891 rfl rfl ?_
      refine Z_iconst dL_law_892 ?_
      refine Z_iadd dL_law_893 ?_
      refine Z_sld dL_law_894 g272 g273 g274 ?_
      refine Z_invV (T := TX12) (N := 30) (ci := 12) (M' := mX12_told_) (ρ' := rX12_told_ zN) (st := [(0, r275)]) [(0, ((X.2 ((x3 + 1)).toNat).toInt)), (0, ((X.2 ((x3 + 2)).toNat).toInt))] dL_law_895 rfl rfl la_211 (z_leN la_211 (by decide)) (by decide) rfl rfl (kX12_told_.cl (Nat.le_of_ble_eq_true rfl) (Nat.le_refl _) (Nat.le_refl _) (Nat.le_of_ble_eq_true rfl) (Nat.le_of_ble_eq_true rfl) (Nat.le_of_ble_eq_true rfl)) (mlL_123 rfl) iX12_told_ sX12_told_ h (z_ki (fun r277 σ278 h => ?_))
      obtain ⟨g279, h⟩ := h
      obtain ⟨g280, h⟩ := h
      refine Z_icmp_eq (tgt := 926) dL_law_898 (by decide) g279 g280 (fun c => ?_) (fun c => ?_)
      · replace h := h.1 c
        refine Z_iinc (L' := [(3, 0), (2, 1), (2, 211), (0, (x3 + 5))]) dL_law_926 rfl (Nat.le_of_ble_eq_true rfl) rfl ?_
        refine Z_goto (tgt := 18) dL_law_929 (by decide) ?_
        exact Z_few (z_few_k (z_few_k (z_few_k (z_few_k z_few_0)))) h
      · replace h := h.2 c
        refine Z_iconst dL_law_901 ?_
        exact Z_zreturn dL_law_902 rfl (Or.inl rfl) rfl ⟨rfl, false, rfl, h⟩
    replace h := h.2
    by_cases c25 : (((X.2 (x3).toNat).toInt) % 2 ^ 5) = 25
    · replace h := h.1 c25
      refine Z_tabIn (tgt := 903) dL_law_32 g5 25 c25 (by decide) (by decide) rfl (by decide) ?_
      refine Z_aload_n 1 dL_law_903 rfl rfl ?_
      refine Z_xload_n 0 dL_law_904 rfl rfl ?_
      refine Z_iload_n 3 dL_law_905 rfl rfl ?_
      refine Z_iconst dL_law_906 ?_
      refine Z_iadd dL_law_907 ?_
      obtain ⟨g281, h⟩ := h
      obtain ⟨g282, h⟩ := h
      obtain ⟨g283, h⟩ := h
      refine Z_sld dL_law_908 g281 g282 g283 ?_
      refine Z_invV (T := TX11) (N := 15) (ci := 11) (M' := mX11_count) (ρ' := rX11_count zN) (st := []) [(0, ((X.2 ((x3 + 1)).toNat).toInt))] dL_law_909 rfl rfl la_1 (z_leN la_1 (by decide)) (by decide) rfl rfl (kX11_count.cl (Nat.le_of_ble_eq_true rfl) (Nat.le_refl _) (Nat.le_refl _) (Nat.le_of_ble_eq_true rfl) (Nat.le_of_ble_eq_true rfl) (Nat.le_of_ble_eq_true rfl)) (mlL_124 rfl) iX11_count sX11_count h (z_ki (fun r284 σ285 h => ?_))
      refine Z_aload_n 2 dL_law_912 rfl rfl ?_
      refine Z_xload_n 0 dL_law_913 rfl rfl ?_
      refine Z_iload_n 3 dL_law_914 rfl rfl ?_
      refine Z_iconst dL_law_915 ?_
      refine Z_iadd dL_law_916 ?_
      refine Z_sld dL_law_917 g281 g282 g283 ?_
      refine Z_invV (T := TX12) (N := 30) (ci := 12) (M' := mX12_count) (ρ' := rX12_count zN) (st := [(0, r284)]) [(0, ((X.2 ((x3 + 1)).toNat).toInt))] dL_law_918 rfl rfl la_211 (z_leN la_211 (by decide)) (by decide) rfl rfl (kX12_count.cl (Nat.le_of_ble_eq_true rfl) (Nat.le_refl _) (Nat.le_refl _) (Nat.le_of_ble_eq_true rfl) (Nat.le_of_ble_eq_true rfl) (Nat.le_of_ble_eq_true rfl)) (mlL_127 rfl) iX12_count sX12_count h (z_ki (fun r286 σ287 h => ?_))
      obtain ⟨g288, h⟩ := h
      obtain ⟨g289, h⟩ := h
      refine Z_icmp_eq (tgt := 926) dL_law_921 (by decide) g288 g289 (fun c => ?_) (fun c => ?_)
      · replace h := h.1 c
        refine Z_iinc (L' := [(3, 0), (2, 1), (2, 211), (0, (x3 + 5))]) dL_law_926 rfl (Nat.le_of_ble_eq_true rfl) rfl ?_
        refine Z_goto (tgt := 18) dL_law_929 (by decide) ?_
        exact Z_few (z_few_k (z_few_k (z_few_k (z_few_k z_few_0)))) h
      · replace h := h.2 c
        refine Z_iconst dL_law_924 ?_
        exact Z_zreturn dL_law_925 rfl (Or.inl rfl) rfl ⟨rfl, false, rfl, h⟩
    replace h := h.2
    have cO := z_sw25 c0 c1 c2 c3 c4 c5 c6 c7 c8 c9 c10 c11 c12 c13 c14 c15 c16 c17 c18 c19 c20 c21 c22 c23 c24 c25
    replace h := h cO
    refine Z_tabOut (tgt := 926) dL_law_32 g5 cO (by decide) ?_
    refine Z_iinc (L' := [(3, 0), (2, 1), (2, 211), (0, (x3 + 5))]) dL_law_926 rfl (Nat.le_of_ble_eq_true rfl) rfl ?_
    refine Z_goto (tgt := 18) dL_law_929 (by decide) ?_
    exact Z_few (z_few_k (z_few_k (z_few_k (z_few_k z_few_0)))) h

