def b_L_law_18 (F : Nat) (sz : Nat) (b L : Nat) (xs : Nat → Int32) (a1 : Nat) (a2 : Nat)  (k18 : (Int32 × XM) → Option (Unit)) (q : Int32 × XM) : Option (Unit) := if ((Int32.ofNat L) - (6 : Int32)) < q.1 then some () else (x_sc L xs q.1).bind fun v6 => if (v6 &&& (63 : Int32)) = (0 : Int32) then (x_sc L xs (q.1 + (1 : Int32))).bind fun v8 => (x_ob q.2 a1 8).bind fun u9 => (f_X8_letters F a1 v8 q.2).bind fun p10 => (x_sc L xs (q.1 + (1 : Int32))).bind fun v11 => (x_ob p10.2 a2 9).bind fun u12 => (f_X9_letters F a2 v11 p10.2).bind fun p13 => if p10.1 = p13.1 then k18 ((q.1 + (6 : Int32)), p13.2) else none else if (v6 &&& (63 : Int32)) = (1 : Int32) then (x_sc L xs (q.1 + (1 : Int32))).bind fun v16 => (x_ob q.2 a1 8).bind fun u17 => (f_X8_bottom F a1 v16 q.2).bind fun p18 => (x_sc L xs (q.1 + (1 : Int32))).bind fun v19 => (x_ob p18.2 a2 9).bind fun u20 => (f_X9_bottom F a2 v19 p18.2).bind fun p21 => if p18.1 = p21.1 then k18 ((q.1 + (6 : Int32)), p21.2) else none else if (v6 &&& (63 : Int32)) = (2 : Int32) then (x_sc L xs (q.1 + (1 : Int32))).bind fun v24 => (x_sc L xs (q.1 + (2 : Int32))).bind fun v25 => (x_ob q.2 a1 8).bind fun u26 => (f_X8_length F a1 v24 v25 q.2).bind fun p27 => (x_sc L xs (q.1 + (1 : Int32))).bind fun v28 => (x_sc L xs (q.1 + (2 : Int32))).bind fun v29 => (x_ob p27.2 a2 9).bind fun u30 => (f_X9_length a2 v28 v29 p27.2).bind fun p31 => if p27.1 = p31.1 then k18 ((q.1 + (6 : Int32)), p31.2) else none else if (v6 &&& (63 : Int32)) = (3 : Int32) then (x_sc L xs (q.1 + (1 : Int32))).bind fun v34 => (x_sc L xs (q.1 + (2 : Int32))).bind fun v35 => (x_ob q.2 a1 8).bind fun u36 => (f_X8_swap F a1 v34 v35 q.2).bind fun p37 => (x_sc L xs (q.1 + (1 : Int32))).bind fun v38 => (x_sc L xs (q.1 + (2 : Int32))).bind fun v39 => (x_ob p37.2 a2 9).bind fun u40 => (f_X9_swap F a2 v38 v39 p37.2).bind fun p41 => if p37.1 = p41.1 then k18 ((q.1 + (6 : Int32)), p41.2) else none else if (v6 &&& (63 : Int32)) = (4 : Int32) then (x_ob q.2 a1 8).bind fun u44 => (f_X8_step F a1 q.2).bind fun p45 => (x_ob p45.2 a2 9).bind fun u46 => (f_X9_step F a2 p45.2).bind fun p47 => if p45.1 = p47.1 then k18 ((q.1 + (6 : Int32)), p47.2) else none else if (v6 &&& (63 : Int32)) = (5 : Int32) then (x_sc L xs (q.1 + (1 : Int32))).bind fun v50 => (x_ob q.2 a1 8).bind fun u51 => (f_X8_back F a1 v50 q.2).bind fun p52 => (x_sc L xs (q.1 + (1 : Int32))).bind fun v53 => (x_ob p52.2 a2 9).bind fun u54 => (f_X9_back F a2 v53 p52.2).bind fun p55 => if p52.1 = p55.1 then k18 ((q.1 + (6 : Int32)), p55.2) else none else if (v6 &&& (63 : Int32)) = (6 : Int32) then (x_ob q.2 a1 8).bind fun u58 => (f_X8_takeBack F a1 q.2).bind fun p59 => (x_ob p59.2 a2 9).bind fun u60 => (f_X9_takeBack a2 p59.2).bind fun p61 => if p59.1 = p61.1 then k18 ((q.1 + (6 : Int32)), p61.2) else none else if (v6 &&& (63 : Int32)) = (7 : Int32) then (x_ob q.2 a1 8).bind fun u64 => (f_X8_keep F a1 q.2).bind fun p65 => (x_ob p65.2 a2 9).bind fun u66 => (f_X9_keep F a2 p65.2).bind fun p67 => if p65.1 = p67.1 then k18 ((q.1 + (6 : Int32)), p67.2) else none else if (v6 &&& (63 : Int32)) = (8 : Int32) then (x_sc L xs (q.1 + (1 : Int32))).bind fun v70 => (x_ob q.2 a1 8).bind fun u71 => (f_X8_feed a1 v70 q.2).bind fun p72 => (x_sc L xs (q.1 + (1 : Int32))).bind fun v73 => (x_ob p72.2 a2 9).bind fun u74 => (f_X9_feed a2 v73 p72.2).bind fun p75 => if p72.1 = p75.1 then k18 ((q.1 + (6 : Int32)), p75.2) else none else if (v6 &&& (63 : Int32)) = (9 : Int32) then (x_ob q.2 a1 8).bind fun u78 => (f_X8_read F a1 q.2).bind fun p79 => (x_ob p79.2 a2 9).bind fun u80 => (f_X9_read F a2 p79.2).bind fun p81 => if p79.1 = p81.1 then k18 ((q.1 + (6 : Int32)), p81.2) else none else if (v6 &&& (63 : Int32)) = (10 : Int32) then (x_sc L xs (q.1 + (1 : Int32))).bind fun v84 => (x_sc L xs (q.1 + (2 : Int32))).bind fun v85 => (x_ob q.2 a1 8).bind fun u86 => (f_X8_of a1 v84 v85 q.2).bind fun p87 => (x_sc L xs (q.1 + (1 : Int32))).bind fun v88 => (x_sc L xs (q.1 + (2 : Int32))).bind fun v89 => (x_ob q.2 a2 9).bind fun u90 => (f_X9_of a2 v88 v89 q.2).bind fun p91 => if p87 = p91 then k18 ((q.1 + (6 : Int32)), q.2) else none else if (v6 &&& (63 : Int32)) = (11 : Int32) then (x_sc L xs (q.1 + (1 : Int32))).bind fun v94 => (x_ob q.2 a1 8).bind fun u95 => (f_X8_told F a1 v94 q.2).bind fun p96 => (x_sc L xs (q.1 + (1 : Int32))).bind fun v97 => (x_ob p96.2 a2 9).bind fun u98 => (f_X9_told F a2 v97 p96.2).bind fun p99 => if p96.1 = p99.1 then k18 ((q.1 + (6 : Int32)), p99.2) else none else if (v6 &&& (63 : Int32)) = (12 : Int32) then (x_sc L xs (q.1 + (1 : Int32))).bind fun v102 => (x_sc L xs (q.1 + (2 : Int32))).bind fun v103 => (x_ob q.2 a1 8).bind fun u104 => (f_X8_point F a1 v102 v103 q.2).bind fun p105 => (x_sc L xs (q.1 + (1 : Int32))).bind fun v106 => (x_sc L xs (q.1 + (2 : Int32))).bind fun v107 => (x_ob p105.2 a2 9).bind fun u108 => (f_X9_point F a2 v106 v107 p105.2).bind fun p109 => if p105.1 = p109.1 then k18 ((q.1 + (6 : Int32)), p109.2) else none else if (v6 &&& (63 : Int32)) = (13 : Int32) then (x_sc L xs (q.1 + (1 : Int32))).bind fun v112 => (x_sc L xs (q.1 + (2 : Int32))).bind fun v113 => (x_ob q.2 a1 8).bind fun u114 => (f_X8_gone F a1 v112 v113 q.2).bind fun p115 => (x_sc L xs (q.1 + (1 : Int32))).bind fun v116 => (x_sc L xs (q.1 + (2 : Int32))).bind fun v117 => (x_ob p115.2 a2 9).bind fun u118 => (f_X9_gone F a2 v116 v117 p115.2).bind fun p119 => if p115.1 = p119.1 then k18 ((q.1 + (6 : Int32)), p119.2) else none else if (v6 &&& (63 : Int32)) = (14 : Int32) then (x_sc L xs (q.1 + (1 : Int32))).bind fun v122 => (x_ob q.2 a1 8).bind fun u123 => (f_X8_code F a1 v122 q.2).bind fun p124 => (x_sc L xs (q.1 + (1 : Int32))).bind fun v125 => (x_ob p124.2 a2 9).bind fun u126 => (f_X9_code F a2 v125 p124.2).bind fun p127 => if p124.1 = p127.1 then k18 ((q.1 + (6 : Int32)), p127.2) else none else if (v6 &&& (63 : Int32)) = (15 : Int32) then (x_sc L xs (q.1 + (1 : Int32))).bind fun v130 => (x_sc L xs (q.1 + (2 : Int32))).bind fun v131 => (x_ob q.2 a1 8).bind fun u132 => (f_X8_next F a1 v130 v131 q.2).bind fun p133 => (x_sc L xs (q.1 + (1 : Int32))).bind fun v134 => (x_sc L xs (q.1 + (2 : Int32))).bind fun v135 => (x_ob p133.2 a2 9).bind fun u136 => (f_X9_next F a2 v134 v135 p133.2).bind fun p137 => if p133.1 = p137.1 then k18 ((q.1 + (6 : Int32)), p137.2) else none else if (v6 &&& (63 : Int32)) = (16 : Int32) then (x_sc L xs (q.1 + (1 : Int32))).bind fun v140 => (x_ob q.2 a1 8).bind fun u141 => (f_X8_meeting F a1 v140 q.2).bind fun p142 => (x_sc L xs (q.1 + (1 : Int32))).bind fun v143 => (x_ob q.2 a2 9).bind fun u144 => (f_X9_meeting F a2 v143 q.2).bind fun p145 => if p142 = p145 then k18 ((q.1 + (6 : Int32)), q.2) else none else if (v6 &&& (63 : Int32)) = (17 : Int32) then (x_sc L xs (q.1 + (1 : Int32))).bind fun v148 => (x_sc L xs (q.1 + (2 : Int32))).bind fun v149 => (x_ob q.2 a1 8).bind fun u150 => (f_X8_see a1 v148 v149 q.2).bind fun p151 => (x_sc L xs (q.1 + (1 : Int32))).bind fun v152 => (x_sc L xs (q.1 + (2 : Int32))).bind fun v153 => (x_ob p151.2 a2 9).bind fun u154 => (f_X9_see a2 v152 v153 p151.2).bind fun p155 => if p151.1 = p155.1 then k18 ((q.1 + (6 : Int32)), p155.2) else none else if (v6 &&& (63 : Int32)) = (18 : Int32) then (x_sc L xs (q.1 + (1 : Int32))).bind fun v158 => (x_sc L xs (q.1 + (2 : Int32))).bind fun v159 => (x_ob q.2 a1 8).bind fun u160 => (f_X8_fits F a1 v158 v159 q.2).bind fun p161 => (x_sc L xs (q.1 + (1 : Int32))).bind fun v162 => (x_sc L xs (q.1 + (2 : Int32))).bind fun v163 => (x_ob p161.2 a2 9).bind fun u164 => (f_X9_fits F a2 v162 v163 p161.2).bind fun p165 => if p161.1 = p165.1 then k18 ((q.1 + (6 : Int32)), p165.2) else none else if (v6 &&& (63 : Int32)) = (19 : Int32) then (x_sc L xs (q.1 + (1 : Int32))).bind fun v168 => (x_ob q.2 a1 8).bind fun u169 => (f_X8_odds F a1 v168 q.2).bind fun p170 => (x_sc L xs (q.1 + (1 : Int32))).bind fun v171 => (x_ob p170.2 a2 9).bind fun u172 => (f_X9_odds F a2 v171 p170.2).bind fun p173 => if (lg_cmp p170.1 p173.1) = 0 then k18 ((q.1 + (6 : Int32)), p173.2) else none else if (v6 &&& (63 : Int32)) = (20 : Int32) then (x_sc L xs (q.1 + (1 : Int32))).bind fun v176 => (x_ob q.2 a1 8).bind fun u177 => (f_X8_mean F a1 v176 q.2).bind fun p178 => (x_sc L xs (q.1 + (1 : Int32))).bind fun v179 => (x_ob p178.2 a2 9).bind fun u180 => (f_X9_mean F a2 v179 p178.2).bind fun p181 => if (lg_cmp p178.1 p181.1) = 0 then k18 ((q.1 + (6 : Int32)), p181.2) else none else if (v6 &&& (63 : Int32)) = (21 : Int32) then (x_sc L xs (q.1 + (1 : Int32))).bind fun v184 => (x_sc L xs (q.1 + (2 : Int32))).bind fun v185 => (x_ob q.2 a1 8).bind fun u186 => (f_X8_event a1 v184 v185 q.2).bind fun p187 => (x_sc L xs (q.1 + (1 : Int32))).bind fun v188 => (x_sc L xs (q.1 + (2 : Int32))).bind fun v189 => (x_ob p187.2 a2 9).bind fun u190 => (f_X9_event a2 v188 v189 p187.2).bind fun p191 => if p187.1 = p191.1 then k18 ((q.1 + (6 : Int32)), p191.2) else none else if (v6 &&& (63 : Int32)) = (22 : Int32) then (x_sc L xs (q.1 + (1 : Int32))).bind fun v194 => (x_ob q.2 a1 8).bind fun u195 => (f_X8_after F a1 v194 q.2).bind fun p196 => (x_sc L xs (q.1 + (1 : Int32))).bind fun v197 => (x_ob p196.2 a2 9).bind fun u198 => (f_X9_after F a2 v197 p196.2).bind fun p199 => if p196.1 = p199.1 then k18 ((q.1 + (6 : Int32)), p199.2) else none else if (v6 &&& (63 : Int32)) = (23 : Int32) then (x_sc L xs (q.1 + (1 : Int32))).bind fun v202 => (x_sc L xs (q.1 + (2 : Int32))).bind fun v203 => (x_ob q.2 a1 8).bind fun u204 => (f_X8_book a1 v202 v203 q.2).bind fun p205 => (x_sc L xs (q.1 + (1 : Int32))).bind fun v206 => (x_sc L xs (q.1 + (2 : Int32))).bind fun v207 => (x_ob p205.2 a2 9).bind fun u208 => (f_X9_book a2 v206 v207 p205.2).bind fun p209 => if p205.1 = p209.1 then k18 ((q.1 + (6 : Int32)), p209.2) else none else if (v6 &&& (63 : Int32)) = (24 : Int32) then (x_ob q.2 a1 8).bind fun u212 => (f_X8_looked F a1 q.2).bind fun p213 => (x_ob q.2 a2 9).bind fun u214 => (f_X9_looked F a2 q.2).bind fun p215 => if p213 = p215 then k18 ((q.1 + (6 : Int32)), q.2) else none else if (v6 &&& (63 : Int32)) = (25 : Int32) then (x_sc L xs (q.1 + (1 : Int32))).bind fun v218 => (x_sc L xs (q.1 + (2 : Int32))).bind fun v219 => (x_ob q.2 a1 8).bind fun u220 => (f_X8_judge F a1 v218 v219 q.2).bind fun p221 => (x_sc L xs (q.1 + (1 : Int32))).bind fun v222 => (x_sc L xs (q.1 + (2 : Int32))).bind fun v223 => (x_ob q.2 a2 9).bind fun u224 => (f_X9_judge F a2 v222 v223 q.2).bind fun p225 => if p221 = p225 then k18 ((q.1 + (6 : Int32)), q.2) else none else if (v6 &&& (63 : Int32)) = (26 : Int32) then (x_ob q.2 a1 8).bind fun u228 => (f_X8_image F a1 q.2).bind fun p229 => (x_ob p229.2 a2 9).bind fun u230 => (f_X9_image F a2 p229.2).bind fun p231 => if p229.1 = p231.1 then k18 ((q.1 + (6 : Int32)), p231.2) else none else if (v6 &&& (63 : Int32)) = (27 : Int32) then (x_ob q.2 a1 8).bind fun u234 => (f_X8_undo F a1 q.2).bind fun p235 => (x_ob p235.2 a2 9).bind fun u236 => (f_X9_undo F a2 p235.2).bind fun p237 => if p235.1 = p237.1 then k18 ((q.1 + (6 : Int32)), p237.2) else none else if (v6 &&& (63 : Int32)) = (28 : Int32) then (x_sc L xs (q.1 + (1 : Int32))).bind fun v240 => (x_ob q.2 a1 8).bind fun u241 => (f_X8_count a1 v240 q.2).bind fun p242 => (x_sc L xs (q.1 + (1 : Int32))).bind fun v243 => (x_ob q.2 a2 9).bind fun u244 => (f_X9_count a2 v243 q.2).bind fun p245 => if p242 = p245 then k18 ((q.1 + (6 : Int32)), q.2) else none else if (v6 &&& (63 : Int32)) = (29 : Int32) then (x_sc L xs (q.1 + (1 : Int32))).bind fun v248 => (x_sc L xs (q.1 + (2 : Int32))).bind fun v249 => (x_sc L xs (q.1 + (3 : Int32))).bind fun v250 => (x_ob q.2 a1 8).bind fun u251 => (f_X8_tape F a1 v248 v249 v250 q.2).bind fun p252 => (x_sc L xs (q.1 + (1 : Int32))).bind fun v253 => (x_sc L xs (q.1 + (2 : Int32))).bind fun v254 => (x_sc L xs (q.1 + (3 : Int32))).bind fun v255 => (x_ob p252.2 a2 9).bind fun u256 => (f_X9_tape F a2 v253 v254 v255 p252.2).bind fun p257 => if p252.1 = p257.1 then k18 ((q.1 + (6 : Int32)), p257.2) else none else if (v6 &&& (63 : Int32)) = (30 : Int32) then (x_sc L xs (q.1 + (1 : Int32))).bind fun v260 => (x_sc L xs (q.1 + (2 : Int32))).bind fun v261 => (x_sc L xs (q.1 + (3 : Int32))).bind fun v262 => (x_sc L xs (q.1 + (4 : Int32))).bind fun v263 => (x_ob q.2 a1 8).bind fun u264 => (f_X8_item a1 v260 v261 ((v262.toInt64 <<< ((32 : Int32).toInt64 &&& 63)) ||| (v263.toInt64 &&& (4294967295 : Int64))) q.2).bind fun p265 => (x_sc L xs (q.1 + (1 : Int32))).bind fun v266 => (x_sc L xs (q.1 + (2 : Int32))).bind fun v267 => (x_sc L xs (q.1 + (3 : Int32))).bind fun v268 => (x_sc L xs (q.1 + (4 : Int32))).bind fun v269 => (x_ob p265.2 a2 9).bind fun u270 => (f_X9_item a2 v266 v267 ((v268.toInt64 <<< ((32 : Int32).toInt64 &&& 63)) ||| (v269.toInt64 &&& (4294967295 : Int64))) p265.2).bind fun p271 => if p265.1 = p271.1 then k18 ((q.1 + (6 : Int32)), p271.2) else none else if (v6 &&& (63 : Int32)) = (31 : Int32) then (x_sc L xs (q.1 + (1 : Int32))).bind fun v274 => (x_sc L xs (q.1 + (2 : Int32))).bind fun v275 => (x_ob q.2 a1 8).bind fun u276 => (f_X8_peek a1 v274 v275 q.2).bind fun p277 => (x_sc L xs (q.1 + (1 : Int32))).bind fun v278 => (x_sc L xs (q.1 + (2 : Int32))).bind fun v279 => (x_ob q.2 a2 9).bind fun u280 => (f_X9_peek a2 v278 v279 q.2).bind fun p281 => if (lg_cmp p277 p281) = 0 then k18 ((q.1 + (6 : Int32)), q.2) else none else if (v6 &&& (63 : Int32)) = (32 : Int32) then (x_sc L xs (q.1 + (1 : Int32))).bind fun v284 => (x_sc L xs (q.1 + (2 : Int32))).bind fun v285 => (x_sc L xs (q.1 + (3 : Int32))).bind fun v286 => (x_sc L xs (q.1 + (4 : Int32))).bind fun v287 => (x_sc L xs (q.1 + (5 : Int32))).bind fun v288 => (x_ob q.2 a1 8).bind fun u289 => (f_X8_shift a1 v284 v285 v286 v287 v288 q.2).bind fun p290 => (x_sc L xs (q.1 + (1 : Int32))).bind fun v291 => (x_sc L xs (q.1 + (2 : Int32))).bind fun v292 => (x_sc L xs (q.1 + (3 : Int32))).bind fun v293 => (x_sc L xs (q.1 + (4 : Int32))).bind fun v294 => (x_sc L xs (q.1 + (5 : Int32))).bind fun v295 => (x_ob p290.2 a2 9).bind fun u296 => (f_X9_shift a2 v291 v292 v293 v294 v295 p290.2).bind fun p297 => if p290.1 = p297.1 then k18 ((q.1 + (6 : Int32)), p297.2) else none else k18 ((q.1 + (6 : Int32)), q.2)
set_option maxHeartbeats 4000000 in
set_option maxRecDepth 100000 in
theorem lp_L_law_18 (l : Launch) (D : va_G) (aC : FieldType → ClassId) (bs : Nat) (F : Nat) (sz : Nat) (b L : Nat) (xs : Nat → Int32) (a1 : Nat) (a2 : Nat)   : ∀ (n : Nat) (b0 : Int32) (b1 : XM) (r : Unit), x_it (b_L_law_18 F sz b L xs a1 a2 ) n (b0, b1) = some r → x_V l D aC bs yL_law cL_law 4 (some .boolean) room_1 (x_ZL b L xs bs lw_Z) 18 [(0, .ref b), (1, .ref a1), (2, .ref a2), (3, .int b0)] [] (sz + 128) b1 128 4822 := by
  suffices H : ∀ (n : Nat) (q : Int32 × XM) (r : Unit), x_it (b_L_law_18 F sz b L xs a1 a2 ) n q = some r → x_V l D aC bs yL_law cL_law 4 (some .boolean) room_1 (x_ZL b L xs bs lw_Z) 18 [(0, .ref b), (1, .ref a1), (2, .ref a2), (3, .int q.1)] [] (sz + 128) q.2 128 4822 from fun n b0 b1 r h => H n (b0, b1) r h
  refine x_loop (P := fun (q : Int32 × XM) (r : Unit) => x_V l D aC bs yL_law cL_law 4 (some .boolean) room_1 (x_ZL b L xs bs lw_Z) 18 [(0, .ref b), (1, .ref a1), (2, .ref a2), (3, .int q.1)] [] (sz + 128) q.2 128 4822) (fun k18 hk0 q r h => ?_)
  have hk18 : ∀ (b0 : Int32) (b1 : XM) (r : Unit), k18 (b0, b1) = some r → x_V l D aC bs yL_law cL_law 4 (some .boolean) room_1 (x_ZL b L xs bs lw_Z) 18 [(0, .ref b), (1, .ref a1), (2, .ref a2), (3, .int b0)] [] (sz + 128) b1 128 4822 := fun b0 b1 r h => hk0 (b0, b1) r h
  unfold b_L_law_18 at h
  refine x_iload_n dL_law_18 3 rfl ?_
  refine x_aload_n dL_law_19 0 rfl ?_
  refine x_slen dL_law_20 ?_
  refine x_bipush (v := (6 : Int32)) dL_law_21 (by decide) ?_
  refine x_isub dL_law_23 ?_
  refine x_icmp_gt 1108 dL_law_24 (by decide) (fun c5 => ?_) (fun c5 => ?_)
  · have h := (if_pos c5).symm.trans h
    refine x_iconst (v := (1 : Int32)) dL_law_1108 (by decide) ?_
    exact x_lawret dL_law_1109 (Nat.le_of_ble_eq_true rfl) (Nat.le_of_ble_eq_true rfl)
  have h := (if_neg c5).symm.trans h
  refine x_aload_n dL_law_27 0 rfl ?_
  refine x_iload_n dL_law_28 3 rfl ?_
  obtain ⟨v6, ev6, h⟩ := x_bd h
  refine x_sld dL_law_29 ev6 ?_
  refine x_bipush (v := (63 : Int32)) dL_law_30 (by decide) ?_
  refine x_iand dL_law_32 ?_
  by_cases c7 : (v6 &&& (63 : Int32)) = (0 : Int32)
  · have h := (if_pos c7).symm.trans h
    refine x_tabIn 0 180 dL_law_33 (by rw [c7]; decide) (by decide) (by decide) rfl (by decide) ?_
    refine x_aload_n dL_law_180 1 rfl ?_
    refine x_aload_n dL_law_181 0 rfl ?_
    refine x_iload_n dL_law_182 3 rfl ?_
    refine x_iconst (v := (1 : Int32)) dL_law_183 (by decide) ?_
    refine x_iadd dL_law_184 ?_
    obtain ⟨v8, ev8, h⟩ := x_bd h
    refine x_sld dL_law_185 ev8 ?_
    obtain ⟨u9, eu9, h⟩ := x_bd h
    obtain ⟨p10, ep10, h⟩ := x_bd h
    refine x_callVI [.int v8] [] clX8 me_X8_letters w_ml_RL_13 w_im_yX8_letters w_se_yX8_letters (Nat.le_of_ble_eq_true rfl) (Nat.le_of_ble_eq_true rfl) rfl (Nat.le_of_ble_eq_true rfl) (Nat.le_of_ble_eq_true rfl) (Nat.le_of_ble_eq_true rfl) dL_law_186 eu9 (c_X8_letters l D aC bs (sz + 128) F ep10) rfl ?_
    refine x_aload_n dL_law_189 2 rfl ?_
    refine x_aload_n dL_law_190 0 rfl ?_
    refine x_iload_n dL_law_191 3 rfl ?_
    refine x_iconst (v := (1 : Int32)) dL_law_192 (by decide) ?_
    refine x_iadd dL_law_193 ?_
    obtain ⟨v11, ev11, h⟩ := x_bd h
    refine x_sld dL_law_194 ev11 ?_
    obtain ⟨u12, eu12, h⟩ := x_bd h
    obtain ⟨p13, ep13, h⟩ := x_bd h
    refine x_callVI [.int v11] [.int p10.1] clX9 me_X9_letters w_ml_RL_17 w_im_yX9_letters w_se_yX9_letters (Nat.le_of_ble_eq_true rfl) (Nat.le_of_ble_eq_true rfl) rfl (Nat.le_of_ble_eq_true rfl) (Nat.le_of_ble_eq_true rfl) (Nat.le_of_ble_eq_true rfl) dL_law_195 eu12 (c_X9_letters l D aC bs (sz + 128) F ep13) rfl ?_
    refine x_icmp_eq 1102 dL_law_198 (by decide) (fun c14 => ?_) (fun c14 => ?_)
    · have h := (if_pos c14).symm.trans h
      refine x_iinc (6 : Int32) 3 [(3, .int (q.1 + (6 : Int32))), (0, .ref b), (1, .ref a1), (2, .ref a2)] dL_law_1102 rfl (by decide) (by decide) rfl ?_
      refine x_goto 18 dL_law_1105 (by decide) ?_
      exact x_sub [1, 2, 3, 0] rfl (hk18 _ _ _ h)
    have h := (if_neg c14).symm.trans h
    refine x_iconst (v := (0 : Int32)) dL_law_201 (by decide) ?_
    exact absurd h (fun h9 => by cases h9)
  have h := (if_neg c7).symm.trans h
  by_cases c15 : (v6 &&& (63 : Int32)) = (1 : Int32)
  · have h := (if_pos c15).symm.trans h
    refine x_tabIn 1 203 dL_law_33 (by rw [c15]; decide) (by decide) (by decide) rfl (by decide) ?_
    refine x_aload_n dL_law_203 1 rfl ?_
    refine x_aload_n dL_law_204 0 rfl ?_
    refine x_iload_n dL_law_205 3 rfl ?_
    refine x_iconst (v := (1 : Int32)) dL_law_206 (by decide) ?_
    refine x_iadd dL_law_207 ?_
    obtain ⟨v16, ev16, h⟩ := x_bd h
    refine x_sld dL_law_208 ev16 ?_
    obtain ⟨u17, eu17, h⟩ := x_bd h
    obtain ⟨p18, ep18, h⟩ := x_bd h
    refine x_callVI [.int v16] [] clX8 me_X8_bottom w_ml_RL_18 w_im_yX8_bottom w_se_yX8_bottom (Nat.le_of_ble_eq_true rfl) (Nat.le_of_ble_eq_true rfl) rfl (Nat.le_of_ble_eq_true rfl) (Nat.le_of_ble_eq_true rfl) (Nat.le_of_ble_eq_true rfl) dL_law_209 eu17 (c_X8_bottom l D aC bs (sz + 128) F ep18) rfl ?_
    refine x_aload_n dL_law_212 2 rfl ?_
    refine x_aload_n dL_law_213 0 rfl ?_
    refine x_iload_n dL_law_214 3 rfl ?_
    refine x_iconst (v := (1 : Int32)) dL_law_215 (by decide) ?_
    refine x_iadd dL_law_216 ?_
    obtain ⟨v19, ev19, h⟩ := x_bd h
    refine x_sld dL_law_217 ev19 ?_
    obtain ⟨u20, eu20, h⟩ := x_bd h
    obtain ⟨p21, ep21, h⟩ := x_bd h
    refine x_callVI [.int v19] [.int p18.1] clX9 me_X9_bottom w_ml_RL_21 w_im_yX9_bottom w_se_yX9_bottom (Nat.le_of_ble_eq_true rfl) (Nat.le_of_ble_eq_true rfl) rfl (Nat.le_of_ble_eq_true rfl) (Nat.le_of_ble_eq_true rfl) (Nat.le_of_ble_eq_true rfl) dL_law_218 eu20 (c_X9_bottom l D aC bs (sz + 128) F ep21) rfl ?_
    refine x_icmp_eq 1102 dL_law_221 (by decide) (fun c22 => ?_) (fun c22 => ?_)
    · have h := (if_pos c22).symm.trans h
      refine x_iinc (6 : Int32) 3 [(3, .int (q.1 + (6 : Int32))), (0, .ref b), (1, .ref a1), (2, .ref a2)] dL_law_1102 rfl (by decide) (by decide) rfl ?_
      refine x_goto 18 dL_law_1105 (by decide) ?_
      exact x_sub [1, 2, 3, 0] rfl (hk18 _ _ _ h)
    have h := (if_neg c22).symm.trans h
    refine x_iconst (v := (0 : Int32)) dL_law_224 (by decide) ?_
    exact absurd h (fun h9 => by cases h9)
  have h := (if_neg c15).symm.trans h
  by_cases c23 : (v6 &&& (63 : Int32)) = (2 : Int32)
  · have h := (if_pos c23).symm.trans h
    refine x_tabIn 2 226 dL_law_33 (by rw [c23]; decide) (by decide) (by decide) rfl (by decide) ?_
    refine x_aload_n dL_law_226 1 rfl ?_
    refine x_aload_n dL_law_227 0 rfl ?_
    refine x_iload_n dL_law_228 3 rfl ?_
    refine x_iconst (v := (1 : Int32)) dL_law_229 (by decide) ?_
    refine x_iadd dL_law_230 ?_
    obtain ⟨v24, ev24, h⟩ := x_bd h
    refine x_sld dL_law_231 ev24 ?_
    refine x_aload_n dL_law_232 0 rfl ?_
    refine x_iload_n dL_law_233 3 rfl ?_
    refine x_iconst (v := (2 : Int32)) dL_law_234 (by decide) ?_
    refine x_iadd dL_law_235 ?_
    obtain ⟨v25, ev25, h⟩ := x_bd h
    refine x_sld dL_law_236 ev25 ?_
    obtain ⟨u26, eu26, h⟩ := x_bd h
    obtain ⟨p27, ep27, h⟩ := x_bd h
    refine x_callVI [.int v24, .int v25] [] clX8 me_X8_length w_ml_RL_22 w_im_yX8_length w_se_yX8_length (Nat.le_of_ble_eq_true rfl) (Nat.le_of_ble_eq_true rfl) rfl (Nat.le_of_ble_eq_true rfl) (Nat.le_of_ble_eq_true rfl) (Nat.le_of_ble_eq_true rfl) dL_law_237 eu26 (c_X8_length l D aC bs (sz + 128) F ep27) rfl ?_
    refine x_aload_n dL_law_240 2 rfl ?_
    refine x_aload_n dL_law_241 0 rfl ?_
    refine x_iload_n dL_law_242 3 rfl ?_
    refine x_iconst (v := (1 : Int32)) dL_law_243 (by decide) ?_
    refine x_iadd dL_law_244 ?_
    obtain ⟨v28, ev28, h⟩ := x_bd h
    refine x_sld dL_law_245 ev28 ?_
    refine x_aload_n dL_law_246 0 rfl ?_
    refine x_iload_n dL_law_247 3 rfl ?_
    refine x_iconst (v := (2 : Int32)) dL_law_248 (by decide) ?_
    refine x_iadd dL_law_249 ?_
    obtain ⟨v29, ev29, h⟩ := x_bd h
    refine x_sld dL_law_250 ev29 ?_
    obtain ⟨u30, eu30, h⟩ := x_bd h
    obtain ⟨p31, ep31, h⟩ := x_bd h
    refine x_callVI [.int v28, .int v29] [.int p27.1] clX9 me_X9_length w_ml_RL_26 w_im_yX9_length w_se_yX9_length (Nat.le_of_ble_eq_true rfl) (Nat.le_of_ble_eq_true rfl) rfl (Nat.le_of_ble_eq_true rfl) (Nat.le_of_ble_eq_true rfl) (Nat.le_of_ble_eq_true rfl) dL_law_251 eu30 (c_X9_length l D aC bs (sz + 128) ep31) rfl ?_
    refine x_icmp_eq 1102 dL_law_254 (by decide) (fun c32 => ?_) (fun c32 => ?_)
    · have h := (if_pos c32).symm.trans h
      refine x_iinc (6 : Int32) 3 [(3, .int (q.1 + (6 : Int32))), (0, .ref b), (1, .ref a1), (2, .ref a2)] dL_law_1102 rfl (by decide) (by decide) rfl ?_
      refine x_goto 18 dL_law_1105 (by decide) ?_
      exact x_sub [1, 2, 3, 0] rfl (hk18 _ _ _ h)
    have h := (if_neg c32).symm.trans h
    refine x_iconst (v := (0 : Int32)) dL_law_257 (by decide) ?_
    exact absurd h (fun h9 => by cases h9)
  have h := (if_neg c23).symm.trans h
  by_cases c33 : (v6 &&& (63 : Int32)) = (3 : Int32)
  · have h := (if_pos c33).symm.trans h
    refine x_tabIn 3 259 dL_law_33 (by rw [c33]; decide) (by decide) (by decide) rfl (by decide) ?_
    refine x_aload_n dL_law_259 1 rfl ?_
    refine x_aload_n dL_law_260 0 rfl ?_
    refine x_iload_n dL_law_261 3 rfl ?_
    refine x_iconst (v := (1 : Int32)) dL_law_262 (by decide) ?_
    refine x_iadd dL_law_263 ?_
    obtain ⟨v34, ev34, h⟩ := x_bd h
    refine x_sld dL_law_264 ev34 ?_
    refine x_aload_n dL_law_265 0 rfl ?_
    refine x_iload_n dL_law_266 3 rfl ?_
    refine x_iconst (v := (2 : Int32)) dL_law_267 (by decide) ?_
    refine x_iadd dL_law_268 ?_
    obtain ⟨v35, ev35, h⟩ := x_bd h
    refine x_sld dL_law_269 ev35 ?_
    obtain ⟨u36, eu36, h⟩ := x_bd h
    obtain ⟨p37, ep37, h⟩ := x_bd h
    refine x_callVI [.int v34, .int v35] [] clX8 me_X8_swap w_ml_RL_27 w_im_yX8_swap w_se_yX8_swap (Nat.le_of_ble_eq_true rfl) (Nat.le_of_ble_eq_true rfl) rfl (Nat.le_of_ble_eq_true rfl) (Nat.le_of_ble_eq_true rfl) (Nat.le_of_ble_eq_true rfl) dL_law_270 eu36 (c_X8_swap l D aC bs (sz + 128) F ep37) rfl ?_
    refine x_aload_n dL_law_273 2 rfl ?_
    refine x_aload_n dL_law_274 0 rfl ?_
    refine x_iload_n dL_law_275 3 rfl ?_
    refine x_iconst (v := (1 : Int32)) dL_law_276 (by decide) ?_
    refine x_iadd dL_law_277 ?_
    obtain ⟨v38, ev38, h⟩ := x_bd h
    refine x_sld dL_law_278 ev38 ?_
    refine x_aload_n dL_law_279 0 rfl ?_
    refine x_iload_n dL_law_280 3 rfl ?_
    refine x_iconst (v := (2 : Int32)) dL_law_281 (by decide) ?_
    refine x_iadd dL_law_282 ?_
    obtain ⟨v39, ev39, h⟩ := x_bd h
    refine x_sld dL_law_283 ev39 ?_
    obtain ⟨u40, eu40, h⟩ := x_bd h
    obtain ⟨p41, ep41, h⟩ := x_bd h
    refine x_callVI [.int v38, .int v39] [.int p37.1] clX9 me_X9_swap w_ml_RL_30 w_im_yX9_swap w_se_yX9_swap (Nat.le_of_ble_eq_true rfl) (Nat.le_of_ble_eq_true rfl) rfl (Nat.le_of_ble_eq_true rfl) (Nat.le_of_ble_eq_true rfl) (Nat.le_of_ble_eq_true rfl) dL_law_284 eu40 (c_X9_swap l D aC bs (sz + 128) F ep41) rfl ?_
    refine x_icmp_eq 1102 dL_law_287 (by decide) (fun c42 => ?_) (fun c42 => ?_)
    · have h := (if_pos c42).symm.trans h
      refine x_iinc (6 : Int32) 3 [(3, .int (q.1 + (6 : Int32))), (0, .ref b), (1, .ref a1), (2, .ref a2)] dL_law_1102 rfl (by decide) (by decide) rfl ?_
      refine x_goto 18 dL_law_1105 (by decide) ?_
      exact x_sub [1, 2, 3, 0] rfl (hk18 _ _ _ h)
    have h := (if_neg c42).symm.trans h
    refine x_iconst (v := (0 : Int32)) dL_law_290 (by decide) ?_
    exact absurd h (fun h9 => by cases h9)
  have h := (if_neg c33).symm.trans h
  by_cases c43 : (v6 &&& (63 : Int32)) = (4 : Int32)
  · have h := (if_pos c43).symm.trans h
    refine x_tabIn 4 292 dL_law_33 (by rw [c43]; decide) (by decide) (by decide) rfl (by decide) ?_
    refine x_aload_n dL_law_292 1 rfl ?_
    obtain ⟨u44, eu44, h⟩ := x_bd h
    obtain ⟨p45, ep45, h⟩ := x_bd h
    refine x_callVI [] [] clX8 me_X8_step w_ml_RL_31 w_im_yX8_step w_se_yX8_step (Nat.le_of_ble_eq_true rfl) (Nat.le_of_ble_eq_true rfl) rfl (Nat.le_of_ble_eq_true rfl) (Nat.le_of_ble_eq_true rfl) (Nat.le_of_ble_eq_true rfl) dL_law_293 eu44 (c_X8_step l D aC bs (sz + 128) F ep45) rfl ?_
    refine x_aload_n dL_law_296 2 rfl ?_
    obtain ⟨u46, eu46, h⟩ := x_bd h
    obtain ⟨p47, ep47, h⟩ := x_bd h
    refine x_callVI [] [.int p45.1] clX9 me_X9_step w_ml_RL_35 w_im_yX9_step w_se_yX9_step (Nat.le_of_ble_eq_true rfl) (Nat.le_of_ble_eq_true rfl) rfl (Nat.le_of_ble_eq_true rfl) (Nat.le_of_ble_eq_true rfl) (Nat.le_of_ble_eq_true rfl) dL_law_297 eu46 (c_X9_step l D aC bs (sz + 128) F ep47) rfl ?_
    refine x_icmp_eq 1102 dL_law_300 (by decide) (fun c48 => ?_) (fun c48 => ?_)
    · have h := (if_pos c48).symm.trans h
      refine x_iinc (6 : Int32) 3 [(3, .int (q.1 + (6 : Int32))), (0, .ref b), (1, .ref a1), (2, .ref a2)] dL_law_1102 rfl (by decide) (by decide) rfl ?_
      refine x_goto 18 dL_law_1105 (by decide) ?_
      exact x_sub [1, 2, 3, 0] rfl (hk18 _ _ _ h)
    have h := (if_neg c48).symm.trans h
    refine x_iconst (v := (0 : Int32)) dL_law_303 (by decide) ?_
    exact absurd h (fun h9 => by cases h9)
  have h := (if_neg c43).symm.trans h
  by_cases c49 : (v6 &&& (63 : Int32)) = (5 : Int32)
  · have h := (if_pos c49).symm.trans h
    refine x_tabIn 5 305 dL_law_33 (by rw [c49]; decide) (by decide) (by decide) rfl (by decide) ?_
    refine x_aload_n dL_law_305 1 rfl ?_
    refine x_aload_n dL_law_306 0 rfl ?_
    refine x_iload_n dL_law_307 3 rfl ?_
    refine x_iconst (v := (1 : Int32)) dL_law_308 (by decide) ?_
    refine x_iadd dL_law_309 ?_
    obtain ⟨v50, ev50, h⟩ := x_bd h
    refine x_sld dL_law_310 ev50 ?_
    obtain ⟨u51, eu51, h⟩ := x_bd h
    obtain ⟨p52, ep52, h⟩ := x_bd h
    refine x_callVI [.int v50] [] clX8 me_X8_back w_ml_RL_36 w_im_yX8_back w_se_yX8_back (Nat.le_of_ble_eq_true rfl) (Nat.le_of_ble_eq_true rfl) rfl (Nat.le_of_ble_eq_true rfl) (Nat.le_of_ble_eq_true rfl) (Nat.le_of_ble_eq_true rfl) dL_law_311 eu51 (c_X8_back l D aC bs (sz + 128) F ep52) rfl ?_
    refine x_aload_n dL_law_314 2 rfl ?_
    refine x_aload_n dL_law_315 0 rfl ?_
    refine x_iload_n dL_law_316 3 rfl ?_
    refine x_iconst (v := (1 : Int32)) dL_law_317 (by decide) ?_
    refine x_iadd dL_law_318 ?_
    obtain ⟨v53, ev53, h⟩ := x_bd h
    refine x_sld dL_law_319 ev53 ?_
    obtain ⟨u54, eu54, h⟩ := x_bd h
    obtain ⟨p55, ep55, h⟩ := x_bd h
    refine x_callVI [.int v53] [.int p52.1] clX9 me_X9_back w_ml_RL_39 w_im_yX9_back w_se_yX9_back (Nat.le_of_ble_eq_true rfl) (Nat.le_of_ble_eq_true rfl) rfl (Nat.le_of_ble_eq_true rfl) (Nat.le_of_ble_eq_true rfl) (Nat.le_of_ble_eq_true rfl) dL_law_320 eu54 (c_X9_back l D aC bs (sz + 128) F ep55) rfl ?_
    refine x_icmp_eq 1102 dL_law_323 (by decide) (fun c56 => ?_) (fun c56 => ?_)
    · have h := (if_pos c56).symm.trans h
      refine x_iinc (6 : Int32) 3 [(3, .int (q.1 + (6 : Int32))), (0, .ref b), (1, .ref a1), (2, .ref a2)] dL_law_1102 rfl (by decide) (by decide) rfl ?_
      refine x_goto 18 dL_law_1105 (by decide) ?_
      exact x_sub [1, 2, 3, 0] rfl (hk18 _ _ _ h)
    have h := (if_neg c56).symm.trans h
    refine x_iconst (v := (0 : Int32)) dL_law_326 (by decide) ?_
    exact absurd h (fun h9 => by cases h9)
  have h := (if_neg c49).symm.trans h
  by_cases c57 : (v6 &&& (63 : Int32)) = (6 : Int32)
  · have h := (if_pos c57).symm.trans h
    refine x_tabIn 6 328 dL_law_33 (by rw [c57]; decide) (by decide) (by decide) rfl (by decide) ?_
    refine x_aload_n dL_law_328 1 rfl ?_
    obtain ⟨u58, eu58, h⟩ := x_bd h
    obtain ⟨p59, ep59, h⟩ := x_bd h
    refine x_callVI [] [] clX8 me_X8_takeBack w_ml_RL_40 w_im_yX8_takeBack w_se_yX8_takeBack (Nat.le_of_ble_eq_true rfl) (Nat.le_of_ble_eq_true rfl) rfl (Nat.le_of_ble_eq_true rfl) (Nat.le_of_ble_eq_true rfl) (Nat.le_of_ble_eq_true rfl) dL_law_329 eu58 (c_X8_takeBack l D aC bs (sz + 128) F ep59) rfl ?_
    refine x_aload_n dL_law_332 2 rfl ?_
    obtain ⟨u60, eu60, h⟩ := x_bd h
    obtain ⟨p61, ep61, h⟩ := x_bd h
    refine x_callVI [] [.int p59.1] clX9 me_X9_takeBack w_ml_RL_43 w_im_yX9_takeBack w_se_yX9_takeBack (Nat.le_of_ble_eq_true rfl) (Nat.le_of_ble_eq_true rfl) rfl (Nat.le_of_ble_eq_true rfl) (Nat.le_of_ble_eq_true rfl) (Nat.le_of_ble_eq_true rfl) dL_law_333 eu60 (c_X9_takeBack l D aC bs (sz + 128) ep61) rfl ?_
    refine x_icmp_eq 1102 dL_law_336 (by decide) (fun c62 => ?_) (fun c62 => ?_)
    · have h := (if_pos c62).symm.trans h
      refine x_iinc (6 : Int32) 3 [(3, .int (q.1 + (6 : Int32))), (0, .ref b), (1, .ref a1), (2, .ref a2)] dL_law_1102 rfl (by decide) (by decide) rfl ?_
      refine x_goto 18 dL_law_1105 (by decide) ?_
      exact x_sub [1, 2, 3, 0] rfl (hk18 _ _ _ h)
    have h := (if_neg c62).symm.trans h
    refine x_iconst (v := (0 : Int32)) dL_law_339 (by decide) ?_
    exact absurd h (fun h9 => by cases h9)
  have h := (if_neg c57).symm.trans h
  by_cases c63 : (v6 &&& (63 : Int32)) = (7 : Int32)
  · have h := (if_pos c63).symm.trans h
    refine x_tabIn 7 341 dL_law_33 (by rw [c63]; decide) (by decide) (by decide) rfl (by decide) ?_
    refine x_aload_n dL_law_341 1 rfl ?_
    obtain ⟨u64, eu64, h⟩ := x_bd h
    obtain ⟨p65, ep65, h⟩ := x_bd h
    refine x_callVI [] [] clX8 me_X8_keep w_ml_RL_44 w_im_yX8_keep w_se_yX8_keep (Nat.le_of_ble_eq_true rfl) (Nat.le_of_ble_eq_true rfl) rfl (Nat.le_of_ble_eq_true rfl) (Nat.le_of_ble_eq_true rfl) (Nat.le_of_ble_eq_true rfl) dL_law_342 eu64 (c_X8_keep l D aC bs (sz + 128) F ep65) rfl ?_
    refine x_aload_n dL_law_345 2 rfl ?_
    obtain ⟨u66, eu66, h⟩ := x_bd h
    obtain ⟨p67, ep67, h⟩ := x_bd h
    refine x_callVI [] [.int p65.1] clX9 me_X9_keep w_ml_RL_47 w_im_yX9_keep w_se_yX9_keep (Nat.le_of_ble_eq_true rfl) (Nat.le_of_ble_eq_true rfl) rfl (Nat.le_of_ble_eq_true rfl) (Nat.le_of_ble_eq_true rfl) (Nat.le_of_ble_eq_true rfl) dL_law_346 eu66 (c_X9_keep l D aC bs (sz + 128) F ep67) rfl ?_
    refine x_icmp_eq 1102 dL_law_349 (by decide) (fun c68 => ?_) (fun c68 => ?_)
    · have h := (if_pos c68).symm.trans h
      refine x_iinc (6 : Int32) 3 [(3, .int (q.1 + (6 : Int32))), (0, .ref b), (1, .ref a1), (2, .ref a2)] dL_law_1102 rfl (by decide) (by decide) rfl ?_
      refine x_goto 18 dL_law_1105 (by decide) ?_
      exact x_sub [1, 2, 3, 0] rfl (hk18 _ _ _ h)
    have h := (if_neg c68).symm.trans h
    refine x_iconst (v := (0 : Int32)) dL_law_352 (by decide) ?_
    exact absurd h (fun h9 => by cases h9)
  have h := (if_neg c63).symm.trans h
  by_cases c69 : (v6 &&& (63 : Int32)) = (8 : Int32)
  · have h := (if_pos c69).symm.trans h
    refine x_tabIn 8 354 dL_law_33 (by rw [c69]; decide) (by decide) (by decide) rfl (by decide) ?_
    refine x_aload_n dL_law_354 1 rfl ?_
    refine x_aload_n dL_law_355 0 rfl ?_
    refine x_iload_n dL_law_356 3 rfl ?_
    refine x_iconst (v := (1 : Int32)) dL_law_357 (by decide) ?_
    refine x_iadd dL_law_358 ?_
    obtain ⟨v70, ev70, h⟩ := x_bd h
    refine x_sld dL_law_359 ev70 ?_
    obtain ⟨u71, eu71, h⟩ := x_bd h
    obtain ⟨p72, ep72, h⟩ := x_bd h
    refine x_callVI [.int v70] [] clX8 me_X8_feed w_ml_RL_48 w_im_yX8_feed w_se_yX8_feed (Nat.le_of_ble_eq_true rfl) (Nat.le_of_ble_eq_true rfl) rfl (Nat.le_of_ble_eq_true rfl) (Nat.le_of_ble_eq_true rfl) (Nat.le_of_ble_eq_true rfl) dL_law_360 eu71 (c_X8_feed l D aC bs (sz + 128) ep72) rfl ?_
    refine x_aload_n dL_law_363 2 rfl ?_
    refine x_aload_n dL_law_364 0 rfl ?_
    refine x_iload_n dL_law_365 3 rfl ?_
    refine x_iconst (v := (1 : Int32)) dL_law_366 (by decide) ?_
    refine x_iadd dL_law_367 ?_
    obtain ⟨v73, ev73, h⟩ := x_bd h
    refine x_sld dL_law_368 ev73 ?_
    obtain ⟨u74, eu74, h⟩ := x_bd h
    obtain ⟨p75, ep75, h⟩ := x_bd h
    refine x_callVI [.int v73] [.int p72.1] clX9 me_X9_feed w_ml_RL_51 w_im_yX9_feed w_se_yX9_feed (Nat.le_of_ble_eq_true rfl) (Nat.le_of_ble_eq_true rfl) rfl (Nat.le_of_ble_eq_true rfl) (Nat.le_of_ble_eq_true rfl) (Nat.le_of_ble_eq_true rfl) dL_law_369 eu74 (c_X9_feed l D aC bs (sz + 128) ep75) rfl ?_
    refine x_icmp_eq 1102 dL_law_372 (by decide) (fun c76 => ?_) (fun c76 => ?_)
    · have h := (if_pos c76).symm.trans h
      refine x_iinc (6 : Int32) 3 [(3, .int (q.1 + (6 : Int32))), (0, .ref b), (1, .ref a1), (2, .ref a2)] dL_law_1102 rfl (by decide) (by decide) rfl ?_
      refine x_goto 18 dL_law_1105 (by decide) ?_
      exact x_sub [1, 2, 3, 0] rfl (hk18 _ _ _ h)
    have h := (if_neg c76).symm.trans h
    refine x_iconst (v := (0 : Int32)) dL_law_375 (by decide) ?_
    exact absurd h (fun h9 => by cases h9)
  have h := (if_neg c69).symm.trans h
  by_cases c77 : (v6 &&& (63 : Int32)) = (9 : Int32)
  · have h := (if_pos c77).symm.trans h
    refine x_tabIn 9 377 dL_law_33 (by rw [c77]; decide) (by decide) (by decide) rfl (by decide) ?_
    refine x_aload_n dL_law_377 1 rfl ?_
    obtain ⟨u78, eu78, h⟩ := x_bd h
    obtain ⟨p79, ep79, h⟩ := x_bd h
    refine x_callVI [] [] clX8 me_X8_read w_ml_RL_52 w_im_yX8_read w_se_yX8_read (Nat.le_of_ble_eq_true rfl) (Nat.le_of_ble_eq_true rfl) rfl (Nat.le_of_ble_eq_true rfl) (Nat.le_of_ble_eq_true rfl) (Nat.le_of_ble_eq_true rfl) dL_law_378 eu78 (c_X8_read l D aC bs (sz + 128) F ep79) rfl ?_
    refine x_aload_n dL_law_381 2 rfl ?_
    obtain ⟨u80, eu80, h⟩ := x_bd h
    obtain ⟨p81, ep81, h⟩ := x_bd h
    refine x_callVI [] [.int p79.1] clX9 me_X9_read w_ml_RL_55 w_im_yX9_read w_se_yX9_read (Nat.le_of_ble_eq_true rfl) (Nat.le_of_ble_eq_true rfl) rfl (Nat.le_of_ble_eq_true rfl) (Nat.le_of_ble_eq_true rfl) (Nat.le_of_ble_eq_true rfl) dL_law_382 eu80 (c_X9_read l D aC bs (sz + 128) F ep81) rfl ?_
    refine x_icmp_eq 1102 dL_law_385 (by decide) (fun c82 => ?_) (fun c82 => ?_)
    · have h := (if_pos c82).symm.trans h
      refine x_iinc (6 : Int32) 3 [(3, .int (q.1 + (6 : Int32))), (0, .ref b), (1, .ref a1), (2, .ref a2)] dL_law_1102 rfl (by decide) (by decide) rfl ?_
      refine x_goto 18 dL_law_1105 (by decide) ?_
      exact x_sub [1, 2, 3, 0] rfl (hk18 _ _ _ h)
    have h := (if_neg c82).symm.trans h
    refine x_iconst (v := (0 : Int32)) dL_law_388 (by decide) ?_
    exact absurd h (fun h9 => by cases h9)
  have h := (if_neg c77).symm.trans h
  by_cases c83 : (v6 &&& (63 : Int32)) = (10 : Int32)
  · have h := (if_pos c83).symm.trans h
    refine x_tabIn 10 390 dL_law_33 (by rw [c83]; decide) (by decide) (by decide) rfl (by decide) ?_
    refine x_aload_n dL_law_390 1 rfl ?_
    refine x_aload_n dL_law_391 0 rfl ?_
    refine x_iload_n dL_law_392 3 rfl ?_
    refine x_iconst (v := (1 : Int32)) dL_law_393 (by decide) ?_
    refine x_iadd dL_law_394 ?_
    obtain ⟨v84, ev84, h⟩ := x_bd h
    refine x_sld dL_law_395 ev84 ?_
    refine x_aload_n dL_law_396 0 rfl ?_
    refine x_iload_n dL_law_397 3 rfl ?_
    refine x_iconst (v := (2 : Int32)) dL_law_398 (by decide) ?_
    refine x_iadd dL_law_399 ?_
    obtain ⟨v85, ev85, h⟩ := x_bd h
    refine x_sld dL_law_400 ev85 ?_
    obtain ⟨u86, eu86, h⟩ := x_bd h
    obtain ⟨p87, ep87, h⟩ := x_bd h
    refine x_callVI [.int v84, .int v85] [] clX8 me_X8_of w_ml_RL_56 w_im_yX8_of w_se_yX8_of (Nat.le_of_ble_eq_true rfl) (Nat.le_of_ble_eq_true rfl) rfl (Nat.le_of_ble_eq_true rfl) (Nat.le_of_ble_eq_true rfl) (Nat.le_of_ble_eq_true rfl) dL_law_401 eu86 (c_X8_of l D aC bs (sz + 128) ep87) rfl ?_
    refine x_aload_n dL_law_404 2 rfl ?_
    refine x_aload_n dL_law_405 0 rfl ?_
    refine x_iload_n dL_law_406 3 rfl ?_
    refine x_iconst (v := (1 : Int32)) dL_law_407 (by decide) ?_
    refine x_iadd dL_law_408 ?_
    obtain ⟨v88, ev88, h⟩ := x_bd h
    refine x_sld dL_law_409 ev88 ?_
    refine x_aload_n dL_law_410 0 rfl ?_
    refine x_iload_n dL_law_411 3 rfl ?_
    refine x_iconst (v := (2 : Int32)) dL_law_412 (by decide) ?_
    refine x_iadd dL_law_413 ?_
    obtain ⟨v89, ev89, h⟩ := x_bd h
    refine x_sld dL_law_414 ev89 ?_
    obtain ⟨u90, eu90, h⟩ := x_bd h
    obtain ⟨p91, ep91, h⟩ := x_bd h
    refine x_callVI [.int v88, .int v89] [.int p87] clX9 me_X9_of w_ml_RL_59 w_im_yX9_of w_se_yX9_of (Nat.le_of_ble_eq_true rfl) (Nat.le_of_ble_eq_true rfl) rfl (Nat.le_of_ble_eq_true rfl) (Nat.le_of_ble_eq_true rfl) (Nat.le_of_ble_eq_true rfl) dL_law_415 eu90 (c_X9_of l D aC bs (sz + 128) ep91) rfl ?_
    refine x_icmp_eq 1102 dL_law_418 (by decide) (fun c92 => ?_) (fun c92 => ?_)
    · have h := (if_pos c92).symm.trans h
      refine x_iinc (6 : Int32) 3 [(3, .int (q.1 + (6 : Int32))), (0, .ref b), (1, .ref a1), (2, .ref a2)] dL_law_1102 rfl (by decide) (by decide) rfl ?_
      refine x_goto 18 dL_law_1105 (by decide) ?_
      exact x_sub [1, 2, 3, 0] rfl (hk18 _ _ _ h)
    have h := (if_neg c92).symm.trans h
    refine x_iconst (v := (0 : Int32)) dL_law_421 (by decide) ?_
    exact absurd h (fun h9 => by cases h9)
  have h := (if_neg c83).symm.trans h
  by_cases c93 : (v6 &&& (63 : Int32)) = (11 : Int32)
  · have h := (if_pos c93).symm.trans h
    refine x_tabIn 11 423 dL_law_33 (by rw [c93]; decide) (by decide) (by decide) rfl (by decide) ?_
    refine x_aload_n dL_law_423 1 rfl ?_
    refine x_aload_n dL_law_424 0 rfl ?_
    refine x_iload_n dL_law_425 3 rfl ?_
    refine x_iconst (v := (1 : Int32)) dL_law_426 (by decide) ?_
    refine x_iadd dL_law_427 ?_
    obtain ⟨v94, ev94, h⟩ := x_bd h
    refine x_sld dL_law_428 ev94 ?_
    obtain ⟨u95, eu95, h⟩ := x_bd h
    obtain ⟨p96, ep96, h⟩ := x_bd h
    refine x_callVI [.int v94] [] clX8 me_X8_told w_ml_RL_60 w_im_yX8_told w_se_yX8_told (Nat.le_of_ble_eq_true rfl) (Nat.le_of_ble_eq_true rfl) rfl (Nat.le_of_ble_eq_true rfl) (Nat.le_of_ble_eq_true rfl) (Nat.le_of_ble_eq_true rfl) dL_law_429 eu95 (c_X8_told l D aC bs (sz + 128) F ep96) rfl ?_
    refine x_aload_n dL_law_432 2 rfl ?_
    refine x_aload_n dL_law_433 0 rfl ?_
    refine x_iload_n dL_law_434 3 rfl ?_
    refine x_iconst (v := (1 : Int32)) dL_law_435 (by decide) ?_
    refine x_iadd dL_law_436 ?_
    obtain ⟨v97, ev97, h⟩ := x_bd h
    refine x_sld dL_law_437 ev97 ?_
    obtain ⟨u98, eu98, h⟩ := x_bd h
    obtain ⟨p99, ep99, h⟩ := x_bd h
    refine x_callVI [.int v97] [.int p96.1] clX9 me_X9_told w_ml_RL_63 w_im_yX9_told w_se_yX9_told (Nat.le_of_ble_eq_true rfl) (Nat.le_of_ble_eq_true rfl) rfl (Nat.le_of_ble_eq_true rfl) (Nat.le_of_ble_eq_true rfl) (Nat.le_of_ble_eq_true rfl) dL_law_438 eu98 (c_X9_told l D aC bs (sz + 128) F ep99) rfl ?_
    refine x_icmp_eq 1102 dL_law_441 (by decide) (fun c100 => ?_) (fun c100 => ?_)
    · have h := (if_pos c100).symm.trans h
      refine x_iinc (6 : Int32) 3 [(3, .int (q.1 + (6 : Int32))), (0, .ref b), (1, .ref a1), (2, .ref a2)] dL_law_1102 rfl (by decide) (by decide) rfl ?_
      refine x_goto 18 dL_law_1105 (by decide) ?_
      exact x_sub [1, 2, 3, 0] rfl (hk18 _ _ _ h)
    have h := (if_neg c100).symm.trans h
    refine x_iconst (v := (0 : Int32)) dL_law_444 (by decide) ?_
    exact absurd h (fun h9 => by cases h9)
  have h := (if_neg c93).symm.trans h
  by_cases c101 : (v6 &&& (63 : Int32)) = (12 : Int32)
  · have h := (if_pos c101).symm.trans h
    refine x_tabIn 12 446 dL_law_33 (by rw [c101]; decide) (by decide) (by decide) rfl (by decide) ?_
    refine x_aload_n dL_law_446 1 rfl ?_
    refine x_aload_n dL_law_447 0 rfl ?_
    refine x_iload_n dL_law_448 3 rfl ?_
    refine x_iconst (v := (1 : Int32)) dL_law_449 (by decide) ?_
    refine x_iadd dL_law_450 ?_
    obtain ⟨v102, ev102, h⟩ := x_bd h
    refine x_sld dL_law_451 ev102 ?_
    refine x_aload_n dL_law_452 0 rfl ?_
    refine x_iload_n dL_law_453 3 rfl ?_
    refine x_iconst (v := (2 : Int32)) dL_law_454 (by decide) ?_
    refine x_iadd dL_law_455 ?_
    obtain ⟨v103, ev103, h⟩ := x_bd h
    refine x_sld dL_law_456 ev103 ?_
    obtain ⟨u104, eu104, h⟩ := x_bd h
    obtain ⟨p105, ep105, h⟩ := x_bd h
    refine x_callVI [.int v102, .int v103] [] clX8 me_X8_point w_ml_RL_64 w_im_yX8_point w_se_yX8_point (Nat.le_of_ble_eq_true rfl) (Nat.le_of_ble_eq_true rfl) rfl (Nat.le_of_ble_eq_true rfl) (Nat.le_of_ble_eq_true rfl) (Nat.le_of_ble_eq_true rfl) dL_law_457 eu104 (c_X8_point l D aC bs (sz + 128) F ep105) rfl ?_
    refine x_aload_n dL_law_460 2 rfl ?_
    refine x_aload_n dL_law_461 0 rfl ?_
    refine x_iload_n dL_law_462 3 rfl ?_
    refine x_iconst (v := (1 : Int32)) dL_law_463 (by decide) ?_
    refine x_iadd dL_law_464 ?_
    obtain ⟨v106, ev106, h⟩ := x_bd h
    refine x_sld dL_law_465 ev106 ?_
    refine x_aload_n dL_law_466 0 rfl ?_
    refine x_iload_n dL_law_467 3 rfl ?_
    refine x_iconst (v := (2 : Int32)) dL_law_468 (by decide) ?_
    refine x_iadd dL_law_469 ?_
    obtain ⟨v107, ev107, h⟩ := x_bd h
    refine x_sld dL_law_470 ev107 ?_
    obtain ⟨u108, eu108, h⟩ := x_bd h
    obtain ⟨p109, ep109, h⟩ := x_bd h
    refine x_callVI [.int v106, .int v107] [.int p105.1] clX9 me_X9_point w_ml_RL_67 w_im_yX9_point w_se_yX9_point (Nat.le_of_ble_eq_true rfl) (Nat.le_of_ble_eq_true rfl) rfl (Nat.le_of_ble_eq_true rfl) (Nat.le_of_ble_eq_true rfl) (Nat.le_of_ble_eq_true rfl) dL_law_471 eu108 (c_X9_point l D aC bs (sz + 128) F ep109) rfl ?_
    refine x_icmp_eq 1102 dL_law_474 (by decide) (fun c110 => ?_) (fun c110 => ?_)
    · have h := (if_pos c110).symm.trans h
      refine x_iinc (6 : Int32) 3 [(3, .int (q.1 + (6 : Int32))), (0, .ref b), (1, .ref a1), (2, .ref a2)] dL_law_1102 rfl (by decide) (by decide) rfl ?_
      refine x_goto 18 dL_law_1105 (by decide) ?_
      exact x_sub [1, 2, 3, 0] rfl (hk18 _ _ _ h)
    have h := (if_neg c110).symm.trans h
    refine x_iconst (v := (0 : Int32)) dL_law_477 (by decide) ?_
    exact absurd h (fun h9 => by cases h9)
  have h := (if_neg c101).symm.trans h
  by_cases c111 : (v6 &&& (63 : Int32)) = (13 : Int32)
  · have h := (if_pos c111).symm.trans h
    refine x_tabIn 13 479 dL_law_33 (by rw [c111]; decide) (by decide) (by decide) rfl (by decide) ?_
    refine x_aload_n dL_law_479 1 rfl ?_
    refine x_aload_n dL_law_480 0 rfl ?_
    refine x_iload_n dL_law_481 3 rfl ?_
    refine x_iconst (v := (1 : Int32)) dL_law_482 (by decide) ?_
    refine x_iadd dL_law_483 ?_
    obtain ⟨v112, ev112, h⟩ := x_bd h
    refine x_sld dL_law_484 ev112 ?_
    refine x_aload_n dL_law_485 0 rfl ?_
    refine x_iload_n dL_law_486 3 rfl ?_
    refine x_iconst (v := (2 : Int32)) dL_law_487 (by decide) ?_
    refine x_iadd dL_law_488 ?_
    obtain ⟨v113, ev113, h⟩ := x_bd h
    refine x_sld dL_law_489 ev113 ?_
    obtain ⟨u114, eu114, h⟩ := x_bd h
    obtain ⟨p115, ep115, h⟩ := x_bd h
    refine x_callVI [.int v112, .int v113] [] clX8 me_X8_gone w_ml_RL_68 w_im_yX8_gone w_se_yX8_gone (Nat.le_of_ble_eq_true rfl) (Nat.le_of_ble_eq_true rfl) rfl (Nat.le_of_ble_eq_true rfl) (Nat.le_of_ble_eq_true rfl) (Nat.le_of_ble_eq_true rfl) dL_law_490 eu114 (c_X8_gone l D aC bs (sz + 128) F ep115) rfl ?_
    refine x_aload_n dL_law_493 2 rfl ?_
    refine x_aload_n dL_law_494 0 rfl ?_
    refine x_iload_n dL_law_495 3 rfl ?_
    refine x_iconst (v := (1 : Int32)) dL_law_496 (by decide) ?_
    refine x_iadd dL_law_497 ?_
    obtain ⟨v116, ev116, h⟩ := x_bd h
    refine x_sld dL_law_498 ev116 ?_
    refine x_aload_n dL_law_499 0 rfl ?_
    refine x_iload_n dL_law_500 3 rfl ?_
    refine x_iconst (v := (2 : Int32)) dL_law_501 (by decide) ?_
    refine x_iadd dL_law_502 ?_
    obtain ⟨v117, ev117, h⟩ := x_bd h
    refine x_sld dL_law_503 ev117 ?_
    obtain ⟨u118, eu118, h⟩ := x_bd h
    obtain ⟨p119, ep119, h⟩ := x_bd h
    refine x_callVI [.int v116, .int v117] [.int p115.1] clX9 me_X9_gone w_ml_RL_71 w_im_yX9_gone w_se_yX9_gone (Nat.le_of_ble_eq_true rfl) (Nat.le_of_ble_eq_true rfl) rfl (Nat.le_of_ble_eq_true rfl) (Nat.le_of_ble_eq_true rfl) (Nat.le_of_ble_eq_true rfl) dL_law_504 eu118 (c_X9_gone l D aC bs (sz + 128) F ep119) rfl ?_
    refine x_icmp_eq 1102 dL_law_507 (by decide) (fun c120 => ?_) (fun c120 => ?_)
    · have h := (if_pos c120).symm.trans h
      refine x_iinc (6 : Int32) 3 [(3, .int (q.1 + (6 : Int32))), (0, .ref b), (1, .ref a1), (2, .ref a2)] dL_law_1102 rfl (by decide) (by decide) rfl ?_
      refine x_goto 18 dL_law_1105 (by decide) ?_
      exact x_sub [1, 2, 3, 0] rfl (hk18 _ _ _ h)
    have h := (if_neg c120).symm.trans h
    refine x_iconst (v := (0 : Int32)) dL_law_510 (by decide) ?_
    exact absurd h (fun h9 => by cases h9)
  have h := (if_neg c111).symm.trans h
  by_cases c121 : (v6 &&& (63 : Int32)) = (14 : Int32)
  · have h := (if_pos c121).symm.trans h
    refine x_tabIn 14 512 dL_law_33 (by rw [c121]; decide) (by decide) (by decide) rfl (by decide) ?_
    refine x_aload_n dL_law_512 1 rfl ?_
    refine x_aload_n dL_law_513 0 rfl ?_
    refine x_iload_n dL_law_514 3 rfl ?_
    refine x_iconst (v := (1 : Int32)) dL_law_515 (by decide) ?_
    refine x_iadd dL_law_516 ?_
    obtain ⟨v122, ev122, h⟩ := x_bd h
    refine x_sld dL_law_517 ev122 ?_
    obtain ⟨u123, eu123, h⟩ := x_bd h
    obtain ⟨p124, ep124, h⟩ := x_bd h
    refine x_callVI [.int v122] [] clX8 me_X8_code w_ml_RL_72 w_im_yX8_code w_se_yX8_code (Nat.le_of_ble_eq_true rfl) (Nat.le_of_ble_eq_true rfl) rfl (Nat.le_of_ble_eq_true rfl) (Nat.le_of_ble_eq_true rfl) (Nat.le_of_ble_eq_true rfl) dL_law_518 eu123 (c_X8_code l D aC bs (sz + 128) F ep124) rfl ?_
    refine x_aload_n dL_law_521 2 rfl ?_
    refine x_aload_n dL_law_522 0 rfl ?_
    refine x_iload_n dL_law_523 3 rfl ?_
    refine x_iconst (v := (1 : Int32)) dL_law_524 (by decide) ?_
    refine x_iadd dL_law_525 ?_
    obtain ⟨v125, ev125, h⟩ := x_bd h
    refine x_sld dL_law_526 ev125 ?_
    obtain ⟨u126, eu126, h⟩ := x_bd h
    obtain ⟨p127, ep127, h⟩ := x_bd h
    refine x_callVI [.int v125] [.int p124.1] clX9 me_X9_code w_ml_RL_75 w_im_yX9_code w_se_yX9_code (Nat.le_of_ble_eq_true rfl) (Nat.le_of_ble_eq_true rfl) rfl (Nat.le_of_ble_eq_true rfl) (Nat.le_of_ble_eq_true rfl) (Nat.le_of_ble_eq_true rfl) dL_law_527 eu126 (c_X9_code l D aC bs (sz + 128) F ep127) rfl ?_
    refine x_icmp_eq 1102 dL_law_530 (by decide) (fun c128 => ?_) (fun c128 => ?_)
    · have h := (if_pos c128).symm.trans h
      refine x_iinc (6 : Int32) 3 [(3, .int (q.1 + (6 : Int32))), (0, .ref b), (1, .ref a1), (2, .ref a2)] dL_law_1102 rfl (by decide) (by decide) rfl ?_
      refine x_goto 18 dL_law_1105 (by decide) ?_
      exact x_sub [1, 2, 3, 0] rfl (hk18 _ _ _ h)
    have h := (if_neg c128).symm.trans h
    refine x_iconst (v := (0 : Int32)) dL_law_533 (by decide) ?_
    exact absurd h (fun h9 => by cases h9)
  have h := (if_neg c121).symm.trans h
  by_cases c129 : (v6 &&& (63 : Int32)) = (15 : Int32)
  · have h := (if_pos c129).symm.trans h
    refine x_tabIn 15 535 dL_law_33 (by rw [c129]; decide) (by decide) (by decide) rfl (by decide) ?_
    refine x_aload_n dL_law_535 1 rfl ?_
    refine x_aload_n dL_law_536 0 rfl ?_
    refine x_iload_n dL_law_537 3 rfl ?_
    refine x_iconst (v := (1 : Int32)) dL_law_538 (by decide) ?_
    refine x_iadd dL_law_539 ?_
    obtain ⟨v130, ev130, h⟩ := x_bd h
    refine x_sld dL_law_540 ev130 ?_
    refine x_aload_n dL_law_541 0 rfl ?_
    refine x_iload_n dL_law_542 3 rfl ?_
    refine x_iconst (v := (2 : Int32)) dL_law_543 (by decide) ?_
    refine x_iadd dL_law_544 ?_
    obtain ⟨v131, ev131, h⟩ := x_bd h
    refine x_sld dL_law_545 ev131 ?_
    obtain ⟨u132, eu132, h⟩ := x_bd h
    obtain ⟨p133, ep133, h⟩ := x_bd h
    refine x_callVI [.int v130, .int v131] [] clX8 me_X8_next w_ml_RL_76 w_im_yX8_next w_se_yX8_next (Nat.le_of_ble_eq_true rfl) (Nat.le_of_ble_eq_true rfl) rfl (Nat.le_of_ble_eq_true rfl) (Nat.le_of_ble_eq_true rfl) (Nat.le_of_ble_eq_true rfl) dL_law_546 eu132 (c_X8_next l D aC bs (sz + 128) F ep133) rfl ?_
    refine x_aload_n dL_law_549 2 rfl ?_
    refine x_aload_n dL_law_550 0 rfl ?_
    refine x_iload_n dL_law_551 3 rfl ?_
    refine x_iconst (v := (1 : Int32)) dL_law_552 (by decide) ?_
    refine x_iadd dL_law_553 ?_
    obtain ⟨v134, ev134, h⟩ := x_bd h
    refine x_sld dL_law_554 ev134 ?_
    refine x_aload_n dL_law_555 0 rfl ?_
    refine x_iload_n dL_law_556 3 rfl ?_
    refine x_iconst (v := (2 : Int32)) dL_law_557 (by decide) ?_
    refine x_iadd dL_law_558 ?_
    obtain ⟨v135, ev135, h⟩ := x_bd h
    refine x_sld dL_law_559 ev135 ?_
    obtain ⟨u136, eu136, h⟩ := x_bd h
    obtain ⟨p137, ep137, h⟩ := x_bd h
    refine x_callVI [.int v134, .int v135] [.int p133.1] clX9 me_X9_next w_ml_RL_79 w_im_yX9_next w_se_yX9_next (Nat.le_of_ble_eq_true rfl) (Nat.le_of_ble_eq_true rfl) rfl (Nat.le_of_ble_eq_true rfl) (Nat.le_of_ble_eq_true rfl) (Nat.le_of_ble_eq_true rfl) dL_law_560 eu136 (c_X9_next l D aC bs (sz + 128) F ep137) rfl ?_
    refine x_icmp_eq 1102 dL_law_563 (by decide) (fun c138 => ?_) (fun c138 => ?_)
    · have h := (if_pos c138).symm.trans h
      refine x_iinc (6 : Int32) 3 [(3, .int (q.1 + (6 : Int32))), (0, .ref b), (1, .ref a1), (2, .ref a2)] dL_law_1102 rfl (by decide) (by decide) rfl ?_
      refine x_goto 18 dL_law_1105 (by decide) ?_
      exact x_sub [1, 2, 3, 0] rfl (hk18 _ _ _ h)
    have h := (if_neg c138).symm.trans h
    refine x_iconst (v := (0 : Int32)) dL_law_566 (by decide) ?_
    exact absurd h (fun h9 => by cases h9)
  have h := (if_neg c129).symm.trans h
  by_cases c139 : (v6 &&& (63 : Int32)) = (16 : Int32)
  · have h := (if_pos c139).symm.trans h
    refine x_tabIn 16 568 dL_law_33 (by rw [c139]; decide) (by decide) (by decide) rfl (by decide) ?_
    refine x_aload_n dL_law_568 1 rfl ?_
    refine x_aload_n dL_law_569 0 rfl ?_
    refine x_iload_n dL_law_570 3 rfl ?_
    refine x_iconst (v := (1 : Int32)) dL_law_571 (by decide) ?_
    refine x_iadd dL_law_572 ?_
    obtain ⟨v140, ev140, h⟩ := x_bd h
    refine x_sld dL_law_573 ev140 ?_
    obtain ⟨u141, eu141, h⟩ := x_bd h
    obtain ⟨p142, ep142, h⟩ := x_bd h
    refine x_callVI [.int v140] [] clX8 me_X8_meeting w_ml_RL_80 w_im_yX8_meeting w_se_yX8_meeting (Nat.le_of_ble_eq_true rfl) (Nat.le_of_ble_eq_true rfl) rfl (Nat.le_of_ble_eq_true rfl) (Nat.le_of_ble_eq_true rfl) (Nat.le_of_ble_eq_true rfl) dL_law_574 eu141 (c_X8_meeting l D aC bs (sz + 128) F ep142) rfl ?_
    refine x_aload_n dL_law_577 2 rfl ?_
    refine x_aload_n dL_law_578 0 rfl ?_
    refine x_iload_n dL_law_579 3 rfl ?_
    refine x_iconst (v := (1 : Int32)) dL_law_580 (by decide) ?_
    refine x_iadd dL_law_581 ?_
    obtain ⟨v143, ev143, h⟩ := x_bd h
    refine x_sld dL_law_582 ev143 ?_
    obtain ⟨u144, eu144, h⟩ := x_bd h
    obtain ⟨p145, ep145, h⟩ := x_bd h
    refine x_callVI [.int v143] [.int p142] clX9 me_X9_meeting w_ml_RL_83 w_im_yX9_meeting w_se_yX9_meeting (Nat.le_of_ble_eq_true rfl) (Nat.le_of_ble_eq_true rfl) rfl (Nat.le_of_ble_eq_true rfl) (Nat.le_of_ble_eq_true rfl) (Nat.le_of_ble_eq_true rfl) dL_law_583 eu144 (c_X9_meeting l D aC bs (sz + 128) F ep145) rfl ?_
    refine x_icmp_eq 1102 dL_law_586 (by decide) (fun c146 => ?_) (fun c146 => ?_)
    · have h := (if_pos c146).symm.trans h
      refine x_iinc (6 : Int32) 3 [(3, .int (q.1 + (6 : Int32))), (0, .ref b), (1, .ref a1), (2, .ref a2)] dL_law_1102 rfl (by decide) (by decide) rfl ?_
      refine x_goto 18 dL_law_1105 (by decide) ?_
      exact x_sub [1, 2, 3, 0] rfl (hk18 _ _ _ h)
    have h := (if_neg c146).symm.trans h
    refine x_iconst (v := (0 : Int32)) dL_law_589 (by decide) ?_
    exact absurd h (fun h9 => by cases h9)
  have h := (if_neg c139).symm.trans h
  by_cases c147 : (v6 &&& (63 : Int32)) = (17 : Int32)
  · have h := (if_pos c147).symm.trans h
    refine x_tabIn 17 591 dL_law_33 (by rw [c147]; decide) (by decide) (by decide) rfl (by decide) ?_
    refine x_aload_n dL_law_591 1 rfl ?_
    refine x_aload_n dL_law_592 0 rfl ?_
    refine x_iload_n dL_law_593 3 rfl ?_
    refine x_iconst (v := (1 : Int32)) dL_law_594 (by decide) ?_
    refine x_iadd dL_law_595 ?_
    obtain ⟨v148, ev148, h⟩ := x_bd h
    refine x_sld dL_law_596 ev148 ?_
    refine x_aload_n dL_law_597 0 rfl ?_
    refine x_iload_n dL_law_598 3 rfl ?_
    refine x_iconst (v := (2 : Int32)) dL_law_599 (by decide) ?_
    refine x_iadd dL_law_600 ?_
    obtain ⟨v149, ev149, h⟩ := x_bd h
    refine x_sld dL_law_601 ev149 ?_
    obtain ⟨u150, eu150, h⟩ := x_bd h
    obtain ⟨p151, ep151, h⟩ := x_bd h
    refine x_callVI [.int v148, .int v149] [] clX8 me_X8_see w_ml_RL_84 w_im_yX8_see w_se_yX8_see (Nat.le_of_ble_eq_true rfl) (Nat.le_of_ble_eq_true rfl) rfl (Nat.le_of_ble_eq_true rfl) (Nat.le_of_ble_eq_true rfl) (Nat.le_of_ble_eq_true rfl) dL_law_602 eu150 (c_X8_see l D aC bs (sz + 128) ep151) rfl ?_
    refine x_aload_n dL_law_605 2 rfl ?_
    refine x_aload_n dL_law_606 0 rfl ?_
    refine x_iload_n dL_law_607 3 rfl ?_
    refine x_iconst (v := (1 : Int32)) dL_law_608 (by decide) ?_
    refine x_iadd dL_law_609 ?_
    obtain ⟨v152, ev152, h⟩ := x_bd h
    refine x_sld dL_law_610 ev152 ?_
    refine x_aload_n dL_law_611 0 rfl ?_
    refine x_iload_n dL_law_612 3 rfl ?_
    refine x_iconst (v := (2 : Int32)) dL_law_613 (by decide) ?_
    refine x_iadd dL_law_614 ?_
    obtain ⟨v153, ev153, h⟩ := x_bd h
    refine x_sld dL_law_615 ev153 ?_
    obtain ⟨u154, eu154, h⟩ := x_bd h
    obtain ⟨p155, ep155, h⟩ := x_bd h
    refine x_callVI [.int v152, .int v153] [.int p151.1] clX9 me_X9_see w_ml_RL_87 w_im_yX9_see w_se_yX9_see (Nat.le_of_ble_eq_true rfl) (Nat.le_of_ble_eq_true rfl) rfl (Nat.le_of_ble_eq_true rfl) (Nat.le_of_ble_eq_true rfl) (Nat.le_of_ble_eq_true rfl) dL_law_616 eu154 (c_X9_see l D aC bs (sz + 128) ep155) rfl ?_
    refine x_icmp_eq 1102 dL_law_619 (by decide) (fun c156 => ?_) (fun c156 => ?_)
    · have h := (if_pos c156).symm.trans h
      refine x_iinc (6 : Int32) 3 [(3, .int (q.1 + (6 : Int32))), (0, .ref b), (1, .ref a1), (2, .ref a2)] dL_law_1102 rfl (by decide) (by decide) rfl ?_
      refine x_goto 18 dL_law_1105 (by decide) ?_
      exact x_sub [1, 2, 3, 0] rfl (hk18 _ _ _ h)
    have h := (if_neg c156).symm.trans h
    refine x_iconst (v := (0 : Int32)) dL_law_622 (by decide) ?_
    exact absurd h (fun h9 => by cases h9)
  have h := (if_neg c147).symm.trans h
  by_cases c157 : (v6 &&& (63 : Int32)) = (18 : Int32)
  · have h := (if_pos c157).symm.trans h
    refine x_tabIn 18 624 dL_law_33 (by rw [c157]; decide) (by decide) (by decide) rfl (by decide) ?_
    refine x_aload_n dL_law_624 1 rfl ?_
    refine x_aload_n dL_law_625 0 rfl ?_
    refine x_iload_n dL_law_626 3 rfl ?_
    refine x_iconst (v := (1 : Int32)) dL_law_627 (by decide) ?_
    refine x_iadd dL_law_628 ?_
    obtain ⟨v158, ev158, h⟩ := x_bd h
    refine x_sld dL_law_629 ev158 ?_
    refine x_aload_n dL_law_630 0 rfl ?_
    refine x_iload_n dL_law_631 3 rfl ?_
    refine x_iconst (v := (2 : Int32)) dL_law_632 (by decide) ?_
    refine x_iadd dL_law_633 ?_
    obtain ⟨v159, ev159, h⟩ := x_bd h
    refine x_sld dL_law_634 ev159 ?_
    obtain ⟨u160, eu160, h⟩ := x_bd h
    obtain ⟨p161, ep161, h⟩ := x_bd h
    refine x_callVI [.int v158, .int v159] [] clX8 me_X8_fits w_ml_RL_88 w_im_yX8_fits w_se_yX8_fits (Nat.le_of_ble_eq_true rfl) (Nat.le_of_ble_eq_true rfl) rfl (Nat.le_of_ble_eq_true rfl) (Nat.le_of_ble_eq_true rfl) (Nat.le_of_ble_eq_true rfl) dL_law_635 eu160 (c_X8_fits l D aC bs (sz + 128) F ep161) rfl ?_
    refine x_aload_n dL_law_638 2 rfl ?_
    refine x_aload_n dL_law_639 0 rfl ?_
    refine x_iload_n dL_law_640 3 rfl ?_
    refine x_iconst (v := (1 : Int32)) dL_law_641 (by decide) ?_
    refine x_iadd dL_law_642 ?_
    obtain ⟨v162, ev162, h⟩ := x_bd h
    refine x_sld dL_law_643 ev162 ?_
    refine x_aload_n dL_law_644 0 rfl ?_
    refine x_iload_n dL_law_645 3 rfl ?_
    refine x_iconst (v := (2 : Int32)) dL_law_646 (by decide) ?_
    refine x_iadd dL_law_647 ?_
    obtain ⟨v163, ev163, h⟩ := x_bd h
    refine x_sld dL_law_648 ev163 ?_
    obtain ⟨u164, eu164, h⟩ := x_bd h
    obtain ⟨p165, ep165, h⟩ := x_bd h
    refine x_callVI [.int v162, .int v163] [.int p161.1] clX9 me_X9_fits w_ml_RL_91 w_im_yX9_fits w_se_yX9_fits (Nat.le_of_ble_eq_true rfl) (Nat.le_of_ble_eq_true rfl) rfl (Nat.le_of_ble_eq_true rfl) (Nat.le_of_ble_eq_true rfl) (Nat.le_of_ble_eq_true rfl) dL_law_649 eu164 (c_X9_fits l D aC bs (sz + 128) F ep165) rfl ?_
    refine x_icmp_eq 1102 dL_law_652 (by decide) (fun c166 => ?_) (fun c166 => ?_)
    · have h := (if_pos c166).symm.trans h
      refine x_iinc (6 : Int32) 3 [(3, .int (q.1 + (6 : Int32))), (0, .ref b), (1, .ref a1), (2, .ref a2)] dL_law_1102 rfl (by decide) (by decide) rfl ?_
      refine x_goto 18 dL_law_1105 (by decide) ?_
      exact x_sub [1, 2, 3, 0] rfl (hk18 _ _ _ h)
    have h := (if_neg c166).symm.trans h
    refine x_iconst (v := (0 : Int32)) dL_law_655 (by decide) ?_
    exact absurd h (fun h9 => by cases h9)
  have h := (if_neg c157).symm.trans h
  by_cases c167 : (v6 &&& (63 : Int32)) = (19 : Int32)
  · have h := (if_pos c167).symm.trans h
    refine x_tabIn 19 657 dL_law_33 (by rw [c167]; decide) (by decide) (by decide) rfl (by decide) ?_
    refine x_aload_n dL_law_657 1 rfl ?_
    refine x_aload_n dL_law_658 0 rfl ?_
    refine x_iload_n dL_law_659 3 rfl ?_
    refine x_iconst (v := (1 : Int32)) dL_law_660 (by decide) ?_
    refine x_iadd dL_law_661 ?_
    obtain ⟨v168, ev168, h⟩ := x_bd h
    refine x_sld dL_law_662 ev168 ?_
    obtain ⟨u169, eu169, h⟩ := x_bd h
    obtain ⟨p170, ep170, h⟩ := x_bd h
    refine x_callVJ [.int v168] [] clX8 me_X8_odds w_ml_RL_92 w_im_yX8_odds w_se_yX8_odds (Nat.le_of_ble_eq_true rfl) (Nat.le_of_ble_eq_true rfl) rfl (Nat.le_of_ble_eq_true rfl) (Nat.le_of_ble_eq_true rfl) (Nat.le_of_ble_eq_true rfl) dL_law_663 eu169 (c_X8_odds l D aC bs (sz + 128) F ep170) rfl ?_
    refine x_aload_n dL_law_666 2 rfl ?_
    refine x_aload_n dL_law_667 0 rfl ?_
    refine x_iload_n dL_law_668 3 rfl ?_
    refine x_iconst (v := (1 : Int32)) dL_law_669 (by decide) ?_
    refine x_iadd dL_law_670 ?_
    obtain ⟨v171, ev171, h⟩ := x_bd h
    refine x_sld dL_law_671 ev171 ?_
    obtain ⟨u172, eu172, h⟩ := x_bd h
    obtain ⟨p173, ep173, h⟩ := x_bd h
    refine x_callVJ [.int v171] [.long p170.1] clX9 me_X9_odds w_ml_RL_96 w_im_yX9_odds w_se_yX9_odds (Nat.le_of_ble_eq_true rfl) (Nat.le_of_ble_eq_true rfl) rfl (Nat.le_of_ble_eq_true rfl) (Nat.le_of_ble_eq_true rfl) (Nat.le_of_ble_eq_true rfl) dL_law_672 eu172 (c_X9_odds l D aC bs (sz + 128) F ep173) rfl ?_
    refine x_lcmp dL_law_675 ?_
    refine x_if_eq 1102 dL_law_676 (by decide) (fun c174 => ?_) (fun c174 => ?_)
    · have h := (if_pos c174).symm.trans h
      refine x_iinc (6 : Int32) 3 [(3, .int (q.1 + (6 : Int32))), (0, .ref b), (1, .ref a1), (2, .ref a2)] dL_law_1102 rfl (by decide) (by decide) rfl ?_
      refine x_goto 18 dL_law_1105 (by decide) ?_
      exact x_sub [1, 2, 3, 0] rfl (hk18 _ _ _ h)
    have h := (if_neg c174).symm.trans h
    refine x_iconst (v := (0 : Int32)) dL_law_679 (by decide) ?_
    exact absurd h (fun h9 => by cases h9)
  have h := (if_neg c167).symm.trans h
  by_cases c175 : (v6 &&& (63 : Int32)) = (20 : Int32)
  · have h := (if_pos c175).symm.trans h
    refine x_tabIn 20 681 dL_law_33 (by rw [c175]; decide) (by decide) (by decide) rfl (by decide) ?_
    refine x_aload_n dL_law_681 1 rfl ?_
    refine x_aload_n dL_law_682 0 rfl ?_
    refine x_iload_n dL_law_683 3 rfl ?_
    refine x_iconst (v := (1 : Int32)) dL_law_684 (by decide) ?_
    refine x_iadd dL_law_685 ?_
    obtain ⟨v176, ev176, h⟩ := x_bd h
    refine x_sld dL_law_686 ev176 ?_
    obtain ⟨u177, eu177, h⟩ := x_bd h
    obtain ⟨p178, ep178, h⟩ := x_bd h
    refine x_callVJ [.int v176] [] clX8 me_X8_mean w_ml_RL_97 w_im_yX8_mean w_se_yX8_mean (Nat.le_of_ble_eq_true rfl) (Nat.le_of_ble_eq_true rfl) rfl (Nat.le_of_ble_eq_true rfl) (Nat.le_of_ble_eq_true rfl) (Nat.le_of_ble_eq_true rfl) dL_law_687 eu177 (c_X8_mean l D aC bs (sz + 128) F ep178) rfl ?_
    refine x_aload_n dL_law_690 2 rfl ?_
    refine x_aload_n dL_law_691 0 rfl ?_
    refine x_iload_n dL_law_692 3 rfl ?_
    refine x_iconst (v := (1 : Int32)) dL_law_693 (by decide) ?_
    refine x_iadd dL_law_694 ?_
    obtain ⟨v179, ev179, h⟩ := x_bd h
    refine x_sld dL_law_695 ev179 ?_
    obtain ⟨u180, eu180, h⟩ := x_bd h
    obtain ⟨p181, ep181, h⟩ := x_bd h
    refine x_callVJ [.int v179] [.long p178.1] clX9 me_X9_mean w_ml_RL_100 w_im_yX9_mean w_se_yX9_mean (Nat.le_of_ble_eq_true rfl) (Nat.le_of_ble_eq_true rfl) rfl (Nat.le_of_ble_eq_true rfl) (Nat.le_of_ble_eq_true rfl) (Nat.le_of_ble_eq_true rfl) dL_law_696 eu180 (c_X9_mean l D aC bs (sz + 128) F ep181) rfl ?_
    refine x_lcmp dL_law_699 ?_
    refine x_if_eq 1102 dL_law_700 (by decide) (fun c182 => ?_) (fun c182 => ?_)
    · have h := (if_pos c182).symm.trans h
      refine x_iinc (6 : Int32) 3 [(3, .int (q.1 + (6 : Int32))), (0, .ref b), (1, .ref a1), (2, .ref a2)] dL_law_1102 rfl (by decide) (by decide) rfl ?_
      refine x_goto 18 dL_law_1105 (by decide) ?_
      exact x_sub [1, 2, 3, 0] rfl (hk18 _ _ _ h)
    have h := (if_neg c182).symm.trans h
    refine x_iconst (v := (0 : Int32)) dL_law_703 (by decide) ?_
    exact absurd h (fun h9 => by cases h9)
  have h := (if_neg c175).symm.trans h
  by_cases c183 : (v6 &&& (63 : Int32)) = (21 : Int32)
  · have h := (if_pos c183).symm.trans h
    refine x_tabIn 21 705 dL_law_33 (by rw [c183]; decide) (by decide) (by decide) rfl (by decide) ?_
    refine x_aload_n dL_law_705 1 rfl ?_
    refine x_aload_n dL_law_706 0 rfl ?_
    refine x_iload_n dL_law_707 3 rfl ?_
    refine x_iconst (v := (1 : Int32)) dL_law_708 (by decide) ?_
    refine x_iadd dL_law_709 ?_
    obtain ⟨v184, ev184, h⟩ := x_bd h
    refine x_sld dL_law_710 ev184 ?_
    refine x_aload_n dL_law_711 0 rfl ?_
    refine x_iload_n dL_law_712 3 rfl ?_
    refine x_iconst (v := (2 : Int32)) dL_law_713 (by decide) ?_
    refine x_iadd dL_law_714 ?_
    obtain ⟨v185, ev185, h⟩ := x_bd h
    refine x_sld dL_law_715 ev185 ?_
    obtain ⟨u186, eu186, h⟩ := x_bd h
    obtain ⟨p187, ep187, h⟩ := x_bd h
    refine x_callVI [.int v184, .int v185] [] clX8 me_X8_event w_ml_RL_101 w_im_yX8_event w_se_yX8_event (Nat.le_of_ble_eq_true rfl) (Nat.le_of_ble_eq_true rfl) rfl (Nat.le_of_ble_eq_true rfl) (Nat.le_of_ble_eq_true rfl) (Nat.le_of_ble_eq_true rfl) dL_law_716 eu186 (c_X8_event l D aC bs (sz + 128) ep187) rfl ?_
    refine x_aload_n dL_law_719 2 rfl ?_
    refine x_aload_n dL_law_720 0 rfl ?_
    refine x_iload_n dL_law_721 3 rfl ?_
    refine x_iconst (v := (1 : Int32)) dL_law_722 (by decide) ?_
    refine x_iadd dL_law_723 ?_
    obtain ⟨v188, ev188, h⟩ := x_bd h
    refine x_sld dL_law_724 ev188 ?_
    refine x_aload_n dL_law_725 0 rfl ?_
    refine x_iload_n dL_law_726 3 rfl ?_
    refine x_iconst (v := (2 : Int32)) dL_law_727 (by decide) ?_
    refine x_iadd dL_law_728 ?_
    obtain ⟨v189, ev189, h⟩ := x_bd h
    refine x_sld dL_law_729 ev189 ?_
    obtain ⟨u190, eu190, h⟩ := x_bd h
    obtain ⟨p191, ep191, h⟩ := x_bd h
    refine x_callVI [.int v188, .int v189] [.int p187.1] clX9 me_X9_event w_ml_RL_104 w_im_yX9_event w_se_yX9_event (Nat.le_of_ble_eq_true rfl) (Nat.le_of_ble_eq_true rfl) rfl (Nat.le_of_ble_eq_true rfl) (Nat.le_of_ble_eq_true rfl) (Nat.le_of_ble_eq_true rfl) dL_law_730 eu190 (c_X9_event l D aC bs (sz + 128) ep191) rfl ?_
    refine x_icmp_eq 1102 dL_law_733 (by decide) (fun c192 => ?_) (fun c192 => ?_)
    · have h := (if_pos c192).symm.trans h
      refine x_iinc (6 : Int32) 3 [(3, .int (q.1 + (6 : Int32))), (0, .ref b), (1, .ref a1), (2, .ref a2)] dL_law_1102 rfl (by decide) (by decide) rfl ?_
      refine x_goto 18 dL_law_1105 (by decide) ?_
      exact x_sub [1, 2, 3, 0] rfl (hk18 _ _ _ h)
    have h := (if_neg c192).symm.trans h
    refine x_iconst (v := (0 : Int32)) dL_law_736 (by decide) ?_
    exact absurd h (fun h9 => by cases h9)
  have h := (if_neg c183).symm.trans h
  by_cases c193 : (v6 &&& (63 : Int32)) = (22 : Int32)
  · have h := (if_pos c193).symm.trans h
    refine x_tabIn 22 738 dL_law_33 (by rw [c193]; decide) (by decide) (by decide) rfl (by decide) ?_
    refine x_aload_n dL_law_738 1 rfl ?_
    refine x_aload_n dL_law_739 0 rfl ?_
    refine x_iload_n dL_law_740 3 rfl ?_
    refine x_iconst (v := (1 : Int32)) dL_law_741 (by decide) ?_
    refine x_iadd dL_law_742 ?_
    obtain ⟨v194, ev194, h⟩ := x_bd h
    refine x_sld dL_law_743 ev194 ?_
    obtain ⟨u195, eu195, h⟩ := x_bd h
    obtain ⟨p196, ep196, h⟩ := x_bd h
    refine x_callVI [.int v194] [] clX8 me_X8_after w_ml_RL_105 w_im_yX8_after w_se_yX8_after (Nat.le_of_ble_eq_true rfl) (Nat.le_of_ble_eq_true rfl) rfl (Nat.le_of_ble_eq_true rfl) (Nat.le_of_ble_eq_true rfl) (Nat.le_of_ble_eq_true rfl) dL_law_744 eu195 (c_X8_after l D aC bs (sz + 128) F ep196) rfl ?_
    refine x_aload_n dL_law_747 2 rfl ?_
    refine x_aload_n dL_law_748 0 rfl ?_
    refine x_iload_n dL_law_749 3 rfl ?_
    refine x_iconst (v := (1 : Int32)) dL_law_750 (by decide) ?_
    refine x_iadd dL_law_751 ?_
    obtain ⟨v197, ev197, h⟩ := x_bd h
    refine x_sld dL_law_752 ev197 ?_
    obtain ⟨u198, eu198, h⟩ := x_bd h
    obtain ⟨p199, ep199, h⟩ := x_bd h
    refine x_callVI [.int v197] [.int p196.1] clX9 me_X9_after w_ml_RL_108 w_im_yX9_after w_se_yX9_after (Nat.le_of_ble_eq_true rfl) (Nat.le_of_ble_eq_true rfl) rfl (Nat.le_of_ble_eq_true rfl) (Nat.le_of_ble_eq_true rfl) (Nat.le_of_ble_eq_true rfl) dL_law_753 eu198 (c_X9_after l D aC bs (sz + 128) F ep199) rfl ?_
    refine x_icmp_eq 1102 dL_law_756 (by decide) (fun c200 => ?_) (fun c200 => ?_)
    · have h := (if_pos c200).symm.trans h
      refine x_iinc (6 : Int32) 3 [(3, .int (q.1 + (6 : Int32))), (0, .ref b), (1, .ref a1), (2, .ref a2)] dL_law_1102 rfl (by decide) (by decide) rfl ?_
      refine x_goto 18 dL_law_1105 (by decide) ?_
      exact x_sub [1, 2, 3, 0] rfl (hk18 _ _ _ h)
    have h := (if_neg c200).symm.trans h
    refine x_iconst (v := (0 : Int32)) dL_law_759 (by decide) ?_
    exact absurd h (fun h9 => by cases h9)
  have h := (if_neg c193).symm.trans h
  by_cases c201 : (v6 &&& (63 : Int32)) = (23 : Int32)
  · have h := (if_pos c201).symm.trans h
    refine x_tabIn 23 761 dL_law_33 (by rw [c201]; decide) (by decide) (by decide) rfl (by decide) ?_
    refine x_aload_n dL_law_761 1 rfl ?_
    refine x_aload_n dL_law_762 0 rfl ?_
    refine x_iload_n dL_law_763 3 rfl ?_
    refine x_iconst (v := (1 : Int32)) dL_law_764 (by decide) ?_
    refine x_iadd dL_law_765 ?_
    obtain ⟨v202, ev202, h⟩ := x_bd h
    refine x_sld dL_law_766 ev202 ?_
    refine x_aload_n dL_law_767 0 rfl ?_
    refine x_iload_n dL_law_768 3 rfl ?_
    refine x_iconst (v := (2 : Int32)) dL_law_769 (by decide) ?_
    refine x_iadd dL_law_770 ?_
    obtain ⟨v203, ev203, h⟩ := x_bd h
    refine x_sld dL_law_771 ev203 ?_
    obtain ⟨u204, eu204, h⟩ := x_bd h
    obtain ⟨p205, ep205, h⟩ := x_bd h
    refine x_callVI [.int v202, .int v203] [] clX8 me_X8_book w_ml_RL_109 w_im_yX8_book w_se_yX8_book (Nat.le_of_ble_eq_true rfl) (Nat.le_of_ble_eq_true rfl) rfl (Nat.le_of_ble_eq_true rfl) (Nat.le_of_ble_eq_true rfl) (Nat.le_of_ble_eq_true rfl) dL_law_772 eu204 (c_X8_book l D aC bs (sz + 128) ep205) rfl ?_
    refine x_aload_n dL_law_775 2 rfl ?_
    refine x_aload_n dL_law_776 0 rfl ?_
    refine x_iload_n dL_law_777 3 rfl ?_
    refine x_iconst (v := (1 : Int32)) dL_law_778 (by decide) ?_
    refine x_iadd dL_law_779 ?_
    obtain ⟨v206, ev206, h⟩ := x_bd h
    refine x_sld dL_law_780 ev206 ?_
    refine x_aload_n dL_law_781 0 rfl ?_
    refine x_iload_n dL_law_782 3 rfl ?_
    refine x_iconst (v := (2 : Int32)) dL_law_783 (by decide) ?_
    refine x_iadd dL_law_784 ?_
    obtain ⟨v207, ev207, h⟩ := x_bd h
    refine x_sld dL_law_785 ev207 ?_
    obtain ⟨u208, eu208, h⟩ := x_bd h
    obtain ⟨p209, ep209, h⟩ := x_bd h
    refine x_callVI [.int v206, .int v207] [.int p205.1] clX9 me_X9_book w_ml_RL_112 w_im_yX9_book w_se_yX9_book (Nat.le_of_ble_eq_true rfl) (Nat.le_of_ble_eq_true rfl) rfl (Nat.le_of_ble_eq_true rfl) (Nat.le_of_ble_eq_true rfl) (Nat.le_of_ble_eq_true rfl) dL_law_786 eu208 (c_X9_book l D aC bs (sz + 128) ep209) rfl ?_
    refine x_icmp_eq 1102 dL_law_789 (by decide) (fun c210 => ?_) (fun c210 => ?_)
    · have h := (if_pos c210).symm.trans h
      refine x_iinc (6 : Int32) 3 [(3, .int (q.1 + (6 : Int32))), (0, .ref b), (1, .ref a1), (2, .ref a2)] dL_law_1102 rfl (by decide) (by decide) rfl ?_
      refine x_goto 18 dL_law_1105 (by decide) ?_
      exact x_sub [1, 2, 3, 0] rfl (hk18 _ _ _ h)
    have h := (if_neg c210).symm.trans h
    refine x_iconst (v := (0 : Int32)) dL_law_792 (by decide) ?_
    exact absurd h (fun h9 => by cases h9)
  have h := (if_neg c201).symm.trans h
  by_cases c211 : (v6 &&& (63 : Int32)) = (24 : Int32)
  · have h := (if_pos c211).symm.trans h
    refine x_tabIn 24 794 dL_law_33 (by rw [c211]; decide) (by decide) (by decide) rfl (by decide) ?_
    refine x_aload_n dL_law_794 1 rfl ?_
    obtain ⟨u212, eu212, h⟩ := x_bd h
    obtain ⟨p213, ep213, h⟩ := x_bd h
    refine x_callVI [] [] clX8 me_X8_looked w_ml_RL_113 w_im_yX8_looked w_se_yX8_looked (Nat.le_of_ble_eq_true rfl) (Nat.le_of_ble_eq_true rfl) rfl (Nat.le_of_ble_eq_true rfl) (Nat.le_of_ble_eq_true rfl) (Nat.le_of_ble_eq_true rfl) dL_law_795 eu212 (c_X8_looked l D aC bs (sz + 128) F ep213) rfl ?_
    refine x_aload_n dL_law_798 2 rfl ?_
    obtain ⟨u214, eu214, h⟩ := x_bd h
    obtain ⟨p215, ep215, h⟩ := x_bd h
    refine x_callVI [] [.int p213] clX9 me_X9_looked w_ml_RL_116 w_im_yX9_looked w_se_yX9_looked (Nat.le_of_ble_eq_true rfl) (Nat.le_of_ble_eq_true rfl) rfl (Nat.le_of_ble_eq_true rfl) (Nat.le_of_ble_eq_true rfl) (Nat.le_of_ble_eq_true rfl) dL_law_799 eu214 (c_X9_looked l D aC bs (sz + 128) F ep215) rfl ?_
    refine x_icmp_eq 1102 dL_law_802 (by decide) (fun c216 => ?_) (fun c216 => ?_)
    · have h := (if_pos c216).symm.trans h
      refine x_iinc (6 : Int32) 3 [(3, .int (q.1 + (6 : Int32))), (0, .ref b), (1, .ref a1), (2, .ref a2)] dL_law_1102 rfl (by decide) (by decide) rfl ?_
      refine x_goto 18 dL_law_1105 (by decide) ?_
      exact x_sub [1, 2, 3, 0] rfl (hk18 _ _ _ h)
    have h := (if_neg c216).symm.trans h
    refine x_iconst (v := (0 : Int32)) dL_law_805 (by decide) ?_
    exact absurd h (fun h9 => by cases h9)
  have h := (if_neg c211).symm.trans h
  by_cases c217 : (v6 &&& (63 : Int32)) = (25 : Int32)
  · have h := (if_pos c217).symm.trans h
    refine x_tabIn 25 807 dL_law_33 (by rw [c217]; decide) (by decide) (by decide) rfl (by decide) ?_
    refine x_aload_n dL_law_807 1 rfl ?_
    refine x_aload_n dL_law_808 0 rfl ?_
    refine x_iload_n dL_law_809 3 rfl ?_
    refine x_iconst (v := (1 : Int32)) dL_law_810 (by decide) ?_
    refine x_iadd dL_law_811 ?_
    obtain ⟨v218, ev218, h⟩ := x_bd h
    refine x_sld dL_law_812 ev218 ?_
    refine x_aload_n dL_law_813 0 rfl ?_
    refine x_iload_n dL_law_814 3 rfl ?_
    refine x_iconst (v := (2 : Int32)) dL_law_815 (by decide) ?_
    refine x_iadd dL_law_816 ?_
    obtain ⟨v219, ev219, h⟩ := x_bd h
    refine x_sld dL_law_817 ev219 ?_
    obtain ⟨u220, eu220, h⟩ := x_bd h
    obtain ⟨p221, ep221, h⟩ := x_bd h
    refine x_callVI [.int v218, .int v219] [] clX8 me_X8_judge w_ml_RL_117 w_im_yX8_judge w_se_yX8_judge (Nat.le_of_ble_eq_true rfl) (Nat.le_of_ble_eq_true rfl) rfl (Nat.le_of_ble_eq_true rfl) (Nat.le_of_ble_eq_true rfl) (Nat.le_of_ble_eq_true rfl) dL_law_818 eu220 (c_X8_judge l D aC bs (sz + 128) F ep221) rfl ?_
    refine x_aload_n dL_law_821 2 rfl ?_
    refine x_aload_n dL_law_822 0 rfl ?_
    refine x_iload_n dL_law_823 3 rfl ?_
    refine x_iconst (v := (1 : Int32)) dL_law_824 (by decide) ?_
    refine x_iadd dL_law_825 ?_
    obtain ⟨v222, ev222, h⟩ := x_bd h
    refine x_sld dL_law_826 ev222 ?_
    refine x_aload_n dL_law_827 0 rfl ?_
    refine x_iload_n dL_law_828 3 rfl ?_
    refine x_iconst (v := (2 : Int32)) dL_law_829 (by decide) ?_
    refine x_iadd dL_law_830 ?_
    obtain ⟨v223, ev223, h⟩ := x_bd h
    refine x_sld dL_law_831 ev223 ?_
    obtain ⟨u224, eu224, h⟩ := x_bd h
    obtain ⟨p225, ep225, h⟩ := x_bd h
    refine x_callVI [.int v222, .int v223] [.int p221] clX9 me_X9_judge w_ml_RL_120 w_im_yX9_judge w_se_yX9_judge (Nat.le_of_ble_eq_true rfl) (Nat.le_of_ble_eq_true rfl) rfl (Nat.le_of_ble_eq_true rfl) (Nat.le_of_ble_eq_true rfl) (Nat.le_of_ble_eq_true rfl) dL_law_832 eu224 (c_X9_judge l D aC bs (sz + 128) F ep225) rfl ?_
    refine x_icmp_eq 1102 dL_law_835 (by decide) (fun c226 => ?_) (fun c226 => ?_)
    · have h := (if_pos c226).symm.trans h
      refine x_iinc (6 : Int32) 3 [(3, .int (q.1 + (6 : Int32))), (0, .ref b), (1, .ref a1), (2, .ref a2)] dL_law_1102 rfl (by decide) (by decide) rfl ?_
      refine x_goto 18 dL_law_1105 (by decide) ?_
      exact x_sub [1, 2, 3, 0] rfl (hk18 _ _ _ h)
    have h := (if_neg c226).symm.trans h
    refine x_iconst (v := (0 : Int32)) dL_law_838 (by decide) ?_
    exact absurd h (fun h9 => by cases h9)
  have h := (if_neg c217).symm.trans h
  by_cases c227 : (v6 &&& (63 : Int32)) = (26 : Int32)
  · have h := (if_pos c227).symm.trans h
    refine x_tabIn 26 840 dL_law_33 (by rw [c227]; decide) (by decide) (by decide) rfl (by decide) ?_
    refine x_aload_n dL_law_840 1 rfl ?_
    obtain ⟨u228, eu228, h⟩ := x_bd h
    obtain ⟨p229, ep229, h⟩ := x_bd h
    refine x_callVI [] [] clX8 me_X8_image w_ml_RL_121 w_im_yX8_image w_se_yX8_image (Nat.le_of_ble_eq_true rfl) (Nat.le_of_ble_eq_true rfl) rfl (Nat.le_of_ble_eq_true rfl) (Nat.le_of_ble_eq_true rfl) (Nat.le_of_ble_eq_true rfl) dL_law_841 eu228 (c_X8_image l D aC bs (sz + 128) F ep229) rfl ?_
    refine x_aload_n dL_law_844 2 rfl ?_
    obtain ⟨u230, eu230, h⟩ := x_bd h
    obtain ⟨p231, ep231, h⟩ := x_bd h
    refine x_callVI [] [.int p229.1] clX9 me_X9_image w_ml_RL_124 w_im_yX9_image w_se_yX9_image (Nat.le_of_ble_eq_true rfl) (Nat.le_of_ble_eq_true rfl) rfl (Nat.le_of_ble_eq_true rfl) (Nat.le_of_ble_eq_true rfl) (Nat.le_of_ble_eq_true rfl) dL_law_845 eu230 (c_X9_image l D aC bs (sz + 128) F ep231) rfl ?_
    refine x_icmp_eq 1102 dL_law_848 (by decide) (fun c232 => ?_) (fun c232 => ?_)
    · have h := (if_pos c232).symm.trans h
      refine x_iinc (6 : Int32) 3 [(3, .int (q.1 + (6 : Int32))), (0, .ref b), (1, .ref a1), (2, .ref a2)] dL_law_1102 rfl (by decide) (by decide) rfl ?_
      refine x_goto 18 dL_law_1105 (by decide) ?_
      exact x_sub [1, 2, 3, 0] rfl (hk18 _ _ _ h)
    have h := (if_neg c232).symm.trans h
    refine x_iconst (v := (0 : Int32)) dL_law_851 (by decide) ?_
    exact absurd h (fun h9 => by cases h9)
  have h := (if_neg c227).symm.trans h
  by_cases c233 : (v6 &&& (63 : Int32)) = (27 : Int32)
  · have h := (if_pos c233).symm.trans h
    refine x_tabIn 27 853 dL_law_33 (by rw [c233]; decide) (by decide) (by decide) rfl (by decide) ?_
    refine x_aload_n dL_law_853 1 rfl ?_
    obtain ⟨u234, eu234, h⟩ := x_bd h
    obtain ⟨p235, ep235, h⟩ := x_bd h
    refine x_callVI [] [] clX8 me_X8_undo w_ml_RL_125 w_im_yX8_undo w_se_yX8_undo (Nat.le_of_ble_eq_true rfl) (Nat.le_of_ble_eq_true rfl) rfl (Nat.le_of_ble_eq_true rfl) (Nat.le_of_ble_eq_true rfl) (Nat.le_of_ble_eq_true rfl) dL_law_854 eu234 (c_X8_undo l D aC bs (sz + 128) F ep235) rfl ?_
    refine x_aload_n dL_law_857 2 rfl ?_
    obtain ⟨u236, eu236, h⟩ := x_bd h
    obtain ⟨p237, ep237, h⟩ := x_bd h
    refine x_callVI [] [.int p235.1] clX9 me_X9_undo w_ml_RL_128 w_im_yX9_undo w_se_yX9_undo (Nat.le_of_ble_eq_true rfl) (Nat.le_of_ble_eq_true rfl) rfl (Nat.le_of_ble_eq_true rfl) (Nat.le_of_ble_eq_true rfl) (Nat.le_of_ble_eq_true rfl) dL_law_858 eu236 (c_X9_undo l D aC bs (sz + 128) F ep237) rfl ?_
    refine x_icmp_eq 1102 dL_law_861 (by decide) (fun c238 => ?_) (fun c238 => ?_)
    · have h := (if_pos c238).symm.trans h
      refine x_iinc (6 : Int32) 3 [(3, .int (q.1 + (6 : Int32))), (0, .ref b), (1, .ref a1), (2, .ref a2)] dL_law_1102 rfl (by decide) (by decide) rfl ?_
      refine x_goto 18 dL_law_1105 (by decide) ?_
      exact x_sub [1, 2, 3, 0] rfl (hk18 _ _ _ h)
    have h := (if_neg c238).symm.trans h
    refine x_iconst (v := (0 : Int32)) dL_law_864 (by decide) ?_
    exact absurd h (fun h9 => by cases h9)
  have h := (if_neg c233).symm.trans h
  by_cases c239 : (v6 &&& (63 : Int32)) = (28 : Int32)
  · have h := (if_pos c239).symm.trans h
    refine x_tabIn 28 866 dL_law_33 (by rw [c239]; decide) (by decide) (by decide) rfl (by decide) ?_
    refine x_aload_n dL_law_866 1 rfl ?_
    refine x_aload_n dL_law_867 0 rfl ?_
    refine x_iload_n dL_law_868 3 rfl ?_
    refine x_iconst (v := (1 : Int32)) dL_law_869 (by decide) ?_
    refine x_iadd dL_law_870 ?_
    obtain ⟨v240, ev240, h⟩ := x_bd h
    refine x_sld dL_law_871 ev240 ?_
    obtain ⟨u241, eu241, h⟩ := x_bd h
    obtain ⟨p242, ep242, h⟩ := x_bd h
    refine x_callVI [.int v240] [] clX8 me_X8_count w_ml_RL_129 w_im_yX8_count w_se_yX8_count (Nat.le_of_ble_eq_true rfl) (Nat.le_of_ble_eq_true rfl) rfl (Nat.le_of_ble_eq_true rfl) (Nat.le_of_ble_eq_true rfl) (Nat.le_of_ble_eq_true rfl) dL_law_872 eu241 (c_X8_count l D aC bs (sz + 128) ep242) rfl ?_
    refine x_aload_n dL_law_875 2 rfl ?_
    refine x_aload_n dL_law_876 0 rfl ?_
    refine x_iload_n dL_law_877 3 rfl ?_
    refine x_iconst (v := (1 : Int32)) dL_law_878 (by decide) ?_
    refine x_iadd dL_law_879 ?_
    obtain ⟨v243, ev243, h⟩ := x_bd h
    refine x_sld dL_law_880 ev243 ?_
    obtain ⟨u244, eu244, h⟩ := x_bd h
    obtain ⟨p245, ep245, h⟩ := x_bd h
    refine x_callVI [.int v243] [.int p242] clX9 me_X9_count w_ml_RL_132 w_im_yX9_count w_se_yX9_count (Nat.le_of_ble_eq_true rfl) (Nat.le_of_ble_eq_true rfl) rfl (Nat.le_of_ble_eq_true rfl) (Nat.le_of_ble_eq_true rfl) (Nat.le_of_ble_eq_true rfl) dL_law_881 eu244 (c_X9_count l D aC bs (sz + 128) ep245) rfl ?_
    refine x_icmp_eq 1102 dL_law_884 (by decide) (fun c246 => ?_) (fun c246 => ?_)
    · have h := (if_pos c246).symm.trans h
      refine x_iinc (6 : Int32) 3 [(3, .int (q.1 + (6 : Int32))), (0, .ref b), (1, .ref a1), (2, .ref a2)] dL_law_1102 rfl (by decide) (by decide) rfl ?_
      refine x_goto 18 dL_law_1105 (by decide) ?_
      exact x_sub [1, 2, 3, 0] rfl (hk18 _ _ _ h)
    have h := (if_neg c246).symm.trans h
    refine x_iconst (v := (0 : Int32)) dL_law_887 (by decide) ?_
    exact absurd h (fun h9 => by cases h9)
  have h := (if_neg c239).symm.trans h
  by_cases c247 : (v6 &&& (63 : Int32)) = (29 : Int32)
  · have h := (if_pos c247).symm.trans h
    refine x_tabIn 29 889 dL_law_33 (by rw [c247]; decide) (by decide) (by decide) rfl (by decide) ?_
    refine x_aload_n dL_law_889 1 rfl ?_
    refine x_aload_n dL_law_890 0 rfl ?_
    refine x_iload_n dL_law_891 3 rfl ?_
    refine x_iconst (v := (1 : Int32)) dL_law_892 (by decide) ?_
    refine x_iadd dL_law_893 ?_
    obtain ⟨v248, ev248, h⟩ := x_bd h
    refine x_sld dL_law_894 ev248 ?_
    refine x_aload_n dL_law_895 0 rfl ?_
    refine x_iload_n dL_law_896 3 rfl ?_
    refine x_iconst (v := (2 : Int32)) dL_law_897 (by decide) ?_
    refine x_iadd dL_law_898 ?_
    obtain ⟨v249, ev249, h⟩ := x_bd h
    refine x_sld dL_law_899 ev249 ?_
    refine x_aload_n dL_law_900 0 rfl ?_
    refine x_iload_n dL_law_901 3 rfl ?_
    refine x_iconst (v := (3 : Int32)) dL_law_902 (by decide) ?_
    refine x_iadd dL_law_903 ?_
    obtain ⟨v250, ev250, h⟩ := x_bd h
    refine x_sld dL_law_904 ev250 ?_
    obtain ⟨u251, eu251, h⟩ := x_bd h
    obtain ⟨p252, ep252, h⟩ := x_bd h
    refine x_callVI [.int v248, .int v249, .int v250] [] clX8 me_X8_tape w_ml_RL_133 w_im_yX8_tape w_se_yX8_tape (Nat.le_of_ble_eq_true rfl) (Nat.le_of_ble_eq_true rfl) rfl (Nat.le_of_ble_eq_true rfl) (Nat.le_of_ble_eq_true rfl) (Nat.le_of_ble_eq_true rfl) dL_law_905 eu251 (c_X8_tape l D aC bs (sz + 128) F ep252) rfl ?_
    refine x_aload_n dL_law_908 2 rfl ?_
    refine x_aload_n dL_law_909 0 rfl ?_
    refine x_iload_n dL_law_910 3 rfl ?_
    refine x_iconst (v := (1 : Int32)) dL_law_911 (by decide) ?_
    refine x_iadd dL_law_912 ?_
    obtain ⟨v253, ev253, h⟩ := x_bd h
    refine x_sld dL_law_913 ev253 ?_
    refine x_aload_n dL_law_914 0 rfl ?_
    refine x_iload_n dL_law_915 3 rfl ?_
    refine x_iconst (v := (2 : Int32)) dL_law_916 (by decide) ?_
    refine x_iadd dL_law_917 ?_
    obtain ⟨v254, ev254, h⟩ := x_bd h
    refine x_sld dL_law_918 ev254 ?_
    refine x_aload_n dL_law_919 0 rfl ?_
    refine x_iload_n dL_law_920 3 rfl ?_
    refine x_iconst (v := (3 : Int32)) dL_law_921 (by decide) ?_
    refine x_iadd dL_law_922 ?_
    obtain ⟨v255, ev255, h⟩ := x_bd h
    refine x_sld dL_law_923 ev255 ?_
    obtain ⟨u256, eu256, h⟩ := x_bd h
    obtain ⟨p257, ep257, h⟩ := x_bd h
    refine x_callVI [.int v253, .int v254, .int v255] [.int p252.1] clX9 me_X9_tape w_ml_RL_137 w_im_yX9_tape w_se_yX9_tape (Nat.le_of_ble_eq_true rfl) (Nat.le_of_ble_eq_true rfl) rfl (Nat.le_of_ble_eq_true rfl) (Nat.le_of_ble_eq_true rfl) (Nat.le_of_ble_eq_true rfl) dL_law_924 eu256 (c_X9_tape l D aC bs (sz + 128) F ep257) rfl ?_
    refine x_icmp_eq 1102 dL_law_927 (by decide) (fun c258 => ?_) (fun c258 => ?_)
    · have h := (if_pos c258).symm.trans h
      refine x_iinc (6 : Int32) 3 [(3, .int (q.1 + (6 : Int32))), (0, .ref b), (1, .ref a1), (2, .ref a2)] dL_law_1102 rfl (by decide) (by decide) rfl ?_
      refine x_goto 18 dL_law_1105 (by decide) ?_
      exact x_sub [1, 2, 3, 0] rfl (hk18 _ _ _ h)
    have h := (if_neg c258).symm.trans h
    refine x_iconst (v := (0 : Int32)) dL_law_930 (by decide) ?_
    exact absurd h (fun h9 => by cases h9)
  have h := (if_neg c247).symm.trans h
  by_cases c259 : (v6 &&& (63 : Int32)) = (30 : Int32)
  · have h := (if_pos c259).symm.trans h
    refine x_tabIn 30 932 dL_law_33 (by rw [c259]; decide) (by decide) (by decide) rfl (by decide) ?_
    refine x_aload_n dL_law_932 1 rfl ?_
    refine x_aload_n dL_law_933 0 rfl ?_
    refine x_iload_n dL_law_934 3 rfl ?_
    refine x_iconst (v := (1 : Int32)) dL_law_935 (by decide) ?_
    refine x_iadd dL_law_936 ?_
    obtain ⟨v260, ev260, h⟩ := x_bd h
    refine x_sld dL_law_937 ev260 ?_
    refine x_aload_n dL_law_938 0 rfl ?_
    refine x_iload_n dL_law_939 3 rfl ?_
    refine x_iconst (v := (2 : Int32)) dL_law_940 (by decide) ?_
    refine x_iadd dL_law_941 ?_
    obtain ⟨v261, ev261, h⟩ := x_bd h
    refine x_sld dL_law_942 ev261 ?_
    refine x_aload_n dL_law_943 0 rfl ?_
    refine x_iload_n dL_law_944 3 rfl ?_
    refine x_iconst (v := (3 : Int32)) dL_law_945 (by decide) ?_
    refine x_iadd dL_law_946 ?_
    obtain ⟨v262, ev262, h⟩ := x_bd h
    refine x_sld dL_law_947 ev262 ?_
    refine x_i2l dL_law_948 ?_
    refine x_bipush (v := (32 : Int32)) dL_law_949 (by decide) ?_
    refine x_lshl dL_law_951 ?_
    refine x_aload_n dL_law_952 0 rfl ?_
    refine x_iload_n dL_law_953 3 rfl ?_
    refine x_iconst (v := (4 : Int32)) dL_law_954 (by decide) ?_
    refine x_iadd dL_law_955 ?_
    obtain ⟨v263, ev263, h⟩ := x_bd h
    refine x_sld dL_law_956 ev263 ?_
    refine x_i2l dL_law_957 ?_
    refine x_ldc2 (v := (4294967295 : Int64)) dL_law_958 w_cn_RL_138 ?_
    refine x_land dL_law_961 ?_
    refine x_lor dL_law_962 ?_
    obtain ⟨u264, eu264, h⟩ := x_bd h
    obtain ⟨p265, ep265, h⟩ := x_bd h
    refine x_callVI [.int v260, .int v261, .long ((v262.toInt64 <<< ((32 : Int32).toInt64 &&& 63)) ||| (v263.toInt64 &&& (4294967295 : Int64)))] [] clX8 me_X8_item w_ml_RL_140 w_im_yX8_item w_se_yX8_item (Nat.le_of_ble_eq_true rfl) (Nat.le_of_ble_eq_true rfl) rfl (Nat.le_of_ble_eq_true rfl) (Nat.le_of_ble_eq_true rfl) (Nat.le_of_ble_eq_true rfl) dL_law_963 eu264 (c_X8_item l D aC bs (sz + 128) ep265) rfl ?_
    refine x_aload_n dL_law_966 2 rfl ?_
    refine x_aload_n dL_law_967 0 rfl ?_
    refine x_iload_n dL_law_968 3 rfl ?_
    refine x_iconst (v := (1 : Int32)) dL_law_969 (by decide) ?_
    refine x_iadd dL_law_970 ?_
    obtain ⟨v266, ev266, h⟩ := x_bd h
    refine x_sld dL_law_971 ev266 ?_
    refine x_aload_n dL_law_972 0 rfl ?_
    refine x_iload_n dL_law_973 3 rfl ?_
    refine x_iconst (v := (2 : Int32)) dL_law_974 (by decide) ?_
    refine x_iadd dL_law_975 ?_
    obtain ⟨v267, ev267, h⟩ := x_bd h
    refine x_sld dL_law_976 ev267 ?_
    refine x_aload_n dL_law_977 0 rfl ?_
    refine x_iload_n dL_law_978 3 rfl ?_
    refine x_iconst (v := (3 : Int32)) dL_law_979 (by decide) ?_
    refine x_iadd dL_law_980 ?_
    obtain ⟨v268, ev268, h⟩ := x_bd h
    refine x_sld dL_law_981 ev268 ?_
    refine x_i2l dL_law_982 ?_
    refine x_bipush (v := (32 : Int32)) dL_law_983 (by decide) ?_
    refine x_lshl dL_law_985 ?_
    refine x_aload_n dL_law_986 0 rfl ?_
    refine x_iload_n dL_law_987 3 rfl ?_
    refine x_iconst (v := (4 : Int32)) dL_law_988 (by decide) ?_
    refine x_iadd dL_law_989 ?_
    obtain ⟨v269, ev269, h⟩ := x_bd h
    refine x_sld dL_law_990 ev269 ?_
    refine x_i2l dL_law_991 ?_
    refine x_ldc2 (v := (4294967295 : Int64)) dL_law_992 w_cn_RL_138 ?_
    refine x_land dL_law_995 ?_
    refine x_lor dL_law_996 ?_
    obtain ⟨u270, eu270, h⟩ := x_bd h
    obtain ⟨p271, ep271, h⟩ := x_bd h
    refine x_callVI [.int v266, .int v267, .long ((v268.toInt64 <<< ((32 : Int32).toInt64 &&& 63)) ||| (v269.toInt64 &&& (4294967295 : Int64)))] [.int p265.1] clX9 me_X9_item w_ml_RL_144 w_im_yX9_item w_se_yX9_item (Nat.le_of_ble_eq_true rfl) (Nat.le_of_ble_eq_true rfl) rfl (Nat.le_of_ble_eq_true rfl) (Nat.le_of_ble_eq_true rfl) (Nat.le_of_ble_eq_true rfl) dL_law_997 eu270 (c_X9_item l D aC bs (sz + 128) ep271) rfl ?_
    refine x_icmp_eq 1102 dL_law_1000 (by decide) (fun c272 => ?_) (fun c272 => ?_)
    · have h := (if_pos c272).symm.trans h
      refine x_iinc (6 : Int32) 3 [(3, .int (q.1 + (6 : Int32))), (0, .ref b), (1, .ref a1), (2, .ref a2)] dL_law_1102 rfl (by decide) (by decide) rfl ?_
      refine x_goto 18 dL_law_1105 (by decide) ?_
      exact x_sub [1, 2, 3, 0] rfl (hk18 _ _ _ h)
    have h := (if_neg c272).symm.trans h
    refine x_iconst (v := (0 : Int32)) dL_law_1003 (by decide) ?_
    exact absurd h (fun h9 => by cases h9)
  have h := (if_neg c259).symm.trans h
  by_cases c273 : (v6 &&& (63 : Int32)) = (31 : Int32)
  · have h := (if_pos c273).symm.trans h
    refine x_tabIn 31 1005 dL_law_33 (by rw [c273]; decide) (by decide) (by decide) rfl (by decide) ?_
    refine x_aload_n dL_law_1005 1 rfl ?_
    refine x_aload_n dL_law_1006 0 rfl ?_
    refine x_iload_n dL_law_1007 3 rfl ?_
    refine x_iconst (v := (1 : Int32)) dL_law_1008 (by decide) ?_
    refine x_iadd dL_law_1009 ?_
    obtain ⟨v274, ev274, h⟩ := x_bd h
    refine x_sld dL_law_1010 ev274 ?_
    refine x_aload_n dL_law_1011 0 rfl ?_
    refine x_iload_n dL_law_1012 3 rfl ?_
    refine x_iconst (v := (2 : Int32)) dL_law_1013 (by decide) ?_
    refine x_iadd dL_law_1014 ?_
    obtain ⟨v275, ev275, h⟩ := x_bd h
    refine x_sld dL_law_1015 ev275 ?_
    obtain ⟨u276, eu276, h⟩ := x_bd h
    obtain ⟨p277, ep277, h⟩ := x_bd h
    refine x_callVJ [.int v274, .int v275] [] clX8 me_X8_peek w_ml_RL_145 w_im_yX8_peek w_se_yX8_peek (Nat.le_of_ble_eq_true rfl) (Nat.le_of_ble_eq_true rfl) rfl (Nat.le_of_ble_eq_true rfl) (Nat.le_of_ble_eq_true rfl) (Nat.le_of_ble_eq_true rfl) dL_law_1016 eu276 (c_X8_peek l D aC bs (sz + 128) ep277) rfl ?_
    refine x_aload_n dL_law_1019 2 rfl ?_
    refine x_aload_n dL_law_1020 0 rfl ?_
    refine x_iload_n dL_law_1021 3 rfl ?_
    refine x_iconst (v := (1 : Int32)) dL_law_1022 (by decide) ?_
    refine x_iadd dL_law_1023 ?_
    obtain ⟨v278, ev278, h⟩ := x_bd h
    refine x_sld dL_law_1024 ev278 ?_
    refine x_aload_n dL_law_1025 0 rfl ?_
    refine x_iload_n dL_law_1026 3 rfl ?_
    refine x_iconst (v := (2 : Int32)) dL_law_1027 (by decide) ?_
    refine x_iadd dL_law_1028 ?_
    obtain ⟨v279, ev279, h⟩ := x_bd h
    refine x_sld dL_law_1029 ev279 ?_
    obtain ⟨u280, eu280, h⟩ := x_bd h
    obtain ⟨p281, ep281, h⟩ := x_bd h
    refine x_callVJ [.int v278, .int v279] [.long p277] clX9 me_X9_peek w_ml_RL_149 w_im_yX9_peek w_se_yX9_peek (Nat.le_of_ble_eq_true rfl) (Nat.le_of_ble_eq_true rfl) rfl (Nat.le_of_ble_eq_true rfl) (Nat.le_of_ble_eq_true rfl) (Nat.le_of_ble_eq_true rfl) dL_law_1030 eu280 (c_X9_peek l D aC bs (sz + 128) ep281) rfl ?_
    refine x_lcmp dL_law_1033 ?_
    refine x_if_eq 1102 dL_law_1034 (by decide) (fun c282 => ?_) (fun c282 => ?_)
    · have h := (if_pos c282).symm.trans h
      refine x_iinc (6 : Int32) 3 [(3, .int (q.1 + (6 : Int32))), (0, .ref b), (1, .ref a1), (2, .ref a2)] dL_law_1102 rfl (by decide) (by decide) rfl ?_
      refine x_goto 18 dL_law_1105 (by decide) ?_
      exact x_sub [1, 2, 3, 0] rfl (hk18 _ _ _ h)
    have h := (if_neg c282).symm.trans h
    refine x_iconst (v := (0 : Int32)) dL_law_1037 (by decide) ?_
    exact absurd h (fun h9 => by cases h9)
  have h := (if_neg c273).symm.trans h
  by_cases c283 : (v6 &&& (63 : Int32)) = (32 : Int32)
  · have h := (if_pos c283).symm.trans h
    refine x_tabIn 32 1039 dL_law_33 (by rw [c283]; decide) (by decide) (by decide) rfl (by decide) ?_
    refine x_aload_n dL_law_1039 1 rfl ?_
    refine x_aload_n dL_law_1040 0 rfl ?_
    refine x_iload_n dL_law_1041 3 rfl ?_
    refine x_iconst (v := (1 : Int32)) dL_law_1042 (by decide) ?_
    refine x_iadd dL_law_1043 ?_
    obtain ⟨v284, ev284, h⟩ := x_bd h
    refine x_sld dL_law_1044 ev284 ?_
    refine x_aload_n dL_law_1045 0 rfl ?_
    refine x_iload_n dL_law_1046 3 rfl ?_
    refine x_iconst (v := (2 : Int32)) dL_law_1047 (by decide) ?_
    refine x_iadd dL_law_1048 ?_
    obtain ⟨v285, ev285, h⟩ := x_bd h
    refine x_sld dL_law_1049 ev285 ?_
    refine x_aload_n dL_law_1050 0 rfl ?_
    refine x_iload_n dL_law_1051 3 rfl ?_
    refine x_iconst (v := (3 : Int32)) dL_law_1052 (by decide) ?_
    refine x_iadd dL_law_1053 ?_
    obtain ⟨v286, ev286, h⟩ := x_bd h
    refine x_sld dL_law_1054 ev286 ?_
    refine x_aload_n dL_law_1055 0 rfl ?_
    refine x_iload_n dL_law_1056 3 rfl ?_
    refine x_iconst (v := (4 : Int32)) dL_law_1057 (by decide) ?_
    refine x_iadd dL_law_1058 ?_
    obtain ⟨v287, ev287, h⟩ := x_bd h
    refine x_sld dL_law_1059 ev287 ?_
    refine x_aload_n dL_law_1060 0 rfl ?_
    refine x_iload_n dL_law_1061 3 rfl ?_
    refine x_iconst (v := (5 : Int32)) dL_law_1062 (by decide) ?_
    refine x_iadd dL_law_1063 ?_
    obtain ⟨v288, ev288, h⟩ := x_bd h
    refine x_sld dL_law_1064 ev288 ?_
    obtain ⟨u289, eu289, h⟩ := x_bd h
    obtain ⟨p290, ep290, h⟩ := x_bd h
    refine x_callVI [.int v284, .int v285, .int v286, .int v287, .int v288] [] clX8 me_X8_shift w_ml_RL_150 w_im_yX8_shift w_se_yX8_shift (Nat.le_of_ble_eq_true rfl) (Nat.le_of_ble_eq_true rfl) rfl (Nat.le_of_ble_eq_true rfl) (Nat.le_of_ble_eq_true rfl) (Nat.le_of_ble_eq_true rfl) dL_law_1065 eu289 (c_X8_shift l D aC bs (sz + 128) ep290) rfl ?_
    refine x_aload_n dL_law_1068 2 rfl ?_
    refine x_aload_n dL_law_1069 0 rfl ?_
    refine x_iload_n dL_law_1070 3 rfl ?_
    refine x_iconst (v := (1 : Int32)) dL_law_1071 (by decide) ?_
    refine x_iadd dL_law_1072 ?_
    obtain ⟨v291, ev291, h⟩ := x_bd h
    refine x_sld dL_law_1073 ev291 ?_
    refine x_aload_n dL_law_1074 0 rfl ?_
    refine x_iload_n dL_law_1075 3 rfl ?_
    refine x_iconst (v := (2 : Int32)) dL_law_1076 (by decide) ?_
    refine x_iadd dL_law_1077 ?_
    obtain ⟨v292, ev292, h⟩ := x_bd h
    refine x_sld dL_law_1078 ev292 ?_
    refine x_aload_n dL_law_1079 0 rfl ?_
    refine x_iload_n dL_law_1080 3 rfl ?_
    refine x_iconst (v := (3 : Int32)) dL_law_1081 (by decide) ?_
    refine x_iadd dL_law_1082 ?_
    obtain ⟨v293, ev293, h⟩ := x_bd h
    refine x_sld dL_law_1083 ev293 ?_
    refine x_aload_n dL_law_1084 0 rfl ?_
    refine x_iload_n dL_law_1085 3 rfl ?_
    refine x_iconst (v := (4 : Int32)) dL_law_1086 (by decide) ?_
    refine x_iadd dL_law_1087 ?_
    obtain ⟨v294, ev294, h⟩ := x_bd h
    refine x_sld dL_law_1088 ev294 ?_
    refine x_aload_n dL_law_1089 0 rfl ?_
    refine x_iload_n dL_law_1090 3 rfl ?_
    refine x_iconst (v := (5 : Int32)) dL_law_1091 (by decide) ?_
    refine x_iadd dL_law_1092 ?_
    obtain ⟨v295, ev295, h⟩ := x_bd h
    refine x_sld dL_law_1093 ev295 ?_
    obtain ⟨u296, eu296, h⟩ := x_bd h
    obtain ⟨p297, ep297, h⟩ := x_bd h
    refine x_callVI [.int v291, .int v292, .int v293, .int v294, .int v295] [.int p290.1] clX9 me_X9_shift w_ml_RL_154 w_im_yX9_shift w_se_yX9_shift (Nat.le_of_ble_eq_true rfl) (Nat.le_of_ble_eq_true rfl) rfl (Nat.le_of_ble_eq_true rfl) (Nat.le_of_ble_eq_true rfl) (Nat.le_of_ble_eq_true rfl) dL_law_1094 eu296 (c_X9_shift l D aC bs (sz + 128) ep297) rfl ?_
    refine x_icmp_eq 1102 dL_law_1097 (by decide) (fun c298 => ?_) (fun c298 => ?_)
    · have h := (if_pos c298).symm.trans h
      refine x_iinc (6 : Int32) 3 [(3, .int (q.1 + (6 : Int32))), (0, .ref b), (1, .ref a1), (2, .ref a2)] dL_law_1102 rfl (by decide) (by decide) rfl ?_
      refine x_goto 18 dL_law_1105 (by decide) ?_
      exact x_sub [1, 2, 3, 0] rfl (hk18 _ _ _ h)
    have h := (if_neg c298).symm.trans h
    refine x_iconst (v := (0 : Int32)) dL_law_1100 (by decide) ?_
    exact absurd h (fun h9 => by cases h9)
  have h := (if_neg c283).symm.trans h
  have nc7 := lv_neT c7 (a := 0) (by decide)
  have nc15 := lv_neT c15 (a := 1) (by decide)
  have nc23 := lv_neT c23 (a := 2) (by decide)
  have nc33 := lv_neT c33 (a := 3) (by decide)
  have nc43 := lv_neT c43 (a := 4) (by decide)
  have nc49 := lv_neT c49 (a := 5) (by decide)
  have nc57 := lv_neT c57 (a := 6) (by decide)
  have nc63 := lv_neT c63 (a := 7) (by decide)
  have nc69 := lv_neT c69 (a := 8) (by decide)
  have nc77 := lv_neT c77 (a := 9) (by decide)
  have nc83 := lv_neT c83 (a := 10) (by decide)
  have nc93 := lv_neT c93 (a := 11) (by decide)
  have nc101 := lv_neT c101 (a := 12) (by decide)
  have nc111 := lv_neT c111 (a := 13) (by decide)
  have nc121 := lv_neT c121 (a := 14) (by decide)
  have nc129 := lv_neT c129 (a := 15) (by decide)
  have nc139 := lv_neT c139 (a := 16) (by decide)
  have nc147 := lv_neT c147 (a := 17) (by decide)
  have nc157 := lv_neT c157 (a := 18) (by decide)
  have nc167 := lv_neT c167 (a := 19) (by decide)
  have nc175 := lv_neT c175 (a := 20) (by decide)
  have nc183 := lv_neT c183 (a := 21) (by decide)
  have nc193 := lv_neT c193 (a := 22) (by decide)
  have nc201 := lv_neT c201 (a := 23) (by decide)
  have nc211 := lv_neT c211 (a := 24) (by decide)
  have nc217 := lv_neT c217 (a := 25) (by decide)
  have nc227 := lv_neT c227 (a := 26) (by decide)
  have nc233 := lv_neT c233 (a := 27) (by decide)
  have nc239 := lv_neT c239 (a := 28) (by decide)
  have nc247 := lv_neT c247 (a := 29) (by decide)
  have nc259 := lv_neT c259 (a := 30) (by decide)
  have nc273 := lv_neT c273 (a := 31) (by decide)
  have nc283 := lv_neT c283 (a := 32) (by decide)
  refine x_tabD 1102 dL_law_33 ?_ (by decide) ?_
  · by_cases r1 : ((v6 &&& (63 : Int32))).toInt < 0
    · exact Or.inl r1
    by_cases r2 : 32 < ((v6 &&& (63 : Int32))).toInt
    · exact Or.inr (Or.inl r2)
    exfalso
    omega
  refine x_iinc (6 : Int32) 3 [(3, .int (q.1 + (6 : Int32))), (0, .ref b), (1, .ref a1), (2, .ref a2)] dL_law_1102 rfl (by decide) (by decide) rfl ?_
  refine x_goto 18 dL_law_1105 (by decide) ?_
  exact x_sub [1, 2, 3, 0] rfl (hk18 _ _ _ h)
def f_L_law (F sz b L : Nat) (xs : Nat → Int32) (M : XM) : Option (Unit) := (x_nw M sz (.inr (8, [.null, .null, .int 0, .null, .null, .null, .null, .null, .null]))).bind fun m1 => (f_X8_init F sz (sz + 1) m1).bind fun p2 => (x_nw p2 (sz + 111) (.inr (9, [.null, .null, .int 0, .null, .int 0, .null, .null, .int 0, .int 0, .int 0, .null, .null, .null, .null, .null, .null, .null, .null, .int 0, .null, .null, .null]))).bind fun m3 => (f_X9_init F (sz + 111) (sz + 112) m3).bind fun p4 => x_it (b_L_law_18 F sz b L xs (sz) (sz + 111)) F ((0 : Int32), p4)
set_option maxHeartbeats 4000000 in
set_option maxRecDepth 100000 in
theorem c_L_law (l : Launch) (D : va_G) (aC : FieldType → ClassId) (bs : Nat) (F sz b L : Nat) (xs : Nat → Int32) (M : XM) {r : Unit} (h : f_L_law F sz b L xs M = some r) : x_V l D aC bs yL_law cL_law 4 (some .boolean) room_1 (x_ZL b L xs bs lw_Z) 0 [(0, .ref b)] [] sz M 0 0 := by
  unfold f_L_law at h
  obtain ⟨m1, em1, h⟩ := x_bd h
  refine x_new [.null, .null, .int 0, .null, .null, .null, .null, .null, .null] clX8 w_cl_RL_7 w_is_SwappedIntervals w_in_SwappedIntervals nwX8 (Nat.le_of_ble_eq_true rfl) (Nat.le_of_ble_eq_true rfl) dL_law_0 ?_
  refine x_castM (Option.some.inj em1) ?_
  refine x_dup dL_law_3 rfl ?_
  obtain ⟨p2, ep2, h⟩ := x_bd h
  refine x_callIV [] [.ref sz] me_X8_init w_ml_RL_9 w_im_yX8_init rfl (Nat.le_of_ble_eq_true rfl) (Nat.le_of_ble_eq_true rfl) rfl (Nat.le_of_ble_eq_true rfl) (Nat.le_of_ble_eq_true rfl) (Nat.le_of_ble_eq_true rfl) dL_law_4 (c_X8_init l D aC bs (sz + 1) F ep2) rfl ?_
  refine x_astore_n 1 [(1, .ref sz), (0, .ref b)] dL_law_7 rfl (by decide) rfl ?_
  obtain ⟨m3, em3, h⟩ := x_bd h
  refine x_new [.null, .null, .int 0, .null, .int 0, .null, .null, .int 0, .int 0, .int 0, .null, .null, .null, .null, .null, .null, .null, .null, .int 0, .null, .null, .null] clX9 w_cl_RL_10 w_is_SwappedIntervalsModel w_in_SwappedIntervalsModel nwX9 (Nat.le_of_ble_eq_true rfl) (Nat.le_of_ble_eq_true rfl) dL_law_8 ?_
  refine x_castM (Option.some.inj em3) ?_
  refine x_dup dL_law_11 rfl ?_
  obtain ⟨p4, ep4, h⟩ := x_bd h
  refine x_callIV [] [.ref (sz + 111)] me_X9_init w_ml_RL_12 w_im_yX9_init rfl (Nat.le_of_ble_eq_true rfl) (Nat.le_of_ble_eq_true rfl) rfl (Nat.le_of_ble_eq_true rfl) (Nat.le_of_ble_eq_true rfl) (Nat.le_of_ble_eq_true rfl) dL_law_12 (c_X9_init l D aC bs (sz + 112) F ep4) rfl ?_
  refine x_astore_n 2 [(2, .ref (sz + 111)), (1, .ref sz), (0, .ref b)] dL_law_15 rfl (by decide) rfl ?_
  refine x_iconst (v := (0 : Int32)) dL_law_16 (by decide) ?_
  refine x_istore_n 3 [(3, .int (0 : Int32)), (2, .ref (sz + 111)), (1, .ref sz), (0, .ref b)] dL_law_17 rfl (by decide) rfl ?_
  exact x_sub [3, 2, 1, 0] rfl (lp_L_law_18 l D aC bs F sz b L xs (sz) (sz + 111)  F _ _ _ h)
