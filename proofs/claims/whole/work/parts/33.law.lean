section LA
variable {x : xG} {p : Program} {l : Launch} {e : Env} {R : Room} {s : State} {m : MethodId} {args : Array Value} {below : List Frame} {meth : Method} {c : Code} {Q : State → Prop} {cc : ByteArray} {nL : Nat} {pc : Nat} {lo : List (Nat × Value)} {st : List Value} {w : Wd} {i j : Nat}
def j_L_law_1041 (n0 : Nat) (sc : Nat → Int32) (mc ms : Nat) (B : Nat → Nat → Nat → Int32 → Nat → Nat → Wd → Prop)  (K : Int32 → Wd → Prop) (a1 : Nat) (a2 : Nat) (a3 : Nat) (a4 : Int32) (a5 : Int32) (s0 : Int32) (s1 : Int32) (s2 : Nat) (i0 j0 : Nat) (w : Wd) : Prop :=
  isK w s2 12 ∧ w_X12_together s2 s1 s0 (fun r306 w307 => isK w307 a2 12 ∧ w_X12_thrown a2 (fun r309 w310 => ((r309 = a5 → ((a5 = 0 → isK w310 a3 21 ∧ vp_in 0 (wn w310 a3) ∧ (((lg_cmp (wL w310 a3 (0 : Int32).toNatClampNeg) r306.toInt64) = 0 → B a1 a2 a3 (a4 + 6) i0 j0 w310) ∧ (¬ (lg_cmp (wL w310 a3 (0 : Int32).toNatClampNeg) r306.toInt64) = 0 → K 0 w310))) ∧ (¬ a5 = 0 → B a1 a2 a3 (a4 + 6) i0 j0 w310))) ∧ (¬ r309 = a5 → K 0 w310))) w307) w
def j_L_law_1014 (n0 : Nat) (sc : Nat → Int32) (mc ms : Nat) (B : Nat → Nat → Nat → Int32 → Nat → Nat → Wd → Prop)  (K : Int32 → Wd → Prop) (a1 : Nat) (a2 : Nat) (a3 : Nat) (a4 : Int32) (s0 : Int32) (s1 : Int32) (s2 : Nat) (i0 j0 : Nat) (w : Wd) : Prop :=
  (i0 + 1 ≤ mc ∧ j0 + 6 ≤ ms) ∧ w_L_together 1 6 s2 s1 s0 a3 (fun r299 w300 => vp_in (a4 + 1) n0 ∧ vp_in (a4 + 2) n0 ∧ (((sc (a4 + 2).toNatClampNeg) = 0 → j_L_law_1041 n0 sc mc ms B K a1 a2 a3 a4 r299 0 (sc (a4 + 1).toNatClampNeg) a2 (i0 + 1) (j0 + 6) w300) ∧ (¬ (sc (a4 + 2).toNatClampNeg) = 0 → j_L_law_1041 n0 sc mc ms B K a1 a2 a3 a4 r299 1 (sc (a4 + 1).toNatClampNeg) a2 (i0 + 1) (j0 + 6) w300))) w
def l_L_law_23 (n0 : Nat) (sc : Nat → Int32) (mc ms : Nat)  (K : Int32 → Wd → Prop) : Nat → Nat → Nat → Nat → Int32 → Nat → Nat → Wd → Prop
  | 0, _, _, _, _, _, _, _ => False
  | n + 1, a1, a2, a3, a4, i0, j0, w => ((((Int32.ofNat n0) - 6) < a4 → K 1 w) ∧ (¬ ((Int32.ofNat n0) - 6) < a4 → vp_in a4 n0 ∧ (((sc a4.toNatClampNeg) &&& 63 = 0 → vp_in (a4 + 1) n0 ∧ vp_in (a4 + 2) n0 ∧ vp_in (a4 + 3) n0 ∧ vp_in (a4 + 4) n0 ∧ vp_in (a4 + 5) n0 ∧ isK w a1 11 ∧ w_X11_feed a1 (sc (a4 + 1).toNatClampNeg) (sc (a4 + 2).toNatClampNeg) (sc (a4 + 3).toNatClampNeg) (sc (a4 + 4).toNatClampNeg) (sc (a4 + 5).toNatClampNeg) (fun r81 w82 => vp_in (a4 + 1) n0 ∧ vp_in (a4 + 2) n0 ∧ vp_in (a4 + 3) n0 ∧ vp_in (a4 + 4) n0 ∧ vp_in (a4 + 5) n0 ∧ isK w82 a2 12 ∧ w_X12_feed a2 (sc (a4 + 1).toNatClampNeg) (sc (a4 + 2).toNatClampNeg) (sc (a4 + 3).toNatClampNeg) (sc (a4 + 4).toNatClampNeg) (sc (a4 + 5).toNatClampNeg) (fun r89 w90 => ((r81 = r89 → l_L_law_23 n0 sc mc ms K n a1 a2 a3 (a4 + 6) i0 j0 w90) ∧ (¬ r81 = r89 → K 0 w90))) w82) w) ∧ (¬ (sc a4.toNatClampNeg) &&& 63 = 0 → (((sc a4.toNatClampNeg) &&& 63 = 1 → vp_in (a4 + 1) n0 ∧ ∃ c96 s97, (i0 + c96 ≤ mc ∧ j0 + s97 ≤ ms) ∧ w_L_hills c96 s97 a1 (sc (a4 + 1).toNatClampNeg) a3 (fun r93 w94 => vp_in (a4 + 1) n0 ∧ isK w94 a2 12 ∧ w_X12_hills a2 (sc (a4 + 1).toNatClampNeg) (fun r100 w101 => isK w101 a2 12 ∧ w_X12_thrown a2 (fun r103 w104 => ((r103 = r93 → ((r93 = 0 → isK w104 a3 21 ∧ vp_in 0 (wn w104 a3) ∧ (((lg_cmp (wL w104 a3 (0 : Int32).toNatClampNeg) r100.toInt64) = 0 → l_L_law_23 n0 sc mc ms K n a1 a2 a3 (a4 + 6) (i0 + c96) (j0 + s97) w104) ∧ (¬ (lg_cmp (wL w104 a3 (0 : Int32).toNatClampNeg) r100.toInt64) = 0 → K 0 w104))) ∧ (¬ r93 = 0 → l_L_law_23 n0 sc mc ms K n a1 a2 a3 (a4 + 6) (i0 + c96) (j0 + s97) w104))) ∧ (¬ r103 = r93 → K 0 w104))) w101) w94) w) ∧ (¬ (sc a4.toNatClampNeg) &&& 63 = 1 → (((sc a4.toNatClampNeg) &&& 63 = 2 → vp_in (a4 + 1) n0 ∧ isK w a1 11 ∧ w_X11_fault a1 (sc (a4 + 1).toNatClampNeg) (fun r112 w113 => vp_in (a4 + 1) n0 ∧ isK w113 a2 12 ∧ w_X12_fault a2 (sc (a4 + 1).toNatClampNeg) (fun r116 w117 => ((r112 = r116 → l_L_law_23 n0 sc mc ms K n a1 a2 a3 (a4 + 6) i0 j0 w117) ∧ (¬ r112 = r116 → K 0 w117))) w113) w) ∧ (¬ (sc a4.toNatClampNeg) &&& 63 = 2 → (((sc a4.toNatClampNeg) &&& 63 = 3 → vp_in (a4 + 1) n0 ∧ vp_in (a4 + 2) n0 ∧ (i0 + 2 ≤ mc ∧ j0 + 12 ≤ ms) ∧ w_L_well 2 12 a1 (sc (a4 + 1).toNatClampNeg) (sc (a4 + 2).toNatClampNeg) a3 (fun r121 w122 => vp_in (a4 + 1) n0 ∧ vp_in (a4 + 2) n0 ∧ isK w122 a2 12 ∧ w_X12_well a2 (sc (a4 + 1).toNatClampNeg) (sc (a4 + 2).toNatClampNeg) (fun r127 w128 => isK w128 a2 12 ∧ w_X12_thrown a2 (fun r130 w131 => ((r130 = r121 → ((r121 = 0 → isK w131 a3 21 ∧ vp_in 0 (wn w131 a3) ∧ (((lg_cmp (wL w131 a3 (0 : Int32).toNatClampNeg) r127.toInt64) = 0 → l_L_law_23 n0 sc mc ms K n a1 a2 a3 (a4 + 6) (i0 + 2) (j0 + 12) w131) ∧ (¬ (lg_cmp (wL w131 a3 (0 : Int32).toNatClampNeg) r127.toInt64) = 0 → K 0 w131))) ∧ (¬ r121 = 0 → l_L_law_23 n0 sc mc ms K n a1 a2 a3 (a4 + 6) (i0 + 2) (j0 + 12) w131))) ∧ (¬ r130 = r121 → K 0 w131))) w128) w122) w) ∧ (¬ (sc a4.toNatClampNeg) &&& 63 = 3 → (((sc a4.toNatClampNeg) &&& 63 = 4 → vp_in (a4 + 1) n0 ∧ vp_in (a4 + 2) n0 ∧ (i0 + 2 ≤ mc ∧ j0 + 12 ≤ ms) ∧ w_L_house 2 12 a1 (sc (a4 + 1).toNatClampNeg) (sc (a4 + 2).toNatClampNeg) a3 (fun r139 w140 => vp_in (a4 + 1) n0 ∧ vp_in (a4 + 2) n0 ∧ isK w140 a2 12 ∧ w_X12_house a2 (sc (a4 + 1).toNatClampNeg) (sc (a4 + 2).toNatClampNeg) (fun r145 w146 => isK w146 a2 12 ∧ w_X12_thrown a2 (fun r148 w149 => ((r148 = r139 → ((r139 = 0 → isK w149 a3 21 ∧ vp_in 0 (wn w149 a3) ∧ (((lg_cmp (wL w149 a3 (0 : Int32).toNatClampNeg) r145.toInt64) = 0 → l_L_law_23 n0 sc mc ms K n a1 a2 a3 (a4 + 6) (i0 + 2) (j0 + 12) w149) ∧ (¬ (lg_cmp (wL w149 a3 (0 : Int32).toNatClampNeg) r145.toInt64) = 0 → K 0 w149))) ∧ (¬ r139 = 0 → l_L_law_23 n0 sc mc ms K n a1 a2 a3 (a4 + 6) (i0 + 2) (j0 + 12) w149))) ∧ (¬ r148 = r139 → K 0 w149))) w146) w140) w) ∧ (¬ (sc a4.toNatClampNeg) &&& 63 = 4 → (((sc a4.toNatClampNeg) &&& 63 = 5 → isK w a1 11 ∧ w_X11_awake a1 (fun r156 w157 => isK w157 a2 12 ∧ w_X12_awake a2 (fun r159 w160 => ((r156 = r159 → l_L_law_23 n0 sc mc ms K n a1 a2 a3 (a4 + 6) i0 j0 w160) ∧ (¬ r156 = r159 → K 0 w160))) w157) w) ∧ (¬ (sc a4.toNatClampNeg) &&& 63 = 5 → (((sc a4.toNatClampNeg) &&& 63 = 6 → isK w a1 11 ∧ w_X11_water a1 (fun r163 w164 => isK w164 a2 12 ∧ w_X12_water a2 (fun r166 w167 => ((r163 = r166 → l_L_law_23 n0 sc mc ms K n a1 a2 a3 (a4 + 6) i0 j0 w167) ∧ (¬ r163 = r166 → K 0 w167))) w164) w) ∧ (¬ (sc a4.toNatClampNeg) &&& 63 = 6 → (((sc a4.toNatClampNeg) &&& 63 = 7 → vp_in (a4 + 1) n0 ∧ vp_in (a4 + 2) n0 ∧ isK w a1 11 ∧ w_X11_draw a1 (sc (a4 + 1).toNatClampNeg) (sc (a4 + 2).toNatClampNeg) (fun r172 w173 => vp_in (a4 + 1) n0 ∧ vp_in (a4 + 2) n0 ∧ isK w173 a2 12 ∧ w_X12_draw a2 (sc (a4 + 1).toNatClampNeg) (sc (a4 + 2).toNatClampNeg) (fun r177 w178 => ((r172 = r177 → l_L_law_23 n0 sc mc ms K n a1 a2 a3 (a4 + 6) i0 j0 w178) ∧ (¬ r172 = r177 → K 0 w178))) w173) w) ∧ (¬ (sc a4.toNatClampNeg) &&& 63 = 7 → (((sc a4.toNatClampNeg) &&& 63 = 8 → vp_in (a4 + 1) n0 ∧ isK w a1 11 ∧ w_X11_lull a1 (sc (a4 + 1).toNatClampNeg) (fun r182 w183 => vp_in (a4 + 1) n0 ∧ isK w183 a2 12 ∧ w_X12_lull a2 (sc (a4 + 1).toNatClampNeg) (fun r186 w187 => ((r182 = r186 → l_L_law_23 n0 sc mc ms K n a1 a2 a3 (a4 + 6) i0 j0 w187) ∧ (¬ r182 = r186 → K 0 w187))) w183) w) ∧ (¬ (sc a4.toNatClampNeg) &&& 63 = 8 → (((sc a4.toNatClampNeg) &&& 63 = 9 → vp_in (a4 + 1) n0 ∧ isK w a1 11 ∧ w_X11_coin a1 (sc (a4 + 1).toNatClampNeg) (fun r191 w192 => vp_in (a4 + 1) n0 ∧ isK w192 a2 12 ∧ w_X12_coin a2 (sc (a4 + 1).toNatClampNeg) (fun r195 w196 => ((r191 = r195 → l_L_law_23 n0 sc mc ms K n a1 a2 a3 (a4 + 6) i0 j0 w196) ∧ (¬ r191 = r195 → K 0 w196))) w192) w) ∧ (¬ (sc a4.toNatClampNeg) &&& 63 = 9 → (((sc a4.toNatClampNeg) &&& 63 = 10 → isK w a1 11 ∧ w_X11_thunder a1 (fun r199 w200 => isK w200 a2 12 ∧ w_X12_thunder a2 (fun r202 w203 => ((r199 = r202 → l_L_law_23 n0 sc mc ms K n a1 a2 a3 (a4 + 6) i0 j0 w203) ∧ (¬ r199 = r202 → K 0 w203))) w200) w) ∧ (¬ (sc a4.toNatClampNeg) &&& 63 = 10 → (((sc a4.toNatClampNeg) &&& 63 = 11 → vp_in (a4 + 1) n0 ∧ (i0 + 1 ≤ mc ∧ j0 + 6 ≤ ms) ∧ w_L_hours 1 6 a1 (sc (a4 + 1).toNatClampNeg) a3 (fun r206 w207 => vp_in (a4 + 1) n0 ∧ isK w207 a2 12 ∧ w_X12_hours a2 (sc (a4 + 1).toNatClampNeg) (fun r211 w212 => isK w212 a2 12 ∧ w_X12_thrown a2 (fun r214 w215 => ((r214 = r206 → ((r206 = 0 → isK w215 a3 21 ∧ vp_in 0 (wn w215 a3) ∧ (((lg_cmp (wL w215 a3 (0 : Int32).toNatClampNeg) r211.toInt64) = 0 → l_L_law_23 n0 sc mc ms K n a1 a2 a3 (a4 + 6) (i0 + 1) (j0 + 6) w215) ∧ (¬ (lg_cmp (wL w215 a3 (0 : Int32).toNatClampNeg) r211.toInt64) = 0 → K 0 w215))) ∧ (¬ r206 = 0 → l_L_law_23 n0 sc mc ms K n a1 a2 a3 (a4 + 6) (i0 + 1) (j0 + 6) w215))) ∧ (¬ r214 = r206 → K 0 w215))) w212) w207) w) ∧ (¬ (sc a4.toNatClampNeg) &&& 63 = 11 → (((sc a4.toNatClampNeg) &&& 63 = 12 → vp_in (a4 + 1) n0 ∧ (i0 + 2 ≤ mc ∧ j0 + 12 ≤ ms) ∧ w_L_undo 2 12 a1 (sc (a4 + 1).toNatClampNeg) a3 (fun r222 w223 => vp_in (a4 + 1) n0 ∧ isK w223 a2 12 ∧ w_X12_undo a2 (sc (a4 + 1).toNatClampNeg) (fun r227 w228 => isK w228 a2 12 ∧ w_X12_thrown a2 (fun r230 w231 => ((r230 = r222 → ((r222 = 0 → isK w231 a3 21 ∧ vp_in 0 (wn w231 a3) ∧ (((lg_cmp (wL w231 a3 (0 : Int32).toNatClampNeg) r227.toInt64) = 0 → l_L_law_23 n0 sc mc ms K n a1 a2 a3 (a4 + 6) (i0 + 2) (j0 + 12) w231) ∧ (¬ (lg_cmp (wL w231 a3 (0 : Int32).toNatClampNeg) r227.toInt64) = 0 → K 0 w231))) ∧ (¬ r222 = 0 → l_L_law_23 n0 sc mc ms K n a1 a2 a3 (a4 + 6) (i0 + 2) (j0 + 12) w231))) ∧ (¬ r230 = r222 → K 0 w231))) w228) w223) w) ∧ (¬ (sc a4.toNatClampNeg) &&& 63 = 12 → (((sc a4.toNatClampNeg) &&& 63 = 13 → vp_in (a4 + 1) n0 ∧ vp_in (a4 + 2) n0 ∧ (i0 + 3 ≤ mc ∧ j0 + 18 ≤ ms) ∧ w_L_judge 3 18 a1 (sc (a4 + 1).toNatClampNeg) (sc (a4 + 2).toNatClampNeg) a3 (fun r239 w240 => vp_in (a4 + 1) n0 ∧ vp_in (a4 + 2) n0 ∧ isK w240 a2 12 ∧ w_X12_judge a2 (sc (a4 + 1).toNatClampNeg) (sc (a4 + 2).toNatClampNeg) (fun r245 w246 => isK w246 a2 12 ∧ w_X12_thrown a2 (fun r248 w249 => ((r248 = r239 → ((r239 = 0 → isK w249 a3 21 ∧ vp_in 0 (wn w249 a3) ∧ (((lg_cmp (wL w249 a3 (0 : Int32).toNatClampNeg) r245.toInt64) = 0 → l_L_law_23 n0 sc mc ms K n a1 a2 a3 (a4 + 6) (i0 + 3) (j0 + 18) w249) ∧ (¬ (lg_cmp (wL w249 a3 (0 : Int32).toNatClampNeg) r245.toInt64) = 0 → K 0 w249))) ∧ (¬ r239 = 0 → l_L_law_23 n0 sc mc ms K n a1 a2 a3 (a4 + 6) (i0 + 3) (j0 + 18) w249))) ∧ (¬ r248 = r239 → K 0 w249))) w246) w240) w) ∧ (¬ (sc a4.toNatClampNeg) &&& 63 = 13 → (((sc a4.toNatClampNeg) &&& 63 = 14 → vp_in (a4 + 1) n0 ∧ (i0 + 2 ≤ mc ∧ j0 + 12 ≤ ms) ∧ w_L_perform 2 12 a1 (sc (a4 + 1).toNatClampNeg) a3 (fun r256 w257 => vp_in (a4 + 1) n0 ∧ isK w257 a2 12 ∧ w_X12_perform a2 (sc (a4 + 1).toNatClampNeg) (fun r261 w262 => isK w262 a2 12 ∧ w_X12_thrown a2 (fun r264 w265 => ((r264 = r256 → ((r256 = 0 → isK w265 a3 21 ∧ vp_in 0 (wn w265 a3) ∧ (((lg_cmp (wL w265 a3 (0 : Int32).toNatClampNeg) r261.toInt64) = 0 → l_L_law_23 n0 sc mc ms K n a1 a2 a3 (a4 + 6) (i0 + 2) (j0 + 12) w265) ∧ (¬ (lg_cmp (wL w265 a3 (0 : Int32).toNatClampNeg) r261.toInt64) = 0 → K 0 w265))) ∧ (¬ r256 = 0 → l_L_law_23 n0 sc mc ms K n a1 a2 a3 (a4 + 6) (i0 + 2) (j0 + 12) w265))) ∧ (¬ r264 = r256 → K 0 w265))) w262) w257) w) ∧ (¬ (sc a4.toNatClampNeg) &&& 63 = 14 → (((sc a4.toNatClampNeg) &&& 63 = 15 → vp_in (a4 + 1) n0 ∧ vp_in (a4 + 2) n0 ∧ (i0 + 2 ≤ mc ∧ j0 + 7 ≤ ms) ∧ w_L_year 2 7 a1 (sc (a4 + 1).toNatClampNeg) (sc (a4 + 2).toNatClampNeg) a3 (fun r273 w274 => vp_in (a4 + 1) n0 ∧ vp_in (a4 + 2) n0 ∧ isK w274 a2 12 ∧ w_X12_year a2 (sc (a4 + 1).toNatClampNeg) (sc (a4 + 2).toNatClampNeg) (fun r279 w280 => isK w280 a2 12 ∧ w_X12_thrown a2 (fun r282 w283 => ((r282 = r273 → ((r273 = 0 → isK w283 a3 21 ∧ vp_in 0 (wn w283 a3) ∧ (((lg_cmp (wL w283 a3 (0 : Int32).toNatClampNeg) r279.toInt64) = 0 → l_L_law_23 n0 sc mc ms K n a1 a2 a3 (a4 + 6) (i0 + 2) (j0 + 7) w283) ∧ (¬ (lg_cmp (wL w283 a3 (0 : Int32).toNatClampNeg) r279.toInt64) = 0 → K 0 w283))) ∧ (¬ r273 = 0 → l_L_law_23 n0 sc mc ms K n a1 a2 a3 (a4 + 6) (i0 + 2) (j0 + 7) w283))) ∧ (¬ r282 = r273 → K 0 w283))) w280) w274) w) ∧ (¬ (sc a4.toNatClampNeg) &&& 63 = 15 → (((sc a4.toNatClampNeg) &&& 63 = 16 → isK w a1 11 ∧ w_X11_joint a1 (fun r290 w291 => isK w291 a2 12 ∧ w_X12_joint a2 (fun r293 w294 => ((r290 = r293 → l_L_law_23 n0 sc mc ms K n a1 a2 a3 (a4 + 6) i0 j0 w294) ∧ (¬ r290 = r293 → K 0 w294))) w291) w) ∧ (¬ (sc a4.toNatClampNeg) &&& 63 = 16 → (((sc a4.toNatClampNeg) &&& 63 = 17 → vp_in (a4 + 1) n0 ∧ vp_in (a4 + 2) n0 ∧ (((sc (a4 + 2).toNatClampNeg) = 0 → j_L_law_1014 n0 sc mc ms (l_L_law_23 n0 sc mc ms K n) K a1 a2 a3 a4 0 (sc (a4 + 1).toNatClampNeg) a1 i0 j0 w) ∧ (¬ (sc (a4 + 2).toNatClampNeg) = 0 → j_L_law_1014 n0 sc mc ms (l_L_law_23 n0 sc mc ms K n) K a1 a2 a3 a4 1 (sc (a4 + 1).toNatClampNeg) a1 i0 j0 w))) ∧ (¬ (sc a4.toNatClampNeg) &&& 63 = 17 → (((sc a4.toNatClampNeg) &&& 63 = 18 → vp_in (a4 + 1) n0 ∧ (i0 + 1 ≤ mc ∧ j0 + 6 ≤ ms) ∧ w_L_wakesIn 1 6 a1 (sc (a4 + 1).toNatClampNeg) a3 (fun r317 w318 => vp_in (a4 + 1) n0 ∧ isK w318 a2 12 ∧ w_X12_wakesIn a2 (sc (a4 + 1).toNatClampNeg) (fun r322 w323 => isK w323 a2 12 ∧ w_X12_thrown a2 (fun r325 w326 => ((r325 = r317 → ((r317 = 0 → isK w326 a3 21 ∧ vp_in 0 (wn w326 a3) ∧ (((lg_cmp (wL w326 a3 (0 : Int32).toNatClampNeg) r322.toInt64) = 0 → l_L_law_23 n0 sc mc ms K n a1 a2 a3 (a4 + 6) (i0 + 1) (j0 + 6) w326) ∧ (¬ (lg_cmp (wL w326 a3 (0 : Int32).toNatClampNeg) r322.toInt64) = 0 → K 0 w326))) ∧ (¬ r317 = 0 → l_L_law_23 n0 sc mc ms K n a1 a2 a3 (a4 + 6) (i0 + 1) (j0 + 6) w326))) ∧ (¬ r325 = r317 → K 0 w326))) w323) w318) w) ∧ (¬ (sc a4.toNatClampNeg) &&& 63 = 18 → (((sc a4.toNatClampNeg) &&& 63 = 19 → vp_in (a4 + 1) n0 ∧ (i0 + 1 ≤ mc ∧ j0 + 6 ≤ ms) ∧ w_L_stays 1 6 a1 (sc (a4 + 1).toNatClampNeg) a3 (fun r333 w334 => vp_in (a4 + 1) n0 ∧ isK w334 a2 12 ∧ w_X12_stays a2 (sc (a4 + 1).toNatClampNeg) (fun r338 w339 => isK w339 a2 12 ∧ w_X12_thrown a2 (fun r341 w342 => ((r341 = r333 → ((r333 = 0 → isK w342 a3 21 ∧ vp_in 0 (wn w342 a3) ∧ (((lg_cmp (wL w342 a3 (0 : Int32).toNatClampNeg) r338.toInt64) = 0 → l_L_law_23 n0 sc mc ms K n a1 a2 a3 (a4 + 6) (i0 + 1) (j0 + 6) w342) ∧ (¬ (lg_cmp (wL w342 a3 (0 : Int32).toNatClampNeg) r338.toInt64) = 0 → K 0 w342))) ∧ (¬ r333 = 0 → l_L_law_23 n0 sc mc ms K n a1 a2 a3 (a4 + 6) (i0 + 1) (j0 + 6) w342))) ∧ (¬ r341 = r333 → K 0 w342))) w339) w334) w) ∧ (¬ (sc a4.toNatClampNeg) &&& 63 = 19 → (((sc a4.toNatClampNeg) &&& 63 = 20 → vp_in (a4 + 1) n0 ∧ (i0 + 1 ≤ mc ∧ j0 + 6 ≤ ms) ∧ w_L_withAwake 1 6 a1 (sc (a4 + 1).toNatClampNeg) a3 (fun r349 w350 => vp_in (a4 + 1) n0 ∧ isK w350 a2 12 ∧ w_X12_withAwake a2 (sc (a4 + 1).toNatClampNeg) (fun r354 w355 => isK w355 a2 12 ∧ w_X12_thrown a2 (fun r357 w358 => ((r357 = r349 → ((r349 = 0 → isK w358 a3 21 ∧ vp_in 0 (wn w358 a3) ∧ (((lg_cmp (wL w358 a3 (0 : Int32).toNatClampNeg) r354.toInt64) = 0 → l_L_law_23 n0 sc mc ms K n a1 a2 a3 (a4 + 6) (i0 + 1) (j0 + 6) w358) ∧ (¬ (lg_cmp (wL w358 a3 (0 : Int32).toNatClampNeg) r354.toInt64) = 0 → K 0 w358))) ∧ (¬ r349 = 0 → l_L_law_23 n0 sc mc ms K n a1 a2 a3 (a4 + 6) (i0 + 1) (j0 + 6) w358))) ∧ (¬ r357 = r349 → K 0 w358))) w355) w350) w) ∧ (¬ (sc a4.toNatClampNeg) &&& 63 = 20 → (((sc a4.toNatClampNeg) &&& 63 = 21 → vp_in (a4 + 1) n0 ∧ (i0 + 1 ≤ mc ∧ j0 + 6 ≤ ms) ∧ w_L_stillest 1 6 a1 (sc (a4 + 1).toNatClampNeg) a3 (fun r365 w366 => vp_in (a4 + 1) n0 ∧ isK w366 a2 12 ∧ w_X12_stillest a2 (sc (a4 + 1).toNatClampNeg) (fun r370 w371 => isK w371 a2 12 ∧ w_X12_thrown a2 (fun r373 w374 => ((r373 = r365 → ((r365 = 0 → isK w374 a3 21 ∧ vp_in 0 (wn w374 a3) ∧ (((lg_cmp (wL w374 a3 (0 : Int32).toNatClampNeg) r370.toInt64) = 0 → l_L_law_23 n0 sc mc ms K n a1 a2 a3 (a4 + 6) (i0 + 1) (j0 + 6) w374) ∧ (¬ (lg_cmp (wL w374 a3 (0 : Int32).toNatClampNeg) r370.toInt64) = 0 → K 0 w374))) ∧ (¬ r365 = 0 → l_L_law_23 n0 sc mc ms K n a1 a2 a3 (a4 + 6) (i0 + 1) (j0 + 6) w374))) ∧ (¬ r373 = r365 → K 0 w374))) w371) w366) w) ∧ (¬ (sc a4.toNatClampNeg) &&& 63 = 21 → (((sc a4.toNatClampNeg) &&& 63 = 22 → vp_in (a4 + 1) n0 ∧ vp_in (a4 + 2) n0 ∧ (i0 + 2 ≤ mc ∧ j0 + 12 ≤ ms) ∧ w_L_chain 2 12 a1 (sc (a4 + 1).toNatClampNeg) (sc (a4 + 2).toNatClampNeg) a3 (fun r382 w383 => vp_in (a4 + 1) n0 ∧ vp_in (a4 + 2) n0 ∧ isK w383 a2 12 ∧ w_X12_chain a2 (sc (a4 + 1).toNatClampNeg) (sc (a4 + 2).toNatClampNeg) (fun r388 w389 => isK w389 a2 12 ∧ w_X12_thrown a2 (fun r391 w392 => ((r391 = r382 → ((r382 = 0 → isK w392 a3 21 ∧ vp_in 0 (wn w392 a3) ∧ (((lg_cmp (wL w392 a3 (0 : Int32).toNatClampNeg) r388.toInt64) = 0 → l_L_law_23 n0 sc mc ms K n a1 a2 a3 (a4 + 6) (i0 + 2) (j0 + 12) w392) ∧ (¬ (lg_cmp (wL w392 a3 (0 : Int32).toNatClampNeg) r388.toInt64) = 0 → K 0 w392))) ∧ (¬ r382 = 0 → l_L_law_23 n0 sc mc ms K n a1 a2 a3 (a4 + 6) (i0 + 2) (j0 + 12) w392))) ∧ (¬ r391 = r382 → K 0 w392))) w389) w383) w) ∧ (¬ (sc a4.toNatClampNeg) &&& 63 = 22 → (((sc a4.toNatClampNeg) &&& 63 = 23 → vp_in (a4 + 1) n0 ∧ vp_in (a4 + 2) n0 ∧ vp_in (a4 + 3) n0 ∧ (i0 + 4 ≤ mc ∧ j0 + 24 ≤ ms) ∧ w_L_wakes 4 24 a1 (sc (a4 + 1).toNatClampNeg) (sc (a4 + 2).toNatClampNeg) (sc (a4 + 3).toNatClampNeg) a3 (fun r401 w402 => vp_in (a4 + 1) n0 ∧ vp_in (a4 + 2) n0 ∧ vp_in (a4 + 3) n0 ∧ isK w402 a2 12 ∧ w_X12_wakes a2 (sc (a4 + 1).toNatClampNeg) (sc (a4 + 2).toNatClampNeg) (sc (a4 + 3).toNatClampNeg) (fun r408 w409 => isK w409 a2 12 ∧ w_X12_thrown a2 (fun r411 w412 => ((r411 = r401 → ((r401 = 0 → isK w412 a3 21 ∧ vp_in 0 (wn w412 a3) ∧ ((r408 = 0 → (((lg_cmp (wL w412 a3 (0 : Int32).toNatClampNeg) 0) = 0 → l_L_law_23 n0 sc mc ms K n a1 a2 a3 (a4 + 6) (i0 + 4) (j0 + 24) w412) ∧ (¬ (lg_cmp (wL w412 a3 (0 : Int32).toNatClampNeg) 0) = 0 → K 0 w412))) ∧ (¬ r408 = 0 → (((lg_cmp (wL w412 a3 (0 : Int32).toNatClampNeg) 1) = 0 → l_L_law_23 n0 sc mc ms K n a1 a2 a3 (a4 + 6) (i0 + 4) (j0 + 24) w412) ∧ (¬ (lg_cmp (wL w412 a3 (0 : Int32).toNatClampNeg) 1) = 0 → K 0 w412))))) ∧ (¬ r401 = 0 → l_L_law_23 n0 sc mc ms K n a1 a2 a3 (a4 + 6) (i0 + 4) (j0 + 24) w412))) ∧ (¬ r411 = r401 → K 0 w412))) w409) w402) w) ∧ (¬ (sc a4.toNatClampNeg) &&& 63 = 23 → (((sc a4.toNatClampNeg) &&& 63 = 24 → vp_in (a4 + 1) n0 ∧ (i0 + 1 ≤ mc ∧ j0 + 6 ≤ ms) ∧ w_L_quietest 1 6 a1 (sc (a4 + 1).toNatClampNeg) a3 (fun r421 w422 => vp_in (a4 + 1) n0 ∧ isK w422 a2 12 ∧ w_X12_quietest a2 (sc (a4 + 1).toNatClampNeg) (fun r426 w427 => isK w427 a2 12 ∧ w_X12_thrown a2 (fun r429 w430 => ((r429 = r421 → ((r421 = 0 → isK w430 a3 21 ∧ vp_in 0 (wn w430 a3) ∧ (((lg_cmp (wL w430 a3 (0 : Int32).toNatClampNeg) r426.toInt64) = 0 → l_L_law_23 n0 sc mc ms K n a1 a2 a3 (a4 + 6) (i0 + 1) (j0 + 6) w430) ∧ (¬ (lg_cmp (wL w430 a3 (0 : Int32).toNatClampNeg) r426.toInt64) = 0 → K 0 w430))) ∧ (¬ r421 = 0 → l_L_law_23 n0 sc mc ms K n a1 a2 a3 (a4 + 6) (i0 + 1) (j0 + 6) w430))) ∧ (¬ r429 = r421 → K 0 w430))) w427) w422) w) ∧ (¬ (sc a4.toNatClampNeg) &&& 63 = 24 → (((sc a4.toNatClampNeg) &&& 63 = 25 → vp_in (a4 + 1) n0 ∧ vp_in (a4 + 2) n0 ∧ (i0 + 2 ≤ mc ∧ j0 + 12 ≤ ms) ∧ w_L_wakers 2 12 a1 (sc (a4 + 1).toNatClampNeg) (sc (a4 + 2).toNatClampNeg) a3 (fun r438 w439 => vp_in (a4 + 1) n0 ∧ vp_in (a4 + 2) n0 ∧ isK w439 a2 12 ∧ w_X12_wakers a2 (sc (a4 + 1).toNatClampNeg) (sc (a4 + 2).toNatClampNeg) (fun r444 w445 => isK w445 a2 12 ∧ w_X12_thrown a2 (fun r447 w448 => ((r447 = r438 → ((r438 = 0 → isK w448 a3 21 ∧ vp_in 0 (wn w448 a3) ∧ (((lg_cmp (wL w448 a3 (0 : Int32).toNatClampNeg) r444.toInt64) = 0 → l_L_law_23 n0 sc mc ms K n a1 a2 a3 (a4 + 6) (i0 + 2) (j0 + 12) w448) ∧ (¬ (lg_cmp (wL w448 a3 (0 : Int32).toNatClampNeg) r444.toInt64) = 0 → K 0 w448))) ∧ (¬ r438 = 0 → l_L_law_23 n0 sc mc ms K n a1 a2 a3 (a4 + 6) (i0 + 2) (j0 + 12) w448))) ∧ (¬ r447 = r438 → K 0 w448))) w445) w439) w) ∧ (¬ (sc a4.toNatClampNeg) &&& 63 = 25 → (((sc a4.toNatClampNeg) &&& 63 = 26 → vp_in (a4 + 1) n0 ∧ vp_in (a4 + 2) n0 ∧ (i0 + 2 ≤ mc ∧ j0 + 12 ≤ ms) ∧ w_L_leastNoise 2 12 a1 (sc (a4 + 1).toNatClampNeg) (sc (a4 + 2).toNatClampNeg) a3 (fun r456 w457 => vp_in (a4 + 1) n0 ∧ vp_in (a4 + 2) n0 ∧ isK w457 a2 12 ∧ w_X12_leastNoise a2 (sc (a4 + 1).toNatClampNeg) (sc (a4 + 2).toNatClampNeg) (fun r462 w463 => isK w463 a2 12 ∧ w_X12_thrown a2 (fun r465 w466 => ((r465 = r456 → ((r456 = 0 → isK w466 a3 21 ∧ vp_in 0 (wn w466 a3) ∧ (((lg_cmp (wL w466 a3 (0 : Int32).toNatClampNeg) r462.toInt64) = 0 → l_L_law_23 n0 sc mc ms K n a1 a2 a3 (a4 + 6) (i0 + 2) (j0 + 12) w466) ∧ (¬ (lg_cmp (wL w466 a3 (0 : Int32).toNatClampNeg) r462.toInt64) = 0 → K 0 w466))) ∧ (¬ r456 = 0 → l_L_law_23 n0 sc mc ms K n a1 a2 a3 (a4 + 6) (i0 + 2) (j0 + 12) w466))) ∧ (¬ r465 = r456 → K 0 w466))) w463) w457) w) ∧ (¬ (sc a4.toNatClampNeg) &&& 63 = 26 → (((sc a4.toNatClampNeg) &&& 63 = 27 → vp_in (a4 + 1) n0 ∧ vp_in (a4 + 2) n0 ∧ vp_in (a4 + 3) n0 ∧ vp_in (a4 + 4) n0 ∧ (i0 + 4 ≤ mc ∧ j0 + 24 ≤ ms) ∧ w_L_shield 4 24 a1 (sc (a4 + 1).toNatClampNeg) (sc (a4 + 2).toNatClampNeg) (sc (a4 + 3).toNatClampNeg) (sc (a4 + 4).toNatClampNeg) a3 (fun r476 w477 => vp_in (a4 + 1) n0 ∧ vp_in (a4 + 2) n0 ∧ vp_in (a4 + 3) n0 ∧ vp_in (a4 + 4) n0 ∧ isK w477 a2 12 ∧ w_X12_shield a2 (sc (a4 + 1).toNatClampNeg) (sc (a4 + 2).toNatClampNeg) (sc (a4 + 3).toNatClampNeg) (sc (a4 + 4).toNatClampNeg) (fun r484 w485 => isK w485 a2 12 ∧ w_X12_thrown a2 (fun r487 w488 => ((r487 = r476 → ((r476 = 0 → isK w488 a3 21 ∧ vp_in 0 (wn w488 a3) ∧ (((lg_cmp (wL w488 a3 (0 : Int32).toNatClampNeg) r484.toInt64) = 0 → l_L_law_23 n0 sc mc ms K n a1 a2 a3 (a4 + 6) (i0 + 4) (j0 + 24) w488) ∧ (¬ (lg_cmp (wL w488 a3 (0 : Int32).toNatClampNeg) r484.toInt64) = 0 → K 0 w488))) ∧ (¬ r476 = 0 → l_L_law_23 n0 sc mc ms K n a1 a2 a3 (a4 + 6) (i0 + 4) (j0 + 24) w488))) ∧ (¬ r487 = r476 → K 0 w488))) w485) w477) w) ∧ (¬ (sc a4.toNatClampNeg) &&& 63 = 27 → (((sc a4.toNatClampNeg) &&& 63 = 28 → vp_in (a4 + 1) n0 ∧ (i0 + 1 ≤ mc ∧ j0 + 6 ≤ ms) ∧ w_L_loudest 1 6 a1 (sc (a4 + 1).toNatClampNeg) a3 (fun r495 w496 => vp_in (a4 + 1) n0 ∧ isK w496 a2 12 ∧ w_X12_loudest a2 (sc (a4 + 1).toNatClampNeg) (fun r500 w501 => isK w501 a2 12 ∧ w_X12_thrown a2 (fun r503 w504 => ((r503 = r495 → ((r495 = 0 → isK w504 a3 21 ∧ vp_in 0 (wn w504 a3) ∧ (((lg_cmp (wL w504 a3 (0 : Int32).toNatClampNeg) r500.toInt64) = 0 → l_L_law_23 n0 sc mc ms K n a1 a2 a3 (a4 + 6) (i0 + 1) (j0 + 6) w504) ∧ (¬ (lg_cmp (wL w504 a3 (0 : Int32).toNatClampNeg) r500.toInt64) = 0 → K 0 w504))) ∧ (¬ r495 = 0 → l_L_law_23 n0 sc mc ms K n a1 a2 a3 (a4 + 6) (i0 + 1) (j0 + 6) w504))) ∧ (¬ r503 = r495 → K 0 w504))) w501) w496) w) ∧ (¬ (sc a4.toNatClampNeg) &&& 63 = 28 → (((sc a4.toNatClampNeg) &&& 63 = 29 → vp_in (a4 + 1) n0 ∧ vp_in (a4 + 2) n0 ∧ (i0 + 2 ≤ mc ∧ j0 + 12 ≤ ms) ∧ w_L_chorus 2 12 a1 (sc (a4 + 1).toNatClampNeg) (sc (a4 + 2).toNatClampNeg) a3 (fun r512 w513 => vp_in (a4 + 1) n0 ∧ vp_in (a4 + 2) n0 ∧ isK w513 a2 12 ∧ w_X12_chorus a2 (sc (a4 + 1).toNatClampNeg) (sc (a4 + 2).toNatClampNeg) (fun r518 w519 => isK w519 a2 12 ∧ w_X12_thrown a2 (fun r521 w522 => ((r521 = r512 → ((r512 = 0 → isK w522 a3 21 ∧ vp_in 0 (wn w522 a3) ∧ (((lg_cmp (wL w522 a3 (0 : Int32).toNatClampNeg) r518.toInt64) = 0 → l_L_law_23 n0 sc mc ms K n a1 a2 a3 (a4 + 6) (i0 + 2) (j0 + 12) w522) ∧ (¬ (lg_cmp (wL w522 a3 (0 : Int32).toNatClampNeg) r518.toInt64) = 0 → K 0 w522))) ∧ (¬ r512 = 0 → l_L_law_23 n0 sc mc ms K n a1 a2 a3 (a4 + 6) (i0 + 2) (j0 + 12) w522))) ∧ (¬ r521 = r512 → K 0 w522))) w519) w513) w) ∧ (¬ (sc a4.toNatClampNeg) &&& 63 = 29 → (((sc a4.toNatClampNeg) &&& 63 = 30 → vp_in (a4 + 1) n0 ∧ vp_in (a4 + 2) n0 ∧ vp_in (a4 + 3) n0 ∧ (i0 + 3 ≤ mc ∧ j0 + 18 ≤ ms) ∧ w_L_yawns 3 18 a1 (sc (a4 + 1).toNatClampNeg) (sc (a4 + 2).toNatClampNeg) (sc (a4 + 3).toNatClampNeg) a3 (fun r531 w532 => vp_in (a4 + 1) n0 ∧ vp_in (a4 + 2) n0 ∧ vp_in (a4 + 3) n0 ∧ isK w532 a2 12 ∧ w_X12_yawns a2 (sc (a4 + 1).toNatClampNeg) (sc (a4 + 2).toNatClampNeg) (sc (a4 + 3).toNatClampNeg) (fun r538 w539 => isK w539 a2 12 ∧ w_X12_thrown a2 (fun r541 w542 => ((r541 = r531 → ((r531 = 0 → isK w542 a3 21 ∧ vp_in 0 (wn w542 a3) ∧ (((lg_cmp (wL w542 a3 (0 : Int32).toNatClampNeg) r538.toInt64) = 0 → l_L_law_23 n0 sc mc ms K n a1 a2 a3 (a4 + 6) (i0 + 3) (j0 + 18) w542) ∧ (¬ (lg_cmp (wL w542 a3 (0 : Int32).toNatClampNeg) r538.toInt64) = 0 → K 0 w542))) ∧ (¬ r531 = 0 → l_L_law_23 n0 sc mc ms K n a1 a2 a3 (a4 + 6) (i0 + 3) (j0 + 18) w542))) ∧ (¬ r541 = r531 → K 0 w542))) w539) w532) w) ∧ (¬ (sc a4.toNatClampNeg) &&& 63 = 30 → (((sc a4.toNatClampNeg) &&& 63 = 31 → vp_in (a4 + 1) n0 ∧ vp_in (a4 + 2) n0 ∧ (i0 + 2 ≤ mc ∧ j0 + 12 ≤ ms) ∧ w_L_loudHour 2 12 a1 (sc (a4 + 1).toNatClampNeg) (sc (a4 + 2).toNatClampNeg) a3 (fun r550 w551 => vp_in (a4 + 1) n0 ∧ vp_in (a4 + 2) n0 ∧ isK w551 a2 12 ∧ w_X12_loudHour a2 (sc (a4 + 1).toNatClampNeg) (sc (a4 + 2).toNatClampNeg) (fun r556 w557 => isK w557 a2 12 ∧ w_X12_thrown a2 (fun r559 w560 => ((r559 = r550 → ((r550 = 0 → isK w560 a3 21 ∧ vp_in 0 (wn w560 a3) ∧ (((lg_cmp (wL w560 a3 (0 : Int32).toNatClampNeg) r556.toInt64) = 0 → l_L_law_23 n0 sc mc ms K n a1 a2 a3 (a4 + 6) (i0 + 2) (j0 + 12) w560) ∧ (¬ (lg_cmp (wL w560 a3 (0 : Int32).toNatClampNeg) r556.toInt64) = 0 → K 0 w560))) ∧ (¬ r550 = 0 → l_L_law_23 n0 sc mc ms K n a1 a2 a3 (a4 + 6) (i0 + 2) (j0 + 12) w560))) ∧ (¬ r559 = r550 → K 0 w560))) w557) w551) w) ∧ (¬ (sc a4.toNatClampNeg) &&& 63 = 31 → (((sc a4.toNatClampNeg) &&& 63 = 32 → vp_in (a4 + 1) n0 ∧ (i0 + 1 ≤ mc ∧ j0 + 6 ≤ ms) ∧ w_L_quietHours 1 6 a1 (sc (a4 + 1).toNatClampNeg) a3 (fun r567 w568 => vp_in (a4 + 1) n0 ∧ isK w568 a2 12 ∧ w_X12_quietHours a2 (sc (a4 + 1).toNatClampNeg) (fun r572 w573 => isK w573 a2 12 ∧ w_X12_thrown a2 (fun r575 w576 => ((r575 = r567 → ((r567 = 0 → isK w576 a3 21 ∧ vp_in 0 (wn w576 a3) ∧ (((lg_cmp (wL w576 a3 (0 : Int32).toNatClampNeg) r572) = 0 → l_L_law_23 n0 sc mc ms K n a1 a2 a3 (a4 + 6) (i0 + 1) (j0 + 6) w576) ∧ (¬ (lg_cmp (wL w576 a3 (0 : Int32).toNatClampNeg) r572) = 0 → K 0 w576))) ∧ (¬ r567 = 0 → l_L_law_23 n0 sc mc ms K n a1 a2 a3 (a4 + 6) (i0 + 1) (j0 + 6) w576))) ∧ (¬ r575 = r567 → K 0 w576))) w573) w568) w) ∧ (¬ (sc a4.toNatClampNeg) &&& 63 = 32 → (((sc a4.toNatClampNeg) &&& 63 = 33 → vp_in (a4 + 1) n0 ∧ vp_in (a4 + 2) n0 ∧ (i0 + 2 ≤ mc ∧ j0 + 12 ≤ ms) ∧ w_L_quietWell 2 12 a1 (sc (a4 + 1).toNatClampNeg) (sc (a4 + 2).toNatClampNeg) a3 (fun r584 w585 => vp_in (a4 + 1) n0 ∧ vp_in (a4 + 2) n0 ∧ isK w585 a2 12 ∧ w_X12_quietWell a2 (sc (a4 + 1).toNatClampNeg) (sc (a4 + 2).toNatClampNeg) (fun r590 w591 => isK w591 a2 12 ∧ w_X12_thrown a2 (fun r593 w594 => ((r593 = r584 → ((r584 = 0 → isK w594 a3 21 ∧ vp_in 0 (wn w594 a3) ∧ (((lg_cmp (wL w594 a3 (0 : Int32).toNatClampNeg) r590.toInt64) = 0 → l_L_law_23 n0 sc mc ms K n a1 a2 a3 (a4 + 6) (i0 + 2) (j0 + 12) w594) ∧ (¬ (lg_cmp (wL w594 a3 (0 : Int32).toNatClampNeg) r590.toInt64) = 0 → K 0 w594))) ∧ (¬ r584 = 0 → l_L_law_23 n0 sc mc ms K n a1 a2 a3 (a4 + 6) (i0 + 2) (j0 + 12) w594))) ∧ (¬ r593 = r584 → K 0 w594))) w591) w585) w) ∧ (¬ (sc a4.toNatClampNeg) &&& 63 = 33 → (((sc a4.toNatClampNeg) &&& 63 = 34 → vp_in (a4 + 1) n0 ∧ (i0 + 1 ≤ mc ∧ j0 + 6 ≤ ms) ∧ w_L_plan 1 6 a1 (sc (a4 + 1).toNatClampNeg) a3 (fun r601 w602 => vp_in (a4 + 1) n0 ∧ isK w602 a2 12 ∧ w_X12_plan a2 (sc (a4 + 1).toNatClampNeg) (fun r606 w607 => isK w607 a2 12 ∧ w_X12_thrown a2 (fun r609 w610 => ((r609 = r601 → ((r601 = 0 → isK w610 a3 21 ∧ vp_in 0 (wn w610 a3) ∧ (((lg_cmp (wL w610 a3 (0 : Int32).toNatClampNeg) r606.toInt64) = 0 → l_L_law_23 n0 sc mc ms K n a1 a2 a3 (a4 + 6) (i0 + 1) (j0 + 6) w610) ∧ (¬ (lg_cmp (wL w610 a3 (0 : Int32).toNatClampNeg) r606.toInt64) = 0 → K 0 w610))) ∧ (¬ r601 = 0 → l_L_law_23 n0 sc mc ms K n a1 a2 a3 (a4 + 6) (i0 + 1) (j0 + 6) w610))) ∧ (¬ r609 = r601 → K 0 w610))) w607) w602) w) ∧ (¬ (sc a4.toNatClampNeg) &&& 63 = 34 → (((sc a4.toNatClampNeg) &&& 63 = 35 → vp_in (a4 + 1) n0 ∧ (i0 + 1 ≤ mc ∧ j0 + 6 ≤ ms) ∧ w_L_served 1 6 a1 (sc (a4 + 1).toNatClampNeg) a3 (fun r617 w618 => vp_in (a4 + 1) n0 ∧ isK w618 a2 12 ∧ w_X12_served a2 (sc (a4 + 1).toNatClampNeg) (fun r622 w623 => isK w623 a2 12 ∧ w_X12_thrown a2 (fun r625 w626 => ((r625 = r617 → ((r617 = 0 → isK w626 a3 21 ∧ vp_in 0 (wn w626 a3) ∧ (((lg_cmp (wL w626 a3 (0 : Int32).toNatClampNeg) r622.toInt64) = 0 → l_L_law_23 n0 sc mc ms K n a1 a2 a3 (a4 + 6) (i0 + 1) (j0 + 6) w626) ∧ (¬ (lg_cmp (wL w626 a3 (0 : Int32).toNatClampNeg) r622.toInt64) = 0 → K 0 w626))) ∧ (¬ r617 = 0 → l_L_law_23 n0 sc mc ms K n a1 a2 a3 (a4 + 6) (i0 + 1) (j0 + 6) w626))) ∧ (¬ r625 = r617 → K 0 w626))) w623) w618) w) ∧ (¬ (sc a4.toNatClampNeg) &&& 63 = 35 → (((sc a4.toNatClampNeg) &&& 63 = 36 → isK w a1 11 ∧ w_X11_dry a1 (fun r633 w634 => isK w634 a2 12 ∧ w_X12_dry a2 (fun r636 w637 => ((r633 = r636 → l_L_law_23 n0 sc mc ms K n a1 a2 a3 (a4 + 6) i0 j0 w637) ∧ (¬ r633 = r636 → K 0 w637))) w634) w) ∧ (¬ (sc a4.toNatClampNeg) &&& 63 = 36 → (((sc a4.toNatClampNeg) &&& 63 = 37 → vp_in (a4 + 1) n0 ∧ vp_in (a4 + 2) n0 ∧ (i0 + 2 ≤ mc ∧ j0 + 12 ≤ ms) ∧ w_L_waterIn 2 12 a1 (sc (a4 + 1).toNatClampNeg) (sc (a4 + 2).toNatClampNeg) a3 (fun r641 w642 => vp_in (a4 + 1) n0 ∧ vp_in (a4 + 2) n0 ∧ isK w642 a2 12 ∧ w_X12_waterIn a2 (sc (a4 + 1).toNatClampNeg) (sc (a4 + 2).toNatClampNeg) (fun r647 w648 => isK w648 a2 12 ∧ w_X12_thrown a2 (fun r650 w651 => ((r650 = r641 → ((r641 = 0 → isK w651 a3 21 ∧ vp_in 0 (wn w651 a3) ∧ (((lg_cmp (wL w651 a3 (0 : Int32).toNatClampNeg) r647.toInt64) = 0 → l_L_law_23 n0 sc mc ms K n a1 a2 a3 (a4 + 6) (i0 + 2) (j0 + 12) w651) ∧ (¬ (lg_cmp (wL w651 a3 (0 : Int32).toNatClampNeg) r647.toInt64) = 0 → K 0 w651))) ∧ (¬ r641 = 0 → l_L_law_23 n0 sc mc ms K n a1 a2 a3 (a4 + 6) (i0 + 2) (j0 + 12) w651))) ∧ (¬ r650 = r641 → K 0 w651))) w648) w642) w) ∧ (¬ (sc a4.toNatClampNeg) &&& 63 = 37 → (((sc a4.toNatClampNeg) &&& 63 = 38 → vp_in (a4 + 1) n0 ∧ vp_in (a4 + 2) n0 ∧ (i0 + 2 ≤ mc ∧ j0 + 12 ≤ ms) ∧ w_L_hasIn 2 12 a1 (sc (a4 + 1).toNatClampNeg) (sc (a4 + 2).toNatClampNeg) a3 (fun r659 w660 => vp_in (a4 + 1) n0 ∧ vp_in (a4 + 2) n0 ∧ isK w660 a2 12 ∧ w_X12_hasIn a2 (sc (a4 + 1).toNatClampNeg) (sc (a4 + 2).toNatClampNeg) (fun r665 w666 => isK w666 a2 12 ∧ w_X12_thrown a2 (fun r668 w669 => ((r668 = r659 → ((r659 = 0 → isK w669 a3 21 ∧ vp_in 0 (wn w669 a3) ∧ (((lg_cmp (wL w669 a3 (0 : Int32).toNatClampNeg) r665.toInt64) = 0 → l_L_law_23 n0 sc mc ms K n a1 a2 a3 (a4 + 6) (i0 + 2) (j0 + 12) w669) ∧ (¬ (lg_cmp (wL w669 a3 (0 : Int32).toNatClampNeg) r665.toInt64) = 0 → K 0 w669))) ∧ (¬ r659 = 0 → l_L_law_23 n0 sc mc ms K n a1 a2 a3 (a4 + 6) (i0 + 2) (j0 + 12) w669))) ∧ (¬ r668 = r659 → K 0 w669))) w666) w660) w) ∧ (¬ (sc a4.toNatClampNeg) &&& 63 = 38 → (((sc a4.toNatClampNeg) &&& 63 = 39 → isK w a1 11 ∧ w_X11_fullest a1 (fun r676 w677 => isK w677 a2 12 ∧ w_X12_fullest a2 (fun r679 w680 => ((r676 = r679 → l_L_law_23 n0 sc mc ms K n a1 a2 a3 (a4 + 6) i0 j0 w680) ∧ (¬ r676 = r679 → K 0 w680))) w677) w) ∧ (¬ (sc a4.toNatClampNeg) &&& 63 = 39 → (((sc a4.toNatClampNeg) &&& 63 = 40 → vp_in (a4 + 1) n0 ∧ vp_in (a4 + 2) n0 ∧ (i0 + 4 ≤ mc ∧ j0 + 24 ≤ ms) ∧ w_L_level 4 24 a1 (sc (a4 + 1).toNatClampNeg) (sc (a4 + 2).toNatClampNeg) a3 (fun r684 w685 => vp_in (a4 + 1) n0 ∧ vp_in (a4 + 2) n0 ∧ isK w685 a2 12 ∧ w_X12_level a2 (sc (a4 + 1).toNatClampNeg) (sc (a4 + 2).toNatClampNeg) (fun r690 w691 => isK w691 a2 12 ∧ w_X12_thrown a2 (fun r693 w694 => ((r693 = r684 → ((r684 = 0 → isK w694 a3 21 ∧ vp_in 0 (wn w694 a3) ∧ (((lg_cmp (wL w694 a3 (0 : Int32).toNatClampNeg) r690.toInt64) = 0 → l_L_law_23 n0 sc mc ms K n a1 a2 a3 (a4 + 6) (i0 + 4) (j0 + 24) w694) ∧ (¬ (lg_cmp (wL w694 a3 (0 : Int32).toNatClampNeg) r690.toInt64) = 0 → K 0 w694))) ∧ (¬ r684 = 0 → l_L_law_23 n0 sc mc ms K n a1 a2 a3 (a4 + 6) (i0 + 4) (j0 + 24) w694))) ∧ (¬ r693 = r684 → K 0 w694))) w691) w685) w) ∧ (¬ (sc a4.toNatClampNeg) &&& 63 = 40 → (((sc a4.toNatClampNeg) &&& 63 = 41 → vp_in (a4 + 1) n0 ∧ (i0 + 3 ≤ mc ∧ j0 + 18 ≤ ms) ∧ w_L_seen 3 18 a1 (sc (a4 + 1).toNatClampNeg) a3 (fun r701 w702 => vp_in (a4 + 1) n0 ∧ isK w702 a2 12 ∧ w_X12_seen a2 (sc (a4 + 1).toNatClampNeg) (fun r706 w707 => isK w707 a2 12 ∧ w_X12_thrown a2 (fun r709 w710 => ((r709 = r701 → ((r701 = 0 → isK w710 a3 21 ∧ vp_in 0 (wn w710 a3) ∧ (((lg_cmp (wL w710 a3 (0 : Int32).toNatClampNeg) r706.toInt64) = 0 → l_L_law_23 n0 sc mc ms K n a1 a2 a3 (a4 + 6) (i0 + 3) (j0 + 18) w710) ∧ (¬ (lg_cmp (wL w710 a3 (0 : Int32).toNatClampNeg) r706.toInt64) = 0 → K 0 w710))) ∧ (¬ r701 = 0 → l_L_law_23 n0 sc mc ms K n a1 a2 a3 (a4 + 6) (i0 + 3) (j0 + 18) w710))) ∧ (¬ r709 = r701 → K 0 w710))) w707) w702) w) ∧ (¬ (sc a4.toNatClampNeg) &&& 63 = 41 → (((sc a4.toNatClampNeg) &&& 63 = 42 → vp_in (a4 + 1) n0 ∧ vp_in (a4 + 2) n0 ∧ (i0 + 4 ≤ mc ∧ j0 + 24 ≤ ms) ∧ w_L_roundAt 4 24 a1 (sc (a4 + 1).toNatClampNeg) (sc (a4 + 2).toNatClampNeg) a3 (fun r718 w719 => vp_in (a4 + 1) n0 ∧ vp_in (a4 + 2) n0 ∧ isK w719 a2 12 ∧ w_X12_roundAt a2 (sc (a4 + 1).toNatClampNeg) (sc (a4 + 2).toNatClampNeg) (fun r724 w725 => isK w725 a2 12 ∧ w_X12_thrown a2 (fun r727 w728 => ((r727 = r718 → ((r718 = 0 → isK w728 a3 21 ∧ vp_in 0 (wn w728 a3) ∧ (((lg_cmp (wL w728 a3 (0 : Int32).toNatClampNeg) r724.toInt64) = 0 → l_L_law_23 n0 sc mc ms K n a1 a2 a3 (a4 + 6) (i0 + 4) (j0 + 24) w728) ∧ (¬ (lg_cmp (wL w728 a3 (0 : Int32).toNatClampNeg) r724.toInt64) = 0 → K 0 w728))) ∧ (¬ r718 = 0 → l_L_law_23 n0 sc mc ms K n a1 a2 a3 (a4 + 6) (i0 + 4) (j0 + 24) w728))) ∧ (¬ r727 = r718 → K 0 w728))) w725) w719) w) ∧ (¬ (sc a4.toNatClampNeg) &&& 63 = 42 → (((sc a4.toNatClampNeg) &&& 63 = 43 → vp_in (a4 + 1) n0 ∧ (i0 + 3 ≤ mc ∧ j0 + 18 ≤ ms) ∧ w_L_listen 3 18 a1 (sc (a4 + 1).toNatClampNeg) a3 (fun r735 w736 => vp_in (a4 + 1) n0 ∧ isK w736 a2 12 ∧ w_X12_listen a2 (sc (a4 + 1).toNatClampNeg) (fun r740 w741 => isK w741 a2 12 ∧ w_X12_thrown a2 (fun r743 w744 => ((r743 = r735 → ((r735 = 0 → isK w744 a3 21 ∧ vp_in 0 (wn w744 a3) ∧ (((lg_cmp (wL w744 a3 (0 : Int32).toNatClampNeg) r740.toInt64) = 0 → l_L_law_23 n0 sc mc ms K n a1 a2 a3 (a4 + 6) (i0 + 3) (j0 + 18) w744) ∧ (¬ (lg_cmp (wL w744 a3 (0 : Int32).toNatClampNeg) r740.toInt64) = 0 → K 0 w744))) ∧ (¬ r735 = 0 → l_L_law_23 n0 sc mc ms K n a1 a2 a3 (a4 + 6) (i0 + 3) (j0 + 18) w744))) ∧ (¬ r743 = r735 → K 0 w744))) w741) w736) w) ∧ (¬ (sc a4.toNatClampNeg) &&& 63 = 43 → (((sc a4.toNatClampNeg) &&& 63 = 44 → vp_in (a4 + 1) n0 ∧ (i0 + 3 ≤ mc ∧ j0 + 18 ≤ ms) ∧ w_L_whose 3 18 a1 (sc (a4 + 1).toNatClampNeg) a3 (fun r751 w752 => vp_in (a4 + 1) n0 ∧ isK w752 a2 12 ∧ w_X12_whose a2 (sc (a4 + 1).toNatClampNeg) (fun r756 w757 => isK w757 a2 12 ∧ w_X12_thrown a2 (fun r759 w760 => ((r759 = r751 → ((r751 = 0 → isK w760 a3 21 ∧ vp_in 0 (wn w760 a3) ∧ (((lg_cmp (wL w760 a3 (0 : Int32).toNatClampNeg) r756.toInt64) = 0 → l_L_law_23 n0 sc mc ms K n a1 a2 a3 (a4 + 6) (i0 + 3) (j0 + 18) w760) ∧ (¬ (lg_cmp (wL w760 a3 (0 : Int32).toNatClampNeg) r756.toInt64) = 0 → K 0 w760))) ∧ (¬ r751 = 0 → l_L_law_23 n0 sc mc ms K n a1 a2 a3 (a4 + 6) (i0 + 3) (j0 + 18) w760))) ∧ (¬ r759 = r751 → K 0 w760))) w757) w752) w) ∧ (¬ (sc a4.toNatClampNeg) &&& 63 = 44 → (((sc a4.toNatClampNeg) &&& 63 = 45 → vp_in (a4 + 1) n0 ∧ vp_in (a4 + 2) n0 ∧ vp_in (a4 + 3) n0 ∧ (i0 + 3 ≤ mc ∧ j0 + 18 ≤ ms) ∧ w_L_tray 3 18 a1 (sc (a4 + 1).toNatClampNeg) (sc (a4 + 2).toNatClampNeg) (sc (a4 + 3).toNatClampNeg) (fun r769 w770 => vp_in (a4 + 1) n0 ∧ vp_in (a4 + 2) n0 ∧ vp_in (a4 + 3) n0 ∧ isK w770 a2 12 ∧ w_X12_tray a2 (sc (a4 + 1).toNatClampNeg) (sc (a4 + 2).toNatClampNeg) (sc (a4 + 3).toNatClampNeg) (fun w776 => isK w776 a2 12 ∧ w_X12_thrown a2 (fun r778 w779 => ((r778 = r769 → l_L_law_23 n0 sc mc ms K n a1 a2 a3 (a4 + 6) (i0 + 3) (j0 + 18) w779) ∧ (¬ r778 = r769 → K 0 w779))) w776) w770) w) ∧ (¬ (sc a4.toNatClampNeg) &&& 63 = 45 → (((sc a4.toNatClampNeg) &&& 63 = 46 → vp_in (a4 + 1) n0 ∧ vp_in (a4 + 2) n0 ∧ vp_in (a4 + 3) n0 ∧ vp_in (a4 + 4) n0 ∧ (i0 + 3 ≤ mc ∧ j0 + 18 ≤ ms) ∧ w_L_write 3 18 a1 (sc (a4 + 1).toNatClampNeg) (sc (a4 + 2).toNatClampNeg) ((x_lshl ((sc (a4 + 3).toNatClampNeg).toInt64) 32) ||| (((sc (a4 + 4).toNatClampNeg).toInt64) &&& 4294967295)) a3 (fun r785 w786 => vp_in (a4 + 1) n0 ∧ vp_in (a4 + 2) n0 ∧ vp_in (a4 + 3) n0 ∧ vp_in (a4 + 4) n0 ∧ isK w786 a2 12 ∧ w_X12_write a2 (sc (a4 + 1).toNatClampNeg) (sc (a4 + 2).toNatClampNeg) ((x_lshl ((sc (a4 + 3).toNatClampNeg).toInt64) 32) ||| (((sc (a4 + 4).toNatClampNeg).toInt64) &&& 4294967295)) (fun r793 w794 => isK w794 a2 12 ∧ w_X12_thrown a2 (fun r796 w797 => ((r796 = r785 → ((r785 = 0 → isK w797 a3 21 ∧ vp_in 0 (wn w797 a3) ∧ (((lg_cmp (wL w797 a3 (0 : Int32).toNatClampNeg) r793) = 0 → l_L_law_23 n0 sc mc ms K n a1 a2 a3 (a4 + 6) (i0 + 3) (j0 + 18) w797) ∧ (¬ (lg_cmp (wL w797 a3 (0 : Int32).toNatClampNeg) r793) = 0 → K 0 w797))) ∧ (¬ r785 = 0 → l_L_law_23 n0 sc mc ms K n a1 a2 a3 (a4 + 6) (i0 + 3) (j0 + 18) w797))) ∧ (¬ r796 = r785 → K 0 w797))) w794) w786) w) ∧ (¬ (sc a4.toNatClampNeg) &&& 63 = 46 → (((sc a4.toNatClampNeg) &&& 63 = 47 → vp_in (a4 + 1) n0 ∧ vp_in (a4 + 2) n0 ∧ (i0 + 4 ≤ mc ∧ j0 + 24 ≤ ms) ∧ w_L_copy 4 24 a1 (sc (a4 + 1).toNatClampNeg) (sc (a4 + 2).toNatClampNeg) a3 (fun r805 w806 => vp_in (a4 + 1) n0 ∧ vp_in (a4 + 2) n0 ∧ isK w806 a2 12 ∧ w_X12_copy a2 (sc (a4 + 1).toNatClampNeg) (sc (a4 + 2).toNatClampNeg) (fun r811 w812 => isK w812 a2 12 ∧ w_X12_thrown a2 (fun r814 w815 => ((r814 = r805 → ((r805 = 0 → isK w815 a3 21 ∧ vp_in 0 (wn w815 a3) ∧ (((lg_cmp (wL w815 a3 (0 : Int32).toNatClampNeg) r811.toInt64) = 0 → l_L_law_23 n0 sc mc ms K n a1 a2 a3 (a4 + 6) (i0 + 4) (j0 + 24) w815) ∧ (¬ (lg_cmp (wL w815 a3 (0 : Int32).toNatClampNeg) r811.toInt64) = 0 → K 0 w815))) ∧ (¬ r805 = 0 → l_L_law_23 n0 sc mc ms K n a1 a2 a3 (a4 + 6) (i0 + 4) (j0 + 24) w815))) ∧ (¬ r814 = r805 → K 0 w815))) w812) w806) w) ∧ (¬ (sc a4.toNatClampNeg) &&& 63 = 47 → (((sc a4.toNatClampNeg) &&& 63 = 48 → vp_in (a4 + 1) n0 ∧ (i0 + 1 ≤ mc ∧ j0 + 6 ≤ ms) ∧ w_L_image 1 6 a1 (sc (a4 + 1).toNatClampNeg) (fun r822 w823 => vp_in (a4 + 1) n0 ∧ isK w823 a2 12 ∧ w_X12_image a2 (sc (a4 + 1).toNatClampNeg) (fun w827 => isK w827 a2 12 ∧ w_X12_thrown a2 (fun r829 w830 => ((r829 = r822 → l_L_law_23 n0 sc mc ms K n a1 a2 a3 (a4 + 6) (i0 + 1) (j0 + 6) w830) ∧ (¬ r829 = r822 → K 0 w830))) w827) w823) w) ∧ (¬ (sc a4.toNatClampNeg) &&& 63 = 48 → (((sc a4.toNatClampNeg) &&& 63 = 49 → vp_in (a4 + 1) n0 ∧ (i0 + 2 ≤ mc ∧ j0 + 12 ≤ ms) ∧ w_L_restore 2 12 a1 (sc (a4 + 1).toNatClampNeg) (fun r833 w834 => vp_in (a4 + 1) n0 ∧ isK w834 a2 12 ∧ w_X12_restore a2 (sc (a4 + 1).toNatClampNeg) (fun w838 => isK w838 a2 12 ∧ w_X12_thrown a2 (fun r840 w841 => ((r840 = r833 → l_L_law_23 n0 sc mc ms K n a1 a2 a3 (a4 + 6) (i0 + 2) (j0 + 12) w841) ∧ (¬ r840 = r833 → K 0 w841))) w838) w834) w) ∧ (¬ (sc a4.toNatClampNeg) &&& 63 = 49 → (((sc a4.toNatClampNeg) &&& 63 = 50 → vp_in (a4 + 1) n0 ∧ isK w a1 11 ∧ w_X11_count a1 (sc (a4 + 1).toNatClampNeg) (fun r845 w846 => vp_in (a4 + 1) n0 ∧ isK w846 a2 12 ∧ w_X12_count a2 (sc (a4 + 1).toNatClampNeg) (fun r849 w850 => ((r845 = r849 → l_L_law_23 n0 sc mc ms K n a1 a2 a3 (a4 + 6) i0 j0 w850) ∧ (¬ r845 = r849 → K 0 w850))) w846) w) ∧ (¬ (sc a4.toNatClampNeg) &&& 63 = 50 → l_L_law_23 n0 sc mc ms K n a1 a2 a3 (a4 + 6) i0 j0 w))))))))))))))))))))))))))))))))))))))))))))))))))))))))))))))))))))))))))))))))))))))))))))))))))))))))
def w_L_law (n0 : Nat) (sc : Nat → Int32) (mc ms : Nat) (K : Int32 → Wd → Prop) (w : Wd) : Prop :=
  (1 ≤ mc ∧ 10 ≤ ms) ∧ ∀ r2 w3, r2 = wN w → w3 = wA w 11 0 → ∃ c8 s9, (1 + c8 ≤ mc ∧ 10 + s9 ≤ ms) ∧ w_X11_init c8 s9 r2 (fun w6 => ((1 + c8) + 1 ≤ mc ∧ (10 + s9) + 29 ≤ ms) ∧ ∀ r11 w12, r11 = wN w6 → w12 = wA w6 12 0 → (((1 + c8) + 1) + 14 ≤ mc ∧ ((10 + s9) + 29) + 7255 ≤ ms) ∧ w_X12_init 14 7255 r11 (fun w15 => ((((1 + c8) + 1) + 14) + 1 ≤ mc ∧ (((10 + s9) + 29) + 7255) + 1 ≤ ms) ∧ ∀ r18 w19, r18 = wN w15 → w19 = wA w15 21 1 → ∃ n903, l_L_law_23 n0 sc mc ms  K n903 r2 r11 r18 0 ((((1 + c8) + 1) + 14) + 1) ((((10 + s9) + 29) + 7255) + 1) w19) w12) w3
theorem t_L_law_1041 {b0 : Nat} (C : xC x p s m c cL_law 8 args RL) (hlk : meth.locks = false) (hr : meth.sig.returnType = ret) (hl : l.stackTraces = false) {n0 : Nat} {sc : Nat → Int32} {mc ms : Nat} (hX : va_X b0 n0 sc s s.heap) (hbl : b0 < s.heap.size) (hbA : ¬ xA x b0) (hmc : mc ≤ 601024 ∧ ms ≤ 7293034 ∧ args = #[Value.ref b0] ∧ x.2.2.1 = s.heap.size) {K : Int32 → Wd → Prop} (hK1 : ∀ r w, K r w → r = 1) {B : Nat → Nat → Nat → Int32 → Nat → Nat → Wd → Prop}  (hB : ∀ (b1_ : Nat) (b2_ : Nat) (b3_ : Nat) (b4_ : Int32) (i0 j0 : Nat) (w : Wd), i0 ≤ mc ∧ j0 ≤ ms → B b1_ b2_ b3_ b4_ i0 j0 w → GW x p l e (rmd 1312 mc ms) s m args below meth c 8 (lw_Z below args s) 23 [(0, .ref b0), (1, .ref (adr x b1_)), (2, .ref (adr x b2_)), (3, .ref (adr x b3_)), (4, .int b4_)] [] w i0 j0)  (a1 : Nat) (a2 : Nat) (a3 : Nat) (a4 : Int32) (a5 : Int32) (s0 : Int32) (s1 : Int32) (s2 : Nat) (i0 j0 : Nat) (w : Wd) (hb : i0 ≤ mc ∧ j0 ≤ ms) (h : j_L_law_1041 n0 sc mc ms B K a1 a2 a3 a4 a5 s0 s1 s2 i0 j0 w) : GW x p l e (rmd 1312 mc ms) s m args below meth c 8 (lw_Z below args s) 1041 [(0, .ref b0), (1, .ref (adr x a1)), (2, .ref (adr x a2)), (3, .ref (adr x a3)), (4, .int a4), (5, .int a5)] [.int s0, .int s1, .ref (adr x s2)] w i0 j0 := by
  obtain ⟨k305, h⟩ := h
  refine miL_220 (pc := 1041) C k305 h (Nat.le_of_ble_eq_true rfl) (Nat.le_of_ble_eq_true rfl) hb dL_law_1041 (fun r306 w307 h => ?_)
  refine g_istore (pc := 1044) C dL_law_1044 (Nat.le_of_ble_eq_true rfl) (lo' := [(6, .int r306), (0, .ref b0), (1, .ref (adr x a1)), (2, .ref (adr x a2)), (3, .ref (adr x a3)), (4, .int a4), (5, .int a5)]) rfl ?_
  refine g_aload_n (pc := 1046) C dL_law_1046 (q := 3) rfl ?_
  obtain ⟨k308, h⟩ := h
  refine miL_159 (pc := 1047) C k308 h (Nat.le_of_ble_eq_true rfl) (Nat.le_of_ble_eq_true rfl) hb dL_law_1047 (fun r309 w310 h => ?_)
  refine g_iload (pc := 1050) C dL_law_1050 (q := 6) rfl ?_
  refine g_icmp_eq (pc := 1052) C dL_law_1052 (tgt := 1057) rfl (fun z311 => ?_) (fun z311 => ?_)
  · replace h := h.1 z311
    refine g_iload (pc := 1057) C dL_law_1057 (q := 6) rfl ?_
    refine g_if_ne (pc := 1059) C dL_law_1059 (tgt := 1074) rfl (fun z312 => ?_) (fun z312 => ?_)
    · replace h := h.2 z312
      refine g_goto (pc := 1074) C dL_law_1074 (tgt := 3049) rfl ?_
      refine g_iinc (pc := 3049) C dL_law_3049 (q := 5) rfl (v2 := a4 + 6) rfl (Nat.le_of_ble_eq_true rfl) (lo' := [(4, .int (a4 + 6)), (6, .int r306), (0, .ref b0), (1, .ref (adr x a1)), (2, .ref (adr x a2)), (3, .ref (adr x a3)), (5, .int a5)]) rfl ?_
      refine g_goto (pc := 3052) C dL_law_3052 (tgt := 23) rfl ?_
      refine g_sub [2, 3, 4, 5, 0] rfl ?_
      exact hB _ _ _ _ _ _ _ hb h
    · replace h := h.1 z312
      refine g_aload_n (pc := 1062) C dL_law_1062 (q := 4) rfl ?_
      refine g_iconst (pc := 1063) C dL_law_1063 (v := 0) rfl ?_
      obtain ⟨k313, h⟩ := h
      obtain ⟨k314, h⟩ := h
      refine g_lald (pc := 1064) C k313 k314 dL_law_1064 ?_
      refine g_iload (pc := 1065) C dL_law_1065 (q := 0) rfl ?_
      refine g_i2l (pc := 1067) C dL_law_1067 ?_
      refine g_lcmp (pc := 1068) C dL_law_1068 ?_
      refine g_if_eq (pc := 1069) C dL_law_1069 (tgt := 1074) rfl (fun z315 => ?_) (fun z315 => ?_)
      · replace h := h.1 z315
        refine g_goto (pc := 1074) C dL_law_1074 (tgt := 3049) rfl ?_
        refine g_iinc (pc := 3049) C dL_law_3049 (q := 5) rfl (v2 := a4 + 6) rfl (Nat.le_of_ble_eq_true rfl) (lo' := [(4, .int (a4 + 6)), (6, .int r306), (0, .ref b0), (1, .ref (adr x a1)), (2, .ref (adr x a2)), (3, .ref (adr x a3)), (5, .int a5)]) rfl ?_
        refine g_goto (pc := 3052) C dL_law_3052 (tgt := 23) rfl ?_
        refine g_sub [2, 3, 4, 5, 0] rfl ?_
        exact hB _ _ _ _ _ _ _ hb h
      · replace h := h.2 z315
        refine g_iconst (pc := 1072) C dL_law_1072 (v := 0) rfl ?_
        exact g_lawend (pc := 1073) C hlk hr hb.1 hb.2 dL_law_1073 (hK1 _ _ h) hmc
  · replace h := h.2 z311
    refine g_iconst (pc := 1055) C dL_law_1055 (v := 0) rfl ?_
    exact g_lawend (pc := 1056) C hlk hr hb.1 hb.2 dL_law_1056 (hK1 _ _ h) hmc
theorem t_L_law_1014 {b0 : Nat} (C : xC x p s m c cL_law 8 args RL) (hlk : meth.locks = false) (hr : meth.sig.returnType = ret) (hl : l.stackTraces = false) {n0 : Nat} {sc : Nat → Int32} {mc ms : Nat} (hX : va_X b0 n0 sc s s.heap) (hbl : b0 < s.heap.size) (hbA : ¬ xA x b0) (hmc : mc ≤ 601024 ∧ ms ≤ 7293034 ∧ args = #[Value.ref b0] ∧ x.2.2.1 = s.heap.size) {K : Int32 → Wd → Prop} (hK1 : ∀ r w, K r w → r = 1) {B : Nat → Nat → Nat → Int32 → Nat → Nat → Wd → Prop}  (hB : ∀ (b1_ : Nat) (b2_ : Nat) (b3_ : Nat) (b4_ : Int32) (i0 j0 : Nat) (w : Wd), i0 ≤ mc ∧ j0 ≤ ms → B b1_ b2_ b3_ b4_ i0 j0 w → GW x p l e (rmd 1312 mc ms) s m args below meth c 8 (lw_Z below args s) 23 [(0, .ref b0), (1, .ref (adr x b1_)), (2, .ref (adr x b2_)), (3, .ref (adr x b3_)), (4, .int b4_)] [] w i0 j0)  (a1 : Nat) (a2 : Nat) (a3 : Nat) (a4 : Int32) (s0 : Int32) (s1 : Int32) (s2 : Nat) (i0 j0 : Nat) (w : Wd) (hb : i0 ≤ mc ∧ j0 ≤ ms) (h : j_L_law_1014 n0 sc mc ms B K a1 a2 a3 a4 s0 s1 s2 i0 j0 w) : GW x p l e (rmd 1312 mc ms) s m args below meth c 8 (lw_Z below args s) 1014 [(0, .ref b0), (1, .ref (adr x a1)), (2, .ref (adr x a2)), (3, .ref (adr x a3)), (4, .int a4)] [.int s0, .int s1, .ref (adr x s2)] w i0 j0 := by
  refine g_aload_n (pc := 1014) C dL_law_1014 (q := 3) rfl ?_
  obtain ⟨hb301, h⟩ := h
  refine maL_217 (pc := 1015) C hl h (Nat.le_of_ble_eq_true rfl) (Nat.le_of_ble_eq_true rfl) hb301 dL_law_1015 (fun r299 w300 h => ?_)
  refine g_istore (pc := 1018) C dL_law_1018 (Nat.le_of_ble_eq_true rfl) (lo' := [(5, .int r299), (0, .ref b0), (1, .ref (adr x a1)), (2, .ref (adr x a2)), (3, .ref (adr x a3)), (4, .int a4)]) rfl ?_
  refine g_aload_n (pc := 1020) C dL_law_1020 (q := 3) rfl ?_
  refine g_aload_n (pc := 1021) C dL_law_1021 (q := 1) rfl ?_
  refine g_iload (pc := 1022) C dL_law_1022 (q := 5) rfl ?_
  refine g_iconst (pc := 1024) C dL_law_1024 (v := 1) rfl ?_
  refine g_iadd (pc := 1025) C dL_law_1025 ?_
  obtain ⟨k302, h⟩ := h
  refine g_sld (pc := 1026) C hX hbl hbA k302 dL_law_1026 ?_
  refine g_aload_n (pc := 1027) C dL_law_1027 (q := 1) rfl ?_
  refine g_iload (pc := 1028) C dL_law_1028 (q := 5) rfl ?_
  refine g_iconst (pc := 1030) C dL_law_1030 (v := 2) rfl ?_
  refine g_iadd (pc := 1031) C dL_law_1031 ?_
  obtain ⟨k303, h⟩ := h
  refine g_sld (pc := 1032) C hX hbl hbA k303 dL_law_1032 ?_
  refine g_if_eq (pc := 1033) C dL_law_1033 (tgt := 1040) rfl (fun z304 => ?_) (fun z304 => ?_)
  · replace h := h.1 z304
    refine g_iconst (pc := 1040) C dL_law_1040 (v := 0) rfl ?_
    refine g_sub [1, 2, 3, 4, 5, 0] rfl ?_
    exact t_L_law_1041 C hlk hr hl hX hbl hbA hmc hK1 hB _ _ _ _ _ _ _ _ _ _ _ hb301 h
  · replace h := h.2 z304
    refine g_iconst (pc := 1036) C dL_law_1036 (v := 1) rfl ?_
    refine g_goto (pc := 1037) C dL_law_1037 (tgt := 1041) rfl ?_
    refine g_sub [1, 2, 3, 4, 5, 0] rfl ?_
    exact t_L_law_1041 C hlk hr hl hX hbl hbA hmc hK1 hB _ _ _ _ _ _ _ _ _ _ _ hb301 h
theorem t_L_law_23 {b0 : Nat} (C : xC x p s m c cL_law 8 args RL) (hlk : meth.locks = false) (hr : meth.sig.returnType = ret) (hl : l.stackTraces = false) {n0 : Nat} {sc : Nat → Int32} {mc ms : Nat} (hX : va_X b0 n0 sc s s.heap) (hbl : b0 < s.heap.size) (hbA : ¬ xA x b0) (hmc : mc ≤ 601024 ∧ ms ≤ 7293034 ∧ args = #[Value.ref b0] ∧ x.2.2.1 = s.heap.size) {K : Int32 → Wd → Prop} (hK1 : ∀ r w, K r w → r = 1)   : ∀ (n : Nat) (a1 : Nat) (a2 : Nat) (a3 : Nat) (a4 : Int32) (i0 j0 : Nat) (w : Wd), i0 ≤ mc ∧ j0 ≤ ms → l_L_law_23 n0 sc mc ms K n a1 a2 a3 a4 i0 j0 w → GW x p l e (rmd 1312 mc ms) s m args below meth c 8 (lw_Z below args s) 23 [(0, .ref b0), (1, .ref (adr x a1)), (2, .ref (adr x a2)), (3, .ref (adr x a3)), (4, .int a4)] [] w i0 j0 := by
  intro n
  induction n with
  | zero => intro _ _ _ _ _ _ _ _ h; exact False.elim h
  | succ n ih =>
    intro a1 a2 a3 a4 i0 j0 w hb h
    refine g_iload (pc := 23) C dL_law_23 (q := 4) rfl ?_
    refine g_aload_n (pc := 25) C dL_law_25 (q := 0) rfl ?_
    refine g_slen (pc := 26) C hX hbl hbA dL_law_26 ?_
    refine g_bipush (pc := 27) C dL_law_27 (v := 6) rfl ?_
    refine g_isub (pc := 29) C dL_law_29 ?_
    refine g_icmp_gt (pc := 30) C dL_law_30 (tgt := 3055) rfl (fun z22 => ?_) (fun z22 => ?_)
    · replace h := h.1 z22
      refine g_iconst (pc := 3055) C dL_law_3055 (v := 1) rfl ?_
      exact g_lawend (pc := 3056) C hlk hr hb.1 hb.2 dL_law_3056 (hK1 _ _ h) hmc
    · replace h := h.2 z22
      refine g_aload_n (pc := 33) C dL_law_33 (q := 0) rfl ?_
      refine g_iload (pc := 34) C dL_law_34 (q := 4) rfl ?_
      obtain ⟨k23, h⟩ := h
      refine g_sld (pc := 36) C hX hbl hbA k23 dL_law_36 ?_
      refine g_bipush (pc := 37) C dL_law_37 (v := 63) rfl ?_
      refine g_iand (pc := 39) C dL_law_39 ?_
      by_cases z24 : (sc a4.toNatClampNeg) &&& 63 = 0
      · replace h := h.1 z24
        refine g_tabIn (pc := 40) C dL_law_40 (by rw [z24]; decide) (by rw [z24]; decide) (off := 220) (by rw [z24]; rfl) (tgt := 260) rfl ?_
        refine g_aload_n (pc := 260) C dL_law_260 (q := 1) rfl ?_
        refine g_aload_n (pc := 261) C dL_law_261 (q := 0) rfl ?_
        refine g_iload (pc := 262) C dL_law_262 (q := 4) rfl ?_
        refine g_iconst (pc := 264) C dL_law_264 (v := 1) rfl ?_
        refine g_iadd (pc := 265) C dL_law_265 ?_
        obtain ⟨k75, h⟩ := h
        refine g_sld (pc := 266) C hX hbl hbA k75 dL_law_266 ?_
        refine g_aload_n (pc := 267) C dL_law_267 (q := 0) rfl ?_
        refine g_iload (pc := 268) C dL_law_268 (q := 4) rfl ?_
        refine g_iconst (pc := 270) C dL_law_270 (v := 2) rfl ?_
        refine g_iadd (pc := 271) C dL_law_271 ?_
        obtain ⟨k76, h⟩ := h
        refine g_sld (pc := 272) C hX hbl hbA k76 dL_law_272 ?_
        refine g_aload_n (pc := 273) C dL_law_273 (q := 0) rfl ?_
        refine g_iload (pc := 274) C dL_law_274 (q := 4) rfl ?_
        refine g_iconst (pc := 276) C dL_law_276 (v := 3) rfl ?_
        refine g_iadd (pc := 277) C dL_law_277 ?_
        obtain ⟨k77, h⟩ := h
        refine g_sld (pc := 278) C hX hbl hbA k77 dL_law_278 ?_
        refine g_aload_n (pc := 279) C dL_law_279 (q := 0) rfl ?_
        refine g_iload (pc := 280) C dL_law_280 (q := 4) rfl ?_
        refine g_iconst (pc := 282) C dL_law_282 (v := 4) rfl ?_
        refine g_iadd (pc := 283) C dL_law_283 ?_
        obtain ⟨k78, h⟩ := h
        refine g_sld (pc := 284) C hX hbl hbA k78 dL_law_284 ?_
        refine g_aload_n (pc := 285) C dL_law_285 (q := 0) rfl ?_
        refine g_iload (pc := 286) C dL_law_286 (q := 4) rfl ?_
        refine g_iconst (pc := 288) C dL_law_288 (v := 5) rfl ?_
        refine g_iadd (pc := 289) C dL_law_289 ?_
        obtain ⟨k79, h⟩ := h
        refine g_sld (pc := 290) C hX hbl hbA k79 dL_law_290 ?_
        obtain ⟨k80, h⟩ := h
        refine miL_148 (pc := 291) C k80 h (Nat.le_of_ble_eq_true rfl) (Nat.le_of_ble_eq_true rfl) hb dL_law_291 (fun r81 w82 h => ?_)
        refine g_aload_n (pc := 294) C dL_law_294 (q := 2) rfl ?_
        refine g_aload_n (pc := 295) C dL_law_295 (q := 0) rfl ?_
        refine g_iload (pc := 296) C dL_law_296 (q := 4) rfl ?_
        refine g_iconst (pc := 298) C dL_law_298 (v := 1) rfl ?_
        refine g_iadd (pc := 299) C dL_law_299 ?_
        obtain ⟨k83, h⟩ := h
        refine g_sld (pc := 300) C hX hbl hbA k83 dL_law_300 ?_
        refine g_aload_n (pc := 301) C dL_law_301 (q := 0) rfl ?_
        refine g_iload (pc := 302) C dL_law_302 (q := 4) rfl ?_
        refine g_iconst (pc := 304) C dL_law_304 (v := 2) rfl ?_
        refine g_iadd (pc := 305) C dL_law_305 ?_
        obtain ⟨k84, h⟩ := h
        refine g_sld (pc := 306) C hX hbl hbA k84 dL_law_306 ?_
        refine g_aload_n (pc := 307) C dL_law_307 (q := 0) rfl ?_
        refine g_iload (pc := 308) C dL_law_308 (q := 4) rfl ?_
        refine g_iconst (pc := 310) C dL_law_310 (v := 3) rfl ?_
        refine g_iadd (pc := 311) C dL_law_311 ?_
        obtain ⟨k85, h⟩ := h
        refine g_sld (pc := 312) C hX hbl hbA k85 dL_law_312 ?_
        refine g_aload_n (pc := 313) C dL_law_313 (q := 0) rfl ?_
        refine g_iload (pc := 314) C dL_law_314 (q := 4) rfl ?_
        refine g_iconst (pc := 316) C dL_law_316 (v := 4) rfl ?_
        refine g_iadd (pc := 317) C dL_law_317 ?_
        obtain ⟨k86, h⟩ := h
        refine g_sld (pc := 318) C hX hbl hbA k86 dL_law_318 ?_
        refine g_aload_n (pc := 319) C dL_law_319 (q := 0) rfl ?_
        refine g_iload (pc := 320) C dL_law_320 (q := 4) rfl ?_
        refine g_iconst (pc := 322) C dL_law_322 (v := 5) rfl ?_
        refine g_iadd (pc := 323) C dL_law_323 ?_
        obtain ⟨k87, h⟩ := h
        refine g_sld (pc := 324) C hX hbl hbA k87 dL_law_324 ?_
        obtain ⟨k88, h⟩ := h
        refine miL_152 (pc := 325) C k88 h (Nat.le_of_ble_eq_true rfl) (Nat.le_of_ble_eq_true rfl) hb dL_law_325 (fun r89 w90 h => ?_)
        refine g_icmp_eq (pc := 328) C dL_law_328 (tgt := 3049) rfl (fun z91 => ?_) (fun z91 => ?_)
        · replace h := h.1 z91
          refine g_iinc (pc := 3049) C dL_law_3049 (q := 4) rfl (v2 := a4 + 6) rfl (Nat.le_of_ble_eq_true rfl) (lo' := [(4, .int (a4 + 6)), (0, .ref b0), (1, .ref (adr x a1)), (2, .ref (adr x a2)), (3, .ref (adr x a3))]) rfl ?_
          refine g_goto (pc := 3052) C dL_law_3052 (tgt := 23) rfl ?_
          refine g_sub [1, 2, 3, 4, 0] rfl ?_
          exact ih _ _ _ _ _ _ _ hb h
        · replace h := h.2 z91
          refine g_iconst (pc := 331) C dL_law_331 (v := 0) rfl ?_
          exact g_lawend (pc := 332) C hlk hr hb.1 hb.2 dL_law_332 (hK1 _ _ h) hmc
      replace h := h.2 z24
      by_cases z25 : (sc a4.toNatClampNeg) &&& 63 = 1
      · replace h := h.1 z25
        refine g_tabIn (pc := 40) C dL_law_40 (by rw [z25]; decide) (by rw [z25]; decide) (off := 293) (by rw [z25]; rfl) (tgt := 333) rfl ?_
        refine g_aload_n (pc := 333) C dL_law_333 (q := 1) rfl ?_
        refine g_aload_n (pc := 334) C dL_law_334 (q := 0) rfl ?_
        refine g_iload (pc := 335) C dL_law_335 (q := 4) rfl ?_
        refine g_iconst (pc := 337) C dL_law_337 (v := 1) rfl ?_
        refine g_iadd (pc := 338) C dL_law_338 ?_
        obtain ⟨k92, h⟩ := h
        refine g_sld (pc := 339) C hX hbl hbA k92 dL_law_339 ?_
        refine g_aload_n (pc := 340) C dL_law_340 (q := 3) rfl ?_
        obtain ⟨c96, s97, hb95, h⟩ := h
        refine maL_153 (pc := 341) C hl h (Nat.le_of_ble_eq_true rfl) (Nat.le_of_ble_eq_true rfl) hb95 dL_law_341 (fun r93 w94 h => ?_)
        refine g_istore (pc := 344) C dL_law_344 (Nat.le_of_ble_eq_true rfl) (lo' := [(5, .int r93), (0, .ref b0), (1, .ref (adr x a1)), (2, .ref (adr x a2)), (3, .ref (adr x a3)), (4, .int a4)]) rfl ?_
        refine g_aload_n (pc := 346) C dL_law_346 (q := 3) rfl ?_
        refine g_aload_n (pc := 347) C dL_law_347 (q := 1) rfl ?_
        refine g_iload (pc := 348) C dL_law_348 (q := 5) rfl ?_
        refine g_iconst (pc := 350) C dL_law_350 (v := 1) rfl ?_
        refine g_iadd (pc := 351) C dL_law_351 ?_
        obtain ⟨k98, h⟩ := h
        refine g_sld (pc := 352) C hX hbl hbA k98 dL_law_352 ?_
        obtain ⟨k99, h⟩ := h
        refine miL_158 (pc := 353) C k99 h (Nat.le_of_ble_eq_true rfl) (Nat.le_of_ble_eq_true rfl) hb95 dL_law_353 (fun r100 w101 h => ?_)
        refine g_istore (pc := 356) C dL_law_356 (Nat.le_of_ble_eq_true rfl) (lo' := [(6, .int r100), (5, .int r93), (0, .ref b0), (1, .ref (adr x a1)), (2, .ref (adr x a2)), (3, .ref (adr x a3)), (4, .int a4)]) rfl ?_
        refine g_aload_n (pc := 358) C dL_law_358 (q := 4) rfl ?_
        obtain ⟨k102, h⟩ := h
        refine miL_159 (pc := 359) C k102 h (Nat.le_of_ble_eq_true rfl) (Nat.le_of_ble_eq_true rfl) hb95 dL_law_359 (fun r103 w104 h => ?_)
        refine g_iload (pc := 362) C dL_law_362 (q := 1) rfl ?_
        refine g_icmp_eq (pc := 364) C dL_law_364 (tgt := 369) rfl (fun z105 => ?_) (fun z105 => ?_)
        · replace h := h.1 z105
          refine g_iload (pc := 369) C dL_law_369 (q := 1) rfl ?_
          refine g_if_ne (pc := 371) C dL_law_371 (tgt := 386) rfl (fun z106 => ?_) (fun z106 => ?_)
          · replace h := h.2 z106
            refine g_goto (pc := 386) C dL_law_386 (tgt := 3049) rfl ?_
            refine g_iinc (pc := 3049) C dL_law_3049 (q := 6) rfl (v2 := a4 + 6) rfl (Nat.le_of_ble_eq_true rfl) (lo' := [(4, .int (a4 + 6)), (6, .int r100), (5, .int r93), (0, .ref b0), (1, .ref (adr x a1)), (2, .ref (adr x a2)), (3, .ref (adr x a3))]) rfl ?_
            refine g_goto (pc := 3052) C dL_law_3052 (tgt := 23) rfl ?_
            refine g_sub [3, 4, 5, 6, 0] rfl ?_
            exact ih _ _ _ _ _ _ _ hb95 h
          · replace h := h.1 z106
            refine g_aload_n (pc := 374) C dL_law_374 (q := 5) rfl ?_
            refine g_iconst (pc := 375) C dL_law_375 (v := 0) rfl ?_
            obtain ⟨k107, h⟩ := h
            obtain ⟨k108, h⟩ := h
            refine g_lald (pc := 376) C k107 k108 dL_law_376 ?_
            refine g_iload (pc := 377) C dL_law_377 (q := 0) rfl ?_
            refine g_i2l (pc := 379) C dL_law_379 ?_
            refine g_lcmp (pc := 380) C dL_law_380 ?_
            refine g_if_eq (pc := 381) C dL_law_381 (tgt := 386) rfl (fun z109 => ?_) (fun z109 => ?_)
            · replace h := h.1 z109
              refine g_goto (pc := 386) C dL_law_386 (tgt := 3049) rfl ?_
              refine g_iinc (pc := 3049) C dL_law_3049 (q := 6) rfl (v2 := a4 + 6) rfl (Nat.le_of_ble_eq_true rfl) (lo' := [(4, .int (a4 + 6)), (6, .int r100), (5, .int r93), (0, .ref b0), (1, .ref (adr x a1)), (2, .ref (adr x a2)), (3, .ref (adr x a3))]) rfl ?_
              refine g_goto (pc := 3052) C dL_law_3052 (tgt := 23) rfl ?_
              refine g_sub [3, 4, 5, 6, 0] rfl ?_
              exact ih _ _ _ _ _ _ _ hb95 h
            · replace h := h.2 z109
              refine g_iconst (pc := 384) C dL_law_384 (v := 0) rfl ?_
              exact g_lawend (pc := 385) C hlk hr hb95.1 hb95.2 dL_law_385 (hK1 _ _ h) hmc
        · replace h := h.2 z105
          refine g_iconst (pc := 367) C dL_law_367 (v := 0) rfl ?_
          exact g_lawend (pc := 368) C hlk hr hb95.1 hb95.2 dL_law_368 (hK1 _ _ h) hmc
      replace h := h.2 z25
      by_cases z26 : (sc a4.toNatClampNeg) &&& 63 = 2
      · replace h := h.1 z26
        refine g_tabIn (pc := 40) C dL_law_40 (by rw [z26]; decide) (by rw [z26]; decide) (off := 349) (by rw [z26]; rfl) (tgt := 389) rfl ?_
        refine g_aload_n (pc := 389) C dL_law_389 (q := 1) rfl ?_
        refine g_aload_n (pc := 390) C dL_law_390 (q := 0) rfl ?_
        refine g_iload (pc := 391) C dL_law_391 (q := 4) rfl ?_
        refine g_iconst (pc := 393) C dL_law_393 (v := 1) rfl ?_
        refine g_iadd (pc := 394) C dL_law_394 ?_
        obtain ⟨k110, h⟩ := h
        refine g_sld (pc := 395) C hX hbl hbA k110 dL_law_395 ?_
        obtain ⟨k111, h⟩ := h
        refine miL_163 (pc := 396) C k111 h (Nat.le_of_ble_eq_true rfl) (Nat.le_of_ble_eq_true rfl) hb dL_law_396 (fun r112 w113 h => ?_)
        refine g_aload_n (pc := 399) C dL_law_399 (q := 2) rfl ?_
        refine g_aload_n (pc := 400) C dL_law_400 (q := 0) rfl ?_
        refine g_iload (pc := 401) C dL_law_401 (q := 4) rfl ?_
        refine g_iconst (pc := 403) C dL_law_403 (v := 1) rfl ?_
        refine g_iadd (pc := 404) C dL_law_404 ?_
        obtain ⟨k114, h⟩ := h
        refine g_sld (pc := 405) C hX hbl hbA k114 dL_law_405 ?_
        obtain ⟨k115, h⟩ := h
        refine miL_166 (pc := 406) C k115 h (Nat.le_of_ble_eq_true rfl) (Nat.le_of_ble_eq_true rfl) hb dL_law_406 (fun r116 w117 h => ?_)
        refine g_icmp_eq (pc := 409) C dL_law_409 (tgt := 3049) rfl (fun z118 => ?_) (fun z118 => ?_)
        · replace h := h.1 z118
          refine g_iinc (pc := 3049) C dL_law_3049 (q := 4) rfl (v2 := a4 + 6) rfl (Nat.le_of_ble_eq_true rfl) (lo' := [(4, .int (a4 + 6)), (0, .ref b0), (1, .ref (adr x a1)), (2, .ref (adr x a2)), (3, .ref (adr x a3))]) rfl ?_
          refine g_goto (pc := 3052) C dL_law_3052 (tgt := 23) rfl ?_
          refine g_sub [1, 2, 3, 4, 0] rfl ?_
          exact ih _ _ _ _ _ _ _ hb h
        · replace h := h.2 z118
          refine g_iconst (pc := 412) C dL_law_412 (v := 0) rfl ?_
          exact g_lawend (pc := 413) C hlk hr hb.1 hb.2 dL_law_413 (hK1 _ _ h) hmc
      replace h := h.2 z26
      by_cases z27 : (sc a4.toNatClampNeg) &&& 63 = 3
      · replace h := h.1 z27
        refine g_tabIn (pc := 40) C dL_law_40 (by rw [z27]; decide) (by rw [z27]; decide) (off := 374) (by rw [z27]; rfl) (tgt := 414) rfl ?_
        refine g_aload_n (pc := 414) C dL_law_414 (q := 1) rfl ?_
        refine g_aload_n (pc := 415) C dL_law_415 (q := 0) rfl ?_
        refine g_iload (pc := 416) C dL_law_416 (q := 4) rfl ?_
        refine g_iconst (pc := 418) C dL_law_418 (v := 1) rfl ?_
        refine g_iadd (pc := 419) C dL_law_419 ?_
        obtain ⟨k119, h⟩ := h
        refine g_sld (pc := 420) C hX hbl hbA k119 dL_law_420 ?_
        refine g_aload_n (pc := 421) C dL_law_421 (q := 0) rfl ?_
        refine g_iload (pc := 422) C dL_law_422 (q := 4) rfl ?_
        refine g_iconst (pc := 424) C dL_law_424 (v := 2) rfl ?_
        refine g_iadd (pc := 425) C dL_law_425 ?_
        obtain ⟨k120, h⟩ := h
        refine g_sld (pc := 426) C hX hbl hbA k120 dL_law_426 ?_
        refine g_aload_n (pc := 427) C dL_law_427 (q := 3) rfl ?_
        obtain ⟨hb123, h⟩ := h
        refine maL_167 (pc := 428) C hl h (Nat.le_of_ble_eq_true rfl) (Nat.le_of_ble_eq_true rfl) hb123 dL_law_428 (fun r121 w122 h => ?_)
        refine g_istore (pc := 431) C dL_law_431 (Nat.le_of_ble_eq_true rfl) (lo' := [(5, .int r121), (0, .ref b0), (1, .ref (adr x a1)), (2, .ref (adr x a2)), (3, .ref (adr x a3)), (4, .int a4)]) rfl ?_
        refine g_aload_n (pc := 433) C dL_law_433 (q := 3) rfl ?_
        refine g_aload_n (pc := 434) C dL_law_434 (q := 1) rfl ?_
        refine g_iload (pc := 435) C dL_law_435 (q := 5) rfl ?_
        refine g_iconst (pc := 437) C dL_law_437 (v := 1) rfl ?_
        refine g_iadd (pc := 438) C dL_law_438 ?_
        obtain ⟨k124, h⟩ := h
        refine g_sld (pc := 439) C hX hbl hbA k124 dL_law_439 ?_
        refine g_aload_n (pc := 440) C dL_law_440 (q := 1) rfl ?_
        refine g_iload (pc := 441) C dL_law_441 (q := 5) rfl ?_
        refine g_iconst (pc := 443) C dL_law_443 (v := 2) rfl ?_
        refine g_iadd (pc := 444) C dL_law_444 ?_
        obtain ⟨k125, h⟩ := h
        refine g_sld (pc := 445) C hX hbl hbA k125 dL_law_445 ?_
        obtain ⟨k126, h⟩ := h
        refine miL_170 (pc := 446) C k126 h (Nat.le_of_ble_eq_true rfl) (Nat.le_of_ble_eq_true rfl) hb123 dL_law_446 (fun r127 w128 h => ?_)
        refine g_istore (pc := 449) C dL_law_449 (Nat.le_of_ble_eq_true rfl) (lo' := [(6, .int r127), (5, .int r121), (0, .ref b0), (1, .ref (adr x a1)), (2, .ref (adr x a2)), (3, .ref (adr x a3)), (4, .int a4)]) rfl ?_
        refine g_aload_n (pc := 451) C dL_law_451 (q := 4) rfl ?_
        obtain ⟨k129, h⟩ := h
        refine miL_159 (pc := 452) C k129 h (Nat.le_of_ble_eq_true rfl) (Nat.le_of_ble_eq_true rfl) hb123 dL_law_452 (fun r130 w131 h => ?_)
        refine g_iload (pc := 455) C dL_law_455 (q := 1) rfl ?_
        refine g_icmp_eq (pc := 457) C dL_law_457 (tgt := 462) rfl (fun z132 => ?_) (fun z132 => ?_)
        · replace h := h.1 z132
          refine g_iload (pc := 462) C dL_law_462 (q := 1) rfl ?_
          refine g_if_ne (pc := 464) C dL_law_464 (tgt := 479) rfl (fun z133 => ?_) (fun z133 => ?_)
          · replace h := h.2 z133
            refine g_goto (pc := 479) C dL_law_479 (tgt := 3049) rfl ?_
            refine g_iinc (pc := 3049) C dL_law_3049 (q := 6) rfl (v2 := a4 + 6) rfl (Nat.le_of_ble_eq_true rfl) (lo' := [(4, .int (a4 + 6)), (6, .int r127), (5, .int r121), (0, .ref b0), (1, .ref (adr x a1)), (2, .ref (adr x a2)), (3, .ref (adr x a3))]) rfl ?_
            refine g_goto (pc := 3052) C dL_law_3052 (tgt := 23) rfl ?_
            refine g_sub [3, 4, 5, 6, 0] rfl ?_
            exact ih _ _ _ _ _ _ _ hb123 h
          · replace h := h.1 z133
            refine g_aload_n (pc := 467) C dL_law_467 (q := 5) rfl ?_
            refine g_iconst (pc := 468) C dL_law_468 (v := 0) rfl ?_
            obtain ⟨k134, h⟩ := h
            obtain ⟨k135, h⟩ := h
            refine g_lald (pc := 469) C k134 k135 dL_law_469 ?_
            refine g_iload (pc := 470) C dL_law_470 (q := 0) rfl ?_
            refine g_i2l (pc := 472) C dL_law_472 ?_
            refine g_lcmp (pc := 473) C dL_law_473 ?_
            refine g_if_eq (pc := 474) C dL_law_474 (tgt := 479) rfl (fun z136 => ?_) (fun z136 => ?_)
            · replace h := h.1 z136
              refine g_goto (pc := 479) C dL_law_479 (tgt := 3049) rfl ?_
              refine g_iinc (pc := 3049) C dL_law_3049 (q := 6) rfl (v2 := a4 + 6) rfl (Nat.le_of_ble_eq_true rfl) (lo' := [(4, .int (a4 + 6)), (6, .int r127), (5, .int r121), (0, .ref b0), (1, .ref (adr x a1)), (2, .ref (adr x a2)), (3, .ref (adr x a3))]) rfl ?_
              refine g_goto (pc := 3052) C dL_law_3052 (tgt := 23) rfl ?_
              refine g_sub [3, 4, 5, 6, 0] rfl ?_
              exact ih _ _ _ _ _ _ _ hb123 h
            · replace h := h.2 z136
              refine g_iconst (pc := 477) C dL_law_477 (v := 0) rfl ?_
              exact g_lawend (pc := 478) C hlk hr hb123.1 hb123.2 dL_law_478 (hK1 _ _ h) hmc
        · replace h := h.2 z132
          refine g_iconst (pc := 460) C dL_law_460 (v := 0) rfl ?_
          exact g_lawend (pc := 461) C hlk hr hb123.1 hb123.2 dL_law_461 (hK1 _ _ h) hmc
      replace h := h.2 z27
      by_cases z28 : (sc a4.toNatClampNeg) &&& 63 = 4
      · replace h := h.1 z28
        refine g_tabIn (pc := 40) C dL_law_40 (by rw [z28]; decide) (by rw [z28]; decide) (off := 442) (by rw [z28]; rfl) (tgt := 482) rfl ?_
        refine g_aload_n (pc := 482) C dL_law_482 (q := 1) rfl ?_
        refine g_aload_n (pc := 483) C dL_law_483 (q := 0) rfl ?_
        refine g_iload (pc := 484) C dL_law_484 (q := 4) rfl ?_
        refine g_iconst (pc := 486) C dL_law_486 (v := 1) rfl ?_
        refine g_iadd (pc := 487) C dL_law_487 ?_
        obtain ⟨k137, h⟩ := h
        refine g_sld (pc := 488) C hX hbl hbA k137 dL_law_488 ?_
        refine g_aload_n (pc := 489) C dL_law_489 (q := 0) rfl ?_
        refine g_iload (pc := 490) C dL_law_490 (q := 4) rfl ?_
        refine g_iconst (pc := 492) C dL_law_492 (v := 2) rfl ?_
        refine g_iadd (pc := 493) C dL_law_493 ?_
        obtain ⟨k138, h⟩ := h
        refine g_sld (pc := 494) C hX hbl hbA k138 dL_law_494 ?_
        refine g_aload_n (pc := 495) C dL_law_495 (q := 3) rfl ?_
        obtain ⟨hb141, h⟩ := h
        refine maL_171 (pc := 496) C hl h (Nat.le_of_ble_eq_true rfl) (Nat.le_of_ble_eq_true rfl) hb141 dL_law_496 (fun r139 w140 h => ?_)
        refine g_istore (pc := 499) C dL_law_499 (Nat.le_of_ble_eq_true rfl) (lo' := [(5, .int r139), (0, .ref b0), (1, .ref (adr x a1)), (2, .ref (adr x a2)), (3, .ref (adr x a3)), (4, .int a4)]) rfl ?_
        refine g_aload_n (pc := 501) C dL_law_501 (q := 3) rfl ?_
        refine g_aload_n (pc := 502) C dL_law_502 (q := 1) rfl ?_
        refine g_iload (pc := 503) C dL_law_503 (q := 5) rfl ?_
        refine g_iconst (pc := 505) C dL_law_505 (v := 1) rfl ?_
        refine g_iadd (pc := 506) C dL_law_506 ?_
        obtain ⟨k142, h⟩ := h
        refine g_sld (pc := 507) C hX hbl hbA k142 dL_law_507 ?_
        refine g_aload_n (pc := 508) C dL_law_508 (q := 1) rfl ?_
        refine g_iload (pc := 509) C dL_law_509 (q := 5) rfl ?_
        refine g_iconst (pc := 511) C dL_law_511 (v := 2) rfl ?_
        refine g_iadd (pc := 512) C dL_law_512 ?_
        obtain ⟨k143, h⟩ := h
        refine g_sld (pc := 513) C hX hbl hbA k143 dL_law_513 ?_
        obtain ⟨k144, h⟩ := h
        refine miL_173 (pc := 514) C k144 h (Nat.le_of_ble_eq_true rfl) (Nat.le_of_ble_eq_true rfl) hb141 dL_law_514 (fun r145 w146 h => ?_)
        refine g_istore (pc := 517) C dL_law_517 (Nat.le_of_ble_eq_true rfl) (lo' := [(6, .int r145), (5, .int r139), (0, .ref b0), (1, .ref (adr x a1)), (2, .ref (adr x a2)), (3, .ref (adr x a3)), (4, .int a4)]) rfl ?_
        refine g_aload_n (pc := 519) C dL_law_519 (q := 4) rfl ?_
        obtain ⟨k147, h⟩ := h
        refine miL_159 (pc := 520) C k147 h (Nat.le_of_ble_eq_true rfl) (Nat.le_of_ble_eq_true rfl) hb141 dL_law_520 (fun r148 w149 h => ?_)
        refine g_iload (pc := 523) C dL_law_523 (q := 1) rfl ?_
        refine g_icmp_eq (pc := 525) C dL_law_525 (tgt := 530) rfl (fun z150 => ?_) (fun z150 => ?_)
        · replace h := h.1 z150
          refine g_iload (pc := 530) C dL_law_530 (q := 1) rfl ?_
          refine g_if_ne (pc := 532) C dL_law_532 (tgt := 547) rfl (fun z151 => ?_) (fun z151 => ?_)
          · replace h := h.2 z151
            refine g_goto (pc := 547) C dL_law_547 (tgt := 3049) rfl ?_
            refine g_iinc (pc := 3049) C dL_law_3049 (q := 6) rfl (v2 := a4 + 6) rfl (Nat.le_of_ble_eq_true rfl) (lo' := [(4, .int (a4 + 6)), (6, .int r145), (5, .int r139), (0, .ref b0), (1, .ref (adr x a1)), (2, .ref (adr x a2)), (3, .ref (adr x a3))]) rfl ?_
            refine g_goto (pc := 3052) C dL_law_3052 (tgt := 23) rfl ?_
            refine g_sub [3, 4, 5, 6, 0] rfl ?_
            exact ih _ _ _ _ _ _ _ hb141 h
          · replace h := h.1 z151
            refine g_aload_n (pc := 535) C dL_law_535 (q := 5) rfl ?_
            refine g_iconst (pc := 536) C dL_law_536 (v := 0) rfl ?_
            obtain ⟨k152, h⟩ := h
            obtain ⟨k153, h⟩ := h
            refine g_lald (pc := 537) C k152 k153 dL_law_537 ?_
            refine g_iload (pc := 538) C dL_law_538 (q := 0) rfl ?_
            refine g_i2l (pc := 540) C dL_law_540 ?_
            refine g_lcmp (pc := 541) C dL_law_541 ?_
            refine g_if_eq (pc := 542) C dL_law_542 (tgt := 547) rfl (fun z154 => ?_) (fun z154 => ?_)
            · replace h := h.1 z154
              refine g_goto (pc := 547) C dL_law_547 (tgt := 3049) rfl ?_
              refine g_iinc (pc := 3049) C dL_law_3049 (q := 6) rfl (v2 := a4 + 6) rfl (Nat.le_of_ble_eq_true rfl) (lo' := [(4, .int (a4 + 6)), (6, .int r145), (5, .int r139), (0, .ref b0), (1, .ref (adr x a1)), (2, .ref (adr x a2)), (3, .ref (adr x a3))]) rfl ?_
              refine g_goto (pc := 3052) C dL_law_3052 (tgt := 23) rfl ?_
              refine g_sub [3, 4, 5, 6, 0] rfl ?_
              exact ih _ _ _ _ _ _ _ hb141 h
            · replace h := h.2 z154
              refine g_iconst (pc := 545) C dL_law_545 (v := 0) rfl ?_
              exact g_lawend (pc := 546) C hlk hr hb141.1 hb141.2 dL_law_546 (hK1 _ _ h) hmc
        · replace h := h.2 z150
          refine g_iconst (pc := 528) C dL_law_528 (v := 0) rfl ?_
          exact g_lawend (pc := 529) C hlk hr hb141.1 hb141.2 dL_law_529 (hK1 _ _ h) hmc
      replace h := h.2 z28
      by_cases z29 : (sc a4.toNatClampNeg) &&& 63 = 5
      · replace h := h.1 z29
        refine g_tabIn (pc := 40) C dL_law_40 (by rw [z29]; decide) (by rw [z29]; decide) (off := 510) (by rw [z29]; rfl) (tgt := 550) rfl ?_
        refine g_aload_n (pc := 550) C dL_law_550 (q := 1) rfl ?_
        obtain ⟨k155, h⟩ := h
        refine miL_174 (pc := 551) C k155 h (Nat.le_of_ble_eq_true rfl) (Nat.le_of_ble_eq_true rfl) hb dL_law_551 (fun r156 w157 h => ?_)
        refine g_aload_n (pc := 554) C dL_law_554 (q := 2) rfl ?_
        obtain ⟨k158, h⟩ := h
        refine miL_177 (pc := 555) C k158 h (Nat.le_of_ble_eq_true rfl) (Nat.le_of_ble_eq_true rfl) hb dL_law_555 (fun r159 w160 h => ?_)
        refine g_icmp_eq (pc := 558) C dL_law_558 (tgt := 3049) rfl (fun z161 => ?_) (fun z161 => ?_)
        · replace h := h.1 z161
          refine g_iinc (pc := 3049) C dL_law_3049 (q := 4) rfl (v2 := a4 + 6) rfl (Nat.le_of_ble_eq_true rfl) (lo' := [(4, .int (a4 + 6)), (0, .ref b0), (1, .ref (adr x a1)), (2, .ref (adr x a2)), (3, .ref (adr x a3))]) rfl ?_
          refine g_goto (pc := 3052) C dL_law_3052 (tgt := 23) rfl ?_
          refine g_sub [1, 2, 3, 4, 0] rfl ?_
          exact ih _ _ _ _ _ _ _ hb h
        · replace h := h.2 z161
          refine g_iconst (pc := 561) C dL_law_561 (v := 0) rfl ?_
          exact g_lawend (pc := 562) C hlk hr hb.1 hb.2 dL_law_562 (hK1 _ _ h) hmc
      replace h := h.2 z29
      by_cases z30 : (sc a4.toNatClampNeg) &&& 63 = 6
      · replace h := h.1 z30
        refine g_tabIn (pc := 40) C dL_law_40 (by rw [z30]; decide) (by rw [z30]; decide) (off := 523) (by rw [z30]; rfl) (tgt := 563) rfl ?_
        refine g_aload_n (pc := 563) C dL_law_563 (q := 1) rfl ?_
        obtain ⟨k162, h⟩ := h
        refine miL_178 (pc := 564) C k162 h (Nat.le_of_ble_eq_true rfl) (Nat.le_of_ble_eq_true rfl) hb dL_law_564 (fun r163 w164 h => ?_)
        refine g_aload_n (pc := 567) C dL_law_567 (q := 2) rfl ?_
        obtain ⟨k165, h⟩ := h
        refine miL_181 (pc := 568) C k165 h (Nat.le_of_ble_eq_true rfl) (Nat.le_of_ble_eq_true rfl) hb dL_law_568 (fun r166 w167 h => ?_)
        refine g_icmp_eq (pc := 571) C dL_law_571 (tgt := 3049) rfl (fun z168 => ?_) (fun z168 => ?_)
        · replace h := h.1 z168
          refine g_iinc (pc := 3049) C dL_law_3049 (q := 4) rfl (v2 := a4 + 6) rfl (Nat.le_of_ble_eq_true rfl) (lo' := [(4, .int (a4 + 6)), (0, .ref b0), (1, .ref (adr x a1)), (2, .ref (adr x a2)), (3, .ref (adr x a3))]) rfl ?_
          refine g_goto (pc := 3052) C dL_law_3052 (tgt := 23) rfl ?_
          refine g_sub [1, 2, 3, 4, 0] rfl ?_
          exact ih _ _ _ _ _ _ _ hb h
        · replace h := h.2 z168
          refine g_iconst (pc := 574) C dL_law_574 (v := 0) rfl ?_
          exact g_lawend (pc := 575) C hlk hr hb.1 hb.2 dL_law_575 (hK1 _ _ h) hmc
      replace h := h.2 z30
      by_cases z31 : (sc a4.toNatClampNeg) &&& 63 = 7
      · replace h := h.1 z31
        refine g_tabIn (pc := 40) C dL_law_40 (by rw [z31]; decide) (by rw [z31]; decide) (off := 536) (by rw [z31]; rfl) (tgt := 576) rfl ?_
        refine g_aload_n (pc := 576) C dL_law_576 (q := 1) rfl ?_
        refine g_aload_n (pc := 577) C dL_law_577 (q := 0) rfl ?_
        refine g_iload (pc := 578) C dL_law_578 (q := 4) rfl ?_
        refine g_iconst (pc := 580) C dL_law_580 (v := 1) rfl ?_
        refine g_iadd (pc := 581) C dL_law_581 ?_
        obtain ⟨k169, h⟩ := h
        refine g_sld (pc := 582) C hX hbl hbA k169 dL_law_582 ?_
        refine g_aload_n (pc := 583) C dL_law_583 (q := 0) rfl ?_
        refine g_iload (pc := 584) C dL_law_584 (q := 4) rfl ?_
        refine g_iconst (pc := 586) C dL_law_586 (v := 2) rfl ?_
        refine g_iadd (pc := 587) C dL_law_587 ?_
        obtain ⟨k170, h⟩ := h
        refine g_sld (pc := 588) C hX hbl hbA k170 dL_law_588 ?_
        obtain ⟨k171, h⟩ := h
        refine miL_182 (pc := 589) C k171 h (Nat.le_of_ble_eq_true rfl) (Nat.le_of_ble_eq_true rfl) hb dL_law_589 (fun r172 w173 h => ?_)
        refine g_aload_n (pc := 592) C dL_law_592 (q := 2) rfl ?_
        refine g_aload_n (pc := 593) C dL_law_593 (q := 0) rfl ?_
        refine g_iload (pc := 594) C dL_law_594 (q := 4) rfl ?_
        refine g_iconst (pc := 596) C dL_law_596 (v := 1) rfl ?_
        refine g_iadd (pc := 597) C dL_law_597 ?_
        obtain ⟨k174, h⟩ := h
        refine g_sld (pc := 598) C hX hbl hbA k174 dL_law_598 ?_
        refine g_aload_n (pc := 599) C dL_law_599 (q := 0) rfl ?_
        refine g_iload (pc := 600) C dL_law_600 (q := 4) rfl ?_
        refine g_iconst (pc := 602) C dL_law_602 (v := 2) rfl ?_
        refine g_iadd (pc := 603) C dL_law_603 ?_
        obtain ⟨k175, h⟩ := h
        refine g_sld (pc := 604) C hX hbl hbA k175 dL_law_604 ?_
        obtain ⟨k176, h⟩ := h
        refine miL_185 (pc := 605) C k176 h (Nat.le_of_ble_eq_true rfl) (Nat.le_of_ble_eq_true rfl) hb dL_law_605 (fun r177 w178 h => ?_)
        refine g_icmp_eq (pc := 608) C dL_law_608 (tgt := 3049) rfl (fun z179 => ?_) (fun z179 => ?_)
        · replace h := h.1 z179
          refine g_iinc (pc := 3049) C dL_law_3049 (q := 4) rfl (v2 := a4 + 6) rfl (Nat.le_of_ble_eq_true rfl) (lo' := [(4, .int (a4 + 6)), (0, .ref b0), (1, .ref (adr x a1)), (2, .ref (adr x a2)), (3, .ref (adr x a3))]) rfl ?_
          refine g_goto (pc := 3052) C dL_law_3052 (tgt := 23) rfl ?_
          refine g_sub [1, 2, 3, 4, 0] rfl ?_
          exact ih _ _ _ _ _ _ _ hb h
        · replace h := h.2 z179
          refine g_iconst (pc := 611) C dL_law_611 (v := 0) rfl ?_
          exact g_lawend (pc := 612) C hlk hr hb.1 hb.2 dL_law_612 (hK1 _ _ h) hmc
      replace h := h.2 z31
      by_cases z32 : (sc a4.toNatClampNeg) &&& 63 = 8
      · replace h := h.1 z32
        refine g_tabIn (pc := 40) C dL_law_40 (by rw [z32]; decide) (by rw [z32]; decide) (off := 573) (by rw [z32]; rfl) (tgt := 613) rfl ?_
        refine g_aload_n (pc := 613) C dL_law_613 (q := 1) rfl ?_
        refine g_aload_n (pc := 614) C dL_law_614 (q := 0) rfl ?_
        refine g_iload (pc := 615) C dL_law_615 (q := 4) rfl ?_
        refine g_iconst (pc := 617) C dL_law_617 (v := 1) rfl ?_
        refine g_iadd (pc := 618) C dL_law_618 ?_
        obtain ⟨k180, h⟩ := h
        refine g_sld (pc := 619) C hX hbl hbA k180 dL_law_619 ?_
        obtain ⟨k181, h⟩ := h
        refine miL_186 (pc := 620) C k181 h (Nat.le_of_ble_eq_true rfl) (Nat.le_of_ble_eq_true rfl) hb dL_law_620 (fun r182 w183 h => ?_)
        refine g_aload_n (pc := 623) C dL_law_623 (q := 2) rfl ?_
        refine g_aload_n (pc := 624) C dL_law_624 (q := 0) rfl ?_
        refine g_iload (pc := 625) C dL_law_625 (q := 4) rfl ?_
        refine g_iconst (pc := 627) C dL_law_627 (v := 1) rfl ?_
        refine g_iadd (pc := 628) C dL_law_628 ?_
        obtain ⟨k184, h⟩ := h
        refine g_sld (pc := 629) C hX hbl hbA k184 dL_law_629 ?_
        obtain ⟨k185, h⟩ := h
        refine miL_189 (pc := 630) C k185 h (Nat.le_of_ble_eq_true rfl) (Nat.le_of_ble_eq_true rfl) hb dL_law_630 (fun r186 w187 h => ?_)
        refine g_icmp_eq (pc := 633) C dL_law_633 (tgt := 3049) rfl (fun z188 => ?_) (fun z188 => ?_)
        · replace h := h.1 z188
          refine g_iinc (pc := 3049) C dL_law_3049 (q := 4) rfl (v2 := a4 + 6) rfl (Nat.le_of_ble_eq_true rfl) (lo' := [(4, .int (a4 + 6)), (0, .ref b0), (1, .ref (adr x a1)), (2, .ref (adr x a2)), (3, .ref (adr x a3))]) rfl ?_
          refine g_goto (pc := 3052) C dL_law_3052 (tgt := 23) rfl ?_
          refine g_sub [1, 2, 3, 4, 0] rfl ?_
          exact ih _ _ _ _ _ _ _ hb h
        · replace h := h.2 z188
          refine g_iconst (pc := 636) C dL_law_636 (v := 0) rfl ?_
          exact g_lawend (pc := 637) C hlk hr hb.1 hb.2 dL_law_637 (hK1 _ _ h) hmc
      replace h := h.2 z32
      by_cases z33 : (sc a4.toNatClampNeg) &&& 63 = 9
      · replace h := h.1 z33
        refine g_tabIn (pc := 40) C dL_law_40 (by rw [z33]; decide) (by rw [z33]; decide) (off := 598) (by rw [z33]; rfl) (tgt := 638) rfl ?_
        refine g_aload_n (pc := 638) C dL_law_638 (q := 1) rfl ?_
        refine g_aload_n (pc := 639) C dL_law_639 (q := 0) rfl ?_
        refine g_iload (pc := 640) C dL_law_640 (q := 4) rfl ?_
        refine g_iconst (pc := 642) C dL_law_642 (v := 1) rfl ?_
        refine g_iadd (pc := 643) C dL_law_643 ?_
        obtain ⟨k189, h⟩ := h
        refine g_sld (pc := 644) C hX hbl hbA k189 dL_law_644 ?_
        obtain ⟨k190, h⟩ := h
        refine miL_190 (pc := 645) C k190 h (Nat.le_of_ble_eq_true rfl) (Nat.le_of_ble_eq_true rfl) hb dL_law_645 (fun r191 w192 h => ?_)
        refine g_aload_n (pc := 648) C dL_law_648 (q := 2) rfl ?_
        refine g_aload_n (pc := 649) C dL_law_649 (q := 0) rfl ?_
        refine g_iload (pc := 650) C dL_law_650 (q := 4) rfl ?_
        refine g_iconst (pc := 652) C dL_law_652 (v := 1) rfl ?_
        refine g_iadd (pc := 653) C dL_law_653 ?_
        obtain ⟨k193, h⟩ := h
        refine g_sld (pc := 654) C hX hbl hbA k193 dL_law_654 ?_
        obtain ⟨k194, h⟩ := h
        refine miL_193 (pc := 655) C k194 h (Nat.le_of_ble_eq_true rfl) (Nat.le_of_ble_eq_true rfl) hb dL_law_655 (fun r195 w196 h => ?_)
        refine g_icmp_eq (pc := 658) C dL_law_658 (tgt := 3049) rfl (fun z197 => ?_) (fun z197 => ?_)
        · replace h := h.1 z197
          refine g_iinc (pc := 3049) C dL_law_3049 (q := 4) rfl (v2 := a4 + 6) rfl (Nat.le_of_ble_eq_true rfl) (lo' := [(4, .int (a4 + 6)), (0, .ref b0), (1, .ref (adr x a1)), (2, .ref (adr x a2)), (3, .ref (adr x a3))]) rfl ?_
          refine g_goto (pc := 3052) C dL_law_3052 (tgt := 23) rfl ?_
          refine g_sub [1, 2, 3, 4, 0] rfl ?_
          exact ih _ _ _ _ _ _ _ hb h
        · replace h := h.2 z197
          refine g_iconst (pc := 661) C dL_law_661 (v := 0) rfl ?_
          exact g_lawend (pc := 662) C hlk hr hb.1 hb.2 dL_law_662 (hK1 _ _ h) hmc
      replace h := h.2 z33
      by_cases z34 : (sc a4.toNatClampNeg) &&& 63 = 10
      · replace h := h.1 z34
        refine g_tabIn (pc := 40) C dL_law_40 (by rw [z34]; decide) (by rw [z34]; decide) (off := 623) (by rw [z34]; rfl) (tgt := 663) rfl ?_
        refine g_aload_n (pc := 663) C dL_law_663 (q := 1) rfl ?_
        obtain ⟨k198, h⟩ := h
        refine miL_194 (pc := 664) C k198 h (Nat.le_of_ble_eq_true rfl) (Nat.le_of_ble_eq_true rfl) hb dL_law_664 (fun r199 w200 h => ?_)
        refine g_aload_n (pc := 667) C dL_law_667 (q := 2) rfl ?_
        obtain ⟨k201, h⟩ := h
        refine miL_197 (pc := 668) C k201 h (Nat.le_of_ble_eq_true rfl) (Nat.le_of_ble_eq_true rfl) hb dL_law_668 (fun r202 w203 h => ?_)
        refine g_icmp_eq (pc := 671) C dL_law_671 (tgt := 3049) rfl (fun z204 => ?_) (fun z204 => ?_)
        · replace h := h.1 z204
          refine g_iinc (pc := 3049) C dL_law_3049 (q := 4) rfl (v2 := a4 + 6) rfl (Nat.le_of_ble_eq_true rfl) (lo' := [(4, .int (a4 + 6)), (0, .ref b0), (1, .ref (adr x a1)), (2, .ref (adr x a2)), (3, .ref (adr x a3))]) rfl ?_
          refine g_goto (pc := 3052) C dL_law_3052 (tgt := 23) rfl ?_
          refine g_sub [1, 2, 3, 4, 0] rfl ?_
          exact ih _ _ _ _ _ _ _ hb h
        · replace h := h.2 z204
          refine g_iconst (pc := 674) C dL_law_674 (v := 0) rfl ?_
          exact g_lawend (pc := 675) C hlk hr hb.1 hb.2 dL_law_675 (hK1 _ _ h) hmc
      replace h := h.2 z34
      by_cases z35 : (sc a4.toNatClampNeg) &&& 63 = 11
      · replace h := h.1 z35
        refine g_tabIn (pc := 40) C dL_law_40 (by rw [z35]; decide) (by rw [z35]; decide) (off := 636) (by rw [z35]; rfl) (tgt := 676) rfl ?_
        refine g_aload_n (pc := 676) C dL_law_676 (q := 1) rfl ?_
        refine g_aload_n (pc := 677) C dL_law_677 (q := 0) rfl ?_
        refine g_iload (pc := 678) C dL_law_678 (q := 4) rfl ?_
        refine g_iconst (pc := 680) C dL_law_680 (v := 1) rfl ?_
        refine g_iadd (pc := 681) C dL_law_681 ?_
        obtain ⟨k205, h⟩ := h
        refine g_sld (pc := 682) C hX hbl hbA k205 dL_law_682 ?_
        refine g_aload_n (pc := 683) C dL_law_683 (q := 3) rfl ?_
        obtain ⟨hb208, h⟩ := h
        refine maL_198 (pc := 684) C hl h (Nat.le_of_ble_eq_true rfl) (Nat.le_of_ble_eq_true rfl) hb208 dL_law_684 (fun r206 w207 h => ?_)
        refine g_istore (pc := 687) C dL_law_687 (Nat.le_of_ble_eq_true rfl) (lo' := [(5, .int r206), (0, .ref b0), (1, .ref (adr x a1)), (2, .ref (adr x a2)), (3, .ref (adr x a3)), (4, .int a4)]) rfl ?_
        refine g_aload_n (pc := 689) C dL_law_689 (q := 3) rfl ?_
        refine g_aload_n (pc := 690) C dL_law_690 (q := 1) rfl ?_
        refine g_iload (pc := 691) C dL_law_691 (q := 5) rfl ?_
        refine g_iconst (pc := 693) C dL_law_693 (v := 1) rfl ?_
        refine g_iadd (pc := 694) C dL_law_694 ?_
        obtain ⟨k209, h⟩ := h
        refine g_sld (pc := 695) C hX hbl hbA k209 dL_law_695 ?_
        obtain ⟨k210, h⟩ := h
        refine miL_200 (pc := 696) C k210 h (Nat.le_of_ble_eq_true rfl) (Nat.le_of_ble_eq_true rfl) hb208 dL_law_696 (fun r211 w212 h => ?_)
        refine g_istore (pc := 699) C dL_law_699 (Nat.le_of_ble_eq_true rfl) (lo' := [(6, .int r211), (5, .int r206), (0, .ref b0), (1, .ref (adr x a1)), (2, .ref (adr x a2)), (3, .ref (adr x a3)), (4, .int a4)]) rfl ?_
        refine g_aload_n (pc := 701) C dL_law_701 (q := 4) rfl ?_
        obtain ⟨k213, h⟩ := h
        refine miL_159 (pc := 702) C k213 h (Nat.le_of_ble_eq_true rfl) (Nat.le_of_ble_eq_true rfl) hb208 dL_law_702 (fun r214 w215 h => ?_)
        refine g_iload (pc := 705) C dL_law_705 (q := 1) rfl ?_
        refine g_icmp_eq (pc := 707) C dL_law_707 (tgt := 712) rfl (fun z216 => ?_) (fun z216 => ?_)
        · replace h := h.1 z216
          refine g_iload (pc := 712) C dL_law_712 (q := 1) rfl ?_
          refine g_if_ne (pc := 714) C dL_law_714 (tgt := 729) rfl (fun z217 => ?_) (fun z217 => ?_)
          · replace h := h.2 z217
            refine g_goto (pc := 729) C dL_law_729 (tgt := 3049) rfl ?_
            refine g_iinc (pc := 3049) C dL_law_3049 (q := 6) rfl (v2 := a4 + 6) rfl (Nat.le_of_ble_eq_true rfl) (lo' := [(4, .int (a4 + 6)), (6, .int r211), (5, .int r206), (0, .ref b0), (1, .ref (adr x a1)), (2, .ref (adr x a2)), (3, .ref (adr x a3))]) rfl ?_
            refine g_goto (pc := 3052) C dL_law_3052 (tgt := 23) rfl ?_
            refine g_sub [3, 4, 5, 6, 0] rfl ?_
            exact ih _ _ _ _ _ _ _ hb208 h
          · replace h := h.1 z217
            refine g_aload_n (pc := 717) C dL_law_717 (q := 5) rfl ?_
            refine g_iconst (pc := 718) C dL_law_718 (v := 0) rfl ?_
            obtain ⟨k218, h⟩ := h
            obtain ⟨k219, h⟩ := h
            refine g_lald (pc := 719) C k218 k219 dL_law_719 ?_
            refine g_iload (pc := 720) C dL_law_720 (q := 0) rfl ?_
            refine g_i2l (pc := 722) C dL_law_722 ?_
            refine g_lcmp (pc := 723) C dL_law_723 ?_
            refine g_if_eq (pc := 724) C dL_law_724 (tgt := 729) rfl (fun z220 => ?_) (fun z220 => ?_)
            · replace h := h.1 z220
              refine g_goto (pc := 729) C dL_law_729 (tgt := 3049) rfl ?_
              refine g_iinc (pc := 3049) C dL_law_3049 (q := 6) rfl (v2 := a4 + 6) rfl (Nat.le_of_ble_eq_true rfl) (lo' := [(4, .int (a4 + 6)), (6, .int r211), (5, .int r206), (0, .ref b0), (1, .ref (adr x a1)), (2, .ref (adr x a2)), (3, .ref (adr x a3))]) rfl ?_
              refine g_goto (pc := 3052) C dL_law_3052 (tgt := 23) rfl ?_
              refine g_sub [3, 4, 5, 6, 0] rfl ?_
              exact ih _ _ _ _ _ _ _ hb208 h
            · replace h := h.2 z220
              refine g_iconst (pc := 727) C dL_law_727 (v := 0) rfl ?_
              exact g_lawend (pc := 728) C hlk hr hb208.1 hb208.2 dL_law_728 (hK1 _ _ h) hmc
        · replace h := h.2 z216
          refine g_iconst (pc := 710) C dL_law_710 (v := 0) rfl ?_
          exact g_lawend (pc := 711) C hlk hr hb208.1 hb208.2 dL_law_711 (hK1 _ _ h) hmc
      replace h := h.2 z35
      by_cases z36 : (sc a4.toNatClampNeg) &&& 63 = 12
      · replace h := h.1 z36
        refine g_tabIn (pc := 40) C dL_law_40 (by rw [z36]; decide) (by rw [z36]; decide) (off := 692) (by rw [z36]; rfl) (tgt := 732) rfl ?_
        refine g_aload_n (pc := 732) C dL_law_732 (q := 1) rfl ?_
        refine g_aload_n (pc := 733) C dL_law_733 (q := 0) rfl ?_
        refine g_iload (pc := 734) C dL_law_734 (q := 4) rfl ?_
        refine g_iconst (pc := 736) C dL_law_736 (v := 1) rfl ?_
        refine g_iadd (pc := 737) C dL_law_737 ?_
        obtain ⟨k221, h⟩ := h
        refine g_sld (pc := 738) C hX hbl hbA k221 dL_law_738 ?_
        refine g_aload_n (pc := 739) C dL_law_739 (q := 3) rfl ?_
        obtain ⟨hb224, h⟩ := h
        refine maL_201 (pc := 740) C hl h (Nat.le_of_ble_eq_true rfl) (Nat.le_of_ble_eq_true rfl) hb224 dL_law_740 (fun r222 w223 h => ?_)
        refine g_istore (pc := 743) C dL_law_743 (Nat.le_of_ble_eq_true rfl) (lo' := [(5, .int r222), (0, .ref b0), (1, .ref (adr x a1)), (2, .ref (adr x a2)), (3, .ref (adr x a3)), (4, .int a4)]) rfl ?_
        refine g_aload_n (pc := 745) C dL_law_745 (q := 3) rfl ?_
        refine g_aload_n (pc := 746) C dL_law_746 (q := 1) rfl ?_
        refine g_iload (pc := 747) C dL_law_747 (q := 5) rfl ?_
        refine g_iconst (pc := 749) C dL_law_749 (v := 1) rfl ?_
        refine g_iadd (pc := 750) C dL_law_750 ?_
        obtain ⟨k225, h⟩ := h
        refine g_sld (pc := 751) C hX hbl hbA k225 dL_law_751 ?_
        obtain ⟨k226, h⟩ := h
        refine miL_203 (pc := 752) C k226 h (Nat.le_of_ble_eq_true rfl) (Nat.le_of_ble_eq_true rfl) hb224 dL_law_752 (fun r227 w228 h => ?_)
        refine g_istore (pc := 755) C dL_law_755 (Nat.le_of_ble_eq_true rfl) (lo' := [(6, .int r227), (5, .int r222), (0, .ref b0), (1, .ref (adr x a1)), (2, .ref (adr x a2)), (3, .ref (adr x a3)), (4, .int a4)]) rfl ?_
        refine g_aload_n (pc := 757) C dL_law_757 (q := 4) rfl ?_
        obtain ⟨k229, h⟩ := h
        refine miL_159 (pc := 758) C k229 h (Nat.le_of_ble_eq_true rfl) (Nat.le_of_ble_eq_true rfl) hb224 dL_law_758 (fun r230 w231 h => ?_)
        refine g_iload (pc := 761) C dL_law_761 (q := 1) rfl ?_
        refine g_icmp_eq (pc := 763) C dL_law_763 (tgt := 768) rfl (fun z232 => ?_) (fun z232 => ?_)
        · replace h := h.1 z232
          refine g_iload (pc := 768) C dL_law_768 (q := 1) rfl ?_
          refine g_if_ne (pc := 770) C dL_law_770 (tgt := 785) rfl (fun z233 => ?_) (fun z233 => ?_)
          · replace h := h.2 z233
            refine g_goto (pc := 785) C dL_law_785 (tgt := 3049) rfl ?_
            refine g_iinc (pc := 3049) C dL_law_3049 (q := 6) rfl (v2 := a4 + 6) rfl (Nat.le_of_ble_eq_true rfl) (lo' := [(4, .int (a4 + 6)), (6, .int r227), (5, .int r222), (0, .ref b0), (1, .ref (adr x a1)), (2, .ref (adr x a2)), (3, .ref (adr x a3))]) rfl ?_
            refine g_goto (pc := 3052) C dL_law_3052 (tgt := 23) rfl ?_
            refine g_sub [3, 4, 5, 6, 0] rfl ?_
            exact ih _ _ _ _ _ _ _ hb224 h
          · replace h := h.1 z233
            refine g_aload_n (pc := 773) C dL_law_773 (q := 5) rfl ?_
            refine g_iconst (pc := 774) C dL_law_774 (v := 0) rfl ?_
            obtain ⟨k234, h⟩ := h
            obtain ⟨k235, h⟩ := h
            refine g_lald (pc := 775) C k234 k235 dL_law_775 ?_
            refine g_iload (pc := 776) C dL_law_776 (q := 0) rfl ?_
            refine g_i2l (pc := 778) C dL_law_778 ?_
            refine g_lcmp (pc := 779) C dL_law_779 ?_
            refine g_if_eq (pc := 780) C dL_law_780 (tgt := 785) rfl (fun z236 => ?_) (fun z236 => ?_)
            · replace h := h.1 z236
              refine g_goto (pc := 785) C dL_law_785 (tgt := 3049) rfl ?_
              refine g_iinc (pc := 3049) C dL_law_3049 (q := 6) rfl (v2 := a4 + 6) rfl (Nat.le_of_ble_eq_true rfl) (lo' := [(4, .int (a4 + 6)), (6, .int r227), (5, .int r222), (0, .ref b0), (1, .ref (adr x a1)), (2, .ref (adr x a2)), (3, .ref (adr x a3))]) rfl ?_
              refine g_goto (pc := 3052) C dL_law_3052 (tgt := 23) rfl ?_
              refine g_sub [3, 4, 5, 6, 0] rfl ?_
              exact ih _ _ _ _ _ _ _ hb224 h
            · replace h := h.2 z236
              refine g_iconst (pc := 783) C dL_law_783 (v := 0) rfl ?_
              exact g_lawend (pc := 784) C hlk hr hb224.1 hb224.2 dL_law_784 (hK1 _ _ h) hmc
        · replace h := h.2 z232
          refine g_iconst (pc := 766) C dL_law_766 (v := 0) rfl ?_
          exact g_lawend (pc := 767) C hlk hr hb224.1 hb224.2 dL_law_767 (hK1 _ _ h) hmc
      replace h := h.2 z36
      by_cases z37 : (sc a4.toNatClampNeg) &&& 63 = 13
      · replace h := h.1 z37
        refine g_tabIn (pc := 40) C dL_law_40 (by rw [z37]; decide) (by rw [z37]; decide) (off := 748) (by rw [z37]; rfl) (tgt := 788) rfl ?_
        refine g_aload_n (pc := 788) C dL_law_788 (q := 1) rfl ?_
        refine g_aload_n (pc := 789) C dL_law_789 (q := 0) rfl ?_
        refine g_iload (pc := 790) C dL_law_790 (q := 4) rfl ?_
        refine g_iconst (pc := 792) C dL_law_792 (v := 1) rfl ?_
        refine g_iadd (pc := 793) C dL_law_793 ?_
        obtain ⟨k237, h⟩ := h
        refine g_sld (pc := 794) C hX hbl hbA k237 dL_law_794 ?_
        refine g_aload_n (pc := 795) C dL_law_795 (q := 0) rfl ?_
        refine g_iload (pc := 796) C dL_law_796 (q := 4) rfl ?_
        refine g_iconst (pc := 798) C dL_law_798 (v := 2) rfl ?_
        refine g_iadd (pc := 799) C dL_law_799 ?_
        obtain ⟨k238, h⟩ := h
        refine g_sld (pc := 800) C hX hbl hbA k238 dL_law_800 ?_
        refine g_aload_n (pc := 801) C dL_law_801 (q := 3) rfl ?_
        obtain ⟨hb241, h⟩ := h
        refine maL_204 (pc := 802) C hl h (Nat.le_of_ble_eq_true rfl) (Nat.le_of_ble_eq_true rfl) hb241 dL_law_802 (fun r239 w240 h => ?_)
        refine g_istore (pc := 805) C dL_law_805 (Nat.le_of_ble_eq_true rfl) (lo' := [(5, .int r239), (0, .ref b0), (1, .ref (adr x a1)), (2, .ref (adr x a2)), (3, .ref (adr x a3)), (4, .int a4)]) rfl ?_
        refine g_aload_n (pc := 807) C dL_law_807 (q := 3) rfl ?_
        refine g_aload_n (pc := 808) C dL_law_808 (q := 1) rfl ?_
        refine g_iload (pc := 809) C dL_law_809 (q := 5) rfl ?_
        refine g_iconst (pc := 811) C dL_law_811 (v := 1) rfl ?_
        refine g_iadd (pc := 812) C dL_law_812 ?_
        obtain ⟨k242, h⟩ := h
        refine g_sld (pc := 813) C hX hbl hbA k242 dL_law_813 ?_
        refine g_aload_n (pc := 814) C dL_law_814 (q := 1) rfl ?_
        refine g_iload (pc := 815) C dL_law_815 (q := 5) rfl ?_
        refine g_iconst (pc := 817) C dL_law_817 (v := 2) rfl ?_
        refine g_iadd (pc := 818) C dL_law_818 ?_
        obtain ⟨k243, h⟩ := h
        refine g_sld (pc := 819) C hX hbl hbA k243 dL_law_819 ?_
        obtain ⟨k244, h⟩ := h
        refine miL_206 (pc := 820) C k244 h (Nat.le_of_ble_eq_true rfl) (Nat.le_of_ble_eq_true rfl) hb241 dL_law_820 (fun r245 w246 h => ?_)
        refine g_istore (pc := 823) C dL_law_823 (Nat.le_of_ble_eq_true rfl) (lo' := [(6, .int r245), (5, .int r239), (0, .ref b0), (1, .ref (adr x a1)), (2, .ref (adr x a2)), (3, .ref (adr x a3)), (4, .int a4)]) rfl ?_
        refine g_aload_n (pc := 825) C dL_law_825 (q := 4) rfl ?_
        obtain ⟨k247, h⟩ := h
        refine miL_159 (pc := 826) C k247 h (Nat.le_of_ble_eq_true rfl) (Nat.le_of_ble_eq_true rfl) hb241 dL_law_826 (fun r248 w249 h => ?_)
        refine g_iload (pc := 829) C dL_law_829 (q := 1) rfl ?_
        refine g_icmp_eq (pc := 831) C dL_law_831 (tgt := 836) rfl (fun z250 => ?_) (fun z250 => ?_)
        · replace h := h.1 z250
          refine g_iload (pc := 836) C dL_law_836 (q := 1) rfl ?_
          refine g_if_ne (pc := 838) C dL_law_838 (tgt := 853) rfl (fun z251 => ?_) (fun z251 => ?_)
          · replace h := h.2 z251
            refine g_goto (pc := 853) C dL_law_853 (tgt := 3049) rfl ?_
            refine g_iinc (pc := 3049) C dL_law_3049 (q := 6) rfl (v2 := a4 + 6) rfl (Nat.le_of_ble_eq_true rfl) (lo' := [(4, .int (a4 + 6)), (6, .int r245), (5, .int r239), (0, .ref b0), (1, .ref (adr x a1)), (2, .ref (adr x a2)), (3, .ref (adr x a3))]) rfl ?_
            refine g_goto (pc := 3052) C dL_law_3052 (tgt := 23) rfl ?_
            refine g_sub [3, 4, 5, 6, 0] rfl ?_
            exact ih _ _ _ _ _ _ _ hb241 h
          · replace h := h.1 z251
            refine g_aload_n (pc := 841) C dL_law_841 (q := 5) rfl ?_
            refine g_iconst (pc := 842) C dL_law_842 (v := 0) rfl ?_
            obtain ⟨k252, h⟩ := h
            obtain ⟨k253, h⟩ := h
            refine g_lald (pc := 843) C k252 k253 dL_law_843 ?_
            refine g_iload (pc := 844) C dL_law_844 (q := 0) rfl ?_
            refine g_i2l (pc := 846) C dL_law_846 ?_
            refine g_lcmp (pc := 847) C dL_law_847 ?_
            refine g_if_eq (pc := 848) C dL_law_848 (tgt := 853) rfl (fun z254 => ?_) (fun z254 => ?_)
            · replace h := h.1 z254
              refine g_goto (pc := 853) C dL_law_853 (tgt := 3049) rfl ?_
              refine g_iinc (pc := 3049) C dL_law_3049 (q := 6) rfl (v2 := a4 + 6) rfl (Nat.le_of_ble_eq_true rfl) (lo' := [(4, .int (a4 + 6)), (6, .int r245), (5, .int r239), (0, .ref b0), (1, .ref (adr x a1)), (2, .ref (adr x a2)), (3, .ref (adr x a3))]) rfl ?_
              refine g_goto (pc := 3052) C dL_law_3052 (tgt := 23) rfl ?_
              refine g_sub [3, 4, 5, 6, 0] rfl ?_
              exact ih _ _ _ _ _ _ _ hb241 h
            · replace h := h.2 z254
              refine g_iconst (pc := 851) C dL_law_851 (v := 0) rfl ?_
              exact g_lawend (pc := 852) C hlk hr hb241.1 hb241.2 dL_law_852 (hK1 _ _ h) hmc
        · replace h := h.2 z250
          refine g_iconst (pc := 834) C dL_law_834 (v := 0) rfl ?_
          exact g_lawend (pc := 835) C hlk hr hb241.1 hb241.2 dL_law_835 (hK1 _ _ h) hmc
      replace h := h.2 z37
      by_cases z38 : (sc a4.toNatClampNeg) &&& 63 = 14
      · replace h := h.1 z38
        refine g_tabIn (pc := 40) C dL_law_40 (by rw [z38]; decide) (by rw [z38]; decide) (off := 816) (by rw [z38]; rfl) (tgt := 856) rfl ?_
        refine g_aload_n (pc := 856) C dL_law_856 (q := 1) rfl ?_
        refine g_aload_n (pc := 857) C dL_law_857 (q := 0) rfl ?_
        refine g_iload (pc := 858) C dL_law_858 (q := 4) rfl ?_
        refine g_iconst (pc := 860) C dL_law_860 (v := 1) rfl ?_
        refine g_iadd (pc := 861) C dL_law_861 ?_
        obtain ⟨k255, h⟩ := h
        refine g_sld (pc := 862) C hX hbl hbA k255 dL_law_862 ?_
        refine g_aload_n (pc := 863) C dL_law_863 (q := 3) rfl ?_
        obtain ⟨hb258, h⟩ := h
        refine maL_207 (pc := 864) C hl h (Nat.le_of_ble_eq_true rfl) (Nat.le_of_ble_eq_true rfl) hb258 dL_law_864 (fun r256 w257 h => ?_)
        refine g_istore (pc := 867) C dL_law_867 (Nat.le_of_ble_eq_true rfl) (lo' := [(5, .int r256), (0, .ref b0), (1, .ref (adr x a1)), (2, .ref (adr x a2)), (3, .ref (adr x a3)), (4, .int a4)]) rfl ?_
        refine g_aload_n (pc := 869) C dL_law_869 (q := 3) rfl ?_
        refine g_aload_n (pc := 870) C dL_law_870 (q := 1) rfl ?_
        refine g_iload (pc := 871) C dL_law_871 (q := 5) rfl ?_
        refine g_iconst (pc := 873) C dL_law_873 (v := 1) rfl ?_
        refine g_iadd (pc := 874) C dL_law_874 ?_
        obtain ⟨k259, h⟩ := h
        refine g_sld (pc := 875) C hX hbl hbA k259 dL_law_875 ?_
        obtain ⟨k260, h⟩ := h
        refine miL_209 (pc := 876) C k260 h (Nat.le_of_ble_eq_true rfl) (Nat.le_of_ble_eq_true rfl) hb258 dL_law_876 (fun r261 w262 h => ?_)
        refine g_istore (pc := 879) C dL_law_879 (Nat.le_of_ble_eq_true rfl) (lo' := [(6, .int r261), (5, .int r256), (0, .ref b0), (1, .ref (adr x a1)), (2, .ref (adr x a2)), (3, .ref (adr x a3)), (4, .int a4)]) rfl ?_
        refine g_aload_n (pc := 881) C dL_law_881 (q := 4) rfl ?_
        obtain ⟨k263, h⟩ := h
        refine miL_159 (pc := 882) C k263 h (Nat.le_of_ble_eq_true rfl) (Nat.le_of_ble_eq_true rfl) hb258 dL_law_882 (fun r264 w265 h => ?_)
        refine g_iload (pc := 885) C dL_law_885 (q := 1) rfl ?_
        refine g_icmp_eq (pc := 887) C dL_law_887 (tgt := 892) rfl (fun z266 => ?_) (fun z266 => ?_)
        · replace h := h.1 z266
          refine g_iload (pc := 892) C dL_law_892 (q := 1) rfl ?_
          refine g_if_ne (pc := 894) C dL_law_894 (tgt := 909) rfl (fun z267 => ?_) (fun z267 => ?_)
          · replace h := h.2 z267
            refine g_goto (pc := 909) C dL_law_909 (tgt := 3049) rfl ?_
            refine g_iinc (pc := 3049) C dL_law_3049 (q := 6) rfl (v2 := a4 + 6) rfl (Nat.le_of_ble_eq_true rfl) (lo' := [(4, .int (a4 + 6)), (6, .int r261), (5, .int r256), (0, .ref b0), (1, .ref (adr x a1)), (2, .ref (adr x a2)), (3, .ref (adr x a3))]) rfl ?_
            refine g_goto (pc := 3052) C dL_law_3052 (tgt := 23) rfl ?_
            refine g_sub [3, 4, 5, 6, 0] rfl ?_
            exact ih _ _ _ _ _ _ _ hb258 h
          · replace h := h.1 z267
            refine g_aload_n (pc := 897) C dL_law_897 (q := 5) rfl ?_
            refine g_iconst (pc := 898) C dL_law_898 (v := 0) rfl ?_
            obtain ⟨k268, h⟩ := h
            obtain ⟨k269, h⟩ := h
            refine g_lald (pc := 899) C k268 k269 dL_law_899 ?_
            refine g_iload (pc := 900) C dL_law_900 (q := 0) rfl ?_
            refine g_i2l (pc := 902) C dL_law_902 ?_
            refine g_lcmp (pc := 903) C dL_law_903 ?_
            refine g_if_eq (pc := 904) C dL_law_904 (tgt := 909) rfl (fun z270 => ?_) (fun z270 => ?_)
            · replace h := h.1 z270
              refine g_goto (pc := 909) C dL_law_909 (tgt := 3049) rfl ?_
              refine g_iinc (pc := 3049) C dL_law_3049 (q := 6) rfl (v2 := a4 + 6) rfl (Nat.le_of_ble_eq_true rfl) (lo' := [(4, .int (a4 + 6)), (6, .int r261), (5, .int r256), (0, .ref b0), (1, .ref (adr x a1)), (2, .ref (adr x a2)), (3, .ref (adr x a3))]) rfl ?_
              refine g_goto (pc := 3052) C dL_law_3052 (tgt := 23) rfl ?_
              refine g_sub [3, 4, 5, 6, 0] rfl ?_
              exact ih _ _ _ _ _ _ _ hb258 h
            · replace h := h.2 z270
              refine g_iconst (pc := 907) C dL_law_907 (v := 0) rfl ?_
              exact g_lawend (pc := 908) C hlk hr hb258.1 hb258.2 dL_law_908 (hK1 _ _ h) hmc
        · replace h := h.2 z266
          refine g_iconst (pc := 890) C dL_law_890 (v := 0) rfl ?_
          exact g_lawend (pc := 891) C hlk hr hb258.1 hb258.2 dL_law_891 (hK1 _ _ h) hmc
      replace h := h.2 z38
      by_cases z39 : (sc a4.toNatClampNeg) &&& 63 = 15
      · replace h := h.1 z39
        refine g_tabIn (pc := 40) C dL_law_40 (by rw [z39]; decide) (by rw [z39]; decide) (off := 872) (by rw [z39]; rfl) (tgt := 912) rfl ?_
        refine g_aload_n (pc := 912) C dL_law_912 (q := 1) rfl ?_
        refine g_aload_n (pc := 913) C dL_law_913 (q := 0) rfl ?_
        refine g_iload (pc := 914) C dL_law_914 (q := 4) rfl ?_
        refine g_iconst (pc := 916) C dL_law_916 (v := 1) rfl ?_
        refine g_iadd (pc := 917) C dL_law_917 ?_
        obtain ⟨k271, h⟩ := h
        refine g_sld (pc := 918) C hX hbl hbA k271 dL_law_918 ?_
        refine g_aload_n (pc := 919) C dL_law_919 (q := 0) rfl ?_
        refine g_iload (pc := 920) C dL_law_920 (q := 4) rfl ?_
        refine g_iconst (pc := 922) C dL_law_922 (v := 2) rfl ?_
        refine g_iadd (pc := 923) C dL_law_923 ?_
        obtain ⟨k272, h⟩ := h
        refine g_sld (pc := 924) C hX hbl hbA k272 dL_law_924 ?_
        refine g_aload_n (pc := 925) C dL_law_925 (q := 3) rfl ?_
        obtain ⟨hb275, h⟩ := h
        refine maL_210 (pc := 926) C hl h (Nat.le_of_ble_eq_true rfl) (Nat.le_of_ble_eq_true rfl) hb275 dL_law_926 (fun r273 w274 h => ?_)
        refine g_istore (pc := 929) C dL_law_929 (Nat.le_of_ble_eq_true rfl) (lo' := [(5, .int r273), (0, .ref b0), (1, .ref (adr x a1)), (2, .ref (adr x a2)), (3, .ref (adr x a3)), (4, .int a4)]) rfl ?_
        refine g_aload_n (pc := 931) C dL_law_931 (q := 3) rfl ?_
        refine g_aload_n (pc := 932) C dL_law_932 (q := 1) rfl ?_
        refine g_iload (pc := 933) C dL_law_933 (q := 5) rfl ?_
        refine g_iconst (pc := 935) C dL_law_935 (v := 1) rfl ?_
        refine g_iadd (pc := 936) C dL_law_936 ?_
        obtain ⟨k276, h⟩ := h
        refine g_sld (pc := 937) C hX hbl hbA k276 dL_law_937 ?_
        refine g_aload_n (pc := 938) C dL_law_938 (q := 1) rfl ?_
        refine g_iload (pc := 939) C dL_law_939 (q := 5) rfl ?_
        refine g_iconst (pc := 941) C dL_law_941 (v := 2) rfl ?_
        refine g_iadd (pc := 942) C dL_law_942 ?_
        obtain ⟨k277, h⟩ := h
        refine g_sld (pc := 943) C hX hbl hbA k277 dL_law_943 ?_
        obtain ⟨k278, h⟩ := h
        refine miL_212 (pc := 944) C k278 h (Nat.le_of_ble_eq_true rfl) (Nat.le_of_ble_eq_true rfl) hb275 dL_law_944 (fun r279 w280 h => ?_)
        refine g_istore (pc := 947) C dL_law_947 (Nat.le_of_ble_eq_true rfl) (lo' := [(6, .int r279), (5, .int r273), (0, .ref b0), (1, .ref (adr x a1)), (2, .ref (adr x a2)), (3, .ref (adr x a3)), (4, .int a4)]) rfl ?_
        refine g_aload_n (pc := 949) C dL_law_949 (q := 4) rfl ?_
        obtain ⟨k281, h⟩ := h
        refine miL_159 (pc := 950) C k281 h (Nat.le_of_ble_eq_true rfl) (Nat.le_of_ble_eq_true rfl) hb275 dL_law_950 (fun r282 w283 h => ?_)
        refine g_iload (pc := 953) C dL_law_953 (q := 1) rfl ?_
        refine g_icmp_eq (pc := 955) C dL_law_955 (tgt := 960) rfl (fun z284 => ?_) (fun z284 => ?_)
        · replace h := h.1 z284
          refine g_iload (pc := 960) C dL_law_960 (q := 1) rfl ?_
          refine g_if_ne (pc := 962) C dL_law_962 (tgt := 977) rfl (fun z285 => ?_) (fun z285 => ?_)
          · replace h := h.2 z285
            refine g_goto (pc := 977) C dL_law_977 (tgt := 3049) rfl ?_
            refine g_iinc (pc := 3049) C dL_law_3049 (q := 6) rfl (v2 := a4 + 6) rfl (Nat.le_of_ble_eq_true rfl) (lo' := [(4, .int (a4 + 6)), (6, .int r279), (5, .int r273), (0, .ref b0), (1, .ref (adr x a1)), (2, .ref (adr x a2)), (3, .ref (adr x a3))]) rfl ?_
            refine g_goto (pc := 3052) C dL_law_3052 (tgt := 23) rfl ?_
            refine g_sub [3, 4, 5, 6, 0] rfl ?_
            exact ih _ _ _ _ _ _ _ hb275 h
          · replace h := h.1 z285
            refine g_aload_n (pc := 965) C dL_law_965 (q := 5) rfl ?_
            refine g_iconst (pc := 966) C dL_law_966 (v := 0) rfl ?_
            obtain ⟨k286, h⟩ := h
            obtain ⟨k287, h⟩ := h
            refine g_lald (pc := 967) C k286 k287 dL_law_967 ?_
            refine g_iload (pc := 968) C dL_law_968 (q := 0) rfl ?_
            refine g_i2l (pc := 970) C dL_law_970 ?_
            refine g_lcmp (pc := 971) C dL_law_971 ?_
            refine g_if_eq (pc := 972) C dL_law_972 (tgt := 977) rfl (fun z288 => ?_) (fun z288 => ?_)
            · replace h := h.1 z288
              refine g_goto (pc := 977) C dL_law_977 (tgt := 3049) rfl ?_
              refine g_iinc (pc := 3049) C dL_law_3049 (q := 6) rfl (v2 := a4 + 6) rfl (Nat.le_of_ble_eq_true rfl) (lo' := [(4, .int (a4 + 6)), (6, .int r279), (5, .int r273), (0, .ref b0), (1, .ref (adr x a1)), (2, .ref (adr x a2)), (3, .ref (adr x a3))]) rfl ?_
              refine g_goto (pc := 3052) C dL_law_3052 (tgt := 23) rfl ?_
              refine g_sub [3, 4, 5, 6, 0] rfl ?_
              exact ih _ _ _ _ _ _ _ hb275 h
            · replace h := h.2 z288
              refine g_iconst (pc := 975) C dL_law_975 (v := 0) rfl ?_
              exact g_lawend (pc := 976) C hlk hr hb275.1 hb275.2 dL_law_976 (hK1 _ _ h) hmc
        · replace h := h.2 z284
          refine g_iconst (pc := 958) C dL_law_958 (v := 0) rfl ?_
          exact g_lawend (pc := 959) C hlk hr hb275.1 hb275.2 dL_law_959 (hK1 _ _ h) hmc
      replace h := h.2 z39
      by_cases z40 : (sc a4.toNatClampNeg) &&& 63 = 16
      · replace h := h.1 z40
        refine g_tabIn (pc := 40) C dL_law_40 (by rw [z40]; decide) (by rw [z40]; decide) (off := 940) (by rw [z40]; rfl) (tgt := 980) rfl ?_
        refine g_aload_n (pc := 980) C dL_law_980 (q := 1) rfl ?_
        obtain ⟨k289, h⟩ := h
        refine miL_213 (pc := 981) C k289 h (Nat.le_of_ble_eq_true rfl) (Nat.le_of_ble_eq_true rfl) hb dL_law_981 (fun r290 w291 h => ?_)
        refine g_aload_n (pc := 984) C dL_law_984 (q := 2) rfl ?_
        obtain ⟨k292, h⟩ := h
        refine miL_216 (pc := 985) C k292 h (Nat.le_of_ble_eq_true rfl) (Nat.le_of_ble_eq_true rfl) hb dL_law_985 (fun r293 w294 h => ?_)
        refine g_icmp_eq (pc := 988) C dL_law_988 (tgt := 3049) rfl (fun z295 => ?_) (fun z295 => ?_)
        · replace h := h.1 z295
          refine g_iinc (pc := 3049) C dL_law_3049 (q := 4) rfl (v2 := a4 + 6) rfl (Nat.le_of_ble_eq_true rfl) (lo' := [(4, .int (a4 + 6)), (0, .ref b0), (1, .ref (adr x a1)), (2, .ref (adr x a2)), (3, .ref (adr x a3))]) rfl ?_
          refine g_goto (pc := 3052) C dL_law_3052 (tgt := 23) rfl ?_
          refine g_sub [1, 2, 3, 4, 0] rfl ?_
          exact ih _ _ _ _ _ _ _ hb h
        · replace h := h.2 z295
          refine g_iconst (pc := 991) C dL_law_991 (v := 0) rfl ?_
          exact g_lawend (pc := 992) C hlk hr hb.1 hb.2 dL_law_992 (hK1 _ _ h) hmc
      replace h := h.2 z40
      by_cases z41 : (sc a4.toNatClampNeg) &&& 63 = 17
      · replace h := h.1 z41
        refine g_tabIn (pc := 40) C dL_law_40 (by rw [z41]; decide) (by rw [z41]; decide) (off := 953) (by rw [z41]; rfl) (tgt := 993) rfl ?_
        refine g_aload_n (pc := 993) C dL_law_993 (q := 1) rfl ?_
        refine g_aload_n (pc := 994) C dL_law_994 (q := 0) rfl ?_
        refine g_iload (pc := 995) C dL_law_995 (q := 4) rfl ?_
        refine g_iconst (pc := 997) C dL_law_997 (v := 1) rfl ?_
        refine g_iadd (pc := 998) C dL_law_998 ?_
        obtain ⟨k296, h⟩ := h
        refine g_sld (pc := 999) C hX hbl hbA k296 dL_law_999 ?_
        refine g_aload_n (pc := 1000) C dL_law_1000 (q := 0) rfl ?_
        refine g_iload (pc := 1001) C dL_law_1001 (q := 4) rfl ?_
        refine g_iconst (pc := 1003) C dL_law_1003 (v := 2) rfl ?_
        refine g_iadd (pc := 1004) C dL_law_1004 ?_
        obtain ⟨k297, h⟩ := h
        refine g_sld (pc := 1005) C hX hbl hbA k297 dL_law_1005 ?_
        refine g_if_eq (pc := 1006) C dL_law_1006 (tgt := 1013) rfl (fun z298 => ?_) (fun z298 => ?_)
        · replace h := h.1 z298
          refine g_iconst (pc := 1013) C dL_law_1013 (v := 0) rfl ?_
          exact t_L_law_1014 C hlk hr hl hX hbl hbA hmc hK1 ih _ _ _ _ _ _ _ _ _ _ hb h
        · replace h := h.2 z298
          refine g_iconst (pc := 1009) C dL_law_1009 (v := 1) rfl ?_
          refine g_goto (pc := 1010) C dL_law_1010 (tgt := 1014) rfl ?_
          exact t_L_law_1014 C hlk hr hl hX hbl hbA hmc hK1 ih _ _ _ _ _ _ _ _ _ _ hb h
      replace h := h.2 z41
      by_cases z42 : (sc a4.toNatClampNeg) &&& 63 = 18
      · replace h := h.1 z42
        refine g_tabIn (pc := 40) C dL_law_40 (by rw [z42]; decide) (by rw [z42]; decide) (off := 1037) (by rw [z42]; rfl) (tgt := 1077) rfl ?_
        refine g_aload_n (pc := 1077) C dL_law_1077 (q := 1) rfl ?_
        refine g_aload_n (pc := 1078) C dL_law_1078 (q := 0) rfl ?_
        refine g_iload (pc := 1079) C dL_law_1079 (q := 4) rfl ?_
        refine g_iconst (pc := 1081) C dL_law_1081 (v := 1) rfl ?_
        refine g_iadd (pc := 1082) C dL_law_1082 ?_
        obtain ⟨k316, h⟩ := h
        refine g_sld (pc := 1083) C hX hbl hbA k316 dL_law_1083 ?_
        refine g_aload_n (pc := 1084) C dL_law_1084 (q := 3) rfl ?_
        obtain ⟨hb319, h⟩ := h
        refine maL_221 (pc := 1085) C hl h (Nat.le_of_ble_eq_true rfl) (Nat.le_of_ble_eq_true rfl) hb319 dL_law_1085 (fun r317 w318 h => ?_)
        refine g_istore (pc := 1088) C dL_law_1088 (Nat.le_of_ble_eq_true rfl) (lo' := [(5, .int r317), (0, .ref b0), (1, .ref (adr x a1)), (2, .ref (adr x a2)), (3, .ref (adr x a3)), (4, .int a4)]) rfl ?_
        refine g_aload_n (pc := 1090) C dL_law_1090 (q := 3) rfl ?_
        refine g_aload_n (pc := 1091) C dL_law_1091 (q := 1) rfl ?_
        refine g_iload (pc := 1092) C dL_law_1092 (q := 5) rfl ?_
        refine g_iconst (pc := 1094) C dL_law_1094 (v := 1) rfl ?_
        refine g_iadd (pc := 1095) C dL_law_1095 ?_
        obtain ⟨k320, h⟩ := h
        refine g_sld (pc := 1096) C hX hbl hbA k320 dL_law_1096 ?_
        obtain ⟨k321, h⟩ := h
        refine miL_223 (pc := 1097) C k321 h (Nat.le_of_ble_eq_true rfl) (Nat.le_of_ble_eq_true rfl) hb319 dL_law_1097 (fun r322 w323 h => ?_)
        refine g_istore (pc := 1100) C dL_law_1100 (Nat.le_of_ble_eq_true rfl) (lo' := [(6, .int r322), (5, .int r317), (0, .ref b0), (1, .ref (adr x a1)), (2, .ref (adr x a2)), (3, .ref (adr x a3)), (4, .int a4)]) rfl ?_
        refine g_aload_n (pc := 1102) C dL_law_1102 (q := 4) rfl ?_
        obtain ⟨k324, h⟩ := h
        refine miL_159 (pc := 1103) C k324 h (Nat.le_of_ble_eq_true rfl) (Nat.le_of_ble_eq_true rfl) hb319 dL_law_1103 (fun r325 w326 h => ?_)
        refine g_iload (pc := 1106) C dL_law_1106 (q := 1) rfl ?_
        refine g_icmp_eq (pc := 1108) C dL_law_1108 (tgt := 1113) rfl (fun z327 => ?_) (fun z327 => ?_)
        · replace h := h.1 z327
          refine g_iload (pc := 1113) C dL_law_1113 (q := 1) rfl ?_
          refine g_if_ne (pc := 1115) C dL_law_1115 (tgt := 1130) rfl (fun z328 => ?_) (fun z328 => ?_)
          · replace h := h.2 z328
            refine g_goto (pc := 1130) C dL_law_1130 (tgt := 3049) rfl ?_
            refine g_iinc (pc := 3049) C dL_law_3049 (q := 6) rfl (v2 := a4 + 6) rfl (Nat.le_of_ble_eq_true rfl) (lo' := [(4, .int (a4 + 6)), (6, .int r322), (5, .int r317), (0, .ref b0), (1, .ref (adr x a1)), (2, .ref (adr x a2)), (3, .ref (adr x a3))]) rfl ?_
            refine g_goto (pc := 3052) C dL_law_3052 (tgt := 23) rfl ?_
            refine g_sub [3, 4, 5, 6, 0] rfl ?_
            exact ih _ _ _ _ _ _ _ hb319 h
          · replace h := h.1 z328
            refine g_aload_n (pc := 1118) C dL_law_1118 (q := 5) rfl ?_
            refine g_iconst (pc := 1119) C dL_law_1119 (v := 0) rfl ?_
            obtain ⟨k329, h⟩ := h
            obtain ⟨k330, h⟩ := h
            refine g_lald (pc := 1120) C k329 k330 dL_law_1120 ?_
            refine g_iload (pc := 1121) C dL_law_1121 (q := 0) rfl ?_
            refine g_i2l (pc := 1123) C dL_law_1123 ?_
            refine g_lcmp (pc := 1124) C dL_law_1124 ?_
            refine g_if_eq (pc := 1125) C dL_law_1125 (tgt := 1130) rfl (fun z331 => ?_) (fun z331 => ?_)
            · replace h := h.1 z331
              refine g_goto (pc := 1130) C dL_law_1130 (tgt := 3049) rfl ?_
              refine g_iinc (pc := 3049) C dL_law_3049 (q := 6) rfl (v2 := a4 + 6) rfl (Nat.le_of_ble_eq_true rfl) (lo' := [(4, .int (a4 + 6)), (6, .int r322), (5, .int r317), (0, .ref b0), (1, .ref (adr x a1)), (2, .ref (adr x a2)), (3, .ref (adr x a3))]) rfl ?_
              refine g_goto (pc := 3052) C dL_law_3052 (tgt := 23) rfl ?_
              refine g_sub [3, 4, 5, 6, 0] rfl ?_
              exact ih _ _ _ _ _ _ _ hb319 h
            · replace h := h.2 z331
              refine g_iconst (pc := 1128) C dL_law_1128 (v := 0) rfl ?_
              exact g_lawend (pc := 1129) C hlk hr hb319.1 hb319.2 dL_law_1129 (hK1 _ _ h) hmc
        · replace h := h.2 z327
          refine g_iconst (pc := 1111) C dL_law_1111 (v := 0) rfl ?_
          exact g_lawend (pc := 1112) C hlk hr hb319.1 hb319.2 dL_law_1112 (hK1 _ _ h) hmc
      replace h := h.2 z42
      by_cases z43 : (sc a4.toNatClampNeg) &&& 63 = 19
      · replace h := h.1 z43
        refine g_tabIn (pc := 40) C dL_law_40 (by rw [z43]; decide) (by rw [z43]; decide) (off := 1093) (by rw [z43]; rfl) (tgt := 1133) rfl ?_
        refine g_aload_n (pc := 1133) C dL_law_1133 (q := 1) rfl ?_
        refine g_aload_n (pc := 1134) C dL_law_1134 (q := 0) rfl ?_
        refine g_iload (pc := 1135) C dL_law_1135 (q := 4) rfl ?_
        refine g_iconst (pc := 1137) C dL_law_1137 (v := 1) rfl ?_
        refine g_iadd (pc := 1138) C dL_law_1138 ?_
        obtain ⟨k332, h⟩ := h
        refine g_sld (pc := 1139) C hX hbl hbA k332 dL_law_1139 ?_
        refine g_aload_n (pc := 1140) C dL_law_1140 (q := 3) rfl ?_
        obtain ⟨hb335, h⟩ := h
        refine maL_224 (pc := 1141) C hl h (Nat.le_of_ble_eq_true rfl) (Nat.le_of_ble_eq_true rfl) hb335 dL_law_1141 (fun r333 w334 h => ?_)
        refine g_istore (pc := 1144) C dL_law_1144 (Nat.le_of_ble_eq_true rfl) (lo' := [(5, .int r333), (0, .ref b0), (1, .ref (adr x a1)), (2, .ref (adr x a2)), (3, .ref (adr x a3)), (4, .int a4)]) rfl ?_
        refine g_aload_n (pc := 1146) C dL_law_1146 (q := 3) rfl ?_
        refine g_aload_n (pc := 1147) C dL_law_1147 (q := 1) rfl ?_
        refine g_iload (pc := 1148) C dL_law_1148 (q := 5) rfl ?_
        refine g_iconst (pc := 1150) C dL_law_1150 (v := 1) rfl ?_
        refine g_iadd (pc := 1151) C dL_law_1151 ?_
        obtain ⟨k336, h⟩ := h
        refine g_sld (pc := 1152) C hX hbl hbA k336 dL_law_1152 ?_
        obtain ⟨k337, h⟩ := h
        refine miL_226 (pc := 1153) C k337 h (Nat.le_of_ble_eq_true rfl) (Nat.le_of_ble_eq_true rfl) hb335 dL_law_1153 (fun r338 w339 h => ?_)
        refine g_istore (pc := 1156) C dL_law_1156 (Nat.le_of_ble_eq_true rfl) (lo' := [(6, .int r338), (5, .int r333), (0, .ref b0), (1, .ref (adr x a1)), (2, .ref (adr x a2)), (3, .ref (adr x a3)), (4, .int a4)]) rfl ?_
        refine g_aload_n (pc := 1158) C dL_law_1158 (q := 4) rfl ?_
        obtain ⟨k340, h⟩ := h
        refine miL_159 (pc := 1159) C k340 h (Nat.le_of_ble_eq_true rfl) (Nat.le_of_ble_eq_true rfl) hb335 dL_law_1159 (fun r341 w342 h => ?_)
        refine g_iload (pc := 1162) C dL_law_1162 (q := 1) rfl ?_
        refine g_icmp_eq (pc := 1164) C dL_law_1164 (tgt := 1169) rfl (fun z343 => ?_) (fun z343 => ?_)
        · replace h := h.1 z343
          refine g_iload (pc := 1169) C dL_law_1169 (q := 1) rfl ?_
          refine g_if_ne (pc := 1171) C dL_law_1171 (tgt := 1186) rfl (fun z344 => ?_) (fun z344 => ?_)
          · replace h := h.2 z344
            refine g_goto (pc := 1186) C dL_law_1186 (tgt := 3049) rfl ?_
            refine g_iinc (pc := 3049) C dL_law_3049 (q := 6) rfl (v2 := a4 + 6) rfl (Nat.le_of_ble_eq_true rfl) (lo' := [(4, .int (a4 + 6)), (6, .int r338), (5, .int r333), (0, .ref b0), (1, .ref (adr x a1)), (2, .ref (adr x a2)), (3, .ref (adr x a3))]) rfl ?_
            refine g_goto (pc := 3052) C dL_law_3052 (tgt := 23) rfl ?_
            refine g_sub [3, 4, 5, 6, 0] rfl ?_
            exact ih _ _ _ _ _ _ _ hb335 h
          · replace h := h.1 z344
            refine g_aload_n (pc := 1174) C dL_law_1174 (q := 5) rfl ?_
            refine g_iconst (pc := 1175) C dL_law_1175 (v := 0) rfl ?_
            obtain ⟨k345, h⟩ := h
            obtain ⟨k346, h⟩ := h
            refine g_lald (pc := 1176) C k345 k346 dL_law_1176 ?_
            refine g_iload (pc := 1177) C dL_law_1177 (q := 0) rfl ?_
            refine g_i2l (pc := 1179) C dL_law_1179 ?_
            refine g_lcmp (pc := 1180) C dL_law_1180 ?_
            refine g_if_eq (pc := 1181) C dL_law_1181 (tgt := 1186) rfl (fun z347 => ?_) (fun z347 => ?_)
            · replace h := h.1 z347
              refine g_goto (pc := 1186) C dL_law_1186 (tgt := 3049) rfl ?_
              refine g_iinc (pc := 3049) C dL_law_3049 (q := 6) rfl (v2 := a4 + 6) rfl (Nat.le_of_ble_eq_true rfl) (lo' := [(4, .int (a4 + 6)), (6, .int r338), (5, .int r333), (0, .ref b0), (1, .ref (adr x a1)), (2, .ref (adr x a2)), (3, .ref (adr x a3))]) rfl ?_
              refine g_goto (pc := 3052) C dL_law_3052 (tgt := 23) rfl ?_
              refine g_sub [3, 4, 5, 6, 0] rfl ?_
              exact ih _ _ _ _ _ _ _ hb335 h
            · replace h := h.2 z347
              refine g_iconst (pc := 1184) C dL_law_1184 (v := 0) rfl ?_
              exact g_lawend (pc := 1185) C hlk hr hb335.1 hb335.2 dL_law_1185 (hK1 _ _ h) hmc
        · replace h := h.2 z343
          refine g_iconst (pc := 1167) C dL_law_1167 (v := 0) rfl ?_
          exact g_lawend (pc := 1168) C hlk hr hb335.1 hb335.2 dL_law_1168 (hK1 _ _ h) hmc
      replace h := h.2 z43
      by_cases z44 : (sc a4.toNatClampNeg) &&& 63 = 20
      · replace h := h.1 z44
        refine g_tabIn (pc := 40) C dL_law_40 (by rw [z44]; decide) (by rw [z44]; decide) (off := 1149) (by rw [z44]; rfl) (tgt := 1189) rfl ?_
        refine g_aload_n (pc := 1189) C dL_law_1189 (q := 1) rfl ?_
        refine g_aload_n (pc := 1190) C dL_law_1190 (q := 0) rfl ?_
        refine g_iload (pc := 1191) C dL_law_1191 (q := 4) rfl ?_
        refine g_iconst (pc := 1193) C dL_law_1193 (v := 1) rfl ?_
        refine g_iadd (pc := 1194) C dL_law_1194 ?_
        obtain ⟨k348, h⟩ := h
        refine g_sld (pc := 1195) C hX hbl hbA k348 dL_law_1195 ?_
        refine g_aload_n (pc := 1196) C dL_law_1196 (q := 3) rfl ?_
        obtain ⟨hb351, h⟩ := h
        refine maL_227 (pc := 1197) C hl h (Nat.le_of_ble_eq_true rfl) (Nat.le_of_ble_eq_true rfl) hb351 dL_law_1197 (fun r349 w350 h => ?_)
        refine g_istore (pc := 1200) C dL_law_1200 (Nat.le_of_ble_eq_true rfl) (lo' := [(5, .int r349), (0, .ref b0), (1, .ref (adr x a1)), (2, .ref (adr x a2)), (3, .ref (adr x a3)), (4, .int a4)]) rfl ?_
        refine g_aload_n (pc := 1202) C dL_law_1202 (q := 3) rfl ?_
        refine g_aload_n (pc := 1203) C dL_law_1203 (q := 1) rfl ?_
        refine g_iload (pc := 1204) C dL_law_1204 (q := 5) rfl ?_
        refine g_iconst (pc := 1206) C dL_law_1206 (v := 1) rfl ?_
        refine g_iadd (pc := 1207) C dL_law_1207 ?_
        obtain ⟨k352, h⟩ := h
        refine g_sld (pc := 1208) C hX hbl hbA k352 dL_law_1208 ?_
        obtain ⟨k353, h⟩ := h
        refine miL_229 (pc := 1209) C k353 h (Nat.le_of_ble_eq_true rfl) (Nat.le_of_ble_eq_true rfl) hb351 dL_law_1209 (fun r354 w355 h => ?_)
        refine g_istore (pc := 1212) C dL_law_1212 (Nat.le_of_ble_eq_true rfl) (lo' := [(6, .int r354), (5, .int r349), (0, .ref b0), (1, .ref (adr x a1)), (2, .ref (adr x a2)), (3, .ref (adr x a3)), (4, .int a4)]) rfl ?_
        refine g_aload_n (pc := 1214) C dL_law_1214 (q := 4) rfl ?_
        obtain ⟨k356, h⟩ := h
        refine miL_159 (pc := 1215) C k356 h (Nat.le_of_ble_eq_true rfl) (Nat.le_of_ble_eq_true rfl) hb351 dL_law_1215 (fun r357 w358 h => ?_)
        refine g_iload (pc := 1218) C dL_law_1218 (q := 1) rfl ?_
        refine g_icmp_eq (pc := 1220) C dL_law_1220 (tgt := 1225) rfl (fun z359 => ?_) (fun z359 => ?_)
        · replace h := h.1 z359
          refine g_iload (pc := 1225) C dL_law_1225 (q := 1) rfl ?_
          refine g_if_ne (pc := 1227) C dL_law_1227 (tgt := 1242) rfl (fun z360 => ?_) (fun z360 => ?_)
          · replace h := h.2 z360
            refine g_goto (pc := 1242) C dL_law_1242 (tgt := 3049) rfl ?_
            refine g_iinc (pc := 3049) C dL_law_3049 (q := 6) rfl (v2 := a4 + 6) rfl (Nat.le_of_ble_eq_true rfl) (lo' := [(4, .int (a4 + 6)), (6, .int r354), (5, .int r349), (0, .ref b0), (1, .ref (adr x a1)), (2, .ref (adr x a2)), (3, .ref (adr x a3))]) rfl ?_
            refine g_goto (pc := 3052) C dL_law_3052 (tgt := 23) rfl ?_
            refine g_sub [3, 4, 5, 6, 0] rfl ?_
            exact ih _ _ _ _ _ _ _ hb351 h
          · replace h := h.1 z360
            refine g_aload_n (pc := 1230) C dL_law_1230 (q := 5) rfl ?_
            refine g_iconst (pc := 1231) C dL_law_1231 (v := 0) rfl ?_
            obtain ⟨k361, h⟩ := h
            obtain ⟨k362, h⟩ := h
            refine g_lald (pc := 1232) C k361 k362 dL_law_1232 ?_
            refine g_iload (pc := 1233) C dL_law_1233 (q := 0) rfl ?_
            refine g_i2l (pc := 1235) C dL_law_1235 ?_
            refine g_lcmp (pc := 1236) C dL_law_1236 ?_
            refine g_if_eq (pc := 1237) C dL_law_1237 (tgt := 1242) rfl (fun z363 => ?_) (fun z363 => ?_)
            · replace h := h.1 z363
              refine g_goto (pc := 1242) C dL_law_1242 (tgt := 3049) rfl ?_
              refine g_iinc (pc := 3049) C dL_law_3049 (q := 6) rfl (v2 := a4 + 6) rfl (Nat.le_of_ble_eq_true rfl) (lo' := [(4, .int (a4 + 6)), (6, .int r354), (5, .int r349), (0, .ref b0), (1, .ref (adr x a1)), (2, .ref (adr x a2)), (3, .ref (adr x a3))]) rfl ?_
              refine g_goto (pc := 3052) C dL_law_3052 (tgt := 23) rfl ?_
              refine g_sub [3, 4, 5, 6, 0] rfl ?_
              exact ih _ _ _ _ _ _ _ hb351 h
            · replace h := h.2 z363
              refine g_iconst (pc := 1240) C dL_law_1240 (v := 0) rfl ?_
              exact g_lawend (pc := 1241) C hlk hr hb351.1 hb351.2 dL_law_1241 (hK1 _ _ h) hmc
        · replace h := h.2 z359
          refine g_iconst (pc := 1223) C dL_law_1223 (v := 0) rfl ?_
          exact g_lawend (pc := 1224) C hlk hr hb351.1 hb351.2 dL_law_1224 (hK1 _ _ h) hmc
      replace h := h.2 z44
      by_cases z45 : (sc a4.toNatClampNeg) &&& 63 = 21
      · replace h := h.1 z45
        refine g_tabIn (pc := 40) C dL_law_40 (by rw [z45]; decide) (by rw [z45]; decide) (off := 1205) (by rw [z45]; rfl) (tgt := 1245) rfl ?_
        refine g_aload_n (pc := 1245) C dL_law_1245 (q := 1) rfl ?_
        refine g_aload_n (pc := 1246) C dL_law_1246 (q := 0) rfl ?_
        refine g_iload (pc := 1247) C dL_law_1247 (q := 4) rfl ?_
        refine g_iconst (pc := 1249) C dL_law_1249 (v := 1) rfl ?_
        refine g_iadd (pc := 1250) C dL_law_1250 ?_
        obtain ⟨k364, h⟩ := h
        refine g_sld (pc := 1251) C hX hbl hbA k364 dL_law_1251 ?_
        refine g_aload_n (pc := 1252) C dL_law_1252 (q := 3) rfl ?_
        obtain ⟨hb367, h⟩ := h
        refine maL_230 (pc := 1253) C hl h (Nat.le_of_ble_eq_true rfl) (Nat.le_of_ble_eq_true rfl) hb367 dL_law_1253 (fun r365 w366 h => ?_)
        refine g_istore (pc := 1256) C dL_law_1256 (Nat.le_of_ble_eq_true rfl) (lo' := [(5, .int r365), (0, .ref b0), (1, .ref (adr x a1)), (2, .ref (adr x a2)), (3, .ref (adr x a3)), (4, .int a4)]) rfl ?_
        refine g_aload_n (pc := 1258) C dL_law_1258 (q := 3) rfl ?_
        refine g_aload_n (pc := 1259) C dL_law_1259 (q := 1) rfl ?_
        refine g_iload (pc := 1260) C dL_law_1260 (q := 5) rfl ?_
        refine g_iconst (pc := 1262) C dL_law_1262 (v := 1) rfl ?_
        refine g_iadd (pc := 1263) C dL_law_1263 ?_
        obtain ⟨k368, h⟩ := h
        refine g_sld (pc := 1264) C hX hbl hbA k368 dL_law_1264 ?_
        obtain ⟨k369, h⟩ := h
        refine miL_232 (pc := 1265) C k369 h (Nat.le_of_ble_eq_true rfl) (Nat.le_of_ble_eq_true rfl) hb367 dL_law_1265 (fun r370 w371 h => ?_)
        refine g_istore (pc := 1268) C dL_law_1268 (Nat.le_of_ble_eq_true rfl) (lo' := [(6, .int r370), (5, .int r365), (0, .ref b0), (1, .ref (adr x a1)), (2, .ref (adr x a2)), (3, .ref (adr x a3)), (4, .int a4)]) rfl ?_
        refine g_aload_n (pc := 1270) C dL_law_1270 (q := 4) rfl ?_
        obtain ⟨k372, h⟩ := h
        refine miL_159 (pc := 1271) C k372 h (Nat.le_of_ble_eq_true rfl) (Nat.le_of_ble_eq_true rfl) hb367 dL_law_1271 (fun r373 w374 h => ?_)
        refine g_iload (pc := 1274) C dL_law_1274 (q := 1) rfl ?_
        refine g_icmp_eq (pc := 1276) C dL_law_1276 (tgt := 1281) rfl (fun z375 => ?_) (fun z375 => ?_)
        · replace h := h.1 z375
          refine g_iload (pc := 1281) C dL_law_1281 (q := 1) rfl ?_
          refine g_if_ne (pc := 1283) C dL_law_1283 (tgt := 1298) rfl (fun z376 => ?_) (fun z376 => ?_)
          · replace h := h.2 z376
            refine g_goto (pc := 1298) C dL_law_1298 (tgt := 3049) rfl ?_
            refine g_iinc (pc := 3049) C dL_law_3049 (q := 6) rfl (v2 := a4 + 6) rfl (Nat.le_of_ble_eq_true rfl) (lo' := [(4, .int (a4 + 6)), (6, .int r370), (5, .int r365), (0, .ref b0), (1, .ref (adr x a1)), (2, .ref (adr x a2)), (3, .ref (adr x a3))]) rfl ?_
            refine g_goto (pc := 3052) C dL_law_3052 (tgt := 23) rfl ?_
            refine g_sub [3, 4, 5, 6, 0] rfl ?_
            exact ih _ _ _ _ _ _ _ hb367 h
          · replace h := h.1 z376
            refine g_aload_n (pc := 1286) C dL_law_1286 (q := 5) rfl ?_
            refine g_iconst (pc := 1287) C dL_law_1287 (v := 0) rfl ?_
            obtain ⟨k377, h⟩ := h
            obtain ⟨k378, h⟩ := h
            refine g_lald (pc := 1288) C k377 k378 dL_law_1288 ?_
            refine g_iload (pc := 1289) C dL_law_1289 (q := 0) rfl ?_
            refine g_i2l (pc := 1291) C dL_law_1291 ?_
            refine g_lcmp (pc := 1292) C dL_law_1292 ?_
            refine g_if_eq (pc := 1293) C dL_law_1293 (tgt := 1298) rfl (fun z379 => ?_) (fun z379 => ?_)
            · replace h := h.1 z379
              refine g_goto (pc := 1298) C dL_law_1298 (tgt := 3049) rfl ?_
              refine g_iinc (pc := 3049) C dL_law_3049 (q := 6) rfl (v2 := a4 + 6) rfl (Nat.le_of_ble_eq_true rfl) (lo' := [(4, .int (a4 + 6)), (6, .int r370), (5, .int r365), (0, .ref b0), (1, .ref (adr x a1)), (2, .ref (adr x a2)), (3, .ref (adr x a3))]) rfl ?_
              refine g_goto (pc := 3052) C dL_law_3052 (tgt := 23) rfl ?_
              refine g_sub [3, 4, 5, 6, 0] rfl ?_
              exact ih _ _ _ _ _ _ _ hb367 h
            · replace h := h.2 z379
              refine g_iconst (pc := 1296) C dL_law_1296 (v := 0) rfl ?_
              exact g_lawend (pc := 1297) C hlk hr hb367.1 hb367.2 dL_law_1297 (hK1 _ _ h) hmc
        · replace h := h.2 z375
          refine g_iconst (pc := 1279) C dL_law_1279 (v := 0) rfl ?_
          exact g_lawend (pc := 1280) C hlk hr hb367.1 hb367.2 dL_law_1280 (hK1 _ _ h) hmc
      replace h := h.2 z45
      by_cases z46 : (sc a4.toNatClampNeg) &&& 63 = 22
      · replace h := h.1 z46
        refine g_tabIn (pc := 40) C dL_law_40 (by rw [z46]; decide) (by rw [z46]; decide) (off := 1261) (by rw [z46]; rfl) (tgt := 1301) rfl ?_
        refine g_aload_n (pc := 1301) C dL_law_1301 (q := 1) rfl ?_
        refine g_aload_n (pc := 1302) C dL_law_1302 (q := 0) rfl ?_
        refine g_iload (pc := 1303) C dL_law_1303 (q := 4) rfl ?_
        refine g_iconst (pc := 1305) C dL_law_1305 (v := 1) rfl ?_
        refine g_iadd (pc := 1306) C dL_law_1306 ?_
        obtain ⟨k380, h⟩ := h
        refine g_sld (pc := 1307) C hX hbl hbA k380 dL_law_1307 ?_
        refine g_aload_n (pc := 1308) C dL_law_1308 (q := 0) rfl ?_
        refine g_iload (pc := 1309) C dL_law_1309 (q := 4) rfl ?_
        refine g_iconst (pc := 1311) C dL_law_1311 (v := 2) rfl ?_
        refine g_iadd (pc := 1312) C dL_law_1312 ?_
        obtain ⟨k381, h⟩ := h
        refine g_sld (pc := 1313) C hX hbl hbA k381 dL_law_1313 ?_
        refine g_aload_n (pc := 1314) C dL_law_1314 (q := 3) rfl ?_
        obtain ⟨hb384, h⟩ := h
        refine maL_233 (pc := 1315) C hl h (Nat.le_of_ble_eq_true rfl) (Nat.le_of_ble_eq_true rfl) hb384 dL_law_1315 (fun r382 w383 h => ?_)
        refine g_istore (pc := 1318) C dL_law_1318 (Nat.le_of_ble_eq_true rfl) (lo' := [(5, .int r382), (0, .ref b0), (1, .ref (adr x a1)), (2, .ref (adr x a2)), (3, .ref (adr x a3)), (4, .int a4)]) rfl ?_
        refine g_aload_n (pc := 1320) C dL_law_1320 (q := 3) rfl ?_
        refine g_aload_n (pc := 1321) C dL_law_1321 (q := 1) rfl ?_
        refine g_iload (pc := 1322) C dL_law_1322 (q := 5) rfl ?_
        refine g_iconst (pc := 1324) C dL_law_1324 (v := 1) rfl ?_
        refine g_iadd (pc := 1325) C dL_law_1325 ?_
        obtain ⟨k385, h⟩ := h
        refine g_sld (pc := 1326) C hX hbl hbA k385 dL_law_1326 ?_
        refine g_aload_n (pc := 1327) C dL_law_1327 (q := 1) rfl ?_
        refine g_iload (pc := 1328) C dL_law_1328 (q := 5) rfl ?_
        refine g_iconst (pc := 1330) C dL_law_1330 (v := 2) rfl ?_
        refine g_iadd (pc := 1331) C dL_law_1331 ?_
        obtain ⟨k386, h⟩ := h
        refine g_sld (pc := 1332) C hX hbl hbA k386 dL_law_1332 ?_
        obtain ⟨k387, h⟩ := h
        refine miL_235 (pc := 1333) C k387 h (Nat.le_of_ble_eq_true rfl) (Nat.le_of_ble_eq_true rfl) hb384 dL_law_1333 (fun r388 w389 h => ?_)
        refine g_istore (pc := 1336) C dL_law_1336 (Nat.le_of_ble_eq_true rfl) (lo' := [(6, .int r388), (5, .int r382), (0, .ref b0), (1, .ref (adr x a1)), (2, .ref (adr x a2)), (3, .ref (adr x a3)), (4, .int a4)]) rfl ?_
        refine g_aload_n (pc := 1338) C dL_law_1338 (q := 4) rfl ?_
        obtain ⟨k390, h⟩ := h
        refine miL_159 (pc := 1339) C k390 h (Nat.le_of_ble_eq_true rfl) (Nat.le_of_ble_eq_true rfl) hb384 dL_law_1339 (fun r391 w392 h => ?_)
        refine g_iload (pc := 1342) C dL_law_1342 (q := 1) rfl ?_
        refine g_icmp_eq (pc := 1344) C dL_law_1344 (tgt := 1349) rfl (fun z393 => ?_) (fun z393 => ?_)
        · replace h := h.1 z393
          refine g_iload (pc := 1349) C dL_law_1349 (q := 1) rfl ?_
          refine g_if_ne (pc := 1351) C dL_law_1351 (tgt := 1366) rfl (fun z394 => ?_) (fun z394 => ?_)
          · replace h := h.2 z394
            refine g_goto (pc := 1366) C dL_law_1366 (tgt := 3049) rfl ?_
            refine g_iinc (pc := 3049) C dL_law_3049 (q := 6) rfl (v2 := a4 + 6) rfl (Nat.le_of_ble_eq_true rfl) (lo' := [(4, .int (a4 + 6)), (6, .int r388), (5, .int r382), (0, .ref b0), (1, .ref (adr x a1)), (2, .ref (adr x a2)), (3, .ref (adr x a3))]) rfl ?_
            refine g_goto (pc := 3052) C dL_law_3052 (tgt := 23) rfl ?_
            refine g_sub [3, 4, 5, 6, 0] rfl ?_
            exact ih _ _ _ _ _ _ _ hb384 h
          · replace h := h.1 z394
            refine g_aload_n (pc := 1354) C dL_law_1354 (q := 5) rfl ?_
            refine g_iconst (pc := 1355) C dL_law_1355 (v := 0) rfl ?_
            obtain ⟨k395, h⟩ := h
            obtain ⟨k396, h⟩ := h
            refine g_lald (pc := 1356) C k395 k396 dL_law_1356 ?_
            refine g_iload (pc := 1357) C dL_law_1357 (q := 0) rfl ?_
            refine g_i2l (pc := 1359) C dL_law_1359 ?_
            refine g_lcmp (pc := 1360) C dL_law_1360 ?_
            refine g_if_eq (pc := 1361) C dL_law_1361 (tgt := 1366) rfl (fun z397 => ?_) (fun z397 => ?_)
            · replace h := h.1 z397
              refine g_goto (pc := 1366) C dL_law_1366 (tgt := 3049) rfl ?_
              refine g_iinc (pc := 3049) C dL_law_3049 (q := 6) rfl (v2 := a4 + 6) rfl (Nat.le_of_ble_eq_true rfl) (lo' := [(4, .int (a4 + 6)), (6, .int r388), (5, .int r382), (0, .ref b0), (1, .ref (adr x a1)), (2, .ref (adr x a2)), (3, .ref (adr x a3))]) rfl ?_
              refine g_goto (pc := 3052) C dL_law_3052 (tgt := 23) rfl ?_
              refine g_sub [3, 4, 5, 6, 0] rfl ?_
              exact ih _ _ _ _ _ _ _ hb384 h
            · replace h := h.2 z397
              refine g_iconst (pc := 1364) C dL_law_1364 (v := 0) rfl ?_
              exact g_lawend (pc := 1365) C hlk hr hb384.1 hb384.2 dL_law_1365 (hK1 _ _ h) hmc
        · replace h := h.2 z393
          refine g_iconst (pc := 1347) C dL_law_1347 (v := 0) rfl ?_
          exact g_lawend (pc := 1348) C hlk hr hb384.1 hb384.2 dL_law_1348 (hK1 _ _ h) hmc
      replace h := h.2 z46
      by_cases z47 : (sc a4.toNatClampNeg) &&& 63 = 23
      · replace h := h.1 z47
        refine g_tabIn (pc := 40) C dL_law_40 (by rw [z47]; decide) (by rw [z47]; decide) (off := 1329) (by rw [z47]; rfl) (tgt := 1369) rfl ?_
        refine g_aload_n (pc := 1369) C dL_law_1369 (q := 1) rfl ?_
        refine g_aload_n (pc := 1370) C dL_law_1370 (q := 0) rfl ?_
        refine g_iload (pc := 1371) C dL_law_1371 (q := 4) rfl ?_
        refine g_iconst (pc := 1373) C dL_law_1373 (v := 1) rfl ?_
        refine g_iadd (pc := 1374) C dL_law_1374 ?_
        obtain ⟨k398, h⟩ := h
        refine g_sld (pc := 1375) C hX hbl hbA k398 dL_law_1375 ?_
        refine g_aload_n (pc := 1376) C dL_law_1376 (q := 0) rfl ?_
        refine g_iload (pc := 1377) C dL_law_1377 (q := 4) rfl ?_
        refine g_iconst (pc := 1379) C dL_law_1379 (v := 2) rfl ?_
        refine g_iadd (pc := 1380) C dL_law_1380 ?_
        obtain ⟨k399, h⟩ := h
        refine g_sld (pc := 1381) C hX hbl hbA k399 dL_law_1381 ?_
        refine g_aload_n (pc := 1382) C dL_law_1382 (q := 0) rfl ?_
        refine g_iload (pc := 1383) C dL_law_1383 (q := 4) rfl ?_
        refine g_iconst (pc := 1385) C dL_law_1385 (v := 3) rfl ?_
        refine g_iadd (pc := 1386) C dL_law_1386 ?_
        obtain ⟨k400, h⟩ := h
        refine g_sld (pc := 1387) C hX hbl hbA k400 dL_law_1387 ?_
        refine g_aload_n (pc := 1388) C dL_law_1388 (q := 3) rfl ?_
        obtain ⟨hb403, h⟩ := h
        refine maL_236 (pc := 1389) C hl h (Nat.le_of_ble_eq_true rfl) (Nat.le_of_ble_eq_true rfl) hb403 dL_law_1389 (fun r401 w402 h => ?_)
        refine g_istore (pc := 1392) C dL_law_1392 (Nat.le_of_ble_eq_true rfl) (lo' := [(5, .int r401), (0, .ref b0), (1, .ref (adr x a1)), (2, .ref (adr x a2)), (3, .ref (adr x a3)), (4, .int a4)]) rfl ?_
        refine g_aload_n (pc := 1394) C dL_law_1394 (q := 3) rfl ?_
        refine g_aload_n (pc := 1395) C dL_law_1395 (q := 1) rfl ?_
        refine g_iload (pc := 1396) C dL_law_1396 (q := 5) rfl ?_
        refine g_iconst (pc := 1398) C dL_law_1398 (v := 1) rfl ?_
        refine g_iadd (pc := 1399) C dL_law_1399 ?_
        obtain ⟨k404, h⟩ := h
        refine g_sld (pc := 1400) C hX hbl hbA k404 dL_law_1400 ?_
        refine g_aload_n (pc := 1401) C dL_law_1401 (q := 1) rfl ?_
        refine g_iload (pc := 1402) C dL_law_1402 (q := 5) rfl ?_
        refine g_iconst (pc := 1404) C dL_law_1404 (v := 2) rfl ?_
        refine g_iadd (pc := 1405) C dL_law_1405 ?_
        obtain ⟨k405, h⟩ := h
        refine g_sld (pc := 1406) C hX hbl hbA k405 dL_law_1406 ?_
        refine g_aload_n (pc := 1407) C dL_law_1407 (q := 1) rfl ?_
        refine g_iload (pc := 1408) C dL_law_1408 (q := 5) rfl ?_
        refine g_iconst (pc := 1410) C dL_law_1410 (v := 3) rfl ?_
        refine g_iadd (pc := 1411) C dL_law_1411 ?_
        obtain ⟨k406, h⟩ := h
        refine g_sld (pc := 1412) C hX hbl hbA k406 dL_law_1412 ?_
        obtain ⟨k407, h⟩ := h
        refine miL_239 (pc := 1413) C k407 h (Nat.le_of_ble_eq_true rfl) (Nat.le_of_ble_eq_true rfl) hb403 dL_law_1413 (fun r408 w409 h => ?_)
        refine g_istore (pc := 1416) C dL_law_1416 (Nat.le_of_ble_eq_true rfl) (lo' := [(6, .int r408), (5, .int r401), (0, .ref b0), (1, .ref (adr x a1)), (2, .ref (adr x a2)), (3, .ref (adr x a3)), (4, .int a4)]) rfl ?_
        refine g_aload_n (pc := 1418) C dL_law_1418 (q := 4) rfl ?_
        obtain ⟨k410, h⟩ := h
        refine miL_159 (pc := 1419) C k410 h (Nat.le_of_ble_eq_true rfl) (Nat.le_of_ble_eq_true rfl) hb403 dL_law_1419 (fun r411 w412 h => ?_)
        refine g_iload (pc := 1422) C dL_law_1422 (q := 1) rfl ?_
        refine g_icmp_eq (pc := 1424) C dL_law_1424 (tgt := 1429) rfl (fun z413 => ?_) (fun z413 => ?_)
        · replace h := h.1 z413
          refine g_iload (pc := 1429) C dL_law_1429 (q := 1) rfl ?_
          refine g_if_ne (pc := 1431) C dL_law_1431 (tgt := 1453) rfl (fun z414 => ?_) (fun z414 => ?_)
          · replace h := h.2 z414
            refine g_goto (pc := 1453) C dL_law_1453 (tgt := 3049) rfl ?_
            refine g_iinc (pc := 3049) C dL_law_3049 (q := 6) rfl (v2 := a4 + 6) rfl (Nat.le_of_ble_eq_true rfl) (lo' := [(4, .int (a4 + 6)), (6, .int r408), (5, .int r401), (0, .ref b0), (1, .ref (adr x a1)), (2, .ref (adr x a2)), (3, .ref (adr x a3))]) rfl ?_
            refine g_goto (pc := 3052) C dL_law_3052 (tgt := 23) rfl ?_
            refine g_sub [3, 4, 5, 6, 0] rfl ?_
            exact ih _ _ _ _ _ _ _ hb403 h
          · replace h := h.1 z414
            refine g_aload_n (pc := 1434) C dL_law_1434 (q := 5) rfl ?_
            refine g_iconst (pc := 1435) C dL_law_1435 (v := 0) rfl ?_
            obtain ⟨k415, h⟩ := h
            obtain ⟨k416, h⟩ := h
            refine g_lald (pc := 1436) C k415 k416 dL_law_1436 ?_
            refine g_iload (pc := 1437) C dL_law_1437 (q := 0) rfl ?_
            refine g_if_eq (pc := 1439) C dL_law_1439 (tgt := 1446) rfl (fun z417 => ?_) (fun z417 => ?_)
            · replace h := h.1 z417
              refine g_lconst (pc := 1446) C dL_law_1446 (v := 0) rfl ?_
              refine g_lcmp (pc := 1447) C dL_law_1447 ?_
              refine g_if_eq (pc := 1448) C dL_law_1448 (tgt := 1453) rfl (fun z418 => ?_) (fun z418 => ?_)
              · replace h := h.1 z418
                refine g_goto (pc := 1453) C dL_law_1453 (tgt := 3049) rfl ?_
                refine g_iinc (pc := 3049) C dL_law_3049 (q := 6) rfl (v2 := a4 + 6) rfl (Nat.le_of_ble_eq_true rfl) (lo' := [(4, .int (a4 + 6)), (6, .int r408), (5, .int r401), (0, .ref b0), (1, .ref (adr x a1)), (2, .ref (adr x a2)), (3, .ref (adr x a3))]) rfl ?_
                refine g_goto (pc := 3052) C dL_law_3052 (tgt := 23) rfl ?_
                refine g_sub [3, 4, 5, 6, 0] rfl ?_
                exact ih _ _ _ _ _ _ _ hb403 h
              · replace h := h.2 z418
                refine g_iconst (pc := 1451) C dL_law_1451 (v := 0) rfl ?_
                exact g_lawend (pc := 1452) C hlk hr hb403.1 hb403.2 dL_law_1452 (hK1 _ _ h) hmc
            · replace h := h.2 z417
              refine g_lconst (pc := 1442) C dL_law_1442 (v := 1) rfl ?_
              refine g_goto (pc := 1443) C dL_law_1443 (tgt := 1447) rfl ?_
              refine g_lcmp (pc := 1447) C dL_law_1447 ?_
              refine g_if_eq (pc := 1448) C dL_law_1448 (tgt := 1453) rfl (fun z419 => ?_) (fun z419 => ?_)
              · replace h := h.1 z419
                refine g_goto (pc := 1453) C dL_law_1453 (tgt := 3049) rfl ?_
                refine g_iinc (pc := 3049) C dL_law_3049 (q := 6) rfl (v2 := a4 + 6) rfl (Nat.le_of_ble_eq_true rfl) (lo' := [(4, .int (a4 + 6)), (6, .int r408), (5, .int r401), (0, .ref b0), (1, .ref (adr x a1)), (2, .ref (adr x a2)), (3, .ref (adr x a3))]) rfl ?_
                refine g_goto (pc := 3052) C dL_law_3052 (tgt := 23) rfl ?_
                refine g_sub [3, 4, 5, 6, 0] rfl ?_
                exact ih _ _ _ _ _ _ _ hb403 h
              · replace h := h.2 z419
                refine g_iconst (pc := 1451) C dL_law_1451 (v := 0) rfl ?_
                exact g_lawend (pc := 1452) C hlk hr hb403.1 hb403.2 dL_law_1452 (hK1 _ _ h) hmc
        · replace h := h.2 z413
          refine g_iconst (pc := 1427) C dL_law_1427 (v := 0) rfl ?_
          exact g_lawend (pc := 1428) C hlk hr hb403.1 hb403.2 dL_law_1428 (hK1 _ _ h) hmc
      replace h := h.2 z47
      by_cases z48 : (sc a4.toNatClampNeg) &&& 63 = 24
      · replace h := h.1 z48
        refine g_tabIn (pc := 40) C dL_law_40 (by rw [z48]; decide) (by rw [z48]; decide) (off := 1416) (by rw [z48]; rfl) (tgt := 1456) rfl ?_
        refine g_aload_n (pc := 1456) C dL_law_1456 (q := 1) rfl ?_
        refine g_aload_n (pc := 1457) C dL_law_1457 (q := 0) rfl ?_
        refine g_iload (pc := 1458) C dL_law_1458 (q := 4) rfl ?_
        refine g_iconst (pc := 1460) C dL_law_1460 (v := 1) rfl ?_
        refine g_iadd (pc := 1461) C dL_law_1461 ?_
        obtain ⟨k420, h⟩ := h
        refine g_sld (pc := 1462) C hX hbl hbA k420 dL_law_1462 ?_
        refine g_aload_n (pc := 1463) C dL_law_1463 (q := 3) rfl ?_
        obtain ⟨hb423, h⟩ := h
        refine maL_240 (pc := 1464) C hl h (Nat.le_of_ble_eq_true rfl) (Nat.le_of_ble_eq_true rfl) hb423 dL_law_1464 (fun r421 w422 h => ?_)
        refine g_istore (pc := 1467) C dL_law_1467 (Nat.le_of_ble_eq_true rfl) (lo' := [(5, .int r421), (0, .ref b0), (1, .ref (adr x a1)), (2, .ref (adr x a2)), (3, .ref (adr x a3)), (4, .int a4)]) rfl ?_
        refine g_aload_n (pc := 1469) C dL_law_1469 (q := 3) rfl ?_
        refine g_aload_n (pc := 1470) C dL_law_1470 (q := 1) rfl ?_
        refine g_iload (pc := 1471) C dL_law_1471 (q := 5) rfl ?_
        refine g_iconst (pc := 1473) C dL_law_1473 (v := 1) rfl ?_
        refine g_iadd (pc := 1474) C dL_law_1474 ?_
        obtain ⟨k424, h⟩ := h
        refine g_sld (pc := 1475) C hX hbl hbA k424 dL_law_1475 ?_
        obtain ⟨k425, h⟩ := h
        refine miL_242 (pc := 1476) C k425 h (Nat.le_of_ble_eq_true rfl) (Nat.le_of_ble_eq_true rfl) hb423 dL_law_1476 (fun r426 w427 h => ?_)
        refine g_istore (pc := 1479) C dL_law_1479 (Nat.le_of_ble_eq_true rfl) (lo' := [(6, .int r426), (5, .int r421), (0, .ref b0), (1, .ref (adr x a1)), (2, .ref (adr x a2)), (3, .ref (adr x a3)), (4, .int a4)]) rfl ?_
        refine g_aload_n (pc := 1481) C dL_law_1481 (q := 4) rfl ?_
        obtain ⟨k428, h⟩ := h
        refine miL_159 (pc := 1482) C k428 h (Nat.le_of_ble_eq_true rfl) (Nat.le_of_ble_eq_true rfl) hb423 dL_law_1482 (fun r429 w430 h => ?_)
        refine g_iload (pc := 1485) C dL_law_1485 (q := 1) rfl ?_
        refine g_icmp_eq (pc := 1487) C dL_law_1487 (tgt := 1492) rfl (fun z431 => ?_) (fun z431 => ?_)
        · replace h := h.1 z431
          refine g_iload (pc := 1492) C dL_law_1492 (q := 1) rfl ?_
          refine g_if_ne (pc := 1494) C dL_law_1494 (tgt := 1509) rfl (fun z432 => ?_) (fun z432 => ?_)
          · replace h := h.2 z432
            refine g_goto (pc := 1509) C dL_law_1509 (tgt := 3049) rfl ?_
            refine g_iinc (pc := 3049) C dL_law_3049 (q := 6) rfl (v2 := a4 + 6) rfl (Nat.le_of_ble_eq_true rfl) (lo' := [(4, .int (a4 + 6)), (6, .int r426), (5, .int r421), (0, .ref b0), (1, .ref (adr x a1)), (2, .ref (adr x a2)), (3, .ref (adr x a3))]) rfl ?_
            refine g_goto (pc := 3052) C dL_law_3052 (tgt := 23) rfl ?_
            refine g_sub [3, 4, 5, 6, 0] rfl ?_
            exact ih _ _ _ _ _ _ _ hb423 h
          · replace h := h.1 z432
            refine g_aload_n (pc := 1497) C dL_law_1497 (q := 5) rfl ?_
            refine g_iconst (pc := 1498) C dL_law_1498 (v := 0) rfl ?_
            obtain ⟨k433, h⟩ := h
            obtain ⟨k434, h⟩ := h
            refine g_lald (pc := 1499) C k433 k434 dL_law_1499 ?_
            refine g_iload (pc := 1500) C dL_law_1500 (q := 0) rfl ?_
            refine g_i2l (pc := 1502) C dL_law_1502 ?_
            refine g_lcmp (pc := 1503) C dL_law_1503 ?_
            refine g_if_eq (pc := 1504) C dL_law_1504 (tgt := 1509) rfl (fun z435 => ?_) (fun z435 => ?_)
            · replace h := h.1 z435
              refine g_goto (pc := 1509) C dL_law_1509 (tgt := 3049) rfl ?_
              refine g_iinc (pc := 3049) C dL_law_3049 (q := 6) rfl (v2 := a4 + 6) rfl (Nat.le_of_ble_eq_true rfl) (lo' := [(4, .int (a4 + 6)), (6, .int r426), (5, .int r421), (0, .ref b0), (1, .ref (adr x a1)), (2, .ref (adr x a2)), (3, .ref (adr x a3))]) rfl ?_
              refine g_goto (pc := 3052) C dL_law_3052 (tgt := 23) rfl ?_
              refine g_sub [3, 4, 5, 6, 0] rfl ?_
              exact ih _ _ _ _ _ _ _ hb423 h
            · replace h := h.2 z435
              refine g_iconst (pc := 1507) C dL_law_1507 (v := 0) rfl ?_
              exact g_lawend (pc := 1508) C hlk hr hb423.1 hb423.2 dL_law_1508 (hK1 _ _ h) hmc
        · replace h := h.2 z431
          refine g_iconst (pc := 1490) C dL_law_1490 (v := 0) rfl ?_
          exact g_lawend (pc := 1491) C hlk hr hb423.1 hb423.2 dL_law_1491 (hK1 _ _ h) hmc
      replace h := h.2 z48
      by_cases z49 : (sc a4.toNatClampNeg) &&& 63 = 25
      · replace h := h.1 z49
        refine g_tabIn (pc := 40) C dL_law_40 (by rw [z49]; decide) (by rw [z49]; decide) (off := 1472) (by rw [z49]; rfl) (tgt := 1512) rfl ?_
        refine g_aload_n (pc := 1512) C dL_law_1512 (q := 1) rfl ?_
        refine g_aload_n (pc := 1513) C dL_law_1513 (q := 0) rfl ?_
        refine g_iload (pc := 1514) C dL_law_1514 (q := 4) rfl ?_
        refine g_iconst (pc := 1516) C dL_law_1516 (v := 1) rfl ?_
        refine g_iadd (pc := 1517) C dL_law_1517 ?_
        obtain ⟨k436, h⟩ := h
        refine g_sld (pc := 1518) C hX hbl hbA k436 dL_law_1518 ?_
        refine g_aload_n (pc := 1519) C dL_law_1519 (q := 0) rfl ?_
        refine g_iload (pc := 1520) C dL_law_1520 (q := 4) rfl ?_
        refine g_iconst (pc := 1522) C dL_law_1522 (v := 2) rfl ?_
        refine g_iadd (pc := 1523) C dL_law_1523 ?_
        obtain ⟨k437, h⟩ := h
        refine g_sld (pc := 1524) C hX hbl hbA k437 dL_law_1524 ?_
        refine g_aload_n (pc := 1525) C dL_law_1525 (q := 3) rfl ?_
        obtain ⟨hb440, h⟩ := h
        refine maL_243 (pc := 1526) C hl h (Nat.le_of_ble_eq_true rfl) (Nat.le_of_ble_eq_true rfl) hb440 dL_law_1526 (fun r438 w439 h => ?_)
        refine g_istore (pc := 1529) C dL_law_1529 (Nat.le_of_ble_eq_true rfl) (lo' := [(5, .int r438), (0, .ref b0), (1, .ref (adr x a1)), (2, .ref (adr x a2)), (3, .ref (adr x a3)), (4, .int a4)]) rfl ?_
        refine g_aload_n (pc := 1531) C dL_law_1531 (q := 3) rfl ?_
        refine g_aload_n (pc := 1532) C dL_law_1532 (q := 1) rfl ?_
        refine g_iload (pc := 1533) C dL_law_1533 (q := 5) rfl ?_
        refine g_iconst (pc := 1535) C dL_law_1535 (v := 1) rfl ?_
        refine g_iadd (pc := 1536) C dL_law_1536 ?_
        obtain ⟨k441, h⟩ := h
        refine g_sld (pc := 1537) C hX hbl hbA k441 dL_law_1537 ?_
        refine g_aload_n (pc := 1538) C dL_law_1538 (q := 1) rfl ?_
        refine g_iload (pc := 1539) C dL_law_1539 (q := 5) rfl ?_
        refine g_iconst (pc := 1541) C dL_law_1541 (v := 2) rfl ?_
        refine g_iadd (pc := 1542) C dL_law_1542 ?_
        obtain ⟨k442, h⟩ := h
        refine g_sld (pc := 1543) C hX hbl hbA k442 dL_law_1543 ?_
        obtain ⟨k443, h⟩ := h
        refine miL_245 (pc := 1544) C k443 h (Nat.le_of_ble_eq_true rfl) (Nat.le_of_ble_eq_true rfl) hb440 dL_law_1544 (fun r444 w445 h => ?_)
        refine g_istore (pc := 1547) C dL_law_1547 (Nat.le_of_ble_eq_true rfl) (lo' := [(6, .int r444), (5, .int r438), (0, .ref b0), (1, .ref (adr x a1)), (2, .ref (adr x a2)), (3, .ref (adr x a3)), (4, .int a4)]) rfl ?_
        refine g_aload_n (pc := 1549) C dL_law_1549 (q := 4) rfl ?_
        obtain ⟨k446, h⟩ := h
        refine miL_159 (pc := 1550) C k446 h (Nat.le_of_ble_eq_true rfl) (Nat.le_of_ble_eq_true rfl) hb440 dL_law_1550 (fun r447 w448 h => ?_)
        refine g_iload (pc := 1553) C dL_law_1553 (q := 1) rfl ?_
        refine g_icmp_eq (pc := 1555) C dL_law_1555 (tgt := 1560) rfl (fun z449 => ?_) (fun z449 => ?_)
        · replace h := h.1 z449
          refine g_iload (pc := 1560) C dL_law_1560 (q := 1) rfl ?_
          refine g_if_ne (pc := 1562) C dL_law_1562 (tgt := 1577) rfl (fun z450 => ?_) (fun z450 => ?_)
          · replace h := h.2 z450
            refine g_goto (pc := 1577) C dL_law_1577 (tgt := 3049) rfl ?_
            refine g_iinc (pc := 3049) C dL_law_3049 (q := 6) rfl (v2 := a4 + 6) rfl (Nat.le_of_ble_eq_true rfl) (lo' := [(4, .int (a4 + 6)), (6, .int r444), (5, .int r438), (0, .ref b0), (1, .ref (adr x a1)), (2, .ref (adr x a2)), (3, .ref (adr x a3))]) rfl ?_
            refine g_goto (pc := 3052) C dL_law_3052 (tgt := 23) rfl ?_
            refine g_sub [3, 4, 5, 6, 0] rfl ?_
            exact ih _ _ _ _ _ _ _ hb440 h
          · replace h := h.1 z450
            refine g_aload_n (pc := 1565) C dL_law_1565 (q := 5) rfl ?_
            refine g_iconst (pc := 1566) C dL_law_1566 (v := 0) rfl ?_
            obtain ⟨k451, h⟩ := h
            obtain ⟨k452, h⟩ := h
            refine g_lald (pc := 1567) C k451 k452 dL_law_1567 ?_
            refine g_iload (pc := 1568) C dL_law_1568 (q := 0) rfl ?_
            refine g_i2l (pc := 1570) C dL_law_1570 ?_
            refine g_lcmp (pc := 1571) C dL_law_1571 ?_
            refine g_if_eq (pc := 1572) C dL_law_1572 (tgt := 1577) rfl (fun z453 => ?_) (fun z453 => ?_)
            · replace h := h.1 z453
              refine g_goto (pc := 1577) C dL_law_1577 (tgt := 3049) rfl ?_
              refine g_iinc (pc := 3049) C dL_law_3049 (q := 6) rfl (v2 := a4 + 6) rfl (Nat.le_of_ble_eq_true rfl) (lo' := [(4, .int (a4 + 6)), (6, .int r444), (5, .int r438), (0, .ref b0), (1, .ref (adr x a1)), (2, .ref (adr x a2)), (3, .ref (adr x a3))]) rfl ?_
              refine g_goto (pc := 3052) C dL_law_3052 (tgt := 23) rfl ?_
              refine g_sub [3, 4, 5, 6, 0] rfl ?_
              exact ih _ _ _ _ _ _ _ hb440 h
            · replace h := h.2 z453
              refine g_iconst (pc := 1575) C dL_law_1575 (v := 0) rfl ?_
              exact g_lawend (pc := 1576) C hlk hr hb440.1 hb440.2 dL_law_1576 (hK1 _ _ h) hmc
        · replace h := h.2 z449
          refine g_iconst (pc := 1558) C dL_law_1558 (v := 0) rfl ?_
          exact g_lawend (pc := 1559) C hlk hr hb440.1 hb440.2 dL_law_1559 (hK1 _ _ h) hmc
      replace h := h.2 z49
      by_cases z50 : (sc a4.toNatClampNeg) &&& 63 = 26
      · replace h := h.1 z50
        refine g_tabIn (pc := 40) C dL_law_40 (by rw [z50]; decide) (by rw [z50]; decide) (off := 1540) (by rw [z50]; rfl) (tgt := 1580) rfl ?_
        refine g_aload_n (pc := 1580) C dL_law_1580 (q := 1) rfl ?_
        refine g_aload_n (pc := 1581) C dL_law_1581 (q := 0) rfl ?_
        refine g_iload (pc := 1582) C dL_law_1582 (q := 4) rfl ?_
        refine g_iconst (pc := 1584) C dL_law_1584 (v := 1) rfl ?_
        refine g_iadd (pc := 1585) C dL_law_1585 ?_
        obtain ⟨k454, h⟩ := h
        refine g_sld (pc := 1586) C hX hbl hbA k454 dL_law_1586 ?_
        refine g_aload_n (pc := 1587) C dL_law_1587 (q := 0) rfl ?_
        refine g_iload (pc := 1588) C dL_law_1588 (q := 4) rfl ?_
        refine g_iconst (pc := 1590) C dL_law_1590 (v := 2) rfl ?_
        refine g_iadd (pc := 1591) C dL_law_1591 ?_
        obtain ⟨k455, h⟩ := h
        refine g_sld (pc := 1592) C hX hbl hbA k455 dL_law_1592 ?_
        refine g_aload_n (pc := 1593) C dL_law_1593 (q := 3) rfl ?_
        obtain ⟨hb458, h⟩ := h
        refine maL_246 (pc := 1594) C hl h (Nat.le_of_ble_eq_true rfl) (Nat.le_of_ble_eq_true rfl) hb458 dL_law_1594 (fun r456 w457 h => ?_)
        refine g_istore (pc := 1597) C dL_law_1597 (Nat.le_of_ble_eq_true rfl) (lo' := [(5, .int r456), (0, .ref b0), (1, .ref (adr x a1)), (2, .ref (adr x a2)), (3, .ref (adr x a3)), (4, .int a4)]) rfl ?_
        refine g_aload_n (pc := 1599) C dL_law_1599 (q := 3) rfl ?_
        refine g_aload_n (pc := 1600) C dL_law_1600 (q := 1) rfl ?_
        refine g_iload (pc := 1601) C dL_law_1601 (q := 5) rfl ?_
        refine g_iconst (pc := 1603) C dL_law_1603 (v := 1) rfl ?_
        refine g_iadd (pc := 1604) C dL_law_1604 ?_
        obtain ⟨k459, h⟩ := h
        refine g_sld (pc := 1605) C hX hbl hbA k459 dL_law_1605 ?_
        refine g_aload_n (pc := 1606) C dL_law_1606 (q := 1) rfl ?_
        refine g_iload (pc := 1607) C dL_law_1607 (q := 5) rfl ?_
        refine g_iconst (pc := 1609) C dL_law_1609 (v := 2) rfl ?_
        refine g_iadd (pc := 1610) C dL_law_1610 ?_
        obtain ⟨k460, h⟩ := h
        refine g_sld (pc := 1611) C hX hbl hbA k460 dL_law_1611 ?_
        obtain ⟨k461, h⟩ := h
        refine miL_248 (pc := 1612) C k461 h (Nat.le_of_ble_eq_true rfl) (Nat.le_of_ble_eq_true rfl) hb458 dL_law_1612 (fun r462 w463 h => ?_)
        refine g_istore (pc := 1615) C dL_law_1615 (Nat.le_of_ble_eq_true rfl) (lo' := [(6, .int r462), (5, .int r456), (0, .ref b0), (1, .ref (adr x a1)), (2, .ref (adr x a2)), (3, .ref (adr x a3)), (4, .int a4)]) rfl ?_
        refine g_aload_n (pc := 1617) C dL_law_1617 (q := 4) rfl ?_
        obtain ⟨k464, h⟩ := h
        refine miL_159 (pc := 1618) C k464 h (Nat.le_of_ble_eq_true rfl) (Nat.le_of_ble_eq_true rfl) hb458 dL_law_1618 (fun r465 w466 h => ?_)
        refine g_iload (pc := 1621) C dL_law_1621 (q := 1) rfl ?_
        refine g_icmp_eq (pc := 1623) C dL_law_1623 (tgt := 1628) rfl (fun z467 => ?_) (fun z467 => ?_)
        · replace h := h.1 z467
          refine g_iload (pc := 1628) C dL_law_1628 (q := 1) rfl ?_
          refine g_if_ne (pc := 1630) C dL_law_1630 (tgt := 1645) rfl (fun z468 => ?_) (fun z468 => ?_)
          · replace h := h.2 z468
            refine g_goto (pc := 1645) C dL_law_1645 (tgt := 3049) rfl ?_
            refine g_iinc (pc := 3049) C dL_law_3049 (q := 6) rfl (v2 := a4 + 6) rfl (Nat.le_of_ble_eq_true rfl) (lo' := [(4, .int (a4 + 6)), (6, .int r462), (5, .int r456), (0, .ref b0), (1, .ref (adr x a1)), (2, .ref (adr x a2)), (3, .ref (adr x a3))]) rfl ?_
            refine g_goto (pc := 3052) C dL_law_3052 (tgt := 23) rfl ?_
            refine g_sub [3, 4, 5, 6, 0] rfl ?_
            exact ih _ _ _ _ _ _ _ hb458 h
          · replace h := h.1 z468
            refine g_aload_n (pc := 1633) C dL_law_1633 (q := 5) rfl ?_
            refine g_iconst (pc := 1634) C dL_law_1634 (v := 0) rfl ?_
            obtain ⟨k469, h⟩ := h
            obtain ⟨k470, h⟩ := h
            refine g_lald (pc := 1635) C k469 k470 dL_law_1635 ?_
            refine g_iload (pc := 1636) C dL_law_1636 (q := 0) rfl ?_
            refine g_i2l (pc := 1638) C dL_law_1638 ?_
            refine g_lcmp (pc := 1639) C dL_law_1639 ?_
            refine g_if_eq (pc := 1640) C dL_law_1640 (tgt := 1645) rfl (fun z471 => ?_) (fun z471 => ?_)
            · replace h := h.1 z471
              refine g_goto (pc := 1645) C dL_law_1645 (tgt := 3049) rfl ?_
              refine g_iinc (pc := 3049) C dL_law_3049 (q := 6) rfl (v2 := a4 + 6) rfl (Nat.le_of_ble_eq_true rfl) (lo' := [(4, .int (a4 + 6)), (6, .int r462), (5, .int r456), (0, .ref b0), (1, .ref (adr x a1)), (2, .ref (adr x a2)), (3, .ref (adr x a3))]) rfl ?_
              refine g_goto (pc := 3052) C dL_law_3052 (tgt := 23) rfl ?_
              refine g_sub [3, 4, 5, 6, 0] rfl ?_
              exact ih _ _ _ _ _ _ _ hb458 h
            · replace h := h.2 z471
              refine g_iconst (pc := 1643) C dL_law_1643 (v := 0) rfl ?_
              exact g_lawend (pc := 1644) C hlk hr hb458.1 hb458.2 dL_law_1644 (hK1 _ _ h) hmc
        · replace h := h.2 z467
          refine g_iconst (pc := 1626) C dL_law_1626 (v := 0) rfl ?_
          exact g_lawend (pc := 1627) C hlk hr hb458.1 hb458.2 dL_law_1627 (hK1 _ _ h) hmc
      replace h := h.2 z50
      by_cases z51 : (sc a4.toNatClampNeg) &&& 63 = 27
      · replace h := h.1 z51
        refine g_tabIn (pc := 40) C dL_law_40 (by rw [z51]; decide) (by rw [z51]; decide) (off := 1608) (by rw [z51]; rfl) (tgt := 1648) rfl ?_
        refine g_aload_n (pc := 1648) C dL_law_1648 (q := 1) rfl ?_
        refine g_aload_n (pc := 1649) C dL_law_1649 (q := 0) rfl ?_
        refine g_iload (pc := 1650) C dL_law_1650 (q := 4) rfl ?_
        refine g_iconst (pc := 1652) C dL_law_1652 (v := 1) rfl ?_
        refine g_iadd (pc := 1653) C dL_law_1653 ?_
        obtain ⟨k472, h⟩ := h
        refine g_sld (pc := 1654) C hX hbl hbA k472 dL_law_1654 ?_
        refine g_aload_n (pc := 1655) C dL_law_1655 (q := 0) rfl ?_
        refine g_iload (pc := 1656) C dL_law_1656 (q := 4) rfl ?_
        refine g_iconst (pc := 1658) C dL_law_1658 (v := 2) rfl ?_
        refine g_iadd (pc := 1659) C dL_law_1659 ?_
        obtain ⟨k473, h⟩ := h
        refine g_sld (pc := 1660) C hX hbl hbA k473 dL_law_1660 ?_
        refine g_aload_n (pc := 1661) C dL_law_1661 (q := 0) rfl ?_
        refine g_iload (pc := 1662) C dL_law_1662 (q := 4) rfl ?_
        refine g_iconst (pc := 1664) C dL_law_1664 (v := 3) rfl ?_
        refine g_iadd (pc := 1665) C dL_law_1665 ?_
        obtain ⟨k474, h⟩ := h
        refine g_sld (pc := 1666) C hX hbl hbA k474 dL_law_1666 ?_
        refine g_aload_n (pc := 1667) C dL_law_1667 (q := 0) rfl ?_
        refine g_iload (pc := 1668) C dL_law_1668 (q := 4) rfl ?_
        refine g_iconst (pc := 1670) C dL_law_1670 (v := 4) rfl ?_
        refine g_iadd (pc := 1671) C dL_law_1671 ?_
        obtain ⟨k475, h⟩ := h
        refine g_sld (pc := 1672) C hX hbl hbA k475 dL_law_1672 ?_
        refine g_aload_n (pc := 1673) C dL_law_1673 (q := 3) rfl ?_
        obtain ⟨hb478, h⟩ := h
        refine maL_249 (pc := 1674) C hl h (Nat.le_of_ble_eq_true rfl) (Nat.le_of_ble_eq_true rfl) hb478 dL_law_1674 (fun r476 w477 h => ?_)
        refine g_istore (pc := 1677) C dL_law_1677 (Nat.le_of_ble_eq_true rfl) (lo' := [(5, .int r476), (0, .ref b0), (1, .ref (adr x a1)), (2, .ref (adr x a2)), (3, .ref (adr x a3)), (4, .int a4)]) rfl ?_
        refine g_aload_n (pc := 1679) C dL_law_1679 (q := 3) rfl ?_
        refine g_aload_n (pc := 1680) C dL_law_1680 (q := 1) rfl ?_
        refine g_iload (pc := 1681) C dL_law_1681 (q := 5) rfl ?_
        refine g_iconst (pc := 1683) C dL_law_1683 (v := 1) rfl ?_
        refine g_iadd (pc := 1684) C dL_law_1684 ?_
        obtain ⟨k479, h⟩ := h
        refine g_sld (pc := 1685) C hX hbl hbA k479 dL_law_1685 ?_
        refine g_aload_n (pc := 1686) C dL_law_1686 (q := 1) rfl ?_
        refine g_iload (pc := 1687) C dL_law_1687 (q := 5) rfl ?_
        refine g_iconst (pc := 1689) C dL_law_1689 (v := 2) rfl ?_
        refine g_iadd (pc := 1690) C dL_law_1690 ?_
        obtain ⟨k480, h⟩ := h
        refine g_sld (pc := 1691) C hX hbl hbA k480 dL_law_1691 ?_
        refine g_aload_n (pc := 1692) C dL_law_1692 (q := 1) rfl ?_
        refine g_iload (pc := 1693) C dL_law_1693 (q := 5) rfl ?_
        refine g_iconst (pc := 1695) C dL_law_1695 (v := 3) rfl ?_
        refine g_iadd (pc := 1696) C dL_law_1696 ?_
        obtain ⟨k481, h⟩ := h
        refine g_sld (pc := 1697) C hX hbl hbA k481 dL_law_1697 ?_
        refine g_aload_n (pc := 1698) C dL_law_1698 (q := 1) rfl ?_
        refine g_iload (pc := 1699) C dL_law_1699 (q := 5) rfl ?_
        refine g_iconst (pc := 1701) C dL_law_1701 (v := 4) rfl ?_
        refine g_iadd (pc := 1702) C dL_law_1702 ?_
        obtain ⟨k482, h⟩ := h
        refine g_sld (pc := 1703) C hX hbl hbA k482 dL_law_1703 ?_
        obtain ⟨k483, h⟩ := h
        refine miL_252 (pc := 1704) C k483 h (Nat.le_of_ble_eq_true rfl) (Nat.le_of_ble_eq_true rfl) hb478 dL_law_1704 (fun r484 w485 h => ?_)
        refine g_istore (pc := 1707) C dL_law_1707 (Nat.le_of_ble_eq_true rfl) (lo' := [(6, .int r484), (5, .int r476), (0, .ref b0), (1, .ref (adr x a1)), (2, .ref (adr x a2)), (3, .ref (adr x a3)), (4, .int a4)]) rfl ?_
        refine g_aload_n (pc := 1709) C dL_law_1709 (q := 4) rfl ?_
        obtain ⟨k486, h⟩ := h
        refine miL_159 (pc := 1710) C k486 h (Nat.le_of_ble_eq_true rfl) (Nat.le_of_ble_eq_true rfl) hb478 dL_law_1710 (fun r487 w488 h => ?_)
        refine g_iload (pc := 1713) C dL_law_1713 (q := 1) rfl ?_
        refine g_icmp_eq (pc := 1715) C dL_law_1715 (tgt := 1720) rfl (fun z489 => ?_) (fun z489 => ?_)
        · replace h := h.1 z489
          refine g_iload (pc := 1720) C dL_law_1720 (q := 1) rfl ?_
          refine g_if_ne (pc := 1722) C dL_law_1722 (tgt := 1737) rfl (fun z490 => ?_) (fun z490 => ?_)
          · replace h := h.2 z490
            refine g_goto (pc := 1737) C dL_law_1737 (tgt := 3049) rfl ?_
            refine g_iinc (pc := 3049) C dL_law_3049 (q := 6) rfl (v2 := a4 + 6) rfl (Nat.le_of_ble_eq_true rfl) (lo' := [(4, .int (a4 + 6)), (6, .int r484), (5, .int r476), (0, .ref b0), (1, .ref (adr x a1)), (2, .ref (adr x a2)), (3, .ref (adr x a3))]) rfl ?_
            refine g_goto (pc := 3052) C dL_law_3052 (tgt := 23) rfl ?_
            refine g_sub [3, 4, 5, 6, 0] rfl ?_
            exact ih _ _ _ _ _ _ _ hb478 h
          · replace h := h.1 z490
            refine g_aload_n (pc := 1725) C dL_law_1725 (q := 5) rfl ?_
            refine g_iconst (pc := 1726) C dL_law_1726 (v := 0) rfl ?_
            obtain ⟨k491, h⟩ := h
            obtain ⟨k492, h⟩ := h
            refine g_lald (pc := 1727) C k491 k492 dL_law_1727 ?_
            refine g_iload (pc := 1728) C dL_law_1728 (q := 0) rfl ?_
            refine g_i2l (pc := 1730) C dL_law_1730 ?_
            refine g_lcmp (pc := 1731) C dL_law_1731 ?_
            refine g_if_eq (pc := 1732) C dL_law_1732 (tgt := 1737) rfl (fun z493 => ?_) (fun z493 => ?_)
            · replace h := h.1 z493
              refine g_goto (pc := 1737) C dL_law_1737 (tgt := 3049) rfl ?_
              refine g_iinc (pc := 3049) C dL_law_3049 (q := 6) rfl (v2 := a4 + 6) rfl (Nat.le_of_ble_eq_true rfl) (lo' := [(4, .int (a4 + 6)), (6, .int r484), (5, .int r476), (0, .ref b0), (1, .ref (adr x a1)), (2, .ref (adr x a2)), (3, .ref (adr x a3))]) rfl ?_
              refine g_goto (pc := 3052) C dL_law_3052 (tgt := 23) rfl ?_
              refine g_sub [3, 4, 5, 6, 0] rfl ?_
              exact ih _ _ _ _ _ _ _ hb478 h
            · replace h := h.2 z493
              refine g_iconst (pc := 1735) C dL_law_1735 (v := 0) rfl ?_
              exact g_lawend (pc := 1736) C hlk hr hb478.1 hb478.2 dL_law_1736 (hK1 _ _ h) hmc
        · replace h := h.2 z489
          refine g_iconst (pc := 1718) C dL_law_1718 (v := 0) rfl ?_
          exact g_lawend (pc := 1719) C hlk hr hb478.1 hb478.2 dL_law_1719 (hK1 _ _ h) hmc
      replace h := h.2 z51
      by_cases z52 : (sc a4.toNatClampNeg) &&& 63 = 28
      · replace h := h.1 z52
        refine g_tabIn (pc := 40) C dL_law_40 (by rw [z52]; decide) (by rw [z52]; decide) (off := 1700) (by rw [z52]; rfl) (tgt := 1740) rfl ?_
        refine g_aload_n (pc := 1740) C dL_law_1740 (q := 1) rfl ?_
        refine g_aload_n (pc := 1741) C dL_law_1741 (q := 0) rfl ?_
        refine g_iload (pc := 1742) C dL_law_1742 (q := 4) rfl ?_
        refine g_iconst (pc := 1744) C dL_law_1744 (v := 1) rfl ?_
        refine g_iadd (pc := 1745) C dL_law_1745 ?_
        obtain ⟨k494, h⟩ := h
        refine g_sld (pc := 1746) C hX hbl hbA k494 dL_law_1746 ?_
        refine g_aload_n (pc := 1747) C dL_law_1747 (q := 3) rfl ?_
        obtain ⟨hb497, h⟩ := h
        refine maL_253 (pc := 1748) C hl h (Nat.le_of_ble_eq_true rfl) (Nat.le_of_ble_eq_true rfl) hb497 dL_law_1748 (fun r495 w496 h => ?_)
        refine g_istore (pc := 1751) C dL_law_1751 (Nat.le_of_ble_eq_true rfl) (lo' := [(5, .int r495), (0, .ref b0), (1, .ref (adr x a1)), (2, .ref (adr x a2)), (3, .ref (adr x a3)), (4, .int a4)]) rfl ?_
        refine g_aload_n (pc := 1753) C dL_law_1753 (q := 3) rfl ?_
        refine g_aload_n (pc := 1754) C dL_law_1754 (q := 1) rfl ?_
        refine g_iload (pc := 1755) C dL_law_1755 (q := 5) rfl ?_
        refine g_iconst (pc := 1757) C dL_law_1757 (v := 1) rfl ?_
        refine g_iadd (pc := 1758) C dL_law_1758 ?_
        obtain ⟨k498, h⟩ := h
        refine g_sld (pc := 1759) C hX hbl hbA k498 dL_law_1759 ?_
        obtain ⟨k499, h⟩ := h
        refine miL_255 (pc := 1760) C k499 h (Nat.le_of_ble_eq_true rfl) (Nat.le_of_ble_eq_true rfl) hb497 dL_law_1760 (fun r500 w501 h => ?_)
        refine g_istore (pc := 1763) C dL_law_1763 (Nat.le_of_ble_eq_true rfl) (lo' := [(6, .int r500), (5, .int r495), (0, .ref b0), (1, .ref (adr x a1)), (2, .ref (adr x a2)), (3, .ref (adr x a3)), (4, .int a4)]) rfl ?_
        refine g_aload_n (pc := 1765) C dL_law_1765 (q := 4) rfl ?_
        obtain ⟨k502, h⟩ := h
        refine miL_159 (pc := 1766) C k502 h (Nat.le_of_ble_eq_true rfl) (Nat.le_of_ble_eq_true rfl) hb497 dL_law_1766 (fun r503 w504 h => ?_)
        refine g_iload (pc := 1769) C dL_law_1769 (q := 1) rfl ?_
        refine g_icmp_eq (pc := 1771) C dL_law_1771 (tgt := 1776) rfl (fun z505 => ?_) (fun z505 => ?_)
        · replace h := h.1 z505
          refine g_iload (pc := 1776) C dL_law_1776 (q := 1) rfl ?_
          refine g_if_ne (pc := 1778) C dL_law_1778 (tgt := 1793) rfl (fun z506 => ?_) (fun z506 => ?_)
          · replace h := h.2 z506
            refine g_goto (pc := 1793) C dL_law_1793 (tgt := 3049) rfl ?_
            refine g_iinc (pc := 3049) C dL_law_3049 (q := 6) rfl (v2 := a4 + 6) rfl (Nat.le_of_ble_eq_true rfl) (lo' := [(4, .int (a4 + 6)), (6, .int r500), (5, .int r495), (0, .ref b0), (1, .ref (adr x a1)), (2, .ref (adr x a2)), (3, .ref (adr x a3))]) rfl ?_
            refine g_goto (pc := 3052) C dL_law_3052 (tgt := 23) rfl ?_
            refine g_sub [3, 4, 5, 6, 0] rfl ?_
            exact ih _ _ _ _ _ _ _ hb497 h
          · replace h := h.1 z506
            refine g_aload_n (pc := 1781) C dL_law_1781 (q := 5) rfl ?_
            refine g_iconst (pc := 1782) C dL_law_1782 (v := 0) rfl ?_
            obtain ⟨k507, h⟩ := h
            obtain ⟨k508, h⟩ := h
            refine g_lald (pc := 1783) C k507 k508 dL_law_1783 ?_
            refine g_iload (pc := 1784) C dL_law_1784 (q := 0) rfl ?_
            refine g_i2l (pc := 1786) C dL_law_1786 ?_
            refine g_lcmp (pc := 1787) C dL_law_1787 ?_
            refine g_if_eq (pc := 1788) C dL_law_1788 (tgt := 1793) rfl (fun z509 => ?_) (fun z509 => ?_)
            · replace h := h.1 z509
              refine g_goto (pc := 1793) C dL_law_1793 (tgt := 3049) rfl ?_
              refine g_iinc (pc := 3049) C dL_law_3049 (q := 6) rfl (v2 := a4 + 6) rfl (Nat.le_of_ble_eq_true rfl) (lo' := [(4, .int (a4 + 6)), (6, .int r500), (5, .int r495), (0, .ref b0), (1, .ref (adr x a1)), (2, .ref (adr x a2)), (3, .ref (adr x a3))]) rfl ?_
              refine g_goto (pc := 3052) C dL_law_3052 (tgt := 23) rfl ?_
              refine g_sub [3, 4, 5, 6, 0] rfl ?_
              exact ih _ _ _ _ _ _ _ hb497 h
            · replace h := h.2 z509
              refine g_iconst (pc := 1791) C dL_law_1791 (v := 0) rfl ?_
              exact g_lawend (pc := 1792) C hlk hr hb497.1 hb497.2 dL_law_1792 (hK1 _ _ h) hmc
        · replace h := h.2 z505
          refine g_iconst (pc := 1774) C dL_law_1774 (v := 0) rfl ?_
          exact g_lawend (pc := 1775) C hlk hr hb497.1 hb497.2 dL_law_1775 (hK1 _ _ h) hmc
      replace h := h.2 z52
      by_cases z53 : (sc a4.toNatClampNeg) &&& 63 = 29
      · replace h := h.1 z53
        refine g_tabIn (pc := 40) C dL_law_40 (by rw [z53]; decide) (by rw [z53]; decide) (off := 1756) (by rw [z53]; rfl) (tgt := 1796) rfl ?_
        refine g_aload_n (pc := 1796) C dL_law_1796 (q := 1) rfl ?_
        refine g_aload_n (pc := 1797) C dL_law_1797 (q := 0) rfl ?_
        refine g_iload (pc := 1798) C dL_law_1798 (q := 4) rfl ?_
        refine g_iconst (pc := 1800) C dL_law_1800 (v := 1) rfl ?_
        refine g_iadd (pc := 1801) C dL_law_1801 ?_
        obtain ⟨k510, h⟩ := h
        refine g_sld (pc := 1802) C hX hbl hbA k510 dL_law_1802 ?_
        refine g_aload_n (pc := 1803) C dL_law_1803 (q := 0) rfl ?_
        refine g_iload (pc := 1804) C dL_law_1804 (q := 4) rfl ?_
        refine g_iconst (pc := 1806) C dL_law_1806 (v := 2) rfl ?_
        refine g_iadd (pc := 1807) C dL_law_1807 ?_
        obtain ⟨k511, h⟩ := h
        refine g_sld (pc := 1808) C hX hbl hbA k511 dL_law_1808 ?_
        refine g_aload_n (pc := 1809) C dL_law_1809 (q := 3) rfl ?_
        obtain ⟨hb514, h⟩ := h
        refine maL_256 (pc := 1810) C hl h (Nat.le_of_ble_eq_true rfl) (Nat.le_of_ble_eq_true rfl) hb514 dL_law_1810 (fun r512 w513 h => ?_)
        refine g_istore (pc := 1813) C dL_law_1813 (Nat.le_of_ble_eq_true rfl) (lo' := [(5, .int r512), (0, .ref b0), (1, .ref (adr x a1)), (2, .ref (adr x a2)), (3, .ref (adr x a3)), (4, .int a4)]) rfl ?_
        refine g_aload_n (pc := 1815) C dL_law_1815 (q := 3) rfl ?_
        refine g_aload_n (pc := 1816) C dL_law_1816 (q := 1) rfl ?_
        refine g_iload (pc := 1817) C dL_law_1817 (q := 5) rfl ?_
        refine g_iconst (pc := 1819) C dL_law_1819 (v := 1) rfl ?_
        refine g_iadd (pc := 1820) C dL_law_1820 ?_
        obtain ⟨k515, h⟩ := h
        refine g_sld (pc := 1821) C hX hbl hbA k515 dL_law_1821 ?_
        refine g_aload_n (pc := 1822) C dL_law_1822 (q := 1) rfl ?_
        refine g_iload (pc := 1823) C dL_law_1823 (q := 5) rfl ?_
        refine g_iconst (pc := 1825) C dL_law_1825 (v := 2) rfl ?_
        refine g_iadd (pc := 1826) C dL_law_1826 ?_
        obtain ⟨k516, h⟩ := h
        refine g_sld (pc := 1827) C hX hbl hbA k516 dL_law_1827 ?_
        obtain ⟨k517, h⟩ := h
        refine miL_258 (pc := 1828) C k517 h (Nat.le_of_ble_eq_true rfl) (Nat.le_of_ble_eq_true rfl) hb514 dL_law_1828 (fun r518 w519 h => ?_)
        refine g_istore (pc := 1831) C dL_law_1831 (Nat.le_of_ble_eq_true rfl) (lo' := [(6, .int r518), (5, .int r512), (0, .ref b0), (1, .ref (adr x a1)), (2, .ref (adr x a2)), (3, .ref (adr x a3)), (4, .int a4)]) rfl ?_
        refine g_aload_n (pc := 1833) C dL_law_1833 (q := 4) rfl ?_
        obtain ⟨k520, h⟩ := h
        refine miL_159 (pc := 1834) C k520 h (Nat.le_of_ble_eq_true rfl) (Nat.le_of_ble_eq_true rfl) hb514 dL_law_1834 (fun r521 w522 h => ?_)
        refine g_iload (pc := 1837) C dL_law_1837 (q := 1) rfl ?_
        refine g_icmp_eq (pc := 1839) C dL_law_1839 (tgt := 1844) rfl (fun z523 => ?_) (fun z523 => ?_)
        · replace h := h.1 z523
          refine g_iload (pc := 1844) C dL_law_1844 (q := 1) rfl ?_
          refine g_if_ne (pc := 1846) C dL_law_1846 (tgt := 1861) rfl (fun z524 => ?_) (fun z524 => ?_)
          · replace h := h.2 z524
            refine g_goto (pc := 1861) C dL_law_1861 (tgt := 3049) rfl ?_
            refine g_iinc (pc := 3049) C dL_law_3049 (q := 6) rfl (v2 := a4 + 6) rfl (Nat.le_of_ble_eq_true rfl) (lo' := [(4, .int (a4 + 6)), (6, .int r518), (5, .int r512), (0, .ref b0), (1, .ref (adr x a1)), (2, .ref (adr x a2)), (3, .ref (adr x a3))]) rfl ?_
            refine g_goto (pc := 3052) C dL_law_3052 (tgt := 23) rfl ?_
            refine g_sub [3, 4, 5, 6, 0] rfl ?_
            exact ih _ _ _ _ _ _ _ hb514 h
          · replace h := h.1 z524
            refine g_aload_n (pc := 1849) C dL_law_1849 (q := 5) rfl ?_
            refine g_iconst (pc := 1850) C dL_law_1850 (v := 0) rfl ?_
            obtain ⟨k525, h⟩ := h
            obtain ⟨k526, h⟩ := h
            refine g_lald (pc := 1851) C k525 k526 dL_law_1851 ?_
            refine g_iload (pc := 1852) C dL_law_1852 (q := 0) rfl ?_
            refine g_i2l (pc := 1854) C dL_law_1854 ?_
            refine g_lcmp (pc := 1855) C dL_law_1855 ?_
            refine g_if_eq (pc := 1856) C dL_law_1856 (tgt := 1861) rfl (fun z527 => ?_) (fun z527 => ?_)
            · replace h := h.1 z527
              refine g_goto (pc := 1861) C dL_law_1861 (tgt := 3049) rfl ?_
              refine g_iinc (pc := 3049) C dL_law_3049 (q := 6) rfl (v2 := a4 + 6) rfl (Nat.le_of_ble_eq_true rfl) (lo' := [(4, .int (a4 + 6)), (6, .int r518), (5, .int r512), (0, .ref b0), (1, .ref (adr x a1)), (2, .ref (adr x a2)), (3, .ref (adr x a3))]) rfl ?_
              refine g_goto (pc := 3052) C dL_law_3052 (tgt := 23) rfl ?_
              refine g_sub [3, 4, 5, 6, 0] rfl ?_
              exact ih _ _ _ _ _ _ _ hb514 h
            · replace h := h.2 z527
              refine g_iconst (pc := 1859) C dL_law_1859 (v := 0) rfl ?_
              exact g_lawend (pc := 1860) C hlk hr hb514.1 hb514.2 dL_law_1860 (hK1 _ _ h) hmc
        · replace h := h.2 z523
          refine g_iconst (pc := 1842) C dL_law_1842 (v := 0) rfl ?_
          exact g_lawend (pc := 1843) C hlk hr hb514.1 hb514.2 dL_law_1843 (hK1 _ _ h) hmc
      replace h := h.2 z53
      by_cases z54 : (sc a4.toNatClampNeg) &&& 63 = 30
      · replace h := h.1 z54
        refine g_tabIn (pc := 40) C dL_law_40 (by rw [z54]; decide) (by rw [z54]; decide) (off := 1824) (by rw [z54]; rfl) (tgt := 1864) rfl ?_
        refine g_aload_n (pc := 1864) C dL_law_1864 (q := 1) rfl ?_
        refine g_aload_n (pc := 1865) C dL_law_1865 (q := 0) rfl ?_
        refine g_iload (pc := 1866) C dL_law_1866 (q := 4) rfl ?_
        refine g_iconst (pc := 1868) C dL_law_1868 (v := 1) rfl ?_
        refine g_iadd (pc := 1869) C dL_law_1869 ?_
        obtain ⟨k528, h⟩ := h
        refine g_sld (pc := 1870) C hX hbl hbA k528 dL_law_1870 ?_
        refine g_aload_n (pc := 1871) C dL_law_1871 (q := 0) rfl ?_
        refine g_iload (pc := 1872) C dL_law_1872 (q := 4) rfl ?_
        refine g_iconst (pc := 1874) C dL_law_1874 (v := 2) rfl ?_
        refine g_iadd (pc := 1875) C dL_law_1875 ?_
        obtain ⟨k529, h⟩ := h
        refine g_sld (pc := 1876) C hX hbl hbA k529 dL_law_1876 ?_
        refine g_aload_n (pc := 1877) C dL_law_1877 (q := 0) rfl ?_
        refine g_iload (pc := 1878) C dL_law_1878 (q := 4) rfl ?_
        refine g_iconst (pc := 1880) C dL_law_1880 (v := 3) rfl ?_
        refine g_iadd (pc := 1881) C dL_law_1881 ?_
        obtain ⟨k530, h⟩ := h
        refine g_sld (pc := 1882) C hX hbl hbA k530 dL_law_1882 ?_
        refine g_aload_n (pc := 1883) C dL_law_1883 (q := 3) rfl ?_
        obtain ⟨hb533, h⟩ := h
        refine maL_259 (pc := 1884) C hl h (Nat.le_of_ble_eq_true rfl) (Nat.le_of_ble_eq_true rfl) hb533 dL_law_1884 (fun r531 w532 h => ?_)
        refine g_istore (pc := 1887) C dL_law_1887 (Nat.le_of_ble_eq_true rfl) (lo' := [(5, .int r531), (0, .ref b0), (1, .ref (adr x a1)), (2, .ref (adr x a2)), (3, .ref (adr x a3)), (4, .int a4)]) rfl ?_
        refine g_aload_n (pc := 1889) C dL_law_1889 (q := 3) rfl ?_
        refine g_aload_n (pc := 1890) C dL_law_1890 (q := 1) rfl ?_
        refine g_iload (pc := 1891) C dL_law_1891 (q := 5) rfl ?_
        refine g_iconst (pc := 1893) C dL_law_1893 (v := 1) rfl ?_
        refine g_iadd (pc := 1894) C dL_law_1894 ?_
        obtain ⟨k534, h⟩ := h
        refine g_sld (pc := 1895) C hX hbl hbA k534 dL_law_1895 ?_
        refine g_aload_n (pc := 1896) C dL_law_1896 (q := 1) rfl ?_
        refine g_iload (pc := 1897) C dL_law_1897 (q := 5) rfl ?_
        refine g_iconst (pc := 1899) C dL_law_1899 (v := 2) rfl ?_
        refine g_iadd (pc := 1900) C dL_law_1900 ?_
        obtain ⟨k535, h⟩ := h
        refine g_sld (pc := 1901) C hX hbl hbA k535 dL_law_1901 ?_
        refine g_aload_n (pc := 1902) C dL_law_1902 (q := 1) rfl ?_
        refine g_iload (pc := 1903) C dL_law_1903 (q := 5) rfl ?_
        refine g_iconst (pc := 1905) C dL_law_1905 (v := 3) rfl ?_
        refine g_iadd (pc := 1906) C dL_law_1906 ?_
        obtain ⟨k536, h⟩ := h
        refine g_sld (pc := 1907) C hX hbl hbA k536 dL_law_1907 ?_
        obtain ⟨k537, h⟩ := h
        refine miL_261 (pc := 1908) C k537 h (Nat.le_of_ble_eq_true rfl) (Nat.le_of_ble_eq_true rfl) hb533 dL_law_1908 (fun r538 w539 h => ?_)
        refine g_istore (pc := 1911) C dL_law_1911 (Nat.le_of_ble_eq_true rfl) (lo' := [(6, .int r538), (5, .int r531), (0, .ref b0), (1, .ref (adr x a1)), (2, .ref (adr x a2)), (3, .ref (adr x a3)), (4, .int a4)]) rfl ?_
        refine g_aload_n (pc := 1913) C dL_law_1913 (q := 4) rfl ?_
        obtain ⟨k540, h⟩ := h
        refine miL_159 (pc := 1914) C k540 h (Nat.le_of_ble_eq_true rfl) (Nat.le_of_ble_eq_true rfl) hb533 dL_law_1914 (fun r541 w542 h => ?_)
        refine g_iload (pc := 1917) C dL_law_1917 (q := 1) rfl ?_
        refine g_icmp_eq (pc := 1919) C dL_law_1919 (tgt := 1924) rfl (fun z543 => ?_) (fun z543 => ?_)
        · replace h := h.1 z543
          refine g_iload (pc := 1924) C dL_law_1924 (q := 1) rfl ?_
          refine g_if_ne (pc := 1926) C dL_law_1926 (tgt := 1941) rfl (fun z544 => ?_) (fun z544 => ?_)
          · replace h := h.2 z544
            refine g_goto (pc := 1941) C dL_law_1941 (tgt := 3049) rfl ?_
            refine g_iinc (pc := 3049) C dL_law_3049 (q := 6) rfl (v2 := a4 + 6) rfl (Nat.le_of_ble_eq_true rfl) (lo' := [(4, .int (a4 + 6)), (6, .int r538), (5, .int r531), (0, .ref b0), (1, .ref (adr x a1)), (2, .ref (adr x a2)), (3, .ref (adr x a3))]) rfl ?_
            refine g_goto (pc := 3052) C dL_law_3052 (tgt := 23) rfl ?_
            refine g_sub [3, 4, 5, 6, 0] rfl ?_
            exact ih _ _ _ _ _ _ _ hb533 h
          · replace h := h.1 z544
            refine g_aload_n (pc := 1929) C dL_law_1929 (q := 5) rfl ?_
            refine g_iconst (pc := 1930) C dL_law_1930 (v := 0) rfl ?_
            obtain ⟨k545, h⟩ := h
            obtain ⟨k546, h⟩ := h
            refine g_lald (pc := 1931) C k545 k546 dL_law_1931 ?_
            refine g_iload (pc := 1932) C dL_law_1932 (q := 0) rfl ?_
            refine g_i2l (pc := 1934) C dL_law_1934 ?_
            refine g_lcmp (pc := 1935) C dL_law_1935 ?_
            refine g_if_eq (pc := 1936) C dL_law_1936 (tgt := 1941) rfl (fun z547 => ?_) (fun z547 => ?_)
            · replace h := h.1 z547
              refine g_goto (pc := 1941) C dL_law_1941 (tgt := 3049) rfl ?_
              refine g_iinc (pc := 3049) C dL_law_3049 (q := 6) rfl (v2 := a4 + 6) rfl (Nat.le_of_ble_eq_true rfl) (lo' := [(4, .int (a4 + 6)), (6, .int r538), (5, .int r531), (0, .ref b0), (1, .ref (adr x a1)), (2, .ref (adr x a2)), (3, .ref (adr x a3))]) rfl ?_
              refine g_goto (pc := 3052) C dL_law_3052 (tgt := 23) rfl ?_
              refine g_sub [3, 4, 5, 6, 0] rfl ?_
              exact ih _ _ _ _ _ _ _ hb533 h
            · replace h := h.2 z547
              refine g_iconst (pc := 1939) C dL_law_1939 (v := 0) rfl ?_
              exact g_lawend (pc := 1940) C hlk hr hb533.1 hb533.2 dL_law_1940 (hK1 _ _ h) hmc
        · replace h := h.2 z543
          refine g_iconst (pc := 1922) C dL_law_1922 (v := 0) rfl ?_
          exact g_lawend (pc := 1923) C hlk hr hb533.1 hb533.2 dL_law_1923 (hK1 _ _ h) hmc
      replace h := h.2 z54
      by_cases z55 : (sc a4.toNatClampNeg) &&& 63 = 31
      · replace h := h.1 z55
        refine g_tabIn (pc := 40) C dL_law_40 (by rw [z55]; decide) (by rw [z55]; decide) (off := 1904) (by rw [z55]; rfl) (tgt := 1944) rfl ?_
        refine g_aload_n (pc := 1944) C dL_law_1944 (q := 1) rfl ?_
        refine g_aload_n (pc := 1945) C dL_law_1945 (q := 0) rfl ?_
        refine g_iload (pc := 1946) C dL_law_1946 (q := 4) rfl ?_
        refine g_iconst (pc := 1948) C dL_law_1948 (v := 1) rfl ?_
        refine g_iadd (pc := 1949) C dL_law_1949 ?_
        obtain ⟨k548, h⟩ := h
        refine g_sld (pc := 1950) C hX hbl hbA k548 dL_law_1950 ?_
        refine g_aload_n (pc := 1951) C dL_law_1951 (q := 0) rfl ?_
        refine g_iload (pc := 1952) C dL_law_1952 (q := 4) rfl ?_
        refine g_iconst (pc := 1954) C dL_law_1954 (v := 2) rfl ?_
        refine g_iadd (pc := 1955) C dL_law_1955 ?_
        obtain ⟨k549, h⟩ := h
        refine g_sld (pc := 1956) C hX hbl hbA k549 dL_law_1956 ?_
        refine g_aload_n (pc := 1957) C dL_law_1957 (q := 3) rfl ?_
        obtain ⟨hb552, h⟩ := h
        refine maL_262 (pc := 1958) C hl h (Nat.le_of_ble_eq_true rfl) (Nat.le_of_ble_eq_true rfl) hb552 dL_law_1958 (fun r550 w551 h => ?_)
        refine g_istore (pc := 1961) C dL_law_1961 (Nat.le_of_ble_eq_true rfl) (lo' := [(5, .int r550), (0, .ref b0), (1, .ref (adr x a1)), (2, .ref (adr x a2)), (3, .ref (adr x a3)), (4, .int a4)]) rfl ?_
        refine g_aload_n (pc := 1963) C dL_law_1963 (q := 3) rfl ?_
        refine g_aload_n (pc := 1964) C dL_law_1964 (q := 1) rfl ?_
        refine g_iload (pc := 1965) C dL_law_1965 (q := 5) rfl ?_
        refine g_iconst (pc := 1967) C dL_law_1967 (v := 1) rfl ?_
        refine g_iadd (pc := 1968) C dL_law_1968 ?_
        obtain ⟨k553, h⟩ := h
        refine g_sld (pc := 1969) C hX hbl hbA k553 dL_law_1969 ?_
        refine g_aload_n (pc := 1970) C dL_law_1970 (q := 1) rfl ?_
        refine g_iload (pc := 1971) C dL_law_1971 (q := 5) rfl ?_
        refine g_iconst (pc := 1973) C dL_law_1973 (v := 2) rfl ?_
        refine g_iadd (pc := 1974) C dL_law_1974 ?_
        obtain ⟨k554, h⟩ := h
        refine g_sld (pc := 1975) C hX hbl hbA k554 dL_law_1975 ?_
        obtain ⟨k555, h⟩ := h
        refine miL_264 (pc := 1976) C k555 h (Nat.le_of_ble_eq_true rfl) (Nat.le_of_ble_eq_true rfl) hb552 dL_law_1976 (fun r556 w557 h => ?_)
        refine g_istore (pc := 1979) C dL_law_1979 (Nat.le_of_ble_eq_true rfl) (lo' := [(6, .int r556), (5, .int r550), (0, .ref b0), (1, .ref (adr x a1)), (2, .ref (adr x a2)), (3, .ref (adr x a3)), (4, .int a4)]) rfl ?_
        refine g_aload_n (pc := 1981) C dL_law_1981 (q := 4) rfl ?_
        obtain ⟨k558, h⟩ := h
        refine miL_159 (pc := 1982) C k558 h (Nat.le_of_ble_eq_true rfl) (Nat.le_of_ble_eq_true rfl) hb552 dL_law_1982 (fun r559 w560 h => ?_)
        refine g_iload (pc := 1985) C dL_law_1985 (q := 1) rfl ?_
        refine g_icmp_eq (pc := 1987) C dL_law_1987 (tgt := 1992) rfl (fun z561 => ?_) (fun z561 => ?_)
        · replace h := h.1 z561
          refine g_iload (pc := 1992) C dL_law_1992 (q := 1) rfl ?_
          refine g_if_ne (pc := 1994) C dL_law_1994 (tgt := 2009) rfl (fun z562 => ?_) (fun z562 => ?_)
          · replace h := h.2 z562
            refine g_goto (pc := 2009) C dL_law_2009 (tgt := 3049) rfl ?_
            refine g_iinc (pc := 3049) C dL_law_3049 (q := 6) rfl (v2 := a4 + 6) rfl (Nat.le_of_ble_eq_true rfl) (lo' := [(4, .int (a4 + 6)), (6, .int r556), (5, .int r550), (0, .ref b0), (1, .ref (adr x a1)), (2, .ref (adr x a2)), (3, .ref (adr x a3))]) rfl ?_
            refine g_goto (pc := 3052) C dL_law_3052 (tgt := 23) rfl ?_
            refine g_sub [3, 4, 5, 6, 0] rfl ?_
            exact ih _ _ _ _ _ _ _ hb552 h
          · replace h := h.1 z562
            refine g_aload_n (pc := 1997) C dL_law_1997 (q := 5) rfl ?_
            refine g_iconst (pc := 1998) C dL_law_1998 (v := 0) rfl ?_
            obtain ⟨k563, h⟩ := h
            obtain ⟨k564, h⟩ := h
            refine g_lald (pc := 1999) C k563 k564 dL_law_1999 ?_
            refine g_iload (pc := 2000) C dL_law_2000 (q := 0) rfl ?_
            refine g_i2l (pc := 2002) C dL_law_2002 ?_
            refine g_lcmp (pc := 2003) C dL_law_2003 ?_
            refine g_if_eq (pc := 2004) C dL_law_2004 (tgt := 2009) rfl (fun z565 => ?_) (fun z565 => ?_)
            · replace h := h.1 z565
              refine g_goto (pc := 2009) C dL_law_2009 (tgt := 3049) rfl ?_
              refine g_iinc (pc := 3049) C dL_law_3049 (q := 6) rfl (v2 := a4 + 6) rfl (Nat.le_of_ble_eq_true rfl) (lo' := [(4, .int (a4 + 6)), (6, .int r556), (5, .int r550), (0, .ref b0), (1, .ref (adr x a1)), (2, .ref (adr x a2)), (3, .ref (adr x a3))]) rfl ?_
              refine g_goto (pc := 3052) C dL_law_3052 (tgt := 23) rfl ?_
              refine g_sub [3, 4, 5, 6, 0] rfl ?_
              exact ih _ _ _ _ _ _ _ hb552 h
            · replace h := h.2 z565
              refine g_iconst (pc := 2007) C dL_law_2007 (v := 0) rfl ?_
              exact g_lawend (pc := 2008) C hlk hr hb552.1 hb552.2 dL_law_2008 (hK1 _ _ h) hmc
        · replace h := h.2 z561
          refine g_iconst (pc := 1990) C dL_law_1990 (v := 0) rfl ?_
          exact g_lawend (pc := 1991) C hlk hr hb552.1 hb552.2 dL_law_1991 (hK1 _ _ h) hmc
      replace h := h.2 z55
      by_cases z56 : (sc a4.toNatClampNeg) &&& 63 = 32
      · replace h := h.1 z56
        refine g_tabIn (pc := 40) C dL_law_40 (by rw [z56]; decide) (by rw [z56]; decide) (off := 1972) (by rw [z56]; rfl) (tgt := 2012) rfl ?_
        refine g_aload_n (pc := 2012) C dL_law_2012 (q := 1) rfl ?_
        refine g_aload_n (pc := 2013) C dL_law_2013 (q := 0) rfl ?_
        refine g_iload (pc := 2014) C dL_law_2014 (q := 4) rfl ?_
        refine g_iconst (pc := 2016) C dL_law_2016 (v := 1) rfl ?_
        refine g_iadd (pc := 2017) C dL_law_2017 ?_
        obtain ⟨k566, h⟩ := h
        refine g_sld (pc := 2018) C hX hbl hbA k566 dL_law_2018 ?_
        refine g_aload_n (pc := 2019) C dL_law_2019 (q := 3) rfl ?_
        obtain ⟨hb569, h⟩ := h
        refine maL_265 (pc := 2020) C hl h (Nat.le_of_ble_eq_true rfl) (Nat.le_of_ble_eq_true rfl) hb569 dL_law_2020 (fun r567 w568 h => ?_)
        refine g_istore (pc := 2023) C dL_law_2023 (Nat.le_of_ble_eq_true rfl) (lo' := [(5, .int r567), (0, .ref b0), (1, .ref (adr x a1)), (2, .ref (adr x a2)), (3, .ref (adr x a3)), (4, .int a4)]) rfl ?_
        refine g_aload_n (pc := 2025) C dL_law_2025 (q := 3) rfl ?_
        refine g_aload_n (pc := 2026) C dL_law_2026 (q := 1) rfl ?_
        refine g_iload (pc := 2027) C dL_law_2027 (q := 5) rfl ?_
        refine g_iconst (pc := 2029) C dL_law_2029 (v := 1) rfl ?_
        refine g_iadd (pc := 2030) C dL_law_2030 ?_
        obtain ⟨k570, h⟩ := h
        refine g_sld (pc := 2031) C hX hbl hbA k570 dL_law_2031 ?_
        obtain ⟨k571, h⟩ := h
        refine miL_267 (pc := 2032) C k571 h (Nat.le_of_ble_eq_true rfl) (Nat.le_of_ble_eq_true rfl) hb569 dL_law_2032 (fun r572 w573 h => ?_)
        refine g_lstore (pc := 2035) C dL_law_2035 (Nat.le_of_ble_eq_true rfl) (lo' := [(6, .long r572), (5, .int r567), (0, .ref b0), (1, .ref (adr x a1)), (2, .ref (adr x a2)), (3, .ref (adr x a3)), (4, .int a4)]) rfl ?_
        refine g_aload_n (pc := 2037) C dL_law_2037 (q := 4) rfl ?_
        obtain ⟨k574, h⟩ := h
        refine miL_159 (pc := 2038) C k574 h (Nat.le_of_ble_eq_true rfl) (Nat.le_of_ble_eq_true rfl) hb569 dL_law_2038 (fun r575 w576 h => ?_)
        refine g_iload (pc := 2041) C dL_law_2041 (q := 1) rfl ?_
        refine g_icmp_eq (pc := 2043) C dL_law_2043 (tgt := 2048) rfl (fun z577 => ?_) (fun z577 => ?_)
        · replace h := h.1 z577
          refine g_iload (pc := 2048) C dL_law_2048 (q := 1) rfl ?_
          refine g_if_ne (pc := 2050) C dL_law_2050 (tgt := 2064) rfl (fun z578 => ?_) (fun z578 => ?_)
          · replace h := h.2 z578
            refine g_goto (pc := 2064) C dL_law_2064 (tgt := 3049) rfl ?_
            refine g_iinc (pc := 3049) C dL_law_3049 (q := 6) rfl (v2 := a4 + 6) rfl (Nat.le_of_ble_eq_true rfl) (lo' := [(4, .int (a4 + 6)), (6, .long r572), (5, .int r567), (0, .ref b0), (1, .ref (adr x a1)), (2, .ref (adr x a2)), (3, .ref (adr x a3))]) rfl ?_
            refine g_goto (pc := 3052) C dL_law_3052 (tgt := 23) rfl ?_
            refine g_sub [3, 4, 5, 6, 0] rfl ?_
            exact ih _ _ _ _ _ _ _ hb569 h
          · replace h := h.1 z578
            refine g_aload_n (pc := 2053) C dL_law_2053 (q := 5) rfl ?_
            refine g_iconst (pc := 2054) C dL_law_2054 (v := 0) rfl ?_
            obtain ⟨k579, h⟩ := h
            obtain ⟨k580, h⟩ := h
            refine g_lald (pc := 2055) C k579 k580 dL_law_2055 ?_
            refine g_lload (pc := 2056) C dL_law_2056 (q := 0) rfl ?_
            refine g_lcmp (pc := 2058) C dL_law_2058 ?_
            refine g_if_eq (pc := 2059) C dL_law_2059 (tgt := 2064) rfl (fun z581 => ?_) (fun z581 => ?_)
            · replace h := h.1 z581
              refine g_goto (pc := 2064) C dL_law_2064 (tgt := 3049) rfl ?_
              refine g_iinc (pc := 3049) C dL_law_3049 (q := 6) rfl (v2 := a4 + 6) rfl (Nat.le_of_ble_eq_true rfl) (lo' := [(4, .int (a4 + 6)), (6, .long r572), (5, .int r567), (0, .ref b0), (1, .ref (adr x a1)), (2, .ref (adr x a2)), (3, .ref (adr x a3))]) rfl ?_
              refine g_goto (pc := 3052) C dL_law_3052 (tgt := 23) rfl ?_
              refine g_sub [3, 4, 5, 6, 0] rfl ?_
              exact ih _ _ _ _ _ _ _ hb569 h
            · replace h := h.2 z581
              refine g_iconst (pc := 2062) C dL_law_2062 (v := 0) rfl ?_
              exact g_lawend (pc := 2063) C hlk hr hb569.1 hb569.2 dL_law_2063 (hK1 _ _ h) hmc
        · replace h := h.2 z577
          refine g_iconst (pc := 2046) C dL_law_2046 (v := 0) rfl ?_
          exact g_lawend (pc := 2047) C hlk hr hb569.1 hb569.2 dL_law_2047 (hK1 _ _ h) hmc
      replace h := h.2 z56
      by_cases z57 : (sc a4.toNatClampNeg) &&& 63 = 33
      · replace h := h.1 z57
        refine g_tabIn (pc := 40) C dL_law_40 (by rw [z57]; decide) (by rw [z57]; decide) (off := 2027) (by rw [z57]; rfl) (tgt := 2067) rfl ?_
        refine g_aload_n (pc := 2067) C dL_law_2067 (q := 1) rfl ?_
        refine g_aload_n (pc := 2068) C dL_law_2068 (q := 0) rfl ?_
        refine g_iload (pc := 2069) C dL_law_2069 (q := 4) rfl ?_
        refine g_iconst (pc := 2071) C dL_law_2071 (v := 1) rfl ?_
        refine g_iadd (pc := 2072) C dL_law_2072 ?_
        obtain ⟨k582, h⟩ := h
        refine g_sld (pc := 2073) C hX hbl hbA k582 dL_law_2073 ?_
        refine g_aload_n (pc := 2074) C dL_law_2074 (q := 0) rfl ?_
        refine g_iload (pc := 2075) C dL_law_2075 (q := 4) rfl ?_
        refine g_iconst (pc := 2077) C dL_law_2077 (v := 2) rfl ?_
        refine g_iadd (pc := 2078) C dL_law_2078 ?_
        obtain ⟨k583, h⟩ := h
        refine g_sld (pc := 2079) C hX hbl hbA k583 dL_law_2079 ?_
        refine g_aload_n (pc := 2080) C dL_law_2080 (q := 3) rfl ?_
        obtain ⟨hb586, h⟩ := h
        refine maL_268 (pc := 2081) C hl h (Nat.le_of_ble_eq_true rfl) (Nat.le_of_ble_eq_true rfl) hb586 dL_law_2081 (fun r584 w585 h => ?_)
        refine g_istore (pc := 2084) C dL_law_2084 (Nat.le_of_ble_eq_true rfl) (lo' := [(5, .int r584), (0, .ref b0), (1, .ref (adr x a1)), (2, .ref (adr x a2)), (3, .ref (adr x a3)), (4, .int a4)]) rfl ?_
        refine g_aload_n (pc := 2086) C dL_law_2086 (q := 3) rfl ?_
        refine g_aload_n (pc := 2087) C dL_law_2087 (q := 1) rfl ?_
        refine g_iload (pc := 2088) C dL_law_2088 (q := 5) rfl ?_
        refine g_iconst (pc := 2090) C dL_law_2090 (v := 1) rfl ?_
        refine g_iadd (pc := 2091) C dL_law_2091 ?_
        obtain ⟨k587, h⟩ := h
        refine g_sld (pc := 2092) C hX hbl hbA k587 dL_law_2092 ?_
        refine g_aload_n (pc := 2093) C dL_law_2093 (q := 1) rfl ?_
        refine g_iload (pc := 2094) C dL_law_2094 (q := 5) rfl ?_
        refine g_iconst (pc := 2096) C dL_law_2096 (v := 2) rfl ?_
        refine g_iadd (pc := 2097) C dL_law_2097 ?_
        obtain ⟨k588, h⟩ := h
        refine g_sld (pc := 2098) C hX hbl hbA k588 dL_law_2098 ?_
        obtain ⟨k589, h⟩ := h
        refine miL_270 (pc := 2099) C k589 h (Nat.le_of_ble_eq_true rfl) (Nat.le_of_ble_eq_true rfl) hb586 dL_law_2099 (fun r590 w591 h => ?_)
        refine g_istore (pc := 2102) C dL_law_2102 (Nat.le_of_ble_eq_true rfl) (lo' := [(6, .int r590), (5, .int r584), (0, .ref b0), (1, .ref (adr x a1)), (2, .ref (adr x a2)), (3, .ref (adr x a3)), (4, .int a4)]) rfl ?_
        refine g_aload_n (pc := 2104) C dL_law_2104 (q := 4) rfl ?_
        obtain ⟨k592, h⟩ := h
        refine miL_159 (pc := 2105) C k592 h (Nat.le_of_ble_eq_true rfl) (Nat.le_of_ble_eq_true rfl) hb586 dL_law_2105 (fun r593 w594 h => ?_)
        refine g_iload (pc := 2108) C dL_law_2108 (q := 1) rfl ?_
        refine g_icmp_eq (pc := 2110) C dL_law_2110 (tgt := 2115) rfl (fun z595 => ?_) (fun z595 => ?_)
        · replace h := h.1 z595
          refine g_iload (pc := 2115) C dL_law_2115 (q := 1) rfl ?_
          refine g_if_ne (pc := 2117) C dL_law_2117 (tgt := 2132) rfl (fun z596 => ?_) (fun z596 => ?_)
          · replace h := h.2 z596
            refine g_goto (pc := 2132) C dL_law_2132 (tgt := 3049) rfl ?_
            refine g_iinc (pc := 3049) C dL_law_3049 (q := 6) rfl (v2 := a4 + 6) rfl (Nat.le_of_ble_eq_true rfl) (lo' := [(4, .int (a4 + 6)), (6, .int r590), (5, .int r584), (0, .ref b0), (1, .ref (adr x a1)), (2, .ref (adr x a2)), (3, .ref (adr x a3))]) rfl ?_
            refine g_goto (pc := 3052) C dL_law_3052 (tgt := 23) rfl ?_
            refine g_sub [3, 4, 5, 6, 0] rfl ?_
            exact ih _ _ _ _ _ _ _ hb586 h
          · replace h := h.1 z596
            refine g_aload_n (pc := 2120) C dL_law_2120 (q := 5) rfl ?_
            refine g_iconst (pc := 2121) C dL_law_2121 (v := 0) rfl ?_
            obtain ⟨k597, h⟩ := h
            obtain ⟨k598, h⟩ := h
            refine g_lald (pc := 2122) C k597 k598 dL_law_2122 ?_
            refine g_iload (pc := 2123) C dL_law_2123 (q := 0) rfl ?_
            refine g_i2l (pc := 2125) C dL_law_2125 ?_
            refine g_lcmp (pc := 2126) C dL_law_2126 ?_
            refine g_if_eq (pc := 2127) C dL_law_2127 (tgt := 2132) rfl (fun z599 => ?_) (fun z599 => ?_)
            · replace h := h.1 z599
              refine g_goto (pc := 2132) C dL_law_2132 (tgt := 3049) rfl ?_
              refine g_iinc (pc := 3049) C dL_law_3049 (q := 6) rfl (v2 := a4 + 6) rfl (Nat.le_of_ble_eq_true rfl) (lo' := [(4, .int (a4 + 6)), (6, .int r590), (5, .int r584), (0, .ref b0), (1, .ref (adr x a1)), (2, .ref (adr x a2)), (3, .ref (adr x a3))]) rfl ?_
              refine g_goto (pc := 3052) C dL_law_3052 (tgt := 23) rfl ?_
              refine g_sub [3, 4, 5, 6, 0] rfl ?_
              exact ih _ _ _ _ _ _ _ hb586 h
            · replace h := h.2 z599
              refine g_iconst (pc := 2130) C dL_law_2130 (v := 0) rfl ?_
              exact g_lawend (pc := 2131) C hlk hr hb586.1 hb586.2 dL_law_2131 (hK1 _ _ h) hmc
        · replace h := h.2 z595
          refine g_iconst (pc := 2113) C dL_law_2113 (v := 0) rfl ?_
          exact g_lawend (pc := 2114) C hlk hr hb586.1 hb586.2 dL_law_2114 (hK1 _ _ h) hmc
      replace h := h.2 z57
      by_cases z58 : (sc a4.toNatClampNeg) &&& 63 = 34
      · replace h := h.1 z58
        refine g_tabIn (pc := 40) C dL_law_40 (by rw [z58]; decide) (by rw [z58]; decide) (off := 2095) (by rw [z58]; rfl) (tgt := 2135) rfl ?_
        refine g_aload_n (pc := 2135) C dL_law_2135 (q := 1) rfl ?_
        refine g_aload_n (pc := 2136) C dL_law_2136 (q := 0) rfl ?_
        refine g_iload (pc := 2137) C dL_law_2137 (q := 4) rfl ?_
        refine g_iconst (pc := 2139) C dL_law_2139 (v := 1) rfl ?_
        refine g_iadd (pc := 2140) C dL_law_2140 ?_
        obtain ⟨k600, h⟩ := h
        refine g_sld (pc := 2141) C hX hbl hbA k600 dL_law_2141 ?_
        refine g_aload_n (pc := 2142) C dL_law_2142 (q := 3) rfl ?_
        obtain ⟨hb603, h⟩ := h
        refine maL_271 (pc := 2143) C hl h (Nat.le_of_ble_eq_true rfl) (Nat.le_of_ble_eq_true rfl) hb603 dL_law_2143 (fun r601 w602 h => ?_)
        refine g_istore (pc := 2146) C dL_law_2146 (Nat.le_of_ble_eq_true rfl) (lo' := [(5, .int r601), (0, .ref b0), (1, .ref (adr x a1)), (2, .ref (adr x a2)), (3, .ref (adr x a3)), (4, .int a4)]) rfl ?_
        refine g_aload_n (pc := 2148) C dL_law_2148 (q := 3) rfl ?_
        refine g_aload_n (pc := 2149) C dL_law_2149 (q := 1) rfl ?_
        refine g_iload (pc := 2150) C dL_law_2150 (q := 5) rfl ?_
        refine g_iconst (pc := 2152) C dL_law_2152 (v := 1) rfl ?_
        refine g_iadd (pc := 2153) C dL_law_2153 ?_
        obtain ⟨k604, h⟩ := h
        refine g_sld (pc := 2154) C hX hbl hbA k604 dL_law_2154 ?_
        obtain ⟨k605, h⟩ := h
        refine miL_273 (pc := 2155) C k605 h (Nat.le_of_ble_eq_true rfl) (Nat.le_of_ble_eq_true rfl) hb603 dL_law_2155 (fun r606 w607 h => ?_)
        refine g_istore (pc := 2158) C dL_law_2158 (Nat.le_of_ble_eq_true rfl) (lo' := [(6, .int r606), (5, .int r601), (0, .ref b0), (1, .ref (adr x a1)), (2, .ref (adr x a2)), (3, .ref (adr x a3)), (4, .int a4)]) rfl ?_
        refine g_aload_n (pc := 2160) C dL_law_2160 (q := 4) rfl ?_
        obtain ⟨k608, h⟩ := h
        refine miL_159 (pc := 2161) C k608 h (Nat.le_of_ble_eq_true rfl) (Nat.le_of_ble_eq_true rfl) hb603 dL_law_2161 (fun r609 w610 h => ?_)
        refine g_iload (pc := 2164) C dL_law_2164 (q := 1) rfl ?_
        refine g_icmp_eq (pc := 2166) C dL_law_2166 (tgt := 2171) rfl (fun z611 => ?_) (fun z611 => ?_)
        · replace h := h.1 z611
          refine g_iload (pc := 2171) C dL_law_2171 (q := 1) rfl ?_
          refine g_if_ne (pc := 2173) C dL_law_2173 (tgt := 2188) rfl (fun z612 => ?_) (fun z612 => ?_)
          · replace h := h.2 z612
            refine g_goto (pc := 2188) C dL_law_2188 (tgt := 3049) rfl ?_
            refine g_iinc (pc := 3049) C dL_law_3049 (q := 6) rfl (v2 := a4 + 6) rfl (Nat.le_of_ble_eq_true rfl) (lo' := [(4, .int (a4 + 6)), (6, .int r606), (5, .int r601), (0, .ref b0), (1, .ref (adr x a1)), (2, .ref (adr x a2)), (3, .ref (adr x a3))]) rfl ?_
            refine g_goto (pc := 3052) C dL_law_3052 (tgt := 23) rfl ?_
            refine g_sub [3, 4, 5, 6, 0] rfl ?_
            exact ih _ _ _ _ _ _ _ hb603 h
          · replace h := h.1 z612
            refine g_aload_n (pc := 2176) C dL_law_2176 (q := 5) rfl ?_
            refine g_iconst (pc := 2177) C dL_law_2177 (v := 0) rfl ?_
            obtain ⟨k613, h⟩ := h
            obtain ⟨k614, h⟩ := h
            refine g_lald (pc := 2178) C k613 k614 dL_law_2178 ?_
            refine g_iload (pc := 2179) C dL_law_2179 (q := 0) rfl ?_
            refine g_i2l (pc := 2181) C dL_law_2181 ?_
            refine g_lcmp (pc := 2182) C dL_law_2182 ?_
            refine g_if_eq (pc := 2183) C dL_law_2183 (tgt := 2188) rfl (fun z615 => ?_) (fun z615 => ?_)
            · replace h := h.1 z615
              refine g_goto (pc := 2188) C dL_law_2188 (tgt := 3049) rfl ?_
              refine g_iinc (pc := 3049) C dL_law_3049 (q := 6) rfl (v2 := a4 + 6) rfl (Nat.le_of_ble_eq_true rfl) (lo' := [(4, .int (a4 + 6)), (6, .int r606), (5, .int r601), (0, .ref b0), (1, .ref (adr x a1)), (2, .ref (adr x a2)), (3, .ref (adr x a3))]) rfl ?_
              refine g_goto (pc := 3052) C dL_law_3052 (tgt := 23) rfl ?_
              refine g_sub [3, 4, 5, 6, 0] rfl ?_
              exact ih _ _ _ _ _ _ _ hb603 h
            · replace h := h.2 z615
              refine g_iconst (pc := 2186) C dL_law_2186 (v := 0) rfl ?_
              exact g_lawend (pc := 2187) C hlk hr hb603.1 hb603.2 dL_law_2187 (hK1 _ _ h) hmc
        · replace h := h.2 z611
          refine g_iconst (pc := 2169) C dL_law_2169 (v := 0) rfl ?_
          exact g_lawend (pc := 2170) C hlk hr hb603.1 hb603.2 dL_law_2170 (hK1 _ _ h) hmc
      replace h := h.2 z58
      by_cases z59 : (sc a4.toNatClampNeg) &&& 63 = 35
      · replace h := h.1 z59
        refine g_tabIn (pc := 40) C dL_law_40 (by rw [z59]; decide) (by rw [z59]; decide) (off := 2151) (by rw [z59]; rfl) (tgt := 2191) rfl ?_
        refine g_aload_n (pc := 2191) C dL_law_2191 (q := 1) rfl ?_
        refine g_aload_n (pc := 2192) C dL_law_2192 (q := 0) rfl ?_
        refine g_iload (pc := 2193) C dL_law_2193 (q := 4) rfl ?_
        refine g_iconst (pc := 2195) C dL_law_2195 (v := 1) rfl ?_
        refine g_iadd (pc := 2196) C dL_law_2196 ?_
        obtain ⟨k616, h⟩ := h
        refine g_sld (pc := 2197) C hX hbl hbA k616 dL_law_2197 ?_
        refine g_aload_n (pc := 2198) C dL_law_2198 (q := 3) rfl ?_
        obtain ⟨hb619, h⟩ := h
        refine maL_274 (pc := 2199) C hl h (Nat.le_of_ble_eq_true rfl) (Nat.le_of_ble_eq_true rfl) hb619 dL_law_2199 (fun r617 w618 h => ?_)
        refine g_istore (pc := 2202) C dL_law_2202 (Nat.le_of_ble_eq_true rfl) (lo' := [(5, .int r617), (0, .ref b0), (1, .ref (adr x a1)), (2, .ref (adr x a2)), (3, .ref (adr x a3)), (4, .int a4)]) rfl ?_
        refine g_aload_n (pc := 2204) C dL_law_2204 (q := 3) rfl ?_
        refine g_aload_n (pc := 2205) C dL_law_2205 (q := 1) rfl ?_
        refine g_iload (pc := 2206) C dL_law_2206 (q := 5) rfl ?_
        refine g_iconst (pc := 2208) C dL_law_2208 (v := 1) rfl ?_
        refine g_iadd (pc := 2209) C dL_law_2209 ?_
        obtain ⟨k620, h⟩ := h
        refine g_sld (pc := 2210) C hX hbl hbA k620 dL_law_2210 ?_
        obtain ⟨k621, h⟩ := h
        refine miL_276 (pc := 2211) C k621 h (Nat.le_of_ble_eq_true rfl) (Nat.le_of_ble_eq_true rfl) hb619 dL_law_2211 (fun r622 w623 h => ?_)
        refine g_istore (pc := 2214) C dL_law_2214 (Nat.le_of_ble_eq_true rfl) (lo' := [(6, .int r622), (5, .int r617), (0, .ref b0), (1, .ref (adr x a1)), (2, .ref (adr x a2)), (3, .ref (adr x a3)), (4, .int a4)]) rfl ?_
        refine g_aload_n (pc := 2216) C dL_law_2216 (q := 4) rfl ?_
        obtain ⟨k624, h⟩ := h
        refine miL_159 (pc := 2217) C k624 h (Nat.le_of_ble_eq_true rfl) (Nat.le_of_ble_eq_true rfl) hb619 dL_law_2217 (fun r625 w626 h => ?_)
        refine g_iload (pc := 2220) C dL_law_2220 (q := 1) rfl ?_
        refine g_icmp_eq (pc := 2222) C dL_law_2222 (tgt := 2227) rfl (fun z627 => ?_) (fun z627 => ?_)
        · replace h := h.1 z627
          refine g_iload (pc := 2227) C dL_law_2227 (q := 1) rfl ?_
          refine g_if_ne (pc := 2229) C dL_law_2229 (tgt := 2244) rfl (fun z628 => ?_) (fun z628 => ?_)
          · replace h := h.2 z628
            refine g_goto (pc := 2244) C dL_law_2244 (tgt := 3049) rfl ?_
            refine g_iinc (pc := 3049) C dL_law_3049 (q := 6) rfl (v2 := a4 + 6) rfl (Nat.le_of_ble_eq_true rfl) (lo' := [(4, .int (a4 + 6)), (6, .int r622), (5, .int r617), (0, .ref b0), (1, .ref (adr x a1)), (2, .ref (adr x a2)), (3, .ref (adr x a3))]) rfl ?_
            refine g_goto (pc := 3052) C dL_law_3052 (tgt := 23) rfl ?_
            refine g_sub [3, 4, 5, 6, 0] rfl ?_
            exact ih _ _ _ _ _ _ _ hb619 h
          · replace h := h.1 z628
            refine g_aload_n (pc := 2232) C dL_law_2232 (q := 5) rfl ?_
            refine g_iconst (pc := 2233) C dL_law_2233 (v := 0) rfl ?_
            obtain ⟨k629, h⟩ := h
            obtain ⟨k630, h⟩ := h
            refine g_lald (pc := 2234) C k629 k630 dL_law_2234 ?_
            refine g_iload (pc := 2235) C dL_law_2235 (q := 0) rfl ?_
            refine g_i2l (pc := 2237) C dL_law_2237 ?_
            refine g_lcmp (pc := 2238) C dL_law_2238 ?_
            refine g_if_eq (pc := 2239) C dL_law_2239 (tgt := 2244) rfl (fun z631 => ?_) (fun z631 => ?_)
            · replace h := h.1 z631
              refine g_goto (pc := 2244) C dL_law_2244 (tgt := 3049) rfl ?_
              refine g_iinc (pc := 3049) C dL_law_3049 (q := 6) rfl (v2 := a4 + 6) rfl (Nat.le_of_ble_eq_true rfl) (lo' := [(4, .int (a4 + 6)), (6, .int r622), (5, .int r617), (0, .ref b0), (1, .ref (adr x a1)), (2, .ref (adr x a2)), (3, .ref (adr x a3))]) rfl ?_
              refine g_goto (pc := 3052) C dL_law_3052 (tgt := 23) rfl ?_
              refine g_sub [3, 4, 5, 6, 0] rfl ?_
              exact ih _ _ _ _ _ _ _ hb619 h
            · replace h := h.2 z631
              refine g_iconst (pc := 2242) C dL_law_2242 (v := 0) rfl ?_
              exact g_lawend (pc := 2243) C hlk hr hb619.1 hb619.2 dL_law_2243 (hK1 _ _ h) hmc
        · replace h := h.2 z627
          refine g_iconst (pc := 2225) C dL_law_2225 (v := 0) rfl ?_
          exact g_lawend (pc := 2226) C hlk hr hb619.1 hb619.2 dL_law_2226 (hK1 _ _ h) hmc
      replace h := h.2 z59
      by_cases z60 : (sc a4.toNatClampNeg) &&& 63 = 36
      · replace h := h.1 z60
        refine g_tabIn (pc := 40) C dL_law_40 (by rw [z60]; decide) (by rw [z60]; decide) (off := 2207) (by rw [z60]; rfl) (tgt := 2247) rfl ?_
        refine g_aload_n (pc := 2247) C dL_law_2247 (q := 1) rfl ?_
        obtain ⟨k632, h⟩ := h
        refine miL_277 (pc := 2248) C k632 h (Nat.le_of_ble_eq_true rfl) (Nat.le_of_ble_eq_true rfl) hb dL_law_2248 (fun r633 w634 h => ?_)
        refine g_aload_n (pc := 2251) C dL_law_2251 (q := 2) rfl ?_
        obtain ⟨k635, h⟩ := h
        refine miL_280 (pc := 2252) C k635 h (Nat.le_of_ble_eq_true rfl) (Nat.le_of_ble_eq_true rfl) hb dL_law_2252 (fun r636 w637 h => ?_)
        refine g_icmp_eq (pc := 2255) C dL_law_2255 (tgt := 3049) rfl (fun z638 => ?_) (fun z638 => ?_)
        · replace h := h.1 z638
          refine g_iinc (pc := 3049) C dL_law_3049 (q := 4) rfl (v2 := a4 + 6) rfl (Nat.le_of_ble_eq_true rfl) (lo' := [(4, .int (a4 + 6)), (0, .ref b0), (1, .ref (adr x a1)), (2, .ref (adr x a2)), (3, .ref (adr x a3))]) rfl ?_
          refine g_goto (pc := 3052) C dL_law_3052 (tgt := 23) rfl ?_
          refine g_sub [1, 2, 3, 4, 0] rfl ?_
          exact ih _ _ _ _ _ _ _ hb h
        · replace h := h.2 z638
          refine g_iconst (pc := 2258) C dL_law_2258 (v := 0) rfl ?_
          exact g_lawend (pc := 2259) C hlk hr hb.1 hb.2 dL_law_2259 (hK1 _ _ h) hmc
      replace h := h.2 z60
      by_cases z61 : (sc a4.toNatClampNeg) &&& 63 = 37
      · replace h := h.1 z61
        refine g_tabIn (pc := 40) C dL_law_40 (by rw [z61]; decide) (by rw [z61]; decide) (off := 2220) (by rw [z61]; rfl) (tgt := 2260) rfl ?_
        refine g_aload_n (pc := 2260) C dL_law_2260 (q := 1) rfl ?_
        refine g_aload_n (pc := 2261) C dL_law_2261 (q := 0) rfl ?_
        refine g_iload (pc := 2262) C dL_law_2262 (q := 4) rfl ?_
        refine g_iconst (pc := 2264) C dL_law_2264 (v := 1) rfl ?_
        refine g_iadd (pc := 2265) C dL_law_2265 ?_
        obtain ⟨k639, h⟩ := h
        refine g_sld (pc := 2266) C hX hbl hbA k639 dL_law_2266 ?_
        refine g_aload_n (pc := 2267) C dL_law_2267 (q := 0) rfl ?_
        refine g_iload (pc := 2268) C dL_law_2268 (q := 4) rfl ?_
        refine g_iconst (pc := 2270) C dL_law_2270 (v := 2) rfl ?_
        refine g_iadd (pc := 2271) C dL_law_2271 ?_
        obtain ⟨k640, h⟩ := h
        refine g_sld (pc := 2272) C hX hbl hbA k640 dL_law_2272 ?_
        refine g_aload_n (pc := 2273) C dL_law_2273 (q := 3) rfl ?_
        obtain ⟨hb643, h⟩ := h
        refine maL_281 (pc := 2274) C hl h (Nat.le_of_ble_eq_true rfl) (Nat.le_of_ble_eq_true rfl) hb643 dL_law_2274 (fun r641 w642 h => ?_)
        refine g_istore (pc := 2277) C dL_law_2277 (Nat.le_of_ble_eq_true rfl) (lo' := [(5, .int r641), (0, .ref b0), (1, .ref (adr x a1)), (2, .ref (adr x a2)), (3, .ref (adr x a3)), (4, .int a4)]) rfl ?_
        refine g_aload_n (pc := 2279) C dL_law_2279 (q := 3) rfl ?_
        refine g_aload_n (pc := 2280) C dL_law_2280 (q := 1) rfl ?_
        refine g_iload (pc := 2281) C dL_law_2281 (q := 5) rfl ?_
        refine g_iconst (pc := 2283) C dL_law_2283 (v := 1) rfl ?_
        refine g_iadd (pc := 2284) C dL_law_2284 ?_
        obtain ⟨k644, h⟩ := h
        refine g_sld (pc := 2285) C hX hbl hbA k644 dL_law_2285 ?_
        refine g_aload_n (pc := 2286) C dL_law_2286 (q := 1) rfl ?_
        refine g_iload (pc := 2287) C dL_law_2287 (q := 5) rfl ?_
        refine g_iconst (pc := 2289) C dL_law_2289 (v := 2) rfl ?_
        refine g_iadd (pc := 2290) C dL_law_2290 ?_
        obtain ⟨k645, h⟩ := h
        refine g_sld (pc := 2291) C hX hbl hbA k645 dL_law_2291 ?_
        obtain ⟨k646, h⟩ := h
        refine miL_283 (pc := 2292) C k646 h (Nat.le_of_ble_eq_true rfl) (Nat.le_of_ble_eq_true rfl) hb643 dL_law_2292 (fun r647 w648 h => ?_)
        refine g_istore (pc := 2295) C dL_law_2295 (Nat.le_of_ble_eq_true rfl) (lo' := [(6, .int r647), (5, .int r641), (0, .ref b0), (1, .ref (adr x a1)), (2, .ref (adr x a2)), (3, .ref (adr x a3)), (4, .int a4)]) rfl ?_
        refine g_aload_n (pc := 2297) C dL_law_2297 (q := 4) rfl ?_
        obtain ⟨k649, h⟩ := h
        refine miL_159 (pc := 2298) C k649 h (Nat.le_of_ble_eq_true rfl) (Nat.le_of_ble_eq_true rfl) hb643 dL_law_2298 (fun r650 w651 h => ?_)
        refine g_iload (pc := 2301) C dL_law_2301 (q := 1) rfl ?_
        refine g_icmp_eq (pc := 2303) C dL_law_2303 (tgt := 2308) rfl (fun z652 => ?_) (fun z652 => ?_)
        · replace h := h.1 z652
          refine g_iload (pc := 2308) C dL_law_2308 (q := 1) rfl ?_
          refine g_if_ne (pc := 2310) C dL_law_2310 (tgt := 2325) rfl (fun z653 => ?_) (fun z653 => ?_)
          · replace h := h.2 z653
            refine g_goto (pc := 2325) C dL_law_2325 (tgt := 3049) rfl ?_
            refine g_iinc (pc := 3049) C dL_law_3049 (q := 6) rfl (v2 := a4 + 6) rfl (Nat.le_of_ble_eq_true rfl) (lo' := [(4, .int (a4 + 6)), (6, .int r647), (5, .int r641), (0, .ref b0), (1, .ref (adr x a1)), (2, .ref (adr x a2)), (3, .ref (adr x a3))]) rfl ?_
            refine g_goto (pc := 3052) C dL_law_3052 (tgt := 23) rfl ?_
            refine g_sub [3, 4, 5, 6, 0] rfl ?_
            exact ih _ _ _ _ _ _ _ hb643 h
          · replace h := h.1 z653
            refine g_aload_n (pc := 2313) C dL_law_2313 (q := 5) rfl ?_
            refine g_iconst (pc := 2314) C dL_law_2314 (v := 0) rfl ?_
            obtain ⟨k654, h⟩ := h
            obtain ⟨k655, h⟩ := h
            refine g_lald (pc := 2315) C k654 k655 dL_law_2315 ?_
            refine g_iload (pc := 2316) C dL_law_2316 (q := 0) rfl ?_
            refine g_i2l (pc := 2318) C dL_law_2318 ?_
            refine g_lcmp (pc := 2319) C dL_law_2319 ?_
            refine g_if_eq (pc := 2320) C dL_law_2320 (tgt := 2325) rfl (fun z656 => ?_) (fun z656 => ?_)
            · replace h := h.1 z656
              refine g_goto (pc := 2325) C dL_law_2325 (tgt := 3049) rfl ?_
              refine g_iinc (pc := 3049) C dL_law_3049 (q := 6) rfl (v2 := a4 + 6) rfl (Nat.le_of_ble_eq_true rfl) (lo' := [(4, .int (a4 + 6)), (6, .int r647), (5, .int r641), (0, .ref b0), (1, .ref (adr x a1)), (2, .ref (adr x a2)), (3, .ref (adr x a3))]) rfl ?_
              refine g_goto (pc := 3052) C dL_law_3052 (tgt := 23) rfl ?_
              refine g_sub [3, 4, 5, 6, 0] rfl ?_
              exact ih _ _ _ _ _ _ _ hb643 h
            · replace h := h.2 z656
              refine g_iconst (pc := 2323) C dL_law_2323 (v := 0) rfl ?_
              exact g_lawend (pc := 2324) C hlk hr hb643.1 hb643.2 dL_law_2324 (hK1 _ _ h) hmc
        · replace h := h.2 z652
          refine g_iconst (pc := 2306) C dL_law_2306 (v := 0) rfl ?_
          exact g_lawend (pc := 2307) C hlk hr hb643.1 hb643.2 dL_law_2307 (hK1 _ _ h) hmc
      replace h := h.2 z61
      by_cases z62 : (sc a4.toNatClampNeg) &&& 63 = 38
      · replace h := h.1 z62
        refine g_tabIn (pc := 40) C dL_law_40 (by rw [z62]; decide) (by rw [z62]; decide) (off := 2288) (by rw [z62]; rfl) (tgt := 2328) rfl ?_
        refine g_aload_n (pc := 2328) C dL_law_2328 (q := 1) rfl ?_
        refine g_aload_n (pc := 2329) C dL_law_2329 (q := 0) rfl ?_
        refine g_iload (pc := 2330) C dL_law_2330 (q := 4) rfl ?_
        refine g_iconst (pc := 2332) C dL_law_2332 (v := 1) rfl ?_
        refine g_iadd (pc := 2333) C dL_law_2333 ?_
        obtain ⟨k657, h⟩ := h
        refine g_sld (pc := 2334) C hX hbl hbA k657 dL_law_2334 ?_
        refine g_aload_n (pc := 2335) C dL_law_2335 (q := 0) rfl ?_
        refine g_iload (pc := 2336) C dL_law_2336 (q := 4) rfl ?_
        refine g_iconst (pc := 2338) C dL_law_2338 (v := 2) rfl ?_
        refine g_iadd (pc := 2339) C dL_law_2339 ?_
        obtain ⟨k658, h⟩ := h
        refine g_sld (pc := 2340) C hX hbl hbA k658 dL_law_2340 ?_
        refine g_aload_n (pc := 2341) C dL_law_2341 (q := 3) rfl ?_
        obtain ⟨hb661, h⟩ := h
        refine maL_284 (pc := 2342) C hl h (Nat.le_of_ble_eq_true rfl) (Nat.le_of_ble_eq_true rfl) hb661 dL_law_2342 (fun r659 w660 h => ?_)
        refine g_istore (pc := 2345) C dL_law_2345 (Nat.le_of_ble_eq_true rfl) (lo' := [(5, .int r659), (0, .ref b0), (1, .ref (adr x a1)), (2, .ref (adr x a2)), (3, .ref (adr x a3)), (4, .int a4)]) rfl ?_
        refine g_aload_n (pc := 2347) C dL_law_2347 (q := 3) rfl ?_
        refine g_aload_n (pc := 2348) C dL_law_2348 (q := 1) rfl ?_
        refine g_iload (pc := 2349) C dL_law_2349 (q := 5) rfl ?_
        refine g_iconst (pc := 2351) C dL_law_2351 (v := 1) rfl ?_
        refine g_iadd (pc := 2352) C dL_law_2352 ?_
        obtain ⟨k662, h⟩ := h
        refine g_sld (pc := 2353) C hX hbl hbA k662 dL_law_2353 ?_
        refine g_aload_n (pc := 2354) C dL_law_2354 (q := 1) rfl ?_
        refine g_iload (pc := 2355) C dL_law_2355 (q := 5) rfl ?_
        refine g_iconst (pc := 2357) C dL_law_2357 (v := 2) rfl ?_
        refine g_iadd (pc := 2358) C dL_law_2358 ?_
        obtain ⟨k663, h⟩ := h
        refine g_sld (pc := 2359) C hX hbl hbA k663 dL_law_2359 ?_
        obtain ⟨k664, h⟩ := h
        refine miL_286 (pc := 2360) C k664 h (Nat.le_of_ble_eq_true rfl) (Nat.le_of_ble_eq_true rfl) hb661 dL_law_2360 (fun r665 w666 h => ?_)
        refine g_istore (pc := 2363) C dL_law_2363 (Nat.le_of_ble_eq_true rfl) (lo' := [(6, .int r665), (5, .int r659), (0, .ref b0), (1, .ref (adr x a1)), (2, .ref (adr x a2)), (3, .ref (adr x a3)), (4, .int a4)]) rfl ?_
        refine g_aload_n (pc := 2365) C dL_law_2365 (q := 4) rfl ?_
        obtain ⟨k667, h⟩ := h
        refine miL_159 (pc := 2366) C k667 h (Nat.le_of_ble_eq_true rfl) (Nat.le_of_ble_eq_true rfl) hb661 dL_law_2366 (fun r668 w669 h => ?_)
        refine g_iload (pc := 2369) C dL_law_2369 (q := 1) rfl ?_
        refine g_icmp_eq (pc := 2371) C dL_law_2371 (tgt := 2376) rfl (fun z670 => ?_) (fun z670 => ?_)
        · replace h := h.1 z670
          refine g_iload (pc := 2376) C dL_law_2376 (q := 1) rfl ?_
          refine g_if_ne (pc := 2378) C dL_law_2378 (tgt := 2393) rfl (fun z671 => ?_) (fun z671 => ?_)
          · replace h := h.2 z671
            refine g_goto (pc := 2393) C dL_law_2393 (tgt := 3049) rfl ?_
            refine g_iinc (pc := 3049) C dL_law_3049 (q := 6) rfl (v2 := a4 + 6) rfl (Nat.le_of_ble_eq_true rfl) (lo' := [(4, .int (a4 + 6)), (6, .int r665), (5, .int r659), (0, .ref b0), (1, .ref (adr x a1)), (2, .ref (adr x a2)), (3, .ref (adr x a3))]) rfl ?_
            refine g_goto (pc := 3052) C dL_law_3052 (tgt := 23) rfl ?_
            refine g_sub [3, 4, 5, 6, 0] rfl ?_
            exact ih _ _ _ _ _ _ _ hb661 h
          · replace h := h.1 z671
            refine g_aload_n (pc := 2381) C dL_law_2381 (q := 5) rfl ?_
            refine g_iconst (pc := 2382) C dL_law_2382 (v := 0) rfl ?_
            obtain ⟨k672, h⟩ := h
            obtain ⟨k673, h⟩ := h
            refine g_lald (pc := 2383) C k672 k673 dL_law_2383 ?_
            refine g_iload (pc := 2384) C dL_law_2384 (q := 0) rfl ?_
            refine g_i2l (pc := 2386) C dL_law_2386 ?_
            refine g_lcmp (pc := 2387) C dL_law_2387 ?_
            refine g_if_eq (pc := 2388) C dL_law_2388 (tgt := 2393) rfl (fun z674 => ?_) (fun z674 => ?_)
            · replace h := h.1 z674
              refine g_goto (pc := 2393) C dL_law_2393 (tgt := 3049) rfl ?_
              refine g_iinc (pc := 3049) C dL_law_3049 (q := 6) rfl (v2 := a4 + 6) rfl (Nat.le_of_ble_eq_true rfl) (lo' := [(4, .int (a4 + 6)), (6, .int r665), (5, .int r659), (0, .ref b0), (1, .ref (adr x a1)), (2, .ref (adr x a2)), (3, .ref (adr x a3))]) rfl ?_
              refine g_goto (pc := 3052) C dL_law_3052 (tgt := 23) rfl ?_
              refine g_sub [3, 4, 5, 6, 0] rfl ?_
              exact ih _ _ _ _ _ _ _ hb661 h
            · replace h := h.2 z674
              refine g_iconst (pc := 2391) C dL_law_2391 (v := 0) rfl ?_
              exact g_lawend (pc := 2392) C hlk hr hb661.1 hb661.2 dL_law_2392 (hK1 _ _ h) hmc
        · replace h := h.2 z670
          refine g_iconst (pc := 2374) C dL_law_2374 (v := 0) rfl ?_
          exact g_lawend (pc := 2375) C hlk hr hb661.1 hb661.2 dL_law_2375 (hK1 _ _ h) hmc
      replace h := h.2 z62
      by_cases z63 : (sc a4.toNatClampNeg) &&& 63 = 39
      · replace h := h.1 z63
        refine g_tabIn (pc := 40) C dL_law_40 (by rw [z63]; decide) (by rw [z63]; decide) (off := 2356) (by rw [z63]; rfl) (tgt := 2396) rfl ?_
        refine g_aload_n (pc := 2396) C dL_law_2396 (q := 1) rfl ?_
        obtain ⟨k675, h⟩ := h
        refine miL_287 (pc := 2397) C k675 h (Nat.le_of_ble_eq_true rfl) (Nat.le_of_ble_eq_true rfl) hb dL_law_2397 (fun r676 w677 h => ?_)
        refine g_aload_n (pc := 2400) C dL_law_2400 (q := 2) rfl ?_
        obtain ⟨k678, h⟩ := h
        refine miL_290 (pc := 2401) C k678 h (Nat.le_of_ble_eq_true rfl) (Nat.le_of_ble_eq_true rfl) hb dL_law_2401 (fun r679 w680 h => ?_)
        refine g_icmp_eq (pc := 2404) C dL_law_2404 (tgt := 3049) rfl (fun z681 => ?_) (fun z681 => ?_)
        · replace h := h.1 z681
          refine g_iinc (pc := 3049) C dL_law_3049 (q := 4) rfl (v2 := a4 + 6) rfl (Nat.le_of_ble_eq_true rfl) (lo' := [(4, .int (a4 + 6)), (0, .ref b0), (1, .ref (adr x a1)), (2, .ref (adr x a2)), (3, .ref (adr x a3))]) rfl ?_
          refine g_goto (pc := 3052) C dL_law_3052 (tgt := 23) rfl ?_
          refine g_sub [1, 2, 3, 4, 0] rfl ?_
          exact ih _ _ _ _ _ _ _ hb h
        · replace h := h.2 z681
          refine g_iconst (pc := 2407) C dL_law_2407 (v := 0) rfl ?_
          exact g_lawend (pc := 2408) C hlk hr hb.1 hb.2 dL_law_2408 (hK1 _ _ h) hmc
      replace h := h.2 z63
      by_cases z64 : (sc a4.toNatClampNeg) &&& 63 = 40
      · replace h := h.1 z64
        refine g_tabIn (pc := 40) C dL_law_40 (by rw [z64]; decide) (by rw [z64]; decide) (off := 2369) (by rw [z64]; rfl) (tgt := 2409) rfl ?_
        refine g_aload_n (pc := 2409) C dL_law_2409 (q := 1) rfl ?_
        refine g_aload_n (pc := 2410) C dL_law_2410 (q := 0) rfl ?_
        refine g_iload (pc := 2411) C dL_law_2411 (q := 4) rfl ?_
        refine g_iconst (pc := 2413) C dL_law_2413 (v := 1) rfl ?_
        refine g_iadd (pc := 2414) C dL_law_2414 ?_
        obtain ⟨k682, h⟩ := h
        refine g_sld (pc := 2415) C hX hbl hbA k682 dL_law_2415 ?_
        refine g_aload_n (pc := 2416) C dL_law_2416 (q := 0) rfl ?_
        refine g_iload (pc := 2417) C dL_law_2417 (q := 4) rfl ?_
        refine g_iconst (pc := 2419) C dL_law_2419 (v := 2) rfl ?_
        refine g_iadd (pc := 2420) C dL_law_2420 ?_
        obtain ⟨k683, h⟩ := h
        refine g_sld (pc := 2421) C hX hbl hbA k683 dL_law_2421 ?_
        refine g_aload_n (pc := 2422) C dL_law_2422 (q := 3) rfl ?_
        obtain ⟨hb686, h⟩ := h
        refine maL_291 (pc := 2423) C hl h (Nat.le_of_ble_eq_true rfl) (Nat.le_of_ble_eq_true rfl) hb686 dL_law_2423 (fun r684 w685 h => ?_)
        refine g_istore (pc := 2426) C dL_law_2426 (Nat.le_of_ble_eq_true rfl) (lo' := [(5, .int r684), (0, .ref b0), (1, .ref (adr x a1)), (2, .ref (adr x a2)), (3, .ref (adr x a3)), (4, .int a4)]) rfl ?_
        refine g_aload_n (pc := 2428) C dL_law_2428 (q := 3) rfl ?_
        refine g_aload_n (pc := 2429) C dL_law_2429 (q := 1) rfl ?_
        refine g_iload (pc := 2430) C dL_law_2430 (q := 5) rfl ?_
        refine g_iconst (pc := 2432) C dL_law_2432 (v := 1) rfl ?_
        refine g_iadd (pc := 2433) C dL_law_2433 ?_
        obtain ⟨k687, h⟩ := h
        refine g_sld (pc := 2434) C hX hbl hbA k687 dL_law_2434 ?_
        refine g_aload_n (pc := 2435) C dL_law_2435 (q := 1) rfl ?_
        refine g_iload (pc := 2436) C dL_law_2436 (q := 5) rfl ?_
        refine g_iconst (pc := 2438) C dL_law_2438 (v := 2) rfl ?_
        refine g_iadd (pc := 2439) C dL_law_2439 ?_
        obtain ⟨k688, h⟩ := h
        refine g_sld (pc := 2440) C hX hbl hbA k688 dL_law_2440 ?_
        obtain ⟨k689, h⟩ := h
        refine miL_293 (pc := 2441) C k689 h (Nat.le_of_ble_eq_true rfl) (Nat.le_of_ble_eq_true rfl) hb686 dL_law_2441 (fun r690 w691 h => ?_)
        refine g_istore (pc := 2444) C dL_law_2444 (Nat.le_of_ble_eq_true rfl) (lo' := [(6, .int r690), (5, .int r684), (0, .ref b0), (1, .ref (adr x a1)), (2, .ref (adr x a2)), (3, .ref (adr x a3)), (4, .int a4)]) rfl ?_
        refine g_aload_n (pc := 2446) C dL_law_2446 (q := 4) rfl ?_
        obtain ⟨k692, h⟩ := h
        refine miL_159 (pc := 2447) C k692 h (Nat.le_of_ble_eq_true rfl) (Nat.le_of_ble_eq_true rfl) hb686 dL_law_2447 (fun r693 w694 h => ?_)
        refine g_iload (pc := 2450) C dL_law_2450 (q := 1) rfl ?_
        refine g_icmp_eq (pc := 2452) C dL_law_2452 (tgt := 2457) rfl (fun z695 => ?_) (fun z695 => ?_)
        · replace h := h.1 z695
          refine g_iload (pc := 2457) C dL_law_2457 (q := 1) rfl ?_
          refine g_if_ne (pc := 2459) C dL_law_2459 (tgt := 2474) rfl (fun z696 => ?_) (fun z696 => ?_)
          · replace h := h.2 z696
            refine g_goto (pc := 2474) C dL_law_2474 (tgt := 3049) rfl ?_
            refine g_iinc (pc := 3049) C dL_law_3049 (q := 6) rfl (v2 := a4 + 6) rfl (Nat.le_of_ble_eq_true rfl) (lo' := [(4, .int (a4 + 6)), (6, .int r690), (5, .int r684), (0, .ref b0), (1, .ref (adr x a1)), (2, .ref (adr x a2)), (3, .ref (adr x a3))]) rfl ?_
            refine g_goto (pc := 3052) C dL_law_3052 (tgt := 23) rfl ?_
            refine g_sub [3, 4, 5, 6, 0] rfl ?_
            exact ih _ _ _ _ _ _ _ hb686 h
          · replace h := h.1 z696
            refine g_aload_n (pc := 2462) C dL_law_2462 (q := 5) rfl ?_
            refine g_iconst (pc := 2463) C dL_law_2463 (v := 0) rfl ?_
            obtain ⟨k697, h⟩ := h
            obtain ⟨k698, h⟩ := h
            refine g_lald (pc := 2464) C k697 k698 dL_law_2464 ?_
            refine g_iload (pc := 2465) C dL_law_2465 (q := 0) rfl ?_
            refine g_i2l (pc := 2467) C dL_law_2467 ?_
            refine g_lcmp (pc := 2468) C dL_law_2468 ?_
            refine g_if_eq (pc := 2469) C dL_law_2469 (tgt := 2474) rfl (fun z699 => ?_) (fun z699 => ?_)
            · replace h := h.1 z699
              refine g_goto (pc := 2474) C dL_law_2474 (tgt := 3049) rfl ?_
              refine g_iinc (pc := 3049) C dL_law_3049 (q := 6) rfl (v2 := a4 + 6) rfl (Nat.le_of_ble_eq_true rfl) (lo' := [(4, .int (a4 + 6)), (6, .int r690), (5, .int r684), (0, .ref b0), (1, .ref (adr x a1)), (2, .ref (adr x a2)), (3, .ref (adr x a3))]) rfl ?_
              refine g_goto (pc := 3052) C dL_law_3052 (tgt := 23) rfl ?_
              refine g_sub [3, 4, 5, 6, 0] rfl ?_
              exact ih _ _ _ _ _ _ _ hb686 h
            · replace h := h.2 z699
              refine g_iconst (pc := 2472) C dL_law_2472 (v := 0) rfl ?_
              exact g_lawend (pc := 2473) C hlk hr hb686.1 hb686.2 dL_law_2473 (hK1 _ _ h) hmc
        · replace h := h.2 z695
          refine g_iconst (pc := 2455) C dL_law_2455 (v := 0) rfl ?_
          exact g_lawend (pc := 2456) C hlk hr hb686.1 hb686.2 dL_law_2456 (hK1 _ _ h) hmc
      replace h := h.2 z64
      by_cases z65 : (sc a4.toNatClampNeg) &&& 63 = 41
      · replace h := h.1 z65
        refine g_tabIn (pc := 40) C dL_law_40 (by rw [z65]; decide) (by rw [z65]; decide) (off := 2437) (by rw [z65]; rfl) (tgt := 2477) rfl ?_
        refine g_aload_n (pc := 2477) C dL_law_2477 (q := 1) rfl ?_
        refine g_aload_n (pc := 2478) C dL_law_2478 (q := 0) rfl ?_
        refine g_iload (pc := 2479) C dL_law_2479 (q := 4) rfl ?_
        refine g_iconst (pc := 2481) C dL_law_2481 (v := 1) rfl ?_
        refine g_iadd (pc := 2482) C dL_law_2482 ?_
        obtain ⟨k700, h⟩ := h
        refine g_sld (pc := 2483) C hX hbl hbA k700 dL_law_2483 ?_
        refine g_aload_n (pc := 2484) C dL_law_2484 (q := 3) rfl ?_
        obtain ⟨hb703, h⟩ := h
        refine maL_294 (pc := 2485) C hl h (Nat.le_of_ble_eq_true rfl) (Nat.le_of_ble_eq_true rfl) hb703 dL_law_2485 (fun r701 w702 h => ?_)
        refine g_istore (pc := 2488) C dL_law_2488 (Nat.le_of_ble_eq_true rfl) (lo' := [(5, .int r701), (0, .ref b0), (1, .ref (adr x a1)), (2, .ref (adr x a2)), (3, .ref (adr x a3)), (4, .int a4)]) rfl ?_
        refine g_aload_n (pc := 2490) C dL_law_2490 (q := 3) rfl ?_
        refine g_aload_n (pc := 2491) C dL_law_2491 (q := 1) rfl ?_
        refine g_iload (pc := 2492) C dL_law_2492 (q := 5) rfl ?_
        refine g_iconst (pc := 2494) C dL_law_2494 (v := 1) rfl ?_
        refine g_iadd (pc := 2495) C dL_law_2495 ?_
        obtain ⟨k704, h⟩ := h
        refine g_sld (pc := 2496) C hX hbl hbA k704 dL_law_2496 ?_
        obtain ⟨k705, h⟩ := h
        refine miL_296 (pc := 2497) C k705 h (Nat.le_of_ble_eq_true rfl) (Nat.le_of_ble_eq_true rfl) hb703 dL_law_2497 (fun r706 w707 h => ?_)
        refine g_istore (pc := 2500) C dL_law_2500 (Nat.le_of_ble_eq_true rfl) (lo' := [(6, .int r706), (5, .int r701), (0, .ref b0), (1, .ref (adr x a1)), (2, .ref (adr x a2)), (3, .ref (adr x a3)), (4, .int a4)]) rfl ?_
        refine g_aload_n (pc := 2502) C dL_law_2502 (q := 4) rfl ?_
        obtain ⟨k708, h⟩ := h
        refine miL_159 (pc := 2503) C k708 h (Nat.le_of_ble_eq_true rfl) (Nat.le_of_ble_eq_true rfl) hb703 dL_law_2503 (fun r709 w710 h => ?_)
        refine g_iload (pc := 2506) C dL_law_2506 (q := 1) rfl ?_
        refine g_icmp_eq (pc := 2508) C dL_law_2508 (tgt := 2513) rfl (fun z711 => ?_) (fun z711 => ?_)
        · replace h := h.1 z711
          refine g_iload (pc := 2513) C dL_law_2513 (q := 1) rfl ?_
          refine g_if_ne (pc := 2515) C dL_law_2515 (tgt := 2530) rfl (fun z712 => ?_) (fun z712 => ?_)
          · replace h := h.2 z712
            refine g_goto (pc := 2530) C dL_law_2530 (tgt := 3049) rfl ?_
            refine g_iinc (pc := 3049) C dL_law_3049 (q := 6) rfl (v2 := a4 + 6) rfl (Nat.le_of_ble_eq_true rfl) (lo' := [(4, .int (a4 + 6)), (6, .int r706), (5, .int r701), (0, .ref b0), (1, .ref (adr x a1)), (2, .ref (adr x a2)), (3, .ref (adr x a3))]) rfl ?_
            refine g_goto (pc := 3052) C dL_law_3052 (tgt := 23) rfl ?_
            refine g_sub [3, 4, 5, 6, 0] rfl ?_
            exact ih _ _ _ _ _ _ _ hb703 h
          · replace h := h.1 z712
            refine g_aload_n (pc := 2518) C dL_law_2518 (q := 5) rfl ?_
            refine g_iconst (pc := 2519) C dL_law_2519 (v := 0) rfl ?_
            obtain ⟨k713, h⟩ := h
            obtain ⟨k714, h⟩ := h
            refine g_lald (pc := 2520) C k713 k714 dL_law_2520 ?_
            refine g_iload (pc := 2521) C dL_law_2521 (q := 0) rfl ?_
            refine g_i2l (pc := 2523) C dL_law_2523 ?_
            refine g_lcmp (pc := 2524) C dL_law_2524 ?_
            refine g_if_eq (pc := 2525) C dL_law_2525 (tgt := 2530) rfl (fun z715 => ?_) (fun z715 => ?_)
            · replace h := h.1 z715
              refine g_goto (pc := 2530) C dL_law_2530 (tgt := 3049) rfl ?_
              refine g_iinc (pc := 3049) C dL_law_3049 (q := 6) rfl (v2 := a4 + 6) rfl (Nat.le_of_ble_eq_true rfl) (lo' := [(4, .int (a4 + 6)), (6, .int r706), (5, .int r701), (0, .ref b0), (1, .ref (adr x a1)), (2, .ref (adr x a2)), (3, .ref (adr x a3))]) rfl ?_
              refine g_goto (pc := 3052) C dL_law_3052 (tgt := 23) rfl ?_
              refine g_sub [3, 4, 5, 6, 0] rfl ?_
              exact ih _ _ _ _ _ _ _ hb703 h
            · replace h := h.2 z715
              refine g_iconst (pc := 2528) C dL_law_2528 (v := 0) rfl ?_
              exact g_lawend (pc := 2529) C hlk hr hb703.1 hb703.2 dL_law_2529 (hK1 _ _ h) hmc
        · replace h := h.2 z711
          refine g_iconst (pc := 2511) C dL_law_2511 (v := 0) rfl ?_
          exact g_lawend (pc := 2512) C hlk hr hb703.1 hb703.2 dL_law_2512 (hK1 _ _ h) hmc
      replace h := h.2 z65
      by_cases z66 : (sc a4.toNatClampNeg) &&& 63 = 42
      · replace h := h.1 z66
        refine g_tabIn (pc := 40) C dL_law_40 (by rw [z66]; decide) (by rw [z66]; decide) (off := 2493) (by rw [z66]; rfl) (tgt := 2533) rfl ?_
        refine g_aload_n (pc := 2533) C dL_law_2533 (q := 1) rfl ?_
        refine g_aload_n (pc := 2534) C dL_law_2534 (q := 0) rfl ?_
        refine g_iload (pc := 2535) C dL_law_2535 (q := 4) rfl ?_
        refine g_iconst (pc := 2537) C dL_law_2537 (v := 1) rfl ?_
        refine g_iadd (pc := 2538) C dL_law_2538 ?_
        obtain ⟨k716, h⟩ := h
        refine g_sld (pc := 2539) C hX hbl hbA k716 dL_law_2539 ?_
        refine g_aload_n (pc := 2540) C dL_law_2540 (q := 0) rfl ?_
        refine g_iload (pc := 2541) C dL_law_2541 (q := 4) rfl ?_
        refine g_iconst (pc := 2543) C dL_law_2543 (v := 2) rfl ?_
        refine g_iadd (pc := 2544) C dL_law_2544 ?_
        obtain ⟨k717, h⟩ := h
        refine g_sld (pc := 2545) C hX hbl hbA k717 dL_law_2545 ?_
        refine g_aload_n (pc := 2546) C dL_law_2546 (q := 3) rfl ?_
        obtain ⟨hb720, h⟩ := h
        refine maL_297 (pc := 2547) C hl h (Nat.le_of_ble_eq_true rfl) (Nat.le_of_ble_eq_true rfl) hb720 dL_law_2547 (fun r718 w719 h => ?_)
        refine g_istore (pc := 2550) C dL_law_2550 (Nat.le_of_ble_eq_true rfl) (lo' := [(5, .int r718), (0, .ref b0), (1, .ref (adr x a1)), (2, .ref (adr x a2)), (3, .ref (adr x a3)), (4, .int a4)]) rfl ?_
        refine g_aload_n (pc := 2552) C dL_law_2552 (q := 3) rfl ?_
        refine g_aload_n (pc := 2553) C dL_law_2553 (q := 1) rfl ?_
        refine g_iload (pc := 2554) C dL_law_2554 (q := 5) rfl ?_
        refine g_iconst (pc := 2556) C dL_law_2556 (v := 1) rfl ?_
        refine g_iadd (pc := 2557) C dL_law_2557 ?_
        obtain ⟨k721, h⟩ := h
        refine g_sld (pc := 2558) C hX hbl hbA k721 dL_law_2558 ?_
        refine g_aload_n (pc := 2559) C dL_law_2559 (q := 1) rfl ?_
        refine g_iload (pc := 2560) C dL_law_2560 (q := 5) rfl ?_
        refine g_iconst (pc := 2562) C dL_law_2562 (v := 2) rfl ?_
        refine g_iadd (pc := 2563) C dL_law_2563 ?_
        obtain ⟨k722, h⟩ := h
        refine g_sld (pc := 2564) C hX hbl hbA k722 dL_law_2564 ?_
        obtain ⟨k723, h⟩ := h
        refine miL_299 (pc := 2565) C k723 h (Nat.le_of_ble_eq_true rfl) (Nat.le_of_ble_eq_true rfl) hb720 dL_law_2565 (fun r724 w725 h => ?_)
        refine g_istore (pc := 2568) C dL_law_2568 (Nat.le_of_ble_eq_true rfl) (lo' := [(6, .int r724), (5, .int r718), (0, .ref b0), (1, .ref (adr x a1)), (2, .ref (adr x a2)), (3, .ref (adr x a3)), (4, .int a4)]) rfl ?_
        refine g_aload_n (pc := 2570) C dL_law_2570 (q := 4) rfl ?_
        obtain ⟨k726, h⟩ := h
        refine miL_159 (pc := 2571) C k726 h (Nat.le_of_ble_eq_true rfl) (Nat.le_of_ble_eq_true rfl) hb720 dL_law_2571 (fun r727 w728 h => ?_)
        refine g_iload (pc := 2574) C dL_law_2574 (q := 1) rfl ?_
        refine g_icmp_eq (pc := 2576) C dL_law_2576 (tgt := 2581) rfl (fun z729 => ?_) (fun z729 => ?_)
        · replace h := h.1 z729
          refine g_iload (pc := 2581) C dL_law_2581 (q := 1) rfl ?_
          refine g_if_ne (pc := 2583) C dL_law_2583 (tgt := 2598) rfl (fun z730 => ?_) (fun z730 => ?_)
          · replace h := h.2 z730
            refine g_goto (pc := 2598) C dL_law_2598 (tgt := 3049) rfl ?_
            refine g_iinc (pc := 3049) C dL_law_3049 (q := 6) rfl (v2 := a4 + 6) rfl (Nat.le_of_ble_eq_true rfl) (lo' := [(4, .int (a4 + 6)), (6, .int r724), (5, .int r718), (0, .ref b0), (1, .ref (adr x a1)), (2, .ref (adr x a2)), (3, .ref (adr x a3))]) rfl ?_
            refine g_goto (pc := 3052) C dL_law_3052 (tgt := 23) rfl ?_
            refine g_sub [3, 4, 5, 6, 0] rfl ?_
            exact ih _ _ _ _ _ _ _ hb720 h
          · replace h := h.1 z730
            refine g_aload_n (pc := 2586) C dL_law_2586 (q := 5) rfl ?_
            refine g_iconst (pc := 2587) C dL_law_2587 (v := 0) rfl ?_
            obtain ⟨k731, h⟩ := h
            obtain ⟨k732, h⟩ := h
            refine g_lald (pc := 2588) C k731 k732 dL_law_2588 ?_
            refine g_iload (pc := 2589) C dL_law_2589 (q := 0) rfl ?_
            refine g_i2l (pc := 2591) C dL_law_2591 ?_
            refine g_lcmp (pc := 2592) C dL_law_2592 ?_
            refine g_if_eq (pc := 2593) C dL_law_2593 (tgt := 2598) rfl (fun z733 => ?_) (fun z733 => ?_)
            · replace h := h.1 z733
              refine g_goto (pc := 2598) C dL_law_2598 (tgt := 3049) rfl ?_
              refine g_iinc (pc := 3049) C dL_law_3049 (q := 6) rfl (v2 := a4 + 6) rfl (Nat.le_of_ble_eq_true rfl) (lo' := [(4, .int (a4 + 6)), (6, .int r724), (5, .int r718), (0, .ref b0), (1, .ref (adr x a1)), (2, .ref (adr x a2)), (3, .ref (adr x a3))]) rfl ?_
              refine g_goto (pc := 3052) C dL_law_3052 (tgt := 23) rfl ?_
              refine g_sub [3, 4, 5, 6, 0] rfl ?_
              exact ih _ _ _ _ _ _ _ hb720 h
            · replace h := h.2 z733
              refine g_iconst (pc := 2596) C dL_law_2596 (v := 0) rfl ?_
              exact g_lawend (pc := 2597) C hlk hr hb720.1 hb720.2 dL_law_2597 (hK1 _ _ h) hmc
        · replace h := h.2 z729
          refine g_iconst (pc := 2579) C dL_law_2579 (v := 0) rfl ?_
          exact g_lawend (pc := 2580) C hlk hr hb720.1 hb720.2 dL_law_2580 (hK1 _ _ h) hmc
      replace h := h.2 z66
      by_cases z67 : (sc a4.toNatClampNeg) &&& 63 = 43
      · replace h := h.1 z67
        refine g_tabIn (pc := 40) C dL_law_40 (by rw [z67]; decide) (by rw [z67]; decide) (off := 2561) (by rw [z67]; rfl) (tgt := 2601) rfl ?_
        refine g_aload_n (pc := 2601) C dL_law_2601 (q := 1) rfl ?_
        refine g_aload_n (pc := 2602) C dL_law_2602 (q := 0) rfl ?_
        refine g_iload (pc := 2603) C dL_law_2603 (q := 4) rfl ?_
        refine g_iconst (pc := 2605) C dL_law_2605 (v := 1) rfl ?_
        refine g_iadd (pc := 2606) C dL_law_2606 ?_
        obtain ⟨k734, h⟩ := h
        refine g_sld (pc := 2607) C hX hbl hbA k734 dL_law_2607 ?_
        refine g_aload_n (pc := 2608) C dL_law_2608 (q := 3) rfl ?_
        obtain ⟨hb737, h⟩ := h
        refine maL_300 (pc := 2609) C hl h (Nat.le_of_ble_eq_true rfl) (Nat.le_of_ble_eq_true rfl) hb737 dL_law_2609 (fun r735 w736 h => ?_)
        refine g_istore (pc := 2612) C dL_law_2612 (Nat.le_of_ble_eq_true rfl) (lo' := [(5, .int r735), (0, .ref b0), (1, .ref (adr x a1)), (2, .ref (adr x a2)), (3, .ref (adr x a3)), (4, .int a4)]) rfl ?_
        refine g_aload_n (pc := 2614) C dL_law_2614 (q := 3) rfl ?_
        refine g_aload_n (pc := 2615) C dL_law_2615 (q := 1) rfl ?_
        refine g_iload (pc := 2616) C dL_law_2616 (q := 5) rfl ?_
        refine g_iconst (pc := 2618) C dL_law_2618 (v := 1) rfl ?_
        refine g_iadd (pc := 2619) C dL_law_2619 ?_
        obtain ⟨k738, h⟩ := h
        refine g_sld (pc := 2620) C hX hbl hbA k738 dL_law_2620 ?_
        obtain ⟨k739, h⟩ := h
        refine miL_302 (pc := 2621) C k739 h (Nat.le_of_ble_eq_true rfl) (Nat.le_of_ble_eq_true rfl) hb737 dL_law_2621 (fun r740 w741 h => ?_)
        refine g_istore (pc := 2624) C dL_law_2624 (Nat.le_of_ble_eq_true rfl) (lo' := [(6, .int r740), (5, .int r735), (0, .ref b0), (1, .ref (adr x a1)), (2, .ref (adr x a2)), (3, .ref (adr x a3)), (4, .int a4)]) rfl ?_
        refine g_aload_n (pc := 2626) C dL_law_2626 (q := 4) rfl ?_
        obtain ⟨k742, h⟩ := h
        refine miL_159 (pc := 2627) C k742 h (Nat.le_of_ble_eq_true rfl) (Nat.le_of_ble_eq_true rfl) hb737 dL_law_2627 (fun r743 w744 h => ?_)
        refine g_iload (pc := 2630) C dL_law_2630 (q := 1) rfl ?_
        refine g_icmp_eq (pc := 2632) C dL_law_2632 (tgt := 2637) rfl (fun z745 => ?_) (fun z745 => ?_)
        · replace h := h.1 z745
          refine g_iload (pc := 2637) C dL_law_2637 (q := 1) rfl ?_
          refine g_if_ne (pc := 2639) C dL_law_2639 (tgt := 2654) rfl (fun z746 => ?_) (fun z746 => ?_)
          · replace h := h.2 z746
            refine g_goto (pc := 2654) C dL_law_2654 (tgt := 3049) rfl ?_
            refine g_iinc (pc := 3049) C dL_law_3049 (q := 6) rfl (v2 := a4 + 6) rfl (Nat.le_of_ble_eq_true rfl) (lo' := [(4, .int (a4 + 6)), (6, .int r740), (5, .int r735), (0, .ref b0), (1, .ref (adr x a1)), (2, .ref (adr x a2)), (3, .ref (adr x a3))]) rfl ?_
            refine g_goto (pc := 3052) C dL_law_3052 (tgt := 23) rfl ?_
            refine g_sub [3, 4, 5, 6, 0] rfl ?_
            exact ih _ _ _ _ _ _ _ hb737 h
          · replace h := h.1 z746
            refine g_aload_n (pc := 2642) C dL_law_2642 (q := 5) rfl ?_
            refine g_iconst (pc := 2643) C dL_law_2643 (v := 0) rfl ?_
            obtain ⟨k747, h⟩ := h
            obtain ⟨k748, h⟩ := h
            refine g_lald (pc := 2644) C k747 k748 dL_law_2644 ?_
            refine g_iload (pc := 2645) C dL_law_2645 (q := 0) rfl ?_
            refine g_i2l (pc := 2647) C dL_law_2647 ?_
            refine g_lcmp (pc := 2648) C dL_law_2648 ?_
            refine g_if_eq (pc := 2649) C dL_law_2649 (tgt := 2654) rfl (fun z749 => ?_) (fun z749 => ?_)
            · replace h := h.1 z749
              refine g_goto (pc := 2654) C dL_law_2654 (tgt := 3049) rfl ?_
              refine g_iinc (pc := 3049) C dL_law_3049 (q := 6) rfl (v2 := a4 + 6) rfl (Nat.le_of_ble_eq_true rfl) (lo' := [(4, .int (a4 + 6)), (6, .int r740), (5, .int r735), (0, .ref b0), (1, .ref (adr x a1)), (2, .ref (adr x a2)), (3, .ref (adr x a3))]) rfl ?_
              refine g_goto (pc := 3052) C dL_law_3052 (tgt := 23) rfl ?_
              refine g_sub [3, 4, 5, 6, 0] rfl ?_
              exact ih _ _ _ _ _ _ _ hb737 h
            · replace h := h.2 z749
              refine g_iconst (pc := 2652) C dL_law_2652 (v := 0) rfl ?_
              exact g_lawend (pc := 2653) C hlk hr hb737.1 hb737.2 dL_law_2653 (hK1 _ _ h) hmc
        · replace h := h.2 z745
          refine g_iconst (pc := 2635) C dL_law_2635 (v := 0) rfl ?_
          exact g_lawend (pc := 2636) C hlk hr hb737.1 hb737.2 dL_law_2636 (hK1 _ _ h) hmc
      replace h := h.2 z67
      by_cases z68 : (sc a4.toNatClampNeg) &&& 63 = 44
      · replace h := h.1 z68
        refine g_tabIn (pc := 40) C dL_law_40 (by rw [z68]; decide) (by rw [z68]; decide) (off := 2617) (by rw [z68]; rfl) (tgt := 2657) rfl ?_
        refine g_aload_n (pc := 2657) C dL_law_2657 (q := 1) rfl ?_
        refine g_aload_n (pc := 2658) C dL_law_2658 (q := 0) rfl ?_
        refine g_iload (pc := 2659) C dL_law_2659 (q := 4) rfl ?_
        refine g_iconst (pc := 2661) C dL_law_2661 (v := 1) rfl ?_
        refine g_iadd (pc := 2662) C dL_law_2662 ?_
        obtain ⟨k750, h⟩ := h
        refine g_sld (pc := 2663) C hX hbl hbA k750 dL_law_2663 ?_
        refine g_aload_n (pc := 2664) C dL_law_2664 (q := 3) rfl ?_
        obtain ⟨hb753, h⟩ := h
        refine maL_303 (pc := 2665) C hl h (Nat.le_of_ble_eq_true rfl) (Nat.le_of_ble_eq_true rfl) hb753 dL_law_2665 (fun r751 w752 h => ?_)
        refine g_istore (pc := 2668) C dL_law_2668 (Nat.le_of_ble_eq_true rfl) (lo' := [(5, .int r751), (0, .ref b0), (1, .ref (adr x a1)), (2, .ref (adr x a2)), (3, .ref (adr x a3)), (4, .int a4)]) rfl ?_
        refine g_aload_n (pc := 2670) C dL_law_2670 (q := 3) rfl ?_
        refine g_aload_n (pc := 2671) C dL_law_2671 (q := 1) rfl ?_
        refine g_iload (pc := 2672) C dL_law_2672 (q := 5) rfl ?_
        refine g_iconst (pc := 2674) C dL_law_2674 (v := 1) rfl ?_
        refine g_iadd (pc := 2675) C dL_law_2675 ?_
        obtain ⟨k754, h⟩ := h
        refine g_sld (pc := 2676) C hX hbl hbA k754 dL_law_2676 ?_
        obtain ⟨k755, h⟩ := h
        refine miL_305 (pc := 2677) C k755 h (Nat.le_of_ble_eq_true rfl) (Nat.le_of_ble_eq_true rfl) hb753 dL_law_2677 (fun r756 w757 h => ?_)
        refine g_istore (pc := 2680) C dL_law_2680 (Nat.le_of_ble_eq_true rfl) (lo' := [(6, .int r756), (5, .int r751), (0, .ref b0), (1, .ref (adr x a1)), (2, .ref (adr x a2)), (3, .ref (adr x a3)), (4, .int a4)]) rfl ?_
        refine g_aload_n (pc := 2682) C dL_law_2682 (q := 4) rfl ?_
        obtain ⟨k758, h⟩ := h
        refine miL_159 (pc := 2683) C k758 h (Nat.le_of_ble_eq_true rfl) (Nat.le_of_ble_eq_true rfl) hb753 dL_law_2683 (fun r759 w760 h => ?_)
        refine g_iload (pc := 2686) C dL_law_2686 (q := 1) rfl ?_
        refine g_icmp_eq (pc := 2688) C dL_law_2688 (tgt := 2693) rfl (fun z761 => ?_) (fun z761 => ?_)
        · replace h := h.1 z761
          refine g_iload (pc := 2693) C dL_law_2693 (q := 1) rfl ?_
          refine g_if_ne (pc := 2695) C dL_law_2695 (tgt := 2710) rfl (fun z762 => ?_) (fun z762 => ?_)
          · replace h := h.2 z762
            refine g_goto (pc := 2710) C dL_law_2710 (tgt := 3049) rfl ?_
            refine g_iinc (pc := 3049) C dL_law_3049 (q := 6) rfl (v2 := a4 + 6) rfl (Nat.le_of_ble_eq_true rfl) (lo' := [(4, .int (a4 + 6)), (6, .int r756), (5, .int r751), (0, .ref b0), (1, .ref (adr x a1)), (2, .ref (adr x a2)), (3, .ref (adr x a3))]) rfl ?_
            refine g_goto (pc := 3052) C dL_law_3052 (tgt := 23) rfl ?_
            refine g_sub [3, 4, 5, 6, 0] rfl ?_
            exact ih _ _ _ _ _ _ _ hb753 h
          · replace h := h.1 z762
            refine g_aload_n (pc := 2698) C dL_law_2698 (q := 5) rfl ?_
            refine g_iconst (pc := 2699) C dL_law_2699 (v := 0) rfl ?_
            obtain ⟨k763, h⟩ := h
            obtain ⟨k764, h⟩ := h
            refine g_lald (pc := 2700) C k763 k764 dL_law_2700 ?_
            refine g_iload (pc := 2701) C dL_law_2701 (q := 0) rfl ?_
            refine g_i2l (pc := 2703) C dL_law_2703 ?_
            refine g_lcmp (pc := 2704) C dL_law_2704 ?_
            refine g_if_eq (pc := 2705) C dL_law_2705 (tgt := 2710) rfl (fun z765 => ?_) (fun z765 => ?_)
            · replace h := h.1 z765
              refine g_goto (pc := 2710) C dL_law_2710 (tgt := 3049) rfl ?_
              refine g_iinc (pc := 3049) C dL_law_3049 (q := 6) rfl (v2 := a4 + 6) rfl (Nat.le_of_ble_eq_true rfl) (lo' := [(4, .int (a4 + 6)), (6, .int r756), (5, .int r751), (0, .ref b0), (1, .ref (adr x a1)), (2, .ref (adr x a2)), (3, .ref (adr x a3))]) rfl ?_
              refine g_goto (pc := 3052) C dL_law_3052 (tgt := 23) rfl ?_
              refine g_sub [3, 4, 5, 6, 0] rfl ?_
              exact ih _ _ _ _ _ _ _ hb753 h
            · replace h := h.2 z765
              refine g_iconst (pc := 2708) C dL_law_2708 (v := 0) rfl ?_
              exact g_lawend (pc := 2709) C hlk hr hb753.1 hb753.2 dL_law_2709 (hK1 _ _ h) hmc
        · replace h := h.2 z761
          refine g_iconst (pc := 2691) C dL_law_2691 (v := 0) rfl ?_
          exact g_lawend (pc := 2692) C hlk hr hb753.1 hb753.2 dL_law_2692 (hK1 _ _ h) hmc
      replace h := h.2 z68
      by_cases z69 : (sc a4.toNatClampNeg) &&& 63 = 45
      · replace h := h.1 z69
        refine g_tabIn (pc := 40) C dL_law_40 (by rw [z69]; decide) (by rw [z69]; decide) (off := 2673) (by rw [z69]; rfl) (tgt := 2713) rfl ?_
        refine g_aload_n (pc := 2713) C dL_law_2713 (q := 1) rfl ?_
        refine g_aload_n (pc := 2714) C dL_law_2714 (q := 0) rfl ?_
        refine g_iload (pc := 2715) C dL_law_2715 (q := 4) rfl ?_
        refine g_iconst (pc := 2717) C dL_law_2717 (v := 1) rfl ?_
        refine g_iadd (pc := 2718) C dL_law_2718 ?_
        obtain ⟨k766, h⟩ := h
        refine g_sld (pc := 2719) C hX hbl hbA k766 dL_law_2719 ?_
        refine g_aload_n (pc := 2720) C dL_law_2720 (q := 0) rfl ?_
        refine g_iload (pc := 2721) C dL_law_2721 (q := 4) rfl ?_
        refine g_iconst (pc := 2723) C dL_law_2723 (v := 2) rfl ?_
        refine g_iadd (pc := 2724) C dL_law_2724 ?_
        obtain ⟨k767, h⟩ := h
        refine g_sld (pc := 2725) C hX hbl hbA k767 dL_law_2725 ?_
        refine g_aload_n (pc := 2726) C dL_law_2726 (q := 0) rfl ?_
        refine g_iload (pc := 2727) C dL_law_2727 (q := 4) rfl ?_
        refine g_iconst (pc := 2729) C dL_law_2729 (v := 3) rfl ?_
        refine g_iadd (pc := 2730) C dL_law_2730 ?_
        obtain ⟨k768, h⟩ := h
        refine g_sld (pc := 2731) C hX hbl hbA k768 dL_law_2731 ?_
        obtain ⟨hb771, h⟩ := h
        refine maL_306 (pc := 2732) C hl h (Nat.le_of_ble_eq_true rfl) (Nat.le_of_ble_eq_true rfl) hb771 dL_law_2732 (fun r769 w770 h => ?_)
        refine g_istore (pc := 2735) C dL_law_2735 (Nat.le_of_ble_eq_true rfl) (lo' := [(5, .int r769), (0, .ref b0), (1, .ref (adr x a1)), (2, .ref (adr x a2)), (3, .ref (adr x a3)), (4, .int a4)]) rfl ?_
        refine g_aload_n (pc := 2737) C dL_law_2737 (q := 3) rfl ?_
        refine g_aload_n (pc := 2738) C dL_law_2738 (q := 1) rfl ?_
        refine g_iload (pc := 2739) C dL_law_2739 (q := 5) rfl ?_
        refine g_iconst (pc := 2741) C dL_law_2741 (v := 1) rfl ?_
        refine g_iadd (pc := 2742) C dL_law_2742 ?_
        obtain ⟨k772, h⟩ := h
        refine g_sld (pc := 2743) C hX hbl hbA k772 dL_law_2743 ?_
        refine g_aload_n (pc := 2744) C dL_law_2744 (q := 1) rfl ?_
        refine g_iload (pc := 2745) C dL_law_2745 (q := 5) rfl ?_
        refine g_iconst (pc := 2747) C dL_law_2747 (v := 2) rfl ?_
        refine g_iadd (pc := 2748) C dL_law_2748 ?_
        obtain ⟨k773, h⟩ := h
        refine g_sld (pc := 2749) C hX hbl hbA k773 dL_law_2749 ?_
        refine g_aload_n (pc := 2750) C dL_law_2750 (q := 1) rfl ?_
        refine g_iload (pc := 2751) C dL_law_2751 (q := 5) rfl ?_
        refine g_iconst (pc := 2753) C dL_law_2753 (v := 3) rfl ?_
        refine g_iadd (pc := 2754) C dL_law_2754 ?_
        obtain ⟨k774, h⟩ := h
        refine g_sld (pc := 2755) C hX hbl hbA k774 dL_law_2755 ?_
        obtain ⟨k775, h⟩ := h
        refine miL_309 (pc := 2756) C k775 h (Nat.le_of_ble_eq_true rfl) (Nat.le_of_ble_eq_true rfl) hb771 dL_law_2756 (fun w776 h => ?_)
        refine g_aload_n (pc := 2759) C dL_law_2759 (q := 3) rfl ?_
        obtain ⟨k777, h⟩ := h
        refine miL_159 (pc := 2760) C k777 h (Nat.le_of_ble_eq_true rfl) (Nat.le_of_ble_eq_true rfl) hb771 dL_law_2760 (fun r778 w779 h => ?_)
        refine g_iload (pc := 2763) C dL_law_2763 (q := 0) rfl ?_
        refine g_icmp_eq (pc := 2765) C dL_law_2765 (tgt := 2770) rfl (fun z780 => ?_) (fun z780 => ?_)
        · replace h := h.1 z780
          refine g_goto (pc := 2770) C dL_law_2770 (tgt := 3049) rfl ?_
          refine g_iinc (pc := 3049) C dL_law_3049 (q := 5) rfl (v2 := a4 + 6) rfl (Nat.le_of_ble_eq_true rfl) (lo' := [(4, .int (a4 + 6)), (5, .int r769), (0, .ref b0), (1, .ref (adr x a1)), (2, .ref (adr x a2)), (3, .ref (adr x a3))]) rfl ?_
          refine g_goto (pc := 3052) C dL_law_3052 (tgt := 23) rfl ?_
          refine g_sub [2, 3, 4, 5, 0] rfl ?_
          exact ih _ _ _ _ _ _ _ hb771 h
        · replace h := h.2 z780
          refine g_iconst (pc := 2768) C dL_law_2768 (v := 0) rfl ?_
          exact g_lawend (pc := 2769) C hlk hr hb771.1 hb771.2 dL_law_2769 (hK1 _ _ h) hmc
      replace h := h.2 z69
      by_cases z70 : (sc a4.toNatClampNeg) &&& 63 = 46
      · replace h := h.1 z70
        refine g_tabIn (pc := 40) C dL_law_40 (by rw [z70]; decide) (by rw [z70]; decide) (off := 2733) (by rw [z70]; rfl) (tgt := 2773) rfl ?_
        refine g_aload_n (pc := 2773) C dL_law_2773 (q := 1) rfl ?_
        refine g_aload_n (pc := 2774) C dL_law_2774 (q := 0) rfl ?_
        refine g_iload (pc := 2775) C dL_law_2775 (q := 4) rfl ?_
        refine g_iconst (pc := 2777) C dL_law_2777 (v := 1) rfl ?_
        refine g_iadd (pc := 2778) C dL_law_2778 ?_
        obtain ⟨k781, h⟩ := h
        refine g_sld (pc := 2779) C hX hbl hbA k781 dL_law_2779 ?_
        refine g_aload_n (pc := 2780) C dL_law_2780 (q := 0) rfl ?_
        refine g_iload (pc := 2781) C dL_law_2781 (q := 4) rfl ?_
        refine g_iconst (pc := 2783) C dL_law_2783 (v := 2) rfl ?_
        refine g_iadd (pc := 2784) C dL_law_2784 ?_
        obtain ⟨k782, h⟩ := h
        refine g_sld (pc := 2785) C hX hbl hbA k782 dL_law_2785 ?_
        refine g_aload_n (pc := 2786) C dL_law_2786 (q := 0) rfl ?_
        refine g_iload (pc := 2787) C dL_law_2787 (q := 4) rfl ?_
        refine g_iconst (pc := 2789) C dL_law_2789 (v := 3) rfl ?_
        refine g_iadd (pc := 2790) C dL_law_2790 ?_
        obtain ⟨k783, h⟩ := h
        refine g_sld (pc := 2791) C hX hbl hbA k783 dL_law_2791 ?_
        refine g_i2l (pc := 2792) C dL_law_2792 ?_
        refine g_bipush (pc := 2793) C dL_law_2793 (v := 32) rfl ?_
        refine h_lshl (pc := 2795) C dL_law_2795 ?_
        refine g_aload_n (pc := 2796) C dL_law_2796 (q := 0) rfl ?_
        refine g_iload (pc := 2797) C dL_law_2797 (q := 4) rfl ?_
        refine g_iconst (pc := 2799) C dL_law_2799 (v := 4) rfl ?_
        refine g_iadd (pc := 2800) C dL_law_2800 ?_
        obtain ⟨k784, h⟩ := h
        refine g_sld (pc := 2801) C hX hbl hbA k784 dL_law_2801 ?_
        refine g_i2l (pc := 2802) C dL_law_2802 ?_
        refine g_ldc2 (pc := 2803) C LCL_310 dL_law_2803 ?_
        refine g_land (pc := 2806) C dL_law_2806 ?_
        refine g_lor (pc := 2807) C dL_law_2807 ?_
        refine g_aload_n (pc := 2808) C dL_law_2808 (q := 3) rfl ?_
        obtain ⟨hb787, h⟩ := h
        refine maL_312 (pc := 2809) C hl h (Nat.le_of_ble_eq_true rfl) (Nat.le_of_ble_eq_true rfl) hb787 dL_law_2809 (fun r785 w786 h => ?_)
        refine g_istore (pc := 2812) C dL_law_2812 (Nat.le_of_ble_eq_true rfl) (lo' := [(5, .int r785), (0, .ref b0), (1, .ref (adr x a1)), (2, .ref (adr x a2)), (3, .ref (adr x a3)), (4, .int a4)]) rfl ?_
        refine g_aload_n (pc := 2814) C dL_law_2814 (q := 3) rfl ?_
        refine g_aload_n (pc := 2815) C dL_law_2815 (q := 1) rfl ?_
        refine g_iload (pc := 2816) C dL_law_2816 (q := 5) rfl ?_
        refine g_iconst (pc := 2818) C dL_law_2818 (v := 1) rfl ?_
        refine g_iadd (pc := 2819) C dL_law_2819 ?_
        obtain ⟨k788, h⟩ := h
        refine g_sld (pc := 2820) C hX hbl hbA k788 dL_law_2820 ?_
        refine g_aload_n (pc := 2821) C dL_law_2821 (q := 1) rfl ?_
        refine g_iload (pc := 2822) C dL_law_2822 (q := 5) rfl ?_
        refine g_iconst (pc := 2824) C dL_law_2824 (v := 2) rfl ?_
        refine g_iadd (pc := 2825) C dL_law_2825 ?_
        obtain ⟨k789, h⟩ := h
        refine g_sld (pc := 2826) C hX hbl hbA k789 dL_law_2826 ?_
        refine g_aload_n (pc := 2827) C dL_law_2827 (q := 1) rfl ?_
        refine g_iload (pc := 2828) C dL_law_2828 (q := 5) rfl ?_
        refine g_iconst (pc := 2830) C dL_law_2830 (v := 3) rfl ?_
        refine g_iadd (pc := 2831) C dL_law_2831 ?_
        obtain ⟨k790, h⟩ := h
        refine g_sld (pc := 2832) C hX hbl hbA k790 dL_law_2832 ?_
        refine g_i2l (pc := 2833) C dL_law_2833 ?_
        refine g_bipush (pc := 2834) C dL_law_2834 (v := 32) rfl ?_
        refine h_lshl (pc := 2836) C dL_law_2836 ?_
        refine g_aload_n (pc := 2837) C dL_law_2837 (q := 1) rfl ?_
        refine g_iload (pc := 2838) C dL_law_2838 (q := 5) rfl ?_
        refine g_iconst (pc := 2840) C dL_law_2840 (v := 4) rfl ?_
        refine g_iadd (pc := 2841) C dL_law_2841 ?_
        obtain ⟨k791, h⟩ := h
        refine g_sld (pc := 2842) C hX hbl hbA k791 dL_law_2842 ?_
        refine g_i2l (pc := 2843) C dL_law_2843 ?_
        refine g_ldc2 (pc := 2844) C LCL_310 dL_law_2844 ?_
        refine g_land (pc := 2847) C dL_law_2847 ?_
        refine g_lor (pc := 2848) C dL_law_2848 ?_
        obtain ⟨k792, h⟩ := h
        refine miL_315 (pc := 2849) C k792 h (Nat.le_of_ble_eq_true rfl) (Nat.le_of_ble_eq_true rfl) hb787 dL_law_2849 (fun r793 w794 h => ?_)
        refine g_lstore (pc := 2852) C dL_law_2852 (Nat.le_of_ble_eq_true rfl) (lo' := [(6, .long r793), (5, .int r785), (0, .ref b0), (1, .ref (adr x a1)), (2, .ref (adr x a2)), (3, .ref (adr x a3)), (4, .int a4)]) rfl ?_
        refine g_aload_n (pc := 2854) C dL_law_2854 (q := 4) rfl ?_
        obtain ⟨k795, h⟩ := h
        refine miL_159 (pc := 2855) C k795 h (Nat.le_of_ble_eq_true rfl) (Nat.le_of_ble_eq_true rfl) hb787 dL_law_2855 (fun r796 w797 h => ?_)
        refine g_iload (pc := 2858) C dL_law_2858 (q := 1) rfl ?_
        refine g_icmp_eq (pc := 2860) C dL_law_2860 (tgt := 2865) rfl (fun z798 => ?_) (fun z798 => ?_)
        · replace h := h.1 z798
          refine g_iload (pc := 2865) C dL_law_2865 (q := 1) rfl ?_
          refine g_if_ne (pc := 2867) C dL_law_2867 (tgt := 2881) rfl (fun z799 => ?_) (fun z799 => ?_)
          · replace h := h.2 z799
            refine g_goto (pc := 2881) C dL_law_2881 (tgt := 3049) rfl ?_
            refine g_iinc (pc := 3049) C dL_law_3049 (q := 6) rfl (v2 := a4 + 6) rfl (Nat.le_of_ble_eq_true rfl) (lo' := [(4, .int (a4 + 6)), (6, .long r793), (5, .int r785), (0, .ref b0), (1, .ref (adr x a1)), (2, .ref (adr x a2)), (3, .ref (adr x a3))]) rfl ?_
            refine g_goto (pc := 3052) C dL_law_3052 (tgt := 23) rfl ?_
            refine g_sub [3, 4, 5, 6, 0] rfl ?_
            exact ih _ _ _ _ _ _ _ hb787 h
          · replace h := h.1 z799
            refine g_aload_n (pc := 2870) C dL_law_2870 (q := 5) rfl ?_
            refine g_iconst (pc := 2871) C dL_law_2871 (v := 0) rfl ?_
            obtain ⟨k800, h⟩ := h
            obtain ⟨k801, h⟩ := h
            refine g_lald (pc := 2872) C k800 k801 dL_law_2872 ?_
            refine g_lload (pc := 2873) C dL_law_2873 (q := 0) rfl ?_
            refine g_lcmp (pc := 2875) C dL_law_2875 ?_
            refine g_if_eq (pc := 2876) C dL_law_2876 (tgt := 2881) rfl (fun z802 => ?_) (fun z802 => ?_)
            · replace h := h.1 z802
              refine g_goto (pc := 2881) C dL_law_2881 (tgt := 3049) rfl ?_
              refine g_iinc (pc := 3049) C dL_law_3049 (q := 6) rfl (v2 := a4 + 6) rfl (Nat.le_of_ble_eq_true rfl) (lo' := [(4, .int (a4 + 6)), (6, .long r793), (5, .int r785), (0, .ref b0), (1, .ref (adr x a1)), (2, .ref (adr x a2)), (3, .ref (adr x a3))]) rfl ?_
              refine g_goto (pc := 3052) C dL_law_3052 (tgt := 23) rfl ?_
              refine g_sub [3, 4, 5, 6, 0] rfl ?_
              exact ih _ _ _ _ _ _ _ hb787 h
            · replace h := h.2 z802
              refine g_iconst (pc := 2879) C dL_law_2879 (v := 0) rfl ?_
              exact g_lawend (pc := 2880) C hlk hr hb787.1 hb787.2 dL_law_2880 (hK1 _ _ h) hmc
        · replace h := h.2 z798
          refine g_iconst (pc := 2863) C dL_law_2863 (v := 0) rfl ?_
          exact g_lawend (pc := 2864) C hlk hr hb787.1 hb787.2 dL_law_2864 (hK1 _ _ h) hmc
      replace h := h.2 z70
      by_cases z71 : (sc a4.toNatClampNeg) &&& 63 = 47
      · replace h := h.1 z71
        refine g_tabIn (pc := 40) C dL_law_40 (by rw [z71]; decide) (by rw [z71]; decide) (off := 2844) (by rw [z71]; rfl) (tgt := 2884) rfl ?_
        refine g_aload_n (pc := 2884) C dL_law_2884 (q := 1) rfl ?_
        refine g_aload_n (pc := 2885) C dL_law_2885 (q := 0) rfl ?_
        refine g_iload (pc := 2886) C dL_law_2886 (q := 4) rfl ?_
        refine g_iconst (pc := 2888) C dL_law_2888 (v := 1) rfl ?_
        refine g_iadd (pc := 2889) C dL_law_2889 ?_
        obtain ⟨k803, h⟩ := h
        refine g_sld (pc := 2890) C hX hbl hbA k803 dL_law_2890 ?_
        refine g_aload_n (pc := 2891) C dL_law_2891 (q := 0) rfl ?_
        refine g_iload (pc := 2892) C dL_law_2892 (q := 4) rfl ?_
        refine g_iconst (pc := 2894) C dL_law_2894 (v := 2) rfl ?_
        refine g_iadd (pc := 2895) C dL_law_2895 ?_
        obtain ⟨k804, h⟩ := h
        refine g_sld (pc := 2896) C hX hbl hbA k804 dL_law_2896 ?_
        refine g_aload_n (pc := 2897) C dL_law_2897 (q := 3) rfl ?_
        obtain ⟨hb807, h⟩ := h
        refine maL_316 (pc := 2898) C hl h (Nat.le_of_ble_eq_true rfl) (Nat.le_of_ble_eq_true rfl) hb807 dL_law_2898 (fun r805 w806 h => ?_)
        refine g_istore (pc := 2901) C dL_law_2901 (Nat.le_of_ble_eq_true rfl) (lo' := [(5, .int r805), (0, .ref b0), (1, .ref (adr x a1)), (2, .ref (adr x a2)), (3, .ref (adr x a3)), (4, .int a4)]) rfl ?_
        refine g_aload_n (pc := 2903) C dL_law_2903 (q := 3) rfl ?_
        refine g_aload_n (pc := 2904) C dL_law_2904 (q := 1) rfl ?_
        refine g_iload (pc := 2905) C dL_law_2905 (q := 5) rfl ?_
        refine g_iconst (pc := 2907) C dL_law_2907 (v := 1) rfl ?_
        refine g_iadd (pc := 2908) C dL_law_2908 ?_
        obtain ⟨k808, h⟩ := h
        refine g_sld (pc := 2909) C hX hbl hbA k808 dL_law_2909 ?_
        refine g_aload_n (pc := 2910) C dL_law_2910 (q := 1) rfl ?_
        refine g_iload (pc := 2911) C dL_law_2911 (q := 5) rfl ?_
        refine g_iconst (pc := 2913) C dL_law_2913 (v := 2) rfl ?_
        refine g_iadd (pc := 2914) C dL_law_2914 ?_
        obtain ⟨k809, h⟩ := h
        refine g_sld (pc := 2915) C hX hbl hbA k809 dL_law_2915 ?_
        obtain ⟨k810, h⟩ := h
        refine miL_318 (pc := 2916) C k810 h (Nat.le_of_ble_eq_true rfl) (Nat.le_of_ble_eq_true rfl) hb807 dL_law_2916 (fun r811 w812 h => ?_)
        refine g_istore (pc := 2919) C dL_law_2919 (Nat.le_of_ble_eq_true rfl) (lo' := [(6, .int r811), (5, .int r805), (0, .ref b0), (1, .ref (adr x a1)), (2, .ref (adr x a2)), (3, .ref (adr x a3)), (4, .int a4)]) rfl ?_
        refine g_aload_n (pc := 2921) C dL_law_2921 (q := 4) rfl ?_
        obtain ⟨k813, h⟩ := h
        refine miL_159 (pc := 2922) C k813 h (Nat.le_of_ble_eq_true rfl) (Nat.le_of_ble_eq_true rfl) hb807 dL_law_2922 (fun r814 w815 h => ?_)
        refine g_iload (pc := 2925) C dL_law_2925 (q := 1) rfl ?_
        refine g_icmp_eq (pc := 2927) C dL_law_2927 (tgt := 2932) rfl (fun z816 => ?_) (fun z816 => ?_)
        · replace h := h.1 z816
          refine g_iload (pc := 2932) C dL_law_2932 (q := 1) rfl ?_
          refine g_if_ne (pc := 2934) C dL_law_2934 (tgt := 2949) rfl (fun z817 => ?_) (fun z817 => ?_)
          · replace h := h.2 z817
            refine g_goto (pc := 2949) C dL_law_2949 (tgt := 3049) rfl ?_
            refine g_iinc (pc := 3049) C dL_law_3049 (q := 6) rfl (v2 := a4 + 6) rfl (Nat.le_of_ble_eq_true rfl) (lo' := [(4, .int (a4 + 6)), (6, .int r811), (5, .int r805), (0, .ref b0), (1, .ref (adr x a1)), (2, .ref (adr x a2)), (3, .ref (adr x a3))]) rfl ?_
            refine g_goto (pc := 3052) C dL_law_3052 (tgt := 23) rfl ?_
            refine g_sub [3, 4, 5, 6, 0] rfl ?_
            exact ih _ _ _ _ _ _ _ hb807 h
          · replace h := h.1 z817
            refine g_aload_n (pc := 2937) C dL_law_2937 (q := 5) rfl ?_
            refine g_iconst (pc := 2938) C dL_law_2938 (v := 0) rfl ?_
            obtain ⟨k818, h⟩ := h
            obtain ⟨k819, h⟩ := h
            refine g_lald (pc := 2939) C k818 k819 dL_law_2939 ?_
            refine g_iload (pc := 2940) C dL_law_2940 (q := 0) rfl ?_
            refine g_i2l (pc := 2942) C dL_law_2942 ?_
            refine g_lcmp (pc := 2943) C dL_law_2943 ?_
            refine g_if_eq (pc := 2944) C dL_law_2944 (tgt := 2949) rfl (fun z820 => ?_) (fun z820 => ?_)
            · replace h := h.1 z820
              refine g_goto (pc := 2949) C dL_law_2949 (tgt := 3049) rfl ?_
              refine g_iinc (pc := 3049) C dL_law_3049 (q := 6) rfl (v2 := a4 + 6) rfl (Nat.le_of_ble_eq_true rfl) (lo' := [(4, .int (a4 + 6)), (6, .int r811), (5, .int r805), (0, .ref b0), (1, .ref (adr x a1)), (2, .ref (adr x a2)), (3, .ref (adr x a3))]) rfl ?_
              refine g_goto (pc := 3052) C dL_law_3052 (tgt := 23) rfl ?_
              refine g_sub [3, 4, 5, 6, 0] rfl ?_
              exact ih _ _ _ _ _ _ _ hb807 h
            · replace h := h.2 z820
              refine g_iconst (pc := 2947) C dL_law_2947 (v := 0) rfl ?_
              exact g_lawend (pc := 2948) C hlk hr hb807.1 hb807.2 dL_law_2948 (hK1 _ _ h) hmc
        · replace h := h.2 z816
          refine g_iconst (pc := 2930) C dL_law_2930 (v := 0) rfl ?_
          exact g_lawend (pc := 2931) C hlk hr hb807.1 hb807.2 dL_law_2931 (hK1 _ _ h) hmc
      replace h := h.2 z71
      by_cases z72 : (sc a4.toNatClampNeg) &&& 63 = 48
      · replace h := h.1 z72
        refine g_tabIn (pc := 40) C dL_law_40 (by rw [z72]; decide) (by rw [z72]; decide) (off := 2912) (by rw [z72]; rfl) (tgt := 2952) rfl ?_
        refine g_aload_n (pc := 2952) C dL_law_2952 (q := 1) rfl ?_
        refine g_aload_n (pc := 2953) C dL_law_2953 (q := 0) rfl ?_
        refine g_iload (pc := 2954) C dL_law_2954 (q := 4) rfl ?_
        refine g_iconst (pc := 2956) C dL_law_2956 (v := 1) rfl ?_
        refine g_iadd (pc := 2957) C dL_law_2957 ?_
        obtain ⟨k821, h⟩ := h
        refine g_sld (pc := 2958) C hX hbl hbA k821 dL_law_2958 ?_
        obtain ⟨hb824, h⟩ := h
        refine maL_319 (pc := 2959) C hl h (Nat.le_of_ble_eq_true rfl) (Nat.le_of_ble_eq_true rfl) hb824 dL_law_2959 (fun r822 w823 h => ?_)
        refine g_istore (pc := 2962) C dL_law_2962 (Nat.le_of_ble_eq_true rfl) (lo' := [(5, .int r822), (0, .ref b0), (1, .ref (adr x a1)), (2, .ref (adr x a2)), (3, .ref (adr x a3)), (4, .int a4)]) rfl ?_
        refine g_aload_n (pc := 2964) C dL_law_2964 (q := 3) rfl ?_
        refine g_aload_n (pc := 2965) C dL_law_2965 (q := 1) rfl ?_
        refine g_iload (pc := 2966) C dL_law_2966 (q := 5) rfl ?_
        refine g_iconst (pc := 2968) C dL_law_2968 (v := 1) rfl ?_
        refine g_iadd (pc := 2969) C dL_law_2969 ?_
        obtain ⟨k825, h⟩ := h
        refine g_sld (pc := 2970) C hX hbl hbA k825 dL_law_2970 ?_
        obtain ⟨k826, h⟩ := h
        refine miL_322 (pc := 2971) C k826 h (Nat.le_of_ble_eq_true rfl) (Nat.le_of_ble_eq_true rfl) hb824 dL_law_2971 (fun w827 h => ?_)
        refine g_aload_n (pc := 2974) C dL_law_2974 (q := 3) rfl ?_
        obtain ⟨k828, h⟩ := h
        refine miL_159 (pc := 2975) C k828 h (Nat.le_of_ble_eq_true rfl) (Nat.le_of_ble_eq_true rfl) hb824 dL_law_2975 (fun r829 w830 h => ?_)
        refine g_iload (pc := 2978) C dL_law_2978 (q := 0) rfl ?_
        refine g_icmp_eq (pc := 2980) C dL_law_2980 (tgt := 2985) rfl (fun z831 => ?_) (fun z831 => ?_)
        · replace h := h.1 z831
          refine g_goto (pc := 2985) C dL_law_2985 (tgt := 3049) rfl ?_
          refine g_iinc (pc := 3049) C dL_law_3049 (q := 5) rfl (v2 := a4 + 6) rfl (Nat.le_of_ble_eq_true rfl) (lo' := [(4, .int (a4 + 6)), (5, .int r822), (0, .ref b0), (1, .ref (adr x a1)), (2, .ref (adr x a2)), (3, .ref (adr x a3))]) rfl ?_
          refine g_goto (pc := 3052) C dL_law_3052 (tgt := 23) rfl ?_
          refine g_sub [2, 3, 4, 5, 0] rfl ?_
          exact ih _ _ _ _ _ _ _ hb824 h
        · replace h := h.2 z831
          refine g_iconst (pc := 2983) C dL_law_2983 (v := 0) rfl ?_
          exact g_lawend (pc := 2984) C hlk hr hb824.1 hb824.2 dL_law_2984 (hK1 _ _ h) hmc
      replace h := h.2 z72
      by_cases z73 : (sc a4.toNatClampNeg) &&& 63 = 49
      · replace h := h.1 z73
        refine g_tabIn (pc := 40) C dL_law_40 (by rw [z73]; decide) (by rw [z73]; decide) (off := 2948) (by rw [z73]; rfl) (tgt := 2988) rfl ?_
        refine g_aload_n (pc := 2988) C dL_law_2988 (q := 1) rfl ?_
        refine g_aload_n (pc := 2989) C dL_law_2989 (q := 0) rfl ?_
        refine g_iload (pc := 2990) C dL_law_2990 (q := 4) rfl ?_
        refine g_iconst (pc := 2992) C dL_law_2992 (v := 1) rfl ?_
        refine g_iadd (pc := 2993) C dL_law_2993 ?_
        obtain ⟨k832, h⟩ := h
        refine g_sld (pc := 2994) C hX hbl hbA k832 dL_law_2994 ?_
        obtain ⟨hb835, h⟩ := h
        refine maL_323 (pc := 2995) C hl h (Nat.le_of_ble_eq_true rfl) (Nat.le_of_ble_eq_true rfl) hb835 dL_law_2995 (fun r833 w834 h => ?_)
        refine g_istore (pc := 2998) C dL_law_2998 (Nat.le_of_ble_eq_true rfl) (lo' := [(5, .int r833), (0, .ref b0), (1, .ref (adr x a1)), (2, .ref (adr x a2)), (3, .ref (adr x a3)), (4, .int a4)]) rfl ?_
        refine g_aload_n (pc := 3000) C dL_law_3000 (q := 3) rfl ?_
        refine g_aload_n (pc := 3001) C dL_law_3001 (q := 1) rfl ?_
        refine g_iload (pc := 3002) C dL_law_3002 (q := 5) rfl ?_
        refine g_iconst (pc := 3004) C dL_law_3004 (v := 1) rfl ?_
        refine g_iadd (pc := 3005) C dL_law_3005 ?_
        obtain ⟨k836, h⟩ := h
        refine g_sld (pc := 3006) C hX hbl hbA k836 dL_law_3006 ?_
        obtain ⟨k837, h⟩ := h
        refine miL_325 (pc := 3007) C k837 h (Nat.le_of_ble_eq_true rfl) (Nat.le_of_ble_eq_true rfl) hb835 dL_law_3007 (fun w838 h => ?_)
        refine g_aload_n (pc := 3010) C dL_law_3010 (q := 3) rfl ?_
        obtain ⟨k839, h⟩ := h
        refine miL_159 (pc := 3011) C k839 h (Nat.le_of_ble_eq_true rfl) (Nat.le_of_ble_eq_true rfl) hb835 dL_law_3011 (fun r840 w841 h => ?_)
        refine g_iload (pc := 3014) C dL_law_3014 (q := 0) rfl ?_
        refine g_icmp_eq (pc := 3016) C dL_law_3016 (tgt := 3021) rfl (fun z842 => ?_) (fun z842 => ?_)
        · replace h := h.1 z842
          refine g_goto (pc := 3021) C dL_law_3021 (tgt := 3049) rfl ?_
          refine g_iinc (pc := 3049) C dL_law_3049 (q := 5) rfl (v2 := a4 + 6) rfl (Nat.le_of_ble_eq_true rfl) (lo' := [(4, .int (a4 + 6)), (5, .int r833), (0, .ref b0), (1, .ref (adr x a1)), (2, .ref (adr x a2)), (3, .ref (adr x a3))]) rfl ?_
          refine g_goto (pc := 3052) C dL_law_3052 (tgt := 23) rfl ?_
          refine g_sub [2, 3, 4, 5, 0] rfl ?_
          exact ih _ _ _ _ _ _ _ hb835 h
        · replace h := h.2 z842
          refine g_iconst (pc := 3019) C dL_law_3019 (v := 0) rfl ?_
          exact g_lawend (pc := 3020) C hlk hr hb835.1 hb835.2 dL_law_3020 (hK1 _ _ h) hmc
      replace h := h.2 z73
      by_cases z74 : (sc a4.toNatClampNeg) &&& 63 = 50
      · replace h := h.1 z74
        refine g_tabIn (pc := 40) C dL_law_40 (by rw [z74]; decide) (by rw [z74]; decide) (off := 2984) (by rw [z74]; rfl) (tgt := 3024) rfl ?_
        refine g_aload_n (pc := 3024) C dL_law_3024 (q := 1) rfl ?_
        refine g_aload_n (pc := 3025) C dL_law_3025 (q := 0) rfl ?_
        refine g_iload (pc := 3026) C dL_law_3026 (q := 4) rfl ?_
        refine g_iconst (pc := 3028) C dL_law_3028 (v := 1) rfl ?_
        refine g_iadd (pc := 3029) C dL_law_3029 ?_
        obtain ⟨k843, h⟩ := h
        refine g_sld (pc := 3030) C hX hbl hbA k843 dL_law_3030 ?_
        obtain ⟨k844, h⟩ := h
        refine miL_326 (pc := 3031) C k844 h (Nat.le_of_ble_eq_true rfl) (Nat.le_of_ble_eq_true rfl) hb dL_law_3031 (fun r845 w846 h => ?_)
        refine g_aload_n (pc := 3034) C dL_law_3034 (q := 2) rfl ?_
        refine g_aload_n (pc := 3035) C dL_law_3035 (q := 0) rfl ?_
        refine g_iload (pc := 3036) C dL_law_3036 (q := 4) rfl ?_
        refine g_iconst (pc := 3038) C dL_law_3038 (v := 1) rfl ?_
        refine g_iadd (pc := 3039) C dL_law_3039 ?_
        obtain ⟨k847, h⟩ := h
        refine g_sld (pc := 3040) C hX hbl hbA k847 dL_law_3040 ?_
        obtain ⟨k848, h⟩ := h
        refine miL_329 (pc := 3041) C k848 h (Nat.le_of_ble_eq_true rfl) (Nat.le_of_ble_eq_true rfl) hb dL_law_3041 (fun r849 w850 h => ?_)
        refine g_icmp_eq (pc := 3044) C dL_law_3044 (tgt := 3049) rfl (fun z851 => ?_) (fun z851 => ?_)
        · replace h := h.1 z851
          refine g_iinc (pc := 3049) C dL_law_3049 (q := 4) rfl (v2 := a4 + 6) rfl (Nat.le_of_ble_eq_true rfl) (lo' := [(4, .int (a4 + 6)), (0, .ref b0), (1, .ref (adr x a1)), (2, .ref (adr x a2)), (3, .ref (adr x a3))]) rfl ?_
          refine g_goto (pc := 3052) C dL_law_3052 (tgt := 23) rfl ?_
          refine g_sub [1, 2, 3, 4, 0] rfl ?_
          exact ih _ _ _ _ _ _ _ hb h
        · replace h := h.2 z851
          refine g_iconst (pc := 3047) C dL_law_3047 (v := 0) rfl ?_
          exact g_lawend (pc := 3048) C hlk hr hb.1 hb.2 dL_law_3048 (hK1 _ _ h) hmc
      replace h := h.2 z74
      have y852 := ne_toInt (n := 0) z24 (by decide)
      have y853 := ne_toInt (n := 1) z25 (by decide)
      have y854 := ne_toInt (n := 2) z26 (by decide)
      have y855 := ne_toInt (n := 3) z27 (by decide)
      have y856 := ne_toInt (n := 4) z28 (by decide)
      have y857 := ne_toInt (n := 5) z29 (by decide)
      have y858 := ne_toInt (n := 6) z30 (by decide)
      have y859 := ne_toInt (n := 7) z31 (by decide)
      have y860 := ne_toInt (n := 8) z32 (by decide)
      have y861 := ne_toInt (n := 9) z33 (by decide)
      have y862 := ne_toInt (n := 10) z34 (by decide)
      have y863 := ne_toInt (n := 11) z35 (by decide)
      have y864 := ne_toInt (n := 12) z36 (by decide)
      have y865 := ne_toInt (n := 13) z37 (by decide)
      have y866 := ne_toInt (n := 14) z38 (by decide)
      have y867 := ne_toInt (n := 15) z39 (by decide)
      have y868 := ne_toInt (n := 16) z40 (by decide)
      have y869 := ne_toInt (n := 17) z41 (by decide)
      have y870 := ne_toInt (n := 18) z42 (by decide)
      have y871 := ne_toInt (n := 19) z43 (by decide)
      have y872 := ne_toInt (n := 20) z44 (by decide)
      have y873 := ne_toInt (n := 21) z45 (by decide)
      have y874 := ne_toInt (n := 22) z46 (by decide)
      have y875 := ne_toInt (n := 23) z47 (by decide)
      have y876 := ne_toInt (n := 24) z48 (by decide)
      have y877 := ne_toInt (n := 25) z49 (by decide)
      have y878 := ne_toInt (n := 26) z50 (by decide)
      have y879 := ne_toInt (n := 27) z51 (by decide)
      have y880 := ne_toInt (n := 28) z52 (by decide)
      have y881 := ne_toInt (n := 29) z53 (by decide)
      have y882 := ne_toInt (n := 30) z54 (by decide)
      have y883 := ne_toInt (n := 31) z55 (by decide)
      have y884 := ne_toInt (n := 32) z56 (by decide)
      have y885 := ne_toInt (n := 33) z57 (by decide)
      have y886 := ne_toInt (n := 34) z58 (by decide)
      have y887 := ne_toInt (n := 35) z59 (by decide)
      have y888 := ne_toInt (n := 36) z60 (by decide)
      have y889 := ne_toInt (n := 37) z61 (by decide)
      have y890 := ne_toInt (n := 38) z62 (by decide)
      have y891 := ne_toInt (n := 39) z63 (by decide)
      have y892 := ne_toInt (n := 40) z64 (by decide)
      have y893 := ne_toInt (n := 41) z65 (by decide)
      have y894 := ne_toInt (n := 42) z66 (by decide)
      have y895 := ne_toInt (n := 43) z67 (by decide)
      have y896 := ne_toInt (n := 44) z68 (by decide)
      have y897 := ne_toInt (n := 45) z69 (by decide)
      have y898 := ne_toInt (n := 46) z70 (by decide)
      have y899 := ne_toInt (n := 47) z71 (by decide)
      have y900 := ne_toInt (n := 48) z72 (by decide)
      have y901 := ne_toInt (n := 49) z73 (by decide)
      have y902 := ne_toInt (n := 50) z74 (by decide)
      refine g_tabOut (pc := 40) C dL_law_40 (by omega) (tgt := 3049) rfl ?_
      refine g_iinc (pc := 3049) C dL_law_3049 (q := 4) rfl (v2 := a4 + 6) rfl (Nat.le_of_ble_eq_true rfl) (lo' := [(4, .int (a4 + 6)), (0, .ref b0), (1, .ref (adr x a1)), (2, .ref (adr x a2)), (3, .ref (adr x a3))]) rfl ?_
      refine g_goto (pc := 3052) C dL_law_3052 (tgt := 23) rfl ?_
      refine g_sub [1, 2, 3, 4, 0] rfl ?_
      exact ih _ _ _ _ _ _ _ hb h
theorem t_L_law {b0 : Nat} (C : xC x p s m c cL_law 8 args RL) (hlk : meth.locks = false) (hr : meth.sig.returnType = ret) (hl : l.stackTraces = false) {n0 : Nat} {sc : Nat → Int32} {mc ms : Nat} (hX : va_X b0 n0 sc s s.heap) (hbl : b0 < s.heap.size) (hbA : ¬ xA x b0) (hmc : mc ≤ 601024 ∧ ms ≤ 7293034 ∧ args = #[Value.ref b0] ∧ x.2.2.1 = s.heap.size) {K : Int32 → Wd → Prop} (hK1 : ∀ r w, K r w → r = 1) (w : Wd) (h : w_L_law n0 sc mc ms K w) : GW x p l e (rmd 1312 mc ms) s m args below meth c 8 (lw_Z below args s) 0 [(0, .ref b0)] [] w 0 0 := by
  obtain ⟨hb1, h⟩ := h
  refine nwL_8 (pc := 0) C hb1 dL_law_0 (fun r2 w3 e4 e5 => ?_)
  replace h := h r2 w3 e4 e5
  refine g_dup (pc := 3) C dL_law_3 rfl ?_
  obtain ⟨c8, s9, hb7, h⟩ := h
  refine maL_144 (pc := 4) C h (Nat.le_of_ble_eq_true rfl) (Nat.le_of_ble_eq_true rfl) hb7 dL_law_4 (fun w6 h => ?_)
  refine g_astore_n (pc := 7) C dL_law_7 (Nat.le_of_ble_eq_true rfl) (lo' := [(1, .ref (adr x r2)), (0, .ref b0)]) rfl ?_
  obtain ⟨hb10, h⟩ := h
  refine nwL_145 (pc := 8) C hb10 dL_law_8 (fun r11 w12 e13 e14 => ?_)
  replace h := h r11 w12 e13 e14
  refine g_dup (pc := 11) C dL_law_11 rfl ?_
  obtain ⟨hb16, h⟩ := h
  refine maL_147 (pc := 12) C h (Nat.le_of_ble_eq_true rfl) (Nat.le_of_ble_eq_true rfl) hb16 dL_law_12 (fun w15 h => ?_)
  refine g_astore_n (pc := 15) C dL_law_15 (Nat.le_of_ble_eq_true rfl) (lo' := [(2, .ref (adr x r11)), (1, .ref (adr x r2)), (0, .ref b0)]) rfl ?_
  refine g_iconst (pc := 16) C dL_law_16 (v := 1) rfl ?_
  obtain ⟨hb17, h⟩ := h
  refine g_newL (pc := 17) C (n := 1) rfl LAlong (by decide) (Nat.le_of_ble_eq_true rfl) hb17 dL_law_17 (fun r18 w19 e20 e21 => ?_)
  replace h := h r18 w19 e20 e21
  refine g_astore_n (pc := 19) C dL_law_19 (Nat.le_of_ble_eq_true rfl) (lo' := [(3, .ref (adr x r18)), (2, .ref (adr x r11)), (1, .ref (adr x r2)), (0, .ref b0)]) rfl ?_
  refine g_iconst (pc := 20) C dL_law_20 (v := 0) rfl ?_
  refine g_istore (pc := 21) C dL_law_21 (Nat.le_of_ble_eq_true rfl) (lo' := [(4, .int 0), (3, .ref (adr x r18)), (2, .ref (adr x r11)), (1, .ref (adr x r2)), (0, .ref b0)]) rfl ?_
  obtain ⟨n903, h⟩ := h
  refine g_sub [4, 3, 2, 1, 0] rfl ?_
  refine t_L_law_23 C hlk hr hl hX hbl hbA hmc hK1 n903 _ _ _ _ _ _ _ hb17 h
end LA
